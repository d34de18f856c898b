/-! FROM THE CONSTRUCTORS TO THE LAW'S LOOP -/
def Gst (g1 g5 : GS) : GS := fun c => if c = 1 ∨ c = 8 ∨ c = 9 ∨ (32 ≤ c ∧ c < 38) then g1 c else if c = 5 ∨ (16 ≤ c ∧ c < 20) then g5 c else if c = 45 then (fun k => if k = 0 then 11 else if k = 1 ∨ k = 2 ∨ k = 6 then 1 else if k = 7 then 2 else 0) else fun _ => 0
def Bst (b5 : BS) : BS := fun c => if c = 5 ∨ (16 ≤ c ∧ c < 20) then b5 c else fun _ => 0
def adF (h0 hm : Nat) (u v : Nat → Nat) : Nat → Nat := fun c =>
  if c < 20 then (match c with | 0 => h0 | 1 => u 0 | 2 => u 3 | 3 => u 8 | 4 => u 10 | 5 => u 12 | 6 => u 17 | 7 => u 18 | 8 => u 1 | 9 => u 2 | 10 => u 4 | 11 => u 5 | 12 => u 6 | 13 => u 7 | 14 => u 9 | 15 => u 11 | 16 => u 13 | 17 => u 14 | 18 => u 15 | _ => u 16)
  else if c < 26 then u 17 + 1 + (c - 20) else if c < 32 then u 18 + 1 + (c - 26) else if c < 38 then u 1 + 1 + (c - 32) else if c < 45 then u 4 + 1 + (c - 38) else if c = 45 then hm else v (c - 46)
def wF (w : WE) (h0 hm : Nat) (u v : Nat → Nat) : WE := (adF h0 hm u v, w.2)
def plF : List Nat := [0, 1, 10, 22, 24, 26, 31, 38, 2, 9, 11, 19, 20, 21, 23, 25, 27, 28, 29, 30, 32, 33, 34, 35, 36, 37, 39, 40, 41, 42, 43, 44, 3, 4, 5, 6, 7, 8, 12, 13, 14, 15, 16, 17, 18, 45, 46, 47, 48, 49, 50, 51, 52, 53, 54, 55]
abbrev lsF (w : WE) (h0 hm : Nat) (u v : Nat → Nat) (g1 g5 : GS) (b5 : BS) : va_W := fewL w h0 u g1 g5 b5 ++ modL w hm v
theorem outF_6 (h0 hm : Nat) (u v : Nat → Nat) : (fun i => if i < 6 then some (adF h0 hm u v (20 + i)) else none) = outF (u 17) 6 := funext (fun i => by
  unfold outF
  by_cases h : i < 6
  · rw [if_pos h, if_pos h]
    have e : adF h0 hm u v (20 + i) = u 17 + 1 + i := by
      unfold adF
      rw [if_neg (by omega), if_pos (by omega)]
      omega
    rw [e]
  · rw [if_neg h, if_neg h])
theorem outF_7 (h0 hm : Nat) (u v : Nat → Nat) : (fun i => if i < 6 then some (adF h0 hm u v (26 + i)) else none) = outF (u 18) 6 := funext (fun i => by
  unfold outF
  by_cases h : i < 6
  · rw [if_pos h, if_pos h]
    have e : adF h0 hm u v (26 + i) = u 18 + 1 + i := by
      unfold adF
      rw [if_neg (by omega), if_neg (by omega), if_pos (by omega)]
      omega
    rw [e]
  · rw [if_neg h, if_neg h])
theorem outF_8 (h0 hm : Nat) (u v : Nat → Nat) : (fun i => if i < 6 then some (adF h0 hm u v (32 + i)) else none) = outF (u 1) 6 := funext (fun i => by
  unfold outF
  by_cases h : i < 6
  · rw [if_pos h, if_pos h]
    have e : adF h0 hm u v (32 + i) = u 1 + 1 + i := by
      unfold adF
      rw [if_neg (by omega), if_neg (by omega), if_neg (by omega), if_pos (by omega)]
      omega
    rw [e]
  · rw [if_neg h, if_neg h])
theorem outF_10 (h0 hm : Nat) (u v : Nat → Nat) : (fun i => if i < 7 then some (adF h0 hm u v (38 + i)) else none) = outF (u 4) 7 := funext (fun i => by
  unfold outF
  by_cases h : i < 7
  · rw [if_pos h, if_pos h]
    have e : adF h0 hm u v (38 + i) = u 4 + 1 + i := by
      unfold adF
      rw [if_neg (by omega), if_neg (by omega), if_neg (by omega), if_neg (by omega), if_pos (by omega)]
      omega
    rw [e]
  · rw [if_neg h, if_neg h])
theorem adT_32 (h0 q1 q2 : Nat) : (fun i => if i < 6 then some (adT h0 q1 q2 (32 + i)) else none) = outF q1 6 := funext (fun i => by
  unfold outF adT
  by_cases h : i < 6
  · rw [if_pos h, if_pos h, if_neg (by omega), if_neg (by omega), if_neg (by omega), Nat.add_sub_cancel_left]
  · rw [if_neg h, if_neg h])
theorem pF_0 (w : WE) (h0 hm : Nat) (u v : Nat → Nat) (g1 g5 : GS) (b5 : BS) : (lsF w h0 hm u v g1 g5 b5)[0]? = some ((wF w h0 hm u v).1 0, lay (wF w h0 hm u v) 0 (Gst g1 g5 0) (Bst b5 0)) := rfl
theorem pF_1 (w : WE) (h0 hm : Nat) (u v : Nat → Nat) (g1 g5 : GS) (b5 : BS) : (lsF w h0 hm u v g1 g5 b5)[1]? = some ((wF w h0 hm u v).1 1, lay (wF w h0 hm u v) 1 (Gst g1 g5 1) (Bst b5 1)) := rfl
theorem pF_2 (w : WE) (h0 hm : Nat) (u v : Nat → Nat) (g1 g5 : GS) (b5 : BS) : (lsF w h0 hm u v g1 g5 b5)[10]? = some ((wF w h0 hm u v).1 2, lay (wF w h0 hm u v) 2 (Gst g1 g5 2) (Bst b5 2)) := rfl
theorem pF_3 (w : WE) (h0 hm : Nat) (u v : Nat → Nat) (g1 g5 : GS) (b5 : BS) : (lsF w h0 hm u v g1 g5 b5)[22]? = some ((wF w h0 hm u v).1 3, lay (wF w h0 hm u v) 3 (Gst g1 g5 3) (Bst b5 3)) := rfl
theorem pF_4 (w : WE) (h0 hm : Nat) (u v : Nat → Nat) (g1 g5 : GS) (b5 : BS) : (lsF w h0 hm u v g1 g5 b5)[24]? = some ((wF w h0 hm u v).1 4, lay (wF w h0 hm u v) 4 (Gst g1 g5 4) (Bst b5 4)) := rfl
theorem pF_5 (w : WE) (h0 hm : Nat) (u v : Nat → Nat) (g1 g5 : GS) (b5 : BS) : (lsF w h0 hm u v g1 g5 b5)[26]? = some ((wF w h0 hm u v).1 5, lay (wF w h0 hm u v) 5 (Gst g1 g5 5) (Bst b5 5)) := rfl
theorem pF_6 (w : WE) (h0 hm : Nat) (u v : Nat → Nat) (g1 g5 : GS) (b5 : BS) : (lsF w h0 hm u v g1 g5 b5)[31]? = some ((wF w h0 hm u v).1 6, lay (wF w h0 hm u v) 6 (Gst g1 g5 6) (Bst b5 6)) := by
  show some (outC w (u 17) 6) = some (u 17, Sum.inl (w.2.1.2.2, 6, Sum.inr (Sum.inr (Sum.inr (Sum.inr (fun i => if i < 6 then some (adF h0 hm u v (20 + i)) else none))))))
  rw [outF_6]
theorem pF_7 (w : WE) (h0 hm : Nat) (u v : Nat → Nat) (g1 g5 : GS) (b5 : BS) : (lsF w h0 hm u v g1 g5 b5)[38]? = some ((wF w h0 hm u v).1 7, lay (wF w h0 hm u v) 7 (Gst g1 g5 7) (Bst b5 7)) := by
  show some (outC w (u 18) 6) = some (u 18, Sum.inl (w.2.1.2.2, 6, Sum.inr (Sum.inr (Sum.inr (Sum.inr (fun i => if i < 6 then some (adF h0 hm u v (26 + i)) else none))))))
  rw [outF_7]
theorem pF_8 (w : WE) (h0 hm : Nat) (u v : Nat → Nat) (g1 g5 : GS) (b5 : BS) : (lsF w h0 hm u v g1 g5 b5)[2]? = some ((wF w h0 hm u v).1 8, lay (wF w h0 hm u v) 8 (Gst g1 g5 8) (Bst b5 8)) := by
  show some (u 1, Sum.inl (w.2.1.2.2, 6, Sum.inr (Sum.inr (Sum.inr (Sum.inr (fun i => if i < 6 then some (adT (u 0) (u 1) (u 2) (32 + i)) else none)))))) = some (u 1, Sum.inl (w.2.1.2.2, 6, Sum.inr (Sum.inr (Sum.inr (Sum.inr (fun i => if i < 6 then some (adF h0 hm u v (32 + i)) else none))))))
  rw [outF_8, adT_32]
theorem pF_9 (w : WE) (h0 hm : Nat) (u v : Nat → Nat) (g1 g5 : GS) (b5 : BS) : (lsF w h0 hm u v g1 g5 b5)[9]? = some ((wF w h0 hm u v).1 9, lay (wF w h0 hm u v) 9 (Gst g1 g5 9) (Bst b5 9)) := rfl
theorem pF_10 (w : WE) (h0 hm : Nat) (u v : Nat → Nat) (g1 g5 : GS) (b5 : BS) : (lsF w h0 hm u v g1 g5 b5)[11]? = some ((wF w h0 hm u v).1 10, lay (wF w h0 hm u v) 10 (Gst g1 g5 10) (Bst b5 10)) := by
  show some (outC w (u 4) 7) = some (u 4, Sum.inl (w.2.1.2.2, 7, Sum.inr (Sum.inr (Sum.inr (Sum.inr (fun i => if i < 7 then some (adF h0 hm u v (38 + i)) else none))))))
  rw [outF_10]
theorem pF_11 (w : WE) (h0 hm : Nat) (u v : Nat → Nat) (g1 g5 : GS) (b5 : BS) : (lsF w h0 hm u v g1 g5 b5)[19]? = some ((wF w h0 hm u v).1 11, lay (wF w h0 hm u v) 11 (Gst g1 g5 11) (Bst b5 11)) := rfl
theorem pF_12 (w : WE) (h0 hm : Nat) (u v : Nat → Nat) (g1 g5 : GS) (b5 : BS) : (lsF w h0 hm u v g1 g5 b5)[20]? = some ((wF w h0 hm u v).1 12, lay (wF w h0 hm u v) 12 (Gst g1 g5 12) (Bst b5 12)) := rfl
theorem pF_13 (w : WE) (h0 hm : Nat) (u v : Nat → Nat) (g1 g5 : GS) (b5 : BS) : (lsF w h0 hm u v g1 g5 b5)[21]? = some ((wF w h0 hm u v).1 13, lay (wF w h0 hm u v) 13 (Gst g1 g5 13) (Bst b5 13)) := rfl
theorem pF_14 (w : WE) (h0 hm : Nat) (u v : Nat → Nat) (g1 g5 : GS) (b5 : BS) : (lsF w h0 hm u v g1 g5 b5)[23]? = some ((wF w h0 hm u v).1 14, lay (wF w h0 hm u v) 14 (Gst g1 g5 14) (Bst b5 14)) := rfl
theorem pF_15 (w : WE) (h0 hm : Nat) (u v : Nat → Nat) (g1 g5 : GS) (b5 : BS) : (lsF w h0 hm u v g1 g5 b5)[25]? = some ((wF w h0 hm u v).1 15, lay (wF w h0 hm u v) 15 (Gst g1 g5 15) (Bst b5 15)) := rfl
theorem pF_16 (w : WE) (h0 hm : Nat) (u v : Nat → Nat) (g1 g5 : GS) (b5 : BS) : (lsF w h0 hm u v g1 g5 b5)[27]? = some ((wF w h0 hm u v).1 16, lay (wF w h0 hm u v) 16 (Gst g1 g5 16) (Bst b5 16)) := rfl
theorem pF_17 (w : WE) (h0 hm : Nat) (u v : Nat → Nat) (g1 g5 : GS) (b5 : BS) : (lsF w h0 hm u v g1 g5 b5)[28]? = some ((wF w h0 hm u v).1 17, lay (wF w h0 hm u v) 17 (Gst g1 g5 17) (Bst b5 17)) := rfl
theorem pF_18 (w : WE) (h0 hm : Nat) (u v : Nat → Nat) (g1 g5 : GS) (b5 : BS) : (lsF w h0 hm u v g1 g5 b5)[29]? = some ((wF w h0 hm u v).1 18, lay (wF w h0 hm u v) 18 (Gst g1 g5 18) (Bst b5 18)) := rfl
theorem pF_19 (w : WE) (h0 hm : Nat) (u v : Nat → Nat) (g1 g5 : GS) (b5 : BS) : (lsF w h0 hm u v g1 g5 b5)[30]? = some ((wF w h0 hm u v).1 19, lay (wF w h0 hm u v) 19 (Gst g1 g5 19) (Bst b5 19)) := rfl
theorem pF_20 (w : WE) (h0 hm : Nat) (u v : Nat → Nat) (g1 g5 : GS) (b5 : BS) : (lsF w h0 hm u v g1 g5 b5)[32]? = some ((wF w h0 hm u v).1 20, lay (wF w h0 hm u v) 20 (Gst g1 g5 20) (Bst b5 20)) := rfl
theorem pF_21 (w : WE) (h0 hm : Nat) (u v : Nat → Nat) (g1 g5 : GS) (b5 : BS) : (lsF w h0 hm u v g1 g5 b5)[33]? = some ((wF w h0 hm u v).1 21, lay (wF w h0 hm u v) 21 (Gst g1 g5 21) (Bst b5 21)) := rfl
theorem pF_22 (w : WE) (h0 hm : Nat) (u v : Nat → Nat) (g1 g5 : GS) (b5 : BS) : (lsF w h0 hm u v g1 g5 b5)[34]? = some ((wF w h0 hm u v).1 22, lay (wF w h0 hm u v) 22 (Gst g1 g5 22) (Bst b5 22)) := rfl
theorem pF_23 (w : WE) (h0 hm : Nat) (u v : Nat → Nat) (g1 g5 : GS) (b5 : BS) : (lsF w h0 hm u v g1 g5 b5)[35]? = some ((wF w h0 hm u v).1 23, lay (wF w h0 hm u v) 23 (Gst g1 g5 23) (Bst b5 23)) := rfl
theorem pF_24 (w : WE) (h0 hm : Nat) (u v : Nat → Nat) (g1 g5 : GS) (b5 : BS) : (lsF w h0 hm u v g1 g5 b5)[36]? = some ((wF w h0 hm u v).1 24, lay (wF w h0 hm u v) 24 (Gst g1 g5 24) (Bst b5 24)) := rfl
theorem pF_25 (w : WE) (h0 hm : Nat) (u v : Nat → Nat) (g1 g5 : GS) (b5 : BS) : (lsF w h0 hm u v g1 g5 b5)[37]? = some ((wF w h0 hm u v).1 25, lay (wF w h0 hm u v) 25 (Gst g1 g5 25) (Bst b5 25)) := rfl
theorem pF_26 (w : WE) (h0 hm : Nat) (u v : Nat → Nat) (g1 g5 : GS) (b5 : BS) : (lsF w h0 hm u v g1 g5 b5)[39]? = some ((wF w h0 hm u v).1 26, lay (wF w h0 hm u v) 26 (Gst g1 g5 26) (Bst b5 26)) := rfl
theorem pF_27 (w : WE) (h0 hm : Nat) (u v : Nat → Nat) (g1 g5 : GS) (b5 : BS) : (lsF w h0 hm u v g1 g5 b5)[40]? = some ((wF w h0 hm u v).1 27, lay (wF w h0 hm u v) 27 (Gst g1 g5 27) (Bst b5 27)) := rfl
theorem pF_28 (w : WE) (h0 hm : Nat) (u v : Nat → Nat) (g1 g5 : GS) (b5 : BS) : (lsF w h0 hm u v g1 g5 b5)[41]? = some ((wF w h0 hm u v).1 28, lay (wF w h0 hm u v) 28 (Gst g1 g5 28) (Bst b5 28)) := rfl
theorem pF_29 (w : WE) (h0 hm : Nat) (u v : Nat → Nat) (g1 g5 : GS) (b5 : BS) : (lsF w h0 hm u v g1 g5 b5)[42]? = some ((wF w h0 hm u v).1 29, lay (wF w h0 hm u v) 29 (Gst g1 g5 29) (Bst b5 29)) := rfl
theorem pF_30 (w : WE) (h0 hm : Nat) (u v : Nat → Nat) (g1 g5 : GS) (b5 : BS) : (lsF w h0 hm u v g1 g5 b5)[43]? = some ((wF w h0 hm u v).1 30, lay (wF w h0 hm u v) 30 (Gst g1 g5 30) (Bst b5 30)) := rfl
theorem pF_31 (w : WE) (h0 hm : Nat) (u v : Nat → Nat) (g1 g5 : GS) (b5 : BS) : (lsF w h0 hm u v g1 g5 b5)[44]? = some ((wF w h0 hm u v).1 31, lay (wF w h0 hm u v) 31 (Gst g1 g5 31) (Bst b5 31)) := rfl
theorem pF_32 (w : WE) (h0 hm : Nat) (u v : Nat → Nat) (g1 g5 : GS) (b5 : BS) : (lsF w h0 hm u v g1 g5 b5)[3]? = some ((wF w h0 hm u v).1 32, lay (wF w h0 hm u v) 32 (Gst g1 g5 32) (Bst b5 32)) := rfl
theorem pF_33 (w : WE) (h0 hm : Nat) (u v : Nat → Nat) (g1 g5 : GS) (b5 : BS) : (lsF w h0 hm u v g1 g5 b5)[4]? = some ((wF w h0 hm u v).1 33, lay (wF w h0 hm u v) 33 (Gst g1 g5 33) (Bst b5 33)) := rfl
theorem pF_34 (w : WE) (h0 hm : Nat) (u v : Nat → Nat) (g1 g5 : GS) (b5 : BS) : (lsF w h0 hm u v g1 g5 b5)[5]? = some ((wF w h0 hm u v).1 34, lay (wF w h0 hm u v) 34 (Gst g1 g5 34) (Bst b5 34)) := rfl
theorem pF_35 (w : WE) (h0 hm : Nat) (u v : Nat → Nat) (g1 g5 : GS) (b5 : BS) : (lsF w h0 hm u v g1 g5 b5)[6]? = some ((wF w h0 hm u v).1 35, lay (wF w h0 hm u v) 35 (Gst g1 g5 35) (Bst b5 35)) := rfl
theorem pF_36 (w : WE) (h0 hm : Nat) (u v : Nat → Nat) (g1 g5 : GS) (b5 : BS) : (lsF w h0 hm u v g1 g5 b5)[7]? = some ((wF w h0 hm u v).1 36, lay (wF w h0 hm u v) 36 (Gst g1 g5 36) (Bst b5 36)) := rfl
theorem pF_37 (w : WE) (h0 hm : Nat) (u v : Nat → Nat) (g1 g5 : GS) (b5 : BS) : (lsF w h0 hm u v g1 g5 b5)[8]? = some ((wF w h0 hm u v).1 37, lay (wF w h0 hm u v) 37 (Gst g1 g5 37) (Bst b5 37)) := rfl
theorem pF_38 (w : WE) (h0 hm : Nat) (u v : Nat → Nat) (g1 g5 : GS) (b5 : BS) : (lsF w h0 hm u v g1 g5 b5)[12]? = some ((wF w h0 hm u v).1 38, lay (wF w h0 hm u v) 38 (Gst g1 g5 38) (Bst b5 38)) := rfl
theorem pF_39 (w : WE) (h0 hm : Nat) (u v : Nat → Nat) (g1 g5 : GS) (b5 : BS) : (lsF w h0 hm u v g1 g5 b5)[13]? = some ((wF w h0 hm u v).1 39, lay (wF w h0 hm u v) 39 (Gst g1 g5 39) (Bst b5 39)) := rfl
theorem pF_40 (w : WE) (h0 hm : Nat) (u v : Nat → Nat) (g1 g5 : GS) (b5 : BS) : (lsF w h0 hm u v g1 g5 b5)[14]? = some ((wF w h0 hm u v).1 40, lay (wF w h0 hm u v) 40 (Gst g1 g5 40) (Bst b5 40)) := rfl
theorem pF_41 (w : WE) (h0 hm : Nat) (u v : Nat → Nat) (g1 g5 : GS) (b5 : BS) : (lsF w h0 hm u v g1 g5 b5)[15]? = some ((wF w h0 hm u v).1 41, lay (wF w h0 hm u v) 41 (Gst g1 g5 41) (Bst b5 41)) := rfl
theorem pF_42 (w : WE) (h0 hm : Nat) (u v : Nat → Nat) (g1 g5 : GS) (b5 : BS) : (lsF w h0 hm u v g1 g5 b5)[16]? = some ((wF w h0 hm u v).1 42, lay (wF w h0 hm u v) 42 (Gst g1 g5 42) (Bst b5 42)) := rfl
theorem pF_43 (w : WE) (h0 hm : Nat) (u v : Nat → Nat) (g1 g5 : GS) (b5 : BS) : (lsF w h0 hm u v g1 g5 b5)[17]? = some ((wF w h0 hm u v).1 43, lay (wF w h0 hm u v) 43 (Gst g1 g5 43) (Bst b5 43)) := rfl
theorem pF_44 (w : WE) (h0 hm : Nat) (u v : Nat → Nat) (g1 g5 : GS) (b5 : BS) : (lsF w h0 hm u v g1 g5 b5)[18]? = some ((wF w h0 hm u v).1 44, lay (wF w h0 hm u v) 44 (Gst g1 g5 44) (Bst b5 44)) := rfl
theorem pF_45 (w : WE) (h0 hm : Nat) (u v : Nat → Nat) (g1 g5 : GS) (b5 : BS) : (lsF w h0 hm u v g1 g5 b5)[45]? = some ((wF w h0 hm u v).1 45, lay (wF w h0 hm u v) 45 (Gst g1 g5 45) (Bst b5 45)) := rfl
theorem pF_46 (w : WE) (h0 hm : Nat) (u v : Nat → Nat) (g1 g5 : GS) (b5 : BS) : (lsF w h0 hm u v g1 g5 b5)[46]? = some ((wF w h0 hm u v).1 46, lay (wF w h0 hm u v) 46 (Gst g1 g5 46) (Bst b5 46)) := rfl
theorem pF_47 (w : WE) (h0 hm : Nat) (u v : Nat → Nat) (g1 g5 : GS) (b5 : BS) : (lsF w h0 hm u v g1 g5 b5)[47]? = some ((wF w h0 hm u v).1 47, lay (wF w h0 hm u v) 47 (Gst g1 g5 47) (Bst b5 47)) := rfl
theorem pF_48 (w : WE) (h0 hm : Nat) (u v : Nat → Nat) (g1 g5 : GS) (b5 : BS) : (lsF w h0 hm u v g1 g5 b5)[48]? = some ((wF w h0 hm u v).1 48, lay (wF w h0 hm u v) 48 (Gst g1 g5 48) (Bst b5 48)) := rfl
theorem pF_49 (w : WE) (h0 hm : Nat) (u v : Nat → Nat) (g1 g5 : GS) (b5 : BS) : (lsF w h0 hm u v g1 g5 b5)[49]? = some ((wF w h0 hm u v).1 49, lay (wF w h0 hm u v) 49 (Gst g1 g5 49) (Bst b5 49)) := rfl
theorem pF_50 (w : WE) (h0 hm : Nat) (u v : Nat → Nat) (g1 g5 : GS) (b5 : BS) : (lsF w h0 hm u v g1 g5 b5)[50]? = some ((wF w h0 hm u v).1 50, lay (wF w h0 hm u v) 50 (Gst g1 g5 50) (Bst b5 50)) := rfl
theorem pF_51 (w : WE) (h0 hm : Nat) (u v : Nat → Nat) (g1 g5 : GS) (b5 : BS) : (lsF w h0 hm u v g1 g5 b5)[51]? = some ((wF w h0 hm u v).1 51, lay (wF w h0 hm u v) 51 (Gst g1 g5 51) (Bst b5 51)) := rfl
theorem pF_52 (w : WE) (h0 hm : Nat) (u v : Nat → Nat) (g1 g5 : GS) (b5 : BS) : (lsF w h0 hm u v g1 g5 b5)[52]? = some ((wF w h0 hm u v).1 52, lay (wF w h0 hm u v) 52 (Gst g1 g5 52) (Bst b5 52)) := rfl
theorem pF_53 (w : WE) (h0 hm : Nat) (u v : Nat → Nat) (g1 g5 : GS) (b5 : BS) : (lsF w h0 hm u v g1 g5 b5)[53]? = some ((wF w h0 hm u v).1 53, lay (wF w h0 hm u v) 53 (Gst g1 g5 53) (Bst b5 53)) := rfl
theorem pF_54 (w : WE) (h0 hm : Nat) (u v : Nat → Nat) (g1 g5 : GS) (b5 : BS) : (lsF w h0 hm u v g1 g5 b5)[54]? = some ((wF w h0 hm u v).1 54, lay (wF w h0 hm u v) 54 (Gst g1 g5 54) (Bst b5 54)) := rfl
theorem pF_55 (w : WE) (h0 hm : Nat) (u v : Nat → Nat) (g1 g5 : GS) (b5 : BS) : (lsF w h0 hm u v g1 g5 b5)[55]? = some ((wF w h0 hm u v).1 55, lay (wF w h0 hm u v) 55 (Gst g1 g5 55) (Bst b5 55)) := rfl
theorem pF (w : WE) (h0 hm : Nat) (u v : Nat → Nat) (g1 g5 : GS) (b5 : BS) : ∀ c, c < 56 → (lsF w h0 hm u v g1 g5 b5)[plF.getD c 0]? = some ((wF w h0 hm u v).1 c, lay (wF w h0 hm u v) c (Gst g1 g5 c) (Bst b5 c)) := fun c hc => match c, hc with
  | 0, _ => pF_0 w h0 hm u v g1 g5 b5
  | 1, _ => pF_1 w h0 hm u v g1 g5 b5
  | 2, _ => pF_2 w h0 hm u v g1 g5 b5
  | 3, _ => pF_3 w h0 hm u v g1 g5 b5
  | 4, _ => pF_4 w h0 hm u v g1 g5 b5
  | 5, _ => pF_5 w h0 hm u v g1 g5 b5
  | 6, _ => pF_6 w h0 hm u v g1 g5 b5
  | 7, _ => pF_7 w h0 hm u v g1 g5 b5
  | 8, _ => pF_8 w h0 hm u v g1 g5 b5
  | 9, _ => pF_9 w h0 hm u v g1 g5 b5
  | 10, _ => pF_10 w h0 hm u v g1 g5 b5
  | 11, _ => pF_11 w h0 hm u v g1 g5 b5
  | 12, _ => pF_12 w h0 hm u v g1 g5 b5
  | 13, _ => pF_13 w h0 hm u v g1 g5 b5
  | 14, _ => pF_14 w h0 hm u v g1 g5 b5
  | 15, _ => pF_15 w h0 hm u v g1 g5 b5
  | 16, _ => pF_16 w h0 hm u v g1 g5 b5
  | 17, _ => pF_17 w h0 hm u v g1 g5 b5
  | 18, _ => pF_18 w h0 hm u v g1 g5 b5
  | 19, _ => pF_19 w h0 hm u v g1 g5 b5
  | 20, _ => pF_20 w h0 hm u v g1 g5 b5
  | 21, _ => pF_21 w h0 hm u v g1 g5 b5
  | 22, _ => pF_22 w h0 hm u v g1 g5 b5
  | 23, _ => pF_23 w h0 hm u v g1 g5 b5
  | 24, _ => pF_24 w h0 hm u v g1 g5 b5
  | 25, _ => pF_25 w h0 hm u v g1 g5 b5
  | 26, _ => pF_26 w h0 hm u v g1 g5 b5
  | 27, _ => pF_27 w h0 hm u v g1 g5 b5
  | 28, _ => pF_28 w h0 hm u v g1 g5 b5
  | 29, _ => pF_29 w h0 hm u v g1 g5 b5
  | 30, _ => pF_30 w h0 hm u v g1 g5 b5
  | 31, _ => pF_31 w h0 hm u v g1 g5 b5
  | 32, _ => pF_32 w h0 hm u v g1 g5 b5
  | 33, _ => pF_33 w h0 hm u v g1 g5 b5
  | 34, _ => pF_34 w h0 hm u v g1 g5 b5
  | 35, _ => pF_35 w h0 hm u v g1 g5 b5
  | 36, _ => pF_36 w h0 hm u v g1 g5 b5
  | 37, _ => pF_37 w h0 hm u v g1 g5 b5
  | 38, _ => pF_38 w h0 hm u v g1 g5 b5
  | 39, _ => pF_39 w h0 hm u v g1 g5 b5
  | 40, _ => pF_40 w h0 hm u v g1 g5 b5
  | 41, _ => pF_41 w h0 hm u v g1 g5 b5
  | 42, _ => pF_42 w h0 hm u v g1 g5 b5
  | 43, _ => pF_43 w h0 hm u v g1 g5 b5
  | 44, _ => pF_44 w h0 hm u v g1 g5 b5
  | 45, _ => pF_45 w h0 hm u v g1 g5 b5
  | 46, _ => pF_46 w h0 hm u v g1 g5 b5
  | 47, _ => pF_47 w h0 hm u v g1 g5 b5
  | 48, _ => pF_48 w h0 hm u v g1 g5 b5
  | 49, _ => pF_49 w h0 hm u v g1 g5 b5
  | 50, _ => pF_50 w h0 hm u v g1 g5 b5
  | 51, _ => pF_51 w h0 hm u v g1 g5 b5
  | 52, _ => pF_52 w h0 hm u v g1 g5 b5
  | 53, _ => pF_53 w h0 hm u v g1 g5 b5
  | 54, _ => pF_54 w h0 hm u v g1 g5 b5
  | 55, _ => pF_55 w h0 hm u v g1 g5 b5
  | n + 56, h => absurd h (by omega)
theorem plF_inj : ∀ a, a < 56 → ∀ b, b < 56 → plF.getD a 0 = plF.getD b 0 → a = b := by decide +kernel
theorem toF {w : WE} {h0 hm : Nat} {u v : Nat → Nat} {g1 g5 : GS} {b5 : BS} {A : Nat → Prop} {H0 H : Heap} {locs : List Loc} (hw : CW w (lsF w h0 hm u v g1 g5 b5) A H0 H locs) : WO (wF w h0 hm u v) (List.range 56) A H0 (Gst g1 g5) (Bst b5) H locs := by
  have at1 : ∀ (k : Nat) (q : Nat × va_E), (wsl (wF w h0 hm u v) (List.range 56) (Gst g1 g5) (Bst b5))[k]? = some q → k < 56 ∧ q = ((wF w h0 hm u v).1 k, lay (wF w h0 hm u v) k (Gst g1 g5 k) (Bst b5 k)) := fun k q h => by
    unfold wsl at h
    rw [List.getElem?_map] at h
    by_cases hk : k < 56
    · rw [List.getElem?_range hk] at h
      cases h
      exact ⟨hk, rfl⟩
    · rw [List.getElem?_eq_none (by rw [List.length_range]; omega)] at h
      cases h
  refine ⟨fun k q h => ?_, ⟨fun i j x y hi hj hxy => ?_, fun k q h => ?_⟩, hw.2.2.1, hw.2.2.2⟩
  · obtain ⟨hk, rfl⟩ := at1 k q h
    exact hw.1 _ _ (pF w h0 hm u v g1 g5 b5 k hk)
  · obtain ⟨h1, rfl⟩ := at1 i x hi
    obtain ⟨h2, rfl⟩ := at1 j y hj
    exact plF_inj i h1 j h2 (hw.2.1.1 _ _ _ _ (pF w h0 hm u v g1 g5 b5 i h1) (pF w h0 hm u v g1 g5 b5 j h2) hxy)
  · obtain ⟨hk, rfl⟩ := at1 k q h
    exact hw.2.1.2 _ _ (pF w h0 hm u v g1 g5 b5 k hk)
