def wlL_law_18 (xs : Nat → Int32) (L : Nat) : Nat → Int32 → GS → BS → Prop
  | 0, _, _, _ => False
  | n18 + 1, v3, G, B => ((((nI L) - (5 : Int32)) < v3 → True) ∧ (¬ ((nI L) - (5 : Int32)) < v3 → (vp_in v3 L ∧ ((((xs (cl v3)) &&& (31 : Int32)) = 0 → (vp_in (v3 + (1 : Int32)) L ∧ (vp_in (v3 + (2 : Int32)) L ∧ (vp_in (v3 + (3 : Int32)) L ∧ (wX5_begin (xs (cl (v3 + (1 : Int32)))) (xs (cl (v3 + (2 : Int32)))) (xs (cl (v3 + (3 : Int32)))) G (fun r140 G140 => (vp_in (v3 + (1 : Int32)) L ∧ (vp_in (v3 + (2 : Int32)) L ∧ (vp_in (v3 + (3 : Int32)) L ∧ (wX6_begin (xs (cl (v3 + (1 : Int32)))) (xs (cl (v3 + (2 : Int32)))) (xs (cl (v3 + (3 : Int32)))) G140 (fun r159 G159 => ((r140 = r159 → wlL_law_18 xs L n18 (v3 + (5 : Int32)) G159 B) ∧ (¬ r140 = r159 → False))))))))))))) ∧ ((((xs (cl v3)) &&& (31 : Int32)) = 1 → (vp_in (v3 + (1 : Int32)) L ∧ (vp_in (v3 + (2 : Int32)) L ∧ (vp_in (v3 + (3 : Int32)) L ∧ (wX5_set (xs (cl (v3 + (1 : Int32)))) (xs (cl (v3 + (2 : Int32)))) (xs (cl (v3 + (3 : Int32)))) G (fun r183 G183 => (vp_in (v3 + (1 : Int32)) L ∧ (vp_in (v3 + (2 : Int32)) L ∧ (vp_in (v3 + (3 : Int32)) L ∧ (wX6_set (xs (cl (v3 + (1 : Int32)))) (xs (cl (v3 + (2 : Int32)))) (xs (cl (v3 + (3 : Int32)))) G183 (fun r202 G202 => ((r183 = r202 → wlL_law_18 xs L n18 (v3 + (5 : Int32)) G202 B) ∧ (¬ r183 = r202 → False))))))))))))) ∧ ((((xs (cl v3)) &&& (31 : Int32)) = 2 → (vp_in (v3 + (1 : Int32)) L ∧ (wX5_powers (xs (cl (v3 + (1 : Int32)))) G (fun r216 G216 => (vp_in (v3 + (1 : Int32)) L ∧ (wX6_powers (xs (cl (v3 + (1 : Int32)))) G216 (fun r225 G225 => ((r216 = r225 → wlL_law_18 xs L n18 (v3 + (5 : Int32)) G225 B) ∧ (¬ r216 = r225 → False))))))))) ∧ ((((xs (cl v3)) &&& (31 : Int32)) = 3 → (vp_in (v3 + (1 : Int32)) L ∧ (vp_in (v3 + (2 : Int32)) L ∧ (wX5_at (xs (cl (v3 + (1 : Int32)))) (xs (cl (v3 + (2 : Int32)))) G (fun r244 => (vp_in (v3 + (1 : Int32)) L ∧ (vp_in (v3 + (2 : Int32)) L ∧ (wX6_at (xs (cl (v3 + (1 : Int32)))) (xs (cl (v3 + (2 : Int32)))) G (fun r258 => ((r244 = r258 → wlL_law_18 xs L n18 (v3 + (5 : Int32)) G B) ∧ (¬ r244 = r258 → False))))))))))) ∧ ((((xs (cl v3)) &&& (31 : Int32)) = 4 → (vp_in (v3 + (1 : Int32)) L ∧ (wX5_judge (xs (cl (v3 + (1 : Int32)))) G (fun r272 G272 => (vp_in (v3 + (1 : Int32)) L ∧ (wX6_judge (xs (cl (v3 + (1 : Int32)))) G272 (fun r281 G281 => ((r272 = r281 → wlL_law_18 xs L n18 (v3 + (5 : Int32)) G281 B) ∧ (¬ r272 = r281 → False))))))))) ∧ ((((xs (cl v3)) &&& (31 : Int32)) = 5 → (vp_in (v3 + (1 : Int32)) L ∧ (vp_in (v3 + (2 : Int32)) L ∧ (vp_in (v3 + (3 : Int32)) L ∧ (wX5_put (xs (cl (v3 + (1 : Int32)))) (xs (cl (v3 + (2 : Int32)))) (xs (cl (v3 + (3 : Int32)))) G (fun r305 G305 => (vp_in (v3 + (1 : Int32)) L ∧ (vp_in (v3 + (2 : Int32)) L ∧ (vp_in (v3 + (3 : Int32)) L ∧ (wX6_put (xs (cl (v3 + (1 : Int32)))) (xs (cl (v3 + (2 : Int32)))) (xs (cl (v3 + (3 : Int32)))) G305 (fun r324 G324 => ((r305 = r324 → wlL_law_18 xs L n18 (v3 + (5 : Int32)) G324 B) ∧ (¬ r305 = r324 → False))))))))))))) ∧ ((((xs (cl v3)) &&& (31 : Int32)) = 6 → (vp_in (v3 + (1 : Int32)) L ∧ (vp_in (v3 + (2 : Int32)) L ∧ (wX5_row (xs (cl (v3 + (1 : Int32)))) (xs (cl (v3 + (2 : Int32)))) G (fun r343 => (vp_in (v3 + (1 : Int32)) L ∧ (vp_in (v3 + (2 : Int32)) L ∧ (wX6_row (xs (cl (v3 + (1 : Int32)))) (xs (cl (v3 + (2 : Int32)))) G (fun r357 => ((r343 = r357 → wlL_law_18 xs L n18 (v3 + (5 : Int32)) G B) ∧ (¬ r343 = r357 → False))))))))))) ∧ ((((xs (cl v3)) &&& (31 : Int32)) = 7 → (vp_in (v3 + (1 : Int32)) L ∧ (vp_in (v3 + (2 : Int32)) L ∧ (vp_in (v3 + (3 : Int32)) L ∧ (wX5_sum (xs (cl (v3 + (1 : Int32)))) (xs (cl (v3 + (2 : Int32)))) (xs (cl (v3 + (3 : Int32)))) G (fun r381 G381 => (vp_in (v3 + (1 : Int32)) L ∧ (vp_in (v3 + (2 : Int32)) L ∧ (vp_in (v3 + (3 : Int32)) L ∧ (wX6_sum (xs (cl (v3 + (1 : Int32)))) (xs (cl (v3 + (2 : Int32)))) (xs (cl (v3 + (3 : Int32)))) G381 (fun r400 G400 => ((r381 = r400 → wlL_law_18 xs L n18 (v3 + (5 : Int32)) G400 B) ∧ (¬ r381 = r400 → False))))))))))))) ∧ ((((xs (cl v3)) &&& (31 : Int32)) = 8 → (vp_in (v3 + (1 : Int32)) L ∧ (vp_in (v3 + (2 : Int32)) L ∧ (wX5_told (xs (cl (v3 + (1 : Int32)))) (xs (cl (v3 + (2 : Int32)))) G (fun r419 => (vp_in (v3 + (1 : Int32)) L ∧ (vp_in (v3 + (2 : Int32)) L ∧ (wX6_told (xs (cl (v3 + (1 : Int32)))) (xs (cl (v3 + (2 : Int32)))) G (fun r433 => ((r419 = r433 → wlL_law_18 xs L n18 (v3 + (5 : Int32)) G B) ∧ (¬ r419 = r433 → False))))))))))) ∧ ((((xs (cl v3)) &&& (31 : Int32)) = 9 → (vp_in (v3 + (1 : Int32)) L ∧ (vp_in (v3 + (2 : Int32)) L ∧ (wX5_tell (xs (cl (v3 + (1 : Int32)))) (xs (cl (v3 + (2 : Int32)))) G (fun r452 G452 => (vp_in (v3 + (1 : Int32)) L ∧ (vp_in (v3 + (2 : Int32)) L ∧ (wX6_tell (xs (cl (v3 + (1 : Int32)))) (xs (cl (v3 + (2 : Int32)))) G452 (fun r466 G466 => ((r452 = r466 → wlL_law_18 xs L n18 (v3 + (5 : Int32)) G466 B) ∧ (¬ r452 = r466 → False))))))))))) ∧ ((((xs (cl v3)) &&& (31 : Int32)) = 10 → (vp_in (v3 + (1 : Int32)) L ∧ (vp_in (v3 + (2 : Int32)) L ∧ (vp_in (v3 + (3 : Int32)) L ∧ (wX5_find (xs (cl (v3 + (1 : Int32)))) (xs (cl (v3 + (2 : Int32)))) (xs (cl (v3 + (3 : Int32)))) G (fun r490 G490 => (vp_in (v3 + (1 : Int32)) L ∧ (vp_in (v3 + (2 : Int32)) L ∧ (vp_in (v3 + (3 : Int32)) L ∧ (wX6_find (xs (cl (v3 + (1 : Int32)))) (xs (cl (v3 + (2 : Int32)))) (xs (cl (v3 + (3 : Int32)))) G490 (fun r509 G509 => ((r490 = r509 → wlL_law_18 xs L n18 (v3 + (5 : Int32)) G509 B) ∧ (¬ r490 = r509 → False))))))))))))) ∧ ((((xs (cl v3)) &&& (31 : Int32)) = 11 → (vp_in (v3 + (1 : Int32)) L ∧ (vp_in (v3 + (2 : Int32)) L ∧ (vp_in (v3 + (3 : Int32)) L ∧ (vp_in (v3 + (4 : Int32)) L ∧ (wX5_miss (xs (cl (v3 + (1 : Int32)))) (xs (cl (v3 + (2 : Int32)))) (xs (cl (v3 + (3 : Int32)))) (xs (cl (v3 + (4 : Int32)))) G (fun r538 G538 => (vp_in (v3 + (1 : Int32)) L ∧ (vp_in (v3 + (2 : Int32)) L ∧ (vp_in (v3 + (3 : Int32)) L ∧ (vp_in (v3 + (4 : Int32)) L ∧ (wX6_miss (xs (cl (v3 + (1 : Int32)))) (xs (cl (v3 + (2 : Int32)))) (xs (cl (v3 + (3 : Int32)))) (xs (cl (v3 + (4 : Int32)))) G538 (fun r562 G562 => ((r538 = r562 → wlL_law_18 xs L n18 (v3 + (5 : Int32)) G562 B) ∧ (¬ r538 = r562 → False))))))))))))))) ∧ ((((xs (cl v3)) &&& (31 : Int32)) = 12 → (vp_in (v3 + (1 : Int32)) L ∧ (vp_in (v3 + (2 : Int32)) L ∧ (vp_in (v3 + (3 : Int32)) L ∧ (wX5_greedy (xs (cl (v3 + (1 : Int32)))) (xs (cl (v3 + (2 : Int32)))) (xs (cl (v3 + (3 : Int32)))) G (fun r586 G586 => (vp_in (v3 + (1 : Int32)) L ∧ (vp_in (v3 + (2 : Int32)) L ∧ (vp_in (v3 + (3 : Int32)) L ∧ (wX6_greedy (xs (cl (v3 + (1 : Int32)))) (xs (cl (v3 + (2 : Int32)))) (xs (cl (v3 + (3 : Int32)))) G586 (fun r605 G605 => ((r586 = r605 → wlL_law_18 xs L n18 (v3 + (5 : Int32)) G605 B) ∧ (¬ r586 = r605 → False))))))))))))) ∧ ((((xs (cl v3)) &&& (31 : Int32)) = 13 → (vp_in (v3 + (1 : Int32)) L ∧ (vp_in (v3 + (2 : Int32)) L ∧ (wX5_sketch (xs (cl (v3 + (1 : Int32)))) (xs (cl (v3 + (2 : Int32)))) G B (fun r624 G624 B624 => (vp_in (v3 + (1 : Int32)) L ∧ (vp_in (v3 + (2 : Int32)) L ∧ (wX6_sketch (xs (cl (v3 + (1 : Int32)))) (xs (cl (v3 + (2 : Int32)))) G624 B624 (fun r638 G638 B638 => ((r624 = r638 → wlL_law_18 xs L n18 (v3 + (5 : Int32)) G638 B638) ∧ (¬ r624 = r638 → False))))))))))) ∧ ((((xs (cl v3)) &&& (31 : Int32)) = 14 → (vp_in (v3 + (1 : Int32)) L ∧ (vp_in (v3 + (2 : Int32)) L ∧ (wX5_add (xs (cl (v3 + (1 : Int32)))) (xs (cl (v3 + (2 : Int32)))) G B (fun r657 G657 B657 => (vp_in (v3 + (1 : Int32)) L ∧ (vp_in (v3 + (2 : Int32)) L ∧ (wX6_add (xs (cl (v3 + (1 : Int32)))) (xs (cl (v3 + (2 : Int32)))) G657 B657 (fun r671 G671 B671 => ((r657 = r671 → wlL_law_18 xs L n18 (v3 + (5 : Int32)) G671 B671) ∧ (¬ r657 = r671 → False))))))))))) ∧ ((((xs (cl v3)) &&& (31 : Int32)) = 15 → (wX5_decode G B (fun r680 G680 B680 => (wX6_decode G680 B680 (fun r684 G684 B684 => ((r680 = r684 → wlL_law_18 xs L n18 (v3 + (5 : Int32)) G684 B684) ∧ (¬ r680 = r684 → False))))))) ∧ ((((xs (cl v3)) &&& (31 : Int32)) = 16 → (vp_in (v3 + (1 : Int32)) L ∧ (vp_in (v3 + (2 : Int32)) L ∧ (wX5_decoded (xs (cl (v3 + (1 : Int32)))) (xs (cl (v3 + (2 : Int32)))) G (fun r703 => (vp_in (v3 + (1 : Int32)) L ∧ (vp_in (v3 + (2 : Int32)) L ∧ (wX6_decoded (xs (cl (v3 + (1 : Int32)))) (xs (cl (v3 + (2 : Int32)))) G (fun r717 => ((r703 = r717 → wlL_law_18 xs L n18 (v3 + (5 : Int32)) G B) ∧ (¬ r703 = r717 → False))))))))))) ∧ ((((xs (cl v3)) &&& (31 : Int32)) = 17 → (vp_in (v3 + (1 : Int32)) L ∧ (vp_in (v3 + (2 : Int32)) L ∧ (vp_in (v3 + (3 : Int32)) L ∧ (wX5_bucket (xs (cl (v3 + (1 : Int32)))) (xs (cl (v3 + (2 : Int32)))) (xs (cl (v3 + (3 : Int32)))) G B (fun r741 => (vp_in (v3 + (1 : Int32)) L ∧ (vp_in (v3 + (2 : Int32)) L ∧ (vp_in (v3 + (3 : Int32)) L ∧ (wX6_bucket (xs (cl (v3 + (1 : Int32)))) (xs (cl (v3 + (2 : Int32)))) (xs (cl (v3 + (3 : Int32)))) G B (fun r760 => (((lg_cmp r741 r760) = 0 → wlL_law_18 xs L n18 (v3 + (5 : Int32)) G B) ∧ (¬ (lg_cmp r741 r760) = 0 → False))))))))))))) ∧ ((((xs (cl v3)) &&& (31 : Int32)) = 18 → (vp_in (v3 + (1 : Int32)) L ∧ (wX5_count (xs (cl (v3 + (1 : Int32)))) G (fun r775 => (vp_in (v3 + (1 : Int32)) L ∧ (wX6_count (xs (cl (v3 + (1 : Int32)))) G (fun r784 => ((r775 = r784 → wlL_law_18 xs L n18 (v3 + (5 : Int32)) G B) ∧ (¬ r775 = r784 → False))))))))) ∧ (¬ ((xs (cl v3)) &&& (31 : Int32)) = 0 ∧ ¬ ((xs (cl v3)) &&& (31 : Int32)) = 1 ∧ ¬ ((xs (cl v3)) &&& (31 : Int32)) = 2 ∧ ¬ ((xs (cl v3)) &&& (31 : Int32)) = 3 ∧ ¬ ((xs (cl v3)) &&& (31 : Int32)) = 4 ∧ ¬ ((xs (cl v3)) &&& (31 : Int32)) = 5 ∧ ¬ ((xs (cl v3)) &&& (31 : Int32)) = 6 ∧ ¬ ((xs (cl v3)) &&& (31 : Int32)) = 7 ∧ ¬ ((xs (cl v3)) &&& (31 : Int32)) = 8 ∧ ¬ ((xs (cl v3)) &&& (31 : Int32)) = 9 ∧ ¬ ((xs (cl v3)) &&& (31 : Int32)) = 10 ∧ ¬ ((xs (cl v3)) &&& (31 : Int32)) = 11 ∧ ¬ ((xs (cl v3)) &&& (31 : Int32)) = 12 ∧ ¬ ((xs (cl v3)) &&& (31 : Int32)) = 13 ∧ ¬ ((xs (cl v3)) &&& (31 : Int32)) = 14 ∧ ¬ ((xs (cl v3)) &&& (31 : Int32)) = 15 ∧ ¬ ((xs (cl v3)) &&& (31 : Int32)) = 16 ∧ ¬ ((xs (cl v3)) &&& (31 : Int32)) = 17 ∧ ¬ ((xs (cl v3)) &&& (31 : Int32)) = 18 → wlL_law_18 xs L n18 (v3 + (5 : Int32)) G B)))))))))))))))))))))))
set_option maxHeartbeats 8000000 in
set_option maxRecDepth 100000 in
theorem lL_law_18 {p : Program} {l : Launch} {e : Env} {s : State} {m : MethodId} {below : List Frame} {meth : Method} {c : Code} {w : WE} {cs : List Nat} {b L : Nat} {xs : Nat → Int32} (C : CallFix p m c cL_law 4 s #[Value.ref b] ALLW RL) (hr : meth.sig.returnType = ret) (hlocks : meth.locks = false) (hX : va_X b L xs s s.heap) (hbl : b < s.heap.size) (hK : KW w s) (hcs : ∀ c, c < 56 → c ∈ cs) : ∀ (n : Nat) (v3 : Int32) (G : GS) (B : BS) (H : Heap) (locs : List Loc) (ls : Array Slot), wlL_law_18 xs L n v3 G B → WO w cs (fun q => s.heap.size ≤ q) s.heap G B H locs → lv_has ls 4 [(0, .ref b), (1, .ref (w.1 0)), (2, .ref (w.1 45)), (3, .int v3)] → W p l e room_1 s m #[Value.ref b] below meth c H locs 600000 7302250 (lw_Z below #[Value.ref b] s) (F0 m 18 ls []) := by
  have hbA : ¬ (fun q : Nat => s.heap.size ≤ q) b := Nat.not_le.mpr hbl
  have hx := C.1
  have hb := C.2.1
  have hown := C.2.2.2.1
  have hta := C.2.2.2.2
  intro n
  induction n with
  | zero => intro v3 G B H locs ls h hw hl; exact False.elim h
  | succ n ih =>
    intro v3 G B H locs ls h hw hl
    refine lv_iload_n hx hb dL_law_18 rfl (lv_at hl 3 rfl) ?_
    refine lv_aload_n hx hb dL_law_19 rfl (lv_at hl 0 rfl) ?_
    refine va_slen hx hb hX hbl hbA hw.2.2.1 dL_law_20 ?_
    refine lv_iconst (v := 5) hx hb dL_law_21 (by decide) ?_
    refine lv_isub hx hb dL_law_22 ?_
    refine lv_icmp_gt (tgt := 798) hx hb dL_law_23 (by decide) (fun c1 => ?_) (fun c1 => ?_)
    · have h := h.1 c1
      refine lv_iconst (v := 1) hx hb dL_law_798 (by decide) ?_
      refine va_forget (fun q hq => hw.2.2.1.2.2 q hq) ?_
      exact lw_ret hx hb hr hlocks dL_law_799
    · have h := h.2 c1
      refine lv_aload_n hx hb dL_law_26 rfl (lv_at hl 0 rfl) ?_
      refine lv_iload_n hx hb dL_law_27 rfl (lv_at hl 3 rfl) ?_
      obtain ⟨hin2, h⟩ := h
      refine va_sld hx hb hX hbl hbA hw.2.2.1 hin2 dL_law_28 ?_
      refine lv_bipush (v := 31) hx hb dL_law_29 (by decide) ?_
      refine lv_iand hx hb dL_law_31 ?_
      by_cases c3 : ((xs (cl v3)) &&& (31 : Int32)) = 0
      · have h := h.1 c3
        refine lv_tableIn (tgt := 124) hx hb dL_law_32 (by rw [c3]; decide) (by rw [c3]; decide) (by rw [c3]; rfl) (by decide) ?_
        refine lv_aload_n hx hb dL_law_124 rfl (lv_at hl 1 rfl) ?_
        refine lv_aload_n hx hb dL_law_125 rfl (lv_at hl 0 rfl) ?_
        refine lv_iload_n hx hb dL_law_126 rfl (lv_at hl 3 rfl) ?_
        refine lv_iconst (v := 1) hx hb dL_law_127 (by decide) ?_
        refine lv_iadd hx hb dL_law_128 ?_
        obtain ⟨hin4, h⟩ := h
        refine va_sld hx hb hX hbl hbA hw.2.2.1 hin4 dL_law_129 ?_
        refine lv_aload_n hx hb dL_law_130 rfl (lv_at hl 0 rfl) ?_
        refine lv_iload_n hx hb dL_law_131 rfl (lv_at hl 3 rfl) ?_
        refine lv_iconst (v := 2) hx hb dL_law_132 (by decide) ?_
        refine lv_iadd hx hb dL_law_133 ?_
        obtain ⟨hin5, h⟩ := h
        refine va_sld hx hb hX hbl hbA hw.2.2.1 hin5 dL_law_134 ?_
        refine lv_aload_n hx hb dL_law_135 rfl (lv_at hl 0 rfl) ?_
        refine lv_iload_n hx hb dL_law_136 rfl (lv_at hl 3 rfl) ?_
        refine lv_iconst (v := 3) hx hb dL_law_137 (by decide) ?_
        refine lv_iadd hx hb dL_law_138 ?_
        obtain ⟨hin6, h⟩ := h
        refine va_sld hx hb hX hbl hbA hw.2.2.1 hin6 dL_law_139 ?_
        refine q_calli hw (va_runV (As := [.int (xs (cl (v3 + (1 : Int32)))), .int (xs (cl (v3 + (2 : Int32)))), .int (xs (cl (v3 + (3 : Int32))))]) (rest := []) C (mX5_begin l w cs (fun c h => hcs c (by omega)) _ G B (xs (cl (v3 + (1 : Int32)))) (xs (cl (v3 + (2 : Int32)))) (xs (cl (v3 + (3 : Int32)))) _ h) (cwV 3 hta (gVw kw_398 kw_399 kw_400 kw_30 kw_397) rfl rfl rfl (by decide +kernel) ⟨Nat.le_of_ble_eq_true rfl, Nat.le_of_ble_eq_true rfl⟩) (preV hK hw 0 (hcs _ (by omega)) (by unfold isB; omega) rfl rfl _) rfl rfl hl.1 rfl (lv_room (Nat.le_of_ble_eq_true rfl)) dL_law_140 ⟨Nat.le_of_ble_eq_true rfl, Nat.le_of_ble_eq_true rfl⟩) (fun r140 G140 B140 H locs h hw => ?_)
        obtain ⟨h, e2⟩ := h; subst e2
        refine lv_aload_n hx hb dL_law_143 rfl (lv_at hl 2 rfl) ?_
        refine lv_aload_n hx hb dL_law_144 rfl (lv_at hl 0 rfl) ?_
        refine lv_iload_n hx hb dL_law_145 rfl (lv_at hl 3 rfl) ?_
        refine lv_iconst (v := 1) hx hb dL_law_146 (by decide) ?_
        refine lv_iadd hx hb dL_law_147 ?_
        obtain ⟨hin7, h⟩ := h
        refine va_sld hx hb hX hbl hbA hw.2.2.1 hin7 dL_law_148 ?_
        refine lv_aload_n hx hb dL_law_149 rfl (lv_at hl 0 rfl) ?_
        refine lv_iload_n hx hb dL_law_150 rfl (lv_at hl 3 rfl) ?_
        refine lv_iconst (v := 2) hx hb dL_law_151 (by decide) ?_
        refine lv_iadd hx hb dL_law_152 ?_
        obtain ⟨hin8, h⟩ := h
        refine va_sld hx hb hX hbl hbA hw.2.2.1 hin8 dL_law_153 ?_
        refine lv_aload_n hx hb dL_law_154 rfl (lv_at hl 0 rfl) ?_
        refine lv_iload_n hx hb dL_law_155 rfl (lv_at hl 3 rfl) ?_
        refine lv_iconst (v := 3) hx hb dL_law_156 (by decide) ?_
        refine lv_iadd hx hb dL_law_157 ?_
        obtain ⟨hin9, h⟩ := h
        refine va_sld hx hb hX hbl hbA hw.2.2.1 hin9 dL_law_158 ?_
        refine q_calli hw (va_runV (As := [.int (xs (cl (v3 + (1 : Int32)))), .int (xs (cl (v3 + (2 : Int32)))), .int (xs (cl (v3 + (3 : Int32))))]) (rest := [.int r140]) C (mX6_begin l w cs (fun c h => hcs c (by omega)) _ G140 B (xs (cl (v3 + (1 : Int32)))) (xs (cl (v3 + (2 : Int32)))) (xs (cl (v3 + (3 : Int32)))) _ h) (cwV 3 hta (gVw kw_402 kw_403 kw_404 kw_17 kw_401) rfl rfl rfl (by decide +kernel) ⟨Nat.le_of_ble_eq_true rfl, Nat.le_of_ble_eq_true rfl⟩) (preV hK hw 45 (hcs _ (by omega)) (by unfold isB; omega) rfl rfl _) rfl rfl hl.1 rfl (lv_room (Nat.le_of_ble_eq_true rfl)) dL_law_159 ⟨Nat.le_of_ble_eq_true rfl, Nat.le_of_ble_eq_true rfl⟩) (fun r159 G159 B159 H locs h hw => ?_)
        obtain ⟨h, e2⟩ := h; subst e2
        refine lv_icmp_eq (tgt := 792) hx hb dL_law_162 (by decide) (fun c10 => ?_) (fun c10 => ?_)
        · have h := h.1 c10
          refine lv_iinc (v := (v3 + (5 : Int32))) (lv' := [(3, .int (v3 + (5 : Int32))), (0, .ref b), (1, .ref (w.1 0)), (2, .ref (w.1 45))]) hx hb dL_law_792 hl (k := 3) rfl rfl (by decide) rfl (fun ls hl => ?_)
          refine lv_goto (tgt := 18) hx hb dL_law_795 (by decide) ?_
          exact ih (v3 + (5 : Int32)) G159 B _ _ _ h hw (lv_sub hl [1, 2, 3, 0] rfl)
        · have h := h.2 c10
          exact False.elim h
      have h := h.2
      by_cases c11 : ((xs (cl v3)) &&& (31 : Int32)) = 1
      · have h := h.1 c11
        refine lv_tableIn (tgt := 167) hx hb dL_law_32 (by rw [c11]; decide) (by rw [c11]; decide) (by rw [c11]; rfl) (by decide) ?_
        refine lv_aload_n hx hb dL_law_167 rfl (lv_at hl 1 rfl) ?_
        refine lv_aload_n hx hb dL_law_168 rfl (lv_at hl 0 rfl) ?_
        refine lv_iload_n hx hb dL_law_169 rfl (lv_at hl 3 rfl) ?_
        refine lv_iconst (v := 1) hx hb dL_law_170 (by decide) ?_
        refine lv_iadd hx hb dL_law_171 ?_
        obtain ⟨hin12, h⟩ := h
        refine va_sld hx hb hX hbl hbA hw.2.2.1 hin12 dL_law_172 ?_
        refine lv_aload_n hx hb dL_law_173 rfl (lv_at hl 0 rfl) ?_
        refine lv_iload_n hx hb dL_law_174 rfl (lv_at hl 3 rfl) ?_
        refine lv_iconst (v := 2) hx hb dL_law_175 (by decide) ?_
        refine lv_iadd hx hb dL_law_176 ?_
        obtain ⟨hin13, h⟩ := h
        refine va_sld hx hb hX hbl hbA hw.2.2.1 hin13 dL_law_177 ?_
        refine lv_aload_n hx hb dL_law_178 rfl (lv_at hl 0 rfl) ?_
        refine lv_iload_n hx hb dL_law_179 rfl (lv_at hl 3 rfl) ?_
        refine lv_iconst (v := 3) hx hb dL_law_180 (by decide) ?_
        refine lv_iadd hx hb dL_law_181 ?_
        obtain ⟨hin14, h⟩ := h
        refine va_sld hx hb hX hbl hbA hw.2.2.1 hin14 dL_law_182 ?_
        refine q_calli hw (va_runV (As := [.int (xs (cl (v3 + (1 : Int32)))), .int (xs (cl (v3 + (2 : Int32)))), .int (xs (cl (v3 + (3 : Int32))))]) (rest := []) C (mX5_set l w cs (fun c h => hcs c (by omega)) _ G B (xs (cl (v3 + (1 : Int32)))) (xs (cl (v3 + (2 : Int32)))) (xs (cl (v3 + (3 : Int32)))) _ h) (cwV 3 hta (gVw kw_406 kw_407 kw_408 kw_30 kw_405) rfl rfl rfl (by decide +kernel) ⟨Nat.le_of_ble_eq_true rfl, Nat.le_of_ble_eq_true rfl⟩) (preV hK hw 0 (hcs _ (by omega)) (by unfold isB; omega) rfl rfl _) rfl rfl hl.1 rfl (lv_room (Nat.le_of_ble_eq_true rfl)) dL_law_183 ⟨Nat.le_of_ble_eq_true rfl, Nat.le_of_ble_eq_true rfl⟩) (fun r183 G183 B183 H locs h hw => ?_)
        obtain ⟨h, e2⟩ := h; subst e2
        refine lv_aload_n hx hb dL_law_186 rfl (lv_at hl 2 rfl) ?_
        refine lv_aload_n hx hb dL_law_187 rfl (lv_at hl 0 rfl) ?_
        refine lv_iload_n hx hb dL_law_188 rfl (lv_at hl 3 rfl) ?_
        refine lv_iconst (v := 1) hx hb dL_law_189 (by decide) ?_
        refine lv_iadd hx hb dL_law_190 ?_
        obtain ⟨hin15, h⟩ := h
        refine va_sld hx hb hX hbl hbA hw.2.2.1 hin15 dL_law_191 ?_
        refine lv_aload_n hx hb dL_law_192 rfl (lv_at hl 0 rfl) ?_
        refine lv_iload_n hx hb dL_law_193 rfl (lv_at hl 3 rfl) ?_
        refine lv_iconst (v := 2) hx hb dL_law_194 (by decide) ?_
        refine lv_iadd hx hb dL_law_195 ?_
        obtain ⟨hin16, h⟩ := h
        refine va_sld hx hb hX hbl hbA hw.2.2.1 hin16 dL_law_196 ?_
        refine lv_aload_n hx hb dL_law_197 rfl (lv_at hl 0 rfl) ?_
        refine lv_iload_n hx hb dL_law_198 rfl (lv_at hl 3 rfl) ?_
        refine lv_iconst (v := 3) hx hb dL_law_199 (by decide) ?_
        refine lv_iadd hx hb dL_law_200 ?_
        obtain ⟨hin17, h⟩ := h
        refine va_sld hx hb hX hbl hbA hw.2.2.1 hin17 dL_law_201 ?_
        refine q_calli hw (va_runV (As := [.int (xs (cl (v3 + (1 : Int32)))), .int (xs (cl (v3 + (2 : Int32)))), .int (xs (cl (v3 + (3 : Int32))))]) (rest := [.int r183]) C (mX6_set l w cs (fun c h => hcs c (by omega)) _ G183 B (xs (cl (v3 + (1 : Int32)))) (xs (cl (v3 + (2 : Int32)))) (xs (cl (v3 + (3 : Int32)))) _ h) (cwV 3 hta (gVw kw_410 kw_411 kw_412 kw_17 kw_409) rfl rfl rfl (by decide +kernel) ⟨Nat.le_of_ble_eq_true rfl, Nat.le_of_ble_eq_true rfl⟩) (preV hK hw 45 (hcs _ (by omega)) (by unfold isB; omega) rfl rfl _) rfl rfl hl.1 rfl (lv_room (Nat.le_of_ble_eq_true rfl)) dL_law_202 ⟨Nat.le_of_ble_eq_true rfl, Nat.le_of_ble_eq_true rfl⟩) (fun r202 G202 B202 H locs h hw => ?_)
        obtain ⟨h, e2⟩ := h; subst e2
        refine lv_icmp_eq (tgt := 792) hx hb dL_law_205 (by decide) (fun c18 => ?_) (fun c18 => ?_)
        · have h := h.1 c18
          refine lv_iinc (v := (v3 + (5 : Int32))) (lv' := [(3, .int (v3 + (5 : Int32))), (0, .ref b), (1, .ref (w.1 0)), (2, .ref (w.1 45))]) hx hb dL_law_792 hl (k := 3) rfl rfl (by decide) rfl (fun ls hl => ?_)
          refine lv_goto (tgt := 18) hx hb dL_law_795 (by decide) ?_
          exact ih (v3 + (5 : Int32)) G202 B _ _ _ h hw (lv_sub hl [1, 2, 3, 0] rfl)
        · have h := h.2 c18
          exact False.elim h
      have h := h.2
      by_cases c19 : ((xs (cl v3)) &&& (31 : Int32)) = 2
      · have h := h.1 c19
        refine lv_tableIn (tgt := 210) hx hb dL_law_32 (by rw [c19]; decide) (by rw [c19]; decide) (by rw [c19]; rfl) (by decide) ?_
        refine lv_aload_n hx hb dL_law_210 rfl (lv_at hl 1 rfl) ?_
        refine lv_aload_n hx hb dL_law_211 rfl (lv_at hl 0 rfl) ?_
        refine lv_iload_n hx hb dL_law_212 rfl (lv_at hl 3 rfl) ?_
        refine lv_iconst (v := 1) hx hb dL_law_213 (by decide) ?_
        refine lv_iadd hx hb dL_law_214 ?_
        obtain ⟨hin20, h⟩ := h
        refine va_sld hx hb hX hbl hbA hw.2.2.1 hin20 dL_law_215 ?_
        refine q_calli hw (va_runV (As := [.int (xs (cl (v3 + (1 : Int32))))]) (rest := []) C (mX5_powers l w cs (fun c h => hcs c (by omega)) _ G B (xs (cl (v3 + (1 : Int32)))) _ h) (cwV 1 hta (gVw kw_414 kw_415 kw_416 kw_30 kw_413) rfl rfl rfl (by decide +kernel) ⟨Nat.le_of_ble_eq_true rfl, Nat.le_of_ble_eq_true rfl⟩) (preV hK hw 0 (hcs _ (by omega)) (by unfold isB; omega) rfl rfl _) rfl rfl hl.1 rfl (lv_room (Nat.le_of_ble_eq_true rfl)) dL_law_216 ⟨Nat.le_of_ble_eq_true rfl, Nat.le_of_ble_eq_true rfl⟩) (fun r216 G216 B216 H locs h hw => ?_)
        obtain ⟨h, e2⟩ := h; subst e2
        refine lv_aload_n hx hb dL_law_219 rfl (lv_at hl 2 rfl) ?_
        refine lv_aload_n hx hb dL_law_220 rfl (lv_at hl 0 rfl) ?_
        refine lv_iload_n hx hb dL_law_221 rfl (lv_at hl 3 rfl) ?_
        refine lv_iconst (v := 1) hx hb dL_law_222 (by decide) ?_
        refine lv_iadd hx hb dL_law_223 ?_
        obtain ⟨hin21, h⟩ := h
        refine va_sld hx hb hX hbl hbA hw.2.2.1 hin21 dL_law_224 ?_
        refine q_calli hw (va_runV (As := [.int (xs (cl (v3 + (1 : Int32))))]) (rest := [.int r216]) C (mX6_powers l w cs (fun c h => hcs c (by omega)) _ G216 B (xs (cl (v3 + (1 : Int32)))) _ h) (cwV 1 hta (gVw kw_418 kw_419 kw_420 kw_17 kw_417) rfl rfl rfl (by decide +kernel) ⟨Nat.le_of_ble_eq_true rfl, Nat.le_of_ble_eq_true rfl⟩) (preV hK hw 45 (hcs _ (by omega)) (by unfold isB; omega) rfl rfl _) rfl rfl hl.1 rfl (lv_room (Nat.le_of_ble_eq_true rfl)) dL_law_225 ⟨Nat.le_of_ble_eq_true rfl, Nat.le_of_ble_eq_true rfl⟩) (fun r225 G225 B225 H locs h hw => ?_)
        obtain ⟨h, e2⟩ := h; subst e2
        refine lv_icmp_eq (tgt := 792) hx hb dL_law_228 (by decide) (fun c22 => ?_) (fun c22 => ?_)
        · have h := h.1 c22
          refine lv_iinc (v := (v3 + (5 : Int32))) (lv' := [(3, .int (v3 + (5 : Int32))), (0, .ref b), (1, .ref (w.1 0)), (2, .ref (w.1 45))]) hx hb dL_law_792 hl (k := 3) rfl rfl (by decide) rfl (fun ls hl => ?_)
          refine lv_goto (tgt := 18) hx hb dL_law_795 (by decide) ?_
          exact ih (v3 + (5 : Int32)) G225 B _ _ _ h hw (lv_sub hl [1, 2, 3, 0] rfl)
        · have h := h.2 c22
          exact False.elim h
      have h := h.2
      by_cases c23 : ((xs (cl v3)) &&& (31 : Int32)) = 3
      · have h := h.1 c23
        refine lv_tableIn (tgt := 233) hx hb dL_law_32 (by rw [c23]; decide) (by rw [c23]; decide) (by rw [c23]; rfl) (by decide) ?_
        refine lv_aload_n hx hb dL_law_233 rfl (lv_at hl 1 rfl) ?_
        refine lv_aload_n hx hb dL_law_234 rfl (lv_at hl 0 rfl) ?_
        refine lv_iload_n hx hb dL_law_235 rfl (lv_at hl 3 rfl) ?_
        refine lv_iconst (v := 1) hx hb dL_law_236 (by decide) ?_
        refine lv_iadd hx hb dL_law_237 ?_
        obtain ⟨hin24, h⟩ := h
        refine va_sld hx hb hX hbl hbA hw.2.2.1 hin24 dL_law_238 ?_
        refine lv_aload_n hx hb dL_law_239 rfl (lv_at hl 0 rfl) ?_
        refine lv_iload_n hx hb dL_law_240 rfl (lv_at hl 3 rfl) ?_
        refine lv_iconst (v := 2) hx hb dL_law_241 (by decide) ?_
        refine lv_iadd hx hb dL_law_242 ?_
        obtain ⟨hin25, h⟩ := h
        refine va_sld hx hb hX hbl hbA hw.2.2.1 hin25 dL_law_243 ?_
        refine q_calli hw (va_runV (As := [.int (xs (cl (v3 + (1 : Int32)))), .int (xs (cl (v3 + (2 : Int32))))]) (rest := []) C (mX5_at l w cs (fun c h => hcs c (by omega)) _ G B (xs (cl (v3 + (1 : Int32)))) (xs (cl (v3 + (2 : Int32)))) _ h) (cwV 2 hta (gVw kw_422 kw_423 kw_424 kw_30 kw_421) rfl rfl rfl (by decide +kernel) ⟨Nat.le_of_ble_eq_true rfl, Nat.le_of_ble_eq_true rfl⟩) (preV hK hw 0 (hcs _ (by omega)) (by unfold isB; omega) rfl rfl _) rfl rfl hl.1 rfl (lv_room (Nat.le_of_ble_eq_true rfl)) dL_law_244 ⟨Nat.le_of_ble_eq_true rfl, Nat.le_of_ble_eq_true rfl⟩) (fun r244 G244 B244 H locs h hw => ?_)
        obtain ⟨h, e1, e2⟩ := h; subst e1; subst e2
        refine lv_aload_n hx hb dL_law_247 rfl (lv_at hl 2 rfl) ?_
        refine lv_aload_n hx hb dL_law_248 rfl (lv_at hl 0 rfl) ?_
        refine lv_iload_n hx hb dL_law_249 rfl (lv_at hl 3 rfl) ?_
        refine lv_iconst (v := 1) hx hb dL_law_250 (by decide) ?_
        refine lv_iadd hx hb dL_law_251 ?_
        obtain ⟨hin26, h⟩ := h
        refine va_sld hx hb hX hbl hbA hw.2.2.1 hin26 dL_law_252 ?_
        refine lv_aload_n hx hb dL_law_253 rfl (lv_at hl 0 rfl) ?_
        refine lv_iload_n hx hb dL_law_254 rfl (lv_at hl 3 rfl) ?_
        refine lv_iconst (v := 2) hx hb dL_law_255 (by decide) ?_
        refine lv_iadd hx hb dL_law_256 ?_
        obtain ⟨hin27, h⟩ := h
        refine va_sld hx hb hX hbl hbA hw.2.2.1 hin27 dL_law_257 ?_
        refine q_calli hw (va_runV (As := [.int (xs (cl (v3 + (1 : Int32)))), .int (xs (cl (v3 + (2 : Int32))))]) (rest := [.int r244]) C (mX6_at l w cs (fun c h => hcs c (by omega)) _ G B (xs (cl (v3 + (1 : Int32)))) (xs (cl (v3 + (2 : Int32)))) _ h) (cwV 2 hta (gVw kw_426 kw_427 kw_428 kw_17 kw_425) rfl rfl rfl (by decide +kernel) ⟨Nat.le_of_ble_eq_true rfl, Nat.le_of_ble_eq_true rfl⟩) (preV hK hw 45 (hcs _ (by omega)) (by unfold isB; omega) rfl rfl _) rfl rfl hl.1 rfl (lv_room (Nat.le_of_ble_eq_true rfl)) dL_law_258 ⟨Nat.le_of_ble_eq_true rfl, Nat.le_of_ble_eq_true rfl⟩) (fun r258 G258 B258 H locs h hw => ?_)
        obtain ⟨h, e1, e2⟩ := h; subst e1; subst e2
        refine lv_icmp_eq (tgt := 792) hx hb dL_law_261 (by decide) (fun c28 => ?_) (fun c28 => ?_)
        · have h := h.1 c28
          refine lv_iinc (v := (v3 + (5 : Int32))) (lv' := [(3, .int (v3 + (5 : Int32))), (0, .ref b), (1, .ref (w.1 0)), (2, .ref (w.1 45))]) hx hb dL_law_792 hl (k := 3) rfl rfl (by decide) rfl (fun ls hl => ?_)
          refine lv_goto (tgt := 18) hx hb dL_law_795 (by decide) ?_
          exact ih (v3 + (5 : Int32)) G B _ _ _ h hw (lv_sub hl [1, 2, 3, 0] rfl)
        · have h := h.2 c28
          exact False.elim h
      have h := h.2
      by_cases c29 : ((xs (cl v3)) &&& (31 : Int32)) = 4
      · have h := h.1 c29
        refine lv_tableIn (tgt := 266) hx hb dL_law_32 (by rw [c29]; decide) (by rw [c29]; decide) (by rw [c29]; rfl) (by decide) ?_
        refine lv_aload_n hx hb dL_law_266 rfl (lv_at hl 1 rfl) ?_
        refine lv_aload_n hx hb dL_law_267 rfl (lv_at hl 0 rfl) ?_
        refine lv_iload_n hx hb dL_law_268 rfl (lv_at hl 3 rfl) ?_
        refine lv_iconst (v := 1) hx hb dL_law_269 (by decide) ?_
        refine lv_iadd hx hb dL_law_270 ?_
        obtain ⟨hin30, h⟩ := h
        refine va_sld hx hb hX hbl hbA hw.2.2.1 hin30 dL_law_271 ?_
        refine q_calli hw (va_runV (As := [.int (xs (cl (v3 + (1 : Int32))))]) (rest := []) C (mX5_judge l w cs (fun c h => hcs c (by omega)) _ G B (xs (cl (v3 + (1 : Int32)))) _ h) (cwV 1 hta (gVw kw_430 kw_431 kw_432 kw_30 kw_429) rfl rfl rfl (by decide +kernel) ⟨Nat.le_of_ble_eq_true rfl, Nat.le_of_ble_eq_true rfl⟩) (preV hK hw 0 (hcs _ (by omega)) (by unfold isB; omega) rfl rfl _) rfl rfl hl.1 rfl (lv_room (Nat.le_of_ble_eq_true rfl)) dL_law_272 ⟨Nat.le_of_ble_eq_true rfl, Nat.le_of_ble_eq_true rfl⟩) (fun r272 G272 B272 H locs h hw => ?_)
        obtain ⟨h, e2⟩ := h; subst e2
        refine lv_aload_n hx hb dL_law_275 rfl (lv_at hl 2 rfl) ?_
        refine lv_aload_n hx hb dL_law_276 rfl (lv_at hl 0 rfl) ?_
        refine lv_iload_n hx hb dL_law_277 rfl (lv_at hl 3 rfl) ?_
        refine lv_iconst (v := 1) hx hb dL_law_278 (by decide) ?_
        refine lv_iadd hx hb dL_law_279 ?_
        obtain ⟨hin31, h⟩ := h
        refine va_sld hx hb hX hbl hbA hw.2.2.1 hin31 dL_law_280 ?_
        refine q_calli hw (va_runV (As := [.int (xs (cl (v3 + (1 : Int32))))]) (rest := [.int r272]) C (mX6_judge l w cs (fun c h => hcs c (by omega)) _ G272 B (xs (cl (v3 + (1 : Int32)))) _ h) (cwV 1 hta (gVw kw_434 kw_435 kw_436 kw_17 kw_433) rfl rfl rfl (by decide +kernel) ⟨Nat.le_of_ble_eq_true rfl, Nat.le_of_ble_eq_true rfl⟩) (preV hK hw 45 (hcs _ (by omega)) (by unfold isB; omega) rfl rfl _) rfl rfl hl.1 rfl (lv_room (Nat.le_of_ble_eq_true rfl)) dL_law_281 ⟨Nat.le_of_ble_eq_true rfl, Nat.le_of_ble_eq_true rfl⟩) (fun r281 G281 B281 H locs h hw => ?_)
        obtain ⟨h, e2⟩ := h; subst e2
        refine lv_icmp_eq (tgt := 792) hx hb dL_law_284 (by decide) (fun c32 => ?_) (fun c32 => ?_)
        · have h := h.1 c32
          refine lv_iinc (v := (v3 + (5 : Int32))) (lv' := [(3, .int (v3 + (5 : Int32))), (0, .ref b), (1, .ref (w.1 0)), (2, .ref (w.1 45))]) hx hb dL_law_792 hl (k := 3) rfl rfl (by decide) rfl (fun ls hl => ?_)
          refine lv_goto (tgt := 18) hx hb dL_law_795 (by decide) ?_
          exact ih (v3 + (5 : Int32)) G281 B _ _ _ h hw (lv_sub hl [1, 2, 3, 0] rfl)
        · have h := h.2 c32
          exact False.elim h
      have h := h.2
      by_cases c33 : ((xs (cl v3)) &&& (31 : Int32)) = 5
      · have h := h.1 c33
        refine lv_tableIn (tgt := 289) hx hb dL_law_32 (by rw [c33]; decide) (by rw [c33]; decide) (by rw [c33]; rfl) (by decide) ?_
        refine lv_aload_n hx hb dL_law_289 rfl (lv_at hl 1 rfl) ?_
        refine lv_aload_n hx hb dL_law_290 rfl (lv_at hl 0 rfl) ?_
        refine lv_iload_n hx hb dL_law_291 rfl (lv_at hl 3 rfl) ?_
        refine lv_iconst (v := 1) hx hb dL_law_292 (by decide) ?_
        refine lv_iadd hx hb dL_law_293 ?_
        obtain ⟨hin34, h⟩ := h
        refine va_sld hx hb hX hbl hbA hw.2.2.1 hin34 dL_law_294 ?_
        refine lv_aload_n hx hb dL_law_295 rfl (lv_at hl 0 rfl) ?_
        refine lv_iload_n hx hb dL_law_296 rfl (lv_at hl 3 rfl) ?_
        refine lv_iconst (v := 2) hx hb dL_law_297 (by decide) ?_
        refine lv_iadd hx hb dL_law_298 ?_
        obtain ⟨hin35, h⟩ := h
        refine va_sld hx hb hX hbl hbA hw.2.2.1 hin35 dL_law_299 ?_
        refine lv_aload_n hx hb dL_law_300 rfl (lv_at hl 0 rfl) ?_
        refine lv_iload_n hx hb dL_law_301 rfl (lv_at hl 3 rfl) ?_
        refine lv_iconst (v := 3) hx hb dL_law_302 (by decide) ?_
        refine lv_iadd hx hb dL_law_303 ?_
        obtain ⟨hin36, h⟩ := h
        refine va_sld hx hb hX hbl hbA hw.2.2.1 hin36 dL_law_304 ?_
        refine q_calli hw (va_runV (As := [.int (xs (cl (v3 + (1 : Int32)))), .int (xs (cl (v3 + (2 : Int32)))), .int (xs (cl (v3 + (3 : Int32))))]) (rest := []) C (mX5_put l w cs (fun c h => hcs c (by omega)) _ G B (xs (cl (v3 + (1 : Int32)))) (xs (cl (v3 + (2 : Int32)))) (xs (cl (v3 + (3 : Int32)))) _ h) (cwV 3 hta (gVw kw_438 kw_439 kw_440 kw_30 kw_437) rfl rfl rfl (by decide +kernel) ⟨Nat.le_of_ble_eq_true rfl, Nat.le_of_ble_eq_true rfl⟩) (preV hK hw 0 (hcs _ (by omega)) (by unfold isB; omega) rfl rfl _) rfl rfl hl.1 rfl (lv_room (Nat.le_of_ble_eq_true rfl)) dL_law_305 ⟨Nat.le_of_ble_eq_true rfl, Nat.le_of_ble_eq_true rfl⟩) (fun r305 G305 B305 H locs h hw => ?_)
        obtain ⟨h, e2⟩ := h; subst e2
        refine lv_aload_n hx hb dL_law_308 rfl (lv_at hl 2 rfl) ?_
        refine lv_aload_n hx hb dL_law_309 rfl (lv_at hl 0 rfl) ?_
        refine lv_iload_n hx hb dL_law_310 rfl (lv_at hl 3 rfl) ?_
        refine lv_iconst (v := 1) hx hb dL_law_311 (by decide) ?_
        refine lv_iadd hx hb dL_law_312 ?_
        obtain ⟨hin37, h⟩ := h
        refine va_sld hx hb hX hbl hbA hw.2.2.1 hin37 dL_law_313 ?_
        refine lv_aload_n hx hb dL_law_314 rfl (lv_at hl 0 rfl) ?_
        refine lv_iload_n hx hb dL_law_315 rfl (lv_at hl 3 rfl) ?_
        refine lv_iconst (v := 2) hx hb dL_law_316 (by decide) ?_
        refine lv_iadd hx hb dL_law_317 ?_
        obtain ⟨hin38, h⟩ := h
        refine va_sld hx hb hX hbl hbA hw.2.2.1 hin38 dL_law_318 ?_
        refine lv_aload_n hx hb dL_law_319 rfl (lv_at hl 0 rfl) ?_
        refine lv_iload_n hx hb dL_law_320 rfl (lv_at hl 3 rfl) ?_
        refine lv_iconst (v := 3) hx hb dL_law_321 (by decide) ?_
        refine lv_iadd hx hb dL_law_322 ?_
        obtain ⟨hin39, h⟩ := h
        refine va_sld hx hb hX hbl hbA hw.2.2.1 hin39 dL_law_323 ?_
        refine q_calli hw (va_runV (As := [.int (xs (cl (v3 + (1 : Int32)))), .int (xs (cl (v3 + (2 : Int32)))), .int (xs (cl (v3 + (3 : Int32))))]) (rest := [.int r305]) C (mX6_put l w cs (fun c h => hcs c (by omega)) _ G305 B (xs (cl (v3 + (1 : Int32)))) (xs (cl (v3 + (2 : Int32)))) (xs (cl (v3 + (3 : Int32)))) _ h) (cwV 3 hta (gVw kw_442 kw_443 kw_444 kw_17 kw_441) rfl rfl rfl (by decide +kernel) ⟨Nat.le_of_ble_eq_true rfl, Nat.le_of_ble_eq_true rfl⟩) (preV hK hw 45 (hcs _ (by omega)) (by unfold isB; omega) rfl rfl _) rfl rfl hl.1 rfl (lv_room (Nat.le_of_ble_eq_true rfl)) dL_law_324 ⟨Nat.le_of_ble_eq_true rfl, Nat.le_of_ble_eq_true rfl⟩) (fun r324 G324 B324 H locs h hw => ?_)
        obtain ⟨h, e2⟩ := h; subst e2
        refine lv_icmp_eq (tgt := 792) hx hb dL_law_327 (by decide) (fun c40 => ?_) (fun c40 => ?_)
        · have h := h.1 c40
          refine lv_iinc (v := (v3 + (5 : Int32))) (lv' := [(3, .int (v3 + (5 : Int32))), (0, .ref b), (1, .ref (w.1 0)), (2, .ref (w.1 45))]) hx hb dL_law_792 hl (k := 3) rfl rfl (by decide) rfl (fun ls hl => ?_)
          refine lv_goto (tgt := 18) hx hb dL_law_795 (by decide) ?_
          exact ih (v3 + (5 : Int32)) G324 B _ _ _ h hw (lv_sub hl [1, 2, 3, 0] rfl)
        · have h := h.2 c40
          exact False.elim h
      have h := h.2
      by_cases c41 : ((xs (cl v3)) &&& (31 : Int32)) = 6
      · have h := h.1 c41
        refine lv_tableIn (tgt := 332) hx hb dL_law_32 (by rw [c41]; decide) (by rw [c41]; decide) (by rw [c41]; rfl) (by decide) ?_
        refine lv_aload_n hx hb dL_law_332 rfl (lv_at hl 1 rfl) ?_
        refine lv_aload_n hx hb dL_law_333 rfl (lv_at hl 0 rfl) ?_
        refine lv_iload_n hx hb dL_law_334 rfl (lv_at hl 3 rfl) ?_
        refine lv_iconst (v := 1) hx hb dL_law_335 (by decide) ?_
        refine lv_iadd hx hb dL_law_336 ?_
        obtain ⟨hin42, h⟩ := h
        refine va_sld hx hb hX hbl hbA hw.2.2.1 hin42 dL_law_337 ?_
        refine lv_aload_n hx hb dL_law_338 rfl (lv_at hl 0 rfl) ?_
        refine lv_iload_n hx hb dL_law_339 rfl (lv_at hl 3 rfl) ?_
        refine lv_iconst (v := 2) hx hb dL_law_340 (by decide) ?_
        refine lv_iadd hx hb dL_law_341 ?_
        obtain ⟨hin43, h⟩ := h
        refine va_sld hx hb hX hbl hbA hw.2.2.1 hin43 dL_law_342 ?_
        refine q_calli hw (va_runV (As := [.int (xs (cl (v3 + (1 : Int32)))), .int (xs (cl (v3 + (2 : Int32))))]) (rest := []) C (mX5_row l w cs (fun c h => hcs c (by omega)) _ G B (xs (cl (v3 + (1 : Int32)))) (xs (cl (v3 + (2 : Int32)))) _ h) (cwV 2 hta (gVw kw_446 kw_447 kw_448 kw_30 kw_445) rfl rfl rfl (by decide +kernel) ⟨Nat.le_of_ble_eq_true rfl, Nat.le_of_ble_eq_true rfl⟩) (preV hK hw 0 (hcs _ (by omega)) (by unfold isB; omega) rfl rfl _) rfl rfl hl.1 rfl (lv_room (Nat.le_of_ble_eq_true rfl)) dL_law_343 ⟨Nat.le_of_ble_eq_true rfl, Nat.le_of_ble_eq_true rfl⟩) (fun r343 G343 B343 H locs h hw => ?_)
        obtain ⟨h, e1, e2⟩ := h; subst e1; subst e2
        refine lv_aload_n hx hb dL_law_346 rfl (lv_at hl 2 rfl) ?_
        refine lv_aload_n hx hb dL_law_347 rfl (lv_at hl 0 rfl) ?_
        refine lv_iload_n hx hb dL_law_348 rfl (lv_at hl 3 rfl) ?_
        refine lv_iconst (v := 1) hx hb dL_law_349 (by decide) ?_
        refine lv_iadd hx hb dL_law_350 ?_
        obtain ⟨hin44, h⟩ := h
        refine va_sld hx hb hX hbl hbA hw.2.2.1 hin44 dL_law_351 ?_
        refine lv_aload_n hx hb dL_law_352 rfl (lv_at hl 0 rfl) ?_
        refine lv_iload_n hx hb dL_law_353 rfl (lv_at hl 3 rfl) ?_
        refine lv_iconst (v := 2) hx hb dL_law_354 (by decide) ?_
        refine lv_iadd hx hb dL_law_355 ?_
        obtain ⟨hin45, h⟩ := h
        refine va_sld hx hb hX hbl hbA hw.2.2.1 hin45 dL_law_356 ?_
        refine q_calli hw (va_runV (As := [.int (xs (cl (v3 + (1 : Int32)))), .int (xs (cl (v3 + (2 : Int32))))]) (rest := [.int r343]) C (mX6_row l w cs (fun c h => hcs c (by omega)) _ G B (xs (cl (v3 + (1 : Int32)))) (xs (cl (v3 + (2 : Int32)))) _ h) (cwV 2 hta (gVw kw_450 kw_451 kw_452 kw_17 kw_449) rfl rfl rfl (by decide +kernel) ⟨Nat.le_of_ble_eq_true rfl, Nat.le_of_ble_eq_true rfl⟩) (preV hK hw 45 (hcs _ (by omega)) (by unfold isB; omega) rfl rfl _) rfl rfl hl.1 rfl (lv_room (Nat.le_of_ble_eq_true rfl)) dL_law_357 ⟨Nat.le_of_ble_eq_true rfl, Nat.le_of_ble_eq_true rfl⟩) (fun r357 G357 B357 H locs h hw => ?_)
        obtain ⟨h, e1, e2⟩ := h; subst e1; subst e2
        refine lv_icmp_eq (tgt := 792) hx hb dL_law_360 (by decide) (fun c46 => ?_) (fun c46 => ?_)
        · have h := h.1 c46
          refine lv_iinc (v := (v3 + (5 : Int32))) (lv' := [(3, .int (v3 + (5 : Int32))), (0, .ref b), (1, .ref (w.1 0)), (2, .ref (w.1 45))]) hx hb dL_law_792 hl (k := 3) rfl rfl (by decide) rfl (fun ls hl => ?_)
          refine lv_goto (tgt := 18) hx hb dL_law_795 (by decide) ?_
          exact ih (v3 + (5 : Int32)) G B _ _ _ h hw (lv_sub hl [1, 2, 3, 0] rfl)
        · have h := h.2 c46
          exact False.elim h
      have h := h.2
      by_cases c47 : ((xs (cl v3)) &&& (31 : Int32)) = 7
      · have h := h.1 c47
        refine lv_tableIn (tgt := 365) hx hb dL_law_32 (by rw [c47]; decide) (by rw [c47]; decide) (by rw [c47]; rfl) (by decide) ?_
        refine lv_aload_n hx hb dL_law_365 rfl (lv_at hl 1 rfl) ?_
        refine lv_aload_n hx hb dL_law_366 rfl (lv_at hl 0 rfl) ?_
        refine lv_iload_n hx hb dL_law_367 rfl (lv_at hl 3 rfl) ?_
        refine lv_iconst (v := 1) hx hb dL_law_368 (by decide) ?_
        refine lv_iadd hx hb dL_law_369 ?_
        obtain ⟨hin48, h⟩ := h
        refine va_sld hx hb hX hbl hbA hw.2.2.1 hin48 dL_law_370 ?_
        refine lv_aload_n hx hb dL_law_371 rfl (lv_at hl 0 rfl) ?_
        refine lv_iload_n hx hb dL_law_372 rfl (lv_at hl 3 rfl) ?_
        refine lv_iconst (v := 2) hx hb dL_law_373 (by decide) ?_
        refine lv_iadd hx hb dL_law_374 ?_
        obtain ⟨hin49, h⟩ := h
        refine va_sld hx hb hX hbl hbA hw.2.2.1 hin49 dL_law_375 ?_
        refine lv_aload_n hx hb dL_law_376 rfl (lv_at hl 0 rfl) ?_
        refine lv_iload_n hx hb dL_law_377 rfl (lv_at hl 3 rfl) ?_
        refine lv_iconst (v := 3) hx hb dL_law_378 (by decide) ?_
        refine lv_iadd hx hb dL_law_379 ?_
        obtain ⟨hin50, h⟩ := h
        refine va_sld hx hb hX hbl hbA hw.2.2.1 hin50 dL_law_380 ?_
        refine q_calli hw (va_runV (As := [.int (xs (cl (v3 + (1 : Int32)))), .int (xs (cl (v3 + (2 : Int32)))), .int (xs (cl (v3 + (3 : Int32))))]) (rest := []) C (mX5_sum l w cs (fun c h => hcs c (by omega)) _ G B (xs (cl (v3 + (1 : Int32)))) (xs (cl (v3 + (2 : Int32)))) (xs (cl (v3 + (3 : Int32)))) _ h) (cwV 3 hta (gVw kw_454 kw_455 kw_456 kw_30 kw_453) rfl rfl rfl (by decide +kernel) ⟨Nat.le_of_ble_eq_true rfl, Nat.le_of_ble_eq_true rfl⟩) (preV hK hw 0 (hcs _ (by omega)) (by unfold isB; omega) rfl rfl _) rfl rfl hl.1 rfl (lv_room (Nat.le_of_ble_eq_true rfl)) dL_law_381 ⟨Nat.le_of_ble_eq_true rfl, Nat.le_of_ble_eq_true rfl⟩) (fun r381 G381 B381 H locs h hw => ?_)
        obtain ⟨h, e2⟩ := h; subst e2
        refine lv_aload_n hx hb dL_law_384 rfl (lv_at hl 2 rfl) ?_
        refine lv_aload_n hx hb dL_law_385 rfl (lv_at hl 0 rfl) ?_
        refine lv_iload_n hx hb dL_law_386 rfl (lv_at hl 3 rfl) ?_
        refine lv_iconst (v := 1) hx hb dL_law_387 (by decide) ?_
        refine lv_iadd hx hb dL_law_388 ?_
        obtain ⟨hin51, h⟩ := h
        refine va_sld hx hb hX hbl hbA hw.2.2.1 hin51 dL_law_389 ?_
        refine lv_aload_n hx hb dL_law_390 rfl (lv_at hl 0 rfl) ?_
        refine lv_iload_n hx hb dL_law_391 rfl (lv_at hl 3 rfl) ?_
        refine lv_iconst (v := 2) hx hb dL_law_392 (by decide) ?_
        refine lv_iadd hx hb dL_law_393 ?_
        obtain ⟨hin52, h⟩ := h
        refine va_sld hx hb hX hbl hbA hw.2.2.1 hin52 dL_law_394 ?_
        refine lv_aload_n hx hb dL_law_395 rfl (lv_at hl 0 rfl) ?_
        refine lv_iload_n hx hb dL_law_396 rfl (lv_at hl 3 rfl) ?_
        refine lv_iconst (v := 3) hx hb dL_law_397 (by decide) ?_
        refine lv_iadd hx hb dL_law_398 ?_
        obtain ⟨hin53, h⟩ := h
        refine va_sld hx hb hX hbl hbA hw.2.2.1 hin53 dL_law_399 ?_
        refine q_calli hw (va_runV (As := [.int (xs (cl (v3 + (1 : Int32)))), .int (xs (cl (v3 + (2 : Int32)))), .int (xs (cl (v3 + (3 : Int32))))]) (rest := [.int r381]) C (mX6_sum l w cs (fun c h => hcs c (by omega)) _ G381 B (xs (cl (v3 + (1 : Int32)))) (xs (cl (v3 + (2 : Int32)))) (xs (cl (v3 + (3 : Int32)))) _ h) (cwV 3 hta (gVw kw_458 kw_459 kw_460 kw_17 kw_457) rfl rfl rfl (by decide +kernel) ⟨Nat.le_of_ble_eq_true rfl, Nat.le_of_ble_eq_true rfl⟩) (preV hK hw 45 (hcs _ (by omega)) (by unfold isB; omega) rfl rfl _) rfl rfl hl.1 rfl (lv_room (Nat.le_of_ble_eq_true rfl)) dL_law_400 ⟨Nat.le_of_ble_eq_true rfl, Nat.le_of_ble_eq_true rfl⟩) (fun r400 G400 B400 H locs h hw => ?_)
        obtain ⟨h, e2⟩ := h; subst e2
        refine lv_icmp_eq (tgt := 792) hx hb dL_law_403 (by decide) (fun c54 => ?_) (fun c54 => ?_)
        · have h := h.1 c54
          refine lv_iinc (v := (v3 + (5 : Int32))) (lv' := [(3, .int (v3 + (5 : Int32))), (0, .ref b), (1, .ref (w.1 0)), (2, .ref (w.1 45))]) hx hb dL_law_792 hl (k := 3) rfl rfl (by decide) rfl (fun ls hl => ?_)
          refine lv_goto (tgt := 18) hx hb dL_law_795 (by decide) ?_
          exact ih (v3 + (5 : Int32)) G400 B _ _ _ h hw (lv_sub hl [1, 2, 3, 0] rfl)
        · have h := h.2 c54
          exact False.elim h
      have h := h.2
      by_cases c55 : ((xs (cl v3)) &&& (31 : Int32)) = 8
      · have h := h.1 c55
        refine lv_tableIn (tgt := 408) hx hb dL_law_32 (by rw [c55]; decide) (by rw [c55]; decide) (by rw [c55]; rfl) (by decide) ?_
        refine lv_aload_n hx hb dL_law_408 rfl (lv_at hl 1 rfl) ?_
        refine lv_aload_n hx hb dL_law_409 rfl (lv_at hl 0 rfl) ?_
        refine lv_iload_n hx hb dL_law_410 rfl (lv_at hl 3 rfl) ?_
        refine lv_iconst (v := 1) hx hb dL_law_411 (by decide) ?_
        refine lv_iadd hx hb dL_law_412 ?_
        obtain ⟨hin56, h⟩ := h
        refine va_sld hx hb hX hbl hbA hw.2.2.1 hin56 dL_law_413 ?_
        refine lv_aload_n hx hb dL_law_414 rfl (lv_at hl 0 rfl) ?_
        refine lv_iload_n hx hb dL_law_415 rfl (lv_at hl 3 rfl) ?_
        refine lv_iconst (v := 2) hx hb dL_law_416 (by decide) ?_
        refine lv_iadd hx hb dL_law_417 ?_
        obtain ⟨hin57, h⟩ := h
        refine va_sld hx hb hX hbl hbA hw.2.2.1 hin57 dL_law_418 ?_
        refine q_calli hw (va_runV (As := [.int (xs (cl (v3 + (1 : Int32)))), .int (xs (cl (v3 + (2 : Int32))))]) (rest := []) C (mX5_told l w cs (fun c h => hcs c (by omega)) _ G B (xs (cl (v3 + (1 : Int32)))) (xs (cl (v3 + (2 : Int32)))) _ h) (cwV 2 hta (gVw kw_462 kw_463 kw_464 kw_30 kw_461) rfl rfl rfl (by decide +kernel) ⟨Nat.le_of_ble_eq_true rfl, Nat.le_of_ble_eq_true rfl⟩) (preV hK hw 0 (hcs _ (by omega)) (by unfold isB; omega) rfl rfl _) rfl rfl hl.1 rfl (lv_room (Nat.le_of_ble_eq_true rfl)) dL_law_419 ⟨Nat.le_of_ble_eq_true rfl, Nat.le_of_ble_eq_true rfl⟩) (fun r419 G419 B419 H locs h hw => ?_)
        obtain ⟨h, e1, e2⟩ := h; subst e1; subst e2
        refine lv_aload_n hx hb dL_law_422 rfl (lv_at hl 2 rfl) ?_
        refine lv_aload_n hx hb dL_law_423 rfl (lv_at hl 0 rfl) ?_
        refine lv_iload_n hx hb dL_law_424 rfl (lv_at hl 3 rfl) ?_
        refine lv_iconst (v := 1) hx hb dL_law_425 (by decide) ?_
        refine lv_iadd hx hb dL_law_426 ?_
        obtain ⟨hin58, h⟩ := h
        refine va_sld hx hb hX hbl hbA hw.2.2.1 hin58 dL_law_427 ?_
        refine lv_aload_n hx hb dL_law_428 rfl (lv_at hl 0 rfl) ?_
        refine lv_iload_n hx hb dL_law_429 rfl (lv_at hl 3 rfl) ?_
        refine lv_iconst (v := 2) hx hb dL_law_430 (by decide) ?_
        refine lv_iadd hx hb dL_law_431 ?_
        obtain ⟨hin59, h⟩ := h
        refine va_sld hx hb hX hbl hbA hw.2.2.1 hin59 dL_law_432 ?_
        refine q_calli hw (va_runV (As := [.int (xs (cl (v3 + (1 : Int32)))), .int (xs (cl (v3 + (2 : Int32))))]) (rest := [.int r419]) C (mX6_told l w cs (fun c h => hcs c (by omega)) _ G B (xs (cl (v3 + (1 : Int32)))) (xs (cl (v3 + (2 : Int32)))) _ h) (cwV 2 hta (gVw kw_466 kw_467 kw_468 kw_17 kw_465) rfl rfl rfl (by decide +kernel) ⟨Nat.le_of_ble_eq_true rfl, Nat.le_of_ble_eq_true rfl⟩) (preV hK hw 45 (hcs _ (by omega)) (by unfold isB; omega) rfl rfl _) rfl rfl hl.1 rfl (lv_room (Nat.le_of_ble_eq_true rfl)) dL_law_433 ⟨Nat.le_of_ble_eq_true rfl, Nat.le_of_ble_eq_true rfl⟩) (fun r433 G433 B433 H locs h hw => ?_)
        obtain ⟨h, e1, e2⟩ := h; subst e1; subst e2
        refine lv_icmp_eq (tgt := 792) hx hb dL_law_436 (by decide) (fun c60 => ?_) (fun c60 => ?_)
        · have h := h.1 c60
          refine lv_iinc (v := (v3 + (5 : Int32))) (lv' := [(3, .int (v3 + (5 : Int32))), (0, .ref b), (1, .ref (w.1 0)), (2, .ref (w.1 45))]) hx hb dL_law_792 hl (k := 3) rfl rfl (by decide) rfl (fun ls hl => ?_)
          refine lv_goto (tgt := 18) hx hb dL_law_795 (by decide) ?_
          exact ih (v3 + (5 : Int32)) G B _ _ _ h hw (lv_sub hl [1, 2, 3, 0] rfl)
        · have h := h.2 c60
          exact False.elim h
      have h := h.2
      by_cases c61 : ((xs (cl v3)) &&& (31 : Int32)) = 9
      · have h := h.1 c61
        refine lv_tableIn (tgt := 441) hx hb dL_law_32 (by rw [c61]; decide) (by rw [c61]; decide) (by rw [c61]; rfl) (by decide) ?_
        refine lv_aload_n hx hb dL_law_441 rfl (lv_at hl 1 rfl) ?_
        refine lv_aload_n hx hb dL_law_442 rfl (lv_at hl 0 rfl) ?_
        refine lv_iload_n hx hb dL_law_443 rfl (lv_at hl 3 rfl) ?_
        refine lv_iconst (v := 1) hx hb dL_law_444 (by decide) ?_
        refine lv_iadd hx hb dL_law_445 ?_
        obtain ⟨hin62, h⟩ := h
        refine va_sld hx hb hX hbl hbA hw.2.2.1 hin62 dL_law_446 ?_
        refine lv_aload_n hx hb dL_law_447 rfl (lv_at hl 0 rfl) ?_
        refine lv_iload_n hx hb dL_law_448 rfl (lv_at hl 3 rfl) ?_
        refine lv_iconst (v := 2) hx hb dL_law_449 (by decide) ?_
        refine lv_iadd hx hb dL_law_450 ?_
        obtain ⟨hin63, h⟩ := h
        refine va_sld hx hb hX hbl hbA hw.2.2.1 hin63 dL_law_451 ?_
        refine q_calli hw (va_runV (As := [.int (xs (cl (v3 + (1 : Int32)))), .int (xs (cl (v3 + (2 : Int32))))]) (rest := []) C (mX5_tell l w cs (fun c h => hcs c (by omega)) _ G B (xs (cl (v3 + (1 : Int32)))) (xs (cl (v3 + (2 : Int32)))) _ h) (cwV 2 hta (gVw kw_470 kw_471 kw_472 kw_30 kw_469) rfl rfl rfl (by decide +kernel) ⟨Nat.le_of_ble_eq_true rfl, Nat.le_of_ble_eq_true rfl⟩) (preV hK hw 0 (hcs _ (by omega)) (by unfold isB; omega) rfl rfl _) rfl rfl hl.1 rfl (lv_room (Nat.le_of_ble_eq_true rfl)) dL_law_452 ⟨Nat.le_of_ble_eq_true rfl, Nat.le_of_ble_eq_true rfl⟩) (fun r452 G452 B452 H locs h hw => ?_)
        obtain ⟨h, e2⟩ := h; subst e2
        refine lv_aload_n hx hb dL_law_455 rfl (lv_at hl 2 rfl) ?_
        refine lv_aload_n hx hb dL_law_456 rfl (lv_at hl 0 rfl) ?_
        refine lv_iload_n hx hb dL_law_457 rfl (lv_at hl 3 rfl) ?_
        refine lv_iconst (v := 1) hx hb dL_law_458 (by decide) ?_
        refine lv_iadd hx hb dL_law_459 ?_
        obtain ⟨hin64, h⟩ := h
        refine va_sld hx hb hX hbl hbA hw.2.2.1 hin64 dL_law_460 ?_
        refine lv_aload_n hx hb dL_law_461 rfl (lv_at hl 0 rfl) ?_
        refine lv_iload_n hx hb dL_law_462 rfl (lv_at hl 3 rfl) ?_
        refine lv_iconst (v := 2) hx hb dL_law_463 (by decide) ?_
        refine lv_iadd hx hb dL_law_464 ?_
        obtain ⟨hin65, h⟩ := h
        refine va_sld hx hb hX hbl hbA hw.2.2.1 hin65 dL_law_465 ?_
        refine q_calli hw (va_runV (As := [.int (xs (cl (v3 + (1 : Int32)))), .int (xs (cl (v3 + (2 : Int32))))]) (rest := [.int r452]) C (mX6_tell l w cs (fun c h => hcs c (by omega)) _ G452 B (xs (cl (v3 + (1 : Int32)))) (xs (cl (v3 + (2 : Int32)))) _ h) (cwV 2 hta (gVw kw_474 kw_475 kw_476 kw_17 kw_473) rfl rfl rfl (by decide +kernel) ⟨Nat.le_of_ble_eq_true rfl, Nat.le_of_ble_eq_true rfl⟩) (preV hK hw 45 (hcs _ (by omega)) (by unfold isB; omega) rfl rfl _) rfl rfl hl.1 rfl (lv_room (Nat.le_of_ble_eq_true rfl)) dL_law_466 ⟨Nat.le_of_ble_eq_true rfl, Nat.le_of_ble_eq_true rfl⟩) (fun r466 G466 B466 H locs h hw => ?_)
        obtain ⟨h, e2⟩ := h; subst e2
        refine lv_icmp_eq (tgt := 792) hx hb dL_law_469 (by decide) (fun c66 => ?_) (fun c66 => ?_)
        · have h := h.1 c66
          refine lv_iinc (v := (v3 + (5 : Int32))) (lv' := [(3, .int (v3 + (5 : Int32))), (0, .ref b), (1, .ref (w.1 0)), (2, .ref (w.1 45))]) hx hb dL_law_792 hl (k := 3) rfl rfl (by decide) rfl (fun ls hl => ?_)
          refine lv_goto (tgt := 18) hx hb dL_law_795 (by decide) ?_
          exact ih (v3 + (5 : Int32)) G466 B _ _ _ h hw (lv_sub hl [1, 2, 3, 0] rfl)
        · have h := h.2 c66
          exact False.elim h
      have h := h.2
      by_cases c67 : ((xs (cl v3)) &&& (31 : Int32)) = 10
      · have h := h.1 c67
        refine lv_tableIn (tgt := 474) hx hb dL_law_32 (by rw [c67]; decide) (by rw [c67]; decide) (by rw [c67]; rfl) (by decide) ?_
        refine lv_aload_n hx hb dL_law_474 rfl (lv_at hl 1 rfl) ?_
        refine lv_aload_n hx hb dL_law_475 rfl (lv_at hl 0 rfl) ?_
        refine lv_iload_n hx hb dL_law_476 rfl (lv_at hl 3 rfl) ?_
        refine lv_iconst (v := 1) hx hb dL_law_477 (by decide) ?_
        refine lv_iadd hx hb dL_law_478 ?_
        obtain ⟨hin68, h⟩ := h
        refine va_sld hx hb hX hbl hbA hw.2.2.1 hin68 dL_law_479 ?_
        refine lv_aload_n hx hb dL_law_480 rfl (lv_at hl 0 rfl) ?_
        refine lv_iload_n hx hb dL_law_481 rfl (lv_at hl 3 rfl) ?_
        refine lv_iconst (v := 2) hx hb dL_law_482 (by decide) ?_
        refine lv_iadd hx hb dL_law_483 ?_
        obtain ⟨hin69, h⟩ := h
        refine va_sld hx hb hX hbl hbA hw.2.2.1 hin69 dL_law_484 ?_
        refine lv_aload_n hx hb dL_law_485 rfl (lv_at hl 0 rfl) ?_
        refine lv_iload_n hx hb dL_law_486 rfl (lv_at hl 3 rfl) ?_
        refine lv_iconst (v := 3) hx hb dL_law_487 (by decide) ?_
        refine lv_iadd hx hb dL_law_488 ?_
        obtain ⟨hin70, h⟩ := h
        refine va_sld hx hb hX hbl hbA hw.2.2.1 hin70 dL_law_489 ?_
        refine q_calli hw (va_runV (As := [.int (xs (cl (v3 + (1 : Int32)))), .int (xs (cl (v3 + (2 : Int32)))), .int (xs (cl (v3 + (3 : Int32))))]) (rest := []) C (mX5_find l w cs (fun c h => hcs c (by omega)) _ G B (xs (cl (v3 + (1 : Int32)))) (xs (cl (v3 + (2 : Int32)))) (xs (cl (v3 + (3 : Int32)))) _ h) (cwV 3 hta (gVw kw_478 kw_479 kw_480 kw_30 kw_477) rfl rfl rfl (by decide +kernel) ⟨Nat.le_of_ble_eq_true rfl, Nat.le_of_ble_eq_true rfl⟩) (preV hK hw 0 (hcs _ (by omega)) (by unfold isB; omega) rfl rfl _) rfl rfl hl.1 rfl (lv_room (Nat.le_of_ble_eq_true rfl)) dL_law_490 ⟨Nat.le_of_ble_eq_true rfl, Nat.le_of_ble_eq_true rfl⟩) (fun r490 G490 B490 H locs h hw => ?_)
        obtain ⟨h, e2⟩ := h; subst e2
        refine lv_aload_n hx hb dL_law_493 rfl (lv_at hl 2 rfl) ?_
        refine lv_aload_n hx hb dL_law_494 rfl (lv_at hl 0 rfl) ?_
        refine lv_iload_n hx hb dL_law_495 rfl (lv_at hl 3 rfl) ?_
        refine lv_iconst (v := 1) hx hb dL_law_496 (by decide) ?_
        refine lv_iadd hx hb dL_law_497 ?_
        obtain ⟨hin71, h⟩ := h
        refine va_sld hx hb hX hbl hbA hw.2.2.1 hin71 dL_law_498 ?_
        refine lv_aload_n hx hb dL_law_499 rfl (lv_at hl 0 rfl) ?_
        refine lv_iload_n hx hb dL_law_500 rfl (lv_at hl 3 rfl) ?_
        refine lv_iconst (v := 2) hx hb dL_law_501 (by decide) ?_
        refine lv_iadd hx hb dL_law_502 ?_
        obtain ⟨hin72, h⟩ := h
        refine va_sld hx hb hX hbl hbA hw.2.2.1 hin72 dL_law_503 ?_
        refine lv_aload_n hx hb dL_law_504 rfl (lv_at hl 0 rfl) ?_
        refine lv_iload_n hx hb dL_law_505 rfl (lv_at hl 3 rfl) ?_
        refine lv_iconst (v := 3) hx hb dL_law_506 (by decide) ?_
        refine lv_iadd hx hb dL_law_507 ?_
        obtain ⟨hin73, h⟩ := h
        refine va_sld hx hb hX hbl hbA hw.2.2.1 hin73 dL_law_508 ?_
        refine q_calli hw (va_runV (As := [.int (xs (cl (v3 + (1 : Int32)))), .int (xs (cl (v3 + (2 : Int32)))), .int (xs (cl (v3 + (3 : Int32))))]) (rest := [.int r490]) C (mX6_find l w cs (fun c h => hcs c (by omega)) _ G490 B (xs (cl (v3 + (1 : Int32)))) (xs (cl (v3 + (2 : Int32)))) (xs (cl (v3 + (3 : Int32)))) _ h) (cwV 3 hta (gVw kw_482 kw_483 kw_484 kw_17 kw_481) rfl rfl rfl (by decide +kernel) ⟨Nat.le_of_ble_eq_true rfl, Nat.le_of_ble_eq_true rfl⟩) (preV hK hw 45 (hcs _ (by omega)) (by unfold isB; omega) rfl rfl _) rfl rfl hl.1 rfl (lv_room (Nat.le_of_ble_eq_true rfl)) dL_law_509 ⟨Nat.le_of_ble_eq_true rfl, Nat.le_of_ble_eq_true rfl⟩) (fun r509 G509 B509 H locs h hw => ?_)
        obtain ⟨h, e2⟩ := h; subst e2
        refine lv_icmp_eq (tgt := 792) hx hb dL_law_512 (by decide) (fun c74 => ?_) (fun c74 => ?_)
        · have h := h.1 c74
          refine lv_iinc (v := (v3 + (5 : Int32))) (lv' := [(3, .int (v3 + (5 : Int32))), (0, .ref b), (1, .ref (w.1 0)), (2, .ref (w.1 45))]) hx hb dL_law_792 hl (k := 3) rfl rfl (by decide) rfl (fun ls hl => ?_)
          refine lv_goto (tgt := 18) hx hb dL_law_795 (by decide) ?_
          exact ih (v3 + (5 : Int32)) G509 B _ _ _ h hw (lv_sub hl [1, 2, 3, 0] rfl)
        · have h := h.2 c74
          exact False.elim h
      have h := h.2
      by_cases c75 : ((xs (cl v3)) &&& (31 : Int32)) = 11
      · have h := h.1 c75
        refine lv_tableIn (tgt := 517) hx hb dL_law_32 (by rw [c75]; decide) (by rw [c75]; decide) (by rw [c75]; rfl) (by decide) ?_
        refine lv_aload_n hx hb dL_law_517 rfl (lv_at hl 1 rfl) ?_
        refine lv_aload_n hx hb dL_law_518 rfl (lv_at hl 0 rfl) ?_
        refine lv_iload_n hx hb dL_law_519 rfl (lv_at hl 3 rfl) ?_
        refine lv_iconst (v := 1) hx hb dL_law_520 (by decide) ?_
        refine lv_iadd hx hb dL_law_521 ?_
        obtain ⟨hin76, h⟩ := h
        refine va_sld hx hb hX hbl hbA hw.2.2.1 hin76 dL_law_522 ?_
        refine lv_aload_n hx hb dL_law_523 rfl (lv_at hl 0 rfl) ?_
        refine lv_iload_n hx hb dL_law_524 rfl (lv_at hl 3 rfl) ?_
        refine lv_iconst (v := 2) hx hb dL_law_525 (by decide) ?_
        refine lv_iadd hx hb dL_law_526 ?_
        obtain ⟨hin77, h⟩ := h
        refine va_sld hx hb hX hbl hbA hw.2.2.1 hin77 dL_law_527 ?_
        refine lv_aload_n hx hb dL_law_528 rfl (lv_at hl 0 rfl) ?_
        refine lv_iload_n hx hb dL_law_529 rfl (lv_at hl 3 rfl) ?_
        refine lv_iconst (v := 3) hx hb dL_law_530 (by decide) ?_
        refine lv_iadd hx hb dL_law_531 ?_
        obtain ⟨hin78, h⟩ := h
        refine va_sld hx hb hX hbl hbA hw.2.2.1 hin78 dL_law_532 ?_
        refine lv_aload_n hx hb dL_law_533 rfl (lv_at hl 0 rfl) ?_
        refine lv_iload_n hx hb dL_law_534 rfl (lv_at hl 3 rfl) ?_
        refine lv_iconst (v := 4) hx hb dL_law_535 (by decide) ?_
        refine lv_iadd hx hb dL_law_536 ?_
        obtain ⟨hin79, h⟩ := h
        refine va_sld hx hb hX hbl hbA hw.2.2.1 hin79 dL_law_537 ?_
        refine q_calli hw (va_runV (As := [.int (xs (cl (v3 + (1 : Int32)))), .int (xs (cl (v3 + (2 : Int32)))), .int (xs (cl (v3 + (3 : Int32)))), .int (xs (cl (v3 + (4 : Int32))))]) (rest := []) C (mX5_miss l w cs (fun c h => hcs c (by omega)) _ G B (xs (cl (v3 + (1 : Int32)))) (xs (cl (v3 + (2 : Int32)))) (xs (cl (v3 + (3 : Int32)))) (xs (cl (v3 + (4 : Int32)))) _ h) (cwV 4 hta (gVw kw_486 kw_487 kw_488 kw_30 kw_485) rfl rfl rfl (by decide +kernel) ⟨Nat.le_of_ble_eq_true rfl, Nat.le_of_ble_eq_true rfl⟩) (preV hK hw 0 (hcs _ (by omega)) (by unfold isB; omega) rfl rfl _) rfl rfl hl.1 rfl (lv_room (Nat.le_of_ble_eq_true rfl)) dL_law_538 ⟨Nat.le_of_ble_eq_true rfl, Nat.le_of_ble_eq_true rfl⟩) (fun r538 G538 B538 H locs h hw => ?_)
        obtain ⟨h, e2⟩ := h; subst e2
        refine lv_aload_n hx hb dL_law_541 rfl (lv_at hl 2 rfl) ?_
        refine lv_aload_n hx hb dL_law_542 rfl (lv_at hl 0 rfl) ?_
        refine lv_iload_n hx hb dL_law_543 rfl (lv_at hl 3 rfl) ?_
        refine lv_iconst (v := 1) hx hb dL_law_544 (by decide) ?_
        refine lv_iadd hx hb dL_law_545 ?_
        obtain ⟨hin80, h⟩ := h
        refine va_sld hx hb hX hbl hbA hw.2.2.1 hin80 dL_law_546 ?_
        refine lv_aload_n hx hb dL_law_547 rfl (lv_at hl 0 rfl) ?_
        refine lv_iload_n hx hb dL_law_548 rfl (lv_at hl 3 rfl) ?_
        refine lv_iconst (v := 2) hx hb dL_law_549 (by decide) ?_
        refine lv_iadd hx hb dL_law_550 ?_
        obtain ⟨hin81, h⟩ := h
        refine va_sld hx hb hX hbl hbA hw.2.2.1 hin81 dL_law_551 ?_
        refine lv_aload_n hx hb dL_law_552 rfl (lv_at hl 0 rfl) ?_
        refine lv_iload_n hx hb dL_law_553 rfl (lv_at hl 3 rfl) ?_
        refine lv_iconst (v := 3) hx hb dL_law_554 (by decide) ?_
        refine lv_iadd hx hb dL_law_555 ?_
        obtain ⟨hin82, h⟩ := h
        refine va_sld hx hb hX hbl hbA hw.2.2.1 hin82 dL_law_556 ?_
        refine lv_aload_n hx hb dL_law_557 rfl (lv_at hl 0 rfl) ?_
        refine lv_iload_n hx hb dL_law_558 rfl (lv_at hl 3 rfl) ?_
        refine lv_iconst (v := 4) hx hb dL_law_559 (by decide) ?_
        refine lv_iadd hx hb dL_law_560 ?_
        obtain ⟨hin83, h⟩ := h
        refine va_sld hx hb hX hbl hbA hw.2.2.1 hin83 dL_law_561 ?_
        refine q_calli hw (va_runV (As := [.int (xs (cl (v3 + (1 : Int32)))), .int (xs (cl (v3 + (2 : Int32)))), .int (xs (cl (v3 + (3 : Int32)))), .int (xs (cl (v3 + (4 : Int32))))]) (rest := [.int r538]) C (mX6_miss l w cs (fun c h => hcs c (by omega)) _ G538 B (xs (cl (v3 + (1 : Int32)))) (xs (cl (v3 + (2 : Int32)))) (xs (cl (v3 + (3 : Int32)))) (xs (cl (v3 + (4 : Int32)))) _ h) (cwV 4 hta (gVw kw_490 kw_491 kw_492 kw_17 kw_489) rfl rfl rfl (by decide +kernel) ⟨Nat.le_of_ble_eq_true rfl, Nat.le_of_ble_eq_true rfl⟩) (preV hK hw 45 (hcs _ (by omega)) (by unfold isB; omega) rfl rfl _) rfl rfl hl.1 rfl (lv_room (Nat.le_of_ble_eq_true rfl)) dL_law_562 ⟨Nat.le_of_ble_eq_true rfl, Nat.le_of_ble_eq_true rfl⟩) (fun r562 G562 B562 H locs h hw => ?_)
        obtain ⟨h, e2⟩ := h; subst e2
        refine lv_icmp_eq (tgt := 792) hx hb dL_law_565 (by decide) (fun c84 => ?_) (fun c84 => ?_)
        · have h := h.1 c84
          refine lv_iinc (v := (v3 + (5 : Int32))) (lv' := [(3, .int (v3 + (5 : Int32))), (0, .ref b), (1, .ref (w.1 0)), (2, .ref (w.1 45))]) hx hb dL_law_792 hl (k := 3) rfl rfl (by decide) rfl (fun ls hl => ?_)
          refine lv_goto (tgt := 18) hx hb dL_law_795 (by decide) ?_
          exact ih (v3 + (5 : Int32)) G562 B _ _ _ h hw (lv_sub hl [1, 2, 3, 0] rfl)
        · have h := h.2 c84
          exact False.elim h
      have h := h.2
      by_cases c85 : ((xs (cl v3)) &&& (31 : Int32)) = 12
      · have h := h.1 c85
        refine lv_tableIn (tgt := 570) hx hb dL_law_32 (by rw [c85]; decide) (by rw [c85]; decide) (by rw [c85]; rfl) (by decide) ?_
        refine lv_aload_n hx hb dL_law_570 rfl (lv_at hl 1 rfl) ?_
        refine lv_aload_n hx hb dL_law_571 rfl (lv_at hl 0 rfl) ?_
        refine lv_iload_n hx hb dL_law_572 rfl (lv_at hl 3 rfl) ?_
        refine lv_iconst (v := 1) hx hb dL_law_573 (by decide) ?_
        refine lv_iadd hx hb dL_law_574 ?_
        obtain ⟨hin86, h⟩ := h
        refine va_sld hx hb hX hbl hbA hw.2.2.1 hin86 dL_law_575 ?_
        refine lv_aload_n hx hb dL_law_576 rfl (lv_at hl 0 rfl) ?_
        refine lv_iload_n hx hb dL_law_577 rfl (lv_at hl 3 rfl) ?_
        refine lv_iconst (v := 2) hx hb dL_law_578 (by decide) ?_
        refine lv_iadd hx hb dL_law_579 ?_
        obtain ⟨hin87, h⟩ := h
        refine va_sld hx hb hX hbl hbA hw.2.2.1 hin87 dL_law_580 ?_
        refine lv_aload_n hx hb dL_law_581 rfl (lv_at hl 0 rfl) ?_
        refine lv_iload_n hx hb dL_law_582 rfl (lv_at hl 3 rfl) ?_
        refine lv_iconst (v := 3) hx hb dL_law_583 (by decide) ?_
        refine lv_iadd hx hb dL_law_584 ?_
        obtain ⟨hin88, h⟩ := h
        refine va_sld hx hb hX hbl hbA hw.2.2.1 hin88 dL_law_585 ?_
        refine q_calli hw (va_runV (As := [.int (xs (cl (v3 + (1 : Int32)))), .int (xs (cl (v3 + (2 : Int32)))), .int (xs (cl (v3 + (3 : Int32))))]) (rest := []) C (mX5_greedy l w cs (fun c h => hcs c (by omega)) _ G B (xs (cl (v3 + (1 : Int32)))) (xs (cl (v3 + (2 : Int32)))) (xs (cl (v3 + (3 : Int32)))) _ h) (cwV 3 hta (gVw kw_494 kw_495 kw_496 kw_30 kw_493) rfl rfl rfl (by decide +kernel) ⟨Nat.le_of_ble_eq_true rfl, Nat.le_of_ble_eq_true rfl⟩) (preV hK hw 0 (hcs _ (by omega)) (by unfold isB; omega) rfl rfl _) rfl rfl hl.1 rfl (lv_room (Nat.le_of_ble_eq_true rfl)) dL_law_586 ⟨Nat.le_of_ble_eq_true rfl, Nat.le_of_ble_eq_true rfl⟩) (fun r586 G586 B586 H locs h hw => ?_)
        obtain ⟨h, e2⟩ := h; subst e2
        refine lv_aload_n hx hb dL_law_589 rfl (lv_at hl 2 rfl) ?_
        refine lv_aload_n hx hb dL_law_590 rfl (lv_at hl 0 rfl) ?_
        refine lv_iload_n hx hb dL_law_591 rfl (lv_at hl 3 rfl) ?_
        refine lv_iconst (v := 1) hx hb dL_law_592 (by decide) ?_
        refine lv_iadd hx hb dL_law_593 ?_
        obtain ⟨hin89, h⟩ := h
        refine va_sld hx hb hX hbl hbA hw.2.2.1 hin89 dL_law_594 ?_
        refine lv_aload_n hx hb dL_law_595 rfl (lv_at hl 0 rfl) ?_
        refine lv_iload_n hx hb dL_law_596 rfl (lv_at hl 3 rfl) ?_
        refine lv_iconst (v := 2) hx hb dL_law_597 (by decide) ?_
        refine lv_iadd hx hb dL_law_598 ?_
        obtain ⟨hin90, h⟩ := h
        refine va_sld hx hb hX hbl hbA hw.2.2.1 hin90 dL_law_599 ?_
        refine lv_aload_n hx hb dL_law_600 rfl (lv_at hl 0 rfl) ?_
        refine lv_iload_n hx hb dL_law_601 rfl (lv_at hl 3 rfl) ?_
        refine lv_iconst (v := 3) hx hb dL_law_602 (by decide) ?_
        refine lv_iadd hx hb dL_law_603 ?_
        obtain ⟨hin91, h⟩ := h
        refine va_sld hx hb hX hbl hbA hw.2.2.1 hin91 dL_law_604 ?_
        refine q_calli hw (va_runV (As := [.int (xs (cl (v3 + (1 : Int32)))), .int (xs (cl (v3 + (2 : Int32)))), .int (xs (cl (v3 + (3 : Int32))))]) (rest := [.int r586]) C (mX6_greedy l w cs (fun c h => hcs c (by omega)) _ G586 B (xs (cl (v3 + (1 : Int32)))) (xs (cl (v3 + (2 : Int32)))) (xs (cl (v3 + (3 : Int32)))) _ h) (cwV 3 hta (gVw kw_498 kw_499 kw_500 kw_17 kw_497) rfl rfl rfl (by decide +kernel) ⟨Nat.le_of_ble_eq_true rfl, Nat.le_of_ble_eq_true rfl⟩) (preV hK hw 45 (hcs _ (by omega)) (by unfold isB; omega) rfl rfl _) rfl rfl hl.1 rfl (lv_room (Nat.le_of_ble_eq_true rfl)) dL_law_605 ⟨Nat.le_of_ble_eq_true rfl, Nat.le_of_ble_eq_true rfl⟩) (fun r605 G605 B605 H locs h hw => ?_)
        obtain ⟨h, e2⟩ := h; subst e2
        refine lv_icmp_eq (tgt := 792) hx hb dL_law_608 (by decide) (fun c92 => ?_) (fun c92 => ?_)
        · have h := h.1 c92
          refine lv_iinc (v := (v3 + (5 : Int32))) (lv' := [(3, .int (v3 + (5 : Int32))), (0, .ref b), (1, .ref (w.1 0)), (2, .ref (w.1 45))]) hx hb dL_law_792 hl (k := 3) rfl rfl (by decide) rfl (fun ls hl => ?_)
          refine lv_goto (tgt := 18) hx hb dL_law_795 (by decide) ?_
          exact ih (v3 + (5 : Int32)) G605 B _ _ _ h hw (lv_sub hl [1, 2, 3, 0] rfl)
        · have h := h.2 c92
          exact False.elim h
      have h := h.2
      by_cases c93 : ((xs (cl v3)) &&& (31 : Int32)) = 13
      · have h := h.1 c93
        refine lv_tableIn (tgt := 613) hx hb dL_law_32 (by rw [c93]; decide) (by rw [c93]; decide) (by rw [c93]; rfl) (by decide) ?_
        refine lv_aload_n hx hb dL_law_613 rfl (lv_at hl 1 rfl) ?_
        refine lv_aload_n hx hb dL_law_614 rfl (lv_at hl 0 rfl) ?_
        refine lv_iload_n hx hb dL_law_615 rfl (lv_at hl 3 rfl) ?_
        refine lv_iconst (v := 1) hx hb dL_law_616 (by decide) ?_
        refine lv_iadd hx hb dL_law_617 ?_
        obtain ⟨hin94, h⟩ := h
        refine va_sld hx hb hX hbl hbA hw.2.2.1 hin94 dL_law_618 ?_
        refine lv_aload_n hx hb dL_law_619 rfl (lv_at hl 0 rfl) ?_
        refine lv_iload_n hx hb dL_law_620 rfl (lv_at hl 3 rfl) ?_
        refine lv_iconst (v := 2) hx hb dL_law_621 (by decide) ?_
        refine lv_iadd hx hb dL_law_622 ?_
        obtain ⟨hin95, h⟩ := h
        refine va_sld hx hb hX hbl hbA hw.2.2.1 hin95 dL_law_623 ?_
        refine q_calli hw (va_runV (As := [.int (xs (cl (v3 + (1 : Int32)))), .int (xs (cl (v3 + (2 : Int32))))]) (rest := []) C (mX5_sketch l w cs (fun c h => hcs c (by omega)) _ G B (xs (cl (v3 + (1 : Int32)))) (xs (cl (v3 + (2 : Int32)))) _ h) (cwV 2 hta (gVw kw_502 kw_503 kw_504 kw_30 kw_501) rfl rfl rfl (by decide +kernel) ⟨Nat.le_of_ble_eq_true rfl, Nat.le_of_ble_eq_true rfl⟩) (preV hK hw 0 (hcs _ (by omega)) (by unfold isB; omega) rfl rfl _) rfl rfl hl.1 rfl (lv_room (Nat.le_of_ble_eq_true rfl)) dL_law_624 ⟨Nat.le_of_ble_eq_true rfl, Nat.le_of_ble_eq_true rfl⟩) (fun r624 G624 B624 H locs h hw => ?_)
        refine lv_aload_n hx hb dL_law_627 rfl (lv_at hl 2 rfl) ?_
        refine lv_aload_n hx hb dL_law_628 rfl (lv_at hl 0 rfl) ?_
        refine lv_iload_n hx hb dL_law_629 rfl (lv_at hl 3 rfl) ?_
        refine lv_iconst (v := 1) hx hb dL_law_630 (by decide) ?_
        refine lv_iadd hx hb dL_law_631 ?_
        obtain ⟨hin96, h⟩ := h
        refine va_sld hx hb hX hbl hbA hw.2.2.1 hin96 dL_law_632 ?_
        refine lv_aload_n hx hb dL_law_633 rfl (lv_at hl 0 rfl) ?_
        refine lv_iload_n hx hb dL_law_634 rfl (lv_at hl 3 rfl) ?_
        refine lv_iconst (v := 2) hx hb dL_law_635 (by decide) ?_
        refine lv_iadd hx hb dL_law_636 ?_
        obtain ⟨hin97, h⟩ := h
        refine va_sld hx hb hX hbl hbA hw.2.2.1 hin97 dL_law_637 ?_
        refine q_calli hw (va_runV (As := [.int (xs (cl (v3 + (1 : Int32)))), .int (xs (cl (v3 + (2 : Int32))))]) (rest := [.int r624]) C (mX6_sketch l w cs (fun c h => hcs c (by omega)) _ G624 B624 (xs (cl (v3 + (1 : Int32)))) (xs (cl (v3 + (2 : Int32)))) _ h) (cwV 2 hta (gVw kw_506 kw_507 kw_508 kw_17 kw_505) rfl rfl rfl (by decide +kernel) ⟨Nat.le_of_ble_eq_true rfl, Nat.le_of_ble_eq_true rfl⟩) (preV hK hw 45 (hcs _ (by omega)) (by unfold isB; omega) rfl rfl _) rfl rfl hl.1 rfl (lv_room (Nat.le_of_ble_eq_true rfl)) dL_law_638 ⟨Nat.le_of_ble_eq_true rfl, Nat.le_of_ble_eq_true rfl⟩) (fun r638 G638 B638 H locs h hw => ?_)
        refine lv_icmp_eq (tgt := 792) hx hb dL_law_641 (by decide) (fun c98 => ?_) (fun c98 => ?_)
        · have h := h.1 c98
          refine lv_iinc (v := (v3 + (5 : Int32))) (lv' := [(3, .int (v3 + (5 : Int32))), (0, .ref b), (1, .ref (w.1 0)), (2, .ref (w.1 45))]) hx hb dL_law_792 hl (k := 3) rfl rfl (by decide) rfl (fun ls hl => ?_)
          refine lv_goto (tgt := 18) hx hb dL_law_795 (by decide) ?_
          exact ih (v3 + (5 : Int32)) G638 B638 _ _ _ h hw (lv_sub hl [1, 2, 3, 0] rfl)
        · have h := h.2 c98
          exact False.elim h
      have h := h.2
      by_cases c99 : ((xs (cl v3)) &&& (31 : Int32)) = 14
      · have h := h.1 c99
        refine lv_tableIn (tgt := 646) hx hb dL_law_32 (by rw [c99]; decide) (by rw [c99]; decide) (by rw [c99]; rfl) (by decide) ?_
        refine lv_aload_n hx hb dL_law_646 rfl (lv_at hl 1 rfl) ?_
        refine lv_aload_n hx hb dL_law_647 rfl (lv_at hl 0 rfl) ?_
        refine lv_iload_n hx hb dL_law_648 rfl (lv_at hl 3 rfl) ?_
        refine lv_iconst (v := 1) hx hb dL_law_649 (by decide) ?_
        refine lv_iadd hx hb dL_law_650 ?_
        obtain ⟨hin100, h⟩ := h
        refine va_sld hx hb hX hbl hbA hw.2.2.1 hin100 dL_law_651 ?_
        refine lv_aload_n hx hb dL_law_652 rfl (lv_at hl 0 rfl) ?_
        refine lv_iload_n hx hb dL_law_653 rfl (lv_at hl 3 rfl) ?_
        refine lv_iconst (v := 2) hx hb dL_law_654 (by decide) ?_
        refine lv_iadd hx hb dL_law_655 ?_
        obtain ⟨hin101, h⟩ := h
        refine va_sld hx hb hX hbl hbA hw.2.2.1 hin101 dL_law_656 ?_
        refine q_calli hw (va_runV (As := [.int (xs (cl (v3 + (1 : Int32)))), .int (xs (cl (v3 + (2 : Int32))))]) (rest := []) C (mX5_add l w cs (fun c h => hcs c (by omega)) _ G B (xs (cl (v3 + (1 : Int32)))) (xs (cl (v3 + (2 : Int32)))) _ h) (cwV 2 hta (gVw kw_510 kw_511 kw_512 kw_30 kw_509) rfl rfl rfl (by decide +kernel) ⟨Nat.le_of_ble_eq_true rfl, Nat.le_of_ble_eq_true rfl⟩) (preV hK hw 0 (hcs _ (by omega)) (by unfold isB; omega) rfl rfl _) rfl rfl hl.1 rfl (lv_room (Nat.le_of_ble_eq_true rfl)) dL_law_657 ⟨Nat.le_of_ble_eq_true rfl, Nat.le_of_ble_eq_true rfl⟩) (fun r657 G657 B657 H locs h hw => ?_)
        refine lv_aload_n hx hb dL_law_660 rfl (lv_at hl 2 rfl) ?_
        refine lv_aload_n hx hb dL_law_661 rfl (lv_at hl 0 rfl) ?_
        refine lv_iload_n hx hb dL_law_662 rfl (lv_at hl 3 rfl) ?_
        refine lv_iconst (v := 1) hx hb dL_law_663 (by decide) ?_
        refine lv_iadd hx hb dL_law_664 ?_
        obtain ⟨hin102, h⟩ := h
        refine va_sld hx hb hX hbl hbA hw.2.2.1 hin102 dL_law_665 ?_
        refine lv_aload_n hx hb dL_law_666 rfl (lv_at hl 0 rfl) ?_
        refine lv_iload_n hx hb dL_law_667 rfl (lv_at hl 3 rfl) ?_
        refine lv_iconst (v := 2) hx hb dL_law_668 (by decide) ?_
        refine lv_iadd hx hb dL_law_669 ?_
        obtain ⟨hin103, h⟩ := h
        refine va_sld hx hb hX hbl hbA hw.2.2.1 hin103 dL_law_670 ?_
        refine q_calli hw (va_runV (As := [.int (xs (cl (v3 + (1 : Int32)))), .int (xs (cl (v3 + (2 : Int32))))]) (rest := [.int r657]) C (mX6_add l w cs (fun c h => hcs c (by omega)) _ G657 B657 (xs (cl (v3 + (1 : Int32)))) (xs (cl (v3 + (2 : Int32)))) _ h) (cwV 2 hta (gVw kw_514 kw_515 kw_516 kw_17 kw_513) rfl rfl rfl (by decide +kernel) ⟨Nat.le_of_ble_eq_true rfl, Nat.le_of_ble_eq_true rfl⟩) (preV hK hw 45 (hcs _ (by omega)) (by unfold isB; omega) rfl rfl _) rfl rfl hl.1 rfl (lv_room (Nat.le_of_ble_eq_true rfl)) dL_law_671 ⟨Nat.le_of_ble_eq_true rfl, Nat.le_of_ble_eq_true rfl⟩) (fun r671 G671 B671 H locs h hw => ?_)
        refine lv_icmp_eq (tgt := 792) hx hb dL_law_674 (by decide) (fun c104 => ?_) (fun c104 => ?_)
        · have h := h.1 c104
          refine lv_iinc (v := (v3 + (5 : Int32))) (lv' := [(3, .int (v3 + (5 : Int32))), (0, .ref b), (1, .ref (w.1 0)), (2, .ref (w.1 45))]) hx hb dL_law_792 hl (k := 3) rfl rfl (by decide) rfl (fun ls hl => ?_)
          refine lv_goto (tgt := 18) hx hb dL_law_795 (by decide) ?_
          exact ih (v3 + (5 : Int32)) G671 B671 _ _ _ h hw (lv_sub hl [1, 2, 3, 0] rfl)
        · have h := h.2 c104
          exact False.elim h
      have h := h.2
      by_cases c105 : ((xs (cl v3)) &&& (31 : Int32)) = 15
      · have h := h.1 c105
        refine lv_tableIn (tgt := 679) hx hb dL_law_32 (by rw [c105]; decide) (by rw [c105]; decide) (by rw [c105]; rfl) (by decide) ?_
        refine lv_aload_n hx hb dL_law_679 rfl (lv_at hl 1 rfl) ?_
        refine q_calli hw (va_runV (As := []) (rest := []) C (mX5_decode l w cs (fun c h => hcs c (by omega)) _ G B _ h) (cwV 0 hta (gVw kw_518 kw_519 kw_520 kw_30 kw_517) rfl rfl rfl (by decide +kernel) ⟨Nat.le_of_ble_eq_true rfl, Nat.le_of_ble_eq_true rfl⟩) (preV hK hw 0 (hcs _ (by omega)) (by unfold isB; omega) rfl rfl _) rfl rfl hl.1 rfl (lv_room (Nat.le_of_ble_eq_true rfl)) dL_law_680 ⟨Nat.le_of_ble_eq_true rfl, Nat.le_of_ble_eq_true rfl⟩) (fun r680 G680 B680 H locs h hw => ?_)
        refine lv_aload_n hx hb dL_law_683 rfl (lv_at hl 2 rfl) ?_
        refine q_calli hw (va_runV (As := []) (rest := [.int r680]) C (mX6_decode l w cs (fun c h => hcs c (by omega)) _ G680 B680 _ h) (cwV 0 hta (gVw kw_522 kw_523 kw_524 kw_17 kw_521) rfl rfl rfl (by decide +kernel) ⟨Nat.le_of_ble_eq_true rfl, Nat.le_of_ble_eq_true rfl⟩) (preV hK hw 45 (hcs _ (by omega)) (by unfold isB; omega) rfl rfl _) rfl rfl hl.1 rfl (lv_room (Nat.le_of_ble_eq_true rfl)) dL_law_684 ⟨Nat.le_of_ble_eq_true rfl, Nat.le_of_ble_eq_true rfl⟩) (fun r684 G684 B684 H locs h hw => ?_)
        refine lv_icmp_eq (tgt := 792) hx hb dL_law_687 (by decide) (fun c106 => ?_) (fun c106 => ?_)
        · have h := h.1 c106
          refine lv_iinc (v := (v3 + (5 : Int32))) (lv' := [(3, .int (v3 + (5 : Int32))), (0, .ref b), (1, .ref (w.1 0)), (2, .ref (w.1 45))]) hx hb dL_law_792 hl (k := 3) rfl rfl (by decide) rfl (fun ls hl => ?_)
          refine lv_goto (tgt := 18) hx hb dL_law_795 (by decide) ?_
          exact ih (v3 + (5 : Int32)) G684 B684 _ _ _ h hw (lv_sub hl [1, 2, 3, 0] rfl)
        · have h := h.2 c106
          exact False.elim h
      have h := h.2
      by_cases c107 : ((xs (cl v3)) &&& (31 : Int32)) = 16
      · have h := h.1 c107
        refine lv_tableIn (tgt := 692) hx hb dL_law_32 (by rw [c107]; decide) (by rw [c107]; decide) (by rw [c107]; rfl) (by decide) ?_
        refine lv_aload_n hx hb dL_law_692 rfl (lv_at hl 1 rfl) ?_
        refine lv_aload_n hx hb dL_law_693 rfl (lv_at hl 0 rfl) ?_
        refine lv_iload_n hx hb dL_law_694 rfl (lv_at hl 3 rfl) ?_
        refine lv_iconst (v := 1) hx hb dL_law_695 (by decide) ?_
        refine lv_iadd hx hb dL_law_696 ?_
        obtain ⟨hin108, h⟩ := h
        refine va_sld hx hb hX hbl hbA hw.2.2.1 hin108 dL_law_697 ?_
        refine lv_aload_n hx hb dL_law_698 rfl (lv_at hl 0 rfl) ?_
        refine lv_iload_n hx hb dL_law_699 rfl (lv_at hl 3 rfl) ?_
        refine lv_iconst (v := 2) hx hb dL_law_700 (by decide) ?_
        refine lv_iadd hx hb dL_law_701 ?_
        obtain ⟨hin109, h⟩ := h
        refine va_sld hx hb hX hbl hbA hw.2.2.1 hin109 dL_law_702 ?_
        refine q_calli hw (va_runV (As := [.int (xs (cl (v3 + (1 : Int32)))), .int (xs (cl (v3 + (2 : Int32))))]) (rest := []) C (mX5_decoded l w cs (fun c h => hcs c (by omega)) _ G B (xs (cl (v3 + (1 : Int32)))) (xs (cl (v3 + (2 : Int32)))) _ h) (cwV 2 hta (gVw kw_526 kw_527 kw_528 kw_30 kw_525) rfl rfl rfl (by decide +kernel) ⟨Nat.le_of_ble_eq_true rfl, Nat.le_of_ble_eq_true rfl⟩) (preV hK hw 0 (hcs _ (by omega)) (by unfold isB; omega) rfl rfl _) rfl rfl hl.1 rfl (lv_room (Nat.le_of_ble_eq_true rfl)) dL_law_703 ⟨Nat.le_of_ble_eq_true rfl, Nat.le_of_ble_eq_true rfl⟩) (fun r703 G703 B703 H locs h hw => ?_)
        obtain ⟨h, e1, e2⟩ := h; subst e1; subst e2
        refine lv_aload_n hx hb dL_law_706 rfl (lv_at hl 2 rfl) ?_
        refine lv_aload_n hx hb dL_law_707 rfl (lv_at hl 0 rfl) ?_
        refine lv_iload_n hx hb dL_law_708 rfl (lv_at hl 3 rfl) ?_
        refine lv_iconst (v := 1) hx hb dL_law_709 (by decide) ?_
        refine lv_iadd hx hb dL_law_710 ?_
        obtain ⟨hin110, h⟩ := h
        refine va_sld hx hb hX hbl hbA hw.2.2.1 hin110 dL_law_711 ?_
        refine lv_aload_n hx hb dL_law_712 rfl (lv_at hl 0 rfl) ?_
        refine lv_iload_n hx hb dL_law_713 rfl (lv_at hl 3 rfl) ?_
        refine lv_iconst (v := 2) hx hb dL_law_714 (by decide) ?_
        refine lv_iadd hx hb dL_law_715 ?_
        obtain ⟨hin111, h⟩ := h
        refine va_sld hx hb hX hbl hbA hw.2.2.1 hin111 dL_law_716 ?_
        refine q_calli hw (va_runV (As := [.int (xs (cl (v3 + (1 : Int32)))), .int (xs (cl (v3 + (2 : Int32))))]) (rest := [.int r703]) C (mX6_decoded l w cs (fun c h => hcs c (by omega)) _ G B (xs (cl (v3 + (1 : Int32)))) (xs (cl (v3 + (2 : Int32)))) _ h) (cwV 2 hta (gVw kw_530 kw_531 kw_532 kw_17 kw_529) rfl rfl rfl (by decide +kernel) ⟨Nat.le_of_ble_eq_true rfl, Nat.le_of_ble_eq_true rfl⟩) (preV hK hw 45 (hcs _ (by omega)) (by unfold isB; omega) rfl rfl _) rfl rfl hl.1 rfl (lv_room (Nat.le_of_ble_eq_true rfl)) dL_law_717 ⟨Nat.le_of_ble_eq_true rfl, Nat.le_of_ble_eq_true rfl⟩) (fun r717 G717 B717 H locs h hw => ?_)
        obtain ⟨h, e1, e2⟩ := h; subst e1; subst e2
        refine lv_icmp_eq (tgt := 792) hx hb dL_law_720 (by decide) (fun c112 => ?_) (fun c112 => ?_)
        · have h := h.1 c112
          refine lv_iinc (v := (v3 + (5 : Int32))) (lv' := [(3, .int (v3 + (5 : Int32))), (0, .ref b), (1, .ref (w.1 0)), (2, .ref (w.1 45))]) hx hb dL_law_792 hl (k := 3) rfl rfl (by decide) rfl (fun ls hl => ?_)
          refine lv_goto (tgt := 18) hx hb dL_law_795 (by decide) ?_
          exact ih (v3 + (5 : Int32)) G B _ _ _ h hw (lv_sub hl [1, 2, 3, 0] rfl)
        · have h := h.2 c112
          exact False.elim h
      have h := h.2
      by_cases c113 : ((xs (cl v3)) &&& (31 : Int32)) = 17
      · have h := h.1 c113
        refine lv_tableIn (tgt := 725) hx hb dL_law_32 (by rw [c113]; decide) (by rw [c113]; decide) (by rw [c113]; rfl) (by decide) ?_
        refine lv_aload_n hx hb dL_law_725 rfl (lv_at hl 1 rfl) ?_
        refine lv_aload_n hx hb dL_law_726 rfl (lv_at hl 0 rfl) ?_
        refine lv_iload_n hx hb dL_law_727 rfl (lv_at hl 3 rfl) ?_
        refine lv_iconst (v := 1) hx hb dL_law_728 (by decide) ?_
        refine lv_iadd hx hb dL_law_729 ?_
        obtain ⟨hin114, h⟩ := h
        refine va_sld hx hb hX hbl hbA hw.2.2.1 hin114 dL_law_730 ?_
        refine lv_aload_n hx hb dL_law_731 rfl (lv_at hl 0 rfl) ?_
        refine lv_iload_n hx hb dL_law_732 rfl (lv_at hl 3 rfl) ?_
        refine lv_iconst (v := 2) hx hb dL_law_733 (by decide) ?_
        refine lv_iadd hx hb dL_law_734 ?_
        obtain ⟨hin115, h⟩ := h
        refine va_sld hx hb hX hbl hbA hw.2.2.1 hin115 dL_law_735 ?_
        refine lv_aload_n hx hb dL_law_736 rfl (lv_at hl 0 rfl) ?_
        refine lv_iload_n hx hb dL_law_737 rfl (lv_at hl 3 rfl) ?_
        refine lv_iconst (v := 3) hx hb dL_law_738 (by decide) ?_
        refine lv_iadd hx hb dL_law_739 ?_
        obtain ⟨hin116, h⟩ := h
        refine va_sld hx hb hX hbl hbA hw.2.2.1 hin116 dL_law_740 ?_
        refine q_calll hw (va_runV (As := [.int (xs (cl (v3 + (1 : Int32)))), .int (xs (cl (v3 + (2 : Int32)))), .int (xs (cl (v3 + (3 : Int32))))]) (rest := []) C (mX5_bucket l w cs (fun c h => hcs c (by omega)) _ G B (xs (cl (v3 + (1 : Int32)))) (xs (cl (v3 + (2 : Int32)))) (xs (cl (v3 + (3 : Int32)))) _ h) (cwV 3 hta (gVw kw_534 kw_535 kw_536 kw_30 kw_533) rfl rfl rfl (by decide +kernel) ⟨Nat.le_of_ble_eq_true rfl, Nat.le_of_ble_eq_true rfl⟩) (preV hK hw 0 (hcs _ (by omega)) (by unfold isB; omega) rfl rfl _) rfl rfl hl.1 rfl (lv_room (Nat.le_of_ble_eq_true rfl)) dL_law_741 ⟨Nat.le_of_ble_eq_true rfl, Nat.le_of_ble_eq_true rfl⟩) (fun r741 G741 B741 H locs h hw => ?_)
        obtain ⟨h, e1, e2⟩ := h; subst e1; subst e2
        refine lv_aload_n hx hb dL_law_744 rfl (lv_at hl 2 rfl) ?_
        refine lv_aload_n hx hb dL_law_745 rfl (lv_at hl 0 rfl) ?_
        refine lv_iload_n hx hb dL_law_746 rfl (lv_at hl 3 rfl) ?_
        refine lv_iconst (v := 1) hx hb dL_law_747 (by decide) ?_
        refine lv_iadd hx hb dL_law_748 ?_
        obtain ⟨hin117, h⟩ := h
        refine va_sld hx hb hX hbl hbA hw.2.2.1 hin117 dL_law_749 ?_
        refine lv_aload_n hx hb dL_law_750 rfl (lv_at hl 0 rfl) ?_
        refine lv_iload_n hx hb dL_law_751 rfl (lv_at hl 3 rfl) ?_
        refine lv_iconst (v := 2) hx hb dL_law_752 (by decide) ?_
        refine lv_iadd hx hb dL_law_753 ?_
        obtain ⟨hin118, h⟩ := h
        refine va_sld hx hb hX hbl hbA hw.2.2.1 hin118 dL_law_754 ?_
        refine lv_aload_n hx hb dL_law_755 rfl (lv_at hl 0 rfl) ?_
        refine lv_iload_n hx hb dL_law_756 rfl (lv_at hl 3 rfl) ?_
        refine lv_iconst (v := 3) hx hb dL_law_757 (by decide) ?_
        refine lv_iadd hx hb dL_law_758 ?_
        obtain ⟨hin119, h⟩ := h
        refine va_sld hx hb hX hbl hbA hw.2.2.1 hin119 dL_law_759 ?_
        refine q_calll hw (va_runV (As := [.int (xs (cl (v3 + (1 : Int32)))), .int (xs (cl (v3 + (2 : Int32)))), .int (xs (cl (v3 + (3 : Int32))))]) (rest := [.long r741]) C (mX6_bucket l w cs (fun c h => hcs c (by omega)) _ G B (xs (cl (v3 + (1 : Int32)))) (xs (cl (v3 + (2 : Int32)))) (xs (cl (v3 + (3 : Int32)))) _ h) (cwV 3 hta (gVw kw_538 kw_539 kw_540 kw_17 kw_537) rfl rfl rfl (by decide +kernel) ⟨Nat.le_of_ble_eq_true rfl, Nat.le_of_ble_eq_true rfl⟩) (preV hK hw 45 (hcs _ (by omega)) (by unfold isB; omega) rfl rfl _) rfl rfl hl.1 rfl (lv_room (Nat.le_of_ble_eq_true rfl)) dL_law_760 ⟨Nat.le_of_ble_eq_true rfl, Nat.le_of_ble_eq_true rfl⟩) (fun r760 G760 B760 H locs h hw => ?_)
        obtain ⟨h, e1, e2⟩ := h; subst e1; subst e2
        refine W.lcmp hx hb dL_law_763 ?_
        refine lv_if_eq (tgt := 792) hx hb dL_law_764 (by decide) (fun c120 => ?_) (fun c120 => ?_)
        · have h := h.1 c120
          refine lv_iinc (v := (v3 + (5 : Int32))) (lv' := [(3, .int (v3 + (5 : Int32))), (0, .ref b), (1, .ref (w.1 0)), (2, .ref (w.1 45))]) hx hb dL_law_792 hl (k := 3) rfl rfl (by decide) rfl (fun ls hl => ?_)
          refine lv_goto (tgt := 18) hx hb dL_law_795 (by decide) ?_
          exact ih (v3 + (5 : Int32)) G B _ _ _ h hw (lv_sub hl [1, 2, 3, 0] rfl)
        · have h := h.2 c120
          exact False.elim h
      have h := h.2
      by_cases c121 : ((xs (cl v3)) &&& (31 : Int32)) = 18
      · have h := h.1 c121
        refine lv_tableIn (tgt := 769) hx hb dL_law_32 (by rw [c121]; decide) (by rw [c121]; decide) (by rw [c121]; rfl) (by decide) ?_
        refine lv_aload_n hx hb dL_law_769 rfl (lv_at hl 1 rfl) ?_
        refine lv_aload_n hx hb dL_law_770 rfl (lv_at hl 0 rfl) ?_
        refine lv_iload_n hx hb dL_law_771 rfl (lv_at hl 3 rfl) ?_
        refine lv_iconst (v := 1) hx hb dL_law_772 (by decide) ?_
        refine lv_iadd hx hb dL_law_773 ?_
        obtain ⟨hin122, h⟩ := h
        refine va_sld hx hb hX hbl hbA hw.2.2.1 hin122 dL_law_774 ?_
        refine q_calli hw (va_runV (As := [.int (xs (cl (v3 + (1 : Int32))))]) (rest := []) C (mX5_count l w cs (fun c h => hcs c (by omega)) _ G B (xs (cl (v3 + (1 : Int32)))) _ h) (cwV 1 hta (gVw kw_542 kw_543 kw_544 kw_30 kw_541) rfl rfl rfl (by decide +kernel) ⟨Nat.le_of_ble_eq_true rfl, Nat.le_of_ble_eq_true rfl⟩) (preV hK hw 0 (hcs _ (by omega)) (by unfold isB; omega) rfl rfl _) rfl rfl hl.1 rfl (lv_room (Nat.le_of_ble_eq_true rfl)) dL_law_775 ⟨Nat.le_of_ble_eq_true rfl, Nat.le_of_ble_eq_true rfl⟩) (fun r775 G775 B775 H locs h hw => ?_)
        obtain ⟨h, e1, e2⟩ := h; subst e1; subst e2
        refine lv_aload_n hx hb dL_law_778 rfl (lv_at hl 2 rfl) ?_
        refine lv_aload_n hx hb dL_law_779 rfl (lv_at hl 0 rfl) ?_
        refine lv_iload_n hx hb dL_law_780 rfl (lv_at hl 3 rfl) ?_
        refine lv_iconst (v := 1) hx hb dL_law_781 (by decide) ?_
        refine lv_iadd hx hb dL_law_782 ?_
        obtain ⟨hin123, h⟩ := h
        refine va_sld hx hb hX hbl hbA hw.2.2.1 hin123 dL_law_783 ?_
        refine q_calli hw (va_runV (As := [.int (xs (cl (v3 + (1 : Int32))))]) (rest := [.int r775]) C (mX6_count l w cs (fun c h => hcs c (by omega)) _ G B (xs (cl (v3 + (1 : Int32)))) _ h) (cwV 1 hta (gVw kw_546 kw_547 kw_548 kw_17 kw_545) rfl rfl rfl (by decide +kernel) ⟨Nat.le_of_ble_eq_true rfl, Nat.le_of_ble_eq_true rfl⟩) (preV hK hw 45 (hcs _ (by omega)) (by unfold isB; omega) rfl rfl _) rfl rfl hl.1 rfl (lv_room (Nat.le_of_ble_eq_true rfl)) dL_law_784 ⟨Nat.le_of_ble_eq_true rfl, Nat.le_of_ble_eq_true rfl⟩) (fun r784 G784 B784 H locs h hw => ?_)
        obtain ⟨h, e1, e2⟩ := h; subst e1; subst e2
        refine lv_icmp_eq (tgt := 792) hx hb dL_law_787 (by decide) (fun c124 => ?_) (fun c124 => ?_)
        · have h := h.1 c124
          refine lv_iinc (v := (v3 + (5 : Int32))) (lv' := [(3, .int (v3 + (5 : Int32))), (0, .ref b), (1, .ref (w.1 0)), (2, .ref (w.1 45))]) hx hb dL_law_792 hl (k := 3) rfl rfl (by decide) rfl (fun ls hl => ?_)
          refine lv_goto (tgt := 18) hx hb dL_law_795 (by decide) ?_
          exact ih (v3 + (5 : Int32)) G B _ _ _ h hw (lv_sub hl [1, 2, 3, 0] rfl)
        · have h := h.2 c124
          exact False.elim h
      have h := h.2
      have h := h ⟨c3, c11, c19, c23, c29, c33, c41, c47, c55, c61, c67, c75, c85, c93, c99, c105, c107, c113, c121⟩
      refine lv_tableOut (tgt := 792) hx hb dL_law_32 (tsw_out18 c3 c11 c19 c23 c29 c33 c41 c47 c55 c61 c67 c75 c85 c93 c99 c105 c107 c113 c121) (by decide) ?_
      refine lv_iinc (v := (v3 + (5 : Int32))) (lv' := [(3, .int (v3 + (5 : Int32))), (0, .ref b), (1, .ref (w.1 0)), (2, .ref (w.1 45))]) hx hb dL_law_792 hl (k := 3) rfl rfl (by decide) rfl (fun ls hl => ?_)
      refine lv_goto (tgt := 18) hx hb dL_law_795 (by decide) ?_
      exact ih (v3 + (5 : Int32)) G B _ _ _ h hw (lv_sub hl [1, 2, 3, 0] rfl)
