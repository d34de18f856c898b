def wX6_by (v1 : Int32) (G : GS) (P : Int32 → Prop) : Prop := (¬ (G 45 0) = 0 ∧ (∀ x6 : Int32, x6 = (v1 - v1 / (G 45 0) * (G 45 0)) → ((0 ≤ x6 → P x6) ∧ (¬ 0 ≤ x6 → P (x6 + (G 45 0))))))
set_option maxHeartbeats 4000000 in
set_option maxRecDepth 100000 in
theorem mX6_by (l : Launch) (w : WE) (cs : List Nat) (hcs : ∀ c, c < 56 → c ∈ cs) (sz : Nat) (G : GS) (B : BS) (v1 : Int32) (P : Int32 → Prop) (h : wX6_by v1 G P) : Met l yX6_by wsX6_by (rmW 0) (PcW w cs sz G B [.ref (w.1 45), .int v1]) (QI w cs sz (fun r G1 B1 => P r ∧ G = G1 ∧ B = B1)) 0 0 (AA w cs sz) := by
  refine metW (own := RX6) [.ref (w.1 45), .int v1] (by decide +kernel) rfl rfl (Nat.le_of_ble_eq_true rfl) ?_
  intro p e s m below meth c ls hsz C hr hK hw hl
  subst hsz
  have hx := C.1
  have hb := C.2.1
  have hown := C.2.2.2.1
  have hta := fun w h => C.2.2.2.2 w (List.mem_cons_of_mem _ h)
  have hl : lv_has ls 3 [(0, .ref (w.1 45)), (1, .int v1)] := hl
  refine lv_iload_n hx hb dX6_by_0 rfl (lv_at hl 1 rfl) ?_
  refine lv_aload_n hx hb dX6_by_1 rfl (lv_at hl 0 rfl) ?_
  refine q_get (v := .int (G 45 0)) (C := RX6) (T := TX6) (N := 17) (ci := 6) hx hb hta kw_X6 hown hK hw 45 (hcs _ (by omega)) (by unfold isB; omega) rfl rfl 0 (by decide) (hta _ kw_278) rfl rfl dX6_by_2 ?_
  obtain ⟨hz1, h⟩ := h
  refine lv_irem hx hb dX6_by_5 hz1 ?_
  refine lv_topi (fun x6 ex6 => ?_)
  have h := h x6 ex6
  refine lv_istore_n (lv' := [(2, .int x6), (0, .ref (w.1 45)), (1, .int v1)]) hx hb dX6_by_6 rfl hl (by decide) rfl (fun ls hl => ?_)
  refine lv_iload_n hx hb dX6_by_7 rfl (lv_at hl 0 rfl) ?_
  refine lv_if_ge (tgt := 20) hx hb dX6_by_8 (by decide) (fun c2 => ?_) (fun c2 => ?_)
  · have h := h.1 c2
    refine lv_iload_n hx hb dX6_by_20 rfl (lv_at hl 0 rfl) ?_
    exact q_reti hx hb hr hw ⟨h, rfl, rfl⟩ dX6_by_21
  · have h := h.2 c2
    refine lv_iload_n hx hb dX6_by_11 rfl (lv_at hl 0 rfl) ?_
    refine lv_aload_n hx hb dX6_by_12 rfl (lv_at hl 1 rfl) ?_
    refine q_get (v := .int (G 45 0)) (C := RX6) (T := TX6) (N := 17) (ci := 6) hx hb hta kw_X6 hown hK hw 45 (hcs _ (by omega)) (by unfold isB; omega) rfl rfl 0 (by decide) (hta _ kw_278) rfl rfl dX6_by_13 ?_
    refine lv_iadd hx hb dX6_by_16 ?_
    refine lv_goto (tgt := 21) hx hb dX6_by_17 (by decide) ?_
    exact q_reti hx hb hr hw ⟨h, rfl, rfl⟩ dX6_by_21
def wlX6_begin_51 (K80 : GS → Prop) : Nat → Int32 → GS → Prop
  | 0, _, _ => False
  | n51 + 1, v4, G => (((72 : Int32) ≤ v4 → K80 G) ∧ (¬ (72 : Int32) ≤ v4 → (vp_in v4 72 ∧ (∀ G65 : GS, G65 = wr G 46 (cl v4) (0 : Int32) → (vp_in v4 72 ∧ (∀ G73 : GS, G73 = wr G65 47 (cl v4) (0 : Int32) → wlX6_begin_51 K80 n51 (v4 + (1 : Int32)) G73))))))
def wlX6_begin_83 (K104 : GS → Prop) : Nat → Int32 → GS → Prop
  | 0, _, _ => False
  | n83 + 1, v4, G => (((36 : Int32) ≤ v4 → K104 G) ∧ (¬ (36 : Int32) ≤ v4 → (vp_in v4 36 ∧ (∀ G97 : GS, G97 = wr G 48 (cl v4) (0 : Int32) → wlX6_begin_83 K104 n83 (v4 + (1 : Int32)) G97))))
def wX6_begin (v1 : Int32) (v2 : Int32) (v3 : Int32) (G : GS) (P : Int32 → GS → Prop) : Prop := (wX6_isPrime v1 (fun r1 => ((r1 = 0 → P (-1 : Int32) G) ∧ (¬ r1 = 0 → (wX6_in v2.toInt64 (1 : Int64) (6 : Int64) (fun r13 => ((r13 = 0 → P (-1 : Int32) G) ∧ (¬ r13 = 0 → (wX6_in v3.toInt64 (1 : Int64) (12 : Int64) (fun r25 => ((¬ r25 = 0 → (∀ G35 : GS, G35 = wr G 45 0 v1 → (∀ G40 : GS, G40 = wr G35 45 1 v2 → (∀ G45 : GS, G45 = wr G40 45 2 v3 → (∃ z51 : Nat, wlX6_begin_51 (fun G_80 => (∃ z83 : Nat, wlX6_begin_83 (fun G_104 => P (0 : Int32) G_104) z83 (0 : Int32) G_80)) z51 (0 : Int32) G45))))) ∧ (r25 = 0 → P (-1 : Int32) G))))))))))))
set_option maxHeartbeats 4000000 in
set_option maxRecDepth 100000 in
theorem lX6_begin_51 {p : Program} {l : Launch} {e : Env} {s : State} {m : MethodId} {args : Array Value} {below : List Frame} {meth : Method} {c : Code} {Q : State → Prop} {w : WE} {cs : List Nat} {A : Nat → Prop} {H0 : Heap} (C : CallFix p m c cX6_begin 5 s args wsX6_begin RX6) (hK : KW w s) (hcs : ∀ c, c < 56 → c ∈ cs) (B : BS) {K80 : GS → Prop} (k80 : ∀ (G : GS) (H : Heap) (locs : List Loc) (ls : Array Slot), K80 G → WO w cs A H0 G B H locs → lv_has ls 5 [(0, .ref (w.1 45))] → W p l e (rmW 2) s m args below meth c H locs 0 0 Q (F0 m 80 ls [])) : ∀ (n : Nat) (v4 : Int32) (G : GS) (H : Heap) (locs : List Loc) (ls : Array Slot), wlX6_begin_51 K80 n v4 G → WO w cs A H0 G B H locs → lv_has ls 5 [(0, .ref (w.1 45)), (4, .int v4)] → W p l e (rmW 2) s m args below meth c H locs 0 0 Q (F0 m 51 ls []) := by
  have hx := C.1
  have hb := C.2.1
  have hown := C.2.2.2.1
  have hta := fun w h => C.2.2.2.2 w (List.mem_cons_of_mem _ h)
  intro n
  induction n with
  | zero => intro v4 G H locs ls h hw hl; exact False.elim h
  | succ n ih =>
    intro v4 G H locs ls h hw hl
    refine lv_iload hx hb dX6_begin_51 (lv_at hl 1 rfl) ?_
    refine lv_bipush (v := 72) hx hb dX6_begin_53 (by decide) ?_
    refine lv_icmp_ge (tgt := 80) hx hb dX6_begin_55 (by decide) (fun c4 => ?_) (fun c4 => ?_)
    · have h := h.1 c4
      exact k80 G _ _ _ h hw (lv_sub hl [0] rfl)
    · have h := h.2 c4
      refine lv_aload_n hx hb dX6_begin_58 rfl (lv_at hl 0 rfl) ?_
      refine q_get (v := .ref (w.1 46)) (C := RX6) (T := TX6) (N := 17) (ci := 6) hx hb hta kw_X6 hown hK hw 45 (hcs _ (by omega)) (by unfold isB; omega) rfl rfl 3 (by decide) (hta _ kw_286) rfl rfl dX6_begin_59 ?_
      refine lv_iload hx hb dX6_begin_62 (lv_at hl 1 rfl) ?_
      refine lv_iconst (v := 0) hx hb dX6_begin_64 (by decide) ?_
      obtain ⟨hin5, h⟩ := h
      refine q_iast (n := 72) hx hb hK hw (hcs _ (by omega)) (by unfold isI; omega) rfl hin5 dX6_begin_65 (fun H locs G65 eG65 hw => ?_)
      have h := h G65 eG65
      refine lv_aload_n hx hb dX6_begin_66 rfl (lv_at hl 0 rfl) ?_
      refine q_get (v := .ref (w.1 47)) (C := RX6) (T := TX6) (N := 17) (ci := 6) hx hb hta kw_X6 hown hK hw 45 (hcs _ (by omega)) (by unfold isB; omega) rfl rfl 4 (by decide) (hta _ kw_287) rfl rfl dX6_begin_67 ?_
      refine lv_iload hx hb dX6_begin_70 (lv_at hl 1 rfl) ?_
      refine lv_iconst (v := 0) hx hb dX6_begin_72 (by decide) ?_
      obtain ⟨hin6, h⟩ := h
      refine q_iast (n := 72) hx hb hK hw (hcs _ (by omega)) (by unfold isI; omega) rfl hin6 dX6_begin_73 (fun H locs G73 eG73 hw => ?_)
      have h := h G73 eG73
      refine lv_iinc (v := (v4 + (1 : Int32))) (lv' := [(4, .int (v4 + (1 : Int32))), (0, .ref (w.1 45))]) hx hb dX6_begin_74 hl (k := 1) rfl rfl (by decide) rfl (fun ls hl => ?_)
      refine lv_goto (tgt := 51) hx hb dX6_begin_77 (by decide) ?_
      exact ih (v4 + (1 : Int32)) G73 _ _ _ h hw (lv_sub hl [1, 0] rfl)
set_option maxHeartbeats 4000000 in
set_option maxRecDepth 100000 in
theorem lX6_begin_83 {p : Program} {l : Launch} {e : Env} {s : State} {m : MethodId} {args : Array Value} {below : List Frame} {meth : Method} {c : Code} {Q : State → Prop} {w : WE} {cs : List Nat} {A : Nat → Prop} {H0 : Heap} (C : CallFix p m c cX6_begin 5 s args wsX6_begin RX6) (hK : KW w s) (hcs : ∀ c, c < 56 → c ∈ cs) (B : BS) {K104 : GS → Prop} (k104 : ∀ (G : GS) (H : Heap) (locs : List Loc) (ls : Array Slot), K104 G → WO w cs A H0 G B H locs → lv_has ls 5 [] → W p l e (rmW 2) s m args below meth c H locs 0 0 Q (F0 m 104 ls [])) : ∀ (n : Nat) (v4 : Int32) (G : GS) (H : Heap) (locs : List Loc) (ls : Array Slot), wlX6_begin_83 K104 n v4 G → WO w cs A H0 G B H locs → lv_has ls 5 [(0, .ref (w.1 45)), (4, .int v4)] → W p l e (rmW 2) s m args below meth c H locs 0 0 Q (F0 m 83 ls []) := by
  have hx := C.1
  have hb := C.2.1
  have hown := C.2.2.2.1
  have hta := fun w h => C.2.2.2.2 w (List.mem_cons_of_mem _ h)
  intro n
  induction n with
  | zero => intro v4 G H locs ls h hw hl; exact False.elim h
  | succ n ih =>
    intro v4 G H locs ls h hw hl
    refine lv_iload hx hb dX6_begin_83 (lv_at hl 1 rfl) ?_
    refine lv_bipush (v := 36) hx hb dX6_begin_85 (by decide) ?_
    refine lv_icmp_ge (tgt := 104) hx hb dX6_begin_87 (by decide) (fun c7 => ?_) (fun c7 => ?_)
    · have h := h.1 c7
      exact k104 G _ _ _ h hw (lv_sub hl [] rfl)
    · have h := h.2 c7
      refine lv_aload_n hx hb dX6_begin_90 rfl (lv_at hl 0 rfl) ?_
      refine q_get (v := .ref (w.1 48)) (C := RX6) (T := TX6) (N := 17) (ci := 6) hx hb hta kw_X6 hown hK hw 45 (hcs _ (by omega)) (by unfold isB; omega) rfl rfl 5 (by decide) (hta _ kw_288) rfl rfl dX6_begin_91 ?_
      refine lv_iload hx hb dX6_begin_94 (lv_at hl 1 rfl) ?_
      refine lv_iconst (v := 0) hx hb dX6_begin_96 (by decide) ?_
      obtain ⟨hin8, h⟩ := h
      refine q_iast (n := 36) hx hb hK hw (hcs _ (by omega)) (by unfold isI; omega) rfl hin8 dX6_begin_97 (fun H locs G97 eG97 hw => ?_)
      have h := h G97 eG97
      refine lv_iinc (v := (v4 + (1 : Int32))) (lv' := [(4, .int (v4 + (1 : Int32))), (0, .ref (w.1 45))]) hx hb dX6_begin_98 hl (k := 1) rfl rfl (by decide) rfl (fun ls hl => ?_)
      refine lv_goto (tgt := 83) hx hb dX6_begin_101 (by decide) ?_
      exact ih (v4 + (1 : Int32)) G97 _ _ _ h hw (lv_sub hl [1, 0] rfl)
set_option maxHeartbeats 4000000 in
set_option maxRecDepth 100000 in
theorem mX6_begin (l : Launch) (w : WE) (cs : List Nat) (hcs : ∀ c, c < 56 → c ∈ cs) (sz : Nat) (G : GS) (B : BS) (v1 : Int32) (v2 : Int32) (v3 : Int32) (P : Int32 → GS → Prop) (h : wX6_begin v1 v2 v3 G P) : Met l yX6_begin wsX6_begin (rmW 2) (PcW w cs sz G B [.ref (w.1 45), .int v1, .int v2, .int v3]) (QI w cs sz (fun r G1 B1 => P r G1 ∧ B = B1)) 0 0 (AA w cs sz) := by
  refine metW (own := RX6) [.ref (w.1 45), .int v1, .int v2, .int v3] (by decide +kernel) rfl rfl (Nat.le_of_ble_eq_true rfl) ?_
  intro p e s m below meth c ls hsz C hr hK hw hl
  subst hsz
  have hx := C.1
  have hb := C.2.1
  have hown := C.2.2.2.1
  have hta := fun w h => C.2.2.2.2 w (List.mem_cons_of_mem _ h)
  have hl : lv_has ls 5 [(0, .ref (w.1 45)), (1, .int v1), (2, .int v2), (3, .int v3)] := hl
  refine lv_iload_n hx hb dX6_begin_0 rfl (lv_at hl 1 rfl) ?_
  refine q_calli hw (va_runS (As := [.int v1]) (rest := []) C (mX6_isPrime l w cs _ G B v1 _ h) (va_cwS 1 hta (gSw kw_280 kw_281 kw_17 kw_279) rfl rfl rfl (by decide +kernel) ⟨Nat.le_of_ble_eq_true rfl, Nat.le_of_ble_eq_true rfl⟩) (preS hK hw _) rfl rfl hl.1 rfl (lv_room (Nat.le_of_ble_eq_true rfl)) dX6_begin_1 ⟨Nat.le_refl 0, Nat.le_refl 0⟩) (fun r1 G1 B1 H locs h hw => ?_)
  obtain ⟨h, e1, e2⟩ := h; subst e1; subst e2
  refine lv_if_eq (tgt := 31) hx hb dX6_begin_4 (by decide) (fun c1 => ?_) (fun c1 => ?_)
  · have h := h.1 c1
    refine lv_iconst (v := -1) hx hb dX6_begin_31 (by decide) ?_
    exact q_reti hx hb hr hw ⟨h, rfl⟩ dX6_begin_32
  · have h := h.2 c1
    refine lv_iload_n hx hb dX6_begin_7 rfl (lv_at hl 2 rfl) ?_
    refine lv_i2l hx hb dX6_begin_8 rfl ?_
    refine lv_lconst (v := 1) hx hb dX6_begin_9 (by decide) ?_
    refine lv_ldc2 hx hb hown (hta _ kw_282) dX6_begin_10 ?_
    refine q_calli hw (va_runS (As := [.long v2.toInt64, .long (1 : Int64), .long (6 : Int64)]) (rest := []) C (mX6_in l w cs _ G B v2.toInt64 (1 : Int64) (6 : Int64) _ h) (va_cwS 3 hta (gSw kw_15 kw_16 kw_17 kw_14) rfl rfl rfl (by decide +kernel) ⟨Nat.le_of_ble_eq_true rfl, Nat.le_of_ble_eq_true rfl⟩) (preS hK hw _) rfl rfl hl.1 rfl (lv_room (Nat.le_of_ble_eq_true rfl)) dX6_begin_13 ⟨Nat.le_refl 0, Nat.le_refl 0⟩) (fun r13 G13 B13 H locs h hw => ?_)
    obtain ⟨h, e1, e2⟩ := h; subst e1; subst e2
    refine lv_if_eq (tgt := 31) hx hb dX6_begin_16 (by decide) (fun c2 => ?_) (fun c2 => ?_)
    · have h := h.1 c2
      refine lv_iconst (v := -1) hx hb dX6_begin_31 (by decide) ?_
      exact q_reti hx hb hr hw ⟨h, rfl⟩ dX6_begin_32
    · have h := h.2 c2
      refine lv_iload_n hx hb dX6_begin_19 rfl (lv_at hl 3 rfl) ?_
      refine lv_i2l hx hb dX6_begin_20 rfl ?_
      refine lv_lconst (v := 1) hx hb dX6_begin_21 (by decide) ?_
      refine lv_ldc2 hx hb hown (hta _ kw_283) dX6_begin_22 ?_
      refine q_calli hw (va_runS (As := [.long v3.toInt64, .long (1 : Int64), .long (12 : Int64)]) (rest := []) C (mX6_in l w cs _ G B v3.toInt64 (1 : Int64) (12 : Int64) _ h) (va_cwS 3 hta (gSw kw_15 kw_16 kw_17 kw_14) rfl rfl rfl (by decide +kernel) ⟨Nat.le_of_ble_eq_true rfl, Nat.le_of_ble_eq_true rfl⟩) (preS hK hw _) rfl rfl hl.1 rfl (lv_room (Nat.le_of_ble_eq_true rfl)) dX6_begin_25 ⟨Nat.le_refl 0, Nat.le_refl 0⟩) (fun r25 G25 B25 H locs h hw => ?_)
      obtain ⟨h, e1, e2⟩ := h; subst e1; subst e2
      refine lv_if_ne (tgt := 33) hx hb dX6_begin_28 (by decide) (fun c3 => ?_) (fun c3 => ?_)
      · have h := h.1 c3
        refine lv_aload_n hx hb dX6_begin_33 rfl (lv_at hl 0 rfl) ?_
        refine lv_iload_n hx hb dX6_begin_34 rfl (lv_at hl 1 rfl) ?_
        refine q_put (x := v1) (C := RX6) (T := TX6) (N := 17) (ci := 6) hx hb hta kw_X6 tyX6 tyX6_ok nmX6 hown hK hw 45 (hcs _ (by omega)) (by unfold isB; omega) rfl rfl 0 (by decide) (hta _ kw_278) rfl rfl rfl (Nat.le_of_ble_eq_true rfl) rfl dX6_begin_35 (fun H locs G35 eG35 hw => ?_)
        have h := h G35 eG35
        refine lv_aload_n hx hb dX6_begin_38 rfl (lv_at hl 0 rfl) ?_
        refine lv_iload_n hx hb dX6_begin_39 rfl (lv_at hl 2 rfl) ?_
        refine q_put (x := v2) (C := RX6) (T := TX6) (N := 17) (ci := 6) hx hb hta kw_X6 tyX6 tyX6_ok nmX6 hown hK hw 45 (hcs _ (by omega)) (by unfold isB; omega) rfl rfl 1 (by decide) (hta _ kw_284) rfl rfl rfl (Nat.le_of_ble_eq_true rfl) rfl dX6_begin_40 (fun H locs G40 eG40 hw => ?_)
        have h := h G40 eG40
        refine lv_aload_n hx hb dX6_begin_43 rfl (lv_at hl 0 rfl) ?_
        refine lv_iload_n hx hb dX6_begin_44 rfl (lv_at hl 3 rfl) ?_
        refine q_put (x := v3) (C := RX6) (T := TX6) (N := 17) (ci := 6) hx hb hta kw_X6 tyX6 tyX6_ok nmX6 hown hK hw 45 (hcs _ (by omega)) (by unfold isB; omega) rfl rfl 2 (by decide) (hta _ kw_285) rfl rfl rfl (Nat.le_of_ble_eq_true rfl) rfl dX6_begin_45 (fun H locs G45 eG45 hw => ?_)
        have h := h G45 eG45
        refine lv_iconst (v := 0) hx hb dX6_begin_48 (by decide) ?_
        refine lv_istore (lv' := [(4, .int (0 : Int32)), (0, .ref (w.1 45)), (1, .int v1), (2, .int v2), (3, .int v3)]) hx hb dX6_begin_49 hl (by decide) rfl (fun ls hl => ?_)
        obtain ⟨n51, h⟩ := h
        refine lX6_begin_51 C hK hcs B (K80 := _) ?_ n51 (0 : Int32) G45 _ _ _ h hw (lv_sub hl [1, 0] rfl)
        · intro G_80 H locs ls h hw hl
          refine lv_iconst (v := 0) hx hb dX6_begin_80 (by decide) ?_
          refine lv_istore (lv' := [(4, .int (0 : Int32)), (0, .ref (w.1 45))]) hx hb dX6_begin_81 hl (by decide) rfl (fun ls hl => ?_)
          obtain ⟨n83, h⟩ := h
          refine lX6_begin_83 C hK hcs B (K104 := _) ?_ n83 (0 : Int32) G_80 _ _ _ h hw (lv_sub hl [1, 0] rfl)
          · intro G_104 H locs ls h hw hl
            refine lv_iconst (v := 0) hx hb dX6_begin_104 (by decide) ?_
            exact q_reti hx hb hr hw ⟨h, rfl⟩ dX6_begin_105
      · have h := h.2 c3
        refine lv_iconst (v := -1) hx hb dX6_begin_31 (by decide) ?_
        exact q_reti hx hb hr hw ⟨h, rfl⟩ dX6_begin_32
def wX6_isPlace (v1 : Int32) (v2 : Int32) (G : GS) (P : Int32 → Prop) : Prop := (wX6_in v1.toInt64 (0 : Int64) ((G 45 1) - (1 : Int32)).toInt64 (fun r10 => ((r10 = 0 → P (0 : Int32)) ∧ (¬ r10 = 0 → (wX6_in v2.toInt64 (0 : Int64) ((G 45 2) - (1 : Int32)).toInt64 (fun r26 => ((r26 = 0 → P (0 : Int32)) ∧ (¬ r26 = 0 → P (1 : Int32)))))))))
set_option maxHeartbeats 4000000 in
set_option maxRecDepth 100000 in
theorem mX6_isPlace (l : Launch) (w : WE) (cs : List Nat) (hcs : ∀ c, c < 56 → c ∈ cs) (sz : Nat) (G : GS) (B : BS) (v1 : Int32) (v2 : Int32) (P : Int32 → Prop) (h : wX6_isPlace v1 v2 G P) : Met l yX6_isPlace wsX6_isPlace (rmW 1) (PcW w cs sz G B [.ref (w.1 45), .int v1, .int v2]) (QI w cs sz (fun r G1 B1 => P r ∧ G = G1 ∧ B = B1)) 0 0 (AA w cs sz) := by
  refine metW (own := RX6) [.ref (w.1 45), .int v1, .int v2] (by decide +kernel) rfl rfl (Nat.le_of_ble_eq_true rfl) ?_
  intro p e s m below meth c ls hsz C hr hK hw hl
  subst hsz
  have hx := C.1
  have hb := C.2.1
  have hown := C.2.2.2.1
  have hta := fun w h => C.2.2.2.2 w (List.mem_cons_of_mem _ h)
  have hl : lv_has ls 3 [(0, .ref (w.1 45)), (1, .int v1), (2, .int v2)] := hl
  refine lv_iload_n hx hb dX6_isPlace_0 rfl (lv_at hl 1 rfl) ?_
  refine lv_i2l hx hb dX6_isPlace_1 rfl ?_
  refine lv_lconst (v := 0) hx hb dX6_isPlace_2 (by decide) ?_
  refine lv_aload_n hx hb dX6_isPlace_3 rfl (lv_at hl 0 rfl) ?_
  refine q_get (v := .int (G 45 1)) (C := RX6) (T := TX6) (N := 17) (ci := 6) hx hb hta kw_X6 hown hK hw 45 (hcs _ (by omega)) (by unfold isB; omega) rfl rfl 1 (by decide) (hta _ kw_284) rfl rfl dX6_isPlace_4 ?_
  refine lv_iconst (v := 1) hx hb dX6_isPlace_7 (by decide) ?_
  refine lv_isub hx hb dX6_isPlace_8 ?_
  refine lv_i2l hx hb dX6_isPlace_9 rfl ?_
  refine q_calli hw (va_runS (As := [.long v1.toInt64, .long (0 : Int64), .long ((G 45 1) - (1 : Int32)).toInt64]) (rest := []) C (mX6_in l w cs _ G B v1.toInt64 (0 : Int64) ((G 45 1) - (1 : Int32)).toInt64 _ h) (va_cwS 3 hta (gSw kw_15 kw_16 kw_17 kw_14) rfl rfl rfl (by decide +kernel) ⟨Nat.le_of_ble_eq_true rfl, Nat.le_of_ble_eq_true rfl⟩) (preS hK hw _) rfl rfl hl.1 rfl (lv_room (Nat.le_of_ble_eq_true rfl)) dX6_isPlace_10 ⟨Nat.le_refl 0, Nat.le_refl 0⟩) (fun r10 G10 B10 H locs h hw => ?_)
  obtain ⟨h, e1, e2⟩ := h; subst e1; subst e2
  refine lv_if_eq (tgt := 36) hx hb dX6_isPlace_13 (by decide) (fun c1 => ?_) (fun c1 => ?_)
  · have h := h.1 c1
    refine lv_iconst (v := 0) hx hb dX6_isPlace_36 (by decide) ?_
    exact q_retz hx hb hr hw (Or.inl rfl) ⟨h, rfl, rfl⟩ dX6_isPlace_37
  · have h := h.2 c1
    refine lv_iload_n hx hb dX6_isPlace_16 rfl (lv_at hl 2 rfl) ?_
    refine lv_i2l hx hb dX6_isPlace_17 rfl ?_
    refine lv_lconst (v := 0) hx hb dX6_isPlace_18 (by decide) ?_
    refine lv_aload_n hx hb dX6_isPlace_19 rfl (lv_at hl 0 rfl) ?_
    refine q_get (v := .int (G 45 2)) (C := RX6) (T := TX6) (N := 17) (ci := 6) hx hb hta kw_X6 hown hK hw 45 (hcs _ (by omega)) (by unfold isB; omega) rfl rfl 2 (by decide) (hta _ kw_285) rfl rfl dX6_isPlace_20 ?_
    refine lv_iconst (v := 1) hx hb dX6_isPlace_23 (by decide) ?_
    refine lv_isub hx hb dX6_isPlace_24 ?_
    refine lv_i2l hx hb dX6_isPlace_25 rfl ?_
    refine q_calli hw (va_runS (As := [.long v2.toInt64, .long (0 : Int64), .long ((G 45 2) - (1 : Int32)).toInt64]) (rest := []) C (mX6_in l w cs _ G B v2.toInt64 (0 : Int64) ((G 45 2) - (1 : Int32)).toInt64 _ h) (va_cwS 3 hta (gSw kw_15 kw_16 kw_17 kw_14) rfl rfl rfl (by decide +kernel) ⟨Nat.le_of_ble_eq_true rfl, Nat.le_of_ble_eq_true rfl⟩) (preS hK hw _) rfl rfl hl.1 rfl (lv_room (Nat.le_of_ble_eq_true rfl)) dX6_isPlace_26 ⟨Nat.le_refl 0, Nat.le_refl 0⟩) (fun r26 G26 B26 H locs h hw => ?_)
    obtain ⟨h, e1, e2⟩ := h; subst e1; subst e2
    refine lv_if_eq (tgt := 36) hx hb dX6_isPlace_29 (by decide) (fun c2 => ?_) (fun c2 => ?_)
    · have h := h.1 c2
      refine lv_iconst (v := 0) hx hb dX6_isPlace_36 (by decide) ?_
      exact q_retz hx hb hr hw (Or.inl rfl) ⟨h, rfl, rfl⟩ dX6_isPlace_37
    · have h := h.2 c2
      refine lv_iconst (v := 1) hx hb dX6_isPlace_32 (by decide) ?_
      refine lv_goto (tgt := 37) hx hb dX6_isPlace_33 (by decide) ?_
      exact q_retz hx hb hr hw (Or.inr rfl) ⟨h, rfl, rfl⟩ dX6_isPlace_37
def wX6_set (v1 : Int32) (v2 : Int32) (v3 : Int32) (G : GS) (P : Int32 → GS → Prop) : Prop := (wX6_isPlace v1 v2 G (fun r3 => ((¬ r3 = 0 → (vp_in (((12 : Int32) * v1) + v2) 72 ∧ (∀ x22 : Int32, x22 = (G 46 (cl (((12 : Int32) * v1) + v2))) → (wX6_by v3 G (fun r36 => (vp_in (((12 : Int32) * v1) + v2) 72 ∧ (∀ G39 : GS, G39 = wr G 46 (cl (((12 : Int32) * v1) + v2)) r36 → P x22 G39))))))) ∧ (r3 = 0 → P (-1 : Int32) G))))
set_option maxHeartbeats 4000000 in
set_option maxRecDepth 100000 in
theorem mX6_set (l : Launch) (w : WE) (cs : List Nat) (hcs : ∀ c, c < 56 → c ∈ cs) (sz : Nat) (G : GS) (B : BS) (v1 : Int32) (v2 : Int32) (v3 : Int32) (P : Int32 → GS → Prop) (h : wX6_set v1 v2 v3 G P) : Met l yX6_set wsX6_set (rmW 2) (PcW w cs sz G B [.ref (w.1 45), .int v1, .int v2, .int v3]) (QI w cs sz (fun r G1 B1 => P r G1 ∧ B = B1)) 0 0 (AA w cs sz) := by
  refine metW (own := RX6) [.ref (w.1 45), .int v1, .int v2, .int v3] (by decide +kernel) rfl rfl (Nat.le_of_ble_eq_true rfl) ?_
  intro p e s m below meth c ls hsz C hr hK hw hl
  subst hsz
  have hx := C.1
  have hb := C.2.1
  have hown := C.2.2.2.1
  have hta := fun w h => C.2.2.2.2 w (List.mem_cons_of_mem _ h)
  have hl : lv_has ls 5 [(0, .ref (w.1 45)), (1, .int v1), (2, .int v2), (3, .int v3)] := hl
  refine lv_aload_n hx hb dX6_set_0 rfl (lv_at hl 0 rfl) ?_
  refine lv_iload_n hx hb dX6_set_1 rfl (lv_at hl 1 rfl) ?_
  refine lv_iload_n hx hb dX6_set_2 rfl (lv_at hl 2 rfl) ?_
  refine q_calli hw (va_runV (As := [.int v1, .int v2]) (rest := []) C (mX6_isPlace l w cs (fun c h => hcs c (by omega)) _ G B v1 v2 _ h) (cwV 2 hta (gVw kw_290 kw_291 kw_292 kw_17 kw_289) rfl rfl rfl (by decide +kernel) ⟨Nat.le_of_ble_eq_true rfl, Nat.le_of_ble_eq_true rfl⟩) (preV hK hw 45 (hcs _ (by omega)) (by unfold isB; omega) rfl rfl _) rfl rfl hl.1 rfl (lv_room (Nat.le_of_ble_eq_true rfl)) dX6_set_3 ⟨Nat.le_refl 0, Nat.le_refl 0⟩) (fun r3 G3 B3 H locs h hw => ?_)
  obtain ⟨h, e1, e2⟩ := h; subst e1; subst e2
  refine lv_if_ne (tgt := 11) hx hb dX6_set_6 (by decide) (fun c1 => ?_) (fun c1 => ?_)
  · have h := h.1 c1
    refine lv_aload_n hx hb dX6_set_11 rfl (lv_at hl 0 rfl) ?_
    refine q_get (v := .ref (w.1 46)) (C := RX6) (T := TX6) (N := 17) (ci := 6) hx hb hta kw_X6 hown hK hw 45 (hcs _ (by omega)) (by unfold isB; omega) rfl rfl 3 (by decide) (hta _ kw_286) rfl rfl dX6_set_12 ?_
    refine lv_bipush (v := 12) hx hb dX6_set_15 (by decide) ?_
    refine lv_iload_n hx hb dX6_set_17 rfl (lv_at hl 1 rfl) ?_
    refine lv_imul hx hb dX6_set_18 ?_
    refine lv_iload_n hx hb dX6_set_19 rfl (lv_at hl 2 rfl) ?_
    refine lv_iadd hx hb dX6_set_20 ?_
    obtain ⟨hin2, h⟩ := h
    refine q_iald (n := 72) hx hb hK hw (hcs _ (by omega)) (by unfold isI; omega) rfl hin2 dX6_set_21 ?_
    refine lv_topi (fun x22 ex22 => ?_)
    have h := h x22 ex22
    refine lv_istore (lv' := [(4, .int x22), (0, .ref (w.1 45)), (1, .int v1), (2, .int v2), (3, .int v3)]) hx hb dX6_set_22 hl (by decide) rfl (fun ls hl => ?_)
    refine lv_aload_n hx hb dX6_set_24 rfl (lv_at hl 1 rfl) ?_
    refine q_get (v := .ref (w.1 46)) (C := RX6) (T := TX6) (N := 17) (ci := 6) hx hb hta kw_X6 hown hK hw 45 (hcs _ (by omega)) (by unfold isB; omega) rfl rfl 3 (by decide) (hta _ kw_286) rfl rfl dX6_set_25 ?_
    refine lv_bipush (v := 12) hx hb dX6_set_28 (by decide) ?_
    refine lv_iload_n hx hb dX6_set_30 rfl (lv_at hl 2 rfl) ?_
    refine lv_imul hx hb dX6_set_31 ?_
    refine lv_iload_n hx hb dX6_set_32 rfl (lv_at hl 3 rfl) ?_
    refine lv_iadd hx hb dX6_set_33 ?_
    refine lv_aload_n hx hb dX6_set_34 rfl (lv_at hl 1 rfl) ?_
    refine lv_iload_n hx hb dX6_set_35 rfl (lv_at hl 4 rfl) ?_
    refine q_calli hw (va_runV (As := [.int v3]) (rest := [.int (((12 : Int32) * v1) + v2), .ref (w.1 46)]) C (mX6_by l w cs (fun c h => hcs c (by omega)) _ G B v3 _ h) (cwV 1 hta (gVw kw_294 kw_295 kw_296 kw_17 kw_293) rfl rfl rfl (by decide +kernel) ⟨Nat.le_of_ble_eq_true rfl, Nat.le_of_ble_eq_true rfl⟩) (preV hK hw 45 (hcs _ (by omega)) (by unfold isB; omega) rfl rfl _) rfl rfl hl.1 rfl (lv_room (Nat.le_of_ble_eq_true rfl)) dX6_set_36 ⟨Nat.le_refl 0, Nat.le_refl 0⟩) (fun r36 G36 B36 H locs h hw => ?_)
    obtain ⟨h, e1, e2⟩ := h; subst e1; subst e2
    obtain ⟨hin3, h⟩ := h
    refine q_iast (n := 72) hx hb hK hw (hcs _ (by omega)) (by unfold isI; omega) rfl hin3 dX6_set_39 (fun H locs G39 eG39 hw => ?_)
    have h := h G39 eG39
    refine lv_iload hx hb dX6_set_40 (lv_at hl 0 rfl) ?_
    exact q_reti hx hb hr hw ⟨h, rfl⟩ dX6_set_42
  · have h := h.2 c1
    refine lv_iconst (v := -1) hx hb dX6_set_9 (by decide) ?_
    exact q_reti hx hb hr hw ⟨h, rfl⟩ dX6_set_10
def wlX6_powers_33 (K77 : GS → Prop) (v1 : Int32) (v2 : Int32) : Nat → Int32 → Int32 → GS → Prop
  | 0, _, _, _ => False
  | n33 + 1, v3, v4, G => (((G 45 1) ≤ v4 → K77 G) ∧ (¬ (G 45 1) ≤ v4 → (vp_in (((12 : Int32) * v4) + v2) 72 ∧ (∀ G54 : GS, G54 = wr G 46 (cl (((12 : Int32) * v4) + v2)) v3 → (¬ (G54 45 0) = 0 ∧ (¬ (G54 45 0) = 0 ∧ (∀ x70 : Int32, x70 = ((v3 * ((v2 + (1 : Int32)) - (v2 + (1 : Int32)) / (G54 45 0) * (G54 45 0))) - (v3 * ((v2 + (1 : Int32)) - (v2 + (1 : Int32)) / (G54 45 0) * (G54 45 0))) / (G54 45 0) * (G54 45 0)) → wlX6_powers_33 K77 v1 v2 n33 x70 (v4 + (1 : Int32)) G54)))))))
def wlX6_powers_20 (K83 : GS → Prop) (v1 : Int32) : Nat → Int32 → GS → Prop
  | 0, _, _ => False
  | n20 + 1, v2, G => (((G 45 2) ≤ v2 → K83 G) ∧ (¬ (G 45 2) ≤ v2 → (∃ z33 : Nat, wlX6_powers_33 (fun G_77 => wlX6_powers_20 K83 v1 n20 (v2 + (1 : Int32)) G_77) v1 v2 z33 v1 (0 : Int32) G)))
def wX6_powers (v1 : Int32) (G : GS) (P : Int32 → GS → Prop) : Prop := (wX6_in v1.toInt64 (0 : Int64) ((G 45 0) - (1 : Int32)).toInt64 (fun r10 => ((¬ r10 = 0 → (∃ z20 : Nat, wlX6_powers_20 (fun G_83 => P (0 : Int32) G_83) v1 z20 (0 : Int32) G)) ∧ (r10 = 0 → P (-1 : Int32) G))))
set_option maxHeartbeats 4000000 in
set_option maxRecDepth 100000 in
theorem lX6_powers_33 {p : Program} {l : Launch} {e : Env} {s : State} {m : MethodId} {args : Array Value} {below : List Frame} {meth : Method} {c : Code} {Q : State → Prop} {w : WE} {cs : List Nat} {A : Nat → Prop} {H0 : Heap} (C : CallFix p m c cX6_powers 5 s args wsX6_powers RX6) (hK : KW w s) (hcs : ∀ c, c < 56 → c ∈ cs) (v1 : Int32) (v2 : Int32) (B : BS) {K77 : GS → Prop} (k77 : ∀ (G : GS) (H : Heap) (locs : List Loc) (ls : Array Slot), K77 G → WO w cs A H0 G B H locs → lv_has ls 5 [(0, .ref (w.1 45)), (1, .int v1), (2, .int v2)] → W p l e (rmW 1) s m args below meth c H locs 0 0 Q (F0 m 77 ls [])) : ∀ (n : Nat) (v3 : Int32) (v4 : Int32) (G : GS) (H : Heap) (locs : List Loc) (ls : Array Slot), wlX6_powers_33 K77 v1 v2 n v3 v4 G → WO w cs A H0 G B H locs → lv_has ls 5 [(0, .ref (w.1 45)), (1, .int v1), (2, .int v2), (3, .int v3), (4, .int v4)] → W p l e (rmW 1) s m args below meth c H locs 0 0 Q (F0 m 33 ls []) := by
  have hx := C.1
  have hb := C.2.1
  have hown := C.2.2.2.1
  have hta := fun w h => C.2.2.2.2 w (List.mem_cons_of_mem _ h)
  intro n
  induction n with
  | zero => intro v3 v4 G H locs ls h hw hl; exact False.elim h
  | succ n ih =>
    intro v3 v4 G H locs ls h hw hl
    refine lv_iload hx hb dX6_powers_33 (lv_at hl 4 rfl) ?_
    refine lv_aload_n hx hb dX6_powers_35 rfl (lv_at hl 0 rfl) ?_
    refine q_get (v := .int (G 45 1)) (C := RX6) (T := TX6) (N := 17) (ci := 6) hx hb hta kw_X6 hown hK hw 45 (hcs _ (by omega)) (by unfold isB; omega) rfl rfl 1 (by decide) (hta _ kw_284) rfl rfl dX6_powers_36 ?_
    refine lv_icmp_ge (tgt := 77) hx hb dX6_powers_39 (by decide) (fun c3 => ?_) (fun c3 => ?_)
    · have h := h.1 c3
      exact k77 G _ _ _ h hw (lv_sub hl [0, 1, 2] rfl)
    · have h := h.2 c3
      refine lv_aload_n hx hb dX6_powers_42 rfl (lv_at hl 0 rfl) ?_
      refine q_get (v := .ref (w.1 46)) (C := RX6) (T := TX6) (N := 17) (ci := 6) hx hb hta kw_X6 hown hK hw 45 (hcs _ (by omega)) (by unfold isB; omega) rfl rfl 3 (by decide) (hta _ kw_286) rfl rfl dX6_powers_43 ?_
      refine lv_bipush (v := 12) hx hb dX6_powers_46 (by decide) ?_
      refine lv_iload hx hb dX6_powers_48 (lv_at hl 4 rfl) ?_
      refine lv_imul hx hb dX6_powers_50 ?_
      refine lv_iload_n hx hb dX6_powers_51 rfl (lv_at hl 2 rfl) ?_
      refine lv_iadd hx hb dX6_powers_52 ?_
      refine lv_iload_n hx hb dX6_powers_53 rfl (lv_at hl 3 rfl) ?_
      obtain ⟨hin4, h⟩ := h
      refine q_iast (n := 72) hx hb hK hw (hcs _ (by omega)) (by unfold isI; omega) rfl hin4 dX6_powers_54 (fun H locs G54 eG54 hw => ?_)
      have h := h G54 eG54
      refine lv_iload_n hx hb dX6_powers_55 rfl (lv_at hl 3 rfl) ?_
      refine lv_iload_n hx hb dX6_powers_56 rfl (lv_at hl 2 rfl) ?_
      refine lv_iconst (v := 1) hx hb dX6_powers_57 (by decide) ?_
      refine lv_iadd hx hb dX6_powers_58 ?_
      refine lv_aload_n hx hb dX6_powers_59 rfl (lv_at hl 0 rfl) ?_
      refine q_get (v := .int (G54 45 0)) (C := RX6) (T := TX6) (N := 17) (ci := 6) hx hb hta kw_X6 hown hK hw 45 (hcs _ (by omega)) (by unfold isB; omega) rfl rfl 0 (by decide) (hta _ kw_278) rfl rfl dX6_powers_60 ?_
      obtain ⟨hz5, h⟩ := h
      refine lv_irem hx hb dX6_powers_63 hz5 ?_
      refine lv_imul hx hb dX6_powers_64 ?_
      refine lv_aload_n hx hb dX6_powers_65 rfl (lv_at hl 0 rfl) ?_
      refine q_get (v := .int (G54 45 0)) (C := RX6) (T := TX6) (N := 17) (ci := 6) hx hb hta kw_X6 hown hK hw 45 (hcs _ (by omega)) (by unfold isB; omega) rfl rfl 0 (by decide) (hta _ kw_278) rfl rfl dX6_powers_66 ?_
      obtain ⟨hz6, h⟩ := h
      refine lv_irem hx hb dX6_powers_69 hz6 ?_
      refine lv_topi (fun x70 ex70 => ?_)
      have h := h x70 ex70
      refine lv_istore_n (lv' := [(3, .int x70), (0, .ref (w.1 45)), (1, .int v1), (2, .int v2), (4, .int v4)]) hx hb dX6_powers_70 rfl hl (by decide) rfl (fun ls hl => ?_)
      refine lv_iinc (v := (v4 + (1 : Int32))) (lv' := [(4, .int (v4 + (1 : Int32))), (3, .int x70), (0, .ref (w.1 45)), (1, .int v1), (2, .int v2)]) hx hb dX6_powers_71 hl (k := 4) rfl rfl (by decide) rfl (fun ls hl => ?_)
      refine lv_goto (tgt := 33) hx hb dX6_powers_74 (by decide) ?_
      exact ih x70 (v4 + (1 : Int32)) G54 _ _ _ h hw (lv_sub hl [2, 3, 4, 1, 0] rfl)
set_option maxHeartbeats 4000000 in
set_option maxRecDepth 100000 in
theorem lX6_powers_20 {p : Program} {l : Launch} {e : Env} {s : State} {m : MethodId} {args : Array Value} {below : List Frame} {meth : Method} {c : Code} {Q : State → Prop} {w : WE} {cs : List Nat} {A : Nat → Prop} {H0 : Heap} (C : CallFix p m c cX6_powers 5 s args wsX6_powers RX6) (hK : KW w s) (hcs : ∀ c, c < 56 → c ∈ cs) (v1 : Int32) (B : BS) {K83 : GS → Prop} (k83 : ∀ (G : GS) (H : Heap) (locs : List Loc) (ls : Array Slot), K83 G → WO w cs A H0 G B H locs → lv_has ls 5 [] → W p l e (rmW 1) s m args below meth c H locs 0 0 Q (F0 m 83 ls [])) : ∀ (n : Nat) (v2 : Int32) (G : GS) (H : Heap) (locs : List Loc) (ls : Array Slot), wlX6_powers_20 K83 v1 n v2 G → WO w cs A H0 G B H locs → lv_has ls 5 [(0, .ref (w.1 45)), (1, .int v1), (2, .int v2)] → W p l e (rmW 1) s m args below meth c H locs 0 0 Q (F0 m 20 ls []) := by
  have hx := C.1
  have hb := C.2.1
  have hown := C.2.2.2.1
  have hta := fun w h => C.2.2.2.2 w (List.mem_cons_of_mem _ h)
  intro n
  induction n with
  | zero => intro v2 G H locs ls h hw hl; exact False.elim h
  | succ n ih =>
    intro v2 G H locs ls h hw hl
    refine lv_iload_n hx hb dX6_powers_20 rfl (lv_at hl 2 rfl) ?_
    refine lv_aload_n hx hb dX6_powers_21 rfl (lv_at hl 0 rfl) ?_
    refine q_get (v := .int (G 45 2)) (C := RX6) (T := TX6) (N := 17) (ci := 6) hx hb hta kw_X6 hown hK hw 45 (hcs _ (by omega)) (by unfold isB; omega) rfl rfl 2 (by decide) (hta _ kw_285) rfl rfl dX6_powers_22 ?_
    refine lv_icmp_ge (tgt := 83) hx hb dX6_powers_25 (by decide) (fun c2 => ?_) (fun c2 => ?_)
    · have h := h.1 c2
      exact k83 G _ _ _ h hw (lv_sub hl [] rfl)
    · have h := h.2 c2
      refine lv_iload_n hx hb dX6_powers_28 rfl (lv_at hl 1 rfl) ?_
      refine lv_istore_n (lv' := [(3, .int v1), (0, .ref (w.1 45)), (1, .int v1), (2, .int v2)]) hx hb dX6_powers_29 rfl hl (by decide) rfl (fun ls hl => ?_)
      refine lv_iconst (v := 0) hx hb dX6_powers_30 (by decide) ?_
      refine lv_istore (lv' := [(4, .int (0 : Int32)), (3, .int v1), (0, .ref (w.1 45)), (1, .int v1), (2, .int v2)]) hx hb dX6_powers_31 hl (by decide) rfl (fun ls hl => ?_)
      obtain ⟨n33, h⟩ := h
      refine lX6_powers_33 C hK hcs v1 v2 B (K77 := _) ?_ n33 v1 (0 : Int32) G _ _ _ h hw (lv_sub hl [2, 3, 4, 1, 0] rfl)
      · intro G_77 H locs ls h hw hl
        refine lv_iinc (v := (v2 + (1 : Int32))) (lv' := [(2, .int (v2 + (1 : Int32))), (0, .ref (w.1 45)), (1, .int v1)]) hx hb dX6_powers_77 hl (k := 2) rfl rfl (by decide) rfl (fun ls hl => ?_)
        refine lv_goto (tgt := 20) hx hb dX6_powers_80 (by decide) ?_
        exact ih (v2 + (1 : Int32)) G_77 _ _ _ h hw (lv_sub hl [1, 2, 0] rfl)
set_option maxHeartbeats 4000000 in
set_option maxRecDepth 100000 in
theorem mX6_powers (l : Launch) (w : WE) (cs : List Nat) (hcs : ∀ c, c < 56 → c ∈ cs) (sz : Nat) (G : GS) (B : BS) (v1 : Int32) (P : Int32 → GS → Prop) (h : wX6_powers v1 G P) : Met l yX6_powers wsX6_powers (rmW 1) (PcW w cs sz G B [.ref (w.1 45), .int v1]) (QI w cs sz (fun r G1 B1 => P r G1 ∧ B = B1)) 0 0 (AA w cs sz) := by
  refine metW (own := RX6) [.ref (w.1 45), .int v1] (by decide +kernel) rfl rfl (Nat.le_of_ble_eq_true rfl) ?_
  intro p e s m below meth c ls hsz C hr hK hw hl
  subst hsz
  have hx := C.1
  have hb := C.2.1
  have hown := C.2.2.2.1
  have hta := fun w h => C.2.2.2.2 w (List.mem_cons_of_mem _ h)
  have hl : lv_has ls 5 [(0, .ref (w.1 45)), (1, .int v1)] := hl
  refine lv_iload_n hx hb dX6_powers_0 rfl (lv_at hl 1 rfl) ?_
  refine lv_i2l hx hb dX6_powers_1 rfl ?_
  refine lv_lconst (v := 0) hx hb dX6_powers_2 (by decide) ?_
  refine lv_aload_n hx hb dX6_powers_3 rfl (lv_at hl 0 rfl) ?_
  refine q_get (v := .int (G 45 0)) (C := RX6) (T := TX6) (N := 17) (ci := 6) hx hb hta kw_X6 hown hK hw 45 (hcs _ (by omega)) (by unfold isB; omega) rfl rfl 0 (by decide) (hta _ kw_278) rfl rfl dX6_powers_4 ?_
  refine lv_iconst (v := 1) hx hb dX6_powers_7 (by decide) ?_
  refine lv_isub hx hb dX6_powers_8 ?_
  refine lv_i2l hx hb dX6_powers_9 rfl ?_
  refine q_calli hw (va_runS (As := [.long v1.toInt64, .long (0 : Int64), .long ((G 45 0) - (1 : Int32)).toInt64]) (rest := []) C (mX6_in l w cs _ G B v1.toInt64 (0 : Int64) ((G 45 0) - (1 : Int32)).toInt64 _ h) (va_cwS 3 hta (gSw kw_15 kw_16 kw_17 kw_14) rfl rfl rfl (by decide +kernel) ⟨Nat.le_of_ble_eq_true rfl, Nat.le_of_ble_eq_true rfl⟩) (preS hK hw _) rfl rfl hl.1 rfl (lv_room (Nat.le_of_ble_eq_true rfl)) dX6_powers_10 ⟨Nat.le_refl 0, Nat.le_refl 0⟩) (fun r10 G10 B10 H locs h hw => ?_)
  obtain ⟨h, e1, e2⟩ := h; subst e1; subst e2
  refine lv_if_ne (tgt := 18) hx hb dX6_powers_13 (by decide) (fun c1 => ?_) (fun c1 => ?_)
  · have h := h.1 c1
    refine lv_iconst (v := 0) hx hb dX6_powers_18 (by decide) ?_
    refine lv_istore_n (lv' := [(2, .int (0 : Int32)), (0, .ref (w.1 45)), (1, .int v1)]) hx hb dX6_powers_19 rfl hl (by decide) rfl (fun ls hl => ?_)
    obtain ⟨n20, h⟩ := h
    refine lX6_powers_20 C hK hcs v1 B (K83 := _) ?_ n20 (0 : Int32) G _ _ _ h hw (lv_sub hl [1, 2, 0] rfl)
    · intro G_83 H locs ls h hw hl
      refine lv_iconst (v := 0) hx hb dX6_powers_83 (by decide) ?_
      exact q_reti hx hb hr hw ⟨h, rfl⟩ dX6_powers_84
  · have h := h.2 c1
    refine lv_iconst (v := -1) hx hb dX6_powers_16 (by decide) ?_
    exact q_reti hx hb hr hw ⟨h, rfl⟩ dX6_powers_17
def wX6_at (v1 : Int32) (v2 : Int32) (G : GS) (P : Int32 → Prop) : Prop := (wX6_isPlace v1 v2 G (fun r3 => ((r3 = 0 → P (-1 : Int32)) ∧ (¬ r3 = 0 → (vp_in (((12 : Int32) * v1) + v2) 72 ∧ P (G 46 (cl (((12 : Int32) * v1) + v2))))))))
set_option maxHeartbeats 4000000 in
set_option maxRecDepth 100000 in
theorem mX6_at (l : Launch) (w : WE) (cs : List Nat) (hcs : ∀ c, c < 56 → c ∈ cs) (sz : Nat) (G : GS) (B : BS) (v1 : Int32) (v2 : Int32) (P : Int32 → Prop) (h : wX6_at v1 v2 G P) : Met l yX6_at wsX6_at (rmW 2) (PcW w cs sz G B [.ref (w.1 45), .int v1, .int v2]) (QI w cs sz (fun r G1 B1 => P r ∧ G = G1 ∧ B = B1)) 0 0 (AA w cs sz) := by
  refine metW (own := RX6) [.ref (w.1 45), .int v1, .int v2] (by decide +kernel) rfl rfl (Nat.le_of_ble_eq_true rfl) ?_
  intro p e s m below meth c ls hsz C hr hK hw hl
  subst hsz
  have hx := C.1
  have hb := C.2.1
  have hown := C.2.2.2.1
  have hta := fun w h => C.2.2.2.2 w (List.mem_cons_of_mem _ h)
  have hl : lv_has ls 3 [(0, .ref (w.1 45)), (1, .int v1), (2, .int v2)] := hl
  refine lv_aload_n hx hb dX6_at_0 rfl (lv_at hl 0 rfl) ?_
  refine lv_iload_n hx hb dX6_at_1 rfl (lv_at hl 1 rfl) ?_
  refine lv_iload_n hx hb dX6_at_2 rfl (lv_at hl 2 rfl) ?_
  refine q_calli hw (va_runV (As := [.int v1, .int v2]) (rest := []) C (mX6_isPlace l w cs (fun c h => hcs c (by omega)) _ G B v1 v2 _ h) (cwV 2 hta (gVw kw_290 kw_291 kw_292 kw_17 kw_289) rfl rfl rfl (by decide +kernel) ⟨Nat.le_of_ble_eq_true rfl, Nat.le_of_ble_eq_true rfl⟩) (preV hK hw 45 (hcs _ (by omega)) (by unfold isB; omega) rfl rfl _) rfl rfl hl.1 rfl (lv_room (Nat.le_of_ble_eq_true rfl)) dX6_at_3 ⟨Nat.le_refl 0, Nat.le_refl 0⟩) (fun r3 G3 B3 H locs h hw => ?_)
  obtain ⟨h, e1, e2⟩ := h; subst e1; subst e2
  refine lv_if_eq (tgt := 23) hx hb dX6_at_6 (by decide) (fun c1 => ?_) (fun c1 => ?_)
  · have h := h.1 c1
    refine lv_iconst (v := -1) hx hb dX6_at_23 (by decide) ?_
    exact q_reti hx hb hr hw ⟨h, rfl, rfl⟩ dX6_at_24
  · have h := h.2 c1
    refine lv_aload_n hx hb dX6_at_9 rfl (lv_at hl 0 rfl) ?_
    refine q_get (v := .ref (w.1 46)) (C := RX6) (T := TX6) (N := 17) (ci := 6) hx hb hta kw_X6 hown hK hw 45 (hcs _ (by omega)) (by unfold isB; omega) rfl rfl 3 (by decide) (hta _ kw_286) rfl rfl dX6_at_10 ?_
    refine lv_bipush (v := 12) hx hb dX6_at_13 (by decide) ?_
    refine lv_iload_n hx hb dX6_at_15 rfl (lv_at hl 1 rfl) ?_
    refine lv_imul hx hb dX6_at_16 ?_
    refine lv_iload_n hx hb dX6_at_17 rfl (lv_at hl 2 rfl) ?_
    refine lv_iadd hx hb dX6_at_18 ?_
    obtain ⟨hin2, h⟩ := h
    refine q_iald (n := 72) hx hb hK hw (hcs _ (by omega)) (by unfold isI; omega) rfl hin2 dX6_at_19 ?_
    refine lv_goto (tgt := 24) hx hb dX6_at_20 (by decide) ?_
    exact q_reti hx hb hr hw ⟨h, rfl, rfl⟩ dX6_at_24
def wlX6_turned_2 (K20 : Int32 → Prop) (v1 : Int32) (G : GS) : Nat → Int32 → Prop
  | 0, _ => False
  | n2 + 1, v2 => (¬ (G 45 0) = 0 ∧ ((((v2 * v1) - (v2 * v1) / (G 45 0) * (G 45 0)) = (1 : Int32) → K20 v2) ∧ (¬ ((v2 * v1) - (v2 * v1) / (G 45 0) * (G 45 0)) = (1 : Int32) → wlX6_turned_2 K20 v1 G n2 (v2 + (1 : Int32)))))
def wX6_turned (v1 : Int32) (G : GS) (P : Int32 → Prop) : Prop := (∃ z2 : Nat, wlX6_turned_2 (fun x2_20 => P x2_20) v1 G z2 (1 : Int32))
set_option maxHeartbeats 4000000 in
set_option maxRecDepth 100000 in
theorem lX6_turned_2 {p : Program} {l : Launch} {e : Env} {s : State} {m : MethodId} {args : Array Value} {below : List Frame} {meth : Method} {c : Code} {Q : State → Prop} {w : WE} {cs : List Nat} {A : Nat → Prop} {H0 : Heap} (C : CallFix p m c cX6_turned 3 s args wsX6_turned RX6) (hK : KW w s) (hcs : ∀ c, c < 56 → c ∈ cs) (v1 : Int32) (G : GS) (B : BS) {K20 : Int32 → Prop} (k20 : ∀ (y2 : Int32) (H : Heap) (locs : List Loc) (ls : Array Slot), K20 y2 → WO w cs A H0 G B H locs → lv_has ls 3 [(2, .int y2)] → W p l e (rmW 0) s m args below meth c H locs 0 0 Q (F0 m 20 ls [])) : ∀ (n : Nat) (v2 : Int32) (H : Heap) (locs : List Loc) (ls : Array Slot), wlX6_turned_2 K20 v1 G n v2 → WO w cs A H0 G B H locs → lv_has ls 3 [(0, .ref (w.1 45)), (1, .int v1), (2, .int v2)] → W p l e (rmW 0) s m args below meth c H locs 0 0 Q (F0 m 2 ls []) := by
  have hx := C.1
  have hb := C.2.1
  have hown := C.2.2.2.1
  have hta := fun w h => C.2.2.2.2 w (List.mem_cons_of_mem _ h)
  intro n
  induction n with
  | zero => intro v2 H locs ls h hw hl; exact False.elim h
  | succ n ih =>
    intro v2 H locs ls h hw hl
    refine lv_iload_n hx hb dX6_turned_2 rfl (lv_at hl 2 rfl) ?_
    refine lv_iload_n hx hb dX6_turned_3 rfl (lv_at hl 1 rfl) ?_
    refine lv_imul hx hb dX6_turned_4 ?_
    refine lv_aload_n hx hb dX6_turned_5 rfl (lv_at hl 0 rfl) ?_
    refine q_get (v := .int (G 45 0)) (C := RX6) (T := TX6) (N := 17) (ci := 6) hx hb hta kw_X6 hown hK hw 45 (hcs _ (by omega)) (by unfold isB; omega) rfl rfl 0 (by decide) (hta _ kw_278) rfl rfl dX6_turned_6 ?_
    obtain ⟨hz1, h⟩ := h
    refine lv_irem hx hb dX6_turned_9 hz1 ?_
    refine lv_iconst (v := 1) hx hb dX6_turned_10 (by decide) ?_
    refine lv_icmp_eq (tgt := 20) hx hb dX6_turned_11 (by decide) (fun c2 => ?_) (fun c2 => ?_)
    · have h := h.1 c2
      exact k20 v2 _ _ _ h hw (lv_sub hl [2] rfl)
    · have h := h.2 c2
      refine lv_iinc (v := (v2 + (1 : Int32))) (lv' := [(2, .int (v2 + (1 : Int32))), (0, .ref (w.1 45)), (1, .int v1)]) hx hb dX6_turned_14 hl (k := 2) rfl rfl (by decide) rfl (fun ls hl => ?_)
      refine lv_goto (tgt := 2) hx hb dX6_turned_17 (by decide) ?_
      exact ih (v2 + (1 : Int32)) _ _ _ h hw (lv_sub hl [1, 2, 0] rfl)
set_option maxHeartbeats 4000000 in
set_option maxRecDepth 100000 in
theorem mX6_turned (l : Launch) (w : WE) (cs : List Nat) (hcs : ∀ c, c < 56 → c ∈ cs) (sz : Nat) (G : GS) (B : BS) (v1 : Int32) (P : Int32 → Prop) (h : wX6_turned v1 G P) : Met l yX6_turned wsX6_turned (rmW 0) (PcW w cs sz G B [.ref (w.1 45), .int v1]) (QI w cs sz (fun r G1 B1 => P r ∧ G = G1 ∧ B = B1)) 0 0 (AA w cs sz) := by
  refine metW (own := RX6) [.ref (w.1 45), .int v1] (by decide +kernel) rfl rfl (Nat.le_of_ble_eq_true rfl) ?_
  intro p e s m below meth c ls hsz C hr hK hw hl
  subst hsz
  have hx := C.1
  have hb := C.2.1
  have hown := C.2.2.2.1
  have hta := fun w h => C.2.2.2.2 w (List.mem_cons_of_mem _ h)
  have hl : lv_has ls 3 [(0, .ref (w.1 45)), (1, .int v1)] := hl
  refine lv_iconst (v := 1) hx hb dX6_turned_0 (by decide) ?_
  refine lv_istore_n (lv' := [(2, .int (1 : Int32)), (0, .ref (w.1 45)), (1, .int v1)]) hx hb dX6_turned_1 rfl hl (by decide) rfl (fun ls hl => ?_)
  obtain ⟨n2, h⟩ := h
  refine lX6_turned_2 C hK hcs v1 G B (K20 := _) ?_ n2 (1 : Int32) _ _ _ h hw (lv_sub hl [1, 2, 0] rfl)
  · intro x2_20 H locs ls h hw hl
    refine lv_iload_n hx hb dX6_turned_20 rfl (lv_at hl 0 rfl) ?_
    exact q_reti hx hb hr hw ⟨h, rfl, rfl⟩ dX6_turned_21
def wlX6_swaps_2 (K62 : GS → Prop) (v1 : Int32) (v2 : Int32) : Nat → Int32 → GS → Prop
  | 0, _, _ => False
  | n2 + 1, v3, G => (((13 : Int32) ≤ v3 → K62 G) ∧ (¬ (13 : Int32) ≤ v3 → (vp_in (((13 : Int32) * v1) + v3) 78 ∧ (∀ x19 : Int32, x19 = (G 52 (cl (((13 : Int32) * v1) + v3))) → (vp_in (((13 : Int32) * v2) + v3) 78 ∧ (vp_in (((13 : Int32) * v1) + v3) 78 ∧ (∀ G42 : GS, G42 = wr G 52 (cl (((13 : Int32) * v1) + v3)) (G 52 (cl (((13 : Int32) * v2) + v3))) → (vp_in (((13 : Int32) * v2) + v3) 78 ∧ (∀ G55 : GS, G55 = wr G42 52 (cl (((13 : Int32) * v2) + v3)) x19 → wlX6_swaps_2 K62 v1 v2 n2 (v3 + (1 : Int32)) G55)))))))))
def wX6_swaps (v1 : Int32) (v2 : Int32) (G : GS) (P : GS → Prop) : Prop := (∃ z2 : Nat, wlX6_swaps_2 (fun G_62 => P G_62) v1 v2 z2 (0 : Int32) G)
set_option maxHeartbeats 4000000 in
set_option maxRecDepth 100000 in
theorem lX6_swaps_2 {p : Program} {l : Launch} {e : Env} {s : State} {m : MethodId} {args : Array Value} {below : List Frame} {meth : Method} {c : Code} {Q : State → Prop} {w : WE} {cs : List Nat} {A : Nat → Prop} {H0 : Heap} (C : CallFix p m c cX6_swaps 5 s args wsX6_swaps RX6) (hK : KW w s) (hcs : ∀ c, c < 56 → c ∈ cs) (v1 : Int32) (v2 : Int32) (B : BS) {K62 : GS → Prop} (k62 : ∀ (G : GS) (H : Heap) (locs : List Loc) (ls : Array Slot), K62 G → WO w cs A H0 G B H locs → lv_has ls 5 [] → W p l e (rmW 0) s m args below meth c H locs 0 0 Q (F0 m 62 ls [])) : ∀ (n : Nat) (v3 : Int32) (G : GS) (H : Heap) (locs : List Loc) (ls : Array Slot), wlX6_swaps_2 K62 v1 v2 n v3 G → WO w cs A H0 G B H locs → lv_has ls 5 [(0, .ref (w.1 45)), (1, .int v1), (2, .int v2), (3, .int v3)] → W p l e (rmW 0) s m args below meth c H locs 0 0 Q (F0 m 2 ls []) := by
  have hx := C.1
  have hb := C.2.1
  have hown := C.2.2.2.1
  have hta := fun w h => C.2.2.2.2 w (List.mem_cons_of_mem _ h)
  intro n
  induction n with
  | zero => intro v3 G H locs ls h hw hl; exact False.elim h
  | succ n ih =>
    intro v3 G H locs ls h hw hl
    refine lv_iload_n hx hb dX6_swaps_2 rfl (lv_at hl 3 rfl) ?_
    refine lv_bipush (v := 13) hx hb dX6_swaps_3 (by decide) ?_
    refine lv_icmp_ge (tgt := 62) hx hb dX6_swaps_5 (by decide) (fun c1 => ?_) (fun c1 => ?_)
    · have h := h.1 c1
      exact k62 G _ _ _ h hw (lv_sub hl [] rfl)
    · have h := h.2 c1
      refine lv_aload_n hx hb dX6_swaps_8 rfl (lv_at hl 0 rfl) ?_
      refine q_get (v := .ref (w.1 52)) (C := RX6) (T := TX6) (N := 17) (ci := 6) hx hb hta kw_X6 hown hK hw 45 (hcs _ (by omega)) (by unfold isB; omega) rfl rfl 13 (by decide) (hta _ kw_297) rfl rfl dX6_swaps_9 ?_
      refine lv_bipush (v := 13) hx hb dX6_swaps_12 (by decide) ?_
      refine lv_iload_n hx hb dX6_swaps_14 rfl (lv_at hl 1 rfl) ?_
      refine lv_imul hx hb dX6_swaps_15 ?_
      refine lv_iload_n hx hb dX6_swaps_16 rfl (lv_at hl 3 rfl) ?_
      refine lv_iadd hx hb dX6_swaps_17 ?_
      obtain ⟨hin2, h⟩ := h
      refine q_iald (n := 78) hx hb hK hw (hcs _ (by omega)) (by unfold isI; omega) rfl hin2 dX6_swaps_18 ?_
      refine lv_topi (fun x19 ex19 => ?_)
      have h := h x19 ex19
      refine lv_istore (lv' := [(4, .int x19), (0, .ref (w.1 45)), (1, .int v1), (2, .int v2), (3, .int v3)]) hx hb dX6_swaps_19 hl (by decide) rfl (fun ls hl => ?_)
      refine lv_aload_n hx hb dX6_swaps_21 rfl (lv_at hl 1 rfl) ?_
      refine q_get (v := .ref (w.1 52)) (C := RX6) (T := TX6) (N := 17) (ci := 6) hx hb hta kw_X6 hown hK hw 45 (hcs _ (by omega)) (by unfold isB; omega) rfl rfl 13 (by decide) (hta _ kw_297) rfl rfl dX6_swaps_22 ?_
      refine lv_bipush (v := 13) hx hb dX6_swaps_25 (by decide) ?_
      refine lv_iload_n hx hb dX6_swaps_27 rfl (lv_at hl 2 rfl) ?_
      refine lv_imul hx hb dX6_swaps_28 ?_
      refine lv_iload_n hx hb dX6_swaps_29 rfl (lv_at hl 4 rfl) ?_
      refine lv_iadd hx hb dX6_swaps_30 ?_
      refine lv_aload_n hx hb dX6_swaps_31 rfl (lv_at hl 1 rfl) ?_
      refine q_get (v := .ref (w.1 52)) (C := RX6) (T := TX6) (N := 17) (ci := 6) hx hb hta kw_X6 hown hK hw 45 (hcs _ (by omega)) (by unfold isB; omega) rfl rfl 13 (by decide) (hta _ kw_297) rfl rfl dX6_swaps_32 ?_
      refine lv_bipush (v := 13) hx hb dX6_swaps_35 (by decide) ?_
      refine lv_iload_n hx hb dX6_swaps_37 rfl (lv_at hl 3 rfl) ?_
      refine lv_imul hx hb dX6_swaps_38 ?_
      refine lv_iload_n hx hb dX6_swaps_39 rfl (lv_at hl 4 rfl) ?_
      refine lv_iadd hx hb dX6_swaps_40 ?_
      obtain ⟨hin3, h⟩ := h
      refine q_iald (n := 78) hx hb hK hw (hcs _ (by omega)) (by unfold isI; omega) rfl hin3 dX6_swaps_41 ?_
      obtain ⟨hin4, h⟩ := h
      refine q_iast (n := 78) hx hb hK hw (hcs _ (by omega)) (by unfold isI; omega) rfl hin4 dX6_swaps_42 (fun H locs G42 eG42 hw => ?_)
      have h := h G42 eG42
      refine lv_aload_n hx hb dX6_swaps_43 rfl (lv_at hl 1 rfl) ?_
      refine q_get (v := .ref (w.1 52)) (C := RX6) (T := TX6) (N := 17) (ci := 6) hx hb hta kw_X6 hown hK hw 45 (hcs _ (by omega)) (by unfold isB; omega) rfl rfl 13 (by decide) (hta _ kw_297) rfl rfl dX6_swaps_44 ?_
      refine lv_bipush (v := 13) hx hb dX6_swaps_47 (by decide) ?_
      refine lv_iload_n hx hb dX6_swaps_49 rfl (lv_at hl 3 rfl) ?_
      refine lv_imul hx hb dX6_swaps_50 ?_
      refine lv_iload_n hx hb dX6_swaps_51 rfl (lv_at hl 4 rfl) ?_
      refine lv_iadd hx hb dX6_swaps_52 ?_
      refine lv_iload hx hb dX6_swaps_53 (lv_at hl 0 rfl) ?_
      obtain ⟨hin5, h⟩ := h
      refine q_iast (n := 78) hx hb hK hw (hcs _ (by omega)) (by unfold isI; omega) rfl hin5 dX6_swaps_55 (fun H locs G55 eG55 hw => ?_)
      have h := h G55 eG55
      refine lv_iinc (v := (v3 + (1 : Int32))) (lv' := [(3, .int (v3 + (1 : Int32))), (4, .int x19), (0, .ref (w.1 45)), (1, .int v1), (2, .int v2)]) hx hb dX6_swaps_56 hl (k := 4) rfl rfl (by decide) rfl (fun ls hl => ?_)
      refine lv_goto (tgt := 2) hx hb dX6_swaps_59 (by decide) ?_
      exact ih (v3 + (1 : Int32)) G55 _ _ _ h hw (lv_sub hl [2, 3, 4, 0] rfl)
set_option maxHeartbeats 4000000 in
set_option maxRecDepth 100000 in
theorem mX6_swaps (l : Launch) (w : WE) (cs : List Nat) (hcs : ∀ c, c < 56 → c ∈ cs) (sz : Nat) (G : GS) (B : BS) (v1 : Int32) (v2 : Int32) (P : GS → Prop) (h : wX6_swaps v1 v2 G P) : Met l yX6_swaps wsX6_swaps (rmW 0) (PcW w cs sz G B [.ref (w.1 45), .int v1, .int v2]) (QV w cs sz (fun G1 B1 => P G1 ∧ B = B1)) 0 0 (AA w cs sz) := by
  refine metW (own := RX6) [.ref (w.1 45), .int v1, .int v2] (by decide +kernel) rfl rfl (Nat.le_of_ble_eq_true rfl) ?_
  intro p e s m below meth c ls hsz C hr hK hw hl
  subst hsz
  have hx := C.1
  have hb := C.2.1
  have hown := C.2.2.2.1
  have hta := fun w h => C.2.2.2.2 w (List.mem_cons_of_mem _ h)
  have hl : lv_has ls 5 [(0, .ref (w.1 45)), (1, .int v1), (2, .int v2)] := hl
  refine lv_iconst (v := 0) hx hb dX6_swaps_0 (by decide) ?_
  refine lv_istore_n (lv' := [(3, .int (0 : Int32)), (0, .ref (w.1 45)), (1, .int v1), (2, .int v2)]) hx hb dX6_swaps_1 rfl hl (by decide) rfl (fun ls hl => ?_)
  obtain ⟨n2, h⟩ := h
  refine lX6_swaps_2 C hK hcs v1 v2 B (K62 := _) ?_ n2 (0 : Int32) G _ _ _ h hw (lv_sub hl [1, 2, 3, 0] rfl)
  · intro G_62 H locs ls h hw hl
    exact q_retv hx hb hr hw ⟨h, rfl⟩ dX6_swaps_62
def wlX6_takes_36 (K95 : GS → Prop) (v1 : Int32) (v2 : Int32) (v3 : Int32) (v4 : Int32) (v5 : Int32) : Nat → Int32 → GS → Prop
  | 0, _, _ => False
  | n36 + 1, v6, G => (((13 : Int32) ≤ v6 → K95 G) ∧ (¬ (13 : Int32) ≤ v6 → (vp_in (((13 : Int32) * v4) + v6) 78 ∧ (vp_in (((13 : Int32) * v1) + v6) 78 ∧ (wX6_by ((G 52 (cl (((13 : Int32) * v4) + v6))) - (v5 * (G 52 (cl (((13 : Int32) * v1) + v6))))) G (fun r85 => (vp_in (((13 : Int32) * v4) + v6) 78 ∧ (∀ G88 : GS, G88 = wr G 52 (cl (((13 : Int32) * v4) + v6)) r85 → wlX6_takes_36 K95 v1 v2 v3 v4 v5 n36 (v6 + (1 : Int32)) G88))))))))
def wlX6_takes_3 (K101 : GS → Prop) (v1 : Int32) (v2 : Int32) (v3 : Int32) : Nat → Int32 → GS → Prop
  | 0, _, _ => False
  | n3 + 1, v4, G => ((v3 ≤ v4 → K101 G) ∧ (¬ v3 ≤ v4 → ((¬ v4 = v1 → (vp_in (((13 : Int32) * v4) + v2) 78 ∧ (∀ x31 : Int32, x31 = (G 52 (cl (((13 : Int32) * v4) + v2))) → (∃ z36 : Nat, wlX6_takes_36 (fun G_95 => wlX6_takes_3 K101 v1 v2 v3 n3 (v4 + (1 : Int32)) G_95) v1 v2 v3 v4 x31 z36 (0 : Int32) G)))) ∧ (v4 = v1 → (∃ z36 : Nat, wlX6_takes_36 (fun G_95 => wlX6_takes_3 K101 v1 v2 v3 n3 (v4 + (1 : Int32)) G_95) v1 v2 v3 v4 (0 : Int32) z36 (0 : Int32) G)))))
def wX6_takes (v1 : Int32) (v2 : Int32) (v3 : Int32) (G : GS) (P : GS → Prop) : Prop := (∃ z3 : Nat, wlX6_takes_3 (fun G_101 => P G_101) v1 v2 v3 z3 (0 : Int32) G)
set_option maxHeartbeats 4000000 in
set_option maxRecDepth 100000 in
theorem lX6_takes_36 {p : Program} {l : Launch} {e : Env} {s : State} {m : MethodId} {args : Array Value} {below : List Frame} {meth : Method} {c : Code} {Q : State → Prop} {w : WE} {cs : List Nat} {A : Nat → Prop} {H0 : Heap} (C : CallFix p m c cX6_takes 7 s args wsX6_takes RX6) (hK : KW w s) (hcs : ∀ c, c < 56 → c ∈ cs) (v1 : Int32) (v2 : Int32) (v3 : Int32) (v4 : Int32) (v5 : Int32) (B : BS) {K95 : GS → Prop} (k95 : ∀ (G : GS) (H : Heap) (locs : List Loc) (ls : Array Slot), K95 G → WO w cs A H0 G B H locs → lv_has ls 7 [(0, .ref (w.1 45)), (1, .int v1), (2, .int v2), (3, .int v3), (4, .int v4)] → W p l e (rmW 1) s m args below meth c H locs 0 0 Q (F0 m 95 ls [])) : ∀ (n : Nat) (v6 : Int32) (G : GS) (H : Heap) (locs : List Loc) (ls : Array Slot), wlX6_takes_36 K95 v1 v2 v3 v4 v5 n v6 G → WO w cs A H0 G B H locs → lv_has ls 7 [(0, .ref (w.1 45)), (1, .int v1), (2, .int v2), (3, .int v3), (4, .int v4), (5, .int v5), (6, .int v6)] → W p l e (rmW 1) s m args below meth c H locs 0 0 Q (F0 m 36 ls []) := by
  have hx := C.1
  have hb := C.2.1
  have hown := C.2.2.2.1
  have hta := fun w h => C.2.2.2.2 w (List.mem_cons_of_mem _ h)
  intro n
  induction n with
  | zero => intro v6 G H locs ls h hw hl; exact False.elim h
  | succ n ih =>
    intro v6 G H locs ls h hw hl
    refine lv_iload hx hb dX6_takes_36 (lv_at hl 6 rfl) ?_
    refine lv_bipush (v := 13) hx hb dX6_takes_38 (by decide) ?_
    refine lv_icmp_ge (tgt := 95) hx hb dX6_takes_40 (by decide) (fun c4 => ?_) (fun c4 => ?_)
    · have h := h.1 c4
      exact k95 G _ _ _ h hw (lv_sub hl [0, 1, 2, 3, 4] rfl)
    · have h := h.2 c4
      refine lv_aload_n hx hb dX6_takes_43 rfl (lv_at hl 0 rfl) ?_
      refine q_get (v := .ref (w.1 52)) (C := RX6) (T := TX6) (N := 17) (ci := 6) hx hb hta kw_X6 hown hK hw 45 (hcs _ (by omega)) (by unfold isB; omega) rfl rfl 13 (by decide) (hta _ kw_297) rfl rfl dX6_takes_44 ?_
      refine lv_bipush (v := 13) hx hb dX6_takes_47 (by decide) ?_
      refine lv_iload hx hb dX6_takes_49 (lv_at hl 4 rfl) ?_
      refine lv_imul hx hb dX6_takes_51 ?_
      refine lv_iload hx hb dX6_takes_52 (lv_at hl 6 rfl) ?_
      refine lv_iadd hx hb dX6_takes_54 ?_
      refine lv_aload_n hx hb dX6_takes_55 rfl (lv_at hl 0 rfl) ?_
      refine lv_aload_n hx hb dX6_takes_56 rfl (lv_at hl 0 rfl) ?_
      refine q_get (v := .ref (w.1 52)) (C := RX6) (T := TX6) (N := 17) (ci := 6) hx hb hta kw_X6 hown hK hw 45 (hcs _ (by omega)) (by unfold isB; omega) rfl rfl 13 (by decide) (hta _ kw_297) rfl rfl dX6_takes_57 ?_
      refine lv_bipush (v := 13) hx hb dX6_takes_60 (by decide) ?_
      refine lv_iload hx hb dX6_takes_62 (lv_at hl 4 rfl) ?_
      refine lv_imul hx hb dX6_takes_64 ?_
      refine lv_iload hx hb dX6_takes_65 (lv_at hl 6 rfl) ?_
      refine lv_iadd hx hb dX6_takes_67 ?_
      obtain ⟨hin5, h⟩ := h
      refine q_iald (n := 78) hx hb hK hw (hcs _ (by omega)) (by unfold isI; omega) rfl hin5 dX6_takes_68 ?_
      refine lv_iload hx hb dX6_takes_69 (lv_at hl 5 rfl) ?_
      refine lv_aload_n hx hb dX6_takes_71 rfl (lv_at hl 0 rfl) ?_
      refine q_get (v := .ref (w.1 52)) (C := RX6) (T := TX6) (N := 17) (ci := 6) hx hb hta kw_X6 hown hK hw 45 (hcs _ (by omega)) (by unfold isB; omega) rfl rfl 13 (by decide) (hta _ kw_297) rfl rfl dX6_takes_72 ?_
      refine lv_bipush (v := 13) hx hb dX6_takes_75 (by decide) ?_
      refine lv_iload_n hx hb dX6_takes_77 rfl (lv_at hl 1 rfl) ?_
      refine lv_imul hx hb dX6_takes_78 ?_
      refine lv_iload hx hb dX6_takes_79 (lv_at hl 6 rfl) ?_
      refine lv_iadd hx hb dX6_takes_81 ?_
      obtain ⟨hin6, h⟩ := h
      refine q_iald (n := 78) hx hb hK hw (hcs _ (by omega)) (by unfold isI; omega) rfl hin6 dX6_takes_82 ?_
      refine lv_imul hx hb dX6_takes_83 ?_
      refine lv_isub hx hb dX6_takes_84 ?_
      refine q_calli hw (va_runV (As := [.int ((G 52 (cl (((13 : Int32) * v4) + v6))) - (v5 * (G 52 (cl (((13 : Int32) * v1) + v6)))))]) (rest := [.int (((13 : Int32) * v4) + v6), .ref (w.1 52)]) C (mX6_by l w cs (fun c h => hcs c (by omega)) _ G B ((G 52 (cl (((13 : Int32) * v4) + v6))) - (v5 * (G 52 (cl (((13 : Int32) * v1) + v6))))) _ h) (cwV 1 hta (gVw kw_294 kw_295 kw_296 kw_17 kw_293) rfl rfl rfl (by decide +kernel) ⟨Nat.le_of_ble_eq_true rfl, Nat.le_of_ble_eq_true rfl⟩) (preV hK hw 45 (hcs _ (by omega)) (by unfold isB; omega) rfl rfl _) rfl rfl hl.1 rfl (lv_room (Nat.le_of_ble_eq_true rfl)) dX6_takes_85 ⟨Nat.le_refl 0, Nat.le_refl 0⟩) (fun r85 G85 B85 H locs h hw => ?_)
      obtain ⟨h, e1, e2⟩ := h; subst e1; subst e2
      obtain ⟨hin7, h⟩ := h
      refine q_iast (n := 78) hx hb hK hw (hcs _ (by omega)) (by unfold isI; omega) rfl hin7 dX6_takes_88 (fun H locs G88 eG88 hw => ?_)
      have h := h G88 eG88
      refine lv_iinc (v := (v6 + (1 : Int32))) (lv' := [(6, .int (v6 + (1 : Int32))), (0, .ref (w.1 45)), (1, .int v1), (2, .int v2), (3, .int v3), (4, .int v4), (5, .int v5)]) hx hb dX6_takes_89 hl (k := 6) rfl rfl (by decide) rfl (fun ls hl => ?_)
      refine lv_goto (tgt := 36) hx hb dX6_takes_92 (by decide) ?_
      exact ih (v6 + (1 : Int32)) G88 _ _ _ h hw (lv_sub hl [1, 2, 3, 4, 5, 6, 0] rfl)
set_option maxHeartbeats 4000000 in
set_option maxRecDepth 100000 in
theorem lX6_takes_3 {p : Program} {l : Launch} {e : Env} {s : State} {m : MethodId} {args : Array Value} {below : List Frame} {meth : Method} {c : Code} {Q : State → Prop} {w : WE} {cs : List Nat} {A : Nat → Prop} {H0 : Heap} (C : CallFix p m c cX6_takes 7 s args wsX6_takes RX6) (hK : KW w s) (hcs : ∀ c, c < 56 → c ∈ cs) (v1 : Int32) (v2 : Int32) (v3 : Int32) (B : BS) {K101 : GS → Prop} (k101 : ∀ (G : GS) (H : Heap) (locs : List Loc) (ls : Array Slot), K101 G → WO w cs A H0 G B H locs → lv_has ls 7 [] → W p l e (rmW 1) s m args below meth c H locs 0 0 Q (F0 m 101 ls [])) : ∀ (n : Nat) (v4 : Int32) (G : GS) (H : Heap) (locs : List Loc) (ls : Array Slot), wlX6_takes_3 K101 v1 v2 v3 n v4 G → WO w cs A H0 G B H locs → lv_has ls 7 [(0, .ref (w.1 45)), (1, .int v1), (2, .int v2), (3, .int v3), (4, .int v4)] → W p l e (rmW 1) s m args below meth c H locs 0 0 Q (F0 m 3 ls []) := by
  have hx := C.1
  have hb := C.2.1
  have hown := C.2.2.2.1
  have hta := fun w h => C.2.2.2.2 w (List.mem_cons_of_mem _ h)
  intro n
  induction n with
  | zero => intro v4 G H locs ls h hw hl; exact False.elim h
  | succ n ih =>
    intro v4 G H locs ls h hw hl
    refine lv_iload hx hb dX6_takes_3 (lv_at hl 4 rfl) ?_
    refine lv_iload_n hx hb dX6_takes_5 rfl (lv_at hl 3 rfl) ?_
    refine lv_icmp_ge (tgt := 101) hx hb dX6_takes_6 (by decide) (fun c1 => ?_) (fun c1 => ?_)
    · have h := h.1 c1
      exact k101 G _ _ _ h hw (lv_sub hl [] rfl)
    · have h := h.2 c1
      refine lv_iload hx hb dX6_takes_9 (lv_at hl 4 rfl) ?_
      refine lv_iload_n hx hb dX6_takes_11 rfl (lv_at hl 1 rfl) ?_
      refine lv_icmp_ne (tgt := 19) hx hb dX6_takes_12 (by decide) (fun c2 => ?_) (fun c2 => ?_)
      · have h := h.1 c2
        refine lv_aload_n hx hb dX6_takes_19 rfl (lv_at hl 0 rfl) ?_
        refine q_get (v := .ref (w.1 52)) (C := RX6) (T := TX6) (N := 17) (ci := 6) hx hb hta kw_X6 hown hK hw 45 (hcs _ (by omega)) (by unfold isB; omega) rfl rfl 13 (by decide) (hta _ kw_297) rfl rfl dX6_takes_20 ?_
        refine lv_bipush (v := 13) hx hb dX6_takes_23 (by decide) ?_
        refine lv_iload hx hb dX6_takes_25 (lv_at hl 4 rfl) ?_
        refine lv_imul hx hb dX6_takes_27 ?_
        refine lv_iload_n hx hb dX6_takes_28 rfl (lv_at hl 2 rfl) ?_
        refine lv_iadd hx hb dX6_takes_29 ?_
        obtain ⟨hin3, h⟩ := h
        refine q_iald (n := 78) hx hb hK hw (hcs _ (by omega)) (by unfold isI; omega) rfl hin3 dX6_takes_30 ?_
        refine lv_topi (fun x31 ex31 => ?_)
        have h := h x31 ex31
        refine lv_istore (lv' := [(5, .int x31), (0, .ref (w.1 45)), (1, .int v1), (2, .int v2), (3, .int v3), (4, .int v4)]) hx hb dX6_takes_31 hl (by decide) rfl (fun ls hl => ?_)
        refine lv_iconst (v := 0) hx hb dX6_takes_33 (by decide) ?_
        refine lv_istore (lv' := [(6, .int (0 : Int32)), (5, .int x31), (0, .ref (w.1 45)), (1, .int v1), (2, .int v2), (3, .int v3), (4, .int v4)]) hx hb dX6_takes_34 hl (by decide) rfl (fun ls hl => ?_)
        obtain ⟨n36, h⟩ := h
        refine lX6_takes_36 C hK hcs v1 v2 v3 v4 x31 B (K95 := _) ?_ n36 (0 : Int32) G _ _ _ h hw (lv_sub hl [2, 3, 4, 5, 6, 1, 0] rfl)
        · intro G_95 H locs ls h hw hl
          refine lv_iinc (v := (v4 + (1 : Int32))) (lv' := [(4, .int (v4 + (1 : Int32))), (0, .ref (w.1 45)), (1, .int v1), (2, .int v2), (3, .int v3)]) hx hb dX6_takes_95 hl (k := 4) rfl rfl (by decide) rfl (fun ls hl => ?_)
          refine lv_goto (tgt := 3) hx hb dX6_takes_98 (by decide) ?_
          exact ih (v4 + (1 : Int32)) G_95 _ _ _ h hw (lv_sub hl [1, 2, 3, 4, 0] rfl)
      · have h := h.2 c2
        refine lv_iconst (v := 0) hx hb dX6_takes_15 (by decide) ?_
        refine lv_goto (tgt := 31) hx hb dX6_takes_16 (by decide) ?_
        refine lv_istore (lv' := [(5, .int (0 : Int32)), (0, .ref (w.1 45)), (1, .int v1), (2, .int v2), (3, .int v3), (4, .int v4)]) hx hb dX6_takes_31 hl (by decide) rfl (fun ls hl => ?_)
        refine lv_iconst (v := 0) hx hb dX6_takes_33 (by decide) ?_
        refine lv_istore (lv' := [(6, .int (0 : Int32)), (5, .int (0 : Int32)), (0, .ref (w.1 45)), (1, .int v1), (2, .int v2), (3, .int v3), (4, .int v4)]) hx hb dX6_takes_34 hl (by decide) rfl (fun ls hl => ?_)
        obtain ⟨n36, h⟩ := h
        refine lX6_takes_36 C hK hcs v1 v2 v3 v4 (0 : Int32) B (K95 := _) ?_ n36 (0 : Int32) G _ _ _ h hw (lv_sub hl [2, 3, 4, 5, 6, 1, 0] rfl)
        · intro G_95 H locs ls h hw hl
          refine lv_iinc (v := (v4 + (1 : Int32))) (lv' := [(4, .int (v4 + (1 : Int32))), (0, .ref (w.1 45)), (1, .int v1), (2, .int v2), (3, .int v3)]) hx hb dX6_takes_95 hl (k := 4) rfl rfl (by decide) rfl (fun ls hl => ?_)
          refine lv_goto (tgt := 3) hx hb dX6_takes_98 (by decide) ?_
          exact ih (v4 + (1 : Int32)) G_95 _ _ _ h hw (lv_sub hl [1, 2, 3, 4, 0] rfl)
set_option maxHeartbeats 4000000 in
set_option maxRecDepth 100000 in
theorem mX6_takes (l : Launch) (w : WE) (cs : List Nat) (hcs : ∀ c, c < 56 → c ∈ cs) (sz : Nat) (G : GS) (B : BS) (v1 : Int32) (v2 : Int32) (v3 : Int32) (P : GS → Prop) (h : wX6_takes v1 v2 v3 G P) : Met l yX6_takes wsX6_takes (rmW 1) (PcW w cs sz G B [.ref (w.1 45), .int v1, .int v2, .int v3]) (QV w cs sz (fun G1 B1 => P G1 ∧ B = B1)) 0 0 (AA w cs sz) := by
  refine metW (own := RX6) [.ref (w.1 45), .int v1, .int v2, .int v3] (by decide +kernel) rfl rfl (Nat.le_of_ble_eq_true rfl) ?_
  intro p e s m below meth c ls hsz C hr hK hw hl
  subst hsz
  have hx := C.1
  have hb := C.2.1
  have hown := C.2.2.2.1
  have hta := fun w h => C.2.2.2.2 w (List.mem_cons_of_mem _ h)
  have hl : lv_has ls 7 [(0, .ref (w.1 45)), (1, .int v1), (2, .int v2), (3, .int v3)] := hl
  refine lv_iconst (v := 0) hx hb dX6_takes_0 (by decide) ?_
  refine lv_istore (lv' := [(4, .int (0 : Int32)), (0, .ref (w.1 45)), (1, .int v1), (2, .int v2), (3, .int v3)]) hx hb dX6_takes_1 hl (by decide) rfl (fun ls hl => ?_)
  obtain ⟨n3, h⟩ := h
  refine lX6_takes_3 C hK hcs v1 v2 v3 B (K101 := _) ?_ n3 (0 : Int32) G _ _ _ h hw (lv_sub hl [1, 2, 3, 4, 0] rfl)
  · intro G_101 H locs ls h hw hl
    exact q_retv hx hb hr hw ⟨h, rfl⟩ dX6_takes_101
def wlX6_clears_33 (K87 : GS → Prop) (v1 : Int32) (v2 : Int32) (v3 : Int32) (v4 : Int32) (v6 : Int32) : Nat → Int32 → Int32 → GS → Prop
  | 0, _, _, _ => False
  | n33 + 1, v5, v7, G => (((G 45 2) ≤ v7 → K87 G) ∧ (¬ (G 45 2) ≤ v7 → ((¬ ((v1 >>> (v7 &&& (31 : Int32))) &&& (1 : Int32)) = (1 : Int32) → wlX6_clears_33 K87 v1 v2 v3 v4 v6 n33 v5 (v7 + (1 : Int32)) G) ∧ (((v1 >>> (v7 &&& (31 : Int32))) &&& (1 : Int32)) = (1 : Int32) → (vp_in (((12 : Int32) * v6) + v7) 72 ∧ (vp_in (((13 : Int32) * v4) + v5) 78 ∧ (∀ G77 : GS, G77 = wr G 52 (cl (((13 : Int32) * v4) + v5)) (G 46 (cl (((12 : Int32) * v6) + v7))) → wlX6_clears_33 K87 v1 v2 v3 v4 v6 n33 (v5 + (1 : Int32)) (v7 + (1 : Int32)) G77)))))))
def wlX6_clears_9 (K129 : Int32 → GS → Prop) (v1 : Int32) (v2 : Int32) (v3 : Int32) : Nat → Int32 → Int32 → GS → Prop
  | 0, _, _, _ => False
  | n9 + 1, v4, v6, G => (((G 45 1) ≤ v6 → K129 v4 G) ∧ (¬ (G 45 1) ≤ v6 → ((¬ ((v2 >>> (v6 &&& (31 : Int32))) &&& (1 : Int32)) = 0 → wlX6_clears_9 K129 v1 v2 v3 n9 v4 (v6 + (1 : Int32)) G) ∧ (((v2 >>> (v6 &&& (31 : Int32))) &&& (1 : Int32)) = 0 → (∃ z33 : Nat, wlX6_clears_33 (fun G_87 => ((0 ≤ v3 → (vp_in (((6 : Int32) * v3) + v6) 36 ∧ (vp_in (((13 : Int32) * v4) + (12 : Int32)) 78 ∧ (∀ G119 : GS, G119 = wr G_87 52 (cl (((13 : Int32) * v4) + (12 : Int32))) (G_87 48 (cl (((6 : Int32) * v3) + v6))) → wlX6_clears_9 K129 v1 v2 v3 n9 (v4 + (1 : Int32)) (v6 + (1 : Int32)) G119)))) ∧ (¬ 0 ≤ v3 → (vp_in (((13 : Int32) * v4) + (12 : Int32)) 78 ∧ (∀ G119 : GS, G119 = wr G_87 52 (cl (((13 : Int32) * v4) + (12 : Int32))) (0 : Int32) → wlX6_clears_9 K129 v1 v2 v3 n9 (v4 + (1 : Int32)) (v6 + (1 : Int32)) G119))))) v1 v2 v3 v4 v6 z33 (0 : Int32) (0 : Int32) G)))))
def wlX6_clears_159 (K188 : Int32 → Prop) (v4 : Int32) (v5 : Int32) (v6 : Int32) (v7 : Int32) (G : GS) : Nat → Int32 → Prop
  | 0, _ => False
  | n159 + 1, v8 => ((v4 ≤ v8 → K188 v8) ∧ (¬ v4 ≤ v8 → (vp_in (((13 : Int32) * v8) + v7) 78 ∧ ((¬ (G 52 (cl (((13 : Int32) * v8) + v7))) = 0 → K188 v8) ∧ ((G 52 (cl (((13 : Int32) * v8) + v7))) = 0 → wlX6_clears_159 K188 v4 v5 v6 v7 G n159 (v8 + (1 : Int32)))))))
def wlX6_clears_225 (K272 : GS → Prop) (v4 : Int32) (v5 : Int32) (v6 : Int32) (v7 : Int32) (v9 : Int32) : Nat → Int32 → GS → Prop
  | 0, _, _ => False
  | n225 + 1, v10, G => (((13 : Int32) ≤ v10 → K272 G) ∧ (¬ (13 : Int32) ≤ v10 → (vp_in (((13 : Int32) * v6) + v10) 78 ∧ (¬ (G 45 0) = 0 ∧ (vp_in (((13 : Int32) * v6) + v10) 78 ∧ (∀ G265 : GS, G265 = wr G 52 (cl (((13 : Int32) * v6) + v10)) (((G 52 (cl (((13 : Int32) * v6) + v10))) * v9) - ((G 52 (cl (((13 : Int32) * v6) + v10))) * v9) / (G 45 0) * (G 45 0)) → wlX6_clears_225 K272 v4 v5 v6 v7 v9 n225 (v10 + (1 : Int32)) G265))))))
def wlX6_clears_141 (K291 : Int32 → GS → Prop) (v4 : Int32) (v5 : Int32) : Nat → Int32 → Int32 → GS → Prop
  | 0, _, _, _ => False
  | n141 + 1, v6, v7, G => ((v5 ≤ v7 → K291 v6 G) ∧ (¬ v5 ≤ v7 → ((v4 ≤ v6 → K291 v6 G) ∧ (¬ v4 ≤ v6 → (∃ z159 : Nat, wlX6_clears_159 (fun x8_188 => ((v4 ≤ x8_188 → wlX6_clears_141 K291 v4 v5 n141 v6 (v7 + (1 : Int32)) G) ∧ (¬ v4 ≤ x8_188 → (wX6_swaps x8_188 v6 G (fun G200 => (vp_in (((13 : Int32) * v6) + v7) 78 ∧ (wX6_turned (G200 52 (cl (((13 : Int32) * v6) + v7))) G200 (fun r217 => (∃ z225 : Nat, wlX6_clears_225 (fun G_272 => (wX6_takes v6 v7 v4 G_272 (fun G279 => wlX6_clears_141 K291 v4 v5 n141 (v6 + (1 : Int32)) (v7 + (1 : Int32)) G279))) v4 v5 v6 v7 r217 z225 (0 : Int32) G200))))))))) v4 v5 v6 v7 G z159 v6)))))
def wlX6_clears_295 (K318 : Prop) (K326 : Prop) (v4 : Int32) (v6 : Int32) (G : GS) : Nat → Int32 → Prop
  | 0, _ => False
  | n295 + 1, v7 => ((v4 ≤ v7 → K326) ∧ (¬ v4 ≤ v7 → (vp_in (((13 : Int32) * v7) + (12 : Int32)) 78 ∧ (((G 52 (cl (((13 : Int32) * v7) + (12 : Int32)))) = 0 → wlX6_clears_295 K318 K326 v4 v6 G n295 (v7 + (1 : Int32))) ∧ (¬ (G 52 (cl (((13 : Int32) * v7) + (12 : Int32)))) = 0 → K318)))))
def wX6_clears (v1 : Int32) (v2 : Int32) (v3 : Int32) (G : GS) (P : Int32 → GS → Prop) : Prop := (∃ z9 : Nat, wlX6_clears_9 (fun x4_129 G_129 => (wX6_bits v1 (fun r130 => (∃ z141 : Nat, wlX6_clears_141 (fun x6_291 G_291 => (∃ z295 : Nat, wlX6_clears_295 (P (-1 : Int32) G_291) (P x6_291 G_291) x4_129 x6_291 G_291 z295 x6_291)) x4_129 r130 z141 (0 : Int32) (0 : Int32) G_129)))) v1 v2 v3 z9 (0 : Int32) (0 : Int32) G)
set_option maxHeartbeats 4000000 in
set_option maxRecDepth 100000 in
theorem lX6_clears_33 {p : Program} {l : Launch} {e : Env} {s : State} {m : MethodId} {args : Array Value} {below : List Frame} {meth : Method} {c : Code} {Q : State → Prop} {w : WE} {cs : List Nat} {A : Nat → Prop} {H0 : Heap} (C : CallFix p m c cX6_clears 11 s args wsX6_clears RX6) (hK : KW w s) (hcs : ∀ c, c < 56 → c ∈ cs) (v1 : Int32) (v2 : Int32) (v3 : Int32) (v4 : Int32) (v6 : Int32) (B : BS) {K87 : GS → Prop} (k87 : ∀ (G : GS) (H : Heap) (locs : List Loc) (ls : Array Slot), K87 G → WO w cs A H0 G B H locs → lv_has ls 11 [(0, .ref (w.1 45)), (1, .int v1), (2, .int v2), (3, .int v3), (4, .int v4), (6, .int v6)] → W p l e (rmW 2) s m args below meth c H locs 0 0 Q (F0 m 87 ls [])) : ∀ (n : Nat) (v5 : Int32) (v7 : Int32) (G : GS) (H : Heap) (locs : List Loc) (ls : Array Slot), wlX6_clears_33 K87 v1 v2 v3 v4 v6 n v5 v7 G → WO w cs A H0 G B H locs → lv_has ls 11 [(0, .ref (w.1 45)), (1, .int v1), (2, .int v2), (3, .int v3), (4, .int v4), (5, .int v5), (6, .int v6), (7, .int v7)] → W p l e (rmW 2) s m args below meth c H locs 0 0 Q (F0 m 33 ls []) := by
  have hx := C.1
  have hb := C.2.1
  have hown := C.2.2.2.1
  have hta := fun w h => C.2.2.2.2 w (List.mem_cons_of_mem _ h)
  intro n
  induction n with
  | zero => intro v5 v7 G H locs ls h hw hl; exact False.elim h
  | succ n ih =>
    intro v5 v7 G H locs ls h hw hl
    refine lv_iload hx hb dX6_clears_33 (lv_at hl 7 rfl) ?_
    refine lv_aload_n hx hb dX6_clears_35 rfl (lv_at hl 0 rfl) ?_
    refine q_get (v := .int (G 45 2)) (C := RX6) (T := TX6) (N := 17) (ci := 6) hx hb hta kw_X6 hown hK hw 45 (hcs _ (by omega)) (by unfold isB; omega) rfl rfl 2 (by decide) (hta _ kw_285) rfl rfl dX6_clears_36 ?_
    refine lv_icmp_ge (tgt := 87) hx hb dX6_clears_39 (by decide) (fun c3 => ?_) (fun c3 => ?_)
    · have h := h.1 c3
      exact k87 G _ _ _ h hw (lv_sub hl [0, 1, 2, 3, 4, 6] rfl)
    · have h := h.2 c3
      refine lv_iload_n hx hb dX6_clears_42 rfl (lv_at hl 1 rfl) ?_
      refine lv_iload hx hb dX6_clears_43 (lv_at hl 7 rfl) ?_
      refine lv_ishr hx hb dX6_clears_45 ?_
      refine lv_iconst (v := 1) hx hb dX6_clears_46 (by decide) ?_
      refine lv_iand hx hb dX6_clears_47 ?_
      refine lv_iconst (v := 1) hx hb dX6_clears_48 (by decide) ?_
      refine lv_icmp_ne (tgt := 81) hx hb dX6_clears_49 (by decide) (fun c4 => ?_) (fun c4 => ?_)
      · have h := h.1 c4
        refine lv_iinc (v := (v7 + (1 : Int32))) (lv' := [(7, .int (v7 + (1 : Int32))), (0, .ref (w.1 45)), (1, .int v1), (2, .int v2), (3, .int v3), (4, .int v4), (5, .int v5), (6, .int v6)]) hx hb dX6_clears_81 hl (k := 7) rfl rfl (by decide) rfl (fun ls hl => ?_)
        refine lv_goto (tgt := 33) hx hb dX6_clears_84 (by decide) ?_
        exact ih v5 (v7 + (1 : Int32)) G _ _ _ h hw (lv_sub hl [1, 2, 3, 4, 5, 6, 7, 0] rfl)
      · have h := h.2 c4
        refine lv_aload_n hx hb dX6_clears_52 rfl (lv_at hl 0 rfl) ?_
        refine q_get (v := .ref (w.1 52)) (C := RX6) (T := TX6) (N := 17) (ci := 6) hx hb hta kw_X6 hown hK hw 45 (hcs _ (by omega)) (by unfold isB; omega) rfl rfl 13 (by decide) (hta _ kw_297) rfl rfl dX6_clears_53 ?_
        refine lv_bipush (v := 13) hx hb dX6_clears_56 (by decide) ?_
        refine lv_iload hx hb dX6_clears_58 (lv_at hl 4 rfl) ?_
        refine lv_imul hx hb dX6_clears_60 ?_
        refine lv_iload hx hb dX6_clears_61 (lv_at hl 5 rfl) ?_
        refine lv_iadd hx hb dX6_clears_63 ?_
        refine lv_aload_n hx hb dX6_clears_64 rfl (lv_at hl 0 rfl) ?_
        refine q_get (v := .ref (w.1 46)) (C := RX6) (T := TX6) (N := 17) (ci := 6) hx hb hta kw_X6 hown hK hw 45 (hcs _ (by omega)) (by unfold isB; omega) rfl rfl 3 (by decide) (hta _ kw_286) rfl rfl dX6_clears_65 ?_
        refine lv_bipush (v := 12) hx hb dX6_clears_68 (by decide) ?_
        refine lv_iload hx hb dX6_clears_70 (lv_at hl 6 rfl) ?_
        refine lv_imul hx hb dX6_clears_72 ?_
        refine lv_iload hx hb dX6_clears_73 (lv_at hl 7 rfl) ?_
        refine lv_iadd hx hb dX6_clears_75 ?_
        obtain ⟨hin5, h⟩ := h
        refine q_iald (n := 72) hx hb hK hw (hcs _ (by omega)) (by unfold isI; omega) rfl hin5 dX6_clears_76 ?_
        obtain ⟨hin6, h⟩ := h
        refine q_iast (n := 78) hx hb hK hw (hcs _ (by omega)) (by unfold isI; omega) rfl hin6 dX6_clears_77 (fun H locs G77 eG77 hw => ?_)
        have h := h G77 eG77
        refine lv_iinc (v := (v5 + (1 : Int32))) (lv' := [(5, .int (v5 + (1 : Int32))), (0, .ref (w.1 45)), (1, .int v1), (2, .int v2), (3, .int v3), (4, .int v4), (6, .int v6), (7, .int v7)]) hx hb dX6_clears_78 hl (k := 5) rfl rfl (by decide) rfl (fun ls hl => ?_)
        refine lv_iinc (v := (v7 + (1 : Int32))) (lv' := [(7, .int (v7 + (1 : Int32))), (5, .int (v5 + (1 : Int32))), (0, .ref (w.1 45)), (1, .int v1), (2, .int v2), (3, .int v3), (4, .int v4), (6, .int v6)]) hx hb dX6_clears_81 hl (k := 7) rfl rfl (by decide) rfl (fun ls hl => ?_)
        refine lv_goto (tgt := 33) hx hb dX6_clears_84 (by decide) ?_
        exact ih (v5 + (1 : Int32)) (v7 + (1 : Int32)) G77 _ _ _ h hw (lv_sub hl [2, 3, 4, 5, 6, 1, 7, 0] rfl)
set_option maxHeartbeats 4000000 in
set_option maxRecDepth 100000 in
theorem lX6_clears_9 {p : Program} {l : Launch} {e : Env} {s : State} {m : MethodId} {args : Array Value} {below : List Frame} {meth : Method} {c : Code} {Q : State → Prop} {w : WE} {cs : List Nat} {A : Nat → Prop} {H0 : Heap} (C : CallFix p m c cX6_clears 11 s args wsX6_clears RX6) (hK : KW w s) (hcs : ∀ c, c < 56 → c ∈ cs) (v1 : Int32) (v2 : Int32) (v3 : Int32) (B : BS) {K129 : Int32 → GS → Prop} (k129 : ∀ (y4 : Int32) (G : GS) (H : Heap) (locs : List Loc) (ls : Array Slot), K129 y4 G → WO w cs A H0 G B H locs → lv_has ls 11 [(0, .ref (w.1 45)), (1, .int v1), (4, .int y4)] → W p l e (rmW 2) s m args below meth c H locs 0 0 Q (F0 m 129 ls [])) : ∀ (n : Nat) (v4 : Int32) (v6 : Int32) (G : GS) (H : Heap) (locs : List Loc) (ls : Array Slot), wlX6_clears_9 K129 v1 v2 v3 n v4 v6 G → WO w cs A H0 G B H locs → lv_has ls 11 [(0, .ref (w.1 45)), (1, .int v1), (2, .int v2), (3, .int v3), (4, .int v4), (6, .int v6)] → W p l e (rmW 2) s m args below meth c H locs 0 0 Q (F0 m 9 ls []) := by
  have hx := C.1
  have hb := C.2.1
  have hown := C.2.2.2.1
  have hta := fun w h => C.2.2.2.2 w (List.mem_cons_of_mem _ h)
  intro n
  induction n with
  | zero => intro v4 v6 G H locs ls h hw hl; exact False.elim h
  | succ n ih =>
    intro v4 v6 G H locs ls h hw hl
    refine lv_iload hx hb dX6_clears_9 (lv_at hl 5 rfl) ?_
    refine lv_aload_n hx hb dX6_clears_11 rfl (lv_at hl 0 rfl) ?_
    refine q_get (v := .int (G 45 1)) (C := RX6) (T := TX6) (N := 17) (ci := 6) hx hb hta kw_X6 hown hK hw 45 (hcs _ (by omega)) (by unfold isB; omega) rfl rfl 1 (by decide) (hta _ kw_284) rfl rfl dX6_clears_12 ?_
    refine lv_icmp_ge (tgt := 129) hx hb dX6_clears_15 (by decide) (fun c1 => ?_) (fun c1 => ?_)
    · have h := h.1 c1
      exact k129 v4 G _ _ _ h hw (lv_sub hl [0, 1, 4] rfl)
    · have h := h.2 c1
      refine lv_iload_n hx hb dX6_clears_18 rfl (lv_at hl 2 rfl) ?_
      refine lv_iload hx hb dX6_clears_19 (lv_at hl 5 rfl) ?_
      refine lv_ishr hx hb dX6_clears_21 ?_
      refine lv_iconst (v := 1) hx hb dX6_clears_22 (by decide) ?_
      refine lv_iand hx hb dX6_clears_23 ?_
      refine lv_if_ne (tgt := 123) hx hb dX6_clears_24 (by decide) (fun c2 => ?_) (fun c2 => ?_)
      · have h := h.1 c2
        refine lv_iinc (v := (v6 + (1 : Int32))) (lv' := [(6, .int (v6 + (1 : Int32))), (0, .ref (w.1 45)), (1, .int v1), (2, .int v2), (3, .int v3), (4, .int v4)]) hx hb dX6_clears_123 hl (k := 5) rfl rfl (by decide) rfl (fun ls hl => ?_)
        refine lv_goto (tgt := 9) hx hb dX6_clears_126 (by decide) ?_
        exact ih v4 (v6 + (1 : Int32)) G _ _ _ h hw (lv_sub hl [1, 2, 3, 4, 5, 0] rfl)
      · have h := h.2 c2
        refine lv_iconst (v := 0) hx hb dX6_clears_27 (by decide) ?_
        refine lv_istore (lv' := [(5, .int (0 : Int32)), (0, .ref (w.1 45)), (1, .int v1), (2, .int v2), (3, .int v3), (4, .int v4), (6, .int v6)]) hx hb dX6_clears_28 hl (by decide) rfl (fun ls hl => ?_)
        refine lv_iconst (v := 0) hx hb dX6_clears_30 (by decide) ?_
        refine lv_istore (lv' := [(7, .int (0 : Int32)), (5, .int (0 : Int32)), (0, .ref (w.1 45)), (1, .int v1), (2, .int v2), (3, .int v3), (4, .int v4), (6, .int v6)]) hx hb dX6_clears_31 hl (by decide) rfl (fun ls hl => ?_)
        obtain ⟨n33, h⟩ := h
        refine lX6_clears_33 C hK hcs v1 v2 v3 v4 v6 B (K87 := _) ?_ n33 (0 : Int32) (0 : Int32) G _ _ _ h hw (lv_sub hl [2, 3, 4, 5, 6, 1, 7, 0] rfl)
        · intro G_87 H locs ls h hw hl
          refine lv_aload_n hx hb dX6_clears_87 rfl (lv_at hl 0 rfl) ?_
          refine q_get (v := .ref (w.1 52)) (C := RX6) (T := TX6) (N := 17) (ci := 6) hx hb hta kw_X6 hown hK hw 45 (hcs _ (by omega)) (by unfold isB; omega) rfl rfl 13 (by decide) (hta _ kw_297) rfl rfl dX6_clears_88 ?_
          refine lv_bipush (v := 13) hx hb dX6_clears_91 (by decide) ?_
          refine lv_iload hx hb dX6_clears_93 (lv_at hl 4 rfl) ?_
          refine lv_imul hx hb dX6_clears_95 ?_
          refine lv_bipush (v := 12) hx hb dX6_clears_96 (by decide) ?_
          refine lv_iadd hx hb dX6_clears_98 ?_
          refine lv_iload_n hx hb dX6_clears_99 rfl (lv_at hl 3 rfl) ?_
          refine lv_if_ge (tgt := 107) hx hb dX6_clears_100 (by decide) (fun c7 => ?_) (fun c7 => ?_)
          · have h := h.1 c7
            refine lv_aload_n hx hb dX6_clears_107 rfl (lv_at hl 0 rfl) ?_
            refine q_get (v := .ref (w.1 48)) (C := RX6) (T := TX6) (N := 17) (ci := 6) hx hb hta kw_X6 hown hK hw 45 (hcs _ (by omega)) (by unfold isB; omega) rfl rfl 5 (by decide) (hta _ kw_288) rfl rfl dX6_clears_108 ?_
            refine lv_bipush (v := 6) hx hb dX6_clears_111 (by decide) ?_
            refine lv_iload_n hx hb dX6_clears_113 rfl (lv_at hl 3 rfl) ?_
            refine lv_imul hx hb dX6_clears_114 ?_
            refine lv_iload hx hb dX6_clears_115 (lv_at hl 5 rfl) ?_
            refine lv_iadd hx hb dX6_clears_117 ?_
            obtain ⟨hin8, h⟩ := h
            refine q_iald (n := 36) hx hb hK hw (hcs _ (by omega)) (by unfold isI; omega) rfl hin8 dX6_clears_118 ?_
            obtain ⟨hin9, h⟩ := h
            refine q_iast (n := 78) hx hb hK hw (hcs _ (by omega)) (by unfold isI; omega) rfl hin9 dX6_clears_119 (fun H locs G119 eG119 hw => ?_)
            have h := h G119 eG119
            refine lv_iinc (v := (v4 + (1 : Int32))) (lv' := [(4, .int (v4 + (1 : Int32))), (0, .ref (w.1 45)), (1, .int v1), (2, .int v2), (3, .int v3), (6, .int v6)]) hx hb dX6_clears_120 hl (k := 4) rfl rfl (by decide) rfl (fun ls hl => ?_)
            refine lv_iinc (v := (v6 + (1 : Int32))) (lv' := [(6, .int (v6 + (1 : Int32))), (4, .int (v4 + (1 : Int32))), (0, .ref (w.1 45)), (1, .int v1), (2, .int v2), (3, .int v3)]) hx hb dX6_clears_123 hl (k := 5) rfl rfl (by decide) rfl (fun ls hl => ?_)
            refine lv_goto (tgt := 9) hx hb dX6_clears_126 (by decide) ?_
            exact ih (v4 + (1 : Int32)) (v6 + (1 : Int32)) G119 _ _ _ h hw (lv_sub hl [2, 3, 4, 5, 1, 0] rfl)
          · have h := h.2 c7
            refine lv_iconst (v := 0) hx hb dX6_clears_103 (by decide) ?_
            refine lv_goto (tgt := 119) hx hb dX6_clears_104 (by decide) ?_
            obtain ⟨hin10, h⟩ := h
            refine q_iast (n := 78) hx hb hK hw (hcs _ (by omega)) (by unfold isI; omega) rfl hin10 dX6_clears_119 (fun H locs G119 eG119 hw => ?_)
            have h := h G119 eG119
            refine lv_iinc (v := (v4 + (1 : Int32))) (lv' := [(4, .int (v4 + (1 : Int32))), (0, .ref (w.1 45)), (1, .int v1), (2, .int v2), (3, .int v3), (6, .int v6)]) hx hb dX6_clears_120 hl (k := 4) rfl rfl (by decide) rfl (fun ls hl => ?_)
            refine lv_iinc (v := (v6 + (1 : Int32))) (lv' := [(6, .int (v6 + (1 : Int32))), (4, .int (v4 + (1 : Int32))), (0, .ref (w.1 45)), (1, .int v1), (2, .int v2), (3, .int v3)]) hx hb dX6_clears_123 hl (k := 5) rfl rfl (by decide) rfl (fun ls hl => ?_)
            refine lv_goto (tgt := 9) hx hb dX6_clears_126 (by decide) ?_
            exact ih (v4 + (1 : Int32)) (v6 + (1 : Int32)) G119 _ _ _ h hw (lv_sub hl [2, 3, 4, 5, 1, 0] rfl)
set_option maxHeartbeats 4000000 in
set_option maxRecDepth 100000 in
theorem lX6_clears_159 {p : Program} {l : Launch} {e : Env} {s : State} {m : MethodId} {args : Array Value} {below : List Frame} {meth : Method} {c : Code} {Q : State → Prop} {w : WE} {cs : List Nat} {A : Nat → Prop} {H0 : Heap} (C : CallFix p m c cX6_clears 11 s args wsX6_clears RX6) (hK : KW w s) (hcs : ∀ c, c < 56 → c ∈ cs) (v4 : Int32) (v5 : Int32) (v6 : Int32) (v7 : Int32) (G : GS) (B : BS) {K188 : Int32 → Prop} (k188 : ∀ (y8 : Int32) (H : Heap) (locs : List Loc) (ls : Array Slot), K188 y8 → WO w cs A H0 G B H locs → lv_has ls 11 [(0, .ref (w.1 45)), (4, .int v4), (5, .int v5), (6, .int v6), (7, .int v7), (8, .int y8)] → W p l e (rmW 2) s m args below meth c H locs 0 0 Q (F0 m 188 ls [])) : ∀ (n : Nat) (v8 : Int32) (H : Heap) (locs : List Loc) (ls : Array Slot), wlX6_clears_159 K188 v4 v5 v6 v7 G n v8 → WO w cs A H0 G B H locs → lv_has ls 11 [(0, .ref (w.1 45)), (4, .int v4), (5, .int v5), (6, .int v6), (7, .int v7), (8, .int v8)] → W p l e (rmW 2) s m args below meth c H locs 0 0 Q (F0 m 159 ls []) := by
  have hx := C.1
  have hb := C.2.1
  have hown := C.2.2.2.1
  have hta := fun w h => C.2.2.2.2 w (List.mem_cons_of_mem _ h)
  intro n
  induction n with
  | zero => intro v8 H locs ls h hw hl; exact False.elim h
  | succ n ih =>
    intro v8 H locs ls h hw hl
    refine lv_iload hx hb dX6_clears_159 (lv_at hl 5 rfl) ?_
    refine lv_iload hx hb dX6_clears_161 (lv_at hl 1 rfl) ?_
    refine lv_icmp_ge (tgt := 188) hx hb dX6_clears_163 (by decide) (fun c13 => ?_) (fun c13 => ?_)
    · have h := h.1 c13
      exact k188 v8 _ _ _ h hw (lv_sub hl [0, 1, 2, 3, 4, 5] rfl)
    · have h := h.2 c13
      refine lv_aload_n hx hb dX6_clears_166 rfl (lv_at hl 0 rfl) ?_
      refine q_get (v := .ref (w.1 52)) (C := RX6) (T := TX6) (N := 17) (ci := 6) hx hb hta kw_X6 hown hK hw 45 (hcs _ (by omega)) (by unfold isB; omega) rfl rfl 13 (by decide) (hta _ kw_297) rfl rfl dX6_clears_167 ?_
      refine lv_bipush (v := 13) hx hb dX6_clears_170 (by decide) ?_
      refine lv_iload hx hb dX6_clears_172 (lv_at hl 5 rfl) ?_
      refine lv_imul hx hb dX6_clears_174 ?_
      refine lv_iload hx hb dX6_clears_175 (lv_at hl 4 rfl) ?_
      refine lv_iadd hx hb dX6_clears_177 ?_
      obtain ⟨hin14, h⟩ := h
      refine q_iald (n := 78) hx hb hK hw (hcs _ (by omega)) (by unfold isI; omega) rfl hin14 dX6_clears_178 ?_
      refine lv_if_ne (tgt := 188) hx hb dX6_clears_179 (by decide) (fun c15 => ?_) (fun c15 => ?_)
      · have h := h.1 c15
        exact k188 v8 _ _ _ h hw (lv_sub hl [0, 1, 2, 3, 4, 5] rfl)
      · have h := h.2 c15
        refine lv_iinc (v := (v8 + (1 : Int32))) (lv' := [(8, .int (v8 + (1 : Int32))), (0, .ref (w.1 45)), (4, .int v4), (5, .int v5), (6, .int v6), (7, .int v7)]) hx hb dX6_clears_182 hl (k := 5) rfl rfl (by decide) rfl (fun ls hl => ?_)
        refine lv_goto (tgt := 159) hx hb dX6_clears_185 (by decide) ?_
        exact ih (v8 + (1 : Int32)) _ _ _ h hw (lv_sub hl [1, 2, 3, 4, 5, 0] rfl)
set_option maxHeartbeats 4000000 in
set_option maxRecDepth 100000 in
theorem lX6_clears_225 {p : Program} {l : Launch} {e : Env} {s : State} {m : MethodId} {args : Array Value} {below : List Frame} {meth : Method} {c : Code} {Q : State → Prop} {w : WE} {cs : List Nat} {A : Nat → Prop} {H0 : Heap} (C : CallFix p m c cX6_clears 11 s args wsX6_clears RX6) (hK : KW w s) (hcs : ∀ c, c < 56 → c ∈ cs) (v4 : Int32) (v5 : Int32) (v6 : Int32) (v7 : Int32) (v9 : Int32) (B : BS) {K272 : GS → Prop} (k272 : ∀ (G : GS) (H : Heap) (locs : List Loc) (ls : Array Slot), K272 G → WO w cs A H0 G B H locs → lv_has ls 11 [(0, .ref (w.1 45)), (4, .int v4), (5, .int v5), (6, .int v6), (7, .int v7)] → W p l e (rmW 2) s m args below meth c H locs 0 0 Q (F0 m 272 ls [])) : ∀ (n : Nat) (v10 : Int32) (G : GS) (H : Heap) (locs : List Loc) (ls : Array Slot), wlX6_clears_225 K272 v4 v5 v6 v7 v9 n v10 G → WO w cs A H0 G B H locs → lv_has ls 11 [(0, .ref (w.1 45)), (4, .int v4), (5, .int v5), (6, .int v6), (7, .int v7), (9, .int v9), (10, .int v10)] → W p l e (rmW 2) s m args below meth c H locs 0 0 Q (F0 m 225 ls []) := by
  have hx := C.1
  have hb := C.2.1
  have hown := C.2.2.2.1
  have hta := fun w h => C.2.2.2.2 w (List.mem_cons_of_mem _ h)
  intro n
  induction n with
  | zero => intro v10 G H locs ls h hw hl; exact False.elim h
  | succ n ih =>
    intro v10 G H locs ls h hw hl
    refine lv_iload hx hb dX6_clears_225 (lv_at hl 6 rfl) ?_
    refine lv_bipush (v := 13) hx hb dX6_clears_227 (by decide) ?_
    refine lv_icmp_ge (tgt := 272) hx hb dX6_clears_229 (by decide) (fun c18 => ?_) (fun c18 => ?_)
    · have h := h.1 c18
      exact k272 G _ _ _ h hw (lv_sub hl [0, 1, 2, 3, 4] rfl)
    · have h := h.2 c18
      refine lv_aload_n hx hb dX6_clears_232 rfl (lv_at hl 0 rfl) ?_
      refine q_get (v := .ref (w.1 52)) (C := RX6) (T := TX6) (N := 17) (ci := 6) hx hb hta kw_X6 hown hK hw 45 (hcs _ (by omega)) (by unfold isB; omega) rfl rfl 13 (by decide) (hta _ kw_297) rfl rfl dX6_clears_233 ?_
      refine lv_bipush (v := 13) hx hb dX6_clears_236 (by decide) ?_
      refine lv_iload hx hb dX6_clears_238 (lv_at hl 3 rfl) ?_
      refine lv_imul hx hb dX6_clears_240 ?_
      refine lv_iload hx hb dX6_clears_241 (lv_at hl 6 rfl) ?_
      refine lv_iadd hx hb dX6_clears_243 ?_
      refine lv_aload_n hx hb dX6_clears_244 rfl (lv_at hl 0 rfl) ?_
      refine q_get (v := .ref (w.1 52)) (C := RX6) (T := TX6) (N := 17) (ci := 6) hx hb hta kw_X6 hown hK hw 45 (hcs _ (by omega)) (by unfold isB; omega) rfl rfl 13 (by decide) (hta _ kw_297) rfl rfl dX6_clears_245 ?_
      refine lv_bipush (v := 13) hx hb dX6_clears_248 (by decide) ?_
      refine lv_iload hx hb dX6_clears_250 (lv_at hl 3 rfl) ?_
      refine lv_imul hx hb dX6_clears_252 ?_
      refine lv_iload hx hb dX6_clears_253 (lv_at hl 6 rfl) ?_
      refine lv_iadd hx hb dX6_clears_255 ?_
      obtain ⟨hin19, h⟩ := h
      refine q_iald (n := 78) hx hb hK hw (hcs _ (by omega)) (by unfold isI; omega) rfl hin19 dX6_clears_256 ?_
      refine lv_iload hx hb dX6_clears_257 (lv_at hl 5 rfl) ?_
      refine lv_imul hx hb dX6_clears_259 ?_
      refine lv_aload_n hx hb dX6_clears_260 rfl (lv_at hl 0 rfl) ?_
      refine q_get (v := .int (G 45 0)) (C := RX6) (T := TX6) (N := 17) (ci := 6) hx hb hta kw_X6 hown hK hw 45 (hcs _ (by omega)) (by unfold isB; omega) rfl rfl 0 (by decide) (hta _ kw_278) rfl rfl dX6_clears_261 ?_
      obtain ⟨hz20, h⟩ := h
      refine lv_irem hx hb dX6_clears_264 hz20 ?_
      obtain ⟨hin21, h⟩ := h
      refine q_iast (n := 78) hx hb hK hw (hcs _ (by omega)) (by unfold isI; omega) rfl hin21 dX6_clears_265 (fun H locs G265 eG265 hw => ?_)
      have h := h G265 eG265
      refine lv_iinc (v := (v10 + (1 : Int32))) (lv' := [(10, .int (v10 + (1 : Int32))), (0, .ref (w.1 45)), (4, .int v4), (5, .int v5), (6, .int v6), (7, .int v7), (9, .int v9)]) hx hb dX6_clears_266 hl (k := 6) rfl rfl (by decide) rfl (fun ls hl => ?_)
      refine lv_goto (tgt := 225) hx hb dX6_clears_269 (by decide) ?_
      exact ih (v10 + (1 : Int32)) G265 _ _ _ h hw (lv_sub hl [1, 2, 3, 4, 5, 6, 0] rfl)
set_option maxHeartbeats 4000000 in
set_option maxRecDepth 100000 in
theorem lX6_clears_141 {p : Program} {l : Launch} {e : Env} {s : State} {m : MethodId} {args : Array Value} {below : List Frame} {meth : Method} {c : Code} {Q : State → Prop} {w : WE} {cs : List Nat} {A : Nat → Prop} {H0 : Heap} (C : CallFix p m c cX6_clears 11 s args wsX6_clears RX6) (hK : KW w s) (hcs : ∀ c, c < 56 → c ∈ cs) (v4 : Int32) (v5 : Int32) (B : BS) {K291 : Int32 → GS → Prop} (k291 : ∀ (y6 : Int32) (G : GS) (H : Heap) (locs : List Loc) (ls : Array Slot), K291 y6 G → WO w cs A H0 G B H locs → lv_has ls 11 [(0, .ref (w.1 45)), (4, .int v4), (6, .int y6)] → W p l e (rmW 2) s m args below meth c H locs 0 0 Q (F0 m 291 ls [])) : ∀ (n : Nat) (v6 : Int32) (v7 : Int32) (G : GS) (H : Heap) (locs : List Loc) (ls : Array Slot), wlX6_clears_141 K291 v4 v5 n v6 v7 G → WO w cs A H0 G B H locs → lv_has ls 11 [(0, .ref (w.1 45)), (4, .int v4), (5, .int v5), (6, .int v6), (7, .int v7)] → W p l e (rmW 2) s m args below meth c H locs 0 0 Q (F0 m 141 ls []) := by
  have hx := C.1
  have hb := C.2.1
  have hown := C.2.2.2.1
  have hta := fun w h => C.2.2.2.2 w (List.mem_cons_of_mem _ h)
  intro n
  induction n with
  | zero => intro v6 v7 G H locs ls h hw hl; exact False.elim h
  | succ n ih =>
    intro v6 v7 G H locs ls h hw hl
    refine lv_iload hx hb dX6_clears_141 (lv_at hl 4 rfl) ?_
    refine lv_iload hx hb dX6_clears_143 (lv_at hl 2 rfl) ?_
    refine lv_icmp_ge (tgt := 291) hx hb dX6_clears_145 (by decide) (fun c11 => ?_) (fun c11 => ?_)
    · have h := h.1 c11
      exact k291 v6 G _ _ _ h hw (lv_sub hl [0, 1, 3] rfl)
    · have h := h.2 c11
      refine lv_iload hx hb dX6_clears_148 (lv_at hl 3 rfl) ?_
      refine lv_iload hx hb dX6_clears_150 (lv_at hl 1 rfl) ?_
      refine lv_icmp_ge (tgt := 291) hx hb dX6_clears_152 (by decide) (fun c12 => ?_) (fun c12 => ?_)
      · have h := h.1 c12
        exact k291 v6 G _ _ _ h hw (lv_sub hl [0, 1, 3] rfl)
      · have h := h.2 c12
        refine lv_iload hx hb dX6_clears_155 (lv_at hl 3 rfl) ?_
        refine lv_istore (lv' := [(8, .int v6), (0, .ref (w.1 45)), (4, .int v4), (5, .int v5), (6, .int v6), (7, .int v7)]) hx hb dX6_clears_157 hl (by decide) rfl (fun ls hl => ?_)
        obtain ⟨n159, h⟩ := h
        refine lX6_clears_159 C hK hcs v4 v5 v6 v7 G B (K188 := _) ?_ n159 v6 _ _ _ h hw (lv_sub hl [1, 2, 3, 4, 5, 0] rfl)
        · intro x8_188 H locs ls h hw hl
          refine lv_iload hx hb dX6_clears_188 (lv_at hl 5 rfl) ?_
          refine lv_iload hx hb dX6_clears_190 (lv_at hl 1 rfl) ?_
          refine lv_icmp_ge (tgt := 285) hx hb dX6_clears_192 (by decide) (fun c16 => ?_) (fun c16 => ?_)
          · have h := h.1 c16
            refine lv_iinc (v := (v7 + (1 : Int32))) (lv' := [(7, .int (v7 + (1 : Int32))), (0, .ref (w.1 45)), (4, .int v4), (5, .int v5), (6, .int v6), (8, .int x8_188)]) hx hb dX6_clears_285 hl (k := 4) rfl rfl (by decide) rfl (fun ls hl => ?_)
            refine lv_goto (tgt := 141) hx hb dX6_clears_288 (by decide) ?_
            exact ih v6 (v7 + (1 : Int32)) G _ _ _ h hw (lv_sub hl [1, 2, 3, 4, 0] rfl)
          · have h := h.2 c16
            refine lv_aload_n hx hb dX6_clears_195 rfl (lv_at hl 0 rfl) ?_
            refine lv_iload hx hb dX6_clears_196 (lv_at hl 5 rfl) ?_
            refine lv_iload hx hb dX6_clears_198 (lv_at hl 3 rfl) ?_
            refine q_callv hw (va_runV (As := [.int x8_188, .int v6]) (rest := []) C (mX6_swaps l w cs (fun c h => hcs c (by omega)) _ G B x8_188 v6 _ h) (cwV 2 hta (gVw kw_302 kw_303 kw_304 kw_17 kw_301) rfl rfl rfl (by decide +kernel) ⟨Nat.le_of_ble_eq_true rfl, Nat.le_of_ble_eq_true rfl⟩) (preV hK hw 45 (hcs _ (by omega)) (by unfold isB; omega) rfl rfl _) rfl rfl hl.1 rfl (lv_room (Nat.le_of_ble_eq_true rfl)) dX6_clears_200 ⟨Nat.le_refl 0, Nat.le_refl 0⟩) (fun G200 B200 H locs h hw => ?_)
            obtain ⟨h, e2⟩ := h; subst e2
            refine lv_aload_n hx hb dX6_clears_203 rfl (lv_at hl 0 rfl) ?_
            refine lv_aload_n hx hb dX6_clears_204 rfl (lv_at hl 0 rfl) ?_
            refine q_get (v := .ref (w.1 52)) (C := RX6) (T := TX6) (N := 17) (ci := 6) hx hb hta kw_X6 hown hK hw 45 (hcs _ (by omega)) (by unfold isB; omega) rfl rfl 13 (by decide) (hta _ kw_297) rfl rfl dX6_clears_205 ?_
            refine lv_bipush (v := 13) hx hb dX6_clears_208 (by decide) ?_
            refine lv_iload hx hb dX6_clears_210 (lv_at hl 3 rfl) ?_
            refine lv_imul hx hb dX6_clears_212 ?_
            refine lv_iload hx hb dX6_clears_213 (lv_at hl 4 rfl) ?_
            refine lv_iadd hx hb dX6_clears_215 ?_
            obtain ⟨hin17, h⟩ := h
            refine q_iald (n := 78) hx hb hK hw (hcs _ (by omega)) (by unfold isI; omega) rfl hin17 dX6_clears_216 ?_
            refine q_calli hw (va_runV (As := [.int (G200 52 (cl (((13 : Int32) * v6) + v7)))]) (rest := []) C (mX6_turned l w cs (fun c h => hcs c (by omega)) _ G200 B (G200 52 (cl (((13 : Int32) * v6) + v7))) _ h) (cwV 1 hta (gVw kw_306 kw_307 kw_308 kw_17 kw_305) rfl rfl rfl (by decide +kernel) ⟨Nat.le_of_ble_eq_true rfl, Nat.le_of_ble_eq_true rfl⟩) (preV hK hw 45 (hcs _ (by omega)) (by unfold isB; omega) rfl rfl _) rfl rfl hl.1 rfl (lv_room (Nat.le_of_ble_eq_true rfl)) dX6_clears_217 ⟨Nat.le_refl 0, Nat.le_refl 0⟩) (fun r217 G217 B217 H locs h hw => ?_)
            obtain ⟨h, e1, e2⟩ := h; subst e1; subst e2
            refine lv_istore (lv' := [(9, .int r217), (0, .ref (w.1 45)), (4, .int v4), (5, .int v5), (6, .int v6), (7, .int v7), (8, .int x8_188)]) hx hb dX6_clears_220 hl (by decide) rfl (fun ls hl => ?_)
            refine lv_iconst (v := 0) hx hb dX6_clears_222 (by decide) ?_
            refine lv_istore (lv' := [(10, .int (0 : Int32)), (9, .int r217), (0, .ref (w.1 45)), (4, .int v4), (5, .int v5), (6, .int v6), (7, .int v7), (8, .int x8_188)]) hx hb dX6_clears_223 hl (by decide) rfl (fun ls hl => ?_)
            obtain ⟨n225, h⟩ := h
            refine lX6_clears_225 C hK hcs v4 v5 v6 v7 r217 B (K272 := _) ?_ n225 (0 : Int32) G200 _ _ _ h hw (lv_sub hl [2, 3, 4, 5, 6, 1, 0] rfl)
            · intro G_272 H locs ls h hw hl
              refine lv_aload_n hx hb dX6_clears_272 rfl (lv_at hl 0 rfl) ?_
              refine lv_iload hx hb dX6_clears_273 (lv_at hl 3 rfl) ?_
              refine lv_iload hx hb dX6_clears_275 (lv_at hl 4 rfl) ?_
              refine lv_iload hx hb dX6_clears_277 (lv_at hl 1 rfl) ?_
              refine q_callv hw (va_runV (As := [.int v6, .int v7, .int v4]) (rest := []) C (mX6_takes l w cs (fun c h => hcs c (by omega)) _ G_272 B v6 v7 v4 _ h) (cwV 3 hta (gVw kw_310 kw_311 kw_312 kw_17 kw_309) rfl rfl rfl (by decide +kernel) ⟨Nat.le_of_ble_eq_true rfl, Nat.le_of_ble_eq_true rfl⟩) (preV hK hw 45 (hcs _ (by omega)) (by unfold isB; omega) rfl rfl _) rfl rfl hl.1 rfl (lv_room (Nat.le_of_ble_eq_true rfl)) dX6_clears_279 ⟨Nat.le_refl 0, Nat.le_refl 0⟩) (fun G279 B279 H locs h hw => ?_)
              obtain ⟨h, e2⟩ := h; subst e2
              refine lv_iinc (v := (v6 + (1 : Int32))) (lv' := [(6, .int (v6 + (1 : Int32))), (0, .ref (w.1 45)), (4, .int v4), (5, .int v5), (7, .int v7)]) hx hb dX6_clears_282 hl (k := 3) rfl rfl (by decide) rfl (fun ls hl => ?_)
              refine lv_iinc (v := (v7 + (1 : Int32))) (lv' := [(7, .int (v7 + (1 : Int32))), (6, .int (v6 + (1 : Int32))), (0, .ref (w.1 45)), (4, .int v4), (5, .int v5)]) hx hb dX6_clears_285 hl (k := 4) rfl rfl (by decide) rfl (fun ls hl => ?_)
              refine lv_goto (tgt := 141) hx hb dX6_clears_288 (by decide) ?_
              exact ih (v6 + (1 : Int32)) (v7 + (1 : Int32)) G279 _ _ _ h hw (lv_sub hl [2, 3, 4, 1, 0] rfl)
set_option maxHeartbeats 4000000 in
set_option maxRecDepth 100000 in
theorem lX6_clears_295 {p : Program} {l : Launch} {e : Env} {s : State} {m : MethodId} {args : Array Value} {below : List Frame} {meth : Method} {c : Code} {Q : State → Prop} {w : WE} {cs : List Nat} {A : Nat → Prop} {H0 : Heap} (C : CallFix p m c cX6_clears 11 s args wsX6_clears RX6) (hK : KW w s) (hcs : ∀ c, c < 56 → c ∈ cs) (v4 : Int32) (v6 : Int32) (G : GS) (B : BS) {K318 : Prop} {K326 : Prop} (k318 : ∀ (H : Heap) (locs : List Loc) (ls : Array Slot), K318 → WO w cs A H0 G B H locs → lv_has ls 11 [] → W p l e (rmW 2) s m args below meth c H locs 0 0 Q (F0 m 318 ls [])) (k326 : ∀ (H : Heap) (locs : List Loc) (ls : Array Slot), K326 → WO w cs A H0 G B H locs → lv_has ls 11 [(6, .int v6)] → W p l e (rmW 2) s m args below meth c H locs 0 0 Q (F0 m 326 ls [])) : ∀ (n : Nat) (v7 : Int32) (H : Heap) (locs : List Loc) (ls : Array Slot), wlX6_clears_295 K318 K326 v4 v6 G n v7 → WO w cs A H0 G B H locs → lv_has ls 11 [(0, .ref (w.1 45)), (4, .int v4), (6, .int v6), (7, .int v7)] → W p l e (rmW 2) s m args below meth c H locs 0 0 Q (F0 m 295 ls []) := by
  have hx := C.1
  have hb := C.2.1
  have hown := C.2.2.2.1
  have hta := fun w h => C.2.2.2.2 w (List.mem_cons_of_mem _ h)
  intro n
  induction n with
  | zero => intro v7 H locs ls h hw hl; exact False.elim h
  | succ n ih =>
    intro v7 H locs ls h hw hl
    refine lv_iload hx hb dX6_clears_295 (lv_at hl 3 rfl) ?_
    refine lv_iload hx hb dX6_clears_297 (lv_at hl 1 rfl) ?_
    refine lv_icmp_ge (tgt := 326) hx hb dX6_clears_299 (by decide) (fun c22 => ?_) (fun c22 => ?_)
    · have h := h.1 c22
      exact k326 _ _ _ h hw (lv_sub hl [2] rfl)
    · have h := h.2 c22
      refine lv_aload_n hx hb dX6_clears_302 rfl (lv_at hl 0 rfl) ?_
      refine q_get (v := .ref (w.1 52)) (C := RX6) (T := TX6) (N := 17) (ci := 6) hx hb hta kw_X6 hown hK hw 45 (hcs _ (by omega)) (by unfold isB; omega) rfl rfl 13 (by decide) (hta _ kw_297) rfl rfl dX6_clears_303 ?_
      refine lv_bipush (v := 13) hx hb dX6_clears_306 (by decide) ?_
      refine lv_iload hx hb dX6_clears_308 (lv_at hl 3 rfl) ?_
      refine lv_imul hx hb dX6_clears_310 ?_
      refine lv_bipush (v := 12) hx hb dX6_clears_311 (by decide) ?_
      refine lv_iadd hx hb dX6_clears_313 ?_
      obtain ⟨hin23, h⟩ := h
      refine q_iald (n := 78) hx hb hK hw (hcs _ (by omega)) (by unfold isI; omega) rfl hin23 dX6_clears_314 ?_
      refine lv_if_eq (tgt := 320) hx hb dX6_clears_315 (by decide) (fun c24 => ?_) (fun c24 => ?_)
      · have h := h.1 c24
        refine lv_iinc (v := (v7 + (1 : Int32))) (lv' := [(7, .int (v7 + (1 : Int32))), (0, .ref (w.1 45)), (4, .int v4), (6, .int v6)]) hx hb dX6_clears_320 hl (k := 3) rfl rfl (by decide) rfl (fun ls hl => ?_)
        refine lv_goto (tgt := 295) hx hb dX6_clears_323 (by decide) ?_
        exact ih (v7 + (1 : Int32)) _ _ _ h hw (lv_sub hl [1, 2, 3, 0] rfl)
      · have h := h.2 c24
        exact k318 _ _ _ h hw (lv_sub hl [] rfl)
set_option maxHeartbeats 4000000 in
set_option maxRecDepth 100000 in
theorem mX6_clears (l : Launch) (w : WE) (cs : List Nat) (hcs : ∀ c, c < 56 → c ∈ cs) (sz : Nat) (G : GS) (B : BS) (v1 : Int32) (v2 : Int32) (v3 : Int32) (P : Int32 → GS → Prop) (h : wX6_clears v1 v2 v3 G P) : Met l yX6_clears wsX6_clears (rmW 2) (PcW w cs sz G B [.ref (w.1 45), .int v1, .int v2, .int v3]) (QI w cs sz (fun r G1 B1 => P r G1 ∧ B = B1)) 0 0 (AA w cs sz) := by
  refine metW (own := RX6) [.ref (w.1 45), .int v1, .int v2, .int v3] (by decide +kernel) rfl rfl (Nat.le_of_ble_eq_true rfl) ?_
  intro p e s m below meth c ls hsz C hr hK hw hl
  subst hsz
  have hx := C.1
  have hb := C.2.1
  have hown := C.2.2.2.1
  have hta := fun w h => C.2.2.2.2 w (List.mem_cons_of_mem _ h)
  have hl : lv_has ls 11 [(0, .ref (w.1 45)), (1, .int v1), (2, .int v2), (3, .int v3)] := hl
  refine lv_iconst (v := 0) hx hb dX6_clears_0 (by decide) ?_
  refine lv_istore (lv' := [(4, .int (0 : Int32)), (0, .ref (w.1 45)), (1, .int v1), (2, .int v2), (3, .int v3)]) hx hb dX6_clears_1 hl (by decide) rfl (fun ls hl => ?_)
  refine lv_iconst (v := 0) hx hb dX6_clears_3 (by decide) ?_
  refine lv_istore (lv' := [(5, .int (0 : Int32)), (4, .int (0 : Int32)), (0, .ref (w.1 45)), (1, .int v1), (2, .int v2), (3, .int v3)]) hx hb dX6_clears_4 hl (by decide) rfl (fun ls hl => ?_)
  refine lv_iconst (v := 0) hx hb dX6_clears_6 (by decide) ?_
  refine lv_istore (lv' := [(6, .int (0 : Int32)), (5, .int (0 : Int32)), (4, .int (0 : Int32)), (0, .ref (w.1 45)), (1, .int v1), (2, .int v2), (3, .int v3)]) hx hb dX6_clears_7 hl (by decide) rfl (fun ls hl => ?_)
  obtain ⟨n9, h⟩ := h
  refine lX6_clears_9 C hK hcs v1 v2 v3 B (K129 := _) ?_ n9 (0 : Int32) (0 : Int32) G _ _ _ h hw (lv_sub hl [3, 4, 5, 6, 2, 0] rfl)
  · intro x4_129 G_129 H locs ls h hw hl
    refine lv_iload_n hx hb dX6_clears_129 rfl (lv_at hl 1 rfl) ?_
    refine q_calli hw (va_runS (As := [.int v1]) (rest := []) C (mX6_bits l w cs _ G_129 B v1 _ h) (va_cwS 1 hta (gSw kw_299 kw_300 kw_17 kw_298) rfl rfl rfl (by decide +kernel) ⟨Nat.le_of_ble_eq_true rfl, Nat.le_of_ble_eq_true rfl⟩) (preS hK hw _) rfl rfl hl.1 rfl (lv_room (Nat.le_of_ble_eq_true rfl)) dX6_clears_130 ⟨Nat.le_refl 0, Nat.le_refl 0⟩) (fun r130 G130 B130 H locs h hw => ?_)
    obtain ⟨h, e1, e2⟩ := h; subst e1; subst e2
    refine lv_istore (lv' := [(5, .int r130), (0, .ref (w.1 45)), (1, .int v1), (4, .int x4_129)]) hx hb dX6_clears_133 hl (by decide) rfl (fun ls hl => ?_)
    refine lv_iconst (v := 0) hx hb dX6_clears_135 (by decide) ?_
    refine lv_istore (lv' := [(6, .int (0 : Int32)), (5, .int r130), (0, .ref (w.1 45)), (1, .int v1), (4, .int x4_129)]) hx hb dX6_clears_136 hl (by decide) rfl (fun ls hl => ?_)
    refine lv_iconst (v := 0) hx hb dX6_clears_138 (by decide) ?_
    refine lv_istore (lv' := [(7, .int (0 : Int32)), (6, .int (0 : Int32)), (5, .int r130), (0, .ref (w.1 45)), (1, .int v1), (4, .int x4_129)]) hx hb dX6_clears_139 hl (by decide) rfl (fun ls hl => ?_)
    obtain ⟨n141, h⟩ := h
    refine lX6_clears_141 C hK hcs x4_129 r130 B (K291 := _) ?_ n141 (0 : Int32) (0 : Int32) G_129 _ _ _ h hw (lv_sub hl [3, 5, 2, 1, 0] rfl)
    · intro x6_291 G_291 H locs ls h hw hl
      refine lv_iload hx hb dX6_clears_291 (lv_at hl 2 rfl) ?_
      refine lv_istore (lv' := [(7, .int x6_291), (0, .ref (w.1 45)), (4, .int x4_129), (6, .int x6_291)]) hx hb dX6_clears_293 hl (by decide) rfl (fun ls hl => ?_)
      obtain ⟨n295, h⟩ := h
      refine lX6_clears_295 C hK hcs x4_129 x6_291 G_291 B (K318 := _) (K326 := _) ?_ ?_ n295 x6_291 _ _ _ h hw (lv_sub hl [1, 2, 3, 0] rfl)
      · intro H locs ls h hw hl
        refine lv_iconst (v := -1) hx hb dX6_clears_318 (by decide) ?_
        exact q_reti hx hb hr hw ⟨h, rfl⟩ dX6_clears_319
      · intro H locs ls h hw hl
        refine lv_iload hx hb dX6_clears_326 (lv_at hl 0 rfl) ?_
        exact q_reti hx hb hr hw ⟨h, rfl⟩ dX6_clears_328
def wX6_rankOf (v1 : Int32) (G : GS) (P : Int32 → GS → Prop) : Prop := (wX6_clears v1 (0 : Int32) (-1 : Int32) G (fun r4 G4 => P r4 G4))
set_option maxHeartbeats 4000000 in
set_option maxRecDepth 100000 in
theorem mX6_rankOf (l : Launch) (w : WE) (cs : List Nat) (hcs : ∀ c, c < 56 → c ∈ cs) (sz : Nat) (G : GS) (B : BS) (v1 : Int32) (P : Int32 → GS → Prop) (h : wX6_rankOf v1 G P) : Met l yX6_rankOf wsX6_rankOf (rmW 3) (PcW w cs sz G B [.ref (w.1 45), .int v1]) (QI w cs sz (fun r G1 B1 => P r G1 ∧ B = B1)) 0 0 (AA w cs sz) := by
  refine metW (own := RX6) [.ref (w.1 45), .int v1] (by decide +kernel) rfl rfl (Nat.le_of_ble_eq_true rfl) ?_
  intro p e s m below meth c ls hsz C hr hK hw hl
  subst hsz
  have hx := C.1
  have hb := C.2.1
  have hown := C.2.2.2.1
  have hta := fun w h => C.2.2.2.2 w (List.mem_cons_of_mem _ h)
  have hl : lv_has ls 2 [(0, .ref (w.1 45)), (1, .int v1)] := hl
  refine lv_aload_n hx hb dX6_rankOf_0 rfl (lv_at hl 0 rfl) ?_
  refine lv_iload_n hx hb dX6_rankOf_1 rfl (lv_at hl 1 rfl) ?_
  refine lv_iconst (v := 0) hx hb dX6_rankOf_2 (by decide) ?_
  refine lv_iconst (v := -1) hx hb dX6_rankOf_3 (by decide) ?_
  refine q_calli hw (va_runV (As := [.int v1, .int (0 : Int32), .int (-1 : Int32)]) (rest := []) C (mX6_clears l w cs (fun c h => hcs c (by omega)) _ G B v1 (0 : Int32) (-1 : Int32) _ h) (cwV 3 hta (gVw kw_314 kw_315 kw_316 kw_17 kw_313) rfl rfl rfl (by decide +kernel) ⟨Nat.le_of_ble_eq_true rfl, Nat.le_of_ble_eq_true rfl⟩) (preV hK hw 45 (hcs _ (by omega)) (by unfold isB; omega) rfl rfl _) rfl rfl hl.1 rfl (lv_room (Nat.le_of_ble_eq_true rfl)) dX6_rankOf_4 ⟨Nat.le_refl 0, Nat.le_refl 0⟩) (fun r4 G4 B4 H locs h hw => ?_)
  obtain ⟨h, e2⟩ := h; subst e2
  exact q_reti hx hb hr hw ⟨h, rfl⟩ dX6_rankOf_7
def wlX6_spark_9 (K54 : Int32 → GS → Prop) : Nat → Int32 → Int32 → GS → Prop
  | 0, _, _, _ => False
  | n9 + 1, v1, v2, G => ((((1 : Int32) <<< ((G 45 2) &&& (31 : Int32))) ≤ v2 → K54 v1 G) ∧ (¬ ((1 : Int32) <<< ((G 45 2) &&& (31 : Int32))) ≤ v2 → (wX6_bits v2 (fun r20 => ((v1 ≤ r20 → wlX6_spark_9 K54 n9 v1 (v2 + (1 : Int32)) G) ∧ (¬ v1 ≤ r20 → (wX6_rankOf v2 G (fun r29 G29 => (wX6_bits v2 (fun r33 => ((r33 ≤ r29 → wlX6_spark_9 K54 n9 v1 (v2 + (1 : Int32)) G29) ∧ (¬ r33 ≤ r29 → (wX6_bits v2 (fun r40 => wlX6_spark_9 K54 n9 r40 (v2 + (1 : Int32)) G29))))))))))))))
def wX6_spark (G : GS) (P : Int32 → GS → Prop) : Prop := (∀ x6 : Int32, x6 = ((G 45 2) + (1 : Int32)) → (∃ z9 : Nat, wlX6_spark_9 (fun x1_54 G_54 => P x1_54 G_54) z9 x6 (1 : Int32) G))
set_option maxHeartbeats 4000000 in
set_option maxRecDepth 100000 in
theorem lX6_spark_9 {p : Program} {l : Launch} {e : Env} {s : State} {m : MethodId} {args : Array Value} {below : List Frame} {meth : Method} {c : Code} {Q : State → Prop} {w : WE} {cs : List Nat} {A : Nat → Prop} {H0 : Heap} (C : CallFix p m c cX6_spark 3 s args wsX6_spark RX6) (hK : KW w s) (hcs : ∀ c, c < 56 → c ∈ cs) (B : BS) {K54 : Int32 → GS → Prop} (k54 : ∀ (y1 : Int32) (G : GS) (H : Heap) (locs : List Loc) (ls : Array Slot), K54 y1 G → WO w cs A H0 G B H locs → lv_has ls 3 [(1, .int y1)] → W p l e (rmW 4) s m args below meth c H locs 0 0 Q (F0 m 54 ls [])) : ∀ (n : Nat) (v1 : Int32) (v2 : Int32) (G : GS) (H : Heap) (locs : List Loc) (ls : Array Slot), wlX6_spark_9 K54 n v1 v2 G → WO w cs A H0 G B H locs → lv_has ls 3 [(0, .ref (w.1 45)), (1, .int v1), (2, .int v2)] → W p l e (rmW 4) s m args below meth c H locs 0 0 Q (F0 m 9 ls []) := by
  have hx := C.1
  have hb := C.2.1
  have hown := C.2.2.2.1
  have hta := fun w h => C.2.2.2.2 w (List.mem_cons_of_mem _ h)
  intro n
  induction n with
  | zero => intro v1 v2 G H locs ls h hw hl; exact False.elim h
  | succ n ih =>
    intro v1 v2 G H locs ls h hw hl
    refine lv_iload_n hx hb dX6_spark_9 rfl (lv_at hl 2 rfl) ?_
    refine lv_iconst (v := 1) hx hb dX6_spark_10 (by decide) ?_
    refine lv_aload_n hx hb dX6_spark_11 rfl (lv_at hl 0 rfl) ?_
    refine q_get (v := .int (G 45 2)) (C := RX6) (T := TX6) (N := 17) (ci := 6) hx hb hta kw_X6 hown hK hw 45 (hcs _ (by omega)) (by unfold isB; omega) rfl rfl 2 (by decide) (hta _ kw_285) rfl rfl dX6_spark_12 ?_
    refine lv_ishl hx hb dX6_spark_15 ?_
    refine lv_icmp_ge (tgt := 54) hx hb dX6_spark_16 (by decide) (fun c1 => ?_) (fun c1 => ?_)
    · have h := h.1 c1
      exact k54 v1 G _ _ _ h hw (lv_sub hl [1] rfl)
    · have h := h.2 c1
      refine lv_iload_n hx hb dX6_spark_19 rfl (lv_at hl 2 rfl) ?_
      refine q_calli hw (va_runS (As := [.int v2]) (rest := []) C (mX6_bits l w cs _ G B v2 _ h) (va_cwS 1 hta (gSw kw_299 kw_300 kw_17 kw_298) rfl rfl rfl (by decide +kernel) ⟨Nat.le_of_ble_eq_true rfl, Nat.le_of_ble_eq_true rfl⟩) (preS hK hw _) rfl rfl hl.1 rfl (lv_room (Nat.le_of_ble_eq_true rfl)) dX6_spark_20 ⟨Nat.le_refl 0, Nat.le_refl 0⟩) (fun r20 G20 B20 H locs h hw => ?_)
      obtain ⟨h, e1, e2⟩ := h; subst e1; subst e2
      refine lv_iload_n hx hb dX6_spark_23 rfl (lv_at hl 1 rfl) ?_
      refine lv_icmp_ge (tgt := 46) hx hb dX6_spark_24 (by decide) (fun c2 => ?_) (fun c2 => ?_)
      · have h := h.1 c2
        refine lv_iload_n hx hb dX6_spark_46 rfl (lv_at hl 1 rfl) ?_
        refine lv_istore_n (lv' := [(1, .int v1), (0, .ref (w.1 45)), (2, .int v2)]) hx hb dX6_spark_47 rfl hl (by decide) rfl (fun ls hl => ?_)
        refine lv_iinc (v := (v2 + (1 : Int32))) (lv' := [(2, .int (v2 + (1 : Int32))), (1, .int v1), (0, .ref (w.1 45))]) hx hb dX6_spark_48 hl (k := 2) rfl rfl (by decide) rfl (fun ls hl => ?_)
        refine lv_goto (tgt := 9) hx hb dX6_spark_51 (by decide) ?_
        exact ih v1 (v2 + (1 : Int32)) G _ _ _ h hw (lv_sub hl [2, 1, 0] rfl)
      · have h := h.2 c2
        refine lv_aload_n hx hb dX6_spark_27 rfl (lv_at hl 0 rfl) ?_
        refine lv_iload_n hx hb dX6_spark_28 rfl (lv_at hl 2 rfl) ?_
        refine q_calli hw (va_runV (As := [.int v2]) (rest := []) C (mX6_rankOf l w cs (fun c h => hcs c (by omega)) _ G B v2 _ h) (cwV 1 hta (gVw kw_318 kw_319 kw_320 kw_17 kw_317) rfl rfl rfl (by decide +kernel) ⟨Nat.le_of_ble_eq_true rfl, Nat.le_of_ble_eq_true rfl⟩) (preV hK hw 45 (hcs _ (by omega)) (by unfold isB; omega) rfl rfl _) rfl rfl hl.1 rfl (lv_room (Nat.le_of_ble_eq_true rfl)) dX6_spark_29 ⟨Nat.le_refl 0, Nat.le_refl 0⟩) (fun r29 G29 B29 H locs h hw => ?_)
        obtain ⟨h, e2⟩ := h; subst e2
        refine lv_iload_n hx hb dX6_spark_32 rfl (lv_at hl 2 rfl) ?_
        refine q_calli hw (va_runS (As := [.int v2]) (rest := [.int r29]) C (mX6_bits l w cs _ G29 B v2 _ h) (va_cwS 1 hta (gSw kw_299 kw_300 kw_17 kw_298) rfl rfl rfl (by decide +kernel) ⟨Nat.le_of_ble_eq_true rfl, Nat.le_of_ble_eq_true rfl⟩) (preS hK hw _) rfl rfl hl.1 rfl (lv_room (Nat.le_of_ble_eq_true rfl)) dX6_spark_33 ⟨Nat.le_refl 0, Nat.le_refl 0⟩) (fun r33 G33 B33 H locs h hw => ?_)
        obtain ⟨h, e1, e2⟩ := h; subst e1; subst e2
        refine lv_icmp_ge (tgt := 46) hx hb dX6_spark_36 (by decide) (fun c3 => ?_) (fun c3 => ?_)
        · have h := h.1 c3
          refine lv_iload_n hx hb dX6_spark_46 rfl (lv_at hl 1 rfl) ?_
          refine lv_istore_n (lv' := [(1, .int v1), (0, .ref (w.1 45)), (2, .int v2)]) hx hb dX6_spark_47 rfl hl (by decide) rfl (fun ls hl => ?_)
          refine lv_iinc (v := (v2 + (1 : Int32))) (lv' := [(2, .int (v2 + (1 : Int32))), (1, .int v1), (0, .ref (w.1 45))]) hx hb dX6_spark_48 hl (k := 2) rfl rfl (by decide) rfl (fun ls hl => ?_)
          refine lv_goto (tgt := 9) hx hb dX6_spark_51 (by decide) ?_
          exact ih v1 (v2 + (1 : Int32)) G29 _ _ _ h hw (lv_sub hl [2, 1, 0] rfl)
        · have h := h.2 c3
          refine lv_iload_n hx hb dX6_spark_39 rfl (lv_at hl 2 rfl) ?_
          refine q_calli hw (va_runS (As := [.int v2]) (rest := []) C (mX6_bits l w cs _ G29 B v2 _ h) (va_cwS 1 hta (gSw kw_299 kw_300 kw_17 kw_298) rfl rfl rfl (by decide +kernel) ⟨Nat.le_of_ble_eq_true rfl, Nat.le_of_ble_eq_true rfl⟩) (preS hK hw _) rfl rfl hl.1 rfl (lv_room (Nat.le_of_ble_eq_true rfl)) dX6_spark_40 ⟨Nat.le_refl 0, Nat.le_refl 0⟩) (fun r40 G40 B40 H locs h hw => ?_)
          obtain ⟨h, e1, e2⟩ := h; subst e1; subst e2
          refine lv_goto (tgt := 47) hx hb dX6_spark_43 (by decide) ?_
          refine lv_istore_n (lv' := [(1, .int r40), (0, .ref (w.1 45)), (2, .int v2)]) hx hb dX6_spark_47 rfl hl (by decide) rfl (fun ls hl => ?_)
          refine lv_iinc (v := (v2 + (1 : Int32))) (lv' := [(2, .int (v2 + (1 : Int32))), (1, .int r40), (0, .ref (w.1 45))]) hx hb dX6_spark_48 hl (k := 2) rfl rfl (by decide) rfl (fun ls hl => ?_)
          refine lv_goto (tgt := 9) hx hb dX6_spark_51 (by decide) ?_
          exact ih r40 (v2 + (1 : Int32)) G29 _ _ _ h hw (lv_sub hl [2, 1, 0] rfl)
set_option maxHeartbeats 4000000 in
set_option maxRecDepth 100000 in
theorem mX6_spark (l : Launch) (w : WE) (cs : List Nat) (hcs : ∀ c, c < 56 → c ∈ cs) (sz : Nat) (G : GS) (B : BS) (P : Int32 → GS → Prop) (h : wX6_spark G P) : Met l yX6_spark wsX6_spark (rmW 4) (PcW w cs sz G B [.ref (w.1 45)]) (QI w cs sz (fun r G1 B1 => P r G1 ∧ B = B1)) 0 0 (AA w cs sz) := by
  refine metW (own := RX6) [.ref (w.1 45)] (by decide +kernel) rfl rfl (Nat.le_of_ble_eq_true rfl) ?_
  intro p e s m below meth c ls hsz C hr hK hw hl
  subst hsz
  have hx := C.1
  have hb := C.2.1
  have hown := C.2.2.2.1
  have hta := fun w h => C.2.2.2.2 w (List.mem_cons_of_mem _ h)
  have hl : lv_has ls 3 [(0, .ref (w.1 45))] := hl
  refine lv_aload_n hx hb dX6_spark_0 rfl (lv_at hl 0 rfl) ?_
  refine q_get (v := .int (G 45 2)) (C := RX6) (T := TX6) (N := 17) (ci := 6) hx hb hta kw_X6 hown hK hw 45 (hcs _ (by omega)) (by unfold isB; omega) rfl rfl 2 (by decide) (hta _ kw_285) rfl rfl dX6_spark_1 ?_
  refine lv_iconst (v := 1) hx hb dX6_spark_4 (by decide) ?_
  refine lv_iadd hx hb dX6_spark_5 ?_
  refine lv_topi (fun x6 ex6 => ?_)
  have h := h x6 ex6
  refine lv_istore_n (lv' := [(1, .int x6), (0, .ref (w.1 45))]) hx hb dX6_spark_6 rfl hl (by decide) rfl (fun ls hl => ?_)
  refine lv_iconst (v := 1) hx hb dX6_spark_7 (by decide) ?_
  refine lv_istore_n (lv' := [(2, .int (1 : Int32)), (1, .int x6), (0, .ref (w.1 45))]) hx hb dX6_spark_8 rfl hl (by decide) rfl (fun ls hl => ?_)
  obtain ⟨n9, h⟩ := h
  refine lX6_spark_9 C hK hcs B (K54 := _) ?_ n9 x6 (1 : Int32) G _ _ _ h hw (lv_sub hl [2, 1, 0] rfl)
  · intro x1_54 G_54 H locs ls h hw hl
    refine lv_iload_n hx hb dX6_spark_54 rfl (lv_at hl 0 rfl) ?_
    exact q_reti hx hb hr hw ⟨h, rfl⟩ dX6_spark_55
def wlX6_alike_42 (K102 : Int32 → Prop) (v1 : Int32) (v2 : Int32) (v3 : Int32) (v4 : Int32) (G : GS) : Nat → Int32 → Int32 → Prop
  | 0, _, _ => False
  | n42 + 1, v5, v6 => (((G 45 1) ≤ v6 → K102 v5) ∧ (¬ (G 45 1) ≤ v6 → (vp_in (((12 : Int32) * v6) + v2) 72 ∧ (¬ (G 45 0) = 0 ∧ (vp_in (((12 : Int32) * v6) + v3) 72 ∧ ((¬ (((G 46 (cl (((12 : Int32) * v6) + v2))) * v4) - ((G 46 (cl (((12 : Int32) * v6) + v2))) * v4) / (G 45 0) * (G 45 0)) = (G 46 (cl (((12 : Int32) * v6) + v3))) → (∀ x94 : Int32, x94 = (v5 + (0 : Int32)) → wlX6_alike_42 K102 v1 v2 v3 v4 G n42 x94 (v6 + (1 : Int32)))) ∧ ((((G 46 (cl (((12 : Int32) * v6) + v2))) * v4) - ((G 46 (cl (((12 : Int32) * v6) + v2))) * v4) / (G 45 0) * (G 45 0)) = (G 46 (cl (((12 : Int32) * v6) + v3))) → (∀ x94 : Int32, x94 = (v5 + (1 : Int32)) → wlX6_alike_42 K102 v1 v2 v3 v4 G n42 x94 (v6 + (1 : Int32))))))))))
def wlX6_alike_27 (K121 : Int32 → Prop) (v2 : Int32) (v3 : Int32) (G : GS) : Nat → Int32 → Int32 → Prop
  | 0, _, _ => False
  | n27 + 1, v1, v4 => (((G 45 0) ≤ v4 → K121 v1) ∧ (¬ (G 45 0) ≤ v4 → (∃ z42 : Nat, wlX6_alike_42 (fun x5_102 => ((x5_102 ≤ v1 → wlX6_alike_27 K121 v2 v3 G n27 v1 (v4 + (1 : Int32))) ∧ (¬ x5_102 ≤ v1 → wlX6_alike_27 K121 v2 v3 G n27 x5_102 (v4 + (1 : Int32))))) v1 v2 v3 v4 G z42 (0 : Int32) (0 : Int32))))
def wlX6_alike_16 (K127 : Int32 → Prop) (v2 : Int32) (G : GS) : Nat → Int32 → Int32 → Prop
  | 0, _, _ => False
  | n16 + 1, v1, v3 => (((G 45 2) ≤ v3 → K127 v1) ∧ (¬ (G 45 2) ≤ v3 → (∃ z27 : Nat, wlX6_alike_27 (fun x1_121 => wlX6_alike_16 K127 v2 G n16 x1_121 (v3 + (1 : Int32))) v2 v3 G z27 v1 (1 : Int32))))
def wlX6_alike_4 (K133 : Int32 → Prop) (G : GS) : Nat → Int32 → Int32 → Prop
  | 0, _, _ => False
  | n4 + 1, v1, v2 => (((G 45 2) ≤ v2 → K133 v1) ∧ (¬ (G 45 2) ≤ v2 → (∀ x15 : Int32, x15 = (v2 + (1 : Int32)) → (∃ z16 : Nat, wlX6_alike_16 (fun x1_127 => wlX6_alike_4 K133 G n4 x1_127 (v2 + (1 : Int32))) v2 G z16 v1 x15))))
def wX6_alike (G : GS) (P : Int32 → Prop) : Prop := (∃ z4 : Nat, wlX6_alike_4 (fun x1_133 => P x1_133) G z4 (0 : Int32) (0 : Int32))
set_option maxHeartbeats 4000000 in
set_option maxRecDepth 100000 in
theorem lX6_alike_42 {p : Program} {l : Launch} {e : Env} {s : State} {m : MethodId} {args : Array Value} {below : List Frame} {meth : Method} {c : Code} {Q : State → Prop} {w : WE} {cs : List Nat} {A : Nat → Prop} {H0 : Heap} (C : CallFix p m c cX6_alike 7 s args wsX6_alike RX6) (hK : KW w s) (hcs : ∀ c, c < 56 → c ∈ cs) (v1 : Int32) (v2 : Int32) (v3 : Int32) (v4 : Int32) (G : GS) (B : BS) {K102 : Int32 → Prop} (k102 : ∀ (y5 : Int32) (H : Heap) (locs : List Loc) (ls : Array Slot), K102 y5 → WO w cs A H0 G B H locs → lv_has ls 7 [(0, .ref (w.1 45)), (1, .int v1), (2, .int v2), (3, .int v3), (4, .int v4), (5, .int y5)] → W p l e (rmW 0) s m args below meth c H locs 0 0 Q (F0 m 102 ls [])) : ∀ (n : Nat) (v5 : Int32) (v6 : Int32) (H : Heap) (locs : List Loc) (ls : Array Slot), wlX6_alike_42 K102 v1 v2 v3 v4 G n v5 v6 → WO w cs A H0 G B H locs → lv_has ls 7 [(0, .ref (w.1 45)), (1, .int v1), (2, .int v2), (3, .int v3), (4, .int v4), (5, .int v5), (6, .int v6)] → W p l e (rmW 0) s m args below meth c H locs 0 0 Q (F0 m 42 ls []) := by
  have hx := C.1
  have hb := C.2.1
  have hown := C.2.2.2.1
  have hta := fun w h => C.2.2.2.2 w (List.mem_cons_of_mem _ h)
  intro n
  induction n with
  | zero => intro v5 v6 H locs ls h hw hl; exact False.elim h
  | succ n ih =>
    intro v5 v6 H locs ls h hw hl
    refine lv_iload hx hb dX6_alike_42 (lv_at hl 6 rfl) ?_
    refine lv_aload_n hx hb dX6_alike_44 rfl (lv_at hl 0 rfl) ?_
    refine q_get (v := .int (G 45 1)) (C := RX6) (T := TX6) (N := 17) (ci := 6) hx hb hta kw_X6 hown hK hw 45 (hcs _ (by omega)) (by unfold isB; omega) rfl rfl 1 (by decide) (hta _ kw_284) rfl rfl dX6_alike_45 ?_
    refine lv_icmp_ge (tgt := 102) hx hb dX6_alike_48 (by decide) (fun c4 => ?_) (fun c4 => ?_)
    · have h := h.1 c4
      exact k102 v5 _ _ _ h hw (lv_sub hl [0, 1, 2, 3, 4, 5] rfl)
    · have h := h.2 c4
      refine lv_iload hx hb dX6_alike_51 (lv_at hl 5 rfl) ?_
      refine lv_aload_n hx hb dX6_alike_53 rfl (lv_at hl 0 rfl) ?_
      refine q_get (v := .ref (w.1 46)) (C := RX6) (T := TX6) (N := 17) (ci := 6) hx hb hta kw_X6 hown hK hw 45 (hcs _ (by omega)) (by unfold isB; omega) rfl rfl 3 (by decide) (hta _ kw_286) rfl rfl dX6_alike_54 ?_
      refine lv_bipush (v := 12) hx hb dX6_alike_57 (by decide) ?_
      refine lv_iload hx hb dX6_alike_59 (lv_at hl 6 rfl) ?_
      refine lv_imul hx hb dX6_alike_61 ?_
      refine lv_iload_n hx hb dX6_alike_62 rfl (lv_at hl 2 rfl) ?_
      refine lv_iadd hx hb dX6_alike_63 ?_
      obtain ⟨hin5, h⟩ := h
      refine q_iald (n := 72) hx hb hK hw (hcs _ (by omega)) (by unfold isI; omega) rfl hin5 dX6_alike_64 ?_
      refine lv_iload hx hb dX6_alike_65 (lv_at hl 4 rfl) ?_
      refine lv_imul hx hb dX6_alike_67 ?_
      refine lv_aload_n hx hb dX6_alike_68 rfl (lv_at hl 0 rfl) ?_
      refine q_get (v := .int (G 45 0)) (C := RX6) (T := TX6) (N := 17) (ci := 6) hx hb hta kw_X6 hown hK hw 45 (hcs _ (by omega)) (by unfold isB; omega) rfl rfl 0 (by decide) (hta _ kw_278) rfl rfl dX6_alike_69 ?_
      obtain ⟨hz6, h⟩ := h
      refine lv_irem hx hb dX6_alike_72 hz6 ?_
      refine lv_aload_n hx hb dX6_alike_73 rfl (lv_at hl 0 rfl) ?_
      refine q_get (v := .ref (w.1 46)) (C := RX6) (T := TX6) (N := 17) (ci := 6) hx hb hta kw_X6 hown hK hw 45 (hcs _ (by omega)) (by unfold isB; omega) rfl rfl 3 (by decide) (hta _ kw_286) rfl rfl dX6_alike_74 ?_
      refine lv_bipush (v := 12) hx hb dX6_alike_77 (by decide) ?_
      refine lv_iload hx hb dX6_alike_79 (lv_at hl 6 rfl) ?_
      refine lv_imul hx hb dX6_alike_81 ?_
      refine lv_iload_n hx hb dX6_alike_82 rfl (lv_at hl 3 rfl) ?_
      refine lv_iadd hx hb dX6_alike_83 ?_
      obtain ⟨hin7, h⟩ := h
      refine q_iald (n := 72) hx hb hK hw (hcs _ (by omega)) (by unfold isI; omega) rfl hin7 dX6_alike_84 ?_
      refine lv_icmp_ne (tgt := 92) hx hb dX6_alike_85 (by decide) (fun c8 => ?_) (fun c8 => ?_)
      · have h := h.1 c8
        refine lv_iconst (v := 0) hx hb dX6_alike_92 (by decide) ?_
        refine lv_iadd hx hb dX6_alike_93 ?_
        refine lv_topi (fun x94 ex94 => ?_)
        have h := h x94 ex94
        refine lv_istore (lv' := [(5, .int x94), (0, .ref (w.1 45)), (1, .int v1), (2, .int v2), (3, .int v3), (4, .int v4), (6, .int v6)]) hx hb dX6_alike_94 hl (by decide) rfl (fun ls hl => ?_)
        refine lv_iinc (v := (v6 + (1 : Int32))) (lv' := [(6, .int (v6 + (1 : Int32))), (5, .int x94), (0, .ref (w.1 45)), (1, .int v1), (2, .int v2), (3, .int v3), (4, .int v4)]) hx hb dX6_alike_96 hl (k := 6) rfl rfl (by decide) rfl (fun ls hl => ?_)
        refine lv_goto (tgt := 42) hx hb dX6_alike_99 (by decide) ?_
        exact ih x94 (v6 + (1 : Int32)) _ _ _ h hw (lv_sub hl [2, 3, 4, 5, 6, 1, 0] rfl)
      · have h := h.2 c8
        refine lv_iconst (v := 1) hx hb dX6_alike_88 (by decide) ?_
        refine lv_goto (tgt := 93) hx hb dX6_alike_89 (by decide) ?_
        refine lv_iadd hx hb dX6_alike_93 ?_
        refine lv_topi (fun x94 ex94 => ?_)
        have h := h x94 ex94
        refine lv_istore (lv' := [(5, .int x94), (0, .ref (w.1 45)), (1, .int v1), (2, .int v2), (3, .int v3), (4, .int v4), (6, .int v6)]) hx hb dX6_alike_94 hl (by decide) rfl (fun ls hl => ?_)
        refine lv_iinc (v := (v6 + (1 : Int32))) (lv' := [(6, .int (v6 + (1 : Int32))), (5, .int x94), (0, .ref (w.1 45)), (1, .int v1), (2, .int v2), (3, .int v3), (4, .int v4)]) hx hb dX6_alike_96 hl (k := 6) rfl rfl (by decide) rfl (fun ls hl => ?_)
        refine lv_goto (tgt := 42) hx hb dX6_alike_99 (by decide) ?_
        exact ih x94 (v6 + (1 : Int32)) _ _ _ h hw (lv_sub hl [2, 3, 4, 5, 6, 1, 0] rfl)
set_option maxHeartbeats 4000000 in
set_option maxRecDepth 100000 in
theorem lX6_alike_27 {p : Program} {l : Launch} {e : Env} {s : State} {m : MethodId} {args : Array Value} {below : List Frame} {meth : Method} {c : Code} {Q : State → Prop} {w : WE} {cs : List Nat} {A : Nat → Prop} {H0 : Heap} (C : CallFix p m c cX6_alike 7 s args wsX6_alike RX6) (hK : KW w s) (hcs : ∀ c, c < 56 → c ∈ cs) (v2 : Int32) (v3 : Int32) (G : GS) (B : BS) {K121 : Int32 → Prop} (k121 : ∀ (y1 : Int32) (H : Heap) (locs : List Loc) (ls : Array Slot), K121 y1 → WO w cs A H0 G B H locs → lv_has ls 7 [(0, .ref (w.1 45)), (1, .int y1), (2, .int v2), (3, .int v3)] → W p l e (rmW 0) s m args below meth c H locs 0 0 Q (F0 m 121 ls [])) : ∀ (n : Nat) (v1 : Int32) (v4 : Int32) (H : Heap) (locs : List Loc) (ls : Array Slot), wlX6_alike_27 K121 v2 v3 G n v1 v4 → WO w cs A H0 G B H locs → lv_has ls 7 [(0, .ref (w.1 45)), (1, .int v1), (2, .int v2), (3, .int v3), (4, .int v4)] → W p l e (rmW 0) s m args below meth c H locs 0 0 Q (F0 m 27 ls []) := by
  have hx := C.1
  have hb := C.2.1
  have hown := C.2.2.2.1
  have hta := fun w h => C.2.2.2.2 w (List.mem_cons_of_mem _ h)
  intro n
  induction n with
  | zero => intro v1 v4 H locs ls h hw hl; exact False.elim h
  | succ n ih =>
    intro v1 v4 H locs ls h hw hl
    refine lv_iload hx hb dX6_alike_27 (lv_at hl 4 rfl) ?_
    refine lv_aload_n hx hb dX6_alike_29 rfl (lv_at hl 0 rfl) ?_
    refine q_get (v := .int (G 45 0)) (C := RX6) (T := TX6) (N := 17) (ci := 6) hx hb hta kw_X6 hown hK hw 45 (hcs _ (by omega)) (by unfold isB; omega) rfl rfl 0 (by decide) (hta _ kw_278) rfl rfl dX6_alike_30 ?_
    refine lv_icmp_ge (tgt := 121) hx hb dX6_alike_33 (by decide) (fun c3 => ?_) (fun c3 => ?_)
    · have h := h.1 c3
      exact k121 v1 _ _ _ h hw (lv_sub hl [0, 1, 2, 3] rfl)
    · have h := h.2 c3
      refine lv_iconst (v := 0) hx hb dX6_alike_36 (by decide) ?_
      refine lv_istore (lv' := [(5, .int (0 : Int32)), (0, .ref (w.1 45)), (1, .int v1), (2, .int v2), (3, .int v3), (4, .int v4)]) hx hb dX6_alike_37 hl (by decide) rfl (fun ls hl => ?_)
      refine lv_iconst (v := 0) hx hb dX6_alike_39 (by decide) ?_
      refine lv_istore (lv' := [(6, .int (0 : Int32)), (5, .int (0 : Int32)), (0, .ref (w.1 45)), (1, .int v1), (2, .int v2), (3, .int v3), (4, .int v4)]) hx hb dX6_alike_40 hl (by decide) rfl (fun ls hl => ?_)
      obtain ⟨n42, h⟩ := h
      refine lX6_alike_42 C hK hcs v1 v2 v3 v4 G B (K102 := _) ?_ n42 (0 : Int32) (0 : Int32) _ _ _ h hw (lv_sub hl [2, 3, 4, 5, 6, 1, 0] rfl)
      · intro x5_102 H locs ls h hw hl
        refine lv_iload hx hb dX6_alike_102 (lv_at hl 5 rfl) ?_
        refine lv_iload_n hx hb dX6_alike_104 rfl (lv_at hl 1 rfl) ?_
        refine lv_icmp_le (tgt := 113) hx hb dX6_alike_105 (by decide) (fun c9 => ?_) (fun c9 => ?_)
        · have h := h.1 c9
          refine lv_iload_n hx hb dX6_alike_113 rfl (lv_at hl 1 rfl) ?_
          refine lv_istore_n (lv' := [(1, .int v1), (0, .ref (w.1 45)), (2, .int v2), (3, .int v3), (4, .int v4), (5, .int x5_102)]) hx hb dX6_alike_114 rfl hl (by decide) rfl (fun ls hl => ?_)
          refine lv_iinc (v := (v4 + (1 : Int32))) (lv' := [(4, .int (v4 + (1 : Int32))), (1, .int v1), (0, .ref (w.1 45)), (2, .int v2), (3, .int v3), (5, .int x5_102)]) hx hb dX6_alike_115 hl (k := 4) rfl rfl (by decide) rfl (fun ls hl => ?_)
          refine lv_goto (tgt := 27) hx hb dX6_alike_118 (by decide) ?_
          exact ih v1 (v4 + (1 : Int32)) _ _ _ h hw (lv_sub hl [2, 1, 3, 4, 0] rfl)
        · have h := h.2 c9
          refine lv_iload hx hb dX6_alike_108 (lv_at hl 5 rfl) ?_
          refine lv_goto (tgt := 114) hx hb dX6_alike_110 (by decide) ?_
          refine lv_istore_n (lv' := [(1, .int x5_102), (0, .ref (w.1 45)), (2, .int v2), (3, .int v3), (4, .int v4), (5, .int x5_102)]) hx hb dX6_alike_114 rfl hl (by decide) rfl (fun ls hl => ?_)
          refine lv_iinc (v := (v4 + (1 : Int32))) (lv' := [(4, .int (v4 + (1 : Int32))), (1, .int x5_102), (0, .ref (w.1 45)), (2, .int v2), (3, .int v3), (5, .int x5_102)]) hx hb dX6_alike_115 hl (k := 4) rfl rfl (by decide) rfl (fun ls hl => ?_)
          refine lv_goto (tgt := 27) hx hb dX6_alike_118 (by decide) ?_
          exact ih x5_102 (v4 + (1 : Int32)) _ _ _ h hw (lv_sub hl [2, 1, 3, 4, 0] rfl)
set_option maxHeartbeats 4000000 in
set_option maxRecDepth 100000 in
theorem lX6_alike_16 {p : Program} {l : Launch} {e : Env} {s : State} {m : MethodId} {args : Array Value} {below : List Frame} {meth : Method} {c : Code} {Q : State → Prop} {w : WE} {cs : List Nat} {A : Nat → Prop} {H0 : Heap} (C : CallFix p m c cX6_alike 7 s args wsX6_alike RX6) (hK : KW w s) (hcs : ∀ c, c < 56 → c ∈ cs) (v2 : Int32) (G : GS) (B : BS) {K127 : Int32 → Prop} (k127 : ∀ (y1 : Int32) (H : Heap) (locs : List Loc) (ls : Array Slot), K127 y1 → WO w cs A H0 G B H locs → lv_has ls 7 [(0, .ref (w.1 45)), (1, .int y1), (2, .int v2)] → W p l e (rmW 0) s m args below meth c H locs 0 0 Q (F0 m 127 ls [])) : ∀ (n : Nat) (v1 : Int32) (v3 : Int32) (H : Heap) (locs : List Loc) (ls : Array Slot), wlX6_alike_16 K127 v2 G n v1 v3 → WO w cs A H0 G B H locs → lv_has ls 7 [(0, .ref (w.1 45)), (1, .int v1), (2, .int v2), (3, .int v3)] → W p l e (rmW 0) s m args below meth c H locs 0 0 Q (F0 m 16 ls []) := by
  have hx := C.1
  have hb := C.2.1
  have hown := C.2.2.2.1
  have hta := fun w h => C.2.2.2.2 w (List.mem_cons_of_mem _ h)
  intro n
  induction n with
  | zero => intro v1 v3 H locs ls h hw hl; exact False.elim h
  | succ n ih =>
    intro v1 v3 H locs ls h hw hl
    refine lv_iload_n hx hb dX6_alike_16 rfl (lv_at hl 3 rfl) ?_
    refine lv_aload_n hx hb dX6_alike_17 rfl (lv_at hl 0 rfl) ?_
    refine q_get (v := .int (G 45 2)) (C := RX6) (T := TX6) (N := 17) (ci := 6) hx hb hta kw_X6 hown hK hw 45 (hcs _ (by omega)) (by unfold isB; omega) rfl rfl 2 (by decide) (hta _ kw_285) rfl rfl dX6_alike_18 ?_
    refine lv_icmp_ge (tgt := 127) hx hb dX6_alike_21 (by decide) (fun c2 => ?_) (fun c2 => ?_)
    · have h := h.1 c2
      exact k127 v1 _ _ _ h hw (lv_sub hl [0, 1, 2] rfl)
    · have h := h.2 c2
      refine lv_iconst (v := 1) hx hb dX6_alike_24 (by decide) ?_
      refine lv_istore (lv' := [(4, .int (1 : Int32)), (0, .ref (w.1 45)), (1, .int v1), (2, .int v2), (3, .int v3)]) hx hb dX6_alike_25 hl (by decide) rfl (fun ls hl => ?_)
      obtain ⟨n27, h⟩ := h
      refine lX6_alike_27 C hK hcs v2 v3 G B (K121 := _) ?_ n27 v1 (1 : Int32) _ _ _ h hw (lv_sub hl [1, 2, 3, 4, 0] rfl)
      · intro x1_121 H locs ls h hw hl
        refine lv_iinc (v := (v3 + (1 : Int32))) (lv' := [(3, .int (v3 + (1 : Int32))), (0, .ref (w.1 45)), (1, .int x1_121), (2, .int v2)]) hx hb dX6_alike_121 hl (k := 3) rfl rfl (by decide) rfl (fun ls hl => ?_)
        refine lv_goto (tgt := 16) hx hb dX6_alike_124 (by decide) ?_
        exact ih x1_121 (v3 + (1 : Int32)) _ _ _ h hw (lv_sub hl [1, 2, 3, 0] rfl)
set_option maxHeartbeats 4000000 in
set_option maxRecDepth 100000 in
theorem lX6_alike_4 {p : Program} {l : Launch} {e : Env} {s : State} {m : MethodId} {args : Array Value} {below : List Frame} {meth : Method} {c : Code} {Q : State → Prop} {w : WE} {cs : List Nat} {A : Nat → Prop} {H0 : Heap} (C : CallFix p m c cX6_alike 7 s args wsX6_alike RX6) (hK : KW w s) (hcs : ∀ c, c < 56 → c ∈ cs) (G : GS) (B : BS) {K133 : Int32 → Prop} (k133 : ∀ (y1 : Int32) (H : Heap) (locs : List Loc) (ls : Array Slot), K133 y1 → WO w cs A H0 G B H locs → lv_has ls 7 [(1, .int y1)] → W p l e (rmW 0) s m args below meth c H locs 0 0 Q (F0 m 133 ls [])) : ∀ (n : Nat) (v1 : Int32) (v2 : Int32) (H : Heap) (locs : List Loc) (ls : Array Slot), wlX6_alike_4 K133 G n v1 v2 → WO w cs A H0 G B H locs → lv_has ls 7 [(0, .ref (w.1 45)), (1, .int v1), (2, .int v2)] → W p l e (rmW 0) s m args below meth c H locs 0 0 Q (F0 m 4 ls []) := by
  have hx := C.1
  have hb := C.2.1
  have hown := C.2.2.2.1
  have hta := fun w h => C.2.2.2.2 w (List.mem_cons_of_mem _ h)
  intro n
  induction n with
  | zero => intro v1 v2 H locs ls h hw hl; exact False.elim h
  | succ n ih =>
    intro v1 v2 H locs ls h hw hl
    refine lv_iload_n hx hb dX6_alike_4 rfl (lv_at hl 2 rfl) ?_
    refine lv_aload_n hx hb dX6_alike_5 rfl (lv_at hl 0 rfl) ?_
    refine q_get (v := .int (G 45 2)) (C := RX6) (T := TX6) (N := 17) (ci := 6) hx hb hta kw_X6 hown hK hw 45 (hcs _ (by omega)) (by unfold isB; omega) rfl rfl 2 (by decide) (hta _ kw_285) rfl rfl dX6_alike_6 ?_
    refine lv_icmp_ge (tgt := 133) hx hb dX6_alike_9 (by decide) (fun c1 => ?_) (fun c1 => ?_)
    · have h := h.1 c1
      exact k133 v1 _ _ _ h hw (lv_sub hl [1] rfl)
    · have h := h.2 c1
      refine lv_iload_n hx hb dX6_alike_12 rfl (lv_at hl 2 rfl) ?_
      refine lv_iconst (v := 1) hx hb dX6_alike_13 (by decide) ?_
      refine lv_iadd hx hb dX6_alike_14 ?_
      refine lv_topi (fun x15 ex15 => ?_)
      have h := h x15 ex15
      refine lv_istore_n (lv' := [(3, .int x15), (0, .ref (w.1 45)), (1, .int v1), (2, .int v2)]) hx hb dX6_alike_15 rfl hl (by decide) rfl (fun ls hl => ?_)
      obtain ⟨n16, h⟩ := h
      refine lX6_alike_16 C hK hcs v2 G B (K127 := _) ?_ n16 v1 x15 _ _ _ h hw (lv_sub hl [1, 2, 3, 0] rfl)
      · intro x1_127 H locs ls h hw hl
        refine lv_iinc (v := (v2 + (1 : Int32))) (lv' := [(2, .int (v2 + (1 : Int32))), (0, .ref (w.1 45)), (1, .int x1_127)]) hx hb dX6_alike_127 hl (k := 2) rfl rfl (by decide) rfl (fun ls hl => ?_)
        refine lv_goto (tgt := 4) hx hb dX6_alike_130 (by decide) ?_
        exact ih x1_127 (v2 + (1 : Int32)) _ _ _ h hw (lv_sub hl [1, 2, 0] rfl)
set_option maxHeartbeats 4000000 in
set_option maxRecDepth 100000 in
theorem mX6_alike (l : Launch) (w : WE) (cs : List Nat) (hcs : ∀ c, c < 56 → c ∈ cs) (sz : Nat) (G : GS) (B : BS) (P : Int32 → Prop) (h : wX6_alike G P) : Met l yX6_alike wsX6_alike (rmW 0) (PcW w cs sz G B [.ref (w.1 45)]) (QI w cs sz (fun r G1 B1 => P r ∧ G = G1 ∧ B = B1)) 0 0 (AA w cs sz) := by
  refine metW (own := RX6) [.ref (w.1 45)] (by decide +kernel) rfl rfl (Nat.le_of_ble_eq_true rfl) ?_
  intro p e s m below meth c ls hsz C hr hK hw hl
  subst hsz
  have hx := C.1
  have hb := C.2.1
  have hown := C.2.2.2.1
  have hta := fun w h => C.2.2.2.2 w (List.mem_cons_of_mem _ h)
  have hl : lv_has ls 7 [(0, .ref (w.1 45))] := hl
  refine lv_iconst (v := 0) hx hb dX6_alike_0 (by decide) ?_
  refine lv_istore_n (lv' := [(1, .int (0 : Int32)), (0, .ref (w.1 45))]) hx hb dX6_alike_1 rfl hl (by decide) rfl (fun ls hl => ?_)
  refine lv_iconst (v := 0) hx hb dX6_alike_2 (by decide) ?_
  refine lv_istore_n (lv' := [(2, .int (0 : Int32)), (1, .int (0 : Int32)), (0, .ref (w.1 45))]) hx hb dX6_alike_3 rfl hl (by decide) rfl (fun ls hl => ?_)
  obtain ⟨n4, h⟩ := h
  refine lX6_alike_4 C hK hcs G B (K133 := _) ?_ n4 (0 : Int32) (0 : Int32) _ _ _ h hw (lv_sub hl [2, 1, 0] rfl)
  · intro x1_133 H locs ls h hw hl
    refine lv_iload_n hx hb dX6_alike_133 rfl (lv_at hl 0 rfl) ?_
    exact q_reti hx hb hr hw ⟨h, rfl, rfl⟩ dX6_alike_134
def wX6_judge (v1 : Int32) (G : GS) (P : Int32 → GS → Prop) : Prop := ((v1 = 0 → (wX6_rankOf (((1 : Int32) <<< ((G 45 2) &&& (31 : Int32))) - (1 : Int32)) G (fun r41 G41 => P r41 G41))) ∧ ((v1 = 1 → (wX6_spark G (fun r46 G46 => P r46 G46))) ∧ ((v1 = 2 → (wX6_spark G (fun r51 G51 => P ((r51 - (1 : Int32)) / (2 : Int32)) G51))) ∧ ((v1 = 3 → (wX6_alike G (fun r60 => P r60 G))) ∧ (¬ v1 = 0 ∧ ¬ v1 = 1 ∧ ¬ v1 = 2 ∧ ¬ v1 = 3 → P (-1 : Int32) G)))))
set_option maxHeartbeats 4000000 in
set_option maxRecDepth 100000 in
theorem mX6_judge (l : Launch) (w : WE) (cs : List Nat) (hcs : ∀ c, c < 56 → c ∈ cs) (sz : Nat) (G : GS) (B : BS) (v1 : Int32) (P : Int32 → GS → Prop) (h : wX6_judge v1 G P) : Met l yX6_judge wsX6_judge (rmW 5) (PcW w cs sz G B [.ref (w.1 45), .int v1]) (QI w cs sz (fun r G1 B1 => P r G1 ∧ B = B1)) 0 0 (AA w cs sz) := by
  refine metW (own := RX6) [.ref (w.1 45), .int v1] (by decide +kernel) rfl rfl (Nat.le_of_ble_eq_true rfl) ?_
  intro p e s m below meth c ls hsz C hr hK hw hl
  subst hsz
  have hx := C.1
  have hb := C.2.1
  have hown := C.2.2.2.1
  have hta := fun w h => C.2.2.2.2 w (List.mem_cons_of_mem _ h)
  have hl : lv_has ls 2 [(0, .ref (w.1 45)), (1, .int v1)] := hl
  refine lv_iload_n hx hb dX6_judge_0 rfl (lv_at hl 1 rfl) ?_
  by_cases c1 : v1 = 0
  · have h := h.1 c1
    refine lv_tableIn (tgt := 32) hx hb dX6_judge_1 (by rw [c1]; decide) (by rw [c1]; decide) (by rw [c1]; rfl) (by decide) ?_
    refine lv_aload_n hx hb dX6_judge_32 rfl (lv_at hl 0 rfl) ?_
    refine lv_iconst (v := 1) hx hb dX6_judge_33 (by decide) ?_
    refine lv_aload_n hx hb dX6_judge_34 rfl (lv_at hl 0 rfl) ?_
    refine q_get (v := .int (G 45 2)) (C := RX6) (T := TX6) (N := 17) (ci := 6) hx hb hta kw_X6 hown hK hw 45 (hcs _ (by omega)) (by unfold isB; omega) rfl rfl 2 (by decide) (hta _ kw_285) rfl rfl dX6_judge_35 ?_
    refine lv_ishl hx hb dX6_judge_38 ?_
    refine lv_iconst (v := 1) hx hb dX6_judge_39 (by decide) ?_
    refine lv_isub hx hb dX6_judge_40 ?_
    refine q_calli hw (va_runV (As := [.int (((1 : Int32) <<< ((G 45 2) &&& (31 : Int32))) - (1 : Int32))]) (rest := []) C (mX6_rankOf l w cs (fun c h => hcs c (by omega)) _ G B (((1 : Int32) <<< ((G 45 2) &&& (31 : Int32))) - (1 : Int32)) _ h) (cwV 1 hta (gVw kw_318 kw_319 kw_320 kw_17 kw_317) rfl rfl rfl (by decide +kernel) ⟨Nat.le_of_ble_eq_true rfl, Nat.le_of_ble_eq_true rfl⟩) (preV hK hw 45 (hcs _ (by omega)) (by unfold isB; omega) rfl rfl _) rfl rfl hl.1 rfl (lv_room (Nat.le_of_ble_eq_true rfl)) dX6_judge_41 ⟨Nat.le_refl 0, Nat.le_refl 0⟩) (fun r41 G41 B41 H locs h hw => ?_)
    obtain ⟨h, e2⟩ := h; subst e2
    exact q_reti hx hb hr hw ⟨h, rfl⟩ dX6_judge_44
  have h := h.2
  by_cases c2 : v1 = 1
  · have h := h.1 c2
    refine lv_tableIn (tgt := 45) hx hb dX6_judge_1 (by rw [c2]; decide) (by rw [c2]; decide) (by rw [c2]; rfl) (by decide) ?_
    refine lv_aload_n hx hb dX6_judge_45 rfl (lv_at hl 0 rfl) ?_
    refine q_calli hw (va_runV (As := []) (rest := []) C (mX6_spark l w cs (fun c h => hcs c (by omega)) _ G B _ h) (cwV 0 hta (gVw kw_322 kw_323 kw_324 kw_17 kw_321) rfl rfl rfl (by decide +kernel) ⟨Nat.le_of_ble_eq_true rfl, Nat.le_of_ble_eq_true rfl⟩) (preV hK hw 45 (hcs _ (by omega)) (by unfold isB; omega) rfl rfl _) rfl rfl hl.1 rfl (lv_room (Nat.le_of_ble_eq_true rfl)) dX6_judge_46 ⟨Nat.le_refl 0, Nat.le_refl 0⟩) (fun r46 G46 B46 H locs h hw => ?_)
    obtain ⟨h, e2⟩ := h; subst e2
    exact q_reti hx hb hr hw ⟨h, rfl⟩ dX6_judge_49
  have h := h.2
  by_cases c3 : v1 = 2
  · have h := h.1 c3
    refine lv_tableIn (tgt := 50) hx hb dX6_judge_1 (by rw [c3]; decide) (by rw [c3]; decide) (by rw [c3]; rfl) (by decide) ?_
    refine lv_aload_n hx hb dX6_judge_50 rfl (lv_at hl 0 rfl) ?_
    refine q_calli hw (va_runV (As := []) (rest := []) C (mX6_spark l w cs (fun c h => hcs c (by omega)) _ G B _ h) (cwV 0 hta (gVw kw_322 kw_323 kw_324 kw_17 kw_321) rfl rfl rfl (by decide +kernel) ⟨Nat.le_of_ble_eq_true rfl, Nat.le_of_ble_eq_true rfl⟩) (preV hK hw 45 (hcs _ (by omega)) (by unfold isB; omega) rfl rfl _) rfl rfl hl.1 rfl (lv_room (Nat.le_of_ble_eq_true rfl)) dX6_judge_51 ⟨Nat.le_refl 0, Nat.le_refl 0⟩) (fun r51 G51 B51 H locs h hw => ?_)
    obtain ⟨h, e2⟩ := h; subst e2
    refine lv_iconst (v := 1) hx hb dX6_judge_54 (by decide) ?_
    refine lv_isub hx hb dX6_judge_55 ?_
    refine lv_iconst (v := 2) hx hb dX6_judge_56 (by decide) ?_
    refine lv_idiv hx hb dX6_judge_57 (by decide) ?_
    exact q_reti hx hb hr hw ⟨h, rfl⟩ dX6_judge_58
  have h := h.2
  by_cases c4 : v1 = 3
  · have h := h.1 c4
    refine lv_tableIn (tgt := 59) hx hb dX6_judge_1 (by rw [c4]; decide) (by rw [c4]; decide) (by rw [c4]; rfl) (by decide) ?_
    refine lv_aload_n hx hb dX6_judge_59 rfl (lv_at hl 0 rfl) ?_
    refine q_calli hw (va_runV (As := []) (rest := []) C (mX6_alike l w cs (fun c h => hcs c (by omega)) _ G B _ h) (cwV 0 hta (gVw kw_326 kw_327 kw_328 kw_17 kw_325) rfl rfl rfl (by decide +kernel) ⟨Nat.le_of_ble_eq_true rfl, Nat.le_of_ble_eq_true rfl⟩) (preV hK hw 45 (hcs _ (by omega)) (by unfold isB; omega) rfl rfl _) rfl rfl hl.1 rfl (lv_room (Nat.le_of_ble_eq_true rfl)) dX6_judge_60 ⟨Nat.le_refl 0, Nat.le_refl 0⟩) (fun r60 G60 B60 H locs h hw => ?_)
    obtain ⟨h, e1, e2⟩ := h; subst e1; subst e2
    exact q_reti hx hb hr hw ⟨h, rfl⟩ dX6_judge_63
  have h := h.2
  have h := h ⟨c1, c2, c3, c4⟩
  refine lv_tableOut (tgt := 64) hx hb dX6_judge_1 (tsw_out3 c1 c2 c3 c4) (by decide) ?_
  refine lv_iconst (v := -1) hx hb dX6_judge_64 (by decide) ?_
  exact q_reti hx hb hr hw ⟨h, rfl⟩ dX6_judge_65
def wX6_put (v1 : Int32) (v2 : Int32) (v3 : Int32) (G : GS) (P : Int32 → GS → Prop) : Prop := (wX6_isSix v1 (fun r1 => ((r1 = 0 → P (-1 : Int32) G) ∧ (¬ r1 = 0 → (wX6_in v2.toInt64 (0 : Int64) ((G 45 2) - (1 : Int32)).toInt64 (fun r17 => ((¬ r17 = 0 → (wX6_by v3 G (fun r37 => (vp_in (((12 : Int32) * v1) + v2) 72 ∧ (∀ G40 : GS, G40 = wr G 47 (cl (((12 : Int32) * v1) + v2)) r37 → (wX6_weight 47 ((12 : Int32) * v1) (G40 45 2) G40 (fun r54 => P r54 G40))))))) ∧ (r17 = 0 → P (-1 : Int32) G))))))))
set_option maxHeartbeats 4000000 in
set_option maxRecDepth 100000 in
theorem mX6_put (l : Launch) (w : WE) (cs : List Nat) (hcs : ∀ c, c < 56 → c ∈ cs) (sz : Nat) (G : GS) (B : BS) (v1 : Int32) (v2 : Int32) (v3 : Int32) (P : Int32 → GS → Prop) (h : wX6_put v1 v2 v3 G P) : Met l yX6_put wsX6_put (rmW 2) (PcW w cs sz G B [.ref (w.1 45), .int v1, .int v2, .int v3]) (QI w cs sz (fun r G1 B1 => P r G1 ∧ B = B1)) 0 0 (AA w cs sz) := by
  refine metW (own := RX6) [.ref (w.1 45), .int v1, .int v2, .int v3] (by decide +kernel) rfl rfl (Nat.le_of_ble_eq_true rfl) ?_
  intro p e s m below meth c ls hsz C hr hK hw hl
  subst hsz
  have hx := C.1
  have hb := C.2.1
  have hown := C.2.2.2.1
  have hta := fun w h => C.2.2.2.2 w (List.mem_cons_of_mem _ h)
  have hl : lv_has ls 4 [(0, .ref (w.1 45)), (1, .int v1), (2, .int v2), (3, .int v3)] := hl
  refine lv_iload_n hx hb dX6_put_0 rfl (lv_at hl 1 rfl) ?_
  refine q_calli hw (va_runS (As := [.int v1]) (rest := []) C (mX6_isSix l w cs _ G B v1 _ h) (va_cwS 1 hta (gSw kw_330 kw_331 kw_17 kw_329) rfl rfl rfl (by decide +kernel) ⟨Nat.le_of_ble_eq_true rfl, Nat.le_of_ble_eq_true rfl⟩) (preS hK hw _) rfl rfl hl.1 rfl (lv_room (Nat.le_of_ble_eq_true rfl)) dX6_put_1 ⟨Nat.le_refl 0, Nat.le_refl 0⟩) (fun r1 G1 B1 H locs h hw => ?_)
  obtain ⟨h, e1, e2⟩ := h; subst e1; subst e2
  refine lv_if_eq (tgt := 23) hx hb dX6_put_4 (by decide) (fun c1 => ?_) (fun c1 => ?_)
  · have h := h.1 c1
    refine lv_iconst (v := -1) hx hb dX6_put_23 (by decide) ?_
    exact q_reti hx hb hr hw ⟨h, rfl⟩ dX6_put_24
  · have h := h.2 c1
    refine lv_iload_n hx hb dX6_put_7 rfl (lv_at hl 2 rfl) ?_
    refine lv_i2l hx hb dX6_put_8 rfl ?_
    refine lv_lconst (v := 0) hx hb dX6_put_9 (by decide) ?_
    refine lv_aload_n hx hb dX6_put_10 rfl (lv_at hl 0 rfl) ?_
    refine q_get (v := .int (G 45 2)) (C := RX6) (T := TX6) (N := 17) (ci := 6) hx hb hta kw_X6 hown hK hw 45 (hcs _ (by omega)) (by unfold isB; omega) rfl rfl 2 (by decide) (hta _ kw_285) rfl rfl dX6_put_11 ?_
    refine lv_iconst (v := 1) hx hb dX6_put_14 (by decide) ?_
    refine lv_isub hx hb dX6_put_15 ?_
    refine lv_i2l hx hb dX6_put_16 rfl ?_
    refine q_calli hw (va_runS (As := [.long v2.toInt64, .long (0 : Int64), .long ((G 45 2) - (1 : Int32)).toInt64]) (rest := []) C (mX6_in l w cs _ G B v2.toInt64 (0 : Int64) ((G 45 2) - (1 : Int32)).toInt64 _ h) (va_cwS 3 hta (gSw kw_15 kw_16 kw_17 kw_14) rfl rfl rfl (by decide +kernel) ⟨Nat.le_of_ble_eq_true rfl, Nat.le_of_ble_eq_true rfl⟩) (preS hK hw _) rfl rfl hl.1 rfl (lv_room (Nat.le_of_ble_eq_true rfl)) dX6_put_17 ⟨Nat.le_refl 0, Nat.le_refl 0⟩) (fun r17 G17 B17 H locs h hw => ?_)
    obtain ⟨h, e1, e2⟩ := h; subst e1; subst e2
    refine lv_if_ne (tgt := 25) hx hb dX6_put_20 (by decide) (fun c2 => ?_) (fun c2 => ?_)
    · have h := h.1 c2
      refine lv_aload_n hx hb dX6_put_25 rfl (lv_at hl 0 rfl) ?_
      refine q_get (v := .ref (w.1 47)) (C := RX6) (T := TX6) (N := 17) (ci := 6) hx hb hta kw_X6 hown hK hw 45 (hcs _ (by omega)) (by unfold isB; omega) rfl rfl 4 (by decide) (hta _ kw_287) rfl rfl dX6_put_26 ?_
      refine lv_bipush (v := 12) hx hb dX6_put_29 (by decide) ?_
      refine lv_iload_n hx hb dX6_put_31 rfl (lv_at hl 1 rfl) ?_
      refine lv_imul hx hb dX6_put_32 ?_
      refine lv_iload_n hx hb dX6_put_33 rfl (lv_at hl 2 rfl) ?_
      refine lv_iadd hx hb dX6_put_34 ?_
      refine lv_aload_n hx hb dX6_put_35 rfl (lv_at hl 0 rfl) ?_
      refine lv_iload_n hx hb dX6_put_36 rfl (lv_at hl 3 rfl) ?_
      refine q_calli hw (va_runV (As := [.int v3]) (rest := [.int (((12 : Int32) * v1) + v2), .ref (w.1 47)]) C (mX6_by l w cs (fun c h => hcs c (by omega)) _ G B v3 _ h) (cwV 1 hta (gVw kw_294 kw_295 kw_296 kw_17 kw_293) rfl rfl rfl (by decide +kernel) ⟨Nat.le_of_ble_eq_true rfl, Nat.le_of_ble_eq_true rfl⟩) (preV hK hw 45 (hcs _ (by omega)) (by unfold isB; omega) rfl rfl _) rfl rfl hl.1 rfl (lv_room (Nat.le_of_ble_eq_true rfl)) dX6_put_37 ⟨Nat.le_refl 0, Nat.le_refl 0⟩) (fun r37 G37 B37 H locs h hw => ?_)
      obtain ⟨h, e1, e2⟩ := h; subst e1; subst e2
      obtain ⟨hin3, h⟩ := h
      refine q_iast (n := 72) hx hb hK hw (hcs _ (by omega)) (by unfold isI; omega) rfl hin3 dX6_put_40 (fun H locs G40 eG40 hw => ?_)
      have h := h G40 eG40
      refine lv_aload_n hx hb dX6_put_41 rfl (lv_at hl 0 rfl) ?_
      refine lv_aload_n hx hb dX6_put_42 rfl (lv_at hl 0 rfl) ?_
      refine q_get (v := .ref (w.1 47)) (C := RX6) (T := TX6) (N := 17) (ci := 6) hx hb hta kw_X6 hown hK hw 45 (hcs _ (by omega)) (by unfold isB; omega) rfl rfl 4 (by decide) (hta _ kw_287) rfl rfl dX6_put_43 ?_
      refine lv_bipush (v := 12) hx hb dX6_put_46 (by decide) ?_
      refine lv_iload_n hx hb dX6_put_48 rfl (lv_at hl 1 rfl) ?_
      refine lv_imul hx hb dX6_put_49 ?_
      refine lv_aload_n hx hb dX6_put_50 rfl (lv_at hl 0 rfl) ?_
      refine q_get (v := .int (G40 45 2)) (C := RX6) (T := TX6) (N := 17) (ci := 6) hx hb hta kw_X6 hown hK hw 45 (hcs _ (by omega)) (by unfold isB; omega) rfl rfl 2 (by decide) (hta _ kw_285) rfl rfl dX6_put_51 ?_
      refine q_calli hw (va_runV (As := [.ref (w.1 47), .int ((12 : Int32) * v1), .int (G40 45 2)]) (rest := []) C (mX6_weight l w cs _ G40 B 47 (by unfold isI; omega) (hcs _ (by omega)) ((12 : Int32) * v1) (G40 45 2) _ h) (cwV 3 hta (gVw kw_333 kw_334 kw_335 kw_17 kw_332) rfl rfl rfl (by decide +kernel) ⟨Nat.le_of_ble_eq_true rfl, Nat.le_of_ble_eq_true rfl⟩) (preV hK hw 45 (hcs _ (by omega)) (by unfold isB; omega) rfl rfl _) rfl rfl hl.1 rfl (lv_room (Nat.le_of_ble_eq_true rfl)) dX6_put_54 ⟨Nat.le_refl 0, Nat.le_refl 0⟩) (fun r54 G54 B54 H locs h hw => ?_)
      obtain ⟨h, e1, e2⟩ := h; subst e1; subst e2
      exact q_reti hx hb hr hw ⟨h, rfl⟩ dX6_put_57
    · have h := h.2 c2
      refine lv_iconst (v := -1) hx hb dX6_put_23 (by decide) ?_
      exact q_reti hx hb hr hw ⟨h, rfl⟩ dX6_put_24
def wX6_row (v1 : Int32) (v2 : Int32) (G : GS) (P : Int32 → Prop) : Prop := (wX6_isSix v1 (fun r1 => ((r1 = 0 → P (-1 : Int32)) ∧ (¬ r1 = 0 → (wX6_in v2.toInt64 (-1 : Int64) ((G 45 2) - (1 : Int32)).toInt64 (fun r19 => ((¬ r19 = 0 → ((0 ≤ v2 → (vp_in (((12 : Int32) * v1) + v2) 72 ∧ P (G 47 (cl (((12 : Int32) * v1) + v2))))) ∧ (¬ 0 ≤ v2 → (wX6_weight 47 ((12 : Int32) * v1) (G 45 2) G (fun r44 => P r44))))) ∧ (r19 = 0 → P (-1 : Int32)))))))))
set_option maxHeartbeats 4000000 in
set_option maxRecDepth 100000 in
theorem mX6_row (l : Launch) (w : WE) (cs : List Nat) (hcs : ∀ c, c < 56 → c ∈ cs) (sz : Nat) (G : GS) (B : BS) (v1 : Int32) (v2 : Int32) (P : Int32 → Prop) (h : wX6_row v1 v2 G P) : Met l yX6_row wsX6_row (rmW 2) (PcW w cs sz G B [.ref (w.1 45), .int v1, .int v2]) (QI w cs sz (fun r G1 B1 => P r ∧ G = G1 ∧ B = B1)) 0 0 (AA w cs sz) := by
  refine metW (own := RX6) [.ref (w.1 45), .int v1, .int v2] (by decide +kernel) rfl rfl (Nat.le_of_ble_eq_true rfl) ?_
  intro p e s m below meth c ls hsz C hr hK hw hl
  subst hsz
  have hx := C.1
  have hb := C.2.1
  have hown := C.2.2.2.1
  have hta := fun w h => C.2.2.2.2 w (List.mem_cons_of_mem _ h)
  have hl : lv_has ls 3 [(0, .ref (w.1 45)), (1, .int v1), (2, .int v2)] := hl
  refine lv_iload_n hx hb dX6_row_0 rfl (lv_at hl 1 rfl) ?_
  refine q_calli hw (va_runS (As := [.int v1]) (rest := []) C (mX6_isSix l w cs _ G B v1 _ h) (va_cwS 1 hta (gSw kw_330 kw_331 kw_17 kw_329) rfl rfl rfl (by decide +kernel) ⟨Nat.le_of_ble_eq_true rfl, Nat.le_of_ble_eq_true rfl⟩) (preS hK hw _) rfl rfl hl.1 rfl (lv_room (Nat.le_of_ble_eq_true rfl)) dX6_row_1 ⟨Nat.le_refl 0, Nat.le_refl 0⟩) (fun r1 G1 B1 H locs h hw => ?_)
  obtain ⟨h, e1, e2⟩ := h; subst e1; subst e2
  refine lv_if_eq (tgt := 25) hx hb dX6_row_4 (by decide) (fun c1 => ?_) (fun c1 => ?_)
  · have h := h.1 c1
    refine lv_iconst (v := -1) hx hb dX6_row_25 (by decide) ?_
    exact q_reti hx hb hr hw ⟨h, rfl, rfl⟩ dX6_row_26
  · have h := h.2 c1
    refine lv_iload_n hx hb dX6_row_7 rfl (lv_at hl 2 rfl) ?_
    refine lv_i2l hx hb dX6_row_8 rfl ?_
    refine lv_ldc2 hx hb hown (hta _ kw_336) dX6_row_9 ?_
    refine lv_aload_n hx hb dX6_row_12 rfl (lv_at hl 0 rfl) ?_
    refine q_get (v := .int (G 45 2)) (C := RX6) (T := TX6) (N := 17) (ci := 6) hx hb hta kw_X6 hown hK hw 45 (hcs _ (by omega)) (by unfold isB; omega) rfl rfl 2 (by decide) (hta _ kw_285) rfl rfl dX6_row_13 ?_
    refine lv_iconst (v := 1) hx hb dX6_row_16 (by decide) ?_
    refine lv_isub hx hb dX6_row_17 ?_
    refine lv_i2l hx hb dX6_row_18 rfl ?_
    refine q_calli hw (va_runS (As := [.long v2.toInt64, .long (-1 : Int64), .long ((G 45 2) - (1 : Int32)).toInt64]) (rest := []) C (mX6_in l w cs _ G B v2.toInt64 (-1 : Int64) ((G 45 2) - (1 : Int32)).toInt64 _ h) (va_cwS 3 hta (gSw kw_15 kw_16 kw_17 kw_14) rfl rfl rfl (by decide +kernel) ⟨Nat.le_of_ble_eq_true rfl, Nat.le_of_ble_eq_true rfl⟩) (preS hK hw _) rfl rfl hl.1 rfl (lv_room (Nat.le_of_ble_eq_true rfl)) dX6_row_19 ⟨Nat.le_refl 0, Nat.le_refl 0⟩) (fun r19 G19 B19 H locs h hw => ?_)
    obtain ⟨h, e1, e2⟩ := h; subst e1; subst e2
    refine lv_if_ne (tgt := 27) hx hb dX6_row_22 (by decide) (fun c2 => ?_) (fun c2 => ?_)
    · have h := h.1 c2
      refine lv_iload_n hx hb dX6_row_27 rfl (lv_at hl 2 rfl) ?_
      refine lv_if_ge (tgt := 50) hx hb dX6_row_28 (by decide) (fun c3 => ?_) (fun c3 => ?_)
      · have h := h.1 c3
        refine lv_aload_n hx hb dX6_row_50 rfl (lv_at hl 0 rfl) ?_
        refine q_get (v := .ref (w.1 47)) (C := RX6) (T := TX6) (N := 17) (ci := 6) hx hb hta kw_X6 hown hK hw 45 (hcs _ (by omega)) (by unfold isB; omega) rfl rfl 4 (by decide) (hta _ kw_287) rfl rfl dX6_row_51 ?_
        refine lv_bipush (v := 12) hx hb dX6_row_54 (by decide) ?_
        refine lv_iload_n hx hb dX6_row_56 rfl (lv_at hl 1 rfl) ?_
        refine lv_imul hx hb dX6_row_57 ?_
        refine lv_iload_n hx hb dX6_row_58 rfl (lv_at hl 2 rfl) ?_
        refine lv_iadd hx hb dX6_row_59 ?_
        obtain ⟨hin4, h⟩ := h
        refine q_iald (n := 72) hx hb hK hw (hcs _ (by omega)) (by unfold isI; omega) rfl hin4 dX6_row_60 ?_
        exact q_reti hx hb hr hw ⟨h, rfl, rfl⟩ dX6_row_61
      · have h := h.2 c3
        refine lv_aload_n hx hb dX6_row_31 rfl (lv_at hl 0 rfl) ?_
        refine lv_aload_n hx hb dX6_row_32 rfl (lv_at hl 0 rfl) ?_
        refine q_get (v := .ref (w.1 47)) (C := RX6) (T := TX6) (N := 17) (ci := 6) hx hb hta kw_X6 hown hK hw 45 (hcs _ (by omega)) (by unfold isB; omega) rfl rfl 4 (by decide) (hta _ kw_287) rfl rfl dX6_row_33 ?_
        refine lv_bipush (v := 12) hx hb dX6_row_36 (by decide) ?_
        refine lv_iload_n hx hb dX6_row_38 rfl (lv_at hl 1 rfl) ?_
        refine lv_imul hx hb dX6_row_39 ?_
        refine lv_aload_n hx hb dX6_row_40 rfl (lv_at hl 0 rfl) ?_
        refine q_get (v := .int (G 45 2)) (C := RX6) (T := TX6) (N := 17) (ci := 6) hx hb hta kw_X6 hown hK hw 45 (hcs _ (by omega)) (by unfold isB; omega) rfl rfl 2 (by decide) (hta _ kw_285) rfl rfl dX6_row_41 ?_
        refine q_calli hw (va_runV (As := [.ref (w.1 47), .int ((12 : Int32) * v1), .int (G 45 2)]) (rest := []) C (mX6_weight l w cs _ G B 47 (by unfold isI; omega) (hcs _ (by omega)) ((12 : Int32) * v1) (G 45 2) _ h) (cwV 3 hta (gVw kw_333 kw_334 kw_335 kw_17 kw_332) rfl rfl rfl (by decide +kernel) ⟨Nat.le_of_ble_eq_true rfl, Nat.le_of_ble_eq_true rfl⟩) (preV hK hw 45 (hcs _ (by omega)) (by unfold isB; omega) rfl rfl _) rfl rfl hl.1 rfl (lv_room (Nat.le_of_ble_eq_true rfl)) dX6_row_44 ⟨Nat.le_refl 0, Nat.le_refl 0⟩) (fun r44 G44 B44 H locs h hw => ?_)
        obtain ⟨h, e1, e2⟩ := h; subst e1; subst e2
        refine lv_goto (tgt := 61) hx hb dX6_row_47 (by decide) ?_
        exact q_reti hx hb hr hw ⟨h, rfl, rfl⟩ dX6_row_61
    · have h := h.2 c2
      refine lv_iconst (v := -1) hx hb dX6_row_25 (by decide) ?_
      exact q_reti hx hb hr hw ⟨h, rfl, rfl⟩ dX6_row_26
def wX6_sum (v1 : Int32) (v2 : Int32) (v3 : Int32) (G : GS) (P : Int32 → GS → Prop) : Prop := (wX6_isSix v1 (fun r1 => ((r1 = 0 → P (-1 : Int32) G) ∧ (¬ r1 = 0 → (wX6_in v2.toInt64 (0 : Int64) ((G 45 1) - (1 : Int32)).toInt64 (fun r17 => ((¬ r17 = 0 → (wX6_by v3 G (fun r37 => (vp_in (((6 : Int32) * v1) + v2) 36 ∧ (∀ G40 : GS, G40 = wr G 48 (cl (((6 : Int32) * v1) + v2)) r37 → (wX6_weight 48 ((6 : Int32) * v1) (G40 45 1) G40 (fun r54 => P r54 G40))))))) ∧ (r17 = 0 → P (-1 : Int32) G))))))))
set_option maxHeartbeats 4000000 in
set_option maxRecDepth 100000 in
theorem mX6_sum (l : Launch) (w : WE) (cs : List Nat) (hcs : ∀ c, c < 56 → c ∈ cs) (sz : Nat) (G : GS) (B : BS) (v1 : Int32) (v2 : Int32) (v3 : Int32) (P : Int32 → GS → Prop) (h : wX6_sum v1 v2 v3 G P) : Met l yX6_sum wsX6_sum (rmW 2) (PcW w cs sz G B [.ref (w.1 45), .int v1, .int v2, .int v3]) (QI w cs sz (fun r G1 B1 => P r G1 ∧ B = B1)) 0 0 (AA w cs sz) := by
  refine metW (own := RX6) [.ref (w.1 45), .int v1, .int v2, .int v3] (by decide +kernel) rfl rfl (Nat.le_of_ble_eq_true rfl) ?_
  intro p e s m below meth c ls hsz C hr hK hw hl
  subst hsz
  have hx := C.1
  have hb := C.2.1
  have hown := C.2.2.2.1
  have hta := fun w h => C.2.2.2.2 w (List.mem_cons_of_mem _ h)
  have hl : lv_has ls 4 [(0, .ref (w.1 45)), (1, .int v1), (2, .int v2), (3, .int v3)] := hl
  refine lv_iload_n hx hb dX6_sum_0 rfl (lv_at hl 1 rfl) ?_
  refine q_calli hw (va_runS (As := [.int v1]) (rest := []) C (mX6_isSix l w cs _ G B v1 _ h) (va_cwS 1 hta (gSw kw_330 kw_331 kw_17 kw_329) rfl rfl rfl (by decide +kernel) ⟨Nat.le_of_ble_eq_true rfl, Nat.le_of_ble_eq_true rfl⟩) (preS hK hw _) rfl rfl hl.1 rfl (lv_room (Nat.le_of_ble_eq_true rfl)) dX6_sum_1 ⟨Nat.le_refl 0, Nat.le_refl 0⟩) (fun r1 G1 B1 H locs h hw => ?_)
  obtain ⟨h, e1, e2⟩ := h; subst e1; subst e2
  refine lv_if_eq (tgt := 23) hx hb dX6_sum_4 (by decide) (fun c1 => ?_) (fun c1 => ?_)
  · have h := h.1 c1
    refine lv_iconst (v := -1) hx hb dX6_sum_23 (by decide) ?_
    exact q_reti hx hb hr hw ⟨h, rfl⟩ dX6_sum_24
  · have h := h.2 c1
    refine lv_iload_n hx hb dX6_sum_7 rfl (lv_at hl 2 rfl) ?_
    refine lv_i2l hx hb dX6_sum_8 rfl ?_
    refine lv_lconst (v := 0) hx hb dX6_sum_9 (by decide) ?_
    refine lv_aload_n hx hb dX6_sum_10 rfl (lv_at hl 0 rfl) ?_
    refine q_get (v := .int (G 45 1)) (C := RX6) (T := TX6) (N := 17) (ci := 6) hx hb hta kw_X6 hown hK hw 45 (hcs _ (by omega)) (by unfold isB; omega) rfl rfl 1 (by decide) (hta _ kw_284) rfl rfl dX6_sum_11 ?_
    refine lv_iconst (v := 1) hx hb dX6_sum_14 (by decide) ?_
    refine lv_isub hx hb dX6_sum_15 ?_
    refine lv_i2l hx hb dX6_sum_16 rfl ?_
    refine q_calli hw (va_runS (As := [.long v2.toInt64, .long (0 : Int64), .long ((G 45 1) - (1 : Int32)).toInt64]) (rest := []) C (mX6_in l w cs _ G B v2.toInt64 (0 : Int64) ((G 45 1) - (1 : Int32)).toInt64 _ h) (va_cwS 3 hta (gSw kw_15 kw_16 kw_17 kw_14) rfl rfl rfl (by decide +kernel) ⟨Nat.le_of_ble_eq_true rfl, Nat.le_of_ble_eq_true rfl⟩) (preS hK hw _) rfl rfl hl.1 rfl (lv_room (Nat.le_of_ble_eq_true rfl)) dX6_sum_17 ⟨Nat.le_refl 0, Nat.le_refl 0⟩) (fun r17 G17 B17 H locs h hw => ?_)
    obtain ⟨h, e1, e2⟩ := h; subst e1; subst e2
    refine lv_if_ne (tgt := 25) hx hb dX6_sum_20 (by decide) (fun c2 => ?_) (fun c2 => ?_)
    · have h := h.1 c2
      refine lv_aload_n hx hb dX6_sum_25 rfl (lv_at hl 0 rfl) ?_
      refine q_get (v := .ref (w.1 48)) (C := RX6) (T := TX6) (N := 17) (ci := 6) hx hb hta kw_X6 hown hK hw 45 (hcs _ (by omega)) (by unfold isB; omega) rfl rfl 5 (by decide) (hta _ kw_288) rfl rfl dX6_sum_26 ?_
      refine lv_bipush (v := 6) hx hb dX6_sum_29 (by decide) ?_
      refine lv_iload_n hx hb dX6_sum_31 rfl (lv_at hl 1 rfl) ?_
      refine lv_imul hx hb dX6_sum_32 ?_
      refine lv_iload_n hx hb dX6_sum_33 rfl (lv_at hl 2 rfl) ?_
      refine lv_iadd hx hb dX6_sum_34 ?_
      refine lv_aload_n hx hb dX6_sum_35 rfl (lv_at hl 0 rfl) ?_
      refine lv_iload_n hx hb dX6_sum_36 rfl (lv_at hl 3 rfl) ?_
      refine q_calli hw (va_runV (As := [.int v3]) (rest := [.int (((6 : Int32) * v1) + v2), .ref (w.1 48)]) C (mX6_by l w cs (fun c h => hcs c (by omega)) _ G B v3 _ h) (cwV 1 hta (gVw kw_294 kw_295 kw_296 kw_17 kw_293) rfl rfl rfl (by decide +kernel) ⟨Nat.le_of_ble_eq_true rfl, Nat.le_of_ble_eq_true rfl⟩) (preV hK hw 45 (hcs _ (by omega)) (by unfold isB; omega) rfl rfl _) rfl rfl hl.1 rfl (lv_room (Nat.le_of_ble_eq_true rfl)) dX6_sum_37 ⟨Nat.le_refl 0, Nat.le_refl 0⟩) (fun r37 G37 B37 H locs h hw => ?_)
      obtain ⟨h, e1, e2⟩ := h; subst e1; subst e2
      obtain ⟨hin3, h⟩ := h
      refine q_iast (n := 36) hx hb hK hw (hcs _ (by omega)) (by unfold isI; omega) rfl hin3 dX6_sum_40 (fun H locs G40 eG40 hw => ?_)
      have h := h G40 eG40
      refine lv_aload_n hx hb dX6_sum_41 rfl (lv_at hl 0 rfl) ?_
      refine lv_aload_n hx hb dX6_sum_42 rfl (lv_at hl 0 rfl) ?_
      refine q_get (v := .ref (w.1 48)) (C := RX6) (T := TX6) (N := 17) (ci := 6) hx hb hta kw_X6 hown hK hw 45 (hcs _ (by omega)) (by unfold isB; omega) rfl rfl 5 (by decide) (hta _ kw_288) rfl rfl dX6_sum_43 ?_
      refine lv_bipush (v := 6) hx hb dX6_sum_46 (by decide) ?_
      refine lv_iload_n hx hb dX6_sum_48 rfl (lv_at hl 1 rfl) ?_
      refine lv_imul hx hb dX6_sum_49 ?_
      refine lv_aload_n hx hb dX6_sum_50 rfl (lv_at hl 0 rfl) ?_
      refine q_get (v := .int (G40 45 1)) (C := RX6) (T := TX6) (N := 17) (ci := 6) hx hb hta kw_X6 hown hK hw 45 (hcs _ (by omega)) (by unfold isB; omega) rfl rfl 1 (by decide) (hta _ kw_284) rfl rfl dX6_sum_51 ?_
      refine q_calli hw (va_runV (As := [.ref (w.1 48), .int ((6 : Int32) * v1), .int (G40 45 1)]) (rest := []) C (mX6_weight l w cs _ G40 B 48 (by unfold isI; omega) (hcs _ (by omega)) ((6 : Int32) * v1) (G40 45 1) _ h) (cwV 3 hta (gVw kw_333 kw_334 kw_335 kw_17 kw_332) rfl rfl rfl (by decide +kernel) ⟨Nat.le_of_ble_eq_true rfl, Nat.le_of_ble_eq_true rfl⟩) (preV hK hw 45 (hcs _ (by omega)) (by unfold isB; omega) rfl rfl _) rfl rfl hl.1 rfl (lv_room (Nat.le_of_ble_eq_true rfl)) dX6_sum_54 ⟨Nat.le_refl 0, Nat.le_refl 0⟩) (fun r54 G54 B54 H locs h hw => ?_)
      obtain ⟨h, e1, e2⟩ := h; subst e1; subst e2
      exact q_reti hx hb hr hw ⟨h, rfl⟩ dX6_sum_57
    · have h := h.2 c2
      refine lv_iconst (v := -1) hx hb dX6_sum_23 (by decide) ?_
      exact q_reti hx hb hr hw ⟨h, rfl⟩ dX6_sum_24
def wX6_told (v1 : Int32) (v2 : Int32) (G : GS) (P : Int32 → Prop) : Prop := (wX6_isSix v1 (fun r1 => ((r1 = 0 → P (-1 : Int32)) ∧ (¬ r1 = 0 → (wX6_in v2.toInt64 (-1 : Int64) ((G 45 1) - (1 : Int32)).toInt64 (fun r19 => ((¬ r19 = 0 → ((0 ≤ v2 → (vp_in (((6 : Int32) * v1) + v2) 36 ∧ P (G 48 (cl (((6 : Int32) * v1) + v2))))) ∧ (¬ 0 ≤ v2 → (wX6_weight 48 ((6 : Int32) * v1) (G 45 1) G (fun r44 => P r44))))) ∧ (r19 = 0 → P (-1 : Int32)))))))))
set_option maxHeartbeats 4000000 in
set_option maxRecDepth 100000 in
theorem mX6_told (l : Launch) (w : WE) (cs : List Nat) (hcs : ∀ c, c < 56 → c ∈ cs) (sz : Nat) (G : GS) (B : BS) (v1 : Int32) (v2 : Int32) (P : Int32 → Prop) (h : wX6_told v1 v2 G P) : Met l yX6_told wsX6_told (rmW 2) (PcW w cs sz G B [.ref (w.1 45), .int v1, .int v2]) (QI w cs sz (fun r G1 B1 => P r ∧ G = G1 ∧ B = B1)) 0 0 (AA w cs sz) := by
  refine metW (own := RX6) [.ref (w.1 45), .int v1, .int v2] (by decide +kernel) rfl rfl (Nat.le_of_ble_eq_true rfl) ?_
  intro p e s m below meth c ls hsz C hr hK hw hl
  subst hsz
  have hx := C.1
  have hb := C.2.1
  have hown := C.2.2.2.1
  have hta := fun w h => C.2.2.2.2 w (List.mem_cons_of_mem _ h)
  have hl : lv_has ls 3 [(0, .ref (w.1 45)), (1, .int v1), (2, .int v2)] := hl
  refine lv_iload_n hx hb dX6_told_0 rfl (lv_at hl 1 rfl) ?_
  refine q_calli hw (va_runS (As := [.int v1]) (rest := []) C (mX6_isSix l w cs _ G B v1 _ h) (va_cwS 1 hta (gSw kw_330 kw_331 kw_17 kw_329) rfl rfl rfl (by decide +kernel) ⟨Nat.le_of_ble_eq_true rfl, Nat.le_of_ble_eq_true rfl⟩) (preS hK hw _) rfl rfl hl.1 rfl (lv_room (Nat.le_of_ble_eq_true rfl)) dX6_told_1 ⟨Nat.le_refl 0, Nat.le_refl 0⟩) (fun r1 G1 B1 H locs h hw => ?_)
  obtain ⟨h, e1, e2⟩ := h; subst e1; subst e2
  refine lv_if_eq (tgt := 25) hx hb dX6_told_4 (by decide) (fun c1 => ?_) (fun c1 => ?_)
  · have h := h.1 c1
    refine lv_iconst (v := -1) hx hb dX6_told_25 (by decide) ?_
    exact q_reti hx hb hr hw ⟨h, rfl, rfl⟩ dX6_told_26
  · have h := h.2 c1
    refine lv_iload_n hx hb dX6_told_7 rfl (lv_at hl 2 rfl) ?_
    refine lv_i2l hx hb dX6_told_8 rfl ?_
    refine lv_ldc2 hx hb hown (hta _ kw_336) dX6_told_9 ?_
    refine lv_aload_n hx hb dX6_told_12 rfl (lv_at hl 0 rfl) ?_
    refine q_get (v := .int (G 45 1)) (C := RX6) (T := TX6) (N := 17) (ci := 6) hx hb hta kw_X6 hown hK hw 45 (hcs _ (by omega)) (by unfold isB; omega) rfl rfl 1 (by decide) (hta _ kw_284) rfl rfl dX6_told_13 ?_
    refine lv_iconst (v := 1) hx hb dX6_told_16 (by decide) ?_
    refine lv_isub hx hb dX6_told_17 ?_
    refine lv_i2l hx hb dX6_told_18 rfl ?_
    refine q_calli hw (va_runS (As := [.long v2.toInt64, .long (-1 : Int64), .long ((G 45 1) - (1 : Int32)).toInt64]) (rest := []) C (mX6_in l w cs _ G B v2.toInt64 (-1 : Int64) ((G 45 1) - (1 : Int32)).toInt64 _ h) (va_cwS 3 hta (gSw kw_15 kw_16 kw_17 kw_14) rfl rfl rfl (by decide +kernel) ⟨Nat.le_of_ble_eq_true rfl, Nat.le_of_ble_eq_true rfl⟩) (preS hK hw _) rfl rfl hl.1 rfl (lv_room (Nat.le_of_ble_eq_true rfl)) dX6_told_19 ⟨Nat.le_refl 0, Nat.le_refl 0⟩) (fun r19 G19 B19 H locs h hw => ?_)
    obtain ⟨h, e1, e2⟩ := h; subst e1; subst e2
    refine lv_if_ne (tgt := 27) hx hb dX6_told_22 (by decide) (fun c2 => ?_) (fun c2 => ?_)
    · have h := h.1 c2
      refine lv_iload_n hx hb dX6_told_27 rfl (lv_at hl 2 rfl) ?_
      refine lv_if_ge (tgt := 50) hx hb dX6_told_28 (by decide) (fun c3 => ?_) (fun c3 => ?_)
      · have h := h.1 c3
        refine lv_aload_n hx hb dX6_told_50 rfl (lv_at hl 0 rfl) ?_
        refine q_get (v := .ref (w.1 48)) (C := RX6) (T := TX6) (N := 17) (ci := 6) hx hb hta kw_X6 hown hK hw 45 (hcs _ (by omega)) (by unfold isB; omega) rfl rfl 5 (by decide) (hta _ kw_288) rfl rfl dX6_told_51 ?_
        refine lv_bipush (v := 6) hx hb dX6_told_54 (by decide) ?_
        refine lv_iload_n hx hb dX6_told_56 rfl (lv_at hl 1 rfl) ?_
        refine lv_imul hx hb dX6_told_57 ?_
        refine lv_iload_n hx hb dX6_told_58 rfl (lv_at hl 2 rfl) ?_
        refine lv_iadd hx hb dX6_told_59 ?_
        obtain ⟨hin4, h⟩ := h
        refine q_iald (n := 36) hx hb hK hw (hcs _ (by omega)) (by unfold isI; omega) rfl hin4 dX6_told_60 ?_
        exact q_reti hx hb hr hw ⟨h, rfl, rfl⟩ dX6_told_61
      · have h := h.2 c3
        refine lv_aload_n hx hb dX6_told_31 rfl (lv_at hl 0 rfl) ?_
        refine lv_aload_n hx hb dX6_told_32 rfl (lv_at hl 0 rfl) ?_
        refine q_get (v := .ref (w.1 48)) (C := RX6) (T := TX6) (N := 17) (ci := 6) hx hb hta kw_X6 hown hK hw 45 (hcs _ (by omega)) (by unfold isB; omega) rfl rfl 5 (by decide) (hta _ kw_288) rfl rfl dX6_told_33 ?_
        refine lv_bipush (v := 6) hx hb dX6_told_36 (by decide) ?_
        refine lv_iload_n hx hb dX6_told_38 rfl (lv_at hl 1 rfl) ?_
        refine lv_imul hx hb dX6_told_39 ?_
        refine lv_aload_n hx hb dX6_told_40 rfl (lv_at hl 0 rfl) ?_
        refine q_get (v := .int (G 45 1)) (C := RX6) (T := TX6) (N := 17) (ci := 6) hx hb hta kw_X6 hown hK hw 45 (hcs _ (by omega)) (by unfold isB; omega) rfl rfl 1 (by decide) (hta _ kw_284) rfl rfl dX6_told_41 ?_
        refine q_calli hw (va_runV (As := [.ref (w.1 48), .int ((6 : Int32) * v1), .int (G 45 1)]) (rest := []) C (mX6_weight l w cs _ G B 48 (by unfold isI; omega) (hcs _ (by omega)) ((6 : Int32) * v1) (G 45 1) _ h) (cwV 3 hta (gVw kw_333 kw_334 kw_335 kw_17 kw_332) rfl rfl rfl (by decide +kernel) ⟨Nat.le_of_ble_eq_true rfl, Nat.le_of_ble_eq_true rfl⟩) (preV hK hw 45 (hcs _ (by omega)) (by unfold isB; omega) rfl rfl _) rfl rfl hl.1 rfl (lv_room (Nat.le_of_ble_eq_true rfl)) dX6_told_44 ⟨Nat.le_refl 0, Nat.le_refl 0⟩) (fun r44 G44 B44 H locs h hw => ?_)
        obtain ⟨h, e1, e2⟩ := h; subst e1; subst e2
        refine lv_goto (tgt := 61) hx hb dX6_told_47 (by decide) ?_
        exact q_reti hx hb hr hw ⟨h, rfl, rfl⟩ dX6_told_61
    · have h := h.2 c2
      refine lv_iconst (v := -1) hx hb dX6_told_25 (by decide) ?_
      exact q_reti hx hb hr hw ⟨h, rfl, rfl⟩ dX6_told_26
