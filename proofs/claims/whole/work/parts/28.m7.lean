def wlX6_tell_32 (K77 : Int32 → Prop) (v1 : Int32) (v2 : Int32) (v3 : Int32) (G : GS) : Nat → Int32 → Int32 → Prop
  | 0, _, _ => False
  | n32 + 1, v4, v5 => (((G 45 2) ≤ v5 → K77 v4) ∧ (¬ (G 45 2) ≤ v5 → (vp_in (((12 : Int32) * v3) + v5) 72 ∧ (vp_in (((12 : Int32) * v2) + v5) 72 ∧ (∀ x69 : Int32, x69 = (v4 + ((G 46 (cl (((12 : Int32) * v3) + v5))) * (G 47 (cl (((12 : Int32) * v2) + v5))))) → wlX6_tell_32 K77 v1 v2 v3 G n32 x69 (v5 + (1 : Int32)))))))
def wlX6_tell_18 (K101 : GS → Prop) (v1 : Int32) (v2 : Int32) : Nat → Int32 → GS → Prop
  | 0, _, _ => False
  | n18 + 1, v3, G => (((G 45 1) ≤ v3 → K101 G) ∧ (¬ (G 45 1) ≤ v3 → (∃ z32 : Nat, wlX6_tell_32 (fun x4_77 => (¬ (G 45 0) = 0 ∧ (vp_in (((6 : Int32) * v1) + v3) 36 ∧ (∀ G94 : GS, G94 = wr G 48 (cl (((6 : Int32) * v1) + v3)) (x4_77 - x4_77 / (G 45 0) * (G 45 0)) → wlX6_tell_18 K101 v1 v2 n18 (v3 + (1 : Int32)) G94)))) v1 v2 v3 G z32 (0 : Int32) (0 : Int32))))
def wX6_tell (v1 : Int32) (v2 : Int32) (G : GS) (P : Int32 → GS → Prop) : Prop := (wX6_isSix v1 (fun r1 => ((r1 = 0 → P (-1 : Int32) G) ∧ (¬ r1 = 0 → (wX6_isSix v2 (fun r8 => ((¬ r8 = 0 → (∃ z18 : Nat, wlX6_tell_18 (fun G_101 => (wX6_weight 48 ((6 : Int32) * v1) (G_101 45 1) G_101 (fun r114 => P r114 G_101))) v1 v2 z18 (0 : Int32) G)) ∧ (r8 = 0 → P (-1 : Int32) G))))))))
set_option maxHeartbeats 4000000 in
set_option maxRecDepth 100000 in
theorem lX6_tell_32 {p : Program} {l : Launch} {e : Env} {s : State} {m : MethodId} {args : Array Value} {below : List Frame} {meth : Method} {c : Code} {Q : State → Prop} {w : WE} {cs : List Nat} {A : Nat → Prop} {H0 : Heap} (C : CallFix p m c cX6_tell 6 s args wsX6_tell RX6) (hK : KW w s) (hcs : ∀ c, c < 56 → c ∈ cs) (v1 : Int32) (v2 : Int32) (v3 : Int32) (G : GS) (B : BS) {K77 : Int32 → Prop} (k77 : ∀ (y4 : Int32) (H : Heap) (locs : List Loc) (ls : Array Slot), K77 y4 → WO w cs A H0 G B H locs → lv_has ls 6 [(0, .ref (w.1 45)), (1, .int v1), (2, .int v2), (3, .int v3), (4, .int y4)] → W p l e (rmW 2) s m args below meth c H locs 0 0 Q (F0 m 77 ls [])) : ∀ (n : Nat) (v4 : Int32) (v5 : Int32) (H : Heap) (locs : List Loc) (ls : Array Slot), wlX6_tell_32 K77 v1 v2 v3 G n v4 v5 → WO w cs A H0 G B H locs → lv_has ls 6 [(0, .ref (w.1 45)), (1, .int v1), (2, .int v2), (3, .int v3), (4, .int v4), (5, .int v5)] → W p l e (rmW 2) s m args below meth c H locs 0 0 Q (F0 m 32 ls []) := by
  have hx := C.1
  have hb := C.2.1
  have hown := C.2.2.2.1
  have hta := fun w h => C.2.2.2.2 w (List.mem_cons_of_mem _ h)
  intro n
  induction n with
  | zero => intro v4 v5 H locs ls h hw hl; exact False.elim h
  | succ n ih =>
    intro v4 v5 H locs ls h hw hl
    refine lv_iload hx hb dX6_tell_32 (lv_at hl 5 rfl) ?_
    refine lv_aload_n hx hb dX6_tell_34 rfl (lv_at hl 0 rfl) ?_
    refine q_get (v := .int (G 45 2)) (C := RX6) (T := TX6) (N := 17) (ci := 6) hx hb hta kw_X6 hown hK hw 45 (hcs _ (by omega)) (by unfold isB; omega) rfl rfl 2 (by decide) (hta _ kw_285) rfl rfl dX6_tell_35 ?_
    refine lv_icmp_ge (tgt := 77) hx hb dX6_tell_38 (by decide) (fun c4 => ?_) (fun c4 => ?_)
    · have h := h.1 c4
      exact k77 v4 _ _ _ h hw (lv_sub hl [0, 1, 2, 3, 4] rfl)
    · have h := h.2 c4
      refine lv_iload hx hb dX6_tell_41 (lv_at hl 4 rfl) ?_
      refine lv_aload_n hx hb dX6_tell_43 rfl (lv_at hl 0 rfl) ?_
      refine q_get (v := .ref (w.1 46)) (C := RX6) (T := TX6) (N := 17) (ci := 6) hx hb hta kw_X6 hown hK hw 45 (hcs _ (by omega)) (by unfold isB; omega) rfl rfl 3 (by decide) (hta _ kw_286) rfl rfl dX6_tell_44 ?_
      refine lv_bipush (v := 12) hx hb dX6_tell_47 (by decide) ?_
      refine lv_iload_n hx hb dX6_tell_49 rfl (lv_at hl 3 rfl) ?_
      refine lv_imul hx hb dX6_tell_50 ?_
      refine lv_iload hx hb dX6_tell_51 (lv_at hl 5 rfl) ?_
      refine lv_iadd hx hb dX6_tell_53 ?_
      obtain ⟨hin5, h⟩ := h
      refine q_iald (n := 72) hx hb hK hw (hcs _ (by omega)) (by unfold isI; omega) rfl hin5 dX6_tell_54 ?_
      refine lv_aload_n hx hb dX6_tell_55 rfl (lv_at hl 0 rfl) ?_
      refine q_get (v := .ref (w.1 47)) (C := RX6) (T := TX6) (N := 17) (ci := 6) hx hb hta kw_X6 hown hK hw 45 (hcs _ (by omega)) (by unfold isB; omega) rfl rfl 4 (by decide) (hta _ kw_287) rfl rfl dX6_tell_56 ?_
      refine lv_bipush (v := 12) hx hb dX6_tell_59 (by decide) ?_
      refine lv_iload_n hx hb dX6_tell_61 rfl (lv_at hl 2 rfl) ?_
      refine lv_imul hx hb dX6_tell_62 ?_
      refine lv_iload hx hb dX6_tell_63 (lv_at hl 5 rfl) ?_
      refine lv_iadd hx hb dX6_tell_65 ?_
      obtain ⟨hin6, h⟩ := h
      refine q_iald (n := 72) hx hb hK hw (hcs _ (by omega)) (by unfold isI; omega) rfl hin6 dX6_tell_66 ?_
      refine lv_imul hx hb dX6_tell_67 ?_
      refine lv_iadd hx hb dX6_tell_68 ?_
      refine lv_topi (fun x69 ex69 => ?_)
      have h := h x69 ex69
      refine lv_istore (lv' := [(4, .int x69), (0, .ref (w.1 45)), (1, .int v1), (2, .int v2), (3, .int v3), (5, .int v5)]) hx hb dX6_tell_69 hl (by decide) rfl (fun ls hl => ?_)
      refine lv_iinc (v := (v5 + (1 : Int32))) (lv' := [(5, .int (v5 + (1 : Int32))), (4, .int x69), (0, .ref (w.1 45)), (1, .int v1), (2, .int v2), (3, .int v3)]) hx hb dX6_tell_71 hl (k := 5) rfl rfl (by decide) rfl (fun ls hl => ?_)
      refine lv_goto (tgt := 32) hx hb dX6_tell_74 (by decide) ?_
      exact ih x69 (v5 + (1 : Int32)) _ _ _ h hw (lv_sub hl [2, 3, 4, 5, 1, 0] rfl)
set_option maxHeartbeats 4000000 in
set_option maxRecDepth 100000 in
theorem lX6_tell_18 {p : Program} {l : Launch} {e : Env} {s : State} {m : MethodId} {args : Array Value} {below : List Frame} {meth : Method} {c : Code} {Q : State → Prop} {w : WE} {cs : List Nat} {A : Nat → Prop} {H0 : Heap} (C : CallFix p m c cX6_tell 6 s args wsX6_tell RX6) (hK : KW w s) (hcs : ∀ c, c < 56 → c ∈ cs) (v1 : Int32) (v2 : Int32) (B : BS) {K101 : GS → Prop} (k101 : ∀ (G : GS) (H : Heap) (locs : List Loc) (ls : Array Slot), K101 G → WO w cs A H0 G B H locs → lv_has ls 6 [(0, .ref (w.1 45)), (1, .int v1)] → W p l e (rmW 2) s m args below meth c H locs 0 0 Q (F0 m 101 ls [])) : ∀ (n : Nat) (v3 : Int32) (G : GS) (H : Heap) (locs : List Loc) (ls : Array Slot), wlX6_tell_18 K101 v1 v2 n v3 G → WO w cs A H0 G B H locs → lv_has ls 6 [(0, .ref (w.1 45)), (1, .int v1), (2, .int v2), (3, .int v3)] → W p l e (rmW 2) s m args below meth c H locs 0 0 Q (F0 m 18 ls []) := by
  have hx := C.1
  have hb := C.2.1
  have hown := C.2.2.2.1
  have hta := fun w h => C.2.2.2.2 w (List.mem_cons_of_mem _ h)
  intro n
  induction n with
  | zero => intro v3 G H locs ls h hw hl; exact False.elim h
  | succ n ih =>
    intro v3 G H locs ls h hw hl
    refine lv_iload_n hx hb dX6_tell_18 rfl (lv_at hl 3 rfl) ?_
    refine lv_aload_n hx hb dX6_tell_19 rfl (lv_at hl 0 rfl) ?_
    refine q_get (v := .int (G 45 1)) (C := RX6) (T := TX6) (N := 17) (ci := 6) hx hb hta kw_X6 hown hK hw 45 (hcs _ (by omega)) (by unfold isB; omega) rfl rfl 1 (by decide) (hta _ kw_284) rfl rfl dX6_tell_20 ?_
    refine lv_icmp_ge (tgt := 101) hx hb dX6_tell_23 (by decide) (fun c3 => ?_) (fun c3 => ?_)
    · have h := h.1 c3
      exact k101 G _ _ _ h hw (lv_sub hl [0, 1] rfl)
    · have h := h.2 c3
      refine lv_iconst (v := 0) hx hb dX6_tell_26 (by decide) ?_
      refine lv_istore (lv' := [(4, .int (0 : Int32)), (0, .ref (w.1 45)), (1, .int v1), (2, .int v2), (3, .int v3)]) hx hb dX6_tell_27 hl (by decide) rfl (fun ls hl => ?_)
      refine lv_iconst (v := 0) hx hb dX6_tell_29 (by decide) ?_
      refine lv_istore (lv' := [(5, .int (0 : Int32)), (4, .int (0 : Int32)), (0, .ref (w.1 45)), (1, .int v1), (2, .int v2), (3, .int v3)]) hx hb dX6_tell_30 hl (by decide) rfl (fun ls hl => ?_)
      obtain ⟨n32, h⟩ := h
      refine lX6_tell_32 C hK hcs v1 v2 v3 G B (K77 := _) ?_ n32 (0 : Int32) (0 : Int32) _ _ _ h hw (lv_sub hl [2, 3, 4, 5, 1, 0] rfl)
      · intro x4_77 H locs ls h hw hl
        refine lv_aload_n hx hb dX6_tell_77 rfl (lv_at hl 0 rfl) ?_
        refine q_get (v := .ref (w.1 48)) (C := RX6) (T := TX6) (N := 17) (ci := 6) hx hb hta kw_X6 hown hK hw 45 (hcs _ (by omega)) (by unfold isB; omega) rfl rfl 5 (by decide) (hta _ kw_288) rfl rfl dX6_tell_78 ?_
        refine lv_bipush (v := 6) hx hb dX6_tell_81 (by decide) ?_
        refine lv_iload_n hx hb dX6_tell_83 rfl (lv_at hl 1 rfl) ?_
        refine lv_imul hx hb dX6_tell_84 ?_
        refine lv_iload_n hx hb dX6_tell_85 rfl (lv_at hl 3 rfl) ?_
        refine lv_iadd hx hb dX6_tell_86 ?_
        refine lv_iload hx hb dX6_tell_87 (lv_at hl 4 rfl) ?_
        refine lv_aload_n hx hb dX6_tell_89 rfl (lv_at hl 0 rfl) ?_
        refine q_get (v := .int (G 45 0)) (C := RX6) (T := TX6) (N := 17) (ci := 6) hx hb hta kw_X6 hown hK hw 45 (hcs _ (by omega)) (by unfold isB; omega) rfl rfl 0 (by decide) (hta _ kw_278) rfl rfl dX6_tell_90 ?_
        obtain ⟨hz7, h⟩ := h
        refine lv_irem hx hb dX6_tell_93 hz7 ?_
        obtain ⟨hin8, h⟩ := h
        refine q_iast (n := 36) hx hb hK hw (hcs _ (by omega)) (by unfold isI; omega) rfl hin8 dX6_tell_94 (fun H locs G94 eG94 hw => ?_)
        have h := h G94 eG94
        refine lv_iinc (v := (v3 + (1 : Int32))) (lv' := [(3, .int (v3 + (1 : Int32))), (0, .ref (w.1 45)), (1, .int v1), (2, .int v2), (4, .int x4_77)]) hx hb dX6_tell_95 hl (k := 3) rfl rfl (by decide) rfl (fun ls hl => ?_)
        refine lv_goto (tgt := 18) hx hb dX6_tell_98 (by decide) ?_
        exact ih (v3 + (1 : Int32)) G94 _ _ _ h hw (lv_sub hl [1, 2, 3, 0] rfl)
set_option maxHeartbeats 4000000 in
set_option maxRecDepth 100000 in
theorem mX6_tell (l : Launch) (w : WE) (cs : List Nat) (hcs : ∀ c, c < 56 → c ∈ cs) (sz : Nat) (G : GS) (B : BS) (v1 : Int32) (v2 : Int32) (P : Int32 → GS → Prop) (h : wX6_tell v1 v2 G P) : Met l yX6_tell wsX6_tell (rmW 2) (PcW w cs sz G B [.ref (w.1 45), .int v1, .int v2]) (QI w cs sz (fun r G1 B1 => P r G1 ∧ B = B1)) 0 0 (AA w cs sz) := by
  refine metW (own := RX6) [.ref (w.1 45), .int v1, .int v2] (by decide +kernel) rfl rfl (Nat.le_of_ble_eq_true rfl) ?_
  intro p e s m below meth c ls hsz C hr hK hw hl
  subst hsz
  have hx := C.1
  have hb := C.2.1
  have hown := C.2.2.2.1
  have hta := fun w h => C.2.2.2.2 w (List.mem_cons_of_mem _ h)
  have hl : lv_has ls 6 [(0, .ref (w.1 45)), (1, .int v1), (2, .int v2)] := hl
  refine lv_iload_n hx hb dX6_tell_0 rfl (lv_at hl 1 rfl) ?_
  refine q_calli hw (va_runS (As := [.int v1]) (rest := []) C (mX6_isSix l w cs _ G B v1 _ h) (va_cwS 1 hta (gSw kw_330 kw_331 kw_17 kw_329) rfl rfl rfl (by decide +kernel) ⟨Nat.le_of_ble_eq_true rfl, Nat.le_of_ble_eq_true rfl⟩) (preS hK hw _) rfl rfl hl.1 rfl (lv_room (Nat.le_of_ble_eq_true rfl)) dX6_tell_1 ⟨Nat.le_refl 0, Nat.le_refl 0⟩) (fun r1 G1 B1 H locs h hw => ?_)
  obtain ⟨h, e1, e2⟩ := h; subst e1; subst e2
  refine lv_if_eq (tgt := 14) hx hb dX6_tell_4 (by decide) (fun c1 => ?_) (fun c1 => ?_)
  · have h := h.1 c1
    refine lv_iconst (v := -1) hx hb dX6_tell_14 (by decide) ?_
    exact q_reti hx hb hr hw ⟨h, rfl⟩ dX6_tell_15
  · have h := h.2 c1
    refine lv_iload_n hx hb dX6_tell_7 rfl (lv_at hl 2 rfl) ?_
    refine q_calli hw (va_runS (As := [.int v2]) (rest := []) C (mX6_isSix l w cs _ G B v2 _ h) (va_cwS 1 hta (gSw kw_330 kw_331 kw_17 kw_329) rfl rfl rfl (by decide +kernel) ⟨Nat.le_of_ble_eq_true rfl, Nat.le_of_ble_eq_true rfl⟩) (preS hK hw _) rfl rfl hl.1 rfl (lv_room (Nat.le_of_ble_eq_true rfl)) dX6_tell_8 ⟨Nat.le_refl 0, Nat.le_refl 0⟩) (fun r8 G8 B8 H locs h hw => ?_)
    obtain ⟨h, e1, e2⟩ := h; subst e1; subst e2
    refine lv_if_ne (tgt := 16) hx hb dX6_tell_11 (by decide) (fun c2 => ?_) (fun c2 => ?_)
    · have h := h.1 c2
      refine lv_iconst (v := 0) hx hb dX6_tell_16 (by decide) ?_
      refine lv_istore_n (lv' := [(3, .int (0 : Int32)), (0, .ref (w.1 45)), (1, .int v1), (2, .int v2)]) hx hb dX6_tell_17 rfl hl (by decide) rfl (fun ls hl => ?_)
      obtain ⟨n18, h⟩ := h
      refine lX6_tell_18 C hK hcs v1 v2 B (K101 := _) ?_ n18 (0 : Int32) G _ _ _ h hw (lv_sub hl [1, 2, 3, 0] rfl)
      · intro G_101 H locs ls h hw hl
        refine lv_aload_n hx hb dX6_tell_101 rfl (lv_at hl 0 rfl) ?_
        refine lv_aload_n hx hb dX6_tell_102 rfl (lv_at hl 0 rfl) ?_
        refine q_get (v := .ref (w.1 48)) (C := RX6) (T := TX6) (N := 17) (ci := 6) hx hb hta kw_X6 hown hK hw 45 (hcs _ (by omega)) (by unfold isB; omega) rfl rfl 5 (by decide) (hta _ kw_288) rfl rfl dX6_tell_103 ?_
        refine lv_bipush (v := 6) hx hb dX6_tell_106 (by decide) ?_
        refine lv_iload_n hx hb dX6_tell_108 rfl (lv_at hl 1 rfl) ?_
        refine lv_imul hx hb dX6_tell_109 ?_
        refine lv_aload_n hx hb dX6_tell_110 rfl (lv_at hl 0 rfl) ?_
        refine q_get (v := .int (G_101 45 1)) (C := RX6) (T := TX6) (N := 17) (ci := 6) hx hb hta kw_X6 hown hK hw 45 (hcs _ (by omega)) (by unfold isB; omega) rfl rfl 1 (by decide) (hta _ kw_284) rfl rfl dX6_tell_111 ?_
        refine q_calli hw (va_runV (As := [.ref (w.1 48), .int ((6 : Int32) * v1), .int (G_101 45 1)]) (rest := []) C (mX6_weight l w cs _ G_101 B 48 (by unfold isI; omega) (hcs _ (by omega)) ((6 : Int32) * v1) (G_101 45 1) _ h) (cwV 3 hta (gVw kw_333 kw_334 kw_335 kw_17 kw_332) rfl rfl rfl (by decide +kernel) ⟨Nat.le_of_ble_eq_true rfl, Nat.le_of_ble_eq_true rfl⟩) (preV hK hw 45 (hcs _ (by omega)) (by unfold isB; omega) rfl rfl _) rfl rfl hl.1 rfl (lv_room (Nat.le_of_ble_eq_true rfl)) dX6_tell_114 ⟨Nat.le_refl 0, Nat.le_refl 0⟩) (fun r114 G114 B114 H locs h hw => ?_)
        obtain ⟨h, e1, e2⟩ := h; subst e1; subst e2
        exact q_reti hx hb hr hw ⟨h, rfl⟩ dX6_tell_117
    · have h := h.2 c2
      refine lv_iconst (v := -1) hx hb dX6_tell_14 (by decide) ?_
      exact q_reti hx hb hr hw ⟨h, rfl⟩ dX6_tell_15
def wlX6_solves_29 (K105 : Int32 → GS → Prop) (v1 : Int32) : Nat → Int32 → Int32 → Int32 → GS → Prop
  | 0, _, _, _, _ => False
  | n29 + 1, v5, v6, v7, G => (((12 : Int32) ≤ v7 → K105 v6 G) ∧ (¬ (12 : Int32) ≤ v7 → (vp_in v7 12 ∧ (∀ G43 : GS, G43 = wr G 53 (cl v7) (0 : Int32) → ((¬ ((v1 >>> (v7 &&& (31 : Int32))) &&& (1 : Int32)) = (1 : Int32) → wlX6_solves_29 K105 v1 n29 v5 v6 (v7 + (1 : Int32)) G43) ∧ (((v1 >>> (v7 &&& (31 : Int32))) &&& (1 : Int32)) = (1 : Int32) → (vp_in (((13 : Int32) * v5) + (12 : Int32)) 78 ∧ (vp_in v7 12 ∧ (∀ G73 : GS, G73 = wr G43 53 (cl v7) (G43 52 (cl (((13 : Int32) * v5) + (12 : Int32)))) → ((v6 = 0 → wlX6_solves_29 K105 v1 n29 (v5 + (1 : Int32)) (0 : Int32) (v7 + (1 : Int32)) G73) ∧ (¬ v6 = 0 → (vp_in v7 12 ∧ (((G73 53 (cl v7)) = 0 → wlX6_solves_29 K105 v1 n29 (v5 + (1 : Int32)) (0 : Int32) (v7 + (1 : Int32)) G73) ∧ (¬ (G73 53 (cl v7)) = 0 → wlX6_solves_29 K105 v1 n29 (v5 + (1 : Int32)) (1 : Int32) (v7 + (1 : Int32)) G73))))))))))))))
def wX6_solves (v1 : Int32) (v2 : Int32) (v3 : Int32) (G : GS) (P : Int32 → GS → Prop) : Prop := (wX6_bits v1 (fun r1 => (wX6_clears v1 v2 v3 G (fun r10 G10 => ((r10 = r1 → (∃ z29 : Nat, wlX6_solves_29 (fun x6_105 G_105 => (vb x6_105 ∧ P x6_105 G_105)) v1 z29 (0 : Int32) (1 : Int32) (0 : Int32) G10)) ∧ (¬ r10 = r1 → P (0 : Int32) G10))))))
set_option maxHeartbeats 4000000 in
set_option maxRecDepth 100000 in
theorem lX6_solves_29 {p : Program} {l : Launch} {e : Env} {s : State} {m : MethodId} {args : Array Value} {below : List Frame} {meth : Method} {c : Code} {Q : State → Prop} {w : WE} {cs : List Nat} {A : Nat → Prop} {H0 : Heap} (C : CallFix p m c cX6_solves 8 s args wsX6_solves RX6) (hK : KW w s) (hcs : ∀ c, c < 56 → c ∈ cs) (v1 : Int32) (B : BS) {K105 : Int32 → GS → Prop} (k105 : ∀ (y6 : Int32) (G : GS) (H : Heap) (locs : List Loc) (ls : Array Slot), K105 y6 G → WO w cs A H0 G B H locs → lv_has ls 8 [(6, .int y6)] → W p l e (rmW 3) s m args below meth c H locs 0 0 Q (F0 m 105 ls [])) : ∀ (n : Nat) (v5 : Int32) (v6 : Int32) (v7 : Int32) (G : GS) (H : Heap) (locs : List Loc) (ls : Array Slot), wlX6_solves_29 K105 v1 n v5 v6 v7 G → WO w cs A H0 G B H locs → lv_has ls 8 [(0, .ref (w.1 45)), (1, .int v1), (5, .int v5), (6, .int v6), (7, .int v7)] → W p l e (rmW 3) s m args below meth c H locs 0 0 Q (F0 m 29 ls []) := by
  have hx := C.1
  have hb := C.2.1
  have hown := C.2.2.2.1
  have hta := fun w h => C.2.2.2.2 w (List.mem_cons_of_mem _ h)
  intro n
  induction n with
  | zero => intro v5 v6 v7 G H locs ls h hw hl; exact False.elim h
  | succ n ih =>
    intro v5 v6 v7 G H locs ls h hw hl
    refine lv_iload hx hb dX6_solves_29 (lv_at hl 4 rfl) ?_
    refine lv_bipush (v := 12) hx hb dX6_solves_31 (by decide) ?_
    refine lv_icmp_ge (tgt := 105) hx hb dX6_solves_33 (by decide) (fun c2 => ?_) (fun c2 => ?_)
    · have h := h.1 c2
      exact k105 v6 G _ _ _ h hw (lv_sub hl [3] rfl)
    · have h := h.2 c2
      refine lv_aload_n hx hb dX6_solves_36 rfl (lv_at hl 0 rfl) ?_
      refine q_get (v := .ref (w.1 53)) (C := RX6) (T := TX6) (N := 17) (ci := 6) hx hb hta kw_X6 hown hK hw 45 (hcs _ (by omega)) (by unfold isB; omega) rfl rfl 14 (by decide) (hta _ kw_337) rfl rfl dX6_solves_37 ?_
      refine lv_iload hx hb dX6_solves_40 (lv_at hl 4 rfl) ?_
      refine lv_iconst (v := 0) hx hb dX6_solves_42 (by decide) ?_
      obtain ⟨hin3, h⟩ := h
      refine q_iast (n := 12) hx hb hK hw (hcs _ (by omega)) (by unfold isI; omega) rfl hin3 dX6_solves_43 (fun H locs G43 eG43 hw => ?_)
      have h := h G43 eG43
      refine lv_iload_n hx hb dX6_solves_44 rfl (lv_at hl 1 rfl) ?_
      refine lv_iload hx hb dX6_solves_45 (lv_at hl 4 rfl) ?_
      refine lv_ishr hx hb dX6_solves_47 ?_
      refine lv_iconst (v := 1) hx hb dX6_solves_48 (by decide) ?_
      refine lv_iand hx hb dX6_solves_49 ?_
      refine lv_iconst (v := 1) hx hb dX6_solves_50 (by decide) ?_
      refine lv_icmp_ne (tgt := 99) hx hb dX6_solves_51 (by decide) (fun c4 => ?_) (fun c4 => ?_)
      · have h := h.1 c4
        refine lv_iinc (v := (v7 + (1 : Int32))) (lv' := [(7, .int (v7 + (1 : Int32))), (0, .ref (w.1 45)), (1, .int v1), (5, .int v5), (6, .int v6)]) hx hb dX6_solves_99 hl (k := 4) rfl rfl (by decide) rfl (fun ls hl => ?_)
        refine lv_goto (tgt := 29) hx hb dX6_solves_102 (by decide) ?_
        exact ih v5 v6 (v7 + (1 : Int32)) G43 _ _ _ h hw (lv_sub hl [1, 2, 3, 4, 0] rfl)
      · have h := h.2 c4
        refine lv_aload_n hx hb dX6_solves_54 rfl (lv_at hl 0 rfl) ?_
        refine q_get (v := .ref (w.1 53)) (C := RX6) (T := TX6) (N := 17) (ci := 6) hx hb hta kw_X6 hown hK hw 45 (hcs _ (by omega)) (by unfold isB; omega) rfl rfl 14 (by decide) (hta _ kw_337) rfl rfl dX6_solves_55 ?_
        refine lv_iload hx hb dX6_solves_58 (lv_at hl 4 rfl) ?_
        refine lv_aload_n hx hb dX6_solves_60 rfl (lv_at hl 0 rfl) ?_
        refine q_get (v := .ref (w.1 52)) (C := RX6) (T := TX6) (N := 17) (ci := 6) hx hb hta kw_X6 hown hK hw 45 (hcs _ (by omega)) (by unfold isB; omega) rfl rfl 13 (by decide) (hta _ kw_297) rfl rfl dX6_solves_61 ?_
        refine lv_bipush (v := 13) hx hb dX6_solves_64 (by decide) ?_
        refine lv_iload hx hb dX6_solves_66 (lv_at hl 2 rfl) ?_
        refine lv_imul hx hb dX6_solves_68 ?_
        refine lv_bipush (v := 12) hx hb dX6_solves_69 (by decide) ?_
        refine lv_iadd hx hb dX6_solves_71 ?_
        obtain ⟨hin5, h⟩ := h
        refine q_iald (n := 78) hx hb hK hw (hcs _ (by omega)) (by unfold isI; omega) rfl hin5 dX6_solves_72 ?_
        obtain ⟨hin6, h⟩ := h
        refine q_iast (n := 12) hx hb hK hw (hcs _ (by omega)) (by unfold isI; omega) rfl hin6 dX6_solves_73 (fun H locs G73 eG73 hw => ?_)
        have h := h G73 eG73
        refine lv_iload hx hb dX6_solves_74 (lv_at hl 3 rfl) ?_
        refine lv_if_eq (tgt := 93) hx hb dX6_solves_76 (by decide) (fun c7 => ?_) (fun c7 => ?_)
        · have h := h.1 c7
          refine lv_iconst (v := 0) hx hb dX6_solves_93 (by decide) ?_
          refine lv_istore (lv' := [(6, .int (0 : Int32)), (0, .ref (w.1 45)), (1, .int v1), (5, .int v5), (7, .int v7)]) hx hb dX6_solves_94 hl (by decide) rfl (fun ls hl => ?_)
          refine lv_iinc (v := (v5 + (1 : Int32))) (lv' := [(5, .int (v5 + (1 : Int32))), (6, .int (0 : Int32)), (0, .ref (w.1 45)), (1, .int v1), (7, .int v7)]) hx hb dX6_solves_96 hl (k := 3) rfl rfl (by decide) rfl (fun ls hl => ?_)
          refine lv_iinc (v := (v7 + (1 : Int32))) (lv' := [(7, .int (v7 + (1 : Int32))), (5, .int (v5 + (1 : Int32))), (6, .int (0 : Int32)), (0, .ref (w.1 45)), (1, .int v1)]) hx hb dX6_solves_99 hl (k := 4) rfl rfl (by decide) rfl (fun ls hl => ?_)
          refine lv_goto (tgt := 29) hx hb dX6_solves_102 (by decide) ?_
          exact ih (v5 + (1 : Int32)) (0 : Int32) (v7 + (1 : Int32)) G73 _ _ _ h hw (lv_sub hl [3, 4, 1, 2, 0] rfl)
        · have h := h.2 c7
          refine lv_aload_n hx hb dX6_solves_79 rfl (lv_at hl 0 rfl) ?_
          refine q_get (v := .ref (w.1 53)) (C := RX6) (T := TX6) (N := 17) (ci := 6) hx hb hta kw_X6 hown hK hw 45 (hcs _ (by omega)) (by unfold isB; omega) rfl rfl 14 (by decide) (hta _ kw_337) rfl rfl dX6_solves_80 ?_
          refine lv_iload hx hb dX6_solves_83 (lv_at hl 4 rfl) ?_
          obtain ⟨hin8, h⟩ := h
          refine q_iald (n := 12) hx hb hK hw (hcs _ (by omega)) (by unfold isI; omega) rfl hin8 dX6_solves_85 ?_
          refine lv_if_eq (tgt := 93) hx hb dX6_solves_86 (by decide) (fun c9 => ?_) (fun c9 => ?_)
          · have h := h.1 c9
            refine lv_iconst (v := 0) hx hb dX6_solves_93 (by decide) ?_
            refine lv_istore (lv' := [(6, .int (0 : Int32)), (0, .ref (w.1 45)), (1, .int v1), (5, .int v5), (7, .int v7)]) hx hb dX6_solves_94 hl (by decide) rfl (fun ls hl => ?_)
            refine lv_iinc (v := (v5 + (1 : Int32))) (lv' := [(5, .int (v5 + (1 : Int32))), (6, .int (0 : Int32)), (0, .ref (w.1 45)), (1, .int v1), (7, .int v7)]) hx hb dX6_solves_96 hl (k := 3) rfl rfl (by decide) rfl (fun ls hl => ?_)
            refine lv_iinc (v := (v7 + (1 : Int32))) (lv' := [(7, .int (v7 + (1 : Int32))), (5, .int (v5 + (1 : Int32))), (6, .int (0 : Int32)), (0, .ref (w.1 45)), (1, .int v1)]) hx hb dX6_solves_99 hl (k := 4) rfl rfl (by decide) rfl (fun ls hl => ?_)
            refine lv_goto (tgt := 29) hx hb dX6_solves_102 (by decide) ?_
            exact ih (v5 + (1 : Int32)) (0 : Int32) (v7 + (1 : Int32)) G73 _ _ _ h hw (lv_sub hl [3, 4, 1, 2, 0] rfl)
          · have h := h.2 c9
            refine lv_iconst (v := 1) hx hb dX6_solves_89 (by decide) ?_
            refine lv_goto (tgt := 94) hx hb dX6_solves_90 (by decide) ?_
            refine lv_istore (lv' := [(6, .int (1 : Int32)), (0, .ref (w.1 45)), (1, .int v1), (5, .int v5), (7, .int v7)]) hx hb dX6_solves_94 hl (by decide) rfl (fun ls hl => ?_)
            refine lv_iinc (v := (v5 + (1 : Int32))) (lv' := [(5, .int (v5 + (1 : Int32))), (6, .int (1 : Int32)), (0, .ref (w.1 45)), (1, .int v1), (7, .int v7)]) hx hb dX6_solves_96 hl (k := 3) rfl rfl (by decide) rfl (fun ls hl => ?_)
            refine lv_iinc (v := (v7 + (1 : Int32))) (lv' := [(7, .int (v7 + (1 : Int32))), (5, .int (v5 + (1 : Int32))), (6, .int (1 : Int32)), (0, .ref (w.1 45)), (1, .int v1)]) hx hb dX6_solves_99 hl (k := 4) rfl rfl (by decide) rfl (fun ls hl => ?_)
            refine lv_goto (tgt := 29) hx hb dX6_solves_102 (by decide) ?_
            exact ih (v5 + (1 : Int32)) (1 : Int32) (v7 + (1 : Int32)) G73 _ _ _ h hw (lv_sub hl [3, 4, 1, 2, 0] rfl)
set_option maxHeartbeats 4000000 in
set_option maxRecDepth 100000 in
theorem mX6_solves (l : Launch) (w : WE) (cs : List Nat) (hcs : ∀ c, c < 56 → c ∈ cs) (sz : Nat) (G : GS) (B : BS) (v1 : Int32) (v2 : Int32) (v3 : Int32) (P : Int32 → GS → Prop) (h : wX6_solves v1 v2 v3 G P) : Met l yX6_solves wsX6_solves (rmW 3) (PcW w cs sz G B [.ref (w.1 45), .int v1, .int v2, .int v3]) (QI w cs sz (fun r G1 B1 => P r G1 ∧ B = B1)) 0 0 (AA w cs sz) := by
  refine metW (own := RX6) [.ref (w.1 45), .int v1, .int v2, .int v3] (by decide +kernel) rfl rfl (Nat.le_of_ble_eq_true rfl) ?_
  intro p e s m below meth c ls hsz C hr hK hw hl
  subst hsz
  have hx := C.1
  have hb := C.2.1
  have hown := C.2.2.2.1
  have hta := fun w h => C.2.2.2.2 w (List.mem_cons_of_mem _ h)
  have hl : lv_has ls 8 [(0, .ref (w.1 45)), (1, .int v1), (2, .int v2), (3, .int v3)] := hl
  refine lv_iload_n hx hb dX6_solves_0 rfl (lv_at hl 1 rfl) ?_
  refine q_calli hw (va_runS (As := [.int v1]) (rest := []) C (mX6_bits l w cs _ G B v1 _ h) (va_cwS 1 hta (gSw kw_299 kw_300 kw_17 kw_298) rfl rfl rfl (by decide +kernel) ⟨Nat.le_of_ble_eq_true rfl, Nat.le_of_ble_eq_true rfl⟩) (preS hK hw _) rfl rfl hl.1 rfl (lv_room (Nat.le_of_ble_eq_true rfl)) dX6_solves_1 ⟨Nat.le_refl 0, Nat.le_refl 0⟩) (fun r1 G1 B1 H locs h hw => ?_)
  obtain ⟨h, e1, e2⟩ := h; subst e1; subst e2
  refine lv_istore (lv' := [(4, .int r1), (0, .ref (w.1 45)), (1, .int v1), (2, .int v2), (3, .int v3)]) hx hb dX6_solves_4 hl (by decide) rfl (fun ls hl => ?_)
  refine lv_aload_n hx hb dX6_solves_6 rfl (lv_at hl 1 rfl) ?_
  refine lv_iload_n hx hb dX6_solves_7 rfl (lv_at hl 2 rfl) ?_
  refine lv_iload_n hx hb dX6_solves_8 rfl (lv_at hl 3 rfl) ?_
  refine lv_iload_n hx hb dX6_solves_9 rfl (lv_at hl 4 rfl) ?_
  refine q_calli hw (va_runV (As := [.int v1, .int v2, .int v3]) (rest := []) C (mX6_clears l w cs (fun c h => hcs c (by omega)) _ G B v1 v2 v3 _ h) (cwV 3 hta (gVw kw_314 kw_315 kw_316 kw_17 kw_313) rfl rfl rfl (by decide +kernel) ⟨Nat.le_of_ble_eq_true rfl, Nat.le_of_ble_eq_true rfl⟩) (preV hK hw 45 (hcs _ (by omega)) (by unfold isB; omega) rfl rfl _) rfl rfl hl.1 rfl (lv_room (Nat.le_of_ble_eq_true rfl)) dX6_solves_10 ⟨Nat.le_refl 0, Nat.le_refl 0⟩) (fun r10 G10 B10 H locs h hw => ?_)
  obtain ⟨h, e2⟩ := h; subst e2
  refine lv_iload hx hb dX6_solves_13 (lv_at hl 0 rfl) ?_
  refine lv_icmp_eq (tgt := 20) hx hb dX6_solves_15 (by decide) (fun c1 => ?_) (fun c1 => ?_)
  · have h := h.1 c1
    refine lv_iconst (v := 0) hx hb dX6_solves_20 (by decide) ?_
    refine lv_istore (lv' := [(5, .int (0 : Int32)), (4, .int r1), (0, .ref (w.1 45)), (1, .int v1), (2, .int v2), (3, .int v3)]) hx hb dX6_solves_21 hl (by decide) rfl (fun ls hl => ?_)
    refine lv_iconst (v := 1) hx hb dX6_solves_23 (by decide) ?_
    refine lv_istore (lv' := [(6, .int (1 : Int32)), (5, .int (0 : Int32)), (4, .int r1), (0, .ref (w.1 45)), (1, .int v1), (2, .int v2), (3, .int v3)]) hx hb dX6_solves_24 hl (by decide) rfl (fun ls hl => ?_)
    refine lv_iconst (v := 0) hx hb dX6_solves_26 (by decide) ?_
    refine lv_istore (lv' := [(7, .int (0 : Int32)), (6, .int (1 : Int32)), (5, .int (0 : Int32)), (4, .int r1), (0, .ref (w.1 45)), (1, .int v1), (2, .int v2), (3, .int v3)]) hx hb dX6_solves_27 hl (by decide) rfl (fun ls hl => ?_)
    obtain ⟨n29, h⟩ := h
    refine lX6_solves_29 C hK hcs v1 B (K105 := _) ?_ n29 (0 : Int32) (1 : Int32) (0 : Int32) G10 _ _ _ h hw (lv_sub hl [4, 5, 2, 1, 0] rfl)
    · intro x6_105 G_105 H locs ls h hw hl
      refine lv_iload hx hb dX6_solves_105 (lv_at hl 0 rfl) ?_
      obtain ⟨hv10, h⟩ := h
      exact q_retz hx hb hr hw hv10 ⟨h, rfl⟩ dX6_solves_107
  · have h := h.2 c1
    refine lv_iconst (v := 0) hx hb dX6_solves_18 (by decide) ?_
    exact q_retz hx hb hr hw (Or.inl rfl) ⟨h, rfl⟩ dX6_solves_19
def wlX6_keeps_2 (K31 : GS → Prop) (v1 : Int32) : Nat → Int32 → GS → Prop
  | 0, _, _ => False
  | n2 + 1, v2, G => (((12 : Int32) ≤ v2 → K31 G) ∧ (¬ (12 : Int32) ≤ v2 → (vp_in v2 12 ∧ (vp_in (((12 : Int32) * v1) + v2) 72 ∧ (∀ G24 : GS, G24 = wr G 47 (cl (((12 : Int32) * v1) + v2)) (G 54 (cl v2)) → wlX6_keeps_2 K31 v1 n2 (v2 + (1 : Int32)) G24)))))
def wX6_keeps (v1 : Int32) (G : GS) (P : GS → Prop) : Prop := (∃ z2 : Nat, wlX6_keeps_2 (fun G_31 => P G_31) v1 z2 (0 : Int32) G)
set_option maxHeartbeats 4000000 in
set_option maxRecDepth 100000 in
theorem lX6_keeps_2 {p : Program} {l : Launch} {e : Env} {s : State} {m : MethodId} {args : Array Value} {below : List Frame} {meth : Method} {c : Code} {Q : State → Prop} {w : WE} {cs : List Nat} {A : Nat → Prop} {H0 : Heap} (C : CallFix p m c cX6_keeps 3 s args wsX6_keeps RX6) (hK : KW w s) (hcs : ∀ c, c < 56 → c ∈ cs) (v1 : Int32) (B : BS) {K31 : GS → Prop} (k31 : ∀ (G : GS) (H : Heap) (locs : List Loc) (ls : Array Slot), K31 G → WO w cs A H0 G B H locs → lv_has ls 3 [] → W p l e (rmW 0) s m args below meth c H locs 0 0 Q (F0 m 31 ls [])) : ∀ (n : Nat) (v2 : Int32) (G : GS) (H : Heap) (locs : List Loc) (ls : Array Slot), wlX6_keeps_2 K31 v1 n v2 G → WO w cs A H0 G B H locs → lv_has ls 3 [(0, .ref (w.1 45)), (1, .int v1), (2, .int v2)] → W p l e (rmW 0) s m args below meth c H locs 0 0 Q (F0 m 2 ls []) := by
  have hx := C.1
  have hb := C.2.1
  have hown := C.2.2.2.1
  have hta := fun w h => C.2.2.2.2 w (List.mem_cons_of_mem _ h)
  intro n
  induction n with
  | zero => intro v2 G H locs ls h hw hl; exact False.elim h
  | succ n ih =>
    intro v2 G H locs ls h hw hl
    refine lv_iload_n hx hb dX6_keeps_2 rfl (lv_at hl 2 rfl) ?_
    refine lv_bipush (v := 12) hx hb dX6_keeps_3 (by decide) ?_
    refine lv_icmp_ge (tgt := 31) hx hb dX6_keeps_5 (by decide) (fun c1 => ?_) (fun c1 => ?_)
    · have h := h.1 c1
      exact k31 G _ _ _ h hw (lv_sub hl [] rfl)
    · have h := h.2 c1
      refine lv_aload_n hx hb dX6_keeps_8 rfl (lv_at hl 0 rfl) ?_
      refine q_get (v := .ref (w.1 47)) (C := RX6) (T := TX6) (N := 17) (ci := 6) hx hb hta kw_X6 hown hK hw 45 (hcs _ (by omega)) (by unfold isB; omega) rfl rfl 4 (by decide) (hta _ kw_287) rfl rfl dX6_keeps_9 ?_
      refine lv_bipush (v := 12) hx hb dX6_keeps_12 (by decide) ?_
      refine lv_iload_n hx hb dX6_keeps_14 rfl (lv_at hl 1 rfl) ?_
      refine lv_imul hx hb dX6_keeps_15 ?_
      refine lv_iload_n hx hb dX6_keeps_16 rfl (lv_at hl 2 rfl) ?_
      refine lv_iadd hx hb dX6_keeps_17 ?_
      refine lv_aload_n hx hb dX6_keeps_18 rfl (lv_at hl 0 rfl) ?_
      refine q_get (v := .ref (w.1 54)) (C := RX6) (T := TX6) (N := 17) (ci := 6) hx hb hta kw_X6 hown hK hw 45 (hcs _ (by omega)) (by unfold isB; omega) rfl rfl 15 (by decide) (hta _ kw_338) rfl rfl dX6_keeps_19 ?_
      refine lv_iload_n hx hb dX6_keeps_22 rfl (lv_at hl 2 rfl) ?_
      obtain ⟨hin2, h⟩ := h
      refine q_iald (n := 12) hx hb hK hw (hcs _ (by omega)) (by unfold isI; omega) rfl hin2 dX6_keeps_23 ?_
      obtain ⟨hin3, h⟩ := h
      refine q_iast (n := 72) hx hb hK hw (hcs _ (by omega)) (by unfold isI; omega) rfl hin3 dX6_keeps_24 (fun H locs G24 eG24 hw => ?_)
      have h := h G24 eG24
      refine lv_iinc (v := (v2 + (1 : Int32))) (lv' := [(2, .int (v2 + (1 : Int32))), (0, .ref (w.1 45)), (1, .int v1)]) hx hb dX6_keeps_25 hl (k := 2) rfl rfl (by decide) rfl (fun ls hl => ?_)
      refine lv_goto (tgt := 2) hx hb dX6_keeps_28 (by decide) ?_
      exact ih (v2 + (1 : Int32)) G24 _ _ _ h hw (lv_sub hl [1, 2, 0] rfl)
set_option maxHeartbeats 4000000 in
set_option maxRecDepth 100000 in
theorem mX6_keeps (l : Launch) (w : WE) (cs : List Nat) (hcs : ∀ c, c < 56 → c ∈ cs) (sz : Nat) (G : GS) (B : BS) (v1 : Int32) (P : GS → Prop) (h : wX6_keeps v1 G P) : Met l yX6_keeps wsX6_keeps (rmW 0) (PcW w cs sz G B [.ref (w.1 45), .int v1]) (QV w cs sz (fun G1 B1 => P G1 ∧ B = B1)) 0 0 (AA w cs sz) := by
  refine metW (own := RX6) [.ref (w.1 45), .int v1] (by decide +kernel) rfl rfl (Nat.le_of_ble_eq_true rfl) ?_
  intro p e s m below meth c ls hsz C hr hK hw hl
  subst hsz
  have hx := C.1
  have hb := C.2.1
  have hown := C.2.2.2.1
  have hta := fun w h => C.2.2.2.2 w (List.mem_cons_of_mem _ h)
  have hl : lv_has ls 3 [(0, .ref (w.1 45)), (1, .int v1)] := hl
  refine lv_iconst (v := 0) hx hb dX6_keeps_0 (by decide) ?_
  refine lv_istore_n (lv' := [(2, .int (0 : Int32)), (0, .ref (w.1 45)), (1, .int v1)]) hx hb dX6_keeps_1 rfl hl (by decide) rfl (fun ls hl => ?_)
  obtain ⟨n2, h⟩ := h
  refine lX6_keeps_2 C hK hcs v1 B (K31 := _) ?_ n2 (0 : Int32) G _ _ _ h hw (lv_sub hl [1, 2, 0] rfl)
  · intro G_31 H locs ls h hw hl
    exact q_retv hx hb hr hw ⟨h, rfl⟩ dX6_keeps_31
def wlX6_isBest_2 (K26 : GS → Prop) : Nat → Int32 → GS → Prop
  | 0, _, _ => False
  | n2 + 1, v1, G => (((12 : Int32) ≤ v1 → K26 G) ∧ (¬ (12 : Int32) ≤ v1 → (vp_in v1 12 ∧ (vp_in v1 12 ∧ (∀ G19 : GS, G19 = wr G 54 (cl v1) (G 53 (cl v1)) → wlX6_isBest_2 K26 n2 (v1 + (1 : Int32)) G19)))))
def wX6_isBest (G : GS) (P : GS → Prop) : Prop := (∃ z2 : Nat, wlX6_isBest_2 (fun G_26 => P G_26) z2 (0 : Int32) G)
set_option maxHeartbeats 4000000 in
set_option maxRecDepth 100000 in
theorem lX6_isBest_2 {p : Program} {l : Launch} {e : Env} {s : State} {m : MethodId} {args : Array Value} {below : List Frame} {meth : Method} {c : Code} {Q : State → Prop} {w : WE} {cs : List Nat} {A : Nat → Prop} {H0 : Heap} (C : CallFix p m c cX6_isBest 2 s args wsX6_isBest RX6) (hK : KW w s) (hcs : ∀ c, c < 56 → c ∈ cs) (B : BS) {K26 : GS → Prop} (k26 : ∀ (G : GS) (H : Heap) (locs : List Loc) (ls : Array Slot), K26 G → WO w cs A H0 G B H locs → lv_has ls 2 [] → W p l e (rmW 0) s m args below meth c H locs 0 0 Q (F0 m 26 ls [])) : ∀ (n : Nat) (v1 : Int32) (G : GS) (H : Heap) (locs : List Loc) (ls : Array Slot), wlX6_isBest_2 K26 n v1 G → WO w cs A H0 G B H locs → lv_has ls 2 [(0, .ref (w.1 45)), (1, .int v1)] → W p l e (rmW 0) s m args below meth c H locs 0 0 Q (F0 m 2 ls []) := by
  have hx := C.1
  have hb := C.2.1
  have hown := C.2.2.2.1
  have hta := fun w h => C.2.2.2.2 w (List.mem_cons_of_mem _ h)
  intro n
  induction n with
  | zero => intro v1 G H locs ls h hw hl; exact False.elim h
  | succ n ih =>
    intro v1 G H locs ls h hw hl
    refine lv_iload_n hx hb dX6_isBest_2 rfl (lv_at hl 1 rfl) ?_
    refine lv_bipush (v := 12) hx hb dX6_isBest_3 (by decide) ?_
    refine lv_icmp_ge (tgt := 26) hx hb dX6_isBest_5 (by decide) (fun c1 => ?_) (fun c1 => ?_)
    · have h := h.1 c1
      exact k26 G _ _ _ h hw (lv_sub hl [] rfl)
    · have h := h.2 c1
      refine lv_aload_n hx hb dX6_isBest_8 rfl (lv_at hl 0 rfl) ?_
      refine q_get (v := .ref (w.1 54)) (C := RX6) (T := TX6) (N := 17) (ci := 6) hx hb hta kw_X6 hown hK hw 45 (hcs _ (by omega)) (by unfold isB; omega) rfl rfl 15 (by decide) (hta _ kw_338) rfl rfl dX6_isBest_9 ?_
      refine lv_iload_n hx hb dX6_isBest_12 rfl (lv_at hl 1 rfl) ?_
      refine lv_aload_n hx hb dX6_isBest_13 rfl (lv_at hl 0 rfl) ?_
      refine q_get (v := .ref (w.1 53)) (C := RX6) (T := TX6) (N := 17) (ci := 6) hx hb hta kw_X6 hown hK hw 45 (hcs _ (by omega)) (by unfold isB; omega) rfl rfl 14 (by decide) (hta _ kw_337) rfl rfl dX6_isBest_14 ?_
      refine lv_iload_n hx hb dX6_isBest_17 rfl (lv_at hl 1 rfl) ?_
      obtain ⟨hin2, h⟩ := h
      refine q_iald (n := 12) hx hb hK hw (hcs _ (by omega)) (by unfold isI; omega) rfl hin2 dX6_isBest_18 ?_
      obtain ⟨hin3, h⟩ := h
      refine q_iast (n := 12) hx hb hK hw (hcs _ (by omega)) (by unfold isI; omega) rfl hin3 dX6_isBest_19 (fun H locs G19 eG19 hw => ?_)
      have h := h G19 eG19
      refine lv_iinc (v := (v1 + (1 : Int32))) (lv' := [(1, .int (v1 + (1 : Int32))), (0, .ref (w.1 45))]) hx hb dX6_isBest_20 hl (k := 1) rfl rfl (by decide) rfl (fun ls hl => ?_)
      refine lv_goto (tgt := 2) hx hb dX6_isBest_23 (by decide) ?_
      exact ih (v1 + (1 : Int32)) G19 _ _ _ h hw (lv_sub hl [1, 0] rfl)
set_option maxHeartbeats 4000000 in
set_option maxRecDepth 100000 in
theorem mX6_isBest (l : Launch) (w : WE) (cs : List Nat) (hcs : ∀ c, c < 56 → c ∈ cs) (sz : Nat) (G : GS) (B : BS) (P : GS → Prop) (h : wX6_isBest G P) : Met l yX6_isBest wsX6_isBest (rmW 0) (PcW w cs sz G B [.ref (w.1 45)]) (QV w cs sz (fun G1 B1 => P G1 ∧ B = B1)) 0 0 (AA w cs sz) := by
  refine metW (own := RX6) [.ref (w.1 45)] (by decide +kernel) rfl rfl (Nat.le_of_ble_eq_true rfl) ?_
  intro p e s m below meth c ls hsz C hr hK hw hl
  subst hsz
  have hx := C.1
  have hb := C.2.1
  have hown := C.2.2.2.1
  have hta := fun w h => C.2.2.2.2 w (List.mem_cons_of_mem _ h)
  have hl : lv_has ls 2 [(0, .ref (w.1 45))] := hl
  refine lv_iconst (v := 0) hx hb dX6_isBest_0 (by decide) ?_
  refine lv_istore_n (lv' := [(1, .int (0 : Int32)), (0, .ref (w.1 45))]) hx hb dX6_isBest_1 rfl hl (by decide) rfl (fun ls hl => ?_)
  obtain ⟨n2, h⟩ := h
  refine lX6_isBest_2 C hK hcs B (K26 := _) ?_ n2 (0 : Int32) G _ _ _ h hw (lv_sub hl [1, 0] rfl)
  · intro G_26 H locs ls h hw hl
    exact q_retv hx hb hr hw ⟨h, rfl⟩ dX6_isBest_26
def wlX6_find_43 (K93 : Int32 → GS → Prop) (v1 : Int32) (v2 : Int32) (v3 : Int32) (v4 : Int32) : Nat → Int32 → Int32 → GS → Prop
  | 0, _, _, _ => False
  | n43 + 1, v5, v6, G => ((((1 : Int32) <<< ((G 45 2) &&& (31 : Int32))) ≤ v6 → K93 v5 G) ∧ (¬ ((1 : Int32) <<< ((G 45 2) &&& (31 : Int32))) ≤ v6 → (wX6_bits v6 (fun r56 => ((¬ r56 = v4 → wlX6_find_43 K93 v1 v2 v3 v4 n43 v5 (v6 + (1 : Int32)) G) ∧ (r56 = v4 → (wX6_solves v6 (0 : Int32) v2 G (fun r69 G69 => ((r69 = 0 → wlX6_find_43 K93 v1 v2 v3 v4 n43 v5 (v6 + (1 : Int32)) G69) ∧ (¬ r69 = 0 → ((¬ v5 = 0 → wlX6_find_43 K93 v1 v2 v3 v4 n43 (v5 + (1 : Int32)) (v6 + (1 : Int32)) G69) ∧ (v5 = 0 → (wX6_isBest G69 (fun G81 => wlX6_find_43 K93 v1 v2 v3 v4 n43 (v5 + (1 : Int32)) (v6 + (1 : Int32)) G81))))))))))))))
def wlX6_find_31 (K98 : Int32 → Int32 → GS → Prop) (K126 : GS → Prop) (v1 : Int32) (v2 : Int32) (v3 : Int32) : Nat → Int32 → GS → Prop
  | 0, _, _ => False
  | n31 + 1, v4, G => ((v3 < v4 → K126 G) ∧ (¬ v3 < v4 → (∃ z43 : Nat, wlX6_find_43 (fun x5_93 G_93 => ((x5_93 ≤ 0 → wlX6_find_31 K98 K126 v1 v2 v3 n31 (v4 + (1 : Int32)) G_93) ∧ (¬ x5_93 ≤ 0 → K98 v4 x5_93 G_93))) v1 v2 v3 v4 z43 (0 : Int32) (0 : Int32) G)))
def wX6_find (v1 : Int32) (v2 : Int32) (v3 : Int32) (G : GS) (P : Int32 → GS → Prop) : Prop := (wX6_isSix v1 (fun r1 => ((r1 = 0 → P (-1 : Int32) G) ∧ (¬ r1 = 0 → (wX6_isSix v2 (fun r8 => ((r8 = 0 → P (-1 : Int32) G) ∧ (¬ r8 = 0 → (wX6_in v3.toInt64 (0 : Int64) (4 : Int64) (fun r20 => ((¬ r20 = 0 → (∃ z31 : Nat, wlX6_find_31 (fun x4_98 x5_98 G_98 => (wX6_keeps v1 G_98 (fun G100 => ((¬ x5_98 = (1 : Int32) → P x4_98 G100) ∧ (x5_98 = (1 : Int32) → P ((100 : Int32) + x4_98) G100))))) (fun G_126 => P (-2 : Int32) G_126) v1 v2 v3 z31 (0 : Int32) G)) ∧ (r20 = 0 → P (-1 : Int32) G))))))))))))
set_option maxHeartbeats 4000000 in
set_option maxRecDepth 100000 in
theorem lX6_find_43 {p : Program} {l : Launch} {e : Env} {s : State} {m : MethodId} {args : Array Value} {below : List Frame} {meth : Method} {c : Code} {Q : State → Prop} {w : WE} {cs : List Nat} {A : Nat → Prop} {H0 : Heap} (C : CallFix p m c cX6_find 7 s args wsX6_find RX6) (hK : KW w s) (hcs : ∀ c, c < 56 → c ∈ cs) (v1 : Int32) (v2 : Int32) (v3 : Int32) (v4 : Int32) (B : BS) {K93 : Int32 → GS → Prop} (k93 : ∀ (y5 : Int32) (G : GS) (H : Heap) (locs : List Loc) (ls : Array Slot), K93 y5 G → WO w cs A H0 G B H locs → lv_has ls 7 [(0, .ref (w.1 45)), (1, .int v1), (2, .int v2), (3, .int v3), (4, .int v4), (5, .int y5)] → W p l e (rmW 4) s m args below meth c H locs 0 0 Q (F0 m 93 ls [])) : ∀ (n : Nat) (v5 : Int32) (v6 : Int32) (G : GS) (H : Heap) (locs : List Loc) (ls : Array Slot), wlX6_find_43 K93 v1 v2 v3 v4 n v5 v6 G → WO w cs A H0 G B H locs → lv_has ls 7 [(0, .ref (w.1 45)), (1, .int v1), (2, .int v2), (3, .int v3), (4, .int v4), (5, .int v5), (6, .int v6)] → W p l e (rmW 4) s m args below meth c H locs 0 0 Q (F0 m 43 ls []) := by
  have hx := C.1
  have hb := C.2.1
  have hown := C.2.2.2.1
  have hta := fun w h => C.2.2.2.2 w (List.mem_cons_of_mem _ h)
  intro n
  induction n with
  | zero => intro v5 v6 G H locs ls h hw hl; exact False.elim h
  | succ n ih =>
    intro v5 v6 G H locs ls h hw hl
    refine lv_iload hx hb dX6_find_43 (lv_at hl 6 rfl) ?_
    refine lv_iconst (v := 1) hx hb dX6_find_45 (by decide) ?_
    refine lv_aload_n hx hb dX6_find_46 rfl (lv_at hl 0 rfl) ?_
    refine q_get (v := .int (G 45 2)) (C := RX6) (T := TX6) (N := 17) (ci := 6) hx hb hta kw_X6 hown hK hw 45 (hcs _ (by omega)) (by unfold isB; omega) rfl rfl 2 (by decide) (hta _ kw_285) rfl rfl dX6_find_47 ?_
    refine lv_ishl hx hb dX6_find_50 ?_
    refine lv_icmp_ge (tgt := 93) hx hb dX6_find_51 (by decide) (fun c5 => ?_) (fun c5 => ?_)
    · have h := h.1 c5
      exact k93 v5 G _ _ _ h hw (lv_sub hl [0, 1, 2, 3, 4, 5] rfl)
    · have h := h.2 c5
      refine lv_iload hx hb dX6_find_54 (lv_at hl 6 rfl) ?_
      refine q_calli hw (va_runS (As := [.int v6]) (rest := []) C (mX6_bits l w cs _ G B v6 _ h) (va_cwS 1 hta (gSw kw_299 kw_300 kw_17 kw_298) rfl rfl rfl (by decide +kernel) ⟨Nat.le_of_ble_eq_true rfl, Nat.le_of_ble_eq_true rfl⟩) (preS hK hw _) rfl rfl hl.1 rfl (lv_room (Nat.le_of_ble_eq_true rfl)) dX6_find_56 ⟨Nat.le_refl 0, Nat.le_refl 0⟩) (fun r56 G56 B56 H locs h hw => ?_)
      obtain ⟨h, e1, e2⟩ := h; subst e1; subst e2
      refine lv_iload hx hb dX6_find_59 (lv_at hl 4 rfl) ?_
      refine lv_icmp_ne (tgt := 87) hx hb dX6_find_61 (by decide) (fun c6 => ?_) (fun c6 => ?_)
      · have h := h.1 c6
        refine lv_iinc (v := (v6 + (1 : Int32))) (lv' := [(6, .int (v6 + (1 : Int32))), (0, .ref (w.1 45)), (1, .int v1), (2, .int v2), (3, .int v3), (4, .int v4), (5, .int v5)]) hx hb dX6_find_87 hl (k := 6) rfl rfl (by decide) rfl (fun ls hl => ?_)
        refine lv_goto (tgt := 43) hx hb dX6_find_90 (by decide) ?_
        exact ih v5 (v6 + (1 : Int32)) G _ _ _ h hw (lv_sub hl [1, 2, 3, 4, 5, 6, 0] rfl)
      · have h := h.2 c6
        refine lv_aload_n hx hb dX6_find_64 rfl (lv_at hl 0 rfl) ?_
        refine lv_iload hx hb dX6_find_65 (lv_at hl 6 rfl) ?_
        refine lv_iconst (v := 0) hx hb dX6_find_67 (by decide) ?_
        refine lv_iload_n hx hb dX6_find_68 rfl (lv_at hl 2 rfl) ?_
        refine q_calli hw (va_runV (As := [.int v6, .int (0 : Int32), .int v2]) (rest := []) C (mX6_solves l w cs (fun c h => hcs c (by omega)) _ G B v6 (0 : Int32) v2 _ h) (cwV 3 hta (gVw kw_341 kw_342 kw_343 kw_17 kw_340) rfl rfl rfl (by decide +kernel) ⟨Nat.le_of_ble_eq_true rfl, Nat.le_of_ble_eq_true rfl⟩) (preV hK hw 45 (hcs _ (by omega)) (by unfold isB; omega) rfl rfl _) rfl rfl hl.1 rfl (lv_room (Nat.le_of_ble_eq_true rfl)) dX6_find_69 ⟨Nat.le_refl 0, Nat.le_refl 0⟩) (fun r69 G69 B69 H locs h hw => ?_)
        obtain ⟨h, e2⟩ := h; subst e2
        refine lv_if_eq (tgt := 87) hx hb dX6_find_72 (by decide) (fun c7 => ?_) (fun c7 => ?_)
        · have h := h.1 c7
          refine lv_iinc (v := (v6 + (1 : Int32))) (lv' := [(6, .int (v6 + (1 : Int32))), (0, .ref (w.1 45)), (1, .int v1), (2, .int v2), (3, .int v3), (4, .int v4), (5, .int v5)]) hx hb dX6_find_87 hl (k := 6) rfl rfl (by decide) rfl (fun ls hl => ?_)
          refine lv_goto (tgt := 43) hx hb dX6_find_90 (by decide) ?_
          exact ih v5 (v6 + (1 : Int32)) G69 _ _ _ h hw (lv_sub hl [1, 2, 3, 4, 5, 6, 0] rfl)
        · have h := h.2 c7
          refine lv_iload hx hb dX6_find_75 (lv_at hl 5 rfl) ?_
          refine lv_if_ne (tgt := 84) hx hb dX6_find_77 (by decide) (fun c8 => ?_) (fun c8 => ?_)
          · have h := h.1 c8
            refine lv_iinc (v := (v5 + (1 : Int32))) (lv' := [(5, .int (v5 + (1 : Int32))), (0, .ref (w.1 45)), (1, .int v1), (2, .int v2), (3, .int v3), (4, .int v4), (6, .int v6)]) hx hb dX6_find_84 hl (k := 5) rfl rfl (by decide) rfl (fun ls hl => ?_)
            refine lv_iinc (v := (v6 + (1 : Int32))) (lv' := [(6, .int (v6 + (1 : Int32))), (5, .int (v5 + (1 : Int32))), (0, .ref (w.1 45)), (1, .int v1), (2, .int v2), (3, .int v3), (4, .int v4)]) hx hb dX6_find_87 hl (k := 6) rfl rfl (by decide) rfl (fun ls hl => ?_)
            refine lv_goto (tgt := 43) hx hb dX6_find_90 (by decide) ?_
            exact ih (v5 + (1 : Int32)) (v6 + (1 : Int32)) G69 _ _ _ h hw (lv_sub hl [2, 3, 4, 5, 6, 1, 0] rfl)
          · have h := h.2 c8
            refine lv_aload_n hx hb dX6_find_80 rfl (lv_at hl 0 rfl) ?_
            refine q_callv hw (va_runV (As := []) (rest := []) C (mX6_isBest l w cs (fun c h => hcs c (by omega)) _ G69 B _ h) (cwV 0 hta (gVw kw_345 kw_346 kw_347 kw_17 kw_344) rfl rfl rfl (by decide +kernel) ⟨Nat.le_of_ble_eq_true rfl, Nat.le_of_ble_eq_true rfl⟩) (preV hK hw 45 (hcs _ (by omega)) (by unfold isB; omega) rfl rfl _) rfl rfl hl.1 rfl (lv_room (Nat.le_of_ble_eq_true rfl)) dX6_find_81 ⟨Nat.le_refl 0, Nat.le_refl 0⟩) (fun G81 B81 H locs h hw => ?_)
            obtain ⟨h, e2⟩ := h; subst e2
            refine lv_iinc (v := (v5 + (1 : Int32))) (lv' := [(5, .int (v5 + (1 : Int32))), (0, .ref (w.1 45)), (1, .int v1), (2, .int v2), (3, .int v3), (4, .int v4), (6, .int v6)]) hx hb dX6_find_84 hl (k := 5) rfl rfl (by decide) rfl (fun ls hl => ?_)
            refine lv_iinc (v := (v6 + (1 : Int32))) (lv' := [(6, .int (v6 + (1 : Int32))), (5, .int (v5 + (1 : Int32))), (0, .ref (w.1 45)), (1, .int v1), (2, .int v2), (3, .int v3), (4, .int v4)]) hx hb dX6_find_87 hl (k := 6) rfl rfl (by decide) rfl (fun ls hl => ?_)
            refine lv_goto (tgt := 43) hx hb dX6_find_90 (by decide) ?_
            exact ih (v5 + (1 : Int32)) (v6 + (1 : Int32)) G81 _ _ _ h hw (lv_sub hl [2, 3, 4, 5, 6, 1, 0] rfl)
set_option maxHeartbeats 4000000 in
set_option maxRecDepth 100000 in
theorem lX6_find_31 {p : Program} {l : Launch} {e : Env} {s : State} {m : MethodId} {args : Array Value} {below : List Frame} {meth : Method} {c : Code} {Q : State → Prop} {w : WE} {cs : List Nat} {A : Nat → Prop} {H0 : Heap} (C : CallFix p m c cX6_find 7 s args wsX6_find RX6) (hK : KW w s) (hcs : ∀ c, c < 56 → c ∈ cs) (v1 : Int32) (v2 : Int32) (v3 : Int32) (B : BS) {K98 : Int32 → Int32 → GS → Prop} {K126 : GS → Prop} (k98 : ∀ (y4 : Int32) (y5 : Int32) (G : GS) (H : Heap) (locs : List Loc) (ls : Array Slot), K98 y4 y5 G → WO w cs A H0 G B H locs → lv_has ls 7 [(0, .ref (w.1 45)), (1, .int v1), (4, .int y4), (5, .int y5)] → W p l e (rmW 4) s m args below meth c H locs 0 0 Q (F0 m 98 ls [])) (k126 : ∀ (G : GS) (H : Heap) (locs : List Loc) (ls : Array Slot), K126 G → WO w cs A H0 G B H locs → lv_has ls 7 [] → W p l e (rmW 4) s m args below meth c H locs 0 0 Q (F0 m 126 ls [])) : ∀ (n : Nat) (v4 : Int32) (G : GS) (H : Heap) (locs : List Loc) (ls : Array Slot), wlX6_find_31 K98 K126 v1 v2 v3 n v4 G → WO w cs A H0 G B H locs → lv_has ls 7 [(0, .ref (w.1 45)), (1, .int v1), (2, .int v2), (3, .int v3), (4, .int v4)] → W p l e (rmW 4) s m args below meth c H locs 0 0 Q (F0 m 31 ls []) := by
  have hx := C.1
  have hb := C.2.1
  have hown := C.2.2.2.1
  have hta := fun w h => C.2.2.2.2 w (List.mem_cons_of_mem _ h)
  intro n
  induction n with
  | zero => intro v4 G H locs ls h hw hl; exact False.elim h
  | succ n ih =>
    intro v4 G H locs ls h hw hl
    refine lv_iload hx hb dX6_find_31 (lv_at hl 4 rfl) ?_
    refine lv_iload_n hx hb dX6_find_33 rfl (lv_at hl 3 rfl) ?_
    refine lv_icmp_gt (tgt := 126) hx hb dX6_find_34 (by decide) (fun c4 => ?_) (fun c4 => ?_)
    · have h := h.1 c4
      exact k126 G _ _ _ h hw (lv_sub hl [] rfl)
    · have h := h.2 c4
      refine lv_iconst (v := 0) hx hb dX6_find_37 (by decide) ?_
      refine lv_istore (lv' := [(5, .int (0 : Int32)), (0, .ref (w.1 45)), (1, .int v1), (2, .int v2), (3, .int v3), (4, .int v4)]) hx hb dX6_find_38 hl (by decide) rfl (fun ls hl => ?_)
      refine lv_iconst (v := 0) hx hb dX6_find_40 (by decide) ?_
      refine lv_istore (lv' := [(6, .int (0 : Int32)), (5, .int (0 : Int32)), (0, .ref (w.1 45)), (1, .int v1), (2, .int v2), (3, .int v3), (4, .int v4)]) hx hb dX6_find_41 hl (by decide) rfl (fun ls hl => ?_)
      obtain ⟨n43, h⟩ := h
      refine lX6_find_43 C hK hcs v1 v2 v3 v4 B (K93 := _) ?_ n43 (0 : Int32) (0 : Int32) G _ _ _ h hw (lv_sub hl [2, 3, 4, 5, 6, 1, 0] rfl)
      · intro x5_93 G_93 H locs ls h hw hl
        refine lv_iload hx hb dX6_find_93 (lv_at hl 5 rfl) ?_
        refine lv_if_le (tgt := 120) hx hb dX6_find_95 (by decide) (fun c9 => ?_) (fun c9 => ?_)
        · have h := h.1 c9
          refine lv_iinc (v := (v4 + (1 : Int32))) (lv' := [(4, .int (v4 + (1 : Int32))), (0, .ref (w.1 45)), (1, .int v1), (2, .int v2), (3, .int v3), (5, .int x5_93)]) hx hb dX6_find_120 hl (k := 4) rfl rfl (by decide) rfl (fun ls hl => ?_)
          refine lv_goto (tgt := 31) hx hb dX6_find_123 (by decide) ?_
          exact ih (v4 + (1 : Int32)) G_93 _ _ _ h hw (lv_sub hl [1, 2, 3, 4, 0] rfl)
        · have h := h.2 c9
          exact k98 v4 x5_93 G_93 _ _ _ h hw (lv_sub hl [0, 1, 4, 5] rfl)
set_option maxHeartbeats 4000000 in
set_option maxRecDepth 100000 in
theorem mX6_find (l : Launch) (w : WE) (cs : List Nat) (hcs : ∀ c, c < 56 → c ∈ cs) (sz : Nat) (G : GS) (B : BS) (v1 : Int32) (v2 : Int32) (v3 : Int32) (P : Int32 → GS → Prop) (h : wX6_find v1 v2 v3 G P) : Met l yX6_find wsX6_find (rmW 4) (PcW w cs sz G B [.ref (w.1 45), .int v1, .int v2, .int v3]) (QI w cs sz (fun r G1 B1 => P r G1 ∧ B = B1)) 0 0 (AA w cs sz) := by
  refine metW (own := RX6) [.ref (w.1 45), .int v1, .int v2, .int v3] (by decide +kernel) rfl rfl (Nat.le_of_ble_eq_true rfl) ?_
  intro p e s m below meth c ls hsz C hr hK hw hl
  subst hsz
  have hx := C.1
  have hb := C.2.1
  have hown := C.2.2.2.1
  have hta := fun w h => C.2.2.2.2 w (List.mem_cons_of_mem _ h)
  have hl : lv_has ls 7 [(0, .ref (w.1 45)), (1, .int v1), (2, .int v2), (3, .int v3)] := hl
  refine lv_iload_n hx hb dX6_find_0 rfl (lv_at hl 1 rfl) ?_
  refine q_calli hw (va_runS (As := [.int v1]) (rest := []) C (mX6_isSix l w cs _ G B v1 _ h) (va_cwS 1 hta (gSw kw_330 kw_331 kw_17 kw_329) rfl rfl rfl (by decide +kernel) ⟨Nat.le_of_ble_eq_true rfl, Nat.le_of_ble_eq_true rfl⟩) (preS hK hw _) rfl rfl hl.1 rfl (lv_room (Nat.le_of_ble_eq_true rfl)) dX6_find_1 ⟨Nat.le_refl 0, Nat.le_refl 0⟩) (fun r1 G1 B1 H locs h hw => ?_)
  obtain ⟨h, e1, e2⟩ := h; subst e1; subst e2
  refine lv_if_eq (tgt := 26) hx hb dX6_find_4 (by decide) (fun c1 => ?_) (fun c1 => ?_)
  · have h := h.1 c1
    refine lv_iconst (v := -1) hx hb dX6_find_26 (by decide) ?_
    exact q_reti hx hb hr hw ⟨h, rfl⟩ dX6_find_27
  · have h := h.2 c1
    refine lv_iload_n hx hb dX6_find_7 rfl (lv_at hl 2 rfl) ?_
    refine q_calli hw (va_runS (As := [.int v2]) (rest := []) C (mX6_isSix l w cs _ G B v2 _ h) (va_cwS 1 hta (gSw kw_330 kw_331 kw_17 kw_329) rfl rfl rfl (by decide +kernel) ⟨Nat.le_of_ble_eq_true rfl, Nat.le_of_ble_eq_true rfl⟩) (preS hK hw _) rfl rfl hl.1 rfl (lv_room (Nat.le_of_ble_eq_true rfl)) dX6_find_8 ⟨Nat.le_refl 0, Nat.le_refl 0⟩) (fun r8 G8 B8 H locs h hw => ?_)
    obtain ⟨h, e1, e2⟩ := h; subst e1; subst e2
    refine lv_if_eq (tgt := 26) hx hb dX6_find_11 (by decide) (fun c2 => ?_) (fun c2 => ?_)
    · have h := h.1 c2
      refine lv_iconst (v := -1) hx hb dX6_find_26 (by decide) ?_
      exact q_reti hx hb hr hw ⟨h, rfl⟩ dX6_find_27
    · have h := h.2 c2
      refine lv_iload_n hx hb dX6_find_14 rfl (lv_at hl 3 rfl) ?_
      refine lv_i2l hx hb dX6_find_15 rfl ?_
      refine lv_lconst (v := 0) hx hb dX6_find_16 (by decide) ?_
      refine lv_ldc2 hx hb hown (hta _ kw_339) dX6_find_17 ?_
      refine q_calli hw (va_runS (As := [.long v3.toInt64, .long (0 : Int64), .long (4 : Int64)]) (rest := []) C (mX6_in l w cs _ G B v3.toInt64 (0 : Int64) (4 : Int64) _ h) (va_cwS 3 hta (gSw kw_15 kw_16 kw_17 kw_14) rfl rfl rfl (by decide +kernel) ⟨Nat.le_of_ble_eq_true rfl, Nat.le_of_ble_eq_true rfl⟩) (preS hK hw _) rfl rfl hl.1 rfl (lv_room (Nat.le_of_ble_eq_true rfl)) dX6_find_20 ⟨Nat.le_refl 0, Nat.le_refl 0⟩) (fun r20 G20 B20 H locs h hw => ?_)
      obtain ⟨h, e1, e2⟩ := h; subst e1; subst e2
      refine lv_if_ne (tgt := 28) hx hb dX6_find_23 (by decide) (fun c3 => ?_) (fun c3 => ?_)
      · have h := h.1 c3
        refine lv_iconst (v := 0) hx hb dX6_find_28 (by decide) ?_
        refine lv_istore (lv' := [(4, .int (0 : Int32)), (0, .ref (w.1 45)), (1, .int v1), (2, .int v2), (3, .int v3)]) hx hb dX6_find_29 hl (by decide) rfl (fun ls hl => ?_)
        obtain ⟨n31, h⟩ := h
        refine lX6_find_31 C hK hcs v1 v2 v3 B (K98 := _) (K126 := _) ?_ ?_ n31 (0 : Int32) G _ _ _ h hw (lv_sub hl [1, 2, 3, 4, 0] rfl)
        · intro x4_98 x5_98 G_98 H locs ls h hw hl
          refine lv_aload_n hx hb dX6_find_98 rfl (lv_at hl 0 rfl) ?_
          refine lv_iload_n hx hb dX6_find_99 rfl (lv_at hl 1 rfl) ?_
          refine q_callv hw (va_runV (As := [.int v1]) (rest := []) C (mX6_keeps l w cs (fun c h => hcs c (by omega)) _ G_98 B v1 _ h) (cwV 1 hta (gVw kw_349 kw_350 kw_351 kw_17 kw_348) rfl rfl rfl (by decide +kernel) ⟨Nat.le_of_ble_eq_true rfl, Nat.le_of_ble_eq_true rfl⟩) (preV hK hw 45 (hcs _ (by omega)) (by unfold isB; omega) rfl rfl _) rfl rfl hl.1 rfl (lv_room (Nat.le_of_ble_eq_true rfl)) dX6_find_100 ⟨Nat.le_refl 0, Nat.le_refl 0⟩) (fun G100 B100 H locs h hw => ?_)
          obtain ⟨h, e2⟩ := h; subst e2
          refine lv_iload hx hb dX6_find_103 (lv_at hl 3 rfl) ?_
          refine lv_iconst (v := 1) hx hb dX6_find_105 (by decide) ?_
          refine lv_icmp_ne (tgt := 117) hx hb dX6_find_106 (by decide) (fun c10 => ?_) (fun c10 => ?_)
          · have h := h.1 c10
            refine lv_iload hx hb dX6_find_117 (lv_at hl 2 rfl) ?_
            exact q_reti hx hb hr hw ⟨h, rfl⟩ dX6_find_119
          · have h := h.2 c10
            refine lv_bipush (v := 100) hx hb dX6_find_109 (by decide) ?_
            refine lv_iload hx hb dX6_find_111 (lv_at hl 2 rfl) ?_
            refine lv_iadd hx hb dX6_find_113 ?_
            refine lv_goto (tgt := 119) hx hb dX6_find_114 (by decide) ?_
            exact q_reti hx hb hr hw ⟨h, rfl⟩ dX6_find_119
        · intro G_126 H locs ls h hw hl
          refine lv_bipush (v := -2) hx hb dX6_find_126 (by decide) ?_
          exact q_reti hx hb hr hw ⟨h, rfl⟩ dX6_find_128
      · have h := h.2 c3
        refine lv_iconst (v := -1) hx hb dX6_find_26 (by decide) ?_
        exact q_reti hx hb hr hw ⟨h, rfl⟩ dX6_find_27
def wlX6_differs_18 (K58 : Int32 → Prop) (v1 : Int32) (v2 : Int32) (v3 : Int32) (G : GS) : Nat → Int32 → Int32 → Prop
  | 0, _, _ => False
  | n18 + 1, v4, v5 => (((G 45 2) ≤ v5 → K58 v4) ∧ (¬ (G 45 2) ≤ v5 → (vp_in (((12 : Int32) * v3) + v5) 72 ∧ (vp_in v5 12 ∧ (∀ x50 : Int32, x50 = (v4 + ((G 46 (cl (((12 : Int32) * v3) + v5))) * (G 53 (cl v5)))) → wlX6_differs_18 K58 v1 v2 v3 G n18 x50 (v5 + (1 : Int32)))))))
def wlX6_differs_4 (K93 : Int32 → Prop) (v1 : Int32) (G : GS) : Nat → Int32 → Int32 → Prop
  | 0, _, _ => False
  | n4 + 1, v2, v3 => (((G 45 1) ≤ v3 → K93 v2) ∧ (¬ (G 45 1) ≤ v3 → (∃ z18 : Nat, wlX6_differs_18 (fun x4_58 => (¬ (G 45 0) = 0 ∧ (vp_in (((6 : Int32) * v1) + v3) 36 ∧ ((¬ (x4_58 - x4_58 / (G 45 0) * (G 45 0)) = (G 48 (cl (((6 : Int32) * v1) + v3))) → (∀ x86 : Int32, x86 = (v2 + (1 : Int32)) → wlX6_differs_4 K93 v1 G n4 x86 (v3 + (1 : Int32)))) ∧ ((x4_58 - x4_58 / (G 45 0) * (G 45 0)) = (G 48 (cl (((6 : Int32) * v1) + v3))) → (∀ x86 : Int32, x86 = (v2 + (0 : Int32)) → wlX6_differs_4 K93 v1 G n4 x86 (v3 + (1 : Int32)))))))) v1 v2 v3 G z18 (0 : Int32) (0 : Int32))))
def wX6_differs (v1 : Int32) (G : GS) (P : Int32 → Prop) : Prop := (∃ z4 : Nat, wlX6_differs_4 (fun x2_93 => P x2_93) v1 G z4 (0 : Int32) (0 : Int32))
set_option maxHeartbeats 4000000 in
set_option maxRecDepth 100000 in
theorem lX6_differs_18 {p : Program} {l : Launch} {e : Env} {s : State} {m : MethodId} {args : Array Value} {below : List Frame} {meth : Method} {c : Code} {Q : State → Prop} {w : WE} {cs : List Nat} {A : Nat → Prop} {H0 : Heap} (C : CallFix p m c cX6_differs 6 s args wsX6_differs RX6) (hK : KW w s) (hcs : ∀ c, c < 56 → c ∈ cs) (v1 : Int32) (v2 : Int32) (v3 : Int32) (G : GS) (B : BS) {K58 : Int32 → Prop} (k58 : ∀ (y4 : Int32) (H : Heap) (locs : List Loc) (ls : Array Slot), K58 y4 → WO w cs A H0 G B H locs → lv_has ls 6 [(0, .ref (w.1 45)), (1, .int v1), (2, .int v2), (3, .int v3), (4, .int y4)] → W p l e (rmW 0) s m args below meth c H locs 0 0 Q (F0 m 58 ls [])) : ∀ (n : Nat) (v4 : Int32) (v5 : Int32) (H : Heap) (locs : List Loc) (ls : Array Slot), wlX6_differs_18 K58 v1 v2 v3 G n v4 v5 → WO w cs A H0 G B H locs → lv_has ls 6 [(0, .ref (w.1 45)), (1, .int v1), (2, .int v2), (3, .int v3), (4, .int v4), (5, .int v5)] → W p l e (rmW 0) s m args below meth c H locs 0 0 Q (F0 m 18 ls []) := by
  have hx := C.1
  have hb := C.2.1
  have hown := C.2.2.2.1
  have hta := fun w h => C.2.2.2.2 w (List.mem_cons_of_mem _ h)
  intro n
  induction n with
  | zero => intro v4 v5 H locs ls h hw hl; exact False.elim h
  | succ n ih =>
    intro v4 v5 H locs ls h hw hl
    refine lv_iload hx hb dX6_differs_18 (lv_at hl 5 rfl) ?_
    refine lv_aload_n hx hb dX6_differs_20 rfl (lv_at hl 0 rfl) ?_
    refine q_get (v := .int (G 45 2)) (C := RX6) (T := TX6) (N := 17) (ci := 6) hx hb hta kw_X6 hown hK hw 45 (hcs _ (by omega)) (by unfold isB; omega) rfl rfl 2 (by decide) (hta _ kw_285) rfl rfl dX6_differs_21 ?_
    refine lv_icmp_ge (tgt := 58) hx hb dX6_differs_24 (by decide) (fun c2 => ?_) (fun c2 => ?_)
    · have h := h.1 c2
      exact k58 v4 _ _ _ h hw (lv_sub hl [0, 1, 2, 3, 4] rfl)
    · have h := h.2 c2
      refine lv_iload hx hb dX6_differs_27 (lv_at hl 4 rfl) ?_
      refine lv_aload_n hx hb dX6_differs_29 rfl (lv_at hl 0 rfl) ?_
      refine q_get (v := .ref (w.1 46)) (C := RX6) (T := TX6) (N := 17) (ci := 6) hx hb hta kw_X6 hown hK hw 45 (hcs _ (by omega)) (by unfold isB; omega) rfl rfl 3 (by decide) (hta _ kw_286) rfl rfl dX6_differs_30 ?_
      refine lv_bipush (v := 12) hx hb dX6_differs_33 (by decide) ?_
      refine lv_iload_n hx hb dX6_differs_35 rfl (lv_at hl 3 rfl) ?_
      refine lv_imul hx hb dX6_differs_36 ?_
      refine lv_iload hx hb dX6_differs_37 (lv_at hl 5 rfl) ?_
      refine lv_iadd hx hb dX6_differs_39 ?_
      obtain ⟨hin3, h⟩ := h
      refine q_iald (n := 72) hx hb hK hw (hcs _ (by omega)) (by unfold isI; omega) rfl hin3 dX6_differs_40 ?_
      refine lv_aload_n hx hb dX6_differs_41 rfl (lv_at hl 0 rfl) ?_
      refine q_get (v := .ref (w.1 53)) (C := RX6) (T := TX6) (N := 17) (ci := 6) hx hb hta kw_X6 hown hK hw 45 (hcs _ (by omega)) (by unfold isB; omega) rfl rfl 14 (by decide) (hta _ kw_337) rfl rfl dX6_differs_42 ?_
      refine lv_iload hx hb dX6_differs_45 (lv_at hl 5 rfl) ?_
      obtain ⟨hin4, h⟩ := h
      refine q_iald (n := 12) hx hb hK hw (hcs _ (by omega)) (by unfold isI; omega) rfl hin4 dX6_differs_47 ?_
      refine lv_imul hx hb dX6_differs_48 ?_
      refine lv_iadd hx hb dX6_differs_49 ?_
      refine lv_topi (fun x50 ex50 => ?_)
      have h := h x50 ex50
      refine lv_istore (lv' := [(4, .int x50), (0, .ref (w.1 45)), (1, .int v1), (2, .int v2), (3, .int v3), (5, .int v5)]) hx hb dX6_differs_50 hl (by decide) rfl (fun ls hl => ?_)
      refine lv_iinc (v := (v5 + (1 : Int32))) (lv' := [(5, .int (v5 + (1 : Int32))), (4, .int x50), (0, .ref (w.1 45)), (1, .int v1), (2, .int v2), (3, .int v3)]) hx hb dX6_differs_52 hl (k := 5) rfl rfl (by decide) rfl (fun ls hl => ?_)
      refine lv_goto (tgt := 18) hx hb dX6_differs_55 (by decide) ?_
      exact ih x50 (v5 + (1 : Int32)) _ _ _ h hw (lv_sub hl [2, 3, 4, 5, 1, 0] rfl)
set_option maxHeartbeats 4000000 in
set_option maxRecDepth 100000 in
theorem lX6_differs_4 {p : Program} {l : Launch} {e : Env} {s : State} {m : MethodId} {args : Array Value} {below : List Frame} {meth : Method} {c : Code} {Q : State → Prop} {w : WE} {cs : List Nat} {A : Nat → Prop} {H0 : Heap} (C : CallFix p m c cX6_differs 6 s args wsX6_differs RX6) (hK : KW w s) (hcs : ∀ c, c < 56 → c ∈ cs) (v1 : Int32) (G : GS) (B : BS) {K93 : Int32 → Prop} (k93 : ∀ (y2 : Int32) (H : Heap) (locs : List Loc) (ls : Array Slot), K93 y2 → WO w cs A H0 G B H locs → lv_has ls 6 [(2, .int y2)] → W p l e (rmW 0) s m args below meth c H locs 0 0 Q (F0 m 93 ls [])) : ∀ (n : Nat) (v2 : Int32) (v3 : Int32) (H : Heap) (locs : List Loc) (ls : Array Slot), wlX6_differs_4 K93 v1 G n v2 v3 → WO w cs A H0 G B H locs → lv_has ls 6 [(0, .ref (w.1 45)), (1, .int v1), (2, .int v2), (3, .int v3)] → W p l e (rmW 0) s m args below meth c H locs 0 0 Q (F0 m 4 ls []) := by
  have hx := C.1
  have hb := C.2.1
  have hown := C.2.2.2.1
  have hta := fun w h => C.2.2.2.2 w (List.mem_cons_of_mem _ h)
  intro n
  induction n with
  | zero => intro v2 v3 H locs ls h hw hl; exact False.elim h
  | succ n ih =>
    intro v2 v3 H locs ls h hw hl
    refine lv_iload_n hx hb dX6_differs_4 rfl (lv_at hl 3 rfl) ?_
    refine lv_aload_n hx hb dX6_differs_5 rfl (lv_at hl 0 rfl) ?_
    refine q_get (v := .int (G 45 1)) (C := RX6) (T := TX6) (N := 17) (ci := 6) hx hb hta kw_X6 hown hK hw 45 (hcs _ (by omega)) (by unfold isB; omega) rfl rfl 1 (by decide) (hta _ kw_284) rfl rfl dX6_differs_6 ?_
    refine lv_icmp_ge (tgt := 93) hx hb dX6_differs_9 (by decide) (fun c1 => ?_) (fun c1 => ?_)
    · have h := h.1 c1
      exact k93 v2 _ _ _ h hw (lv_sub hl [2] rfl)
    · have h := h.2 c1
      refine lv_iconst (v := 0) hx hb dX6_differs_12 (by decide) ?_
      refine lv_istore (lv' := [(4, .int (0 : Int32)), (0, .ref (w.1 45)), (1, .int v1), (2, .int v2), (3, .int v3)]) hx hb dX6_differs_13 hl (by decide) rfl (fun ls hl => ?_)
      refine lv_iconst (v := 0) hx hb dX6_differs_15 (by decide) ?_
      refine lv_istore (lv' := [(5, .int (0 : Int32)), (4, .int (0 : Int32)), (0, .ref (w.1 45)), (1, .int v1), (2, .int v2), (3, .int v3)]) hx hb dX6_differs_16 hl (by decide) rfl (fun ls hl => ?_)
      obtain ⟨n18, h⟩ := h
      refine lX6_differs_18 C hK hcs v1 v2 v3 G B (K58 := _) ?_ n18 (0 : Int32) (0 : Int32) _ _ _ h hw (lv_sub hl [2, 3, 4, 5, 1, 0] rfl)
      · intro x4_58 H locs ls h hw hl
        refine lv_iload_n hx hb dX6_differs_58 rfl (lv_at hl 2 rfl) ?_
        refine lv_iload hx hb dX6_differs_59 (lv_at hl 4 rfl) ?_
        refine lv_aload_n hx hb dX6_differs_61 rfl (lv_at hl 0 rfl) ?_
        refine q_get (v := .int (G 45 0)) (C := RX6) (T := TX6) (N := 17) (ci := 6) hx hb hta kw_X6 hown hK hw 45 (hcs _ (by omega)) (by unfold isB; omega) rfl rfl 0 (by decide) (hta _ kw_278) rfl rfl dX6_differs_62 ?_
        obtain ⟨hz5, h⟩ := h
        refine lv_irem hx hb dX6_differs_65 hz5 ?_
        refine lv_aload_n hx hb dX6_differs_66 rfl (lv_at hl 0 rfl) ?_
        refine q_get (v := .ref (w.1 48)) (C := RX6) (T := TX6) (N := 17) (ci := 6) hx hb hta kw_X6 hown hK hw 45 (hcs _ (by omega)) (by unfold isB; omega) rfl rfl 5 (by decide) (hta _ kw_288) rfl rfl dX6_differs_67 ?_
        refine lv_bipush (v := 6) hx hb dX6_differs_70 (by decide) ?_
        refine lv_iload_n hx hb dX6_differs_72 rfl (lv_at hl 1 rfl) ?_
        refine lv_imul hx hb dX6_differs_73 ?_
        refine lv_iload_n hx hb dX6_differs_74 rfl (lv_at hl 3 rfl) ?_
        refine lv_iadd hx hb dX6_differs_75 ?_
        obtain ⟨hin6, h⟩ := h
        refine q_iald (n := 36) hx hb hK hw (hcs _ (by omega)) (by unfold isI; omega) rfl hin6 dX6_differs_76 ?_
        refine lv_icmp_ne (tgt := 84) hx hb dX6_differs_77 (by decide) (fun c7 => ?_) (fun c7 => ?_)
        · have h := h.1 c7
          refine lv_iconst (v := 1) hx hb dX6_differs_84 (by decide) ?_
          refine lv_iadd hx hb dX6_differs_85 ?_
          refine lv_topi (fun x86 ex86 => ?_)
          have h := h x86 ex86
          refine lv_istore_n (lv' := [(2, .int x86), (0, .ref (w.1 45)), (1, .int v1), (3, .int v3), (4, .int x4_58)]) hx hb dX6_differs_86 rfl hl (by decide) rfl (fun ls hl => ?_)
          refine lv_iinc (v := (v3 + (1 : Int32))) (lv' := [(3, .int (v3 + (1 : Int32))), (2, .int x86), (0, .ref (w.1 45)), (1, .int v1), (4, .int x4_58)]) hx hb dX6_differs_87 hl (k := 3) rfl rfl (by decide) rfl (fun ls hl => ?_)
          refine lv_goto (tgt := 4) hx hb dX6_differs_90 (by decide) ?_
          exact ih x86 (v3 + (1 : Int32)) _ _ _ h hw (lv_sub hl [2, 3, 1, 0] rfl)
        · have h := h.2 c7
          refine lv_iconst (v := 0) hx hb dX6_differs_80 (by decide) ?_
          refine lv_goto (tgt := 85) hx hb dX6_differs_81 (by decide) ?_
          refine lv_iadd hx hb dX6_differs_85 ?_
          refine lv_topi (fun x86 ex86 => ?_)
          have h := h x86 ex86
          refine lv_istore_n (lv' := [(2, .int x86), (0, .ref (w.1 45)), (1, .int v1), (3, .int v3), (4, .int x4_58)]) hx hb dX6_differs_86 rfl hl (by decide) rfl (fun ls hl => ?_)
          refine lv_iinc (v := (v3 + (1 : Int32))) (lv' := [(3, .int (v3 + (1 : Int32))), (2, .int x86), (0, .ref (w.1 45)), (1, .int v1), (4, .int x4_58)]) hx hb dX6_differs_87 hl (k := 3) rfl rfl (by decide) rfl (fun ls hl => ?_)
          refine lv_goto (tgt := 4) hx hb dX6_differs_90 (by decide) ?_
          exact ih x86 (v3 + (1 : Int32)) _ _ _ h hw (lv_sub hl [2, 3, 1, 0] rfl)
set_option maxHeartbeats 4000000 in
set_option maxRecDepth 100000 in
theorem mX6_differs (l : Launch) (w : WE) (cs : List Nat) (hcs : ∀ c, c < 56 → c ∈ cs) (sz : Nat) (G : GS) (B : BS) (v1 : Int32) (P : Int32 → Prop) (h : wX6_differs v1 G P) : Met l yX6_differs wsX6_differs (rmW 0) (PcW w cs sz G B [.ref (w.1 45), .int v1]) (QI w cs sz (fun r G1 B1 => P r ∧ G = G1 ∧ B = B1)) 0 0 (AA w cs sz) := by
  refine metW (own := RX6) [.ref (w.1 45), .int v1] (by decide +kernel) rfl rfl (Nat.le_of_ble_eq_true rfl) ?_
  intro p e s m below meth c ls hsz C hr hK hw hl
  subst hsz
  have hx := C.1
  have hb := C.2.1
  have hown := C.2.2.2.1
  have hta := fun w h => C.2.2.2.2 w (List.mem_cons_of_mem _ h)
  have hl : lv_has ls 6 [(0, .ref (w.1 45)), (1, .int v1)] := hl
  refine lv_iconst (v := 0) hx hb dX6_differs_0 (by decide) ?_
  refine lv_istore_n (lv' := [(2, .int (0 : Int32)), (0, .ref (w.1 45)), (1, .int v1)]) hx hb dX6_differs_1 rfl hl (by decide) rfl (fun ls hl => ?_)
  refine lv_iconst (v := 0) hx hb dX6_differs_2 (by decide) ?_
  refine lv_istore_n (lv' := [(3, .int (0 : Int32)), (2, .int (0 : Int32)), (0, .ref (w.1 45)), (1, .int v1)]) hx hb dX6_differs_3 rfl hl (by decide) rfl (fun ls hl => ?_)
  obtain ⟨n4, h⟩ := h
  refine lX6_differs_4 C hK hcs v1 G B (K93 := _) ?_ n4 (0 : Int32) (0 : Int32) _ _ _ h hw (lv_sub hl [2, 3, 1, 0] rfl)
  · intro x2_93 H locs ls h hw hl
    refine lv_iload_n hx hb dX6_differs_93 rfl (lv_at hl 0 rfl) ?_
    exact q_reti hx hb hr hw ⟨h, rfl, rfl⟩ dX6_differs_94
def wlX6_isLess_2 (K29 : Int32 → Prop) (G : GS) : Nat → Int32 → Prop
  | 0, _ => False
  | n2 + 1, v1 => (((11 : Int32) ≤ v1 → K29 v1) ∧ (¬ (11 : Int32) ≤ v1 → (vp_in v1 12 ∧ (vp_in v1 12 ∧ ((¬ (G 53 (cl v1)) = (G 54 (cl v1)) → K29 v1) ∧ ((G 53 (cl v1)) = (G 54 (cl v1)) → wlX6_isLess_2 K29 G n2 (v1 + (1 : Int32))))))))
def wX6_isLess (G : GS) (P : Int32 → Prop) : Prop := (∃ z2 : Nat, wlX6_isLess_2 (fun x1_29 => (vp_in x1_29 12 ∧ (vp_in x1_29 12 ∧ (((G 54 (cl x1_29)) ≤ (G 53 (cl x1_29)) → P (0 : Int32)) ∧ (¬ (G 54 (cl x1_29)) ≤ (G 53 (cl x1_29)) → P (1 : Int32)))))) G z2 (0 : Int32))
set_option maxHeartbeats 4000000 in
set_option maxRecDepth 100000 in
theorem lX6_isLess_2 {p : Program} {l : Launch} {e : Env} {s : State} {m : MethodId} {args : Array Value} {below : List Frame} {meth : Method} {c : Code} {Q : State → Prop} {w : WE} {cs : List Nat} {A : Nat → Prop} {H0 : Heap} (C : CallFix p m c cX6_isLess 2 s args wsX6_isLess RX6) (hK : KW w s) (hcs : ∀ c, c < 56 → c ∈ cs) (G : GS) (B : BS) {K29 : Int32 → Prop} (k29 : ∀ (y1 : Int32) (H : Heap) (locs : List Loc) (ls : Array Slot), K29 y1 → WO w cs A H0 G B H locs → lv_has ls 2 [(0, .ref (w.1 45)), (1, .int y1)] → W p l e (rmW 0) s m args below meth c H locs 0 0 Q (F0 m 29 ls [])) : ∀ (n : Nat) (v1 : Int32) (H : Heap) (locs : List Loc) (ls : Array Slot), wlX6_isLess_2 K29 G n v1 → WO w cs A H0 G B H locs → lv_has ls 2 [(0, .ref (w.1 45)), (1, .int v1)] → W p l e (rmW 0) s m args below meth c H locs 0 0 Q (F0 m 2 ls []) := by
  have hx := C.1
  have hb := C.2.1
  have hown := C.2.2.2.1
  have hta := fun w h => C.2.2.2.2 w (List.mem_cons_of_mem _ h)
  intro n
  induction n with
  | zero => intro v1 H locs ls h hw hl; exact False.elim h
  | succ n ih =>
    intro v1 H locs ls h hw hl
    refine lv_iload_n hx hb dX6_isLess_2 rfl (lv_at hl 1 rfl) ?_
    refine lv_bipush (v := 11) hx hb dX6_isLess_3 (by decide) ?_
    refine lv_icmp_ge (tgt := 29) hx hb dX6_isLess_5 (by decide) (fun c1 => ?_) (fun c1 => ?_)
    · have h := h.1 c1
      exact k29 v1 _ _ _ h hw (lv_sub hl [0, 1] rfl)
    · have h := h.2 c1
      refine lv_aload_n hx hb dX6_isLess_8 rfl (lv_at hl 0 rfl) ?_
      refine q_get (v := .ref (w.1 53)) (C := RX6) (T := TX6) (N := 17) (ci := 6) hx hb hta kw_X6 hown hK hw 45 (hcs _ (by omega)) (by unfold isB; omega) rfl rfl 14 (by decide) (hta _ kw_337) rfl rfl dX6_isLess_9 ?_
      refine lv_iload_n hx hb dX6_isLess_12 rfl (lv_at hl 1 rfl) ?_
      obtain ⟨hin2, h⟩ := h
      refine q_iald (n := 12) hx hb hK hw (hcs _ (by omega)) (by unfold isI; omega) rfl hin2 dX6_isLess_13 ?_
      refine lv_aload_n hx hb dX6_isLess_14 rfl (lv_at hl 0 rfl) ?_
      refine q_get (v := .ref (w.1 54)) (C := RX6) (T := TX6) (N := 17) (ci := 6) hx hb hta kw_X6 hown hK hw 45 (hcs _ (by omega)) (by unfold isB; omega) rfl rfl 15 (by decide) (hta _ kw_338) rfl rfl dX6_isLess_15 ?_
      refine lv_iload_n hx hb dX6_isLess_18 rfl (lv_at hl 1 rfl) ?_
      obtain ⟨hin3, h⟩ := h
      refine q_iald (n := 12) hx hb hK hw (hcs _ (by omega)) (by unfold isI; omega) rfl hin3 dX6_isLess_19 ?_
      refine lv_icmp_ne (tgt := 29) hx hb dX6_isLess_20 (by decide) (fun c4 => ?_) (fun c4 => ?_)
      · have h := h.1 c4
        exact k29 v1 _ _ _ h hw (lv_sub hl [0, 1] rfl)
      · have h := h.2 c4
        refine lv_iinc (v := (v1 + (1 : Int32))) (lv' := [(1, .int (v1 + (1 : Int32))), (0, .ref (w.1 45))]) hx hb dX6_isLess_23 hl (k := 1) rfl rfl (by decide) rfl (fun ls hl => ?_)
        refine lv_goto (tgt := 2) hx hb dX6_isLess_26 (by decide) ?_
        exact ih (v1 + (1 : Int32)) _ _ _ h hw (lv_sub hl [1, 0] rfl)
set_option maxHeartbeats 4000000 in
set_option maxRecDepth 100000 in
theorem mX6_isLess (l : Launch) (w : WE) (cs : List Nat) (hcs : ∀ c, c < 56 → c ∈ cs) (sz : Nat) (G : GS) (B : BS) (P : Int32 → Prop) (h : wX6_isLess G P) : Met l yX6_isLess wsX6_isLess (rmW 0) (PcW w cs sz G B [.ref (w.1 45)]) (QI w cs sz (fun r G1 B1 => P r ∧ G = G1 ∧ B = B1)) 0 0 (AA w cs sz) := by
  refine metW (own := RX6) [.ref (w.1 45)] (by decide +kernel) rfl rfl (Nat.le_of_ble_eq_true rfl) ?_
  intro p e s m below meth c ls hsz C hr hK hw hl
  subst hsz
  have hx := C.1
  have hb := C.2.1
  have hown := C.2.2.2.1
  have hta := fun w h => C.2.2.2.2 w (List.mem_cons_of_mem _ h)
  have hl : lv_has ls 2 [(0, .ref (w.1 45))] := hl
  refine lv_iconst (v := 0) hx hb dX6_isLess_0 (by decide) ?_
  refine lv_istore_n (lv' := [(1, .int (0 : Int32)), (0, .ref (w.1 45))]) hx hb dX6_isLess_1 rfl hl (by decide) rfl (fun ls hl => ?_)
  obtain ⟨n2, h⟩ := h
  refine lX6_isLess_2 C hK hcs G B (K29 := _) ?_ n2 (0 : Int32) _ _ _ h hw (lv_sub hl [1, 0] rfl)
  · intro x1_29 H locs ls h hw hl
    refine lv_aload_n hx hb dX6_isLess_29 rfl (lv_at hl 0 rfl) ?_
    refine q_get (v := .ref (w.1 53)) (C := RX6) (T := TX6) (N := 17) (ci := 6) hx hb hta kw_X6 hown hK hw 45 (hcs _ (by omega)) (by unfold isB; omega) rfl rfl 14 (by decide) (hta _ kw_337) rfl rfl dX6_isLess_30 ?_
    refine lv_iload_n hx hb dX6_isLess_33 rfl (lv_at hl 1 rfl) ?_
    obtain ⟨hin5, h⟩ := h
    refine q_iald (n := 12) hx hb hK hw (hcs _ (by omega)) (by unfold isI; omega) rfl hin5 dX6_isLess_34 ?_
    refine lv_aload_n hx hb dX6_isLess_35 rfl (lv_at hl 0 rfl) ?_
    refine q_get (v := .ref (w.1 54)) (C := RX6) (T := TX6) (N := 17) (ci := 6) hx hb hta kw_X6 hown hK hw 45 (hcs _ (by omega)) (by unfold isB; omega) rfl rfl 15 (by decide) (hta _ kw_338) rfl rfl dX6_isLess_36 ?_
    refine lv_iload_n hx hb dX6_isLess_39 rfl (lv_at hl 1 rfl) ?_
    obtain ⟨hin6, h⟩ := h
    refine q_iald (n := 12) hx hb hK hw (hcs _ (by omega)) (by unfold isI; omega) rfl hin6 dX6_isLess_40 ?_
    refine lv_icmp_ge (tgt := 48) hx hb dX6_isLess_41 (by decide) (fun c7 => ?_) (fun c7 => ?_)
    · have h := h.1 c7
      refine lv_iconst (v := 0) hx hb dX6_isLess_48 (by decide) ?_
      exact q_retz hx hb hr hw (Or.inl rfl) ⟨h, rfl, rfl⟩ dX6_isLess_49
    · have h := h.2 c7
      refine lv_iconst (v := 1) hx hb dX6_isLess_44 (by decide) ?_
      refine lv_goto (tgt := 49) hx hb dX6_isLess_45 (by decide) ?_
      exact q_retz hx hb hr hw (Or.inr rfl) ⟨h, rfl, rfl⟩ dX6_isLess_49
def wlX6_miss_74 (K170 : Int32 → Int32 → GS → Prop) (v1 : Int32) (v2 : Int32) (v3 : Int32) (v4 : Int32) (v5 : Int32) (v8 : Int32) : Nat → Int32 → Int32 → Int32 → GS → Prop
  | 0, _, _, _, _ => False
  | n74 + 1, v6, v7, v9, G => ((((1 : Int32) <<< ((G 45 1) &&& (31 : Int32))) ≤ v9 → K170 v6 v7 G) ∧ (¬ ((1 : Int32) <<< ((G 45 1) &&& (31 : Int32))) ≤ v9 → (wX6_bits v8 (fun r87 => ((¬ r87 = v5 → K170 v6 v7 G) ∧ (r87 = v5 → (wX6_bits v9 (fun r97 => ((v4 < r97 → wlX6_miss_74 K170 v1 v2 v3 v4 v5 v8 n74 v6 v7 (v9 + (1 : Int32)) G) ∧ (¬ v4 < r97 → (wX6_solves v8 v9 v2 G (fun r111 G111 => ((r111 = 0 → wlX6_miss_74 K170 v1 v2 v3 v4 v5 v8 n74 v6 v7 (v9 + (1 : Int32)) G111) ∧ (¬ r111 = 0 → (wX6_differs v2 G111 (fun r119 => ((r119 < v6 → (wX6_isBest G111 (fun G161 => wlX6_miss_74 K170 v1 v2 v3 v4 v5 v8 n74 r119 v8 (v9 + (1 : Int32)) G161))) ∧ (¬ r119 < v6 → ((¬ r119 = v6 → wlX6_miss_74 K170 v1 v2 v3 v4 v5 v8 n74 v6 v7 (v9 + (1 : Int32)) G111) ∧ (r119 = v6 → ((¬ v8 = v7 → wlX6_miss_74 K170 v1 v2 v3 v4 v5 v8 n74 v6 v7 (v9 + (1 : Int32)) G111) ∧ (v8 = v7 → (wX6_isLess G111 (fun r146 => ((r146 = 0 → wlX6_miss_74 K170 v1 v2 v3 v4 v5 v8 n74 v6 v7 (v9 + (1 : Int32)) G111) ∧ (¬ r146 = 0 → (wX6_isBest G111 (fun G161 => wlX6_miss_74 K170 v1 v2 v3 v4 v5 v8 n74 r119 v8 (v9 + (1 : Int32)) G161))))))))))))))))))))))))))))
def wlX6_miss_60 (K176 : Int32 → GS → Prop) (v1 : Int32) (v2 : Int32) (v3 : Int32) (v4 : Int32) (v5 : Int32) : Nat → Int32 → Int32 → Int32 → GS → Prop
  | 0, _, _, _, _ => False
  | n60 + 1, v6, v7, v8, G => ((((1 : Int32) <<< ((G 45 2) &&& (31 : Int32))) ≤ v8 → K176 v6 G) ∧ (¬ ((1 : Int32) <<< ((G 45 2) &&& (31 : Int32))) ≤ v8 → (∃ z74 : Nat, wlX6_miss_74 (fun x6_170 x7_170 G_170 => wlX6_miss_60 K176 v1 v2 v3 v4 v5 n60 x6_170 x7_170 (v8 + (1 : Int32)) G_170) v1 v2 v3 v4 v5 v8 z74 v6 v7 (0 : Int32) G)))
def wlX6_miss_44 (K183 : Int32 → Int32 → GS → Prop) (K203 : GS → Prop) (v1 : Int32) (v2 : Int32) (v3 : Int32) (v4 : Int32) : Nat → Int32 → GS → Prop
  | 0, _, _ => False
  | n44 + 1, v5, G => ((v3 < v5 → K203 G) ∧ (¬ v3 < v5 → (∃ z60 : Nat, wlX6_miss_60 (fun x6_176 G_176 => (((99 : Int32) ≤ x6_176 → wlX6_miss_44 K183 K203 v1 v2 v3 v4 n44 (v5 + (1 : Int32)) G_176) ∧ (¬ (99 : Int32) ≤ x6_176 → K183 v5 x6_176 G_176))) v1 v2 v3 v4 v5 z60 (99 : Int32) (0 : Int32) (0 : Int32) G)))
def wX6_miss (v1 : Int32) (v2 : Int32) (v3 : Int32) (v4 : Int32) (G : GS) (P : Int32 → GS → Prop) : Prop := (wX6_isSix v1 (fun r1 => ((r1 = 0 → P (-1 : Int32) G) ∧ (¬ r1 = 0 → (wX6_isSix v2 (fun r8 => ((r8 = 0 → P (-1 : Int32) G) ∧ (¬ r8 = 0 → (wX6_in v3.toInt64 (0 : Int64) (3 : Int64) (fun r20 => ((r20 = 0 → P (-1 : Int32) G) ∧ (¬ r20 = 0 → (wX6_in v4.toInt64 (0 : Int64) (3 : Int64) (fun r33 => ((¬ r33 = 0 → (∃ z44 : Nat, wlX6_miss_44 (fun x5_183 x6_183 G_183 => (wX6_keeps v1 G_183 (fun G185 => P (x5_183 + ((100 : Int32) * x6_183)) G185))) (fun G_203 => P (-2 : Int32) G_203) v1 v2 v3 v4 z44 (0 : Int32) G)) ∧ (r33 = 0 → P (-1 : Int32) G))))))))))))))))
set_option maxHeartbeats 4000000 in
set_option maxRecDepth 100000 in
theorem lX6_miss_74 {p : Program} {l : Launch} {e : Env} {s : State} {m : MethodId} {args : Array Value} {below : List Frame} {meth : Method} {c : Code} {Q : State → Prop} {w : WE} {cs : List Nat} {A : Nat → Prop} {H0 : Heap} (C : CallFix p m c cX6_miss 11 s args wsX6_miss RX6) (hK : KW w s) (hcs : ∀ c, c < 56 → c ∈ cs) (v1 : Int32) (v2 : Int32) (v3 : Int32) (v4 : Int32) (v5 : Int32) (v8 : Int32) (B : BS) {K170 : Int32 → Int32 → GS → Prop} (k170 : ∀ (y6 : Int32) (y7 : Int32) (G : GS) (H : Heap) (locs : List Loc) (ls : Array Slot), K170 y6 y7 G → WO w cs A H0 G B H locs → lv_has ls 11 [(0, .ref (w.1 45)), (1, .int v1), (2, .int v2), (3, .int v3), (4, .int v4), (5, .int v5), (6, .int y6), (7, .int y7), (8, .int v8)] → W p l e (rmW 4) s m args below meth c H locs 0 0 Q (F0 m 170 ls [])) : ∀ (n : Nat) (v6 : Int32) (v7 : Int32) (v9 : Int32) (G : GS) (H : Heap) (locs : List Loc) (ls : Array Slot), wlX6_miss_74 K170 v1 v2 v3 v4 v5 v8 n v6 v7 v9 G → WO w cs A H0 G B H locs → lv_has ls 11 [(0, .ref (w.1 45)), (1, .int v1), (2, .int v2), (3, .int v3), (4, .int v4), (5, .int v5), (6, .int v6), (7, .int v7), (8, .int v8), (9, .int v9)] → W p l e (rmW 4) s m args below meth c H locs 0 0 Q (F0 m 74 ls []) := by
  have hx := C.1
  have hb := C.2.1
  have hown := C.2.2.2.1
  have hta := fun w h => C.2.2.2.2 w (List.mem_cons_of_mem _ h)
  intro n
  induction n with
  | zero => intro v6 v7 v9 G H locs ls h hw hl; exact False.elim h
  | succ n ih =>
    intro v6 v7 v9 G H locs ls h hw hl
    refine lv_iload hx hb dX6_miss_74 (lv_at hl 9 rfl) ?_
    refine lv_iconst (v := 1) hx hb dX6_miss_76 (by decide) ?_
    refine lv_aload_n hx hb dX6_miss_77 rfl (lv_at hl 0 rfl) ?_
    refine q_get (v := .int (G 45 1)) (C := RX6) (T := TX6) (N := 17) (ci := 6) hx hb hta kw_X6 hown hK hw 45 (hcs _ (by omega)) (by unfold isB; omega) rfl rfl 1 (by decide) (hta _ kw_284) rfl rfl dX6_miss_78 ?_
    refine lv_ishl hx hb dX6_miss_81 ?_
    refine lv_icmp_ge (tgt := 170) hx hb dX6_miss_82 (by decide) (fun c7 => ?_) (fun c7 => ?_)
    · have h := h.1 c7
      exact k170 v6 v7 G _ _ _ h hw (lv_sub hl [0, 1, 2, 3, 4, 5, 6, 7, 8] rfl)
    · have h := h.2 c7
      refine lv_iload hx hb dX6_miss_85 (lv_at hl 8 rfl) ?_
      refine q_calli hw (va_runS (As := [.int v8]) (rest := []) C (mX6_bits l w cs _ G B v8 _ h) (va_cwS 1 hta (gSw kw_299 kw_300 kw_17 kw_298) rfl rfl rfl (by decide +kernel) ⟨Nat.le_of_ble_eq_true rfl, Nat.le_of_ble_eq_true rfl⟩) (preS hK hw _) rfl rfl hl.1 rfl (lv_room (Nat.le_of_ble_eq_true rfl)) dX6_miss_87 ⟨Nat.le_refl 0, Nat.le_refl 0⟩) (fun r87 G87 B87 H locs h hw => ?_)
      obtain ⟨h, e1, e2⟩ := h; subst e1; subst e2
      refine lv_iload hx hb dX6_miss_90 (lv_at hl 5 rfl) ?_
      refine lv_icmp_ne (tgt := 170) hx hb dX6_miss_92 (by decide) (fun c8 => ?_) (fun c8 => ?_)
      · have h := h.1 c8
        exact k170 v6 v7 G _ _ _ h hw (lv_sub hl [0, 1, 2, 3, 4, 5, 6, 7, 8] rfl)
      · have h := h.2 c8
        refine lv_iload hx hb dX6_miss_95 (lv_at hl 9 rfl) ?_
        refine q_calli hw (va_runS (As := [.int v9]) (rest := []) C (mX6_bits l w cs _ G B v9 _ h) (va_cwS 1 hta (gSw kw_299 kw_300 kw_17 kw_298) rfl rfl rfl (by decide +kernel) ⟨Nat.le_of_ble_eq_true rfl, Nat.le_of_ble_eq_true rfl⟩) (preS hK hw _) rfl rfl hl.1 rfl (lv_room (Nat.le_of_ble_eq_true rfl)) dX6_miss_97 ⟨Nat.le_refl 0, Nat.le_refl 0⟩) (fun r97 G97 B97 H locs h hw => ?_)
        obtain ⟨h, e1, e2⟩ := h; subst e1; subst e2
        refine lv_iload hx hb dX6_miss_100 (lv_at hl 4 rfl) ?_
        refine lv_icmp_gt (tgt := 164) hx hb dX6_miss_102 (by decide) (fun c9 => ?_) (fun c9 => ?_)
        · have h := h.1 c9
          refine lv_iinc (v := (v9 + (1 : Int32))) (lv' := [(9, .int (v9 + (1 : Int32))), (0, .ref (w.1 45)), (1, .int v1), (2, .int v2), (3, .int v3), (4, .int v4), (5, .int v5), (6, .int v6), (7, .int v7), (8, .int v8)]) hx hb dX6_miss_164 hl (k := 9) rfl rfl (by decide) rfl (fun ls hl => ?_)
          refine lv_goto (tgt := 74) hx hb dX6_miss_167 (by decide) ?_
          exact ih v6 v7 (v9 + (1 : Int32)) G _ _ _ h hw (lv_sub hl [1, 2, 3, 4, 5, 6, 7, 8, 9, 0] rfl)
        · have h := h.2 c9
          refine lv_aload_n hx hb dX6_miss_105 rfl (lv_at hl 0 rfl) ?_
          refine lv_iload hx hb dX6_miss_106 (lv_at hl 8 rfl) ?_
          refine lv_iload hx hb dX6_miss_108 (lv_at hl 9 rfl) ?_
          refine lv_iload_n hx hb dX6_miss_110 rfl (lv_at hl 2 rfl) ?_
          refine q_calli hw (va_runV (As := [.int v8, .int v9, .int v2]) (rest := []) C (mX6_solves l w cs (fun c h => hcs c (by omega)) _ G B v8 v9 v2 _ h) (cwV 3 hta (gVw kw_341 kw_342 kw_343 kw_17 kw_340) rfl rfl rfl (by decide +kernel) ⟨Nat.le_of_ble_eq_true rfl, Nat.le_of_ble_eq_true rfl⟩) (preV hK hw 45 (hcs _ (by omega)) (by unfold isB; omega) rfl rfl _) rfl rfl hl.1 rfl (lv_room (Nat.le_of_ble_eq_true rfl)) dX6_miss_111 ⟨Nat.le_refl 0, Nat.le_refl 0⟩) (fun r111 G111 B111 H locs h hw => ?_)
          obtain ⟨h, e2⟩ := h; subst e2
          refine lv_if_eq (tgt := 164) hx hb dX6_miss_114 (by decide) (fun c10 => ?_) (fun c10 => ?_)
          · have h := h.1 c10
            refine lv_iinc (v := (v9 + (1 : Int32))) (lv' := [(9, .int (v9 + (1 : Int32))), (0, .ref (w.1 45)), (1, .int v1), (2, .int v2), (3, .int v3), (4, .int v4), (5, .int v5), (6, .int v6), (7, .int v7), (8, .int v8)]) hx hb dX6_miss_164 hl (k := 9) rfl rfl (by decide) rfl (fun ls hl => ?_)
            refine lv_goto (tgt := 74) hx hb dX6_miss_167 (by decide) ?_
            exact ih v6 v7 (v9 + (1 : Int32)) G111 _ _ _ h hw (lv_sub hl [1, 2, 3, 4, 5, 6, 7, 8, 9, 0] rfl)
          · have h := h.2 c10
            refine lv_aload_n hx hb dX6_miss_117 rfl (lv_at hl 0 rfl) ?_
            refine lv_iload_n hx hb dX6_miss_118 rfl (lv_at hl 2 rfl) ?_
            refine q_calli hw (va_runV (As := [.int v2]) (rest := []) C (mX6_differs l w cs (fun c h => hcs c (by omega)) _ G111 B v2 _ h) (cwV 1 hta (gVw kw_354 kw_355 kw_356 kw_17 kw_353) rfl rfl rfl (by decide +kernel) ⟨Nat.le_of_ble_eq_true rfl, Nat.le_of_ble_eq_true rfl⟩) (preV hK hw 45 (hcs _ (by omega)) (by unfold isB; omega) rfl rfl _) rfl rfl hl.1 rfl (lv_room (Nat.le_of_ble_eq_true rfl)) dX6_miss_119 ⟨Nat.le_refl 0, Nat.le_refl 0⟩) (fun r119 G119 B119 H locs h hw => ?_)
            obtain ⟨h, e1, e2⟩ := h; subst e1; subst e2
            refine lv_istore (lv' := [(10, .int r119), (0, .ref (w.1 45)), (1, .int v1), (2, .int v2), (3, .int v3), (4, .int v4), (5, .int v5), (6, .int v6), (7, .int v7), (8, .int v8), (9, .int v9)]) hx hb dX6_miss_122 hl (by decide) rfl (fun ls hl => ?_)
            refine lv_iload hx hb dX6_miss_124 (lv_at hl 0 rfl) ?_
            refine lv_iload hx hb dX6_miss_126 (lv_at hl 7 rfl) ?_
            refine lv_icmp_lt (tgt := 152) hx hb dX6_miss_128 (by decide) (fun c11 => ?_) (fun c11 => ?_)
            · have h := h.1 c11
              refine lv_iload hx hb dX6_miss_152 (lv_at hl 0 rfl) ?_
              refine lv_istore (lv' := [(6, .int r119), (10, .int r119), (0, .ref (w.1 45)), (1, .int v1), (2, .int v2), (3, .int v3), (4, .int v4), (5, .int v5), (7, .int v7), (8, .int v8), (9, .int v9)]) hx hb dX6_miss_154 hl (by decide) rfl (fun ls hl => ?_)
              refine lv_iload hx hb dX6_miss_156 (lv_at hl 9 rfl) ?_
              refine lv_istore (lv' := [(7, .int v8), (6, .int r119), (10, .int r119), (0, .ref (w.1 45)), (1, .int v1), (2, .int v2), (3, .int v3), (4, .int v4), (5, .int v5), (8, .int v8), (9, .int v9)]) hx hb dX6_miss_158 hl (by decide) rfl (fun ls hl => ?_)
              refine lv_aload_n hx hb dX6_miss_160 rfl (lv_at hl 3 rfl) ?_
              refine q_callv hw (va_runV (As := []) (rest := []) C (mX6_isBest l w cs (fun c h => hcs c (by omega)) _ G111 B _ h) (cwV 0 hta (gVw kw_345 kw_346 kw_347 kw_17 kw_344) rfl rfl rfl (by decide +kernel) ⟨Nat.le_of_ble_eq_true rfl, Nat.le_of_ble_eq_true rfl⟩) (preV hK hw 45 (hcs _ (by omega)) (by unfold isB; omega) rfl rfl _) rfl rfl hl.1 rfl (lv_room (Nat.le_of_ble_eq_true rfl)) dX6_miss_161 ⟨Nat.le_refl 0, Nat.le_refl 0⟩) (fun G161 B161 H locs h hw => ?_)
              obtain ⟨h, e2⟩ := h; subst e2
              refine lv_iinc (v := (v9 + (1 : Int32))) (lv' := [(9, .int (v9 + (1 : Int32))), (7, .int v8), (6, .int r119), (10, .int r119), (0, .ref (w.1 45)), (1, .int v1), (2, .int v2), (3, .int v3), (4, .int v4), (5, .int v5), (8, .int v8)]) hx hb dX6_miss_164 hl (k := 10) rfl rfl (by decide) rfl (fun ls hl => ?_)
              refine lv_goto (tgt := 74) hx hb dX6_miss_167 (by decide) ?_
              exact ih r119 v8 (v9 + (1 : Int32)) G161 _ _ _ h hw (lv_sub hl [4, 5, 6, 7, 8, 9, 2, 1, 10, 0] rfl)
            · have h := h.2 c11
              refine lv_iload hx hb dX6_miss_131 (lv_at hl 0 rfl) ?_
              refine lv_iload hx hb dX6_miss_133 (lv_at hl 7 rfl) ?_
              refine lv_icmp_ne (tgt := 164) hx hb dX6_miss_135 (by decide) (fun c12 => ?_) (fun c12 => ?_)
              · have h := h.1 c12
                refine lv_iinc (v := (v9 + (1 : Int32))) (lv' := [(9, .int (v9 + (1 : Int32))), (10, .int r119), (0, .ref (w.1 45)), (1, .int v1), (2, .int v2), (3, .int v3), (4, .int v4), (5, .int v5), (6, .int v6), (7, .int v7), (8, .int v8)]) hx hb dX6_miss_164 hl (k := 10) rfl rfl (by decide) rfl (fun ls hl => ?_)
                refine lv_goto (tgt := 74) hx hb dX6_miss_167 (by decide) ?_
                exact ih v6 v7 (v9 + (1 : Int32)) G111 _ _ _ h hw (lv_sub hl [2, 3, 4, 5, 6, 7, 8, 9, 10, 0] rfl)
              · have h := h.2 c12
                refine lv_iload hx hb dX6_miss_138 (lv_at hl 9 rfl) ?_
                refine lv_iload hx hb dX6_miss_140 (lv_at hl 8 rfl) ?_
                refine lv_icmp_ne (tgt := 164) hx hb dX6_miss_142 (by decide) (fun c13 => ?_) (fun c13 => ?_)
                · have h := h.1 c13
                  refine lv_iinc (v := (v9 + (1 : Int32))) (lv' := [(9, .int (v9 + (1 : Int32))), (10, .int r119), (0, .ref (w.1 45)), (1, .int v1), (2, .int v2), (3, .int v3), (4, .int v4), (5, .int v5), (6, .int v6), (7, .int v7), (8, .int v8)]) hx hb dX6_miss_164 hl (k := 10) rfl rfl (by decide) rfl (fun ls hl => ?_)
                  refine lv_goto (tgt := 74) hx hb dX6_miss_167 (by decide) ?_
                  exact ih v6 v7 (v9 + (1 : Int32)) G111 _ _ _ h hw (lv_sub hl [2, 3, 4, 5, 6, 7, 8, 9, 10, 0] rfl)
                · have h := h.2 c13
                  refine lv_aload_n hx hb dX6_miss_145 rfl (lv_at hl 1 rfl) ?_
                  refine q_calli hw (va_runV (As := []) (rest := []) C (mX6_isLess l w cs (fun c h => hcs c (by omega)) _ G111 B _ h) (cwV 0 hta (gVw kw_358 kw_359 kw_360 kw_17 kw_357) rfl rfl rfl (by decide +kernel) ⟨Nat.le_of_ble_eq_true rfl, Nat.le_of_ble_eq_true rfl⟩) (preV hK hw 45 (hcs _ (by omega)) (by unfold isB; omega) rfl rfl _) rfl rfl hl.1 rfl (lv_room (Nat.le_of_ble_eq_true rfl)) dX6_miss_146 ⟨Nat.le_refl 0, Nat.le_refl 0⟩) (fun r146 G146 B146 H locs h hw => ?_)
                  obtain ⟨h, e1, e2⟩ := h; subst e1; subst e2
                  refine lv_if_eq (tgt := 164) hx hb dX6_miss_149 (by decide) (fun c14 => ?_) (fun c14 => ?_)
                  · have h := h.1 c14
                    refine lv_iinc (v := (v9 + (1 : Int32))) (lv' := [(9, .int (v9 + (1 : Int32))), (10, .int r119), (0, .ref (w.1 45)), (1, .int v1), (2, .int v2), (3, .int v3), (4, .int v4), (5, .int v5), (6, .int v6), (7, .int v7), (8, .int v8)]) hx hb dX6_miss_164 hl (k := 10) rfl rfl (by decide) rfl (fun ls hl => ?_)
                    refine lv_goto (tgt := 74) hx hb dX6_miss_167 (by decide) ?_
                    exact ih v6 v7 (v9 + (1 : Int32)) G111 _ _ _ h hw (lv_sub hl [2, 3, 4, 5, 6, 7, 8, 9, 10, 0] rfl)
                  · have h := h.2 c14
                    refine lv_iload hx hb dX6_miss_152 (lv_at hl 0 rfl) ?_
                    refine lv_istore (lv' := [(6, .int r119), (10, .int r119), (0, .ref (w.1 45)), (1, .int v1), (2, .int v2), (3, .int v3), (4, .int v4), (5, .int v5), (7, .int v7), (8, .int v8), (9, .int v9)]) hx hb dX6_miss_154 hl (by decide) rfl (fun ls hl => ?_)
                    refine lv_iload hx hb dX6_miss_156 (lv_at hl 9 rfl) ?_
                    refine lv_istore (lv' := [(7, .int v8), (6, .int r119), (10, .int r119), (0, .ref (w.1 45)), (1, .int v1), (2, .int v2), (3, .int v3), (4, .int v4), (5, .int v5), (8, .int v8), (9, .int v9)]) hx hb dX6_miss_158 hl (by decide) rfl (fun ls hl => ?_)
                    refine lv_aload_n hx hb dX6_miss_160 rfl (lv_at hl 3 rfl) ?_
                    refine q_callv hw (va_runV (As := []) (rest := []) C (mX6_isBest l w cs (fun c h => hcs c (by omega)) _ G111 B _ h) (cwV 0 hta (gVw kw_345 kw_346 kw_347 kw_17 kw_344) rfl rfl rfl (by decide +kernel) ⟨Nat.le_of_ble_eq_true rfl, Nat.le_of_ble_eq_true rfl⟩) (preV hK hw 45 (hcs _ (by omega)) (by unfold isB; omega) rfl rfl _) rfl rfl hl.1 rfl (lv_room (Nat.le_of_ble_eq_true rfl)) dX6_miss_161 ⟨Nat.le_refl 0, Nat.le_refl 0⟩) (fun G161 B161 H locs h hw => ?_)
                    obtain ⟨h, e2⟩ := h; subst e2
                    refine lv_iinc (v := (v9 + (1 : Int32))) (lv' := [(9, .int (v9 + (1 : Int32))), (7, .int v8), (6, .int r119), (10, .int r119), (0, .ref (w.1 45)), (1, .int v1), (2, .int v2), (3, .int v3), (4, .int v4), (5, .int v5), (8, .int v8)]) hx hb dX6_miss_164 hl (k := 10) rfl rfl (by decide) rfl (fun ls hl => ?_)
                    refine lv_goto (tgt := 74) hx hb dX6_miss_167 (by decide) ?_
                    exact ih r119 v8 (v9 + (1 : Int32)) G161 _ _ _ h hw (lv_sub hl [4, 5, 6, 7, 8, 9, 2, 1, 10, 0] rfl)
set_option maxHeartbeats 4000000 in
set_option maxRecDepth 100000 in
theorem lX6_miss_60 {p : Program} {l : Launch} {e : Env} {s : State} {m : MethodId} {args : Array Value} {below : List Frame} {meth : Method} {c : Code} {Q : State → Prop} {w : WE} {cs : List Nat} {A : Nat → Prop} {H0 : Heap} (C : CallFix p m c cX6_miss 11 s args wsX6_miss RX6) (hK : KW w s) (hcs : ∀ c, c < 56 → c ∈ cs) (v1 : Int32) (v2 : Int32) (v3 : Int32) (v4 : Int32) (v5 : Int32) (B : BS) {K176 : Int32 → GS → Prop} (k176 : ∀ (y6 : Int32) (G : GS) (H : Heap) (locs : List Loc) (ls : Array Slot), K176 y6 G → WO w cs A H0 G B H locs → lv_has ls 11 [(0, .ref (w.1 45)), (1, .int v1), (2, .int v2), (3, .int v3), (4, .int v4), (5, .int v5), (6, .int y6)] → W p l e (rmW 4) s m args below meth c H locs 0 0 Q (F0 m 176 ls [])) : ∀ (n : Nat) (v6 : Int32) (v7 : Int32) (v8 : Int32) (G : GS) (H : Heap) (locs : List Loc) (ls : Array Slot), wlX6_miss_60 K176 v1 v2 v3 v4 v5 n v6 v7 v8 G → WO w cs A H0 G B H locs → lv_has ls 11 [(0, .ref (w.1 45)), (1, .int v1), (2, .int v2), (3, .int v3), (4, .int v4), (5, .int v5), (6, .int v6), (7, .int v7), (8, .int v8)] → W p l e (rmW 4) s m args below meth c H locs 0 0 Q (F0 m 60 ls []) := by
  have hx := C.1
  have hb := C.2.1
  have hown := C.2.2.2.1
  have hta := fun w h => C.2.2.2.2 w (List.mem_cons_of_mem _ h)
  intro n
  induction n with
  | zero => intro v6 v7 v8 G H locs ls h hw hl; exact False.elim h
  | succ n ih =>
    intro v6 v7 v8 G H locs ls h hw hl
    refine lv_iload hx hb dX6_miss_60 (lv_at hl 8 rfl) ?_
    refine lv_iconst (v := 1) hx hb dX6_miss_62 (by decide) ?_
    refine lv_aload_n hx hb dX6_miss_63 rfl (lv_at hl 0 rfl) ?_
    refine q_get (v := .int (G 45 2)) (C := RX6) (T := TX6) (N := 17) (ci := 6) hx hb hta kw_X6 hown hK hw 45 (hcs _ (by omega)) (by unfold isB; omega) rfl rfl 2 (by decide) (hta _ kw_285) rfl rfl dX6_miss_64 ?_
    refine lv_ishl hx hb dX6_miss_67 ?_
    refine lv_icmp_ge (tgt := 176) hx hb dX6_miss_68 (by decide) (fun c6 => ?_) (fun c6 => ?_)
    · have h := h.1 c6
      exact k176 v6 G _ _ _ h hw (lv_sub hl [0, 1, 2, 3, 4, 5, 6] rfl)
    · have h := h.2 c6
      refine lv_iconst (v := 0) hx hb dX6_miss_71 (by decide) ?_
      refine lv_istore (lv' := [(9, .int (0 : Int32)), (0, .ref (w.1 45)), (1, .int v1), (2, .int v2), (3, .int v3), (4, .int v4), (5, .int v5), (6, .int v6), (7, .int v7), (8, .int v8)]) hx hb dX6_miss_72 hl (by decide) rfl (fun ls hl => ?_)
      obtain ⟨n74, h⟩ := h
      refine lX6_miss_74 C hK hcs v1 v2 v3 v4 v5 v8 B (K170 := _) ?_ n74 v6 v7 (0 : Int32) G _ _ _ h hw (lv_sub hl [1, 2, 3, 4, 5, 6, 7, 8, 9, 0] rfl)
      · intro x6_170 x7_170 G_170 H locs ls h hw hl
        refine lv_iinc (v := (v8 + (1 : Int32))) (lv' := [(8, .int (v8 + (1 : Int32))), (0, .ref (w.1 45)), (1, .int v1), (2, .int v2), (3, .int v3), (4, .int v4), (5, .int v5), (6, .int x6_170), (7, .int x7_170)]) hx hb dX6_miss_170 hl (k := 8) rfl rfl (by decide) rfl (fun ls hl => ?_)
        refine lv_goto (tgt := 60) hx hb dX6_miss_173 (by decide) ?_
        exact ih x6_170 x7_170 (v8 + (1 : Int32)) G_170 _ _ _ h hw (lv_sub hl [1, 2, 3, 4, 5, 6, 7, 8, 0] rfl)
set_option maxHeartbeats 4000000 in
set_option maxRecDepth 100000 in
theorem lX6_miss_44 {p : Program} {l : Launch} {e : Env} {s : State} {m : MethodId} {args : Array Value} {below : List Frame} {meth : Method} {c : Code} {Q : State → Prop} {w : WE} {cs : List Nat} {A : Nat → Prop} {H0 : Heap} (C : CallFix p m c cX6_miss 11 s args wsX6_miss RX6) (hK : KW w s) (hcs : ∀ c, c < 56 → c ∈ cs) (v1 : Int32) (v2 : Int32) (v3 : Int32) (v4 : Int32) (B : BS) {K183 : Int32 → Int32 → GS → Prop} {K203 : GS → Prop} (k183 : ∀ (y5 : Int32) (y6 : Int32) (G : GS) (H : Heap) (locs : List Loc) (ls : Array Slot), K183 y5 y6 G → WO w cs A H0 G B H locs → lv_has ls 11 [(0, .ref (w.1 45)), (1, .int v1), (5, .int y5), (6, .int y6)] → W p l e (rmW 4) s m args below meth c H locs 0 0 Q (F0 m 183 ls [])) (k203 : ∀ (G : GS) (H : Heap) (locs : List Loc) (ls : Array Slot), K203 G → WO w cs A H0 G B H locs → lv_has ls 11 [] → W p l e (rmW 4) s m args below meth c H locs 0 0 Q (F0 m 203 ls [])) : ∀ (n : Nat) (v5 : Int32) (G : GS) (H : Heap) (locs : List Loc) (ls : Array Slot), wlX6_miss_44 K183 K203 v1 v2 v3 v4 n v5 G → WO w cs A H0 G B H locs → lv_has ls 11 [(0, .ref (w.1 45)), (1, .int v1), (2, .int v2), (3, .int v3), (4, .int v4), (5, .int v5)] → W p l e (rmW 4) s m args below meth c H locs 0 0 Q (F0 m 44 ls []) := by
  have hx := C.1
  have hb := C.2.1
  have hown := C.2.2.2.1
  have hta := fun w h => C.2.2.2.2 w (List.mem_cons_of_mem _ h)
  intro n
  induction n with
  | zero => intro v5 G H locs ls h hw hl; exact False.elim h
  | succ n ih =>
    intro v5 G H locs ls h hw hl
    refine lv_iload hx hb dX6_miss_44 (lv_at hl 5 rfl) ?_
    refine lv_iload_n hx hb dX6_miss_46 rfl (lv_at hl 3 rfl) ?_
    refine lv_icmp_gt (tgt := 203) hx hb dX6_miss_47 (by decide) (fun c5 => ?_) (fun c5 => ?_)
    · have h := h.1 c5
      exact k203 G _ _ _ h hw (lv_sub hl [] rfl)
    · have h := h.2 c5
      refine lv_bipush (v := 99) hx hb dX6_miss_50 (by decide) ?_
      refine lv_istore (lv' := [(6, .int (99 : Int32)), (0, .ref (w.1 45)), (1, .int v1), (2, .int v2), (3, .int v3), (4, .int v4), (5, .int v5)]) hx hb dX6_miss_52 hl (by decide) rfl (fun ls hl => ?_)
      refine lv_iconst (v := 0) hx hb dX6_miss_54 (by decide) ?_
      refine lv_istore (lv' := [(7, .int (0 : Int32)), (6, .int (99 : Int32)), (0, .ref (w.1 45)), (1, .int v1), (2, .int v2), (3, .int v3), (4, .int v4), (5, .int v5)]) hx hb dX6_miss_55 hl (by decide) rfl (fun ls hl => ?_)
      refine lv_iconst (v := 0) hx hb dX6_miss_57 (by decide) ?_
      refine lv_istore (lv' := [(8, .int (0 : Int32)), (7, .int (0 : Int32)), (6, .int (99 : Int32)), (0, .ref (w.1 45)), (1, .int v1), (2, .int v2), (3, .int v3), (4, .int v4), (5, .int v5)]) hx hb dX6_miss_58 hl (by decide) rfl (fun ls hl => ?_)
      obtain ⟨n60, h⟩ := h
      refine lX6_miss_60 C hK hcs v1 v2 v3 v4 v5 B (K176 := _) ?_ n60 (99 : Int32) (0 : Int32) (0 : Int32) G _ _ _ h hw (lv_sub hl [3, 4, 5, 6, 7, 8, 2, 1, 0] rfl)
      · intro x6_176 G_176 H locs ls h hw hl
        refine lv_iload hx hb dX6_miss_176 (lv_at hl 6 rfl) ?_
        refine lv_bipush (v := 99) hx hb dX6_miss_178 (by decide) ?_
        refine lv_icmp_ge (tgt := 197) hx hb dX6_miss_180 (by decide) (fun c15 => ?_) (fun c15 => ?_)
        · have h := h.1 c15
          refine lv_iinc (v := (v5 + (1 : Int32))) (lv' := [(5, .int (v5 + (1 : Int32))), (0, .ref (w.1 45)), (1, .int v1), (2, .int v2), (3, .int v3), (4, .int v4), (6, .int x6_176)]) hx hb dX6_miss_197 hl (k := 5) rfl rfl (by decide) rfl (fun ls hl => ?_)
          refine lv_goto (tgt := 44) hx hb dX6_miss_200 (by decide) ?_
          exact ih (v5 + (1 : Int32)) G_176 _ _ _ h hw (lv_sub hl [1, 2, 3, 4, 5, 0] rfl)
        · have h := h.2 c15
          exact k183 v5 x6_176 G_176 _ _ _ h hw (lv_sub hl [0, 1, 5, 6] rfl)
set_option maxHeartbeats 4000000 in
set_option maxRecDepth 100000 in
theorem mX6_miss (l : Launch) (w : WE) (cs : List Nat) (hcs : ∀ c, c < 56 → c ∈ cs) (sz : Nat) (G : GS) (B : BS) (v1 : Int32) (v2 : Int32) (v3 : Int32) (v4 : Int32) (P : Int32 → GS → Prop) (h : wX6_miss v1 v2 v3 v4 G P) : Met l yX6_miss wsX6_miss (rmW 4) (PcW w cs sz G B [.ref (w.1 45), .int v1, .int v2, .int v3, .int v4]) (QI w cs sz (fun r G1 B1 => P r G1 ∧ B = B1)) 0 0 (AA w cs sz) := by
  refine metW (own := RX6) [.ref (w.1 45), .int v1, .int v2, .int v3, .int v4] (by decide +kernel) rfl rfl (Nat.le_of_ble_eq_true rfl) ?_
  intro p e s m below meth c ls hsz C hr hK hw hl
  subst hsz
  have hx := C.1
  have hb := C.2.1
  have hown := C.2.2.2.1
  have hta := fun w h => C.2.2.2.2 w (List.mem_cons_of_mem _ h)
  have hl : lv_has ls 11 [(0, .ref (w.1 45)), (1, .int v1), (2, .int v2), (3, .int v3), (4, .int v4)] := hl
  refine lv_iload_n hx hb dX6_miss_0 rfl (lv_at hl 1 rfl) ?_
  refine q_calli hw (va_runS (As := [.int v1]) (rest := []) C (mX6_isSix l w cs _ G B v1 _ h) (va_cwS 1 hta (gSw kw_330 kw_331 kw_17 kw_329) rfl rfl rfl (by decide +kernel) ⟨Nat.le_of_ble_eq_true rfl, Nat.le_of_ble_eq_true rfl⟩) (preS hK hw _) rfl rfl hl.1 rfl (lv_room (Nat.le_of_ble_eq_true rfl)) dX6_miss_1 ⟨Nat.le_refl 0, Nat.le_refl 0⟩) (fun r1 G1 B1 H locs h hw => ?_)
  obtain ⟨h, e1, e2⟩ := h; subst e1; subst e2
  refine lv_if_eq (tgt := 39) hx hb dX6_miss_4 (by decide) (fun c1 => ?_) (fun c1 => ?_)
  · have h := h.1 c1
    refine lv_iconst (v := -1) hx hb dX6_miss_39 (by decide) ?_
    exact q_reti hx hb hr hw ⟨h, rfl⟩ dX6_miss_40
  · have h := h.2 c1
    refine lv_iload_n hx hb dX6_miss_7 rfl (lv_at hl 2 rfl) ?_
    refine q_calli hw (va_runS (As := [.int v2]) (rest := []) C (mX6_isSix l w cs _ G B v2 _ h) (va_cwS 1 hta (gSw kw_330 kw_331 kw_17 kw_329) rfl rfl rfl (by decide +kernel) ⟨Nat.le_of_ble_eq_true rfl, Nat.le_of_ble_eq_true rfl⟩) (preS hK hw _) rfl rfl hl.1 rfl (lv_room (Nat.le_of_ble_eq_true rfl)) dX6_miss_8 ⟨Nat.le_refl 0, Nat.le_refl 0⟩) (fun r8 G8 B8 H locs h hw => ?_)
    obtain ⟨h, e1, e2⟩ := h; subst e1; subst e2
    refine lv_if_eq (tgt := 39) hx hb dX6_miss_11 (by decide) (fun c2 => ?_) (fun c2 => ?_)
    · have h := h.1 c2
      refine lv_iconst (v := -1) hx hb dX6_miss_39 (by decide) ?_
      exact q_reti hx hb hr hw ⟨h, rfl⟩ dX6_miss_40
    · have h := h.2 c2
      refine lv_iload_n hx hb dX6_miss_14 rfl (lv_at hl 3 rfl) ?_
      refine lv_i2l hx hb dX6_miss_15 rfl ?_
      refine lv_lconst (v := 0) hx hb dX6_miss_16 (by decide) ?_
      refine lv_ldc2 hx hb hown (hta _ kw_352) dX6_miss_17 ?_
      refine q_calli hw (va_runS (As := [.long v3.toInt64, .long (0 : Int64), .long (3 : Int64)]) (rest := []) C (mX6_in l w cs _ G B v3.toInt64 (0 : Int64) (3 : Int64) _ h) (va_cwS 3 hta (gSw kw_15 kw_16 kw_17 kw_14) rfl rfl rfl (by decide +kernel) ⟨Nat.le_of_ble_eq_true rfl, Nat.le_of_ble_eq_true rfl⟩) (preS hK hw _) rfl rfl hl.1 rfl (lv_room (Nat.le_of_ble_eq_true rfl)) dX6_miss_20 ⟨Nat.le_refl 0, Nat.le_refl 0⟩) (fun r20 G20 B20 H locs h hw => ?_)
      obtain ⟨h, e1, e2⟩ := h; subst e1; subst e2
      refine lv_if_eq (tgt := 39) hx hb dX6_miss_23 (by decide) (fun c3 => ?_) (fun c3 => ?_)
      · have h := h.1 c3
        refine lv_iconst (v := -1) hx hb dX6_miss_39 (by decide) ?_
        exact q_reti hx hb hr hw ⟨h, rfl⟩ dX6_miss_40
      · have h := h.2 c3
        refine lv_iload hx hb dX6_miss_26 (lv_at hl 4 rfl) ?_
        refine lv_i2l hx hb dX6_miss_28 rfl ?_
        refine lv_lconst (v := 0) hx hb dX6_miss_29 (by decide) ?_
        refine lv_ldc2 hx hb hown (hta _ kw_352) dX6_miss_30 ?_
        refine q_calli hw (va_runS (As := [.long v4.toInt64, .long (0 : Int64), .long (3 : Int64)]) (rest := []) C (mX6_in l w cs _ G B v4.toInt64 (0 : Int64) (3 : Int64) _ h) (va_cwS 3 hta (gSw kw_15 kw_16 kw_17 kw_14) rfl rfl rfl (by decide +kernel) ⟨Nat.le_of_ble_eq_true rfl, Nat.le_of_ble_eq_true rfl⟩) (preS hK hw _) rfl rfl hl.1 rfl (lv_room (Nat.le_of_ble_eq_true rfl)) dX6_miss_33 ⟨Nat.le_refl 0, Nat.le_refl 0⟩) (fun r33 G33 B33 H locs h hw => ?_)
        obtain ⟨h, e1, e2⟩ := h; subst e1; subst e2
        refine lv_if_ne (tgt := 41) hx hb dX6_miss_36 (by decide) (fun c4 => ?_) (fun c4 => ?_)
        · have h := h.1 c4
          refine lv_iconst (v := 0) hx hb dX6_miss_41 (by decide) ?_
          refine lv_istore (lv' := [(5, .int (0 : Int32)), (0, .ref (w.1 45)), (1, .int v1), (2, .int v2), (3, .int v3), (4, .int v4)]) hx hb dX6_miss_42 hl (by decide) rfl (fun ls hl => ?_)
          obtain ⟨n44, h⟩ := h
          refine lX6_miss_44 C hK hcs v1 v2 v3 v4 B (K183 := _) (K203 := _) ?_ ?_ n44 (0 : Int32) G _ _ _ h hw (lv_sub hl [1, 2, 3, 4, 5, 0] rfl)
          · intro x5_183 x6_183 G_183 H locs ls h hw hl
            refine lv_aload_n hx hb dX6_miss_183 rfl (lv_at hl 0 rfl) ?_
            refine lv_iload_n hx hb dX6_miss_184 rfl (lv_at hl 1 rfl) ?_
            refine q_callv hw (va_runV (As := [.int v1]) (rest := []) C (mX6_keeps l w cs (fun c h => hcs c (by omega)) _ G_183 B v1 _ h) (cwV 1 hta (gVw kw_349 kw_350 kw_351 kw_17 kw_348) rfl rfl rfl (by decide +kernel) ⟨Nat.le_of_ble_eq_true rfl, Nat.le_of_ble_eq_true rfl⟩) (preV hK hw 45 (hcs _ (by omega)) (by unfold isB; omega) rfl rfl _) rfl rfl hl.1 rfl (lv_room (Nat.le_of_ble_eq_true rfl)) dX6_miss_185 ⟨Nat.le_refl 0, Nat.le_refl 0⟩) (fun G185 B185 H locs h hw => ?_)
            obtain ⟨h, e2⟩ := h; subst e2
            refine lv_iload hx hb dX6_miss_188 (lv_at hl 2 rfl) ?_
            refine lv_bipush (v := 100) hx hb dX6_miss_190 (by decide) ?_
            refine lv_iload hx hb dX6_miss_192 (lv_at hl 3 rfl) ?_
            refine lv_imul hx hb dX6_miss_194 ?_
            refine lv_iadd hx hb dX6_miss_195 ?_
            exact q_reti hx hb hr hw ⟨h, rfl⟩ dX6_miss_196
          · intro G_203 H locs ls h hw hl
            refine lv_bipush (v := -2) hx hb dX6_miss_203 (by decide) ?_
            exact q_reti hx hb hr hw ⟨h, rfl⟩ dX6_miss_205
        · have h := h.2 c4
          refine lv_iconst (v := -1) hx hb dX6_miss_39 (by decide) ?_
          exact q_reti hx hb hr hw ⟨h, rfl⟩ dX6_miss_40
def wlX6_without_5 (K57 : Int32 → Prop) (v1 : Int32) (v2 : Int32) (G : GS) : Nat → Int32 → Int32 → Prop
  | 0, _, _ => False
  | n5 + 1, v3, v4 => (((G 45 1) ≤ v4 → K57 v3) ∧ (¬ (G 45 1) ≤ v4 → (vp_in v4 6 ∧ (vp_in (((12 : Int32) * v4) + v1) 72 ∧ (wX6_by ((G 55 (cl v4)) - (v2 * (G 46 (cl (((12 : Int32) * v4) + v1))))) G (fun r38 => ((¬ r38 = 0 → (∀ x50 : Int32, x50 = (v3 + (1 : Int32)) → wlX6_without_5 K57 v1 v2 G n5 x50 (v4 + (1 : Int32)))) ∧ (r38 = 0 → (∀ x50 : Int32, x50 = (v3 + (0 : Int32)) → wlX6_without_5 K57 v1 v2 G n5 x50 (v4 + (1 : Int32)))))))))))
def wX6_without (v1 : Int32) (v2 : Int32) (G : GS) (P : Int32 → Prop) : Prop := (∃ z5 : Nat, wlX6_without_5 (fun x3_57 => P x3_57) v1 v2 G z5 (0 : Int32) (0 : Int32))
set_option maxHeartbeats 4000000 in
set_option maxRecDepth 100000 in
theorem lX6_without_5 {p : Program} {l : Launch} {e : Env} {s : State} {m : MethodId} {args : Array Value} {below : List Frame} {meth : Method} {c : Code} {Q : State → Prop} {w : WE} {cs : List Nat} {A : Nat → Prop} {H0 : Heap} (C : CallFix p m c cX6_without 5 s args wsX6_without RX6) (hK : KW w s) (hcs : ∀ c, c < 56 → c ∈ cs) (v1 : Int32) (v2 : Int32) (G : GS) (B : BS) {K57 : Int32 → Prop} (k57 : ∀ (y3 : Int32) (H : Heap) (locs : List Loc) (ls : Array Slot), K57 y3 → WO w cs A H0 G B H locs → lv_has ls 5 [(3, .int y3)] → W p l e (rmW 1) s m args below meth c H locs 0 0 Q (F0 m 57 ls [])) : ∀ (n : Nat) (v3 : Int32) (v4 : Int32) (H : Heap) (locs : List Loc) (ls : Array Slot), wlX6_without_5 K57 v1 v2 G n v3 v4 → WO w cs A H0 G B H locs → lv_has ls 5 [(0, .ref (w.1 45)), (1, .int v1), (2, .int v2), (3, .int v3), (4, .int v4)] → W p l e (rmW 1) s m args below meth c H locs 0 0 Q (F0 m 5 ls []) := by
  have hx := C.1
  have hb := C.2.1
  have hown := C.2.2.2.1
  have hta := fun w h => C.2.2.2.2 w (List.mem_cons_of_mem _ h)
  intro n
  induction n with
  | zero => intro v3 v4 H locs ls h hw hl; exact False.elim h
  | succ n ih =>
    intro v3 v4 H locs ls h hw hl
    refine lv_iload hx hb dX6_without_5 (lv_at hl 4 rfl) ?_
    refine lv_aload_n hx hb dX6_without_7 rfl (lv_at hl 0 rfl) ?_
    refine q_get (v := .int (G 45 1)) (C := RX6) (T := TX6) (N := 17) (ci := 6) hx hb hta kw_X6 hown hK hw 45 (hcs _ (by omega)) (by unfold isB; omega) rfl rfl 1 (by decide) (hta _ kw_284) rfl rfl dX6_without_8 ?_
    refine lv_icmp_ge (tgt := 57) hx hb dX6_without_11 (by decide) (fun c1 => ?_) (fun c1 => ?_)
    · have h := h.1 c1
      exact k57 v3 _ _ _ h hw (lv_sub hl [3] rfl)
    · have h := h.2 c1
      refine lv_iload_n hx hb dX6_without_14 rfl (lv_at hl 3 rfl) ?_
      refine lv_aload_n hx hb dX6_without_15 rfl (lv_at hl 0 rfl) ?_
      refine lv_aload_n hx hb dX6_without_16 rfl (lv_at hl 0 rfl) ?_
      refine q_get (v := .ref (w.1 55)) (C := RX6) (T := TX6) (N := 17) (ci := 6) hx hb hta kw_X6 hown hK hw 45 (hcs _ (by omega)) (by unfold isB; omega) rfl rfl 16 (by decide) (hta _ kw_361) rfl rfl dX6_without_17 ?_
      refine lv_iload hx hb dX6_without_20 (lv_at hl 4 rfl) ?_
      obtain ⟨hin2, h⟩ := h
      refine q_iald (n := 6) hx hb hK hw (hcs _ (by omega)) (by unfold isI; omega) rfl hin2 dX6_without_22 ?_
      refine lv_iload_n hx hb dX6_without_23 rfl (lv_at hl 2 rfl) ?_
      refine lv_aload_n hx hb dX6_without_24 rfl (lv_at hl 0 rfl) ?_
      refine q_get (v := .ref (w.1 46)) (C := RX6) (T := TX6) (N := 17) (ci := 6) hx hb hta kw_X6 hown hK hw 45 (hcs _ (by omega)) (by unfold isB; omega) rfl rfl 3 (by decide) (hta _ kw_286) rfl rfl dX6_without_25 ?_
      refine lv_bipush (v := 12) hx hb dX6_without_28 (by decide) ?_
      refine lv_iload hx hb dX6_without_30 (lv_at hl 4 rfl) ?_
      refine lv_imul hx hb dX6_without_32 ?_
      refine lv_iload_n hx hb dX6_without_33 rfl (lv_at hl 1 rfl) ?_
      refine lv_iadd hx hb dX6_without_34 ?_
      obtain ⟨hin3, h⟩ := h
      refine q_iald (n := 72) hx hb hK hw (hcs _ (by omega)) (by unfold isI; omega) rfl hin3 dX6_without_35 ?_
      refine lv_imul hx hb dX6_without_36 ?_
      refine lv_isub hx hb dX6_without_37 ?_
      refine q_calli hw (va_runV (As := [.int ((G 55 (cl v4)) - (v2 * (G 46 (cl (((12 : Int32) * v4) + v1)))))]) (rest := [.int v3]) C (mX6_by l w cs (fun c h => hcs c (by omega)) _ G B ((G 55 (cl v4)) - (v2 * (G 46 (cl (((12 : Int32) * v4) + v1))))) _ h) (cwV 1 hta (gVw kw_294 kw_295 kw_296 kw_17 kw_293) rfl rfl rfl (by decide +kernel) ⟨Nat.le_of_ble_eq_true rfl, Nat.le_of_ble_eq_true rfl⟩) (preV hK hw 45 (hcs _ (by omega)) (by unfold isB; omega) rfl rfl _) rfl rfl hl.1 rfl (lv_room (Nat.le_of_ble_eq_true rfl)) dX6_without_38 ⟨Nat.le_refl 0, Nat.le_refl 0⟩) (fun r38 G38 B38 H locs h hw => ?_)
      obtain ⟨h, e1, e2⟩ := h; subst e1; subst e2
      refine lv_if_ne (tgt := 48) hx hb dX6_without_41 (by decide) (fun c4 => ?_) (fun c4 => ?_)
      · have h := h.1 c4
        refine lv_iconst (v := 1) hx hb dX6_without_48 (by decide) ?_
        refine lv_iadd hx hb dX6_without_49 ?_
        refine lv_topi (fun x50 ex50 => ?_)
        have h := h x50 ex50
        refine lv_istore_n (lv' := [(3, .int x50), (0, .ref (w.1 45)), (1, .int v1), (2, .int v2), (4, .int v4)]) hx hb dX6_without_50 rfl hl (by decide) rfl (fun ls hl => ?_)
        refine lv_iinc (v := (v4 + (1 : Int32))) (lv' := [(4, .int (v4 + (1 : Int32))), (3, .int x50), (0, .ref (w.1 45)), (1, .int v1), (2, .int v2)]) hx hb dX6_without_51 hl (k := 4) rfl rfl (by decide) rfl (fun ls hl => ?_)
        refine lv_goto (tgt := 5) hx hb dX6_without_54 (by decide) ?_
        exact ih x50 (v4 + (1 : Int32)) _ _ _ h hw (lv_sub hl [2, 3, 4, 1, 0] rfl)
      · have h := h.2 c4
        refine lv_iconst (v := 0) hx hb dX6_without_44 (by decide) ?_
        refine lv_goto (tgt := 49) hx hb dX6_without_45 (by decide) ?_
        refine lv_iadd hx hb dX6_without_49 ?_
        refine lv_topi (fun x50 ex50 => ?_)
        have h := h x50 ex50
        refine lv_istore_n (lv' := [(3, .int x50), (0, .ref (w.1 45)), (1, .int v1), (2, .int v2), (4, .int v4)]) hx hb dX6_without_50 rfl hl (by decide) rfl (fun ls hl => ?_)
        refine lv_iinc (v := (v4 + (1 : Int32))) (lv' := [(4, .int (v4 + (1 : Int32))), (3, .int x50), (0, .ref (w.1 45)), (1, .int v1), (2, .int v2)]) hx hb dX6_without_51 hl (k := 4) rfl rfl (by decide) rfl (fun ls hl => ?_)
        refine lv_goto (tgt := 5) hx hb dX6_without_54 (by decide) ?_
        exact ih x50 (v4 + (1 : Int32)) _ _ _ h hw (lv_sub hl [2, 3, 4, 1, 0] rfl)
set_option maxHeartbeats 4000000 in
set_option maxRecDepth 100000 in
theorem mX6_without (l : Launch) (w : WE) (cs : List Nat) (hcs : ∀ c, c < 56 → c ∈ cs) (sz : Nat) (G : GS) (B : BS) (v1 : Int32) (v2 : Int32) (P : Int32 → Prop) (h : wX6_without v1 v2 G P) : Met l yX6_without wsX6_without (rmW 1) (PcW w cs sz G B [.ref (w.1 45), .int v1, .int v2]) (QI w cs sz (fun r G1 B1 => P r ∧ G = G1 ∧ B = B1)) 0 0 (AA w cs sz) := by
  refine metW (own := RX6) [.ref (w.1 45), .int v1, .int v2] (by decide +kernel) rfl rfl (Nat.le_of_ble_eq_true rfl) ?_
  intro p e s m below meth c ls hsz C hr hK hw hl
  subst hsz
  have hx := C.1
  have hb := C.2.1
  have hown := C.2.2.2.1
  have hta := fun w h => C.2.2.2.2 w (List.mem_cons_of_mem _ h)
  have hl : lv_has ls 5 [(0, .ref (w.1 45)), (1, .int v1), (2, .int v2)] := hl
  refine lv_iconst (v := 0) hx hb dX6_without_0 (by decide) ?_
  refine lv_istore_n (lv' := [(3, .int (0 : Int32)), (0, .ref (w.1 45)), (1, .int v1), (2, .int v2)]) hx hb dX6_without_1 rfl hl (by decide) rfl (fun ls hl => ?_)
  refine lv_iconst (v := 0) hx hb dX6_without_2 (by decide) ?_
  refine lv_istore (lv' := [(4, .int (0 : Int32)), (3, .int (0 : Int32)), (0, .ref (w.1 45)), (1, .int v1), (2, .int v2)]) hx hb dX6_without_3 hl (by decide) rfl (fun ls hl => ?_)
  obtain ⟨n5, h⟩ := h
  refine lX6_without_5 C hK hcs v1 v2 G B (K57 := _) ?_ n5 (0 : Int32) (0 : Int32) _ _ _ h hw (lv_sub hl [2, 3, 4, 1, 0] rfl)
  · intro x3_57 H locs ls h hw hl
    refine lv_iload_n hx hb dX6_without_57 rfl (lv_at hl 0 rfl) ?_
    exact q_reti hx hb hr hw ⟨h, rfl, rfl⟩ dX6_without_58
def wlX6_greedy_31 (K65 : GS → Prop) (v1 : Int32) (v2 : Int32) (v3 : Int32) : Nat → Int32 → GS → Prop
  | 0, _, _ => False
  | n31 + 1, v4, G => (((G 45 1) ≤ v4 → K65 G) ∧ (¬ (G 45 1) ≤ v4 → (vp_in (((6 : Int32) * v2) + v4) 36 ∧ (vp_in v4 6 ∧ (∀ G58 : GS, G58 = wr G 55 (cl v4) (G 48 (cl (((6 : Int32) * v2) + v4))) → wlX6_greedy_31 K65 v1 v2 v3 n31 (v4 + (1 : Int32)) G58)))))
def wlX6_greedy_86 (K112 : GS → Prop) (v1 : Int32) (v3 : Int32) (v4 : Int32) (v5 : Int32) : Nat → Int32 → GS → Prop
  | 0, _, _ => False
  | n86 + 1, v6, G => (((12 : Int32) ≤ v6 → K112 G) ∧ (¬ (12 : Int32) ≤ v6 → (vp_in (((12 : Int32) * v1) + v6) 72 ∧ (∀ G105 : GS, G105 = wr G 47 (cl (((12 : Int32) * v1) + v6)) (0 : Int32) → wlX6_greedy_86 K112 v1 v3 v4 v5 n86 (v6 + (1 : Int32)) G105))))
def wlX6_greedy_159 (K215 : Int32 → Int32 → Int32 → Prop) (v1 : Int32) (v3 : Int32) (v4 : Int32) (v5 : Int32) (v7 : Int32) (v11 : Int32) (G : GS) : Nat → Int32 → Int32 → Int32 → Int32 → Prop
  | 0, _, _, _, _ => False
  | n159 + 1, v8, v9, v10, v12 => (((G 45 0) ≤ v12 → K215 v8 v9 v10) ∧ (¬ (G 45 0) ≤ v12 → ((¬ ((v5 >>> (v11 &&& (31 : Int32))) &&& (1 : Int32)) = 0 → K215 v8 v9 v10) ∧ (((v5 >>> (v11 &&& (31 : Int32))) &&& (1 : Int32)) = 0 → (wX6_without v11 v12 G (fun r183 => ((v10 ≤ r183 → wlX6_greedy_159 K215 v1 v3 v4 v5 v7 v11 G n159 v8 v9 v10 (v12 + (1 : Int32))) ∧ (¬ v10 ≤ r183 → (wX6_without v11 v12 G (fun r196 => wlX6_greedy_159 K215 v1 v3 v4 v5 v7 v11 G n159 v11 v12 r196 (v12 + (1 : Int32))))))))))))
def wlX6_greedy_147 (K221 : Int32 → Int32 → Int32 → Prop) (v1 : Int32) (v3 : Int32) (v4 : Int32) (v5 : Int32) (v7 : Int32) (G : GS) : Nat → Int32 → Int32 → Int32 → Int32 → Prop
  | 0, _, _, _, _ => False
  | n147 + 1, v8, v9, v10, v11 => (((G 45 2) ≤ v11 → K221 v8 v9 v10) ∧ (¬ (G 45 2) ≤ v11 → (∃ z159 : Nat, wlX6_greedy_159 (fun x8_215 x9_215 x10_215 => wlX6_greedy_147 K221 v1 v3 v4 v5 v7 G n147 x8_215 x9_215 x10_215 (v11 + (1 : Int32))) v1 v3 v4 v5 v7 v11 G z159 v8 v9 v10 (0 : Int32))))
def wlX6_greedy_241 (K291 : GS → Prop) (v1 : Int32) (v3 : Int32) (v5 : Int32) (v6 : Int32) (v7 : Int32) (v8 : Int32) (v9 : Int32) (v10 : Int32) : Nat → Int32 → GS → Prop
  | 0, _, _ => False
  | n241 + 1, v11, G => (((G 45 1) ≤ v11 → K291 G) ∧ (¬ (G 45 1) ≤ v11 → (vp_in v11 6 ∧ (vp_in (((12 : Int32) * v11) + v8) 72 ∧ (wX6_by ((G 55 (cl v11)) - (v9 * (G 46 (cl (((12 : Int32) * v11) + v8))))) G (fun r281 => (vp_in v11 6 ∧ (∀ G284 : GS, G284 = wr G 55 (cl v11) r281 → wlX6_greedy_241 K291 v1 v3 v5 v6 v7 v8 v9 v10 n241 (v11 + (1 : Int32)) G284))))))))
def wlX6_greedy_118 (K324 : Int32 → GS → Prop) (v1 : Int32) (v3 : Int32) : Nat → Int32 → Int32 → Int32 → Int32 → GS → Prop
  | 0, _, _, _, _, _ => False
  | n118 + 1, v4, v5, v6, v7, G => ((v3 ≤ v7 → K324 v4 G) ∧ (¬ v3 ≤ v7 → ((v4 ≤ 0 → K324 v4 G) ∧ (¬ v4 ≤ 0 → ((v6 = 0 → K324 v4 G) ∧ (¬ v6 = 0 → (∃ z147 : Nat, wlX6_greedy_147 (fun x8_221 x9_221 x10_221 => ((x8_221 < 0 → (((0 : Int32) = 0 → wlX6_greedy_118 K324 v1 v3 n118 v4 v5 (0 : Int32) (v7 + (1 : Int32)) G) ∧ (¬ (0 : Int32) = 0 → (∃ z241 : Nat, wlX6_greedy_241 (fun G_291 => (vp_in (((12 : Int32) * v1) + x8_221) 72 ∧ (∀ G304 : GS, G304 = wr G_291 47 (cl (((12 : Int32) * v1) + x8_221)) x9_221 → (∀ x312 : Int32, x312 = (v5 ||| ((1 : Int32) <<< (x8_221 &&& (31 : Int32)))) → wlX6_greedy_118 K324 v1 v3 n118 x10_221 x312 (0 : Int32) (v7 + (1 : Int32)) G304)))) v1 v3 v5 (0 : Int32) v7 x8_221 x9_221 x10_221 z241 (0 : Int32) G)))) ∧ (¬ x8_221 < 0 → (((1 : Int32) = 0 → wlX6_greedy_118 K324 v1 v3 n118 v4 v5 (1 : Int32) (v7 + (1 : Int32)) G) ∧ (¬ (1 : Int32) = 0 → (∃ z241 : Nat, wlX6_greedy_241 (fun G_291 => (vp_in (((12 : Int32) * v1) + x8_221) 72 ∧ (∀ G304 : GS, G304 = wr G_291 47 (cl (((12 : Int32) * v1) + x8_221)) x9_221 → (∀ x312 : Int32, x312 = (v5 ||| ((1 : Int32) <<< (x8_221 &&& (31 : Int32)))) → wlX6_greedy_118 K324 v1 v3 n118 x10_221 x312 (1 : Int32) (v7 + (1 : Int32)) G304)))) v1 v3 v5 (1 : Int32) v7 x8_221 x9_221 x10_221 z241 (0 : Int32) G)))))) v1 v3 v4 v5 v7 G z147 (-1 : Int32) (0 : Int32) v4 (0 : Int32))))))))
def wX6_greedy (v1 : Int32) (v2 : Int32) (v3 : Int32) (G : GS) (P : Int32 → GS → Prop) : Prop := (wX6_isSix v1 (fun r1 => ((r1 = 0 → P (-1 : Int32) G) ∧ (¬ r1 = 0 → (wX6_isSix v2 (fun r8 => ((r8 = 0 → P (-1 : Int32) G) ∧ (¬ r8 = 0 → (wX6_in v3.toInt64 (0 : Int64) (8 : Int64) (fun r20 => ((¬ r20 = 0 → (∃ z31 : Nat, wlX6_greedy_31 (fun G_65 => (wX6_weight 55 (0 : Int32) (G_65 45 1) G_65 (fun r75 => (∃ z86 : Nat, wlX6_greedy_86 (fun G_112 => (∃ z118 : Nat, wlX6_greedy_118 (fun x4_324 G_324 => ((¬ x4_324 = 0 → (((0 : Int32) = 0 → P (x4_324 + (0 : Int32)) G_324) ∧ (¬ (0 : Int32) = 0 → P (x4_324 + (100 : Int32)) G_324))) ∧ (x4_324 = 0 → (wX6_weight 47 ((12 : Int32) * v1) (G_324 45 2) G_324 (fun r343 => (wX6_spark G_324 (fun r348 G348 => ((r348 ≤ ((2 : Int32) * r343) → (((0 : Int32) = 0 → P (x4_324 + (0 : Int32)) G348) ∧ (¬ (0 : Int32) = 0 → P (x4_324 + (100 : Int32)) G348))) ∧ (¬ r348 ≤ ((2 : Int32) * r343) → (((1 : Int32) = 0 → P (x4_324 + (0 : Int32)) G348) ∧ (¬ (1 : Int32) = 0 → P (x4_324 + (100 : Int32)) G348))))))))))) v1 v3 z118 r75 (0 : Int32) (1 : Int32) (0 : Int32) G_112)) v1 v3 r75 (0 : Int32) z86 (0 : Int32) G_65)))) v1 v2 v3 z31 (0 : Int32) G)) ∧ (r20 = 0 → P (-1 : Int32) G))))))))))))
set_option maxHeartbeats 4000000 in
set_option maxRecDepth 100000 in
theorem lX6_greedy_31 {p : Program} {l : Launch} {e : Env} {s : State} {m : MethodId} {args : Array Value} {below : List Frame} {meth : Method} {c : Code} {Q : State → Prop} {w : WE} {cs : List Nat} {A : Nat → Prop} {H0 : Heap} (C : CallFix p m c cX6_greedy 13 s args wsX6_greedy RX6) (hK : KW w s) (hcs : ∀ c, c < 56 → c ∈ cs) (v1 : Int32) (v2 : Int32) (v3 : Int32) (B : BS) {K65 : GS → Prop} (k65 : ∀ (G : GS) (H : Heap) (locs : List Loc) (ls : Array Slot), K65 G → WO w cs A H0 G B H locs → lv_has ls 13 [(0, .ref (w.1 45)), (1, .int v1), (3, .int v3)] → W p l e (rmW 5) s m args below meth c H locs 0 0 Q (F0 m 65 ls [])) : ∀ (n : Nat) (v4 : Int32) (G : GS) (H : Heap) (locs : List Loc) (ls : Array Slot), wlX6_greedy_31 K65 v1 v2 v3 n v4 G → WO w cs A H0 G B H locs → lv_has ls 13 [(0, .ref (w.1 45)), (1, .int v1), (2, .int v2), (3, .int v3), (4, .int v4)] → W p l e (rmW 5) s m args below meth c H locs 0 0 Q (F0 m 31 ls []) := by
  have hx := C.1
  have hb := C.2.1
  have hown := C.2.2.2.1
  have hta := fun w h => C.2.2.2.2 w (List.mem_cons_of_mem _ h)
  intro n
  induction n with
  | zero => intro v4 G H locs ls h hw hl; exact False.elim h
  | succ n ih =>
    intro v4 G H locs ls h hw hl
    refine lv_iload hx hb dX6_greedy_31 (lv_at hl 4 rfl) ?_
    refine lv_aload_n hx hb dX6_greedy_33 rfl (lv_at hl 0 rfl) ?_
    refine q_get (v := .int (G 45 1)) (C := RX6) (T := TX6) (N := 17) (ci := 6) hx hb hta kw_X6 hown hK hw 45 (hcs _ (by omega)) (by unfold isB; omega) rfl rfl 1 (by decide) (hta _ kw_284) rfl rfl dX6_greedy_34 ?_
    refine lv_icmp_ge (tgt := 65) hx hb dX6_greedy_37 (by decide) (fun c4 => ?_) (fun c4 => ?_)
    · have h := h.1 c4
      exact k65 G _ _ _ h hw (lv_sub hl [0, 1, 3] rfl)
    · have h := h.2 c4
      refine lv_aload_n hx hb dX6_greedy_40 rfl (lv_at hl 0 rfl) ?_
      refine q_get (v := .ref (w.1 55)) (C := RX6) (T := TX6) (N := 17) (ci := 6) hx hb hta kw_X6 hown hK hw 45 (hcs _ (by omega)) (by unfold isB; omega) rfl rfl 16 (by decide) (hta _ kw_361) rfl rfl dX6_greedy_41 ?_
      refine lv_iload hx hb dX6_greedy_44 (lv_at hl 4 rfl) ?_
      refine lv_aload_n hx hb dX6_greedy_46 rfl (lv_at hl 0 rfl) ?_
      refine q_get (v := .ref (w.1 48)) (C := RX6) (T := TX6) (N := 17) (ci := 6) hx hb hta kw_X6 hown hK hw 45 (hcs _ (by omega)) (by unfold isB; omega) rfl rfl 5 (by decide) (hta _ kw_288) rfl rfl dX6_greedy_47 ?_
      refine lv_bipush (v := 6) hx hb dX6_greedy_50 (by decide) ?_
      refine lv_iload_n hx hb dX6_greedy_52 rfl (lv_at hl 2 rfl) ?_
      refine lv_imul hx hb dX6_greedy_53 ?_
      refine lv_iload hx hb dX6_greedy_54 (lv_at hl 4 rfl) ?_
      refine lv_iadd hx hb dX6_greedy_56 ?_
      obtain ⟨hin5, h⟩ := h
      refine q_iald (n := 36) hx hb hK hw (hcs _ (by omega)) (by unfold isI; omega) rfl hin5 dX6_greedy_57 ?_
      obtain ⟨hin6, h⟩ := h
      refine q_iast (n := 6) hx hb hK hw (hcs _ (by omega)) (by unfold isI; omega) rfl hin6 dX6_greedy_58 (fun H locs G58 eG58 hw => ?_)
      have h := h G58 eG58
      refine lv_iinc (v := (v4 + (1 : Int32))) (lv' := [(4, .int (v4 + (1 : Int32))), (0, .ref (w.1 45)), (1, .int v1), (2, .int v2), (3, .int v3)]) hx hb dX6_greedy_59 hl (k := 4) rfl rfl (by decide) rfl (fun ls hl => ?_)
      refine lv_goto (tgt := 31) hx hb dX6_greedy_62 (by decide) ?_
      exact ih (v4 + (1 : Int32)) G58 _ _ _ h hw (lv_sub hl [1, 2, 3, 4, 0] rfl)
set_option maxHeartbeats 4000000 in
set_option maxRecDepth 100000 in
theorem lX6_greedy_86 {p : Program} {l : Launch} {e : Env} {s : State} {m : MethodId} {args : Array Value} {below : List Frame} {meth : Method} {c : Code} {Q : State → Prop} {w : WE} {cs : List Nat} {A : Nat → Prop} {H0 : Heap} (C : CallFix p m c cX6_greedy 13 s args wsX6_greedy RX6) (hK : KW w s) (hcs : ∀ c, c < 56 → c ∈ cs) (v1 : Int32) (v3 : Int32) (v4 : Int32) (v5 : Int32) (B : BS) {K112 : GS → Prop} (k112 : ∀ (G : GS) (H : Heap) (locs : List Loc) (ls : Array Slot), K112 G → WO w cs A H0 G B H locs → lv_has ls 13 [(0, .ref (w.1 45)), (1, .int v1), (3, .int v3), (4, .int v4), (5, .int v5)] → W p l e (rmW 5) s m args below meth c H locs 0 0 Q (F0 m 112 ls [])) : ∀ (n : Nat) (v6 : Int32) (G : GS) (H : Heap) (locs : List Loc) (ls : Array Slot), wlX6_greedy_86 K112 v1 v3 v4 v5 n v6 G → WO w cs A H0 G B H locs → lv_has ls 13 [(0, .ref (w.1 45)), (1, .int v1), (3, .int v3), (4, .int v4), (5, .int v5), (6, .int v6)] → W p l e (rmW 5) s m args below meth c H locs 0 0 Q (F0 m 86 ls []) := by
  have hx := C.1
  have hb := C.2.1
  have hown := C.2.2.2.1
  have hta := fun w h => C.2.2.2.2 w (List.mem_cons_of_mem _ h)
  intro n
  induction n with
  | zero => intro v6 G H locs ls h hw hl; exact False.elim h
  | succ n ih =>
    intro v6 G H locs ls h hw hl
    refine lv_iload hx hb dX6_greedy_86 (lv_at hl 5 rfl) ?_
    refine lv_bipush (v := 12) hx hb dX6_greedy_88 (by decide) ?_
    refine lv_icmp_ge (tgt := 112) hx hb dX6_greedy_90 (by decide) (fun c7 => ?_) (fun c7 => ?_)
    · have h := h.1 c7
      exact k112 G _ _ _ h hw (lv_sub hl [0, 1, 2, 3, 4] rfl)
    · have h := h.2 c7
      refine lv_aload_n hx hb dX6_greedy_93 rfl (lv_at hl 0 rfl) ?_
      refine q_get (v := .ref (w.1 47)) (C := RX6) (T := TX6) (N := 17) (ci := 6) hx hb hta kw_X6 hown hK hw 45 (hcs _ (by omega)) (by unfold isB; omega) rfl rfl 4 (by decide) (hta _ kw_287) rfl rfl dX6_greedy_94 ?_
      refine lv_bipush (v := 12) hx hb dX6_greedy_97 (by decide) ?_
      refine lv_iload_n hx hb dX6_greedy_99 rfl (lv_at hl 1 rfl) ?_
      refine lv_imul hx hb dX6_greedy_100 ?_
      refine lv_iload hx hb dX6_greedy_101 (lv_at hl 5 rfl) ?_
      refine lv_iadd hx hb dX6_greedy_103 ?_
      refine lv_iconst (v := 0) hx hb dX6_greedy_104 (by decide) ?_
      obtain ⟨hin8, h⟩ := h
      refine q_iast (n := 72) hx hb hK hw (hcs _ (by omega)) (by unfold isI; omega) rfl hin8 dX6_greedy_105 (fun H locs G105 eG105 hw => ?_)
      have h := h G105 eG105
      refine lv_iinc (v := (v6 + (1 : Int32))) (lv' := [(6, .int (v6 + (1 : Int32))), (0, .ref (w.1 45)), (1, .int v1), (3, .int v3), (4, .int v4), (5, .int v5)]) hx hb dX6_greedy_106 hl (k := 5) rfl rfl (by decide) rfl (fun ls hl => ?_)
      refine lv_goto (tgt := 86) hx hb dX6_greedy_109 (by decide) ?_
      exact ih (v6 + (1 : Int32)) G105 _ _ _ h hw (lv_sub hl [1, 2, 3, 4, 5, 0] rfl)
set_option maxHeartbeats 4000000 in
set_option maxRecDepth 100000 in
theorem lX6_greedy_159 {p : Program} {l : Launch} {e : Env} {s : State} {m : MethodId} {args : Array Value} {below : List Frame} {meth : Method} {c : Code} {Q : State → Prop} {w : WE} {cs : List Nat} {A : Nat → Prop} {H0 : Heap} (C : CallFix p m c cX6_greedy 13 s args wsX6_greedy RX6) (hK : KW w s) (hcs : ∀ c, c < 56 → c ∈ cs) (v1 : Int32) (v3 : Int32) (v4 : Int32) (v5 : Int32) (v7 : Int32) (v11 : Int32) (G : GS) (B : BS) {K215 : Int32 → Int32 → Int32 → Prop} (k215 : ∀ (y8 : Int32) (y9 : Int32) (y10 : Int32) (H : Heap) (locs : List Loc) (ls : Array Slot), K215 y8 y9 y10 → WO w cs A H0 G B H locs → lv_has ls 13 [(0, .ref (w.1 45)), (1, .int v1), (3, .int v3), (4, .int v4), (5, .int v5), (7, .int v7), (8, .int y8), (9, .int y9), (10, .int y10), (11, .int v11)] → W p l e (rmW 5) s m args below meth c H locs 0 0 Q (F0 m 215 ls [])) : ∀ (n : Nat) (v8 : Int32) (v9 : Int32) (v10 : Int32) (v12 : Int32) (H : Heap) (locs : List Loc) (ls : Array Slot), wlX6_greedy_159 K215 v1 v3 v4 v5 v7 v11 G n v8 v9 v10 v12 → WO w cs A H0 G B H locs → lv_has ls 13 [(0, .ref (w.1 45)), (1, .int v1), (3, .int v3), (4, .int v4), (5, .int v5), (7, .int v7), (8, .int v8), (9, .int v9), (10, .int v10), (11, .int v11), (12, .int v12)] → W p l e (rmW 5) s m args below meth c H locs 0 0 Q (F0 m 159 ls []) := by
  have hx := C.1
  have hb := C.2.1
  have hown := C.2.2.2.1
  have hta := fun w h => C.2.2.2.2 w (List.mem_cons_of_mem _ h)
  intro n
  induction n with
  | zero => intro v8 v9 v10 v12 H locs ls h hw hl; exact False.elim h
  | succ n ih =>
    intro v8 v9 v10 v12 H locs ls h hw hl
    refine lv_iload hx hb dX6_greedy_159 (lv_at hl 10 rfl) ?_
    refine lv_aload_n hx hb dX6_greedy_161 rfl (lv_at hl 0 rfl) ?_
    refine q_get (v := .int (G 45 0)) (C := RX6) (T := TX6) (N := 17) (ci := 6) hx hb hta kw_X6 hown hK hw 45 (hcs _ (by omega)) (by unfold isB; omega) rfl rfl 0 (by decide) (hta _ kw_278) rfl rfl dX6_greedy_162 ?_
    refine lv_icmp_ge (tgt := 215) hx hb dX6_greedy_165 (by decide) (fun c13 => ?_) (fun c13 => ?_)
    · have h := h.1 c13
      exact k215 v8 v9 v10 _ _ _ h hw (lv_sub hl [0, 1, 2, 3, 4, 5, 6, 7, 8, 9] rfl)
    · have h := h.2 c13
      refine lv_iload hx hb dX6_greedy_168 (lv_at hl 4 rfl) ?_
      refine lv_iload hx hb dX6_greedy_170 (lv_at hl 9 rfl) ?_
      refine lv_ishr hx hb dX6_greedy_172 ?_
      refine lv_iconst (v := 1) hx hb dX6_greedy_173 (by decide) ?_
      refine lv_iand hx hb dX6_greedy_174 ?_
      refine lv_if_ne (tgt := 215) hx hb dX6_greedy_175 (by decide) (fun c14 => ?_) (fun c14 => ?_)
      · have h := h.1 c14
        exact k215 v8 v9 v10 _ _ _ h hw (lv_sub hl [0, 1, 2, 3, 4, 5, 6, 7, 8, 9] rfl)
      · have h := h.2 c14
        refine lv_aload_n hx hb dX6_greedy_178 rfl (lv_at hl 0 rfl) ?_
        refine lv_iload hx hb dX6_greedy_179 (lv_at hl 9 rfl) ?_
        refine lv_iload hx hb dX6_greedy_181 (lv_at hl 10 rfl) ?_
        refine q_calli hw (va_runV (As := [.int v11, .int v12]) (rest := []) C (mX6_without l w cs (fun c h => hcs c (by omega)) _ G B v11 v12 _ h) (cwV 2 hta (gVw kw_364 kw_365 kw_366 kw_17 kw_363) rfl rfl rfl (by decide +kernel) ⟨Nat.le_of_ble_eq_true rfl, Nat.le_of_ble_eq_true rfl⟩) (preV hK hw 45 (hcs _ (by omega)) (by unfold isB; omega) rfl rfl _) rfl rfl hl.1 rfl (lv_room (Nat.le_of_ble_eq_true rfl)) dX6_greedy_183 ⟨Nat.le_refl 0, Nat.le_refl 0⟩) (fun r183 G183 B183 H locs h hw => ?_)
        obtain ⟨h, e1, e2⟩ := h; subst e1; subst e2
        refine lv_iload hx hb dX6_greedy_186 (lv_at hl 8 rfl) ?_
        refine lv_icmp_ge (tgt := 209) hx hb dX6_greedy_188 (by decide) (fun c15 => ?_) (fun c15 => ?_)
        · have h := h.1 c15
          refine lv_iinc (v := (v12 + (1 : Int32))) (lv' := [(12, .int (v12 + (1 : Int32))), (0, .ref (w.1 45)), (1, .int v1), (3, .int v3), (4, .int v4), (5, .int v5), (7, .int v7), (8, .int v8), (9, .int v9), (10, .int v10), (11, .int v11)]) hx hb dX6_greedy_209 hl (k := 10) rfl rfl (by decide) rfl (fun ls hl => ?_)
          refine lv_goto (tgt := 159) hx hb dX6_greedy_212 (by decide) ?_
          exact ih v8 v9 v10 (v12 + (1 : Int32)) _ _ _ h hw (lv_sub hl [1, 2, 3, 4, 5, 6, 7, 8, 9, 10, 0] rfl)
        · have h := h.2 c15
          refine lv_aload_n hx hb dX6_greedy_191 rfl (lv_at hl 0 rfl) ?_
          refine lv_iload hx hb dX6_greedy_192 (lv_at hl 9 rfl) ?_
          refine lv_iload hx hb dX6_greedy_194 (lv_at hl 10 rfl) ?_
          refine q_calli hw (va_runV (As := [.int v11, .int v12]) (rest := []) C (mX6_without l w cs (fun c h => hcs c (by omega)) _ G B v11 v12 _ h) (cwV 2 hta (gVw kw_364 kw_365 kw_366 kw_17 kw_363) rfl rfl rfl (by decide +kernel) ⟨Nat.le_of_ble_eq_true rfl, Nat.le_of_ble_eq_true rfl⟩) (preV hK hw 45 (hcs _ (by omega)) (by unfold isB; omega) rfl rfl _) rfl rfl hl.1 rfl (lv_room (Nat.le_of_ble_eq_true rfl)) dX6_greedy_196 ⟨Nat.le_refl 0, Nat.le_refl 0⟩) (fun r196 G196 B196 H locs h hw => ?_)
          obtain ⟨h, e1, e2⟩ := h; subst e1; subst e2
          refine lv_istore (lv' := [(10, .int r196), (0, .ref (w.1 45)), (1, .int v1), (3, .int v3), (4, .int v4), (5, .int v5), (7, .int v7), (8, .int v8), (9, .int v9), (11, .int v11), (12, .int v12)]) hx hb dX6_greedy_199 hl (by decide) rfl (fun ls hl => ?_)
          refine lv_iload hx hb dX6_greedy_201 (lv_at hl 9 rfl) ?_
          refine lv_istore (lv' := [(8, .int v11), (10, .int r196), (0, .ref (w.1 45)), (1, .int v1), (3, .int v3), (4, .int v4), (5, .int v5), (7, .int v7), (9, .int v9), (11, .int v11), (12, .int v12)]) hx hb dX6_greedy_203 hl (by decide) rfl (fun ls hl => ?_)
          refine lv_iload hx hb dX6_greedy_205 (lv_at hl 10 rfl) ?_
          refine lv_istore (lv' := [(9, .int v12), (8, .int v11), (10, .int r196), (0, .ref (w.1 45)), (1, .int v1), (3, .int v3), (4, .int v4), (5, .int v5), (7, .int v7), (11, .int v11), (12, .int v12)]) hx hb dX6_greedy_207 hl (by decide) rfl (fun ls hl => ?_)
          refine lv_iinc (v := (v12 + (1 : Int32))) (lv' := [(12, .int (v12 + (1 : Int32))), (9, .int v12), (8, .int v11), (10, .int r196), (0, .ref (w.1 45)), (1, .int v1), (3, .int v3), (4, .int v4), (5, .int v5), (7, .int v7), (11, .int v11)]) hx hb dX6_greedy_209 hl (k := 10) rfl rfl (by decide) rfl (fun ls hl => ?_)
          refine lv_goto (tgt := 159) hx hb dX6_greedy_212 (by decide) ?_
          exact ih v11 v12 r196 (v12 + (1 : Int32)) _ _ _ h hw (lv_sub hl [4, 5, 6, 7, 8, 9, 2, 1, 3, 10, 0] rfl)
set_option maxHeartbeats 4000000 in
set_option maxRecDepth 100000 in
theorem lX6_greedy_147 {p : Program} {l : Launch} {e : Env} {s : State} {m : MethodId} {args : Array Value} {below : List Frame} {meth : Method} {c : Code} {Q : State → Prop} {w : WE} {cs : List Nat} {A : Nat → Prop} {H0 : Heap} (C : CallFix p m c cX6_greedy 13 s args wsX6_greedy RX6) (hK : KW w s) (hcs : ∀ c, c < 56 → c ∈ cs) (v1 : Int32) (v3 : Int32) (v4 : Int32) (v5 : Int32) (v7 : Int32) (G : GS) (B : BS) {K221 : Int32 → Int32 → Int32 → Prop} (k221 : ∀ (y8 : Int32) (y9 : Int32) (y10 : Int32) (H : Heap) (locs : List Loc) (ls : Array Slot), K221 y8 y9 y10 → WO w cs A H0 G B H locs → lv_has ls 13 [(0, .ref (w.1 45)), (1, .int v1), (3, .int v3), (4, .int v4), (5, .int v5), (7, .int v7), (8, .int y8), (9, .int y9), (10, .int y10)] → W p l e (rmW 5) s m args below meth c H locs 0 0 Q (F0 m 221 ls [])) : ∀ (n : Nat) (v8 : Int32) (v9 : Int32) (v10 : Int32) (v11 : Int32) (H : Heap) (locs : List Loc) (ls : Array Slot), wlX6_greedy_147 K221 v1 v3 v4 v5 v7 G n v8 v9 v10 v11 → WO w cs A H0 G B H locs → lv_has ls 13 [(0, .ref (w.1 45)), (1, .int v1), (3, .int v3), (4, .int v4), (5, .int v5), (7, .int v7), (8, .int v8), (9, .int v9), (10, .int v10), (11, .int v11)] → W p l e (rmW 5) s m args below meth c H locs 0 0 Q (F0 m 147 ls []) := by
  have hx := C.1
  have hb := C.2.1
  have hown := C.2.2.2.1
  have hta := fun w h => C.2.2.2.2 w (List.mem_cons_of_mem _ h)
  intro n
  induction n with
  | zero => intro v8 v9 v10 v11 H locs ls h hw hl; exact False.elim h
  | succ n ih =>
    intro v8 v9 v10 v11 H locs ls h hw hl
    refine lv_iload hx hb dX6_greedy_147 (lv_at hl 9 rfl) ?_
    refine lv_aload_n hx hb dX6_greedy_149 rfl (lv_at hl 0 rfl) ?_
    refine q_get (v := .int (G 45 2)) (C := RX6) (T := TX6) (N := 17) (ci := 6) hx hb hta kw_X6 hown hK hw 45 (hcs _ (by omega)) (by unfold isB; omega) rfl rfl 2 (by decide) (hta _ kw_285) rfl rfl dX6_greedy_150 ?_
    refine lv_icmp_ge (tgt := 221) hx hb dX6_greedy_153 (by decide) (fun c12 => ?_) (fun c12 => ?_)
    · have h := h.1 c12
      exact k221 v8 v9 v10 _ _ _ h hw (lv_sub hl [0, 1, 2, 3, 4, 5, 6, 7, 8] rfl)
    · have h := h.2 c12
      refine lv_iconst (v := 0) hx hb dX6_greedy_156 (by decide) ?_
      refine lv_istore (lv' := [(12, .int (0 : Int32)), (0, .ref (w.1 45)), (1, .int v1), (3, .int v3), (4, .int v4), (5, .int v5), (7, .int v7), (8, .int v8), (9, .int v9), (10, .int v10), (11, .int v11)]) hx hb dX6_greedy_157 hl (by decide) rfl (fun ls hl => ?_)
      obtain ⟨n159, h⟩ := h
      refine lX6_greedy_159 C hK hcs v1 v3 v4 v5 v7 v11 G B (K215 := _) ?_ n159 v8 v9 v10 (0 : Int32) _ _ _ h hw (lv_sub hl [1, 2, 3, 4, 5, 6, 7, 8, 9, 10, 0] rfl)
      · intro x8_215 x9_215 x10_215 H locs ls h hw hl
        refine lv_iinc (v := (v11 + (1 : Int32))) (lv' := [(11, .int (v11 + (1 : Int32))), (0, .ref (w.1 45)), (1, .int v1), (3, .int v3), (4, .int v4), (5, .int v5), (7, .int v7), (8, .int x8_215), (9, .int x9_215), (10, .int x10_215)]) hx hb dX6_greedy_215 hl (k := 9) rfl rfl (by decide) rfl (fun ls hl => ?_)
        refine lv_goto (tgt := 147) hx hb dX6_greedy_218 (by decide) ?_
        exact ih x8_215 x9_215 x10_215 (v11 + (1 : Int32)) _ _ _ h hw (lv_sub hl [1, 2, 3, 4, 5, 6, 7, 8, 9, 0] rfl)
set_option maxHeartbeats 4000000 in
set_option maxRecDepth 100000 in
theorem lX6_greedy_241 {p : Program} {l : Launch} {e : Env} {s : State} {m : MethodId} {args : Array Value} {below : List Frame} {meth : Method} {c : Code} {Q : State → Prop} {w : WE} {cs : List Nat} {A : Nat → Prop} {H0 : Heap} (C : CallFix p m c cX6_greedy 13 s args wsX6_greedy RX6) (hK : KW w s) (hcs : ∀ c, c < 56 → c ∈ cs) (v1 : Int32) (v3 : Int32) (v5 : Int32) (v6 : Int32) (v7 : Int32) (v8 : Int32) (v9 : Int32) (v10 : Int32) (B : BS) {K291 : GS → Prop} (k291 : ∀ (G : GS) (H : Heap) (locs : List Loc) (ls : Array Slot), K291 G → WO w cs A H0 G B H locs → lv_has ls 13 [(0, .ref (w.1 45)), (1, .int v1), (3, .int v3), (5, .int v5), (6, .int v6), (7, .int v7), (8, .int v8), (9, .int v9), (10, .int v10)] → W p l e (rmW 5) s m args below meth c H locs 0 0 Q (F0 m 291 ls [])) : ∀ (n : Nat) (v11 : Int32) (G : GS) (H : Heap) (locs : List Loc) (ls : Array Slot), wlX6_greedy_241 K291 v1 v3 v5 v6 v7 v8 v9 v10 n v11 G → WO w cs A H0 G B H locs → lv_has ls 13 [(0, .ref (w.1 45)), (1, .int v1), (3, .int v3), (5, .int v5), (6, .int v6), (7, .int v7), (8, .int v8), (9, .int v9), (10, .int v10), (11, .int v11)] → W p l e (rmW 5) s m args below meth c H locs 0 0 Q (F0 m 241 ls []) := by
  have hx := C.1
  have hb := C.2.1
  have hown := C.2.2.2.1
  have hta := fun w h => C.2.2.2.2 w (List.mem_cons_of_mem _ h)
  intro n
  induction n with
  | zero => intro v11 G H locs ls h hw hl; exact False.elim h
  | succ n ih =>
    intro v11 G H locs ls h hw hl
    refine lv_iload hx hb dX6_greedy_241 (lv_at hl 9 rfl) ?_
    refine lv_aload_n hx hb dX6_greedy_243 rfl (lv_at hl 0 rfl) ?_
    refine q_get (v := .int (G 45 1)) (C := RX6) (T := TX6) (N := 17) (ci := 6) hx hb hta kw_X6 hown hK hw 45 (hcs _ (by omega)) (by unfold isB; omega) rfl rfl 1 (by decide) (hta _ kw_284) rfl rfl dX6_greedy_244 ?_
    refine lv_icmp_ge (tgt := 291) hx hb dX6_greedy_247 (by decide) (fun c18 => ?_) (fun c18 => ?_)
    · have h := h.1 c18
      exact k291 G _ _ _ h hw (lv_sub hl [0, 1, 2, 3, 4, 5, 6, 7, 8] rfl)
    · have h := h.2 c18
      refine lv_aload_n hx hb dX6_greedy_250 rfl (lv_at hl 0 rfl) ?_
      refine q_get (v := .ref (w.1 55)) (C := RX6) (T := TX6) (N := 17) (ci := 6) hx hb hta kw_X6 hown hK hw 45 (hcs _ (by omega)) (by unfold isB; omega) rfl rfl 16 (by decide) (hta _ kw_361) rfl rfl dX6_greedy_251 ?_
      refine lv_iload hx hb dX6_greedy_254 (lv_at hl 9 rfl) ?_
      refine lv_aload_n hx hb dX6_greedy_256 rfl (lv_at hl 0 rfl) ?_
      refine lv_aload_n hx hb dX6_greedy_257 rfl (lv_at hl 0 rfl) ?_
      refine q_get (v := .ref (w.1 55)) (C := RX6) (T := TX6) (N := 17) (ci := 6) hx hb hta kw_X6 hown hK hw 45 (hcs _ (by omega)) (by unfold isB; omega) rfl rfl 16 (by decide) (hta _ kw_361) rfl rfl dX6_greedy_258 ?_
      refine lv_iload hx hb dX6_greedy_261 (lv_at hl 9 rfl) ?_
      obtain ⟨hin19, h⟩ := h
      refine q_iald (n := 6) hx hb hK hw (hcs _ (by omega)) (by unfold isI; omega) rfl hin19 dX6_greedy_263 ?_
      refine lv_iload hx hb dX6_greedy_264 (lv_at hl 7 rfl) ?_
      refine lv_aload_n hx hb dX6_greedy_266 rfl (lv_at hl 0 rfl) ?_
      refine q_get (v := .ref (w.1 46)) (C := RX6) (T := TX6) (N := 17) (ci := 6) hx hb hta kw_X6 hown hK hw 45 (hcs _ (by omega)) (by unfold isB; omega) rfl rfl 3 (by decide) (hta _ kw_286) rfl rfl dX6_greedy_267 ?_
      refine lv_bipush (v := 12) hx hb dX6_greedy_270 (by decide) ?_
      refine lv_iload hx hb dX6_greedy_272 (lv_at hl 9 rfl) ?_
      refine lv_imul hx hb dX6_greedy_274 ?_
      refine lv_iload hx hb dX6_greedy_275 (lv_at hl 6 rfl) ?_
      refine lv_iadd hx hb dX6_greedy_277 ?_
      obtain ⟨hin20, h⟩ := h
      refine q_iald (n := 72) hx hb hK hw (hcs _ (by omega)) (by unfold isI; omega) rfl hin20 dX6_greedy_278 ?_
      refine lv_imul hx hb dX6_greedy_279 ?_
      refine lv_isub hx hb dX6_greedy_280 ?_
      refine q_calli hw (va_runV (As := [.int ((G 55 (cl v11)) - (v9 * (G 46 (cl (((12 : Int32) * v11) + v8)))))]) (rest := [.int v11, .ref (w.1 55)]) C (mX6_by l w cs (fun c h => hcs c (by omega)) _ G B ((G 55 (cl v11)) - (v9 * (G 46 (cl (((12 : Int32) * v11) + v8))))) _ h) (cwV 1 hta (gVw kw_294 kw_295 kw_296 kw_17 kw_293) rfl rfl rfl (by decide +kernel) ⟨Nat.le_of_ble_eq_true rfl, Nat.le_of_ble_eq_true rfl⟩) (preV hK hw 45 (hcs _ (by omega)) (by unfold isB; omega) rfl rfl _) rfl rfl hl.1 rfl (lv_room (Nat.le_of_ble_eq_true rfl)) dX6_greedy_281 ⟨Nat.le_refl 0, Nat.le_refl 0⟩) (fun r281 G281 B281 H locs h hw => ?_)
      obtain ⟨h, e1, e2⟩ := h; subst e1; subst e2
      obtain ⟨hin21, h⟩ := h
      refine q_iast (n := 6) hx hb hK hw (hcs _ (by omega)) (by unfold isI; omega) rfl hin21 dX6_greedy_284 (fun H locs G284 eG284 hw => ?_)
      have h := h G284 eG284
      refine lv_iinc (v := (v11 + (1 : Int32))) (lv' := [(11, .int (v11 + (1 : Int32))), (0, .ref (w.1 45)), (1, .int v1), (3, .int v3), (5, .int v5), (6, .int v6), (7, .int v7), (8, .int v8), (9, .int v9), (10, .int v10)]) hx hb dX6_greedy_285 hl (k := 9) rfl rfl (by decide) rfl (fun ls hl => ?_)
      refine lv_goto (tgt := 241) hx hb dX6_greedy_288 (by decide) ?_
      exact ih (v11 + (1 : Int32)) G284 _ _ _ h hw (lv_sub hl [1, 2, 3, 4, 5, 6, 7, 8, 9, 0] rfl)
set_option maxHeartbeats 4000000 in
set_option maxRecDepth 100000 in
theorem lX6_greedy_118 {p : Program} {l : Launch} {e : Env} {s : State} {m : MethodId} {args : Array Value} {below : List Frame} {meth : Method} {c : Code} {Q : State → Prop} {w : WE} {cs : List Nat} {A : Nat → Prop} {H0 : Heap} (C : CallFix p m c cX6_greedy 13 s args wsX6_greedy RX6) (hK : KW w s) (hcs : ∀ c, c < 56 → c ∈ cs) (v1 : Int32) (v3 : Int32) (B : BS) {K324 : Int32 → GS → Prop} (k324 : ∀ (y4 : Int32) (G : GS) (H : Heap) (locs : List Loc) (ls : Array Slot), K324 y4 G → WO w cs A H0 G B H locs → lv_has ls 13 [(0, .ref (w.1 45)), (1, .int v1), (4, .int y4)] → W p l e (rmW 5) s m args below meth c H locs 0 0 Q (F0 m 324 ls [])) : ∀ (n : Nat) (v4 : Int32) (v5 : Int32) (v6 : Int32) (v7 : Int32) (G : GS) (H : Heap) (locs : List Loc) (ls : Array Slot), wlX6_greedy_118 K324 v1 v3 n v4 v5 v6 v7 G → WO w cs A H0 G B H locs → lv_has ls 13 [(0, .ref (w.1 45)), (1, .int v1), (3, .int v3), (4, .int v4), (5, .int v5), (6, .int v6), (7, .int v7)] → W p l e (rmW 5) s m args below meth c H locs 0 0 Q (F0 m 118 ls []) := by
  have hx := C.1
  have hb := C.2.1
  have hown := C.2.2.2.1
  have hta := fun w h => C.2.2.2.2 w (List.mem_cons_of_mem _ h)
  intro n
  induction n with
  | zero => intro v4 v5 v6 v7 G H locs ls h hw hl; exact False.elim h
  | succ n ih =>
    intro v4 v5 v6 v7 G H locs ls h hw hl
    refine lv_iload hx hb dX6_greedy_118 (lv_at hl 6 rfl) ?_
    refine lv_iload_n hx hb dX6_greedy_120 rfl (lv_at hl 2 rfl) ?_
    refine lv_icmp_ge (tgt := 324) hx hb dX6_greedy_121 (by decide) (fun c9 => ?_) (fun c9 => ?_)
    · have h := h.1 c9
      exact k324 v4 G _ _ _ h hw (lv_sub hl [0, 1, 3] rfl)
    · have h := h.2 c9
      refine lv_iload hx hb dX6_greedy_124 (lv_at hl 3 rfl) ?_
      refine lv_if_le (tgt := 324) hx hb dX6_greedy_126 (by decide) (fun c10 => ?_) (fun c10 => ?_)
      · have h := h.1 c10
        exact k324 v4 G _ _ _ h hw (lv_sub hl [0, 1, 3] rfl)
      · have h := h.2 c10
        refine lv_iload hx hb dX6_greedy_129 (lv_at hl 5 rfl) ?_
        refine lv_if_eq (tgt := 324) hx hb dX6_greedy_131 (by decide) (fun c11 => ?_) (fun c11 => ?_)
        · have h := h.1 c11
          exact k324 v4 G _ _ _ h hw (lv_sub hl [0, 1, 3] rfl)
        · have h := h.2 c11
          refine lv_iconst (v := -1) hx hb dX6_greedy_134 (by decide) ?_
          refine lv_istore (lv' := [(8, .int (-1 : Int32)), (0, .ref (w.1 45)), (1, .int v1), (3, .int v3), (4, .int v4), (5, .int v5), (6, .int v6), (7, .int v7)]) hx hb dX6_greedy_135 hl (by decide) rfl (fun ls hl => ?_)
          refine lv_iconst (v := 0) hx hb dX6_greedy_137 (by decide) ?_
          refine lv_istore (lv' := [(9, .int (0 : Int32)), (8, .int (-1 : Int32)), (0, .ref (w.1 45)), (1, .int v1), (3, .int v3), (4, .int v4), (5, .int v5), (6, .int v6), (7, .int v7)]) hx hb dX6_greedy_138 hl (by decide) rfl (fun ls hl => ?_)
          refine lv_iload hx hb dX6_greedy_140 (lv_at hl 5 rfl) ?_
          refine lv_istore (lv' := [(10, .int v4), (9, .int (0 : Int32)), (8, .int (-1 : Int32)), (0, .ref (w.1 45)), (1, .int v1), (3, .int v3), (4, .int v4), (5, .int v5), (6, .int v6), (7, .int v7)]) hx hb dX6_greedy_142 hl (by decide) rfl (fun ls hl => ?_)
          refine lv_iconst (v := 0) hx hb dX6_greedy_144 (by decide) ?_
          refine lv_istore (lv' := [(11, .int (0 : Int32)), (10, .int v4), (9, .int (0 : Int32)), (8, .int (-1 : Int32)), (0, .ref (w.1 45)), (1, .int v1), (3, .int v3), (4, .int v4), (5, .int v5), (6, .int v6), (7, .int v7)]) hx hb dX6_greedy_145 hl (by decide) rfl (fun ls hl => ?_)
          obtain ⟨n147, h⟩ := h
          refine lX6_greedy_147 C hK hcs v1 v3 v4 v5 v7 G B (K221 := _) ?_ n147 (-1 : Int32) (0 : Int32) v4 (0 : Int32) _ _ _ h hw (lv_sub hl [4, 5, 6, 7, 8, 10, 3, 2, 1, 0] rfl)
          · intro x8_221 x9_221 x10_221 H locs ls h hw hl
            refine lv_iload hx hb dX6_greedy_221 (lv_at hl 6 rfl) ?_
            refine lv_if_lt (tgt := 230) hx hb dX6_greedy_223 (by decide) (fun c16 => ?_) (fun c16 => ?_)
            · have h := h.1 c16
              refine lv_iconst (v := 0) hx hb dX6_greedy_230 (by decide) ?_
              refine lv_istore (lv' := [(6, .int (0 : Int32)), (0, .ref (w.1 45)), (1, .int v1), (3, .int v3), (4, .int v4), (5, .int v5), (7, .int v7), (8, .int x8_221), (9, .int x9_221), (10, .int x10_221)]) hx hb dX6_greedy_231 hl (by decide) rfl (fun ls hl => ?_)
              refine lv_iload hx hb dX6_greedy_233 (lv_at hl 0 rfl) ?_
              refine lv_if_eq (tgt := 318) hx hb dX6_greedy_235 (by decide) (fun c17 => ?_) (fun c17 => ?_)
              · have h := h.1 c17
                refine lv_iinc (v := (v7 + (1 : Int32))) (lv' := [(7, .int (v7 + (1 : Int32))), (6, .int (0 : Int32)), (0, .ref (w.1 45)), (1, .int v1), (3, .int v3), (4, .int v4), (5, .int v5), (8, .int x8_221), (9, .int x9_221), (10, .int x10_221)]) hx hb dX6_greedy_318 hl (k := 6) rfl rfl (by decide) rfl (fun ls hl => ?_)
                refine lv_goto (tgt := 118) hx hb dX6_greedy_321 (by decide) ?_
                exact ih v4 v5 (0 : Int32) (v7 + (1 : Int32)) G _ _ _ h hw (lv_sub hl [2, 3, 4, 5, 6, 1, 0] rfl)
              · have h := h.2 c17
                refine lv_iconst (v := 0) hx hb dX6_greedy_238 (by decide) ?_
                refine lv_istore (lv' := [(11, .int (0 : Int32)), (6, .int (0 : Int32)), (0, .ref (w.1 45)), (1, .int v1), (3, .int v3), (4, .int v4), (5, .int v5), (7, .int v7), (8, .int x8_221), (9, .int x9_221), (10, .int x10_221)]) hx hb dX6_greedy_239 hl (by decide) rfl (fun ls hl => ?_)
                obtain ⟨n241, h⟩ := h
                refine lX6_greedy_241 C hK hcs v1 v3 v5 (0 : Int32) v7 x8_221 x9_221 x10_221 B (K291 := _) ?_ n241 (0 : Int32) G _ _ _ h hw (lv_sub hl [2, 3, 4, 6, 1, 7, 8, 9, 10, 0] rfl)
                · intro G_291 H locs ls h hw hl
                  refine lv_aload_n hx hb dX6_greedy_291 rfl (lv_at hl 0 rfl) ?_
                  refine q_get (v := .ref (w.1 47)) (C := RX6) (T := TX6) (N := 17) (ci := 6) hx hb hta kw_X6 hown hK hw 45 (hcs _ (by omega)) (by unfold isB; omega) rfl rfl 4 (by decide) (hta _ kw_287) rfl rfl dX6_greedy_292 ?_
                  refine lv_bipush (v := 12) hx hb dX6_greedy_295 (by decide) ?_
                  refine lv_iload_n hx hb dX6_greedy_297 rfl (lv_at hl 1 rfl) ?_
                  refine lv_imul hx hb dX6_greedy_298 ?_
                  refine lv_iload hx hb dX6_greedy_299 (lv_at hl 6 rfl) ?_
                  refine lv_iadd hx hb dX6_greedy_301 ?_
                  refine lv_iload hx hb dX6_greedy_302 (lv_at hl 7 rfl) ?_
                  obtain ⟨hin22, h⟩ := h
                  refine q_iast (n := 72) hx hb hK hw (hcs _ (by omega)) (by unfold isI; omega) rfl hin22 dX6_greedy_304 (fun H locs G304 eG304 hw => ?_)
                  have h := h G304 eG304
                  refine lv_iload hx hb dX6_greedy_305 (lv_at hl 3 rfl) ?_
                  refine lv_iconst (v := 1) hx hb dX6_greedy_307 (by decide) ?_
                  refine lv_iload hx hb dX6_greedy_308 (lv_at hl 6 rfl) ?_
                  refine lv_ishl hx hb dX6_greedy_310 ?_
                  refine lv_ior hx hb dX6_greedy_311 ?_
                  refine lv_topi (fun x312 ex312 => ?_)
                  have h := h x312 ex312
                  refine lv_istore (lv' := [(5, .int x312), (0, .ref (w.1 45)), (1, .int v1), (3, .int v3), (6, .int (0 : Int32)), (7, .int v7), (8, .int x8_221), (9, .int x9_221), (10, .int x10_221)]) hx hb dX6_greedy_312 hl (by decide) rfl (fun ls hl => ?_)
                  refine lv_iload hx hb dX6_greedy_314 (lv_at hl 8 rfl) ?_
                  refine lv_istore (lv' := [(4, .int x10_221), (5, .int x312), (0, .ref (w.1 45)), (1, .int v1), (3, .int v3), (6, .int (0 : Int32)), (7, .int v7), (8, .int x8_221), (9, .int x9_221), (10, .int x10_221)]) hx hb dX6_greedy_316 hl (by decide) rfl (fun ls hl => ?_)
                  refine lv_iinc (v := (v7 + (1 : Int32))) (lv' := [(7, .int (v7 + (1 : Int32))), (4, .int x10_221), (5, .int x312), (0, .ref (w.1 45)), (1, .int v1), (3, .int v3), (6, .int (0 : Int32)), (8, .int x8_221), (9, .int x9_221), (10, .int x10_221)]) hx hb dX6_greedy_318 hl (k := 6) rfl rfl (by decide) rfl (fun ls hl => ?_)
                  refine lv_goto (tgt := 118) hx hb dX6_greedy_321 (by decide) ?_
                  exact ih x10_221 x312 (0 : Int32) (v7 + (1 : Int32)) G304 _ _ _ h hw (lv_sub hl [3, 4, 5, 1, 2, 6, 0] rfl)
            · have h := h.2 c16
              refine lv_iconst (v := 1) hx hb dX6_greedy_226 (by decide) ?_
              refine lv_goto (tgt := 231) hx hb dX6_greedy_227 (by decide) ?_
              refine lv_istore (lv' := [(6, .int (1 : Int32)), (0, .ref (w.1 45)), (1, .int v1), (3, .int v3), (4, .int v4), (5, .int v5), (7, .int v7), (8, .int x8_221), (9, .int x9_221), (10, .int x10_221)]) hx hb dX6_greedy_231 hl (by decide) rfl (fun ls hl => ?_)
              refine lv_iload hx hb dX6_greedy_233 (lv_at hl 0 rfl) ?_
              refine lv_if_eq (tgt := 318) hx hb dX6_greedy_235 (by decide) (fun c23 => ?_) (fun c23 => ?_)
              · have h := h.1 c23
                refine lv_iinc (v := (v7 + (1 : Int32))) (lv' := [(7, .int (v7 + (1 : Int32))), (6, .int (1 : Int32)), (0, .ref (w.1 45)), (1, .int v1), (3, .int v3), (4, .int v4), (5, .int v5), (8, .int x8_221), (9, .int x9_221), (10, .int x10_221)]) hx hb dX6_greedy_318 hl (k := 6) rfl rfl (by decide) rfl (fun ls hl => ?_)
                refine lv_goto (tgt := 118) hx hb dX6_greedy_321 (by decide) ?_
                exact ih v4 v5 (1 : Int32) (v7 + (1 : Int32)) G _ _ _ h hw (lv_sub hl [2, 3, 4, 5, 6, 1, 0] rfl)
              · have h := h.2 c23
                refine lv_iconst (v := 0) hx hb dX6_greedy_238 (by decide) ?_
                refine lv_istore (lv' := [(11, .int (0 : Int32)), (6, .int (1 : Int32)), (0, .ref (w.1 45)), (1, .int v1), (3, .int v3), (4, .int v4), (5, .int v5), (7, .int v7), (8, .int x8_221), (9, .int x9_221), (10, .int x10_221)]) hx hb dX6_greedy_239 hl (by decide) rfl (fun ls hl => ?_)
                obtain ⟨n241, h⟩ := h
                refine lX6_greedy_241 C hK hcs v1 v3 v5 (1 : Int32) v7 x8_221 x9_221 x10_221 B (K291 := _) ?_ n241 (0 : Int32) G _ _ _ h hw (lv_sub hl [2, 3, 4, 6, 1, 7, 8, 9, 10, 0] rfl)
                · intro G_291 H locs ls h hw hl
                  refine lv_aload_n hx hb dX6_greedy_291 rfl (lv_at hl 0 rfl) ?_
                  refine q_get (v := .ref (w.1 47)) (C := RX6) (T := TX6) (N := 17) (ci := 6) hx hb hta kw_X6 hown hK hw 45 (hcs _ (by omega)) (by unfold isB; omega) rfl rfl 4 (by decide) (hta _ kw_287) rfl rfl dX6_greedy_292 ?_
                  refine lv_bipush (v := 12) hx hb dX6_greedy_295 (by decide) ?_
                  refine lv_iload_n hx hb dX6_greedy_297 rfl (lv_at hl 1 rfl) ?_
                  refine lv_imul hx hb dX6_greedy_298 ?_
                  refine lv_iload hx hb dX6_greedy_299 (lv_at hl 6 rfl) ?_
                  refine lv_iadd hx hb dX6_greedy_301 ?_
                  refine lv_iload hx hb dX6_greedy_302 (lv_at hl 7 rfl) ?_
                  obtain ⟨hin24, h⟩ := h
                  refine q_iast (n := 72) hx hb hK hw (hcs _ (by omega)) (by unfold isI; omega) rfl hin24 dX6_greedy_304 (fun H locs G304 eG304 hw => ?_)
                  have h := h G304 eG304
                  refine lv_iload hx hb dX6_greedy_305 (lv_at hl 3 rfl) ?_
                  refine lv_iconst (v := 1) hx hb dX6_greedy_307 (by decide) ?_
                  refine lv_iload hx hb dX6_greedy_308 (lv_at hl 6 rfl) ?_
                  refine lv_ishl hx hb dX6_greedy_310 ?_
                  refine lv_ior hx hb dX6_greedy_311 ?_
                  refine lv_topi (fun x312 ex312 => ?_)
                  have h := h x312 ex312
                  refine lv_istore (lv' := [(5, .int x312), (0, .ref (w.1 45)), (1, .int v1), (3, .int v3), (6, .int (1 : Int32)), (7, .int v7), (8, .int x8_221), (9, .int x9_221), (10, .int x10_221)]) hx hb dX6_greedy_312 hl (by decide) rfl (fun ls hl => ?_)
                  refine lv_iload hx hb dX6_greedy_314 (lv_at hl 8 rfl) ?_
                  refine lv_istore (lv' := [(4, .int x10_221), (5, .int x312), (0, .ref (w.1 45)), (1, .int v1), (3, .int v3), (6, .int (1 : Int32)), (7, .int v7), (8, .int x8_221), (9, .int x9_221), (10, .int x10_221)]) hx hb dX6_greedy_316 hl (by decide) rfl (fun ls hl => ?_)
                  refine lv_iinc (v := (v7 + (1 : Int32))) (lv' := [(7, .int (v7 + (1 : Int32))), (4, .int x10_221), (5, .int x312), (0, .ref (w.1 45)), (1, .int v1), (3, .int v3), (6, .int (1 : Int32)), (8, .int x8_221), (9, .int x9_221), (10, .int x10_221)]) hx hb dX6_greedy_318 hl (k := 6) rfl rfl (by decide) rfl (fun ls hl => ?_)
                  refine lv_goto (tgt := 118) hx hb dX6_greedy_321 (by decide) ?_
                  exact ih x10_221 x312 (1 : Int32) (v7 + (1 : Int32)) G304 _ _ _ h hw (lv_sub hl [3, 4, 5, 1, 2, 6, 0] rfl)
set_option maxHeartbeats 4000000 in
set_option maxRecDepth 100000 in
theorem mX6_greedy (l : Launch) (w : WE) (cs : List Nat) (hcs : ∀ c, c < 56 → c ∈ cs) (sz : Nat) (G : GS) (B : BS) (v1 : Int32) (v2 : Int32) (v3 : Int32) (P : Int32 → GS → Prop) (h : wX6_greedy v1 v2 v3 G P) : Met l yX6_greedy wsX6_greedy (rmW 5) (PcW w cs sz G B [.ref (w.1 45), .int v1, .int v2, .int v3]) (QI w cs sz (fun r G1 B1 => P r G1 ∧ B = B1)) 0 0 (AA w cs sz) := by
  refine metW (own := RX6) [.ref (w.1 45), .int v1, .int v2, .int v3] (by decide +kernel) rfl rfl (Nat.le_of_ble_eq_true rfl) ?_
  intro p e s m below meth c ls hsz C hr hK hw hl
  subst hsz
  have hx := C.1
  have hb := C.2.1
  have hown := C.2.2.2.1
  have hta := fun w h => C.2.2.2.2 w (List.mem_cons_of_mem _ h)
  have hl : lv_has ls 13 [(0, .ref (w.1 45)), (1, .int v1), (2, .int v2), (3, .int v3)] := hl
  refine lv_iload_n hx hb dX6_greedy_0 rfl (lv_at hl 1 rfl) ?_
  refine q_calli hw (va_runS (As := [.int v1]) (rest := []) C (mX6_isSix l w cs _ G B v1 _ h) (va_cwS 1 hta (gSw kw_330 kw_331 kw_17 kw_329) rfl rfl rfl (by decide +kernel) ⟨Nat.le_of_ble_eq_true rfl, Nat.le_of_ble_eq_true rfl⟩) (preS hK hw _) rfl rfl hl.1 rfl (lv_room (Nat.le_of_ble_eq_true rfl)) dX6_greedy_1 ⟨Nat.le_refl 0, Nat.le_refl 0⟩) (fun r1 G1 B1 H locs h hw => ?_)
  obtain ⟨h, e1, e2⟩ := h; subst e1; subst e2
  refine lv_if_eq (tgt := 26) hx hb dX6_greedy_4 (by decide) (fun c1 => ?_) (fun c1 => ?_)
  · have h := h.1 c1
    refine lv_iconst (v := -1) hx hb dX6_greedy_26 (by decide) ?_
    exact q_reti hx hb hr hw ⟨h, rfl⟩ dX6_greedy_27
  · have h := h.2 c1
    refine lv_iload_n hx hb dX6_greedy_7 rfl (lv_at hl 2 rfl) ?_
    refine q_calli hw (va_runS (As := [.int v2]) (rest := []) C (mX6_isSix l w cs _ G B v2 _ h) (va_cwS 1 hta (gSw kw_330 kw_331 kw_17 kw_329) rfl rfl rfl (by decide +kernel) ⟨Nat.le_of_ble_eq_true rfl, Nat.le_of_ble_eq_true rfl⟩) (preS hK hw _) rfl rfl hl.1 rfl (lv_room (Nat.le_of_ble_eq_true rfl)) dX6_greedy_8 ⟨Nat.le_refl 0, Nat.le_refl 0⟩) (fun r8 G8 B8 H locs h hw => ?_)
    obtain ⟨h, e1, e2⟩ := h; subst e1; subst e2
    refine lv_if_eq (tgt := 26) hx hb dX6_greedy_11 (by decide) (fun c2 => ?_) (fun c2 => ?_)
    · have h := h.1 c2
      refine lv_iconst (v := -1) hx hb dX6_greedy_26 (by decide) ?_
      exact q_reti hx hb hr hw ⟨h, rfl⟩ dX6_greedy_27
    · have h := h.2 c2
      refine lv_iload_n hx hb dX6_greedy_14 rfl (lv_at hl 3 rfl) ?_
      refine lv_i2l hx hb dX6_greedy_15 rfl ?_
      refine lv_lconst (v := 0) hx hb dX6_greedy_16 (by decide) ?_
      refine lv_ldc2 hx hb hown (hta _ kw_362) dX6_greedy_17 ?_
      refine q_calli hw (va_runS (As := [.long v3.toInt64, .long (0 : Int64), .long (8 : Int64)]) (rest := []) C (mX6_in l w cs _ G B v3.toInt64 (0 : Int64) (8 : Int64) _ h) (va_cwS 3 hta (gSw kw_15 kw_16 kw_17 kw_14) rfl rfl rfl (by decide +kernel) ⟨Nat.le_of_ble_eq_true rfl, Nat.le_of_ble_eq_true rfl⟩) (preS hK hw _) rfl rfl hl.1 rfl (lv_room (Nat.le_of_ble_eq_true rfl)) dX6_greedy_20 ⟨Nat.le_refl 0, Nat.le_refl 0⟩) (fun r20 G20 B20 H locs h hw => ?_)
      obtain ⟨h, e1, e2⟩ := h; subst e1; subst e2
      refine lv_if_ne (tgt := 28) hx hb dX6_greedy_23 (by decide) (fun c3 => ?_) (fun c3 => ?_)
      · have h := h.1 c3
        refine lv_iconst (v := 0) hx hb dX6_greedy_28 (by decide) ?_
        refine lv_istore (lv' := [(4, .int (0 : Int32)), (0, .ref (w.1 45)), (1, .int v1), (2, .int v2), (3, .int v3)]) hx hb dX6_greedy_29 hl (by decide) rfl (fun ls hl => ?_)
        obtain ⟨n31, h⟩ := h
        refine lX6_greedy_31 C hK hcs v1 v2 v3 B (K65 := _) ?_ n31 (0 : Int32) G _ _ _ h hw (lv_sub hl [1, 2, 3, 4, 0] rfl)
        · intro G_65 H locs ls h hw hl
          refine lv_aload_n hx hb dX6_greedy_65 rfl (lv_at hl 0 rfl) ?_
          refine lv_aload_n hx hb dX6_greedy_66 rfl (lv_at hl 0 rfl) ?_
          refine q_get (v := .ref (w.1 55)) (C := RX6) (T := TX6) (N := 17) (ci := 6) hx hb hta kw_X6 hown hK hw 45 (hcs _ (by omega)) (by unfold isB; omega) rfl rfl 16 (by decide) (hta _ kw_361) rfl rfl dX6_greedy_67 ?_
          refine lv_iconst (v := 0) hx hb dX6_greedy_70 (by decide) ?_
          refine lv_aload_n hx hb dX6_greedy_71 rfl (lv_at hl 0 rfl) ?_
          refine q_get (v := .int (G_65 45 1)) (C := RX6) (T := TX6) (N := 17) (ci := 6) hx hb hta kw_X6 hown hK hw 45 (hcs _ (by omega)) (by unfold isB; omega) rfl rfl 1 (by decide) (hta _ kw_284) rfl rfl dX6_greedy_72 ?_
          refine q_calli hw (va_runV (As := [.ref (w.1 55), .int (0 : Int32), .int (G_65 45 1)]) (rest := []) C (mX6_weight l w cs _ G_65 B 55 (by unfold isI; omega) (hcs _ (by omega)) (0 : Int32) (G_65 45 1) _ h) (cwV 3 hta (gVw kw_333 kw_334 kw_335 kw_17 kw_332) rfl rfl rfl (by decide +kernel) ⟨Nat.le_of_ble_eq_true rfl, Nat.le_of_ble_eq_true rfl⟩) (preV hK hw 45 (hcs _ (by omega)) (by unfold isB; omega) rfl rfl _) rfl rfl hl.1 rfl (lv_room (Nat.le_of_ble_eq_true rfl)) dX6_greedy_75 ⟨Nat.le_refl 0, Nat.le_refl 0⟩) (fun r75 G75 B75 H locs h hw => ?_)
          obtain ⟨h, e1, e2⟩ := h; subst e1; subst e2
          refine lv_istore (lv' := [(4, .int r75), (0, .ref (w.1 45)), (1, .int v1), (3, .int v3)]) hx hb dX6_greedy_78 hl (by decide) rfl (fun ls hl => ?_)
          refine lv_iconst (v := 0) hx hb dX6_greedy_80 (by decide) ?_
          refine lv_istore (lv' := [(5, .int (0 : Int32)), (4, .int r75), (0, .ref (w.1 45)), (1, .int v1), (3, .int v3)]) hx hb dX6_greedy_81 hl (by decide) rfl (fun ls hl => ?_)
          refine lv_iconst (v := 0) hx hb dX6_greedy_83 (by decide) ?_
          refine lv_istore (lv' := [(6, .int (0 : Int32)), (5, .int (0 : Int32)), (4, .int r75), (0, .ref (w.1 45)), (1, .int v1), (3, .int v3)]) hx hb dX6_greedy_84 hl (by decide) rfl (fun ls hl => ?_)
          obtain ⟨n86, h⟩ := h
          refine lX6_greedy_86 C hK hcs v1 v3 r75 (0 : Int32) B (K112 := _) ?_ n86 (0 : Int32) G_65 _ _ _ h hw (lv_sub hl [3, 4, 5, 2, 1, 0] rfl)
          · intro G_112 H locs ls h hw hl
            refine lv_iconst (v := 1) hx hb dX6_greedy_112 (by decide) ?_
            refine lv_istore (lv' := [(6, .int (1 : Int32)), (0, .ref (w.1 45)), (1, .int v1), (3, .int v3), (4, .int r75), (5, .int (0 : Int32))]) hx hb dX6_greedy_113 hl (by decide) rfl (fun ls hl => ?_)
            refine lv_iconst (v := 0) hx hb dX6_greedy_115 (by decide) ?_
            refine lv_istore (lv' := [(7, .int (0 : Int32)), (6, .int (1 : Int32)), (0, .ref (w.1 45)), (1, .int v1), (3, .int v3), (4, .int r75), (5, .int (0 : Int32))]) hx hb dX6_greedy_116 hl (by decide) rfl (fun ls hl => ?_)
            obtain ⟨n118, h⟩ := h
            refine lX6_greedy_118 C hK hcs v1 v3 B (K324 := _) ?_ n118 r75 (0 : Int32) (1 : Int32) (0 : Int32) G_112 _ _ _ h hw (lv_sub hl [2, 3, 4, 5, 6, 1, 0] rfl)
            · intro x4_324 G_324 H locs ls h hw hl
              refine lv_iload hx hb dX6_greedy_324 (lv_at hl 2 rfl) ?_
              refine lv_if_ne (tgt := 358) hx hb dX6_greedy_326 (by decide) (fun c25 => ?_) (fun c25 => ?_)
              · have h := h.1 c25
                refine lv_iconst (v := 0) hx hb dX6_greedy_358 (by decide) ?_
                refine lv_istore (lv' := [(7, .int (0 : Int32)), (0, .ref (w.1 45)), (1, .int v1), (4, .int x4_324)]) hx hb dX6_greedy_359 hl (by decide) rfl (fun ls hl => ?_)
                refine lv_iload hx hb dX6_greedy_361 (lv_at hl 3 rfl) ?_
                refine lv_iload hx hb dX6_greedy_363 (lv_at hl 0 rfl) ?_
                refine lv_if_eq (tgt := 373) hx hb dX6_greedy_365 (by decide) (fun c26 => ?_) (fun c26 => ?_)
                · have h := h.1 c26
                  refine lv_iconst (v := 0) hx hb dX6_greedy_373 (by decide) ?_
                  refine lv_iadd hx hb dX6_greedy_374 ?_
                  exact q_reti hx hb hr hw ⟨h, rfl⟩ dX6_greedy_375
                · have h := h.2 c26
                  refine lv_bipush (v := 100) hx hb dX6_greedy_368 (by decide) ?_
                  refine lv_goto (tgt := 374) hx hb dX6_greedy_370 (by decide) ?_
                  refine lv_iadd hx hb dX6_greedy_374 ?_
                  exact q_reti hx hb hr hw ⟨h, rfl⟩ dX6_greedy_375
              · have h := h.2 c25
                refine lv_iconst (v := 2) hx hb dX6_greedy_329 (by decide) ?_
                refine lv_aload_n hx hb dX6_greedy_330 rfl (lv_at hl 0 rfl) ?_
                refine lv_aload_n hx hb dX6_greedy_331 rfl (lv_at hl 0 rfl) ?_
                refine q_get (v := .ref (w.1 47)) (C := RX6) (T := TX6) (N := 17) (ci := 6) hx hb hta kw_X6 hown hK hw 45 (hcs _ (by omega)) (by unfold isB; omega) rfl rfl 4 (by decide) (hta _ kw_287) rfl rfl dX6_greedy_332 ?_
                refine lv_bipush (v := 12) hx hb dX6_greedy_335 (by decide) ?_
                refine lv_iload_n hx hb dX6_greedy_337 rfl (lv_at hl 1 rfl) ?_
                refine lv_imul hx hb dX6_greedy_338 ?_
                refine lv_aload_n hx hb dX6_greedy_339 rfl (lv_at hl 0 rfl) ?_
                refine q_get (v := .int (G_324 45 2)) (C := RX6) (T := TX6) (N := 17) (ci := 6) hx hb hta kw_X6 hown hK hw 45 (hcs _ (by omega)) (by unfold isB; omega) rfl rfl 2 (by decide) (hta _ kw_285) rfl rfl dX6_greedy_340 ?_
                refine q_calli hw (va_runV (As := [.ref (w.1 47), .int ((12 : Int32) * v1), .int (G_324 45 2)]) (rest := [.int (2 : Int32)]) C (mX6_weight l w cs _ G_324 B 47 (by unfold isI; omega) (hcs _ (by omega)) ((12 : Int32) * v1) (G_324 45 2) _ h) (cwV 3 hta (gVw kw_333 kw_334 kw_335 kw_17 kw_332) rfl rfl rfl (by decide +kernel) ⟨Nat.le_of_ble_eq_true rfl, Nat.le_of_ble_eq_true rfl⟩) (preV hK hw 45 (hcs _ (by omega)) (by unfold isB; omega) rfl rfl _) rfl rfl hl.1 rfl (lv_room (Nat.le_of_ble_eq_true rfl)) dX6_greedy_343 ⟨Nat.le_refl 0, Nat.le_refl 0⟩) (fun r343 G343 B343 H locs h hw => ?_)
                obtain ⟨h, e1, e2⟩ := h; subst e1; subst e2
                refine lv_imul hx hb dX6_greedy_346 ?_
                refine lv_aload_n hx hb dX6_greedy_347 rfl (lv_at hl 0 rfl) ?_
                refine q_calli hw (va_runV (As := []) (rest := [.int ((2 : Int32) * r343)]) C (mX6_spark l w cs (fun c h => hcs c (by omega)) _ G_324 B _ h) (cwV 0 hta (gVw kw_322 kw_323 kw_324 kw_17 kw_321) rfl rfl rfl (by decide +kernel) ⟨Nat.le_of_ble_eq_true rfl, Nat.le_of_ble_eq_true rfl⟩) (preV hK hw 45 (hcs _ (by omega)) (by unfold isB; omega) rfl rfl _) rfl rfl hl.1 rfl (lv_room (Nat.le_of_ble_eq_true rfl)) dX6_greedy_348 ⟨Nat.le_refl 0, Nat.le_refl 0⟩) (fun r348 G348 B348 H locs h hw => ?_)
                obtain ⟨h, e2⟩ := h; subst e2
                refine lv_icmp_ge (tgt := 358) hx hb dX6_greedy_351 (by decide) (fun c27 => ?_) (fun c27 => ?_)
                · have h := h.1 c27
                  refine lv_iconst (v := 0) hx hb dX6_greedy_358 (by decide) ?_
                  refine lv_istore (lv' := [(7, .int (0 : Int32)), (0, .ref (w.1 45)), (1, .int v1), (4, .int x4_324)]) hx hb dX6_greedy_359 hl (by decide) rfl (fun ls hl => ?_)
                  refine lv_iload hx hb dX6_greedy_361 (lv_at hl 3 rfl) ?_
                  refine lv_iload hx hb dX6_greedy_363 (lv_at hl 0 rfl) ?_
                  refine lv_if_eq (tgt := 373) hx hb dX6_greedy_365 (by decide) (fun c28 => ?_) (fun c28 => ?_)
                  · have h := h.1 c28
                    refine lv_iconst (v := 0) hx hb dX6_greedy_373 (by decide) ?_
                    refine lv_iadd hx hb dX6_greedy_374 ?_
                    exact q_reti hx hb hr hw ⟨h, rfl⟩ dX6_greedy_375
                  · have h := h.2 c28
                    refine lv_bipush (v := 100) hx hb dX6_greedy_368 (by decide) ?_
                    refine lv_goto (tgt := 374) hx hb dX6_greedy_370 (by decide) ?_
                    refine lv_iadd hx hb dX6_greedy_374 ?_
                    exact q_reti hx hb hr hw ⟨h, rfl⟩ dX6_greedy_375
                · have h := h.2 c27
                  refine lv_iconst (v := 1) hx hb dX6_greedy_354 (by decide) ?_
                  refine lv_goto (tgt := 359) hx hb dX6_greedy_355 (by decide) ?_
                  refine lv_istore (lv' := [(7, .int (1 : Int32)), (0, .ref (w.1 45)), (1, .int v1), (4, .int x4_324)]) hx hb dX6_greedy_359 hl (by decide) rfl (fun ls hl => ?_)
                  refine lv_iload hx hb dX6_greedy_361 (lv_at hl 3 rfl) ?_
                  refine lv_iload hx hb dX6_greedy_363 (lv_at hl 0 rfl) ?_
                  refine lv_if_eq (tgt := 373) hx hb dX6_greedy_365 (by decide) (fun c29 => ?_) (fun c29 => ?_)
                  · have h := h.1 c29
                    refine lv_iconst (v := 0) hx hb dX6_greedy_373 (by decide) ?_
                    refine lv_iadd hx hb dX6_greedy_374 ?_
                    exact q_reti hx hb hr hw ⟨h, rfl⟩ dX6_greedy_375
                  · have h := h.2 c29
                    refine lv_bipush (v := 100) hx hb dX6_greedy_368 (by decide) ?_
                    refine lv_goto (tgt := 374) hx hb dX6_greedy_370 (by decide) ?_
                    refine lv_iadd hx hb dX6_greedy_374 ?_
                    exact q_reti hx hb hr hw ⟨h, rfl⟩ dX6_greedy_375
      · have h := h.2 c3
        refine lv_iconst (v := -1) hx hb dX6_greedy_26 (by decide) ?_
        exact q_reti hx hb hr hw ⟨h, rfl⟩ dX6_greedy_27
def wlX6_sketch_50 (K70 : BS → Prop) : Nat → Int32 → BS → Prop
  | 0, _, _ => False
  | n50 + 1, v3, B => (((768 : Int32) ≤ v3 → K70 B) ∧ (¬ (768 : Int32) ≤ v3 → (vp_in v3 768 ∧ (∀ B63 : BS, B63 = wrL B 49 (cl v3) (0 : Int64) → wlX6_sketch_50 K70 n50 (v3 + (1 : Int32)) B63))))
def wX6_sketch (v1 : Int32) (v2 : Int32) (G : GS) (B : BS) (P : Int32 → GS → BS → Prop) : Prop := (wX6_in v1.toInt64 (1 : Int64) (4 : Int64) (fun r6 => ((r6 = 0 → P (-1 : Int32) G B) ∧ (¬ r6 = 0 → (wX6_in v2.toInt64 (2 : Int64) (32 : Int64) (fun r20 => ((¬ r20 = 0 → (∀ G30 : GS, G30 = wr G 45 6 v1 → (∀ G35 : GS, G35 = wr G30 45 7 v2 → (∀ G40 : GS, G40 = wr G35 45 8 (0 : Int32) → (∀ G45 : GS, G45 = wr G40 45 10 (0 : Int32) → (∃ z50 : Nat, wlX6_sketch_50 (fun B_70 => P (0 : Int32) G45 B_70) z50 (0 : Int32) B)))))) ∧ (r20 = 0 → P (-1 : Int32) G B))))))))
set_option maxHeartbeats 4000000 in
set_option maxRecDepth 100000 in
theorem lX6_sketch_50 {p : Program} {l : Launch} {e : Env} {s : State} {m : MethodId} {args : Array Value} {below : List Frame} {meth : Method} {c : Code} {Q : State → Prop} {w : WE} {cs : List Nat} {A : Nat → Prop} {H0 : Heap} (C : CallFix p m c cX6_sketch 4 s args wsX6_sketch RX6) (hK : KW w s) (hcs : ∀ c, c < 56 → c ∈ cs) (G : GS) {K70 : BS → Prop} (k70 : ∀ (B : BS) (H : Heap) (locs : List Loc) (ls : Array Slot), K70 B → WO w cs A H0 G B H locs → lv_has ls 4 [] → W p l e (rmW 1) s m args below meth c H locs 0 0 Q (F0 m 70 ls [])) : ∀ (n : Nat) (v3 : Int32) (B : BS) (H : Heap) (locs : List Loc) (ls : Array Slot), wlX6_sketch_50 K70 n v3 B → WO w cs A H0 G B H locs → lv_has ls 4 [(0, .ref (w.1 45)), (3, .int v3)] → W p l e (rmW 1) s m args below meth c H locs 0 0 Q (F0 m 50 ls []) := by
  have hx := C.1
  have hb := C.2.1
  have hown := C.2.2.2.1
  have hta := fun w h => C.2.2.2.2 w (List.mem_cons_of_mem _ h)
  intro n
  induction n with
  | zero => intro v3 B H locs ls h hw hl; exact False.elim h
  | succ n ih =>
    intro v3 B H locs ls h hw hl
    refine lv_iload_n hx hb dX6_sketch_50 rfl (lv_at hl 1 rfl) ?_
    refine lv_sipush (v := 768) hx hb dX6_sketch_51 (by decide) ?_
    refine lv_icmp_ge (tgt := 70) hx hb dX6_sketch_54 (by decide) (fun c3 => ?_) (fun c3 => ?_)
    · have h := h.1 c3
      exact k70 B _ _ _ h hw (lv_sub hl [] rfl)
    · have h := h.2 c3
      refine lv_aload_n hx hb dX6_sketch_57 rfl (lv_at hl 0 rfl) ?_
      refine q_get (v := .ref (w.1 49)) (C := RX6) (T := TX6) (N := 17) (ci := 6) hx hb hta kw_X6 hown hK hw 45 (hcs _ (by omega)) (by unfold isB; omega) rfl rfl 9 (by decide) (hta _ kw_372) rfl rfl dX6_sketch_58 ?_
      refine lv_iload_n hx hb dX6_sketch_61 rfl (lv_at hl 1 rfl) ?_
      refine lv_lconst (v := 0) hx hb dX6_sketch_62 (by decide) ?_
      obtain ⟨hin4, h⟩ := h
      refine q_last (n := 768) hx hb hK hw (hcs _ (by omega)) (by unfold isJ; omega) rfl hin4 dX6_sketch_63 (fun H locs B63 eB63 hw => ?_)
      have h := h B63 eB63
      refine lv_iinc (v := (v3 + (1 : Int32))) (lv' := [(3, .int (v3 + (1 : Int32))), (0, .ref (w.1 45))]) hx hb dX6_sketch_64 hl (k := 1) rfl rfl (by decide) rfl (fun ls hl => ?_)
      refine lv_goto (tgt := 50) hx hb dX6_sketch_67 (by decide) ?_
      exact ih (v3 + (1 : Int32)) B63 _ _ _ h hw (lv_sub hl [1, 0] rfl)
set_option maxHeartbeats 4000000 in
set_option maxRecDepth 100000 in
theorem mX6_sketch (l : Launch) (w : WE) (cs : List Nat) (hcs : ∀ c, c < 56 → c ∈ cs) (sz : Nat) (G : GS) (B : BS) (v1 : Int32) (v2 : Int32) (P : Int32 → GS → BS → Prop) (h : wX6_sketch v1 v2 G B P) : Met l yX6_sketch wsX6_sketch (rmW 1) (PcW w cs sz G B [.ref (w.1 45), .int v1, .int v2]) (QI w cs sz (fun r G1 B1 => P r G1 B1)) 0 0 (AA w cs sz) := by
  refine metW (own := RX6) [.ref (w.1 45), .int v1, .int v2] (by decide +kernel) rfl rfl (Nat.le_of_ble_eq_true rfl) ?_
  intro p e s m below meth c ls hsz C hr hK hw hl
  subst hsz
  have hx := C.1
  have hb := C.2.1
  have hown := C.2.2.2.1
  have hta := fun w h => C.2.2.2.2 w (List.mem_cons_of_mem _ h)
  have hl : lv_has ls 4 [(0, .ref (w.1 45)), (1, .int v1), (2, .int v2)] := hl
  refine lv_iload_n hx hb dX6_sketch_0 rfl (lv_at hl 1 rfl) ?_
  refine lv_i2l hx hb dX6_sketch_1 rfl ?_
  refine lv_lconst (v := 1) hx hb dX6_sketch_2 (by decide) ?_
  refine lv_ldc2 hx hb hown (hta _ kw_339) dX6_sketch_3 ?_
  refine q_calli hw (va_runS (As := [.long v1.toInt64, .long (1 : Int64), .long (4 : Int64)]) (rest := []) C (mX6_in l w cs _ G B v1.toInt64 (1 : Int64) (4 : Int64) _ h) (va_cwS 3 hta (gSw kw_15 kw_16 kw_17 kw_14) rfl rfl rfl (by decide +kernel) ⟨Nat.le_of_ble_eq_true rfl, Nat.le_of_ble_eq_true rfl⟩) (preS hK hw _) rfl rfl hl.1 rfl (lv_room (Nat.le_of_ble_eq_true rfl)) dX6_sketch_6 ⟨Nat.le_refl 0, Nat.le_refl 0⟩) (fun r6 G6 B6 H locs h hw => ?_)
  obtain ⟨h, e1, e2⟩ := h; subst e1; subst e2
  refine lv_if_eq (tgt := 26) hx hb dX6_sketch_9 (by decide) (fun c1 => ?_) (fun c1 => ?_)
  · have h := h.1 c1
    refine lv_iconst (v := -1) hx hb dX6_sketch_26 (by decide) ?_
    exact q_reti hx hb hr hw h dX6_sketch_27
  · have h := h.2 c1
    refine lv_iload_n hx hb dX6_sketch_12 rfl (lv_at hl 2 rfl) ?_
    refine lv_i2l hx hb dX6_sketch_13 rfl ?_
    refine lv_ldc2 hx hb hown (hta _ kw_12) dX6_sketch_14 ?_
    refine lv_ldc2 hx hb hown (hta _ kw_367) dX6_sketch_17 ?_
    refine q_calli hw (va_runS (As := [.long v2.toInt64, .long (2 : Int64), .long (32 : Int64)]) (rest := []) C (mX6_in l w cs _ G B v2.toInt64 (2 : Int64) (32 : Int64) _ h) (va_cwS 3 hta (gSw kw_15 kw_16 kw_17 kw_14) rfl rfl rfl (by decide +kernel) ⟨Nat.le_of_ble_eq_true rfl, Nat.le_of_ble_eq_true rfl⟩) (preS hK hw _) rfl rfl hl.1 rfl (lv_room (Nat.le_of_ble_eq_true rfl)) dX6_sketch_20 ⟨Nat.le_refl 0, Nat.le_refl 0⟩) (fun r20 G20 B20 H locs h hw => ?_)
    obtain ⟨h, e1, e2⟩ := h; subst e1; subst e2
    refine lv_if_ne (tgt := 28) hx hb dX6_sketch_23 (by decide) (fun c2 => ?_) (fun c2 => ?_)
    · have h := h.1 c2
      refine lv_aload_n hx hb dX6_sketch_28 rfl (lv_at hl 0 rfl) ?_
      refine lv_iload_n hx hb dX6_sketch_29 rfl (lv_at hl 1 rfl) ?_
      refine q_put (x := v1) (C := RX6) (T := TX6) (N := 17) (ci := 6) hx hb hta kw_X6 tyX6 tyX6_ok nmX6 hown hK hw 45 (hcs _ (by omega)) (by unfold isB; omega) rfl rfl 6 (by decide) (hta _ kw_368) rfl rfl rfl (Nat.le_of_ble_eq_true rfl) rfl dX6_sketch_30 (fun H locs G30 eG30 hw => ?_)
      have h := h G30 eG30
      refine lv_aload_n hx hb dX6_sketch_33 rfl (lv_at hl 0 rfl) ?_
      refine lv_iload_n hx hb dX6_sketch_34 rfl (lv_at hl 2 rfl) ?_
      refine q_put (x := v2) (C := RX6) (T := TX6) (N := 17) (ci := 6) hx hb hta kw_X6 tyX6 tyX6_ok nmX6 hown hK hw 45 (hcs _ (by omega)) (by unfold isB; omega) rfl rfl 7 (by decide) (hta _ kw_369) rfl rfl rfl (Nat.le_of_ble_eq_true rfl) rfl dX6_sketch_35 (fun H locs G35 eG35 hw => ?_)
      have h := h G35 eG35
      refine lv_aload_n hx hb dX6_sketch_38 rfl (lv_at hl 0 rfl) ?_
      refine lv_iconst (v := 0) hx hb dX6_sketch_39 (by decide) ?_
      refine q_put (x := (0 : Int32)) (C := RX6) (T := TX6) (N := 17) (ci := 6) hx hb hta kw_X6 tyX6 tyX6_ok nmX6 hown hK hw 45 (hcs _ (by omega)) (by unfold isB; omega) rfl rfl 8 (by decide) (hta _ kw_370) rfl rfl rfl (Nat.le_of_ble_eq_true rfl) rfl dX6_sketch_40 (fun H locs G40 eG40 hw => ?_)
      have h := h G40 eG40
      refine lv_aload_n hx hb dX6_sketch_43 rfl (lv_at hl 0 rfl) ?_
      refine lv_iconst (v := 0) hx hb dX6_sketch_44 (by decide) ?_
      refine q_put (x := (0 : Int32)) (C := RX6) (T := TX6) (N := 17) (ci := 6) hx hb hta kw_X6 tyX6 tyX6_ok nmX6 hown hK hw 45 (hcs _ (by omega)) (by unfold isB; omega) rfl rfl 10 (by decide) (hta _ kw_371) rfl rfl rfl (Nat.le_of_ble_eq_true rfl) rfl dX6_sketch_45 (fun H locs G45 eG45 hw => ?_)
      have h := h G45 eG45
      refine lv_iconst (v := 0) hx hb dX6_sketch_48 (by decide) ?_
      refine lv_istore_n (lv' := [(3, .int (0 : Int32)), (0, .ref (w.1 45)), (1, .int v1), (2, .int v2)]) hx hb dX6_sketch_49 rfl hl (by decide) rfl (fun ls hl => ?_)
      obtain ⟨n50, h⟩ := h
      refine lX6_sketch_50 C hK hcs G45 (K70 := _) ?_ n50 (0 : Int32) B _ _ _ h hw (lv_sub hl [1, 0] rfl)
      · intro B_70 H locs ls h hw hl
        refine lv_iconst (v := 0) hx hb dX6_sketch_70 (by decide) ?_
        exact q_reti hx hb hr hw h dX6_sketch_71
    · have h := h.2 c2
      refine lv_iconst (v := -1) hx hb dX6_sketch_26 (by decide) ?_
      exact q_reti hx hb hr hw h dX6_sketch_27
def wX6_bucketOf (v1 : Int32) (v2 : Int32) (G : GS) (P : Int32 → Prop) : Prop := (¬ (((5 : Int32) * v1) + (7 : Int32)) = 0 ∧ (¬ (G 45 7).toInt64 = 0 ∧ P (((v2.toInt64 * (((2 : Int32) * v1) + (3 : Int32)).toInt64) + (v2 / (((5 : Int32) * v1) + (7 : Int32))).toInt64) - ((v2.toInt64 * (((2 : Int32) * v1) + (3 : Int32)).toInt64) + (v2 / (((5 : Int32) * v1) + (7 : Int32))).toInt64) / (G 45 7).toInt64 * (G 45 7).toInt64).toInt32))
set_option maxHeartbeats 4000000 in
set_option maxRecDepth 100000 in
theorem mX6_bucketOf (l : Launch) (w : WE) (cs : List Nat) (hcs : ∀ c, c < 56 → c ∈ cs) (sz : Nat) (G : GS) (B : BS) (v1 : Int32) (v2 : Int32) (P : Int32 → Prop) (h : wX6_bucketOf v1 v2 G P) : Met l yX6_bucketOf wsX6_bucketOf (rmW 0) (PcW w cs sz G B [.ref (w.1 45), .int v1, .int v2]) (QI w cs sz (fun r G1 B1 => P r ∧ G = G1 ∧ B = B1)) 0 0 (AA w cs sz) := by
  refine metW (own := RX6) [.ref (w.1 45), .int v1, .int v2] (by decide +kernel) rfl rfl (Nat.le_of_ble_eq_true rfl) ?_
  intro p e s m below meth c ls hsz C hr hK hw hl
  subst hsz
  have hx := C.1
  have hb := C.2.1
  have hown := C.2.2.2.1
  have hta := fun w h => C.2.2.2.2 w (List.mem_cons_of_mem _ h)
  have hl : lv_has ls 3 [(0, .ref (w.1 45)), (1, .int v1), (2, .int v2)] := hl
  refine lv_iload_n hx hb dX6_bucketOf_0 rfl (lv_at hl 2 rfl) ?_
  refine lv_i2l hx hb dX6_bucketOf_1 rfl ?_
  refine lv_iconst (v := 2) hx hb dX6_bucketOf_2 (by decide) ?_
  refine lv_iload_n hx hb dX6_bucketOf_3 rfl (lv_at hl 1 rfl) ?_
  refine lv_imul hx hb dX6_bucketOf_4 ?_
  refine lv_iconst (v := 3) hx hb dX6_bucketOf_5 (by decide) ?_
  refine lv_iadd hx hb dX6_bucketOf_6 ?_
  refine lv_i2l hx hb dX6_bucketOf_7 rfl ?_
  refine lv_lmul hx hb dX6_bucketOf_8 ?_
  refine lv_iload_n hx hb dX6_bucketOf_9 rfl (lv_at hl 2 rfl) ?_
  refine lv_iconst (v := 5) hx hb dX6_bucketOf_10 (by decide) ?_
  refine lv_iload_n hx hb dX6_bucketOf_11 rfl (lv_at hl 1 rfl) ?_
  refine lv_imul hx hb dX6_bucketOf_12 ?_
  refine lv_bipush (v := 7) hx hb dX6_bucketOf_13 (by decide) ?_
  refine lv_iadd hx hb dX6_bucketOf_15 ?_
  obtain ⟨hz1, h⟩ := h
  refine lv_idiv hx hb dX6_bucketOf_16 hz1 ?_
  refine lv_i2l hx hb dX6_bucketOf_17 rfl ?_
  refine lv_ladd hx hb dX6_bucketOf_18 ?_
  refine lv_aload_n hx hb dX6_bucketOf_19 rfl (lv_at hl 0 rfl) ?_
  refine q_get (v := .int (G 45 7)) (C := RX6) (T := TX6) (N := 17) (ci := 6) hx hb hta kw_X6 hown hK hw 45 (hcs _ (by omega)) (by unfold isB; omega) rfl rfl 7 (by decide) (hta _ kw_369) rfl rfl dX6_bucketOf_20 ?_
  refine lv_i2l hx hb dX6_bucketOf_23 rfl ?_
  obtain ⟨hz2, h⟩ := h
  refine lv_lrem hx hb dX6_bucketOf_24 hz2 ?_
  refine lv_l2i hx hb dX6_bucketOf_25 rfl ?_
  exact q_reti hx hb hr hw ⟨h, rfl, rfl⟩ dX6_bucketOf_26
def wlX6_adds_3 (K102 : BS → Prop) (v1 : Int32) (v2 : Int32) (v3 : Int64) (G : GS) : Nat → Int32 → BS → Prop
  | 0, _, _ => False
  | n3 + 1, v5, B => (((G 45 6) ≤ v5 → K102 B) ∧ (¬ (G 45 6) ≤ v5 → (wX6_bucketOf v5 v2 G (fun r24 => (∀ x29 : Int32, x29 = ((v1 + ((96 : Int32) * v5)) + ((3 : Int32) * r24)) → (vp_in x29 768 ∧ (vp_in x29 768 ∧ (∀ B41 : BS, B41 = wrL B 49 (cl x29) ((B 49 (cl x29)) + v3) → (vp_in (x29 + (1 : Int32)) 768 ∧ (vp_in (x29 + (1 : Int32)) 768 ∧ (∀ B57 : BS, B57 = wrL B41 49 (cl (x29 + (1 : Int32))) ((B41 49 (cl (x29 + (1 : Int32)))) + (v3 * v2.toInt64)) → (vp_in (x29 + (2 : Int32)) 768 ∧ (wX6_third v3 (fun r76 => (wX6_third (v2.toInt64 * v2.toInt64) (fun r84 => (wX6_third (r76 * r84) (fun r88 => (wX6_third ((B57 49 (cl (x29 + (2 : Int32)))) + r88) (fun r92 => (vp_in (x29 + (2 : Int32)) 768 ∧ (∀ B95 : BS, B95 = wrL B57 49 (cl (x29 + (2 : Int32))) r92 → wlX6_adds_3 K102 v1 v2 v3 G n3 (v5 + (1 : Int32)) B95))))))))))))))))))))))
def wX6_adds (v1 : Int32) (v2 : Int32) (v3 : Int64) (G : GS) (B : BS) (P : BS → Prop) : Prop := (∃ z3 : Nat, wlX6_adds_3 (fun B_102 => P B_102) v1 v2 v3 G z3 (0 : Int32) B)
set_option maxHeartbeats 4000000 in
set_option maxRecDepth 100000 in
theorem lX6_adds_3 {p : Program} {l : Launch} {e : Env} {s : State} {m : MethodId} {args : Array Value} {below : List Frame} {meth : Method} {c : Code} {Q : State → Prop} {w : WE} {cs : List Nat} {A : Nat → Prop} {H0 : Heap} (C : CallFix p m c cX6_adds 7 s args wsX6_adds RX6) (hK : KW w s) (hcs : ∀ c, c < 56 → c ∈ cs) (v1 : Int32) (v2 : Int32) (v3 : Int64) (G : GS) {K102 : BS → Prop} (k102 : ∀ (B : BS) (H : Heap) (locs : List Loc) (ls : Array Slot), K102 B → WO w cs A H0 G B H locs → lv_has ls 7 [] → W p l e (rmW 1) s m args below meth c H locs 0 0 Q (F0 m 102 ls [])) : ∀ (n : Nat) (v5 : Int32) (B : BS) (H : Heap) (locs : List Loc) (ls : Array Slot), wlX6_adds_3 K102 v1 v2 v3 G n v5 B → WO w cs A H0 G B H locs → lv_has ls 7 [(0, .ref (w.1 45)), (1, .int v1), (2, .int v2), (3, .long v3), (5, .int v5)] → W p l e (rmW 1) s m args below meth c H locs 0 0 Q (F0 m 3 ls []) := by
  have hx := C.1
  have hb := C.2.1
  have hown := C.2.2.2.1
  have hta := fun w h => C.2.2.2.2 w (List.mem_cons_of_mem _ h)
  intro n
  induction n with
  | zero => intro v5 B H locs ls h hw hl; exact False.elim h
  | succ n ih =>
    intro v5 B H locs ls h hw hl
    refine lv_iload hx hb dX6_adds_3 (lv_at hl 4 rfl) ?_
    refine lv_aload_n hx hb dX6_adds_5 rfl (lv_at hl 0 rfl) ?_
    refine q_get (v := .int (G 45 6)) (C := RX6) (T := TX6) (N := 17) (ci := 6) hx hb hta kw_X6 hown hK hw 45 (hcs _ (by omega)) (by unfold isB; omega) rfl rfl 6 (by decide) (hta _ kw_368) rfl rfl dX6_adds_6 ?_
    refine lv_icmp_ge (tgt := 102) hx hb dX6_adds_9 (by decide) (fun c1 => ?_) (fun c1 => ?_)
    · have h := h.1 c1
      exact k102 B _ _ _ h hw (lv_sub hl [] rfl)
    · have h := h.2 c1
      refine lv_iload_n hx hb dX6_adds_12 rfl (lv_at hl 1 rfl) ?_
      refine lv_bipush (v := 96) hx hb dX6_adds_13 (by decide) ?_
      refine lv_iload hx hb dX6_adds_15 (lv_at hl 4 rfl) ?_
      refine lv_imul hx hb dX6_adds_17 ?_
      refine lv_iadd hx hb dX6_adds_18 ?_
      refine lv_iconst (v := 3) hx hb dX6_adds_19 (by decide) ?_
      refine lv_aload_n hx hb dX6_adds_20 rfl (lv_at hl 0 rfl) ?_
      refine lv_iload hx hb dX6_adds_21 (lv_at hl 4 rfl) ?_
      refine lv_iload_n hx hb dX6_adds_23 rfl (lv_at hl 2 rfl) ?_
      refine q_calli hw (va_runV (As := [.int v5, .int v2]) (rest := [.int (3 : Int32), .int (v1 + ((96 : Int32) * v5))]) C (mX6_bucketOf l w cs (fun c h => hcs c (by omega)) _ G B v5 v2 _ h) (cwV 2 hta (gVw kw_374 kw_375 kw_376 kw_17 kw_373) rfl rfl rfl (by decide +kernel) ⟨Nat.le_of_ble_eq_true rfl, Nat.le_of_ble_eq_true rfl⟩) (preV hK hw 45 (hcs _ (by omega)) (by unfold isB; omega) rfl rfl _) rfl rfl hl.1 rfl (lv_room (Nat.le_of_ble_eq_true rfl)) dX6_adds_24 ⟨Nat.le_refl 0, Nat.le_refl 0⟩) (fun r24 G24 B24 H locs h hw => ?_)
      obtain ⟨h, e1, e2⟩ := h; subst e1; subst e2
      refine lv_imul hx hb dX6_adds_27 ?_
      refine lv_iadd hx hb dX6_adds_28 ?_
      refine lv_topi (fun x29 ex29 => ?_)
      have h := h x29 ex29
      refine lv_istore (lv' := [(6, .int x29), (0, .ref (w.1 45)), (1, .int v1), (2, .int v2), (3, .long v3), (5, .int v5)]) hx hb dX6_adds_29 hl (by decide) rfl (fun ls hl => ?_)
      refine lv_aload_n hx hb dX6_adds_31 rfl (lv_at hl 1 rfl) ?_
      refine q_get (v := .ref (w.1 49)) (C := RX6) (T := TX6) (N := 17) (ci := 6) hx hb hta kw_X6 hown hK hw 45 (hcs _ (by omega)) (by unfold isB; omega) rfl rfl 9 (by decide) (hta _ kw_372) rfl rfl dX6_adds_32 ?_
      refine lv_iload hx hb dX6_adds_35 (lv_at hl 0 rfl) ?_
      refine lv_dup2_11 hx hb dX6_adds_37 rfl rfl ?_
      obtain ⟨hin2, h⟩ := h
      refine q_lald (n := 768) hx hb hK hw (hcs _ (by omega)) (by unfold isJ; omega) rfl hin2 dX6_adds_38 ?_
      refine lv_lload_n hx hb dX6_adds_39 rfl (lv_at hl 4 rfl) ?_
      refine lv_ladd hx hb dX6_adds_40 ?_
      obtain ⟨hin3, h⟩ := h
      refine q_last (n := 768) hx hb hK hw (hcs _ (by omega)) (by unfold isJ; omega) rfl hin3 dX6_adds_41 (fun H locs B41 eB41 hw => ?_)
      have h := h B41 eB41
      refine lv_aload_n hx hb dX6_adds_42 rfl (lv_at hl 1 rfl) ?_
      refine q_get (v := .ref (w.1 49)) (C := RX6) (T := TX6) (N := 17) (ci := 6) hx hb hta kw_X6 hown hK hw 45 (hcs _ (by omega)) (by unfold isB; omega) rfl rfl 9 (by decide) (hta _ kw_372) rfl rfl dX6_adds_43 ?_
      refine lv_iload hx hb dX6_adds_46 (lv_at hl 0 rfl) ?_
      refine lv_iconst (v := 1) hx hb dX6_adds_48 (by decide) ?_
      refine lv_iadd hx hb dX6_adds_49 ?_
      refine lv_dup2_11 hx hb dX6_adds_50 rfl rfl ?_
      obtain ⟨hin4, h⟩ := h
      refine q_lald (n := 768) hx hb hK hw (hcs _ (by omega)) (by unfold isJ; omega) rfl hin4 dX6_adds_51 ?_
      refine lv_lload_n hx hb dX6_adds_52 rfl (lv_at hl 4 rfl) ?_
      refine lv_iload_n hx hb dX6_adds_53 rfl (lv_at hl 3 rfl) ?_
      refine lv_i2l hx hb dX6_adds_54 rfl ?_
      refine lv_lmul hx hb dX6_adds_55 ?_
      refine lv_ladd hx hb dX6_adds_56 ?_
      obtain ⟨hin5, h⟩ := h
      refine q_last (n := 768) hx hb hK hw (hcs _ (by omega)) (by unfold isJ; omega) rfl hin5 dX6_adds_57 (fun H locs B57 eB57 hw => ?_)
      have h := h B57 eB57
      refine lv_aload_n hx hb dX6_adds_58 rfl (lv_at hl 1 rfl) ?_
      refine q_get (v := .ref (w.1 49)) (C := RX6) (T := TX6) (N := 17) (ci := 6) hx hb hta kw_X6 hown hK hw 45 (hcs _ (by omega)) (by unfold isB; omega) rfl rfl 9 (by decide) (hta _ kw_372) rfl rfl dX6_adds_59 ?_
      refine lv_iload hx hb dX6_adds_62 (lv_at hl 0 rfl) ?_
      refine lv_iconst (v := 2) hx hb dX6_adds_64 (by decide) ?_
      refine lv_iadd hx hb dX6_adds_65 ?_
      refine lv_aload_n hx hb dX6_adds_66 rfl (lv_at hl 1 rfl) ?_
      refine q_get (v := .ref (w.1 49)) (C := RX6) (T := TX6) (N := 17) (ci := 6) hx hb hta kw_X6 hown hK hw 45 (hcs _ (by omega)) (by unfold isB; omega) rfl rfl 9 (by decide) (hta _ kw_372) rfl rfl dX6_adds_67 ?_
      refine lv_iload hx hb dX6_adds_70 (lv_at hl 0 rfl) ?_
      refine lv_iconst (v := 2) hx hb dX6_adds_72 (by decide) ?_
      refine lv_iadd hx hb dX6_adds_73 ?_
      obtain ⟨hin6, h⟩ := h
      refine q_lald (n := 768) hx hb hK hw (hcs _ (by omega)) (by unfold isJ; omega) rfl hin6 dX6_adds_74 ?_
      refine lv_lload_n hx hb dX6_adds_75 rfl (lv_at hl 4 rfl) ?_
      refine q_calll hw (va_runS (As := [.long v3]) (rest := [.long (B57 49 (cl (x29 + (2 : Int32)))), .int (x29 + (2 : Int32)), .ref (w.1 49)]) C (mX6_third l w cs _ G B57 v3 _ h) (va_cwS 1 hta (gSw kw_378 kw_379 kw_17 kw_377) rfl rfl rfl (by decide +kernel) ⟨Nat.le_of_ble_eq_true rfl, Nat.le_of_ble_eq_true rfl⟩) (preS hK hw _) rfl rfl hl.1 rfl (lv_room (Nat.le_of_ble_eq_true rfl)) dX6_adds_76 ⟨Nat.le_refl 0, Nat.le_refl 0⟩) (fun r76 G76 B76 H locs h hw => ?_)
      obtain ⟨h, e1, e2⟩ := h; subst e1; subst e2
      refine lv_iload_n hx hb dX6_adds_79 rfl (lv_at hl 3 rfl) ?_
      refine lv_i2l hx hb dX6_adds_80 rfl ?_
      refine lv_iload_n hx hb dX6_adds_81 rfl (lv_at hl 3 rfl) ?_
      refine lv_i2l hx hb dX6_adds_82 rfl ?_
      refine lv_lmul hx hb dX6_adds_83 ?_
      refine q_calll hw (va_runS (As := [.long (v2.toInt64 * v2.toInt64)]) (rest := [.long r76, .long (B57 49 (cl (x29 + (2 : Int32)))), .int (x29 + (2 : Int32)), .ref (w.1 49)]) C (mX6_third l w cs _ G B57 (v2.toInt64 * v2.toInt64) _ h) (va_cwS 1 hta (gSw kw_378 kw_379 kw_17 kw_377) rfl rfl rfl (by decide +kernel) ⟨Nat.le_of_ble_eq_true rfl, Nat.le_of_ble_eq_true rfl⟩) (preS hK hw _) rfl rfl hl.1 rfl (lv_room (Nat.le_of_ble_eq_true rfl)) dX6_adds_84 ⟨Nat.le_refl 0, Nat.le_refl 0⟩) (fun r84 G84 B84 H locs h hw => ?_)
      obtain ⟨h, e1, e2⟩ := h; subst e1; subst e2
      refine lv_lmul hx hb dX6_adds_87 ?_
      refine q_calll hw (va_runS (As := [.long (r76 * r84)]) (rest := [.long (B57 49 (cl (x29 + (2 : Int32)))), .int (x29 + (2 : Int32)), .ref (w.1 49)]) C (mX6_third l w cs _ G B57 (r76 * r84) _ h) (va_cwS 1 hta (gSw kw_378 kw_379 kw_17 kw_377) rfl rfl rfl (by decide +kernel) ⟨Nat.le_of_ble_eq_true rfl, Nat.le_of_ble_eq_true rfl⟩) (preS hK hw _) rfl rfl hl.1 rfl (lv_room (Nat.le_of_ble_eq_true rfl)) dX6_adds_88 ⟨Nat.le_refl 0, Nat.le_refl 0⟩) (fun r88 G88 B88 H locs h hw => ?_)
      obtain ⟨h, e1, e2⟩ := h; subst e1; subst e2
      refine lv_ladd hx hb dX6_adds_91 ?_
      refine q_calll hw (va_runS (As := [.long ((B57 49 (cl (x29 + (2 : Int32)))) + r88)]) (rest := [.int (x29 + (2 : Int32)), .ref (w.1 49)]) C (mX6_third l w cs _ G B57 ((B57 49 (cl (x29 + (2 : Int32)))) + r88) _ h) (va_cwS 1 hta (gSw kw_378 kw_379 kw_17 kw_377) rfl rfl rfl (by decide +kernel) ⟨Nat.le_of_ble_eq_true rfl, Nat.le_of_ble_eq_true rfl⟩) (preS hK hw _) rfl rfl hl.1 rfl (lv_room (Nat.le_of_ble_eq_true rfl)) dX6_adds_92 ⟨Nat.le_refl 0, Nat.le_refl 0⟩) (fun r92 G92 B92 H locs h hw => ?_)
      obtain ⟨h, e1, e2⟩ := h; subst e1; subst e2
      obtain ⟨hin7, h⟩ := h
      refine q_last (n := 768) hx hb hK hw (hcs _ (by omega)) (by unfold isJ; omega) rfl hin7 dX6_adds_95 (fun H locs B95 eB95 hw => ?_)
      have h := h B95 eB95
      refine lv_iinc (v := (v5 + (1 : Int32))) (lv' := [(5, .int (v5 + (1 : Int32))), (6, .int x29), (0, .ref (w.1 45)), (1, .int v1), (2, .int v2), (3, .long v3)]) hx hb dX6_adds_96 hl (k := 5) rfl rfl (by decide) rfl (fun ls hl => ?_)
      refine lv_goto (tgt := 3) hx hb dX6_adds_99 (by decide) ?_
      exact ih (v5 + (1 : Int32)) B95 _ _ _ h hw (lv_sub hl [2, 3, 4, 5, 0] rfl)
set_option maxHeartbeats 4000000 in
set_option maxRecDepth 100000 in
theorem mX6_adds (l : Launch) (w : WE) (cs : List Nat) (hcs : ∀ c, c < 56 → c ∈ cs) (sz : Nat) (G : GS) (B : BS) (v1 : Int32) (v2 : Int32) (v3 : Int64) (P : BS → Prop) (h : wX6_adds v1 v2 v3 G B P) : Met l yX6_adds wsX6_adds (rmW 1) (PcW w cs sz G B [.ref (w.1 45), .int v1, .int v2, .long v3]) (QV w cs sz (fun G1 B1 => G = G1 ∧ P B1)) 0 0 (AA w cs sz) := by
  refine metW (own := RX6) [.ref (w.1 45), .int v1, .int v2, .long v3] (by decide +kernel) rfl rfl (Nat.le_of_ble_eq_true rfl) ?_
  intro p e s m below meth c ls hsz C hr hK hw hl
  subst hsz
  have hx := C.1
  have hb := C.2.1
  have hown := C.2.2.2.1
  have hta := fun w h => C.2.2.2.2 w (List.mem_cons_of_mem _ h)
  have hl : lv_has ls 7 [(0, .ref (w.1 45)), (1, .int v1), (2, .int v2), (3, .long v3)] := hl
  refine lv_iconst (v := 0) hx hb dX6_adds_0 (by decide) ?_
  refine lv_istore (lv' := [(5, .int (0 : Int32)), (0, .ref (w.1 45)), (1, .int v1), (2, .int v2), (3, .long v3)]) hx hb dX6_adds_1 hl (by decide) rfl (fun ls hl => ?_)
  obtain ⟨n3, h⟩ := h
  refine lX6_adds_3 C hK hcs v1 v2 v3 G (K102 := _) ?_ n3 (0 : Int32) B _ _ _ h hw (lv_sub hl [1, 2, 3, 4, 0] rfl)
  · intro B_102 H locs ls h hw hl
    exact q_retv hx hb hr hw ⟨rfl, h⟩ dX6_adds_102
def wX6_add (v1 : Int32) (v2 : Int32) (G : GS) (B : BS) (P : Int32 → GS → BS → Prop) : Prop := (wX6_in v1.toInt64 (0 : Int64) (999999 : Int64) (fun r6 => ((r6 = 0 → P (-1 : Int32) G B) ∧ (¬ r6 = 0 → (wX6_in v2.toInt64 (-1000 : Int64) (1000 : Int64) (fun r20 => ((¬ r20 = 0 → ((¬ (G 45 8) = (100000 : Int32) → (wX6_adds (0 : Int32) v1 v2.toInt64 G B (fun B45 => (∀ G55 : GS, G55 = wr G 45 8 ((G 45 8) + (1 : Int32)) → P (G55 45 8) G55 B45)))) ∧ ((G 45 8) = (100000 : Int32) → P (-3 : Int32) G B))) ∧ (r20 = 0 → P (-1 : Int32) G B))))))))
set_option maxHeartbeats 4000000 in
set_option maxRecDepth 100000 in
theorem mX6_add (l : Launch) (w : WE) (cs : List Nat) (hcs : ∀ c, c < 56 → c ∈ cs) (sz : Nat) (G : GS) (B : BS) (v1 : Int32) (v2 : Int32) (P : Int32 → GS → BS → Prop) (h : wX6_add v1 v2 G B P) : Met l yX6_add wsX6_add (rmW 2) (PcW w cs sz G B [.ref (w.1 45), .int v1, .int v2]) (QI w cs sz (fun r G1 B1 => P r G1 B1)) 0 0 (AA w cs sz) := by
  refine metW (own := RX6) [.ref (w.1 45), .int v1, .int v2] (by decide +kernel) rfl rfl (Nat.le_of_ble_eq_true rfl) ?_
  intro p e s m below meth c ls hsz C hr hK hw hl
  subst hsz
  have hx := C.1
  have hb := C.2.1
  have hown := C.2.2.2.1
  have hta := fun w h => C.2.2.2.2 w (List.mem_cons_of_mem _ h)
  have hl : lv_has ls 3 [(0, .ref (w.1 45)), (1, .int v1), (2, .int v2)] := hl
  refine lv_iload_n hx hb dX6_add_0 rfl (lv_at hl 1 rfl) ?_
  refine lv_i2l hx hb dX6_add_1 rfl ?_
  refine lv_lconst (v := 0) hx hb dX6_add_2 (by decide) ?_
  refine lv_ldc2 hx hb hown (hta _ kw_380) dX6_add_3 ?_
  refine q_calli hw (va_runS (As := [.long v1.toInt64, .long (0 : Int64), .long (999999 : Int64)]) (rest := []) C (mX6_in l w cs _ G B v1.toInt64 (0 : Int64) (999999 : Int64) _ h) (va_cwS 3 hta (gSw kw_15 kw_16 kw_17 kw_14) rfl rfl rfl (by decide +kernel) ⟨Nat.le_of_ble_eq_true rfl, Nat.le_of_ble_eq_true rfl⟩) (preS hK hw _) rfl rfl hl.1 rfl (lv_room (Nat.le_of_ble_eq_true rfl)) dX6_add_6 ⟨Nat.le_refl 0, Nat.le_refl 0⟩) (fun r6 G6 B6 H locs h hw => ?_)
  obtain ⟨h, e1, e2⟩ := h; subst e1; subst e2
  refine lv_if_eq (tgt := 26) hx hb dX6_add_9 (by decide) (fun c1 => ?_) (fun c1 => ?_)
  · have h := h.1 c1
    refine lv_iconst (v := -1) hx hb dX6_add_26 (by decide) ?_
    exact q_reti hx hb hr hw h dX6_add_27
  · have h := h.2 c1
    refine lv_iload_n hx hb dX6_add_12 rfl (lv_at hl 2 rfl) ?_
    refine lv_i2l hx hb dX6_add_13 rfl ?_
    refine lv_ldc2 hx hb hown (hta _ kw_381) dX6_add_14 ?_
    refine lv_ldc2 hx hb hown (hta _ kw_382) dX6_add_17 ?_
    refine q_calli hw (va_runS (As := [.long v2.toInt64, .long (-1000 : Int64), .long (1000 : Int64)]) (rest := []) C (mX6_in l w cs _ G B v2.toInt64 (-1000 : Int64) (1000 : Int64) _ h) (va_cwS 3 hta (gSw kw_15 kw_16 kw_17 kw_14) rfl rfl rfl (by decide +kernel) ⟨Nat.le_of_ble_eq_true rfl, Nat.le_of_ble_eq_true rfl⟩) (preS hK hw _) rfl rfl hl.1 rfl (lv_room (Nat.le_of_ble_eq_true rfl)) dX6_add_20 ⟨Nat.le_refl 0, Nat.le_refl 0⟩) (fun r20 G20 B20 H locs h hw => ?_)
    obtain ⟨h, e1, e2⟩ := h; subst e1; subst e2
    refine lv_if_ne (tgt := 28) hx hb dX6_add_23 (by decide) (fun c2 => ?_) (fun c2 => ?_)
    · have h := h.1 c2
      refine lv_aload_n hx hb dX6_add_28 rfl (lv_at hl 0 rfl) ?_
      refine q_get (v := .int (G 45 8)) (C := RX6) (T := TX6) (N := 17) (ci := 6) hx hb hta kw_X6 hown hK hw 45 (hcs _ (by omega)) (by unfold isB; omega) rfl rfl 8 (by decide) (hta _ kw_370) rfl rfl dX6_add_29 ?_
      refine lv_ldc hx hb hown (hta _ kw_383) dX6_add_32 ?_
      refine lv_icmp_ne (tgt := 40) hx hb dX6_add_34 (by decide) (fun c3 => ?_) (fun c3 => ?_)
      · have h := h.1 c3
        refine lv_aload_n hx hb dX6_add_40 rfl (lv_at hl 0 rfl) ?_
        refine lv_iconst (v := 0) hx hb dX6_add_41 (by decide) ?_
        refine lv_iload_n hx hb dX6_add_42 rfl (lv_at hl 1 rfl) ?_
        refine lv_iload_n hx hb dX6_add_43 rfl (lv_at hl 2 rfl) ?_
        refine lv_i2l hx hb dX6_add_44 rfl ?_
        refine q_callv hw (va_runV (As := [.int (0 : Int32), .int v1, .long v2.toInt64]) (rest := []) C (mX6_adds l w cs (fun c h => hcs c (by omega)) _ G B (0 : Int32) v1 v2.toInt64 _ h) (cwV 3 hta (gVw kw_385 kw_386 kw_387 kw_17 kw_384) rfl rfl rfl (by decide +kernel) ⟨Nat.le_of_ble_eq_true rfl, Nat.le_of_ble_eq_true rfl⟩) (preV hK hw 45 (hcs _ (by omega)) (by unfold isB; omega) rfl rfl _) rfl rfl hl.1 rfl (lv_room (Nat.le_of_ble_eq_true rfl)) dX6_add_45 ⟨Nat.le_refl 0, Nat.le_refl 0⟩) (fun G45 B45 H locs h hw => ?_)
        obtain ⟨e1, h⟩ := h; subst e1
        refine lv_aload_n hx hb dX6_add_48 rfl (lv_at hl 0 rfl) ?_
        refine lv_dup hx hb dX6_add_49 rfl ?_
        refine q_get (v := .int (G 45 8)) (C := RX6) (T := TX6) (N := 17) (ci := 6) hx hb hta kw_X6 hown hK hw 45 (hcs _ (by omega)) (by unfold isB; omega) rfl rfl 8 (by decide) (hta _ kw_370) rfl rfl dX6_add_50 ?_
        refine lv_iconst (v := 1) hx hb dX6_add_53 (by decide) ?_
        refine lv_iadd hx hb dX6_add_54 ?_
        refine q_put (x := ((G 45 8) + (1 : Int32))) (C := RX6) (T := TX6) (N := 17) (ci := 6) hx hb hta kw_X6 tyX6 tyX6_ok nmX6 hown hK hw 45 (hcs _ (by omega)) (by unfold isB; omega) rfl rfl 8 (by decide) (hta _ kw_370) rfl rfl rfl (Nat.le_of_ble_eq_true rfl) rfl dX6_add_55 (fun H locs G55 eG55 hw => ?_)
        have h := h G55 eG55
        refine lv_aload_n hx hb dX6_add_58 rfl (lv_at hl 0 rfl) ?_
        refine q_get (v := .int (G55 45 8)) (C := RX6) (T := TX6) (N := 17) (ci := 6) hx hb hta kw_X6 hown hK hw 45 (hcs _ (by omega)) (by unfold isB; omega) rfl rfl 8 (by decide) (hta _ kw_370) rfl rfl dX6_add_59 ?_
        exact q_reti hx hb hr hw h dX6_add_62
      · have h := h.2 c3
        refine lv_bipush (v := -3) hx hb dX6_add_37 (by decide) ?_
        exact q_reti hx hb hr hw h dX6_add_39
    · have h := h.2 c2
      refine lv_iconst (v := -1) hx hb dX6_add_26 (by decide) ?_
      exact q_reti hx hb hr hw h dX6_add_27
def wX6_single (v1 : Int32) (v2 : Int32) (G : GS) (B : BS) (P : Int32 → Prop) : Prop := (∀ x12 : Int32, x12 = (((384 : Int32) + ((96 : Int32) * v1)) + ((3 : Int32) * v2)) → (vp_in x12 768 ∧ (∀ x19 : Int64, x19 = (B 49 (cl x12)) → (((lg_cmp x19 (0 : Int64)) = 0 → P (-1 : Int32)) ∧ (¬ (lg_cmp x19 (0 : Int64)) = 0 → (vp_in (x12 + (1 : Int32)) 768 ∧ (¬ x19 = 0 ∧ (((lg_cmp ((B 49 (cl (x12 + (1 : Int32)))) - (B 49 (cl (x12 + (1 : Int32)))) / x19 * x19) (0 : Int64)) = 0 → (vp_in (x12 + (1 : Int32)) 768 ∧ (¬ x19 = 0 ∧ (∀ x57 : Int64, x57 = ((B 49 (cl (x12 + (1 : Int32)))) / x19) → (wX6_in x57 (0 : Int64) (999999 : Int64) (fun r65 => ((r65 = 0 → P (-1 : Int32)) ∧ (¬ r65 = 0 → (wX6_bucketOf v1 x57.toInt32 G (fun r76 => ((r76 = v2 → (wX6_third x19 (fun r87 => (wX6_third (x57 * x57) (fun r95 => (wX6_third (r87 * r95) (fun r99 => (vp_in (x12 + (2 : Int32)) 768 ∧ ((¬ (lg_cmp r99 (B 49 (cl (x12 + (2 : Int32))))) = 0 → P (-1 : Int32)) ∧ ((lg_cmp r99 (B 49 (cl (x12 + (2 : Int32))))) = 0 → P x57.toInt32)))))))))) ∧ (¬ r76 = v2 → P (-1 : Int32))))))))))))) ∧ (¬ (lg_cmp ((B 49 (cl (x12 + (1 : Int32)))) - (B 49 (cl (x12 + (1 : Int32)))) / x19 * x19) (0 : Int64)) = 0 → P (-1 : Int32))))))))))
set_option maxHeartbeats 4000000 in
set_option maxRecDepth 100000 in
theorem mX6_single (l : Launch) (w : WE) (cs : List Nat) (hcs : ∀ c, c < 56 → c ∈ cs) (sz : Nat) (G : GS) (B : BS) (v1 : Int32) (v2 : Int32) (P : Int32 → Prop) (h : wX6_single v1 v2 G B P) : Met l yX6_single wsX6_single (rmW 1) (PcW w cs sz G B [.ref (w.1 45), .int v1, .int v2]) (QI w cs sz (fun r G1 B1 => P r ∧ G = G1 ∧ B = B1)) 0 0 (AA w cs sz) := by
  refine metW (own := RX6) [.ref (w.1 45), .int v1, .int v2] (by decide +kernel) rfl rfl (Nat.le_of_ble_eq_true rfl) ?_
  intro p e s m below meth c ls hsz C hr hK hw hl
  subst hsz
  have hx := C.1
  have hb := C.2.1
  have hown := C.2.2.2.1
  have hta := fun w h => C.2.2.2.2 w (List.mem_cons_of_mem _ h)
  have hl : lv_has ls 8 [(0, .ref (w.1 45)), (1, .int v1), (2, .int v2)] := hl
  refine lv_sipush (v := 384) hx hb dX6_single_0 (by decide) ?_
  refine lv_bipush (v := 96) hx hb dX6_single_3 (by decide) ?_
  refine lv_iload_n hx hb dX6_single_5 rfl (lv_at hl 1 rfl) ?_
  refine lv_imul hx hb dX6_single_6 ?_
  refine lv_iadd hx hb dX6_single_7 ?_
  refine lv_iconst (v := 3) hx hb dX6_single_8 (by decide) ?_
  refine lv_iload_n hx hb dX6_single_9 rfl (lv_at hl 2 rfl) ?_
  refine lv_imul hx hb dX6_single_10 ?_
  refine lv_iadd hx hb dX6_single_11 ?_
  refine lv_topi (fun x12 ex12 => ?_)
  have h := h x12 ex12
  refine lv_istore_n (lv' := [(3, .int x12), (0, .ref (w.1 45)), (1, .int v1), (2, .int v2)]) hx hb dX6_single_12 rfl hl (by decide) rfl (fun ls hl => ?_)
  refine lv_aload_n hx hb dX6_single_13 rfl (lv_at hl 1 rfl) ?_
  refine q_get (v := .ref (w.1 49)) (C := RX6) (T := TX6) (N := 17) (ci := 6) hx hb hta kw_X6 hown hK hw 45 (hcs _ (by omega)) (by unfold isB; omega) rfl rfl 9 (by decide) (hta _ kw_372) rfl rfl dX6_single_14 ?_
  refine lv_iload_n hx hb dX6_single_17 rfl (lv_at hl 0 rfl) ?_
  obtain ⟨hin1, h⟩ := h
  refine q_lald (n := 768) hx hb hK hw (hcs _ (by omega)) (by unfold isJ; omega) rfl hin1 dX6_single_18 ?_
  refine lv_topl (fun x19 ex19 => ?_)
  have h := h x19 ex19
  refine lv_lstore (lv' := [(4, .long x19), (3, .int x12), (0, .ref (w.1 45)), (1, .int v1), (2, .int v2)]) hx hb dX6_single_19 hl (by decide) rfl (fun ls hl => ?_)
  refine lv_lload hx hb dX6_single_21 (lv_at hl 0 rfl) ?_
  refine lv_lconst (v := 0) hx hb dX6_single_23 (by decide) ?_
  refine W.lcmp hx hb dX6_single_24 ?_
  refine lv_if_eq (tgt := 44) hx hb dX6_single_25 (by decide) (fun c2 => ?_) (fun c2 => ?_)
  · have h := h.1 c2
    refine lv_iconst (v := -1) hx hb dX6_single_44 (by decide) ?_
    exact q_reti hx hb hr hw ⟨h, rfl, rfl⟩ dX6_single_45
  · have h := h.2 c2
    refine lv_aload_n hx hb dX6_single_28 rfl (lv_at hl 2 rfl) ?_
    refine q_get (v := .ref (w.1 49)) (C := RX6) (T := TX6) (N := 17) (ci := 6) hx hb hta kw_X6 hown hK hw 45 (hcs _ (by omega)) (by unfold isB; omega) rfl rfl 9 (by decide) (hta _ kw_372) rfl rfl dX6_single_29 ?_
    refine lv_iload_n hx hb dX6_single_32 rfl (lv_at hl 1 rfl) ?_
    refine lv_iconst (v := 1) hx hb dX6_single_33 (by decide) ?_
    refine lv_iadd hx hb dX6_single_34 ?_
    obtain ⟨hin3, h⟩ := h
    refine q_lald (n := 768) hx hb hK hw (hcs _ (by omega)) (by unfold isJ; omega) rfl hin3 dX6_single_35 ?_
    refine lv_lload hx hb dX6_single_36 (lv_at hl 0 rfl) ?_
    obtain ⟨hz4, h⟩ := h
    refine lv_lrem hx hb dX6_single_38 hz4 ?_
    refine lv_lconst (v := 0) hx hb dX6_single_39 (by decide) ?_
    refine W.lcmp hx hb dX6_single_40 ?_
    refine lv_if_eq (tgt := 46) hx hb dX6_single_41 (by decide) (fun c5 => ?_) (fun c5 => ?_)
    · have h := h.1 c5
      refine lv_aload_n hx hb dX6_single_46 rfl (lv_at hl 2 rfl) ?_
      refine q_get (v := .ref (w.1 49)) (C := RX6) (T := TX6) (N := 17) (ci := 6) hx hb hta kw_X6 hown hK hw 45 (hcs _ (by omega)) (by unfold isB; omega) rfl rfl 9 (by decide) (hta _ kw_372) rfl rfl dX6_single_47 ?_
      refine lv_iload_n hx hb dX6_single_50 rfl (lv_at hl 1 rfl) ?_
      refine lv_iconst (v := 1) hx hb dX6_single_51 (by decide) ?_
      refine lv_iadd hx hb dX6_single_52 ?_
      obtain ⟨hin6, h⟩ := h
      refine q_lald (n := 768) hx hb hK hw (hcs _ (by omega)) (by unfold isJ; omega) rfl hin6 dX6_single_53 ?_
      refine lv_lload hx hb dX6_single_54 (lv_at hl 0 rfl) ?_
      obtain ⟨hz7, h⟩ := h
      refine lv_ldiv hx hb dX6_single_56 hz7 ?_
      refine lv_topl (fun x57 ex57 => ?_)
      have h := h x57 ex57
      refine lv_lstore (lv' := [(6, .long x57), (4, .long x19), (3, .int x12), (0, .ref (w.1 45)), (1, .int v1), (2, .int v2)]) hx hb dX6_single_57 hl (by decide) rfl (fun ls hl => ?_)
      refine lv_lload hx hb dX6_single_59 (lv_at hl 0 rfl) ?_
      refine lv_lconst (v := 0) hx hb dX6_single_61 (by decide) ?_
      refine lv_ldc2 hx hb hown (hta _ kw_380) dX6_single_62 ?_
      refine q_calli hw (va_runS (As := [.long x57, .long (0 : Int64), .long (999999 : Int64)]) (rest := []) C (mX6_in l w cs _ G B x57 (0 : Int64) (999999 : Int64) _ h) (va_cwS 3 hta (gSw kw_15 kw_16 kw_17 kw_14) rfl rfl rfl (by decide +kernel) ⟨Nat.le_of_ble_eq_true rfl, Nat.le_of_ble_eq_true rfl⟩) (preS hK hw _) rfl rfl hl.1 rfl (lv_room (Nat.le_of_ble_eq_true rfl)) dX6_single_65 ⟨Nat.le_refl 0, Nat.le_refl 0⟩) (fun r65 G65 B65 H locs h hw => ?_)
      obtain ⟨h, e1, e2⟩ := h; subst e1; subst e2
      refine lv_if_eq (tgt := 83) hx hb dX6_single_68 (by decide) (fun c8 => ?_) (fun c8 => ?_)
      · have h := h.1 c8
        refine lv_iconst (v := -1) hx hb dX6_single_83 (by decide) ?_
        exact q_reti hx hb hr hw ⟨h, rfl, rfl⟩ dX6_single_84
      · have h := h.2 c8
        refine lv_aload_n hx hb dX6_single_71 rfl (lv_at hl 3 rfl) ?_
        refine lv_iload_n hx hb dX6_single_72 rfl (lv_at hl 4 rfl) ?_
        refine lv_lload hx hb dX6_single_73 (lv_at hl 0 rfl) ?_
        refine lv_l2i hx hb dX6_single_75 rfl ?_
        refine q_calli hw (va_runV (As := [.int v1, .int x57.toInt32]) (rest := []) C (mX6_bucketOf l w cs (fun c h => hcs c (by omega)) _ G B v1 x57.toInt32 _ h) (cwV 2 hta (gVw kw_374 kw_375 kw_376 kw_17 kw_373) rfl rfl rfl (by decide +kernel) ⟨Nat.le_of_ble_eq_true rfl, Nat.le_of_ble_eq_true rfl⟩) (preV hK hw 45 (hcs _ (by omega)) (by unfold isB; omega) rfl rfl _) rfl rfl hl.1 rfl (lv_room (Nat.le_of_ble_eq_true rfl)) dX6_single_76 ⟨Nat.le_refl 0, Nat.le_refl 0⟩) (fun r76 G76 B76 H locs h hw => ?_)
        obtain ⟨h, e1, e2⟩ := h; subst e1; subst e2
        refine lv_iload_n hx hb dX6_single_79 rfl (lv_at hl 5 rfl) ?_
        refine lv_icmp_eq (tgt := 85) hx hb dX6_single_80 (by decide) (fun c9 => ?_) (fun c9 => ?_)
        · have h := h.1 c9
          refine lv_lload hx hb dX6_single_85 (lv_at hl 1 rfl) ?_
          refine q_calll hw (va_runS (As := [.long x19]) (rest := []) C (mX6_third l w cs _ G B x19 _ h) (va_cwS 1 hta (gSw kw_378 kw_379 kw_17 kw_377) rfl rfl rfl (by decide +kernel) ⟨Nat.le_of_ble_eq_true rfl, Nat.le_of_ble_eq_true rfl⟩) (preS hK hw _) rfl rfl hl.1 rfl (lv_room (Nat.le_of_ble_eq_true rfl)) dX6_single_87 ⟨Nat.le_refl 0, Nat.le_refl 0⟩) (fun r87 G87 B87 H locs h hw => ?_)
          obtain ⟨h, e1, e2⟩ := h; subst e1; subst e2
          refine lv_lload hx hb dX6_single_90 (lv_at hl 0 rfl) ?_
          refine lv_lload hx hb dX6_single_92 (lv_at hl 0 rfl) ?_
          refine lv_lmul hx hb dX6_single_94 ?_
          refine q_calll hw (va_runS (As := [.long (x57 * x57)]) (rest := [.long r87]) C (mX6_third l w cs _ G B (x57 * x57) _ h) (va_cwS 1 hta (gSw kw_378 kw_379 kw_17 kw_377) rfl rfl rfl (by decide +kernel) ⟨Nat.le_of_ble_eq_true rfl, Nat.le_of_ble_eq_true rfl⟩) (preS hK hw _) rfl rfl hl.1 rfl (lv_room (Nat.le_of_ble_eq_true rfl)) dX6_single_95 ⟨Nat.le_refl 0, Nat.le_refl 0⟩) (fun r95 G95 B95 H locs h hw => ?_)
          obtain ⟨h, e1, e2⟩ := h; subst e1; subst e2
          refine lv_lmul hx hb dX6_single_98 ?_
          refine q_calll hw (va_runS (As := [.long (r87 * r95)]) (rest := []) C (mX6_third l w cs _ G B (r87 * r95) _ h) (va_cwS 1 hta (gSw kw_378 kw_379 kw_17 kw_377) rfl rfl rfl (by decide +kernel) ⟨Nat.le_of_ble_eq_true rfl, Nat.le_of_ble_eq_true rfl⟩) (preS hK hw _) rfl rfl hl.1 rfl (lv_room (Nat.le_of_ble_eq_true rfl)) dX6_single_99 ⟨Nat.le_refl 0, Nat.le_refl 0⟩) (fun r99 G99 B99 H locs h hw => ?_)
          obtain ⟨h, e1, e2⟩ := h; subst e1; subst e2
          refine lv_aload_n hx hb dX6_single_102 rfl (lv_at hl 3 rfl) ?_
          refine q_get (v := .ref (w.1 49)) (C := RX6) (T := TX6) (N := 17) (ci := 6) hx hb hta kw_X6 hown hK hw 45 (hcs _ (by omega)) (by unfold isB; omega) rfl rfl 9 (by decide) (hta _ kw_372) rfl rfl dX6_single_103 ?_
          refine lv_iload_n hx hb dX6_single_106 rfl (lv_at hl 2 rfl) ?_
          refine lv_iconst (v := 2) hx hb dX6_single_107 (by decide) ?_
          refine lv_iadd hx hb dX6_single_108 ?_
          obtain ⟨hin10, h⟩ := h
          refine q_lald (n := 768) hx hb hK hw (hcs _ (by omega)) (by unfold isJ; omega) rfl hin10 dX6_single_109 ?_
          refine W.lcmp hx hb dX6_single_110 ?_
          refine lv_if_ne (tgt := 120) hx hb dX6_single_111 (by decide) (fun c11 => ?_) (fun c11 => ?_)
          · have h := h.1 c11
            refine lv_iconst (v := -1) hx hb dX6_single_120 (by decide) ?_
            exact q_reti hx hb hr hw ⟨h, rfl, rfl⟩ dX6_single_121
          · have h := h.2 c11
            refine lv_lload hx hb dX6_single_114 (lv_at hl 0 rfl) ?_
            refine lv_l2i hx hb dX6_single_116 rfl ?_
            refine lv_goto (tgt := 121) hx hb dX6_single_117 (by decide) ?_
            exact q_reti hx hb hr hw ⟨h, rfl, rfl⟩ dX6_single_121
        · have h := h.2 c9
          refine lv_iconst (v := -1) hx hb dX6_single_83 (by decide) ?_
          exact q_reti hx hb hr hw ⟨h, rfl, rfl⟩ dX6_single_84
    · have h := h.2 c5
      refine lv_iconst (v := -1) hx hb dX6_single_44 (by decide) ?_
      exact q_reti hx hb hr hw ⟨h, rfl, rfl⟩ dX6_single_45
def wlX6_decode_2 (K31 : BS → Prop) : Nat → Int32 → BS → Prop
  | 0, _, _ => False
  | n2 + 1, v1, B => (((384 : Int32) ≤ v1 → K31 B) ∧ (¬ (384 : Int32) ≤ v1 → (vp_in v1 768 ∧ (vp_in ((384 : Int32) + v1) 768 ∧ (∀ B24 : BS, B24 = wrL B 49 (cl ((384 : Int32) + v1)) (B 49 (cl v1)) → wlX6_decode_2 K31 n2 (v1 + (1 : Int32)) B24)))))
def wlX6_decode_70 (K119 : Int32 → Int64 → Prop) (v1 : Int32) (v6 : Int32) (G : GS) (B : BS) : Nat → Int32 → Int64 → Int32 → Prop
  | 0, _, _, _ => False
  | n70 + 1, v3, v4, v7 => (((G 45 7) ≤ v7 → K119 v3 v4) ∧ (¬ (G 45 7) ≤ v7 → ((0 ≤ v3 → K119 v3 v4) ∧ (¬ 0 ≤ v3 → (wX6_single v6 v7 G B (fun r88 => (vp_in (((384 : Int32) + ((96 : Int32) * v6)) + ((3 : Int32) * v7)) 768 ∧ (∀ x111 : Int64, x111 = (B 49 (cl (((384 : Int32) + ((96 : Int32) * v6)) + ((3 : Int32) * v7)))) → wlX6_decode_70 K119 v1 v6 G B n70 r88 x111 (v7 + (1 : Int32))))))))))
def wlX6_decode_54 (K125 : Int32 → Int64 → Prop) (v1 : Int32) (G : GS) (B : BS) : Nat → Int32 → Int64 → Int32 → Prop
  | 0, _, _, _ => False
  | n54 + 1, v3, v4, v6 => (((G 45 6) ≤ v6 → K125 v3 v4) ∧ (¬ (G 45 6) ≤ v6 → ((0 ≤ v3 → K125 v3 v4) ∧ (¬ 0 ≤ v3 → (∃ z70 : Nat, wlX6_decode_70 (fun x3_119 x4_119 => wlX6_decode_54 K125 v1 G B n54 x3_119 x4_119 (v6 + (1 : Int32))) v1 v6 G B z70 v3 v4 (0 : Int32))))))
def wlX6_decode_35 (K178 : Int32 → GS → BS → Prop) : Nat → Int32 → Int32 → GS → BS → Prop
  | 0, _, _, _, _ => False
  | n35 + 1, v1, v2, G, B => ((v2 = 0 → K178 v1 G B) ∧ (¬ v2 = 0 → (((200 : Int32) ≤ v1 → K178 v1 G B) ∧ (¬ (200 : Int32) ≤ v1 → (∃ z54 : Nat, wlX6_decode_54 (fun x3_125 x4_125 => ((x3_125 < 0 → (((0 : Int32) = 0 → wlX6_decode_35 K178 n35 v1 (0 : Int32) G B) ∧ (¬ (0 : Int32) = 0 → (((100 : Int32) ≤ v1 → (wX6_adds (384 : Int32) x3_125 (-x4_125) G B (fun B169 => wlX6_decode_35 K178 n35 (v1 + (1 : Int32)) (0 : Int32) G B169))) ∧ (¬ (100 : Int32) ≤ v1 → (vp_in v1 100 ∧ (∀ G151 : GS, G151 = wr G 50 (cl v1) x3_125 → (vp_in v1 100 ∧ (∀ G160 : GS, G160 = wr G151 51 (cl v1) x4_125.toInt32 → (wX6_adds (384 : Int32) x3_125 (-x4_125) G160 B (fun B169 => wlX6_decode_35 K178 n35 (v1 + (1 : Int32)) (0 : Int32) G160 B169))))))))))) ∧ (¬ x3_125 < 0 → (((1 : Int32) = 0 → wlX6_decode_35 K178 n35 v1 (1 : Int32) G B) ∧ (¬ (1 : Int32) = 0 → (((100 : Int32) ≤ v1 → (wX6_adds (384 : Int32) x3_125 (-x4_125) G B (fun B169 => wlX6_decode_35 K178 n35 (v1 + (1 : Int32)) (1 : Int32) G B169))) ∧ (¬ (100 : Int32) ≤ v1 → (vp_in v1 100 ∧ (∀ G151 : GS, G151 = wr G 50 (cl v1) x3_125 → (vp_in v1 100 ∧ (∀ G160 : GS, G160 = wr G151 51 (cl v1) x4_125.toInt32 → (wX6_adds (384 : Int32) x3_125 (-x4_125) G160 B (fun B169 => wlX6_decode_35 K178 n35 (v1 + (1 : Int32)) (1 : Int32) G160 B169))))))))))))) v1 G B z54 (-1 : Int32) (0 : Int64) (0 : Int32))))))
def wlX6_decode_190 (K226 : Int32 → Prop) (v1 : Int32) (B : BS) : Nat → Int32 → Int32 → Prop
  | 0, _, _ => False
  | n190 + 1, v3, v4 => (((768 : Int32) ≤ v4 → K226 v3) ∧ (¬ (768 : Int32) ≤ v4 → ((v3 = 0 → wlX6_decode_190 K226 v1 B n190 (0 : Int32) (v4 + (1 : Int32))) ∧ (¬ v3 = 0 → (vp_in v4 768 ∧ ((¬ (lg_cmp (B 49 (cl v4)) (0 : Int64)) = 0 → wlX6_decode_190 K226 v1 B n190 (0 : Int32) (v4 + (1 : Int32))) ∧ ((lg_cmp (B 49 (cl v4)) (0 : Int64)) = 0 → wlX6_decode_190 K226 v1 B n190 (1 : Int32) (v4 + (1 : Int32)))))))))
def wX6_decode (G : GS) (B : BS) (P : Int32 → GS → BS → Prop) : Prop := (∃ z2 : Nat, wlX6_decode_2 (fun B_31 => (∃ z35 : Nat, wlX6_decode_35 (fun x1_178 G_178 B_178 => (∀ G180 : GS, G180 = wr G_178 45 10 x1_178 → (∃ z190 : Nat, wlX6_decode_190 (fun x3_226 => ((x3_226 = 0 → P (x1_178 + (0 : Int32)) G180 B_178) ∧ (¬ x3_226 = 0 → P (x1_178 + (10000 : Int32)) G180 B_178))) x1_178 B_178 z190 (1 : Int32) (384 : Int32)))) z35 (0 : Int32) (1 : Int32) G B_31)) z2 (0 : Int32) B)
set_option maxHeartbeats 4000000 in
set_option maxRecDepth 100000 in
theorem lX6_decode_2 {p : Program} {l : Launch} {e : Env} {s : State} {m : MethodId} {args : Array Value} {below : List Frame} {meth : Method} {c : Code} {Q : State → Prop} {w : WE} {cs : List Nat} {A : Nat → Prop} {H0 : Heap} (C : CallFix p m c cX6_decode 8 s args wsX6_decode RX6) (hK : KW w s) (hcs : ∀ c, c < 56 → c ∈ cs) (G : GS) {K31 : BS → Prop} (k31 : ∀ (B : BS) (H : Heap) (locs : List Loc) (ls : Array Slot), K31 B → WO w cs A H0 G B H locs → lv_has ls 8 [(0, .ref (w.1 45))] → W p l e (rmW 2) s m args below meth c H locs 0 0 Q (F0 m 31 ls [])) : ∀ (n : Nat) (v1 : Int32) (B : BS) (H : Heap) (locs : List Loc) (ls : Array Slot), wlX6_decode_2 K31 n v1 B → WO w cs A H0 G B H locs → lv_has ls 8 [(0, .ref (w.1 45)), (1, .int v1)] → W p l e (rmW 2) s m args below meth c H locs 0 0 Q (F0 m 2 ls []) := by
  have hx := C.1
  have hb := C.2.1
  have hown := C.2.2.2.1
  have hta := fun w h => C.2.2.2.2 w (List.mem_cons_of_mem _ h)
  intro n
  induction n with
  | zero => intro v1 B H locs ls h hw hl; exact False.elim h
  | succ n ih =>
    intro v1 B H locs ls h hw hl
    refine lv_iload_n hx hb dX6_decode_2 rfl (lv_at hl 1 rfl) ?_
    refine lv_sipush (v := 384) hx hb dX6_decode_3 (by decide) ?_
    refine lv_icmp_ge (tgt := 31) hx hb dX6_decode_6 (by decide) (fun c1 => ?_) (fun c1 => ?_)
    · have h := h.1 c1
      exact k31 B _ _ _ h hw (lv_sub hl [0] rfl)
    · have h := h.2 c1
      refine lv_aload_n hx hb dX6_decode_9 rfl (lv_at hl 0 rfl) ?_
      refine q_get (v := .ref (w.1 49)) (C := RX6) (T := TX6) (N := 17) (ci := 6) hx hb hta kw_X6 hown hK hw 45 (hcs _ (by omega)) (by unfold isB; omega) rfl rfl 9 (by decide) (hta _ kw_372) rfl rfl dX6_decode_10 ?_
      refine lv_sipush (v := 384) hx hb dX6_decode_13 (by decide) ?_
      refine lv_iload_n hx hb dX6_decode_16 rfl (lv_at hl 1 rfl) ?_
      refine lv_iadd hx hb dX6_decode_17 ?_
      refine lv_aload_n hx hb dX6_decode_18 rfl (lv_at hl 0 rfl) ?_
      refine q_get (v := .ref (w.1 49)) (C := RX6) (T := TX6) (N := 17) (ci := 6) hx hb hta kw_X6 hown hK hw 45 (hcs _ (by omega)) (by unfold isB; omega) rfl rfl 9 (by decide) (hta _ kw_372) rfl rfl dX6_decode_19 ?_
      refine lv_iload_n hx hb dX6_decode_22 rfl (lv_at hl 1 rfl) ?_
      obtain ⟨hin2, h⟩ := h
      refine q_lald (n := 768) hx hb hK hw (hcs _ (by omega)) (by unfold isJ; omega) rfl hin2 dX6_decode_23 ?_
      obtain ⟨hin3, h⟩ := h
      refine q_last (n := 768) hx hb hK hw (hcs _ (by omega)) (by unfold isJ; omega) rfl hin3 dX6_decode_24 (fun H locs B24 eB24 hw => ?_)
      have h := h B24 eB24
      refine lv_iinc (v := (v1 + (1 : Int32))) (lv' := [(1, .int (v1 + (1 : Int32))), (0, .ref (w.1 45))]) hx hb dX6_decode_25 hl (k := 1) rfl rfl (by decide) rfl (fun ls hl => ?_)
      refine lv_goto (tgt := 2) hx hb dX6_decode_28 (by decide) ?_
      exact ih (v1 + (1 : Int32)) B24 _ _ _ h hw (lv_sub hl [1, 0] rfl)
set_option maxHeartbeats 4000000 in
set_option maxRecDepth 100000 in
theorem lX6_decode_70 {p : Program} {l : Launch} {e : Env} {s : State} {m : MethodId} {args : Array Value} {below : List Frame} {meth : Method} {c : Code} {Q : State → Prop} {w : WE} {cs : List Nat} {A : Nat → Prop} {H0 : Heap} (C : CallFix p m c cX6_decode 8 s args wsX6_decode RX6) (hK : KW w s) (hcs : ∀ c, c < 56 → c ∈ cs) (v1 : Int32) (v6 : Int32) (G : GS) (B : BS) {K119 : Int32 → Int64 → Prop} (k119 : ∀ (y3 : Int32) (y4 : Int64) (H : Heap) (locs : List Loc) (ls : Array Slot), K119 y3 y4 → WO w cs A H0 G B H locs → lv_has ls 8 [(0, .ref (w.1 45)), (1, .int v1), (3, .int y3), (4, .long y4), (6, .int v6)] → W p l e (rmW 2) s m args below meth c H locs 0 0 Q (F0 m 119 ls [])) : ∀ (n : Nat) (v3 : Int32) (v4 : Int64) (v7 : Int32) (H : Heap) (locs : List Loc) (ls : Array Slot), wlX6_decode_70 K119 v1 v6 G B n v3 v4 v7 → WO w cs A H0 G B H locs → lv_has ls 8 [(0, .ref (w.1 45)), (1, .int v1), (3, .int v3), (4, .long v4), (6, .int v6), (7, .int v7)] → W p l e (rmW 2) s m args below meth c H locs 0 0 Q (F0 m 70 ls []) := by
  have hx := C.1
  have hb := C.2.1
  have hown := C.2.2.2.1
  have hta := fun w h => C.2.2.2.2 w (List.mem_cons_of_mem _ h)
  intro n
  induction n with
  | zero => intro v3 v4 v7 H locs ls h hw hl; exact False.elim h
  | succ n ih =>
    intro v3 v4 v7 H locs ls h hw hl
    refine lv_iload hx hb dX6_decode_70 (lv_at hl 5 rfl) ?_
    refine lv_aload_n hx hb dX6_decode_72 rfl (lv_at hl 0 rfl) ?_
    refine q_get (v := .int (G 45 7)) (C := RX6) (T := TX6) (N := 17) (ci := 6) hx hb hta kw_X6 hown hK hw 45 (hcs _ (by omega)) (by unfold isB; omega) rfl rfl 7 (by decide) (hta _ kw_369) rfl rfl dX6_decode_73 ?_
    refine lv_icmp_ge (tgt := 119) hx hb dX6_decode_76 (by decide) (fun c8 => ?_) (fun c8 => ?_)
    · have h := h.1 c8
      exact k119 v3 v4 _ _ _ h hw (lv_sub hl [0, 1, 2, 3, 4] rfl)
    · have h := h.2 c8
      refine lv_iload_n hx hb dX6_decode_79 rfl (lv_at hl 2 rfl) ?_
      refine lv_if_ge (tgt := 119) hx hb dX6_decode_80 (by decide) (fun c9 => ?_) (fun c9 => ?_)
      · have h := h.1 c9
        exact k119 v3 v4 _ _ _ h hw (lv_sub hl [0, 1, 2, 3, 4] rfl)
      · have h := h.2 c9
        refine lv_aload_n hx hb dX6_decode_83 rfl (lv_at hl 0 rfl) ?_
        refine lv_iload hx hb dX6_decode_84 (lv_at hl 4 rfl) ?_
        refine lv_iload hx hb dX6_decode_86 (lv_at hl 5 rfl) ?_
        refine q_calli hw (va_runV (As := [.int v6, .int v7]) (rest := []) C (mX6_single l w cs (fun c h => hcs c (by omega)) _ G B v6 v7 _ h) (cwV 2 hta (gVw kw_389 kw_390 kw_391 kw_17 kw_388) rfl rfl rfl (by decide +kernel) ⟨Nat.le_of_ble_eq_true rfl, Nat.le_of_ble_eq_true rfl⟩) (preV hK hw 45 (hcs _ (by omega)) (by unfold isB; omega) rfl rfl _) rfl rfl hl.1 rfl (lv_room (Nat.le_of_ble_eq_true rfl)) dX6_decode_88 ⟨Nat.le_refl 0, Nat.le_refl 0⟩) (fun r88 G88 B88 H locs h hw => ?_)
        obtain ⟨h, e1, e2⟩ := h; subst e1; subst e2
        refine lv_istore_n (lv' := [(3, .int r88), (0, .ref (w.1 45)), (1, .int v1), (4, .long v4), (6, .int v6), (7, .int v7)]) hx hb dX6_decode_91 rfl hl (by decide) rfl (fun ls hl => ?_)
        refine lv_aload_n hx hb dX6_decode_92 rfl (lv_at hl 1 rfl) ?_
        refine q_get (v := .ref (w.1 49)) (C := RX6) (T := TX6) (N := 17) (ci := 6) hx hb hta kw_X6 hown hK hw 45 (hcs _ (by omega)) (by unfold isB; omega) rfl rfl 9 (by decide) (hta _ kw_372) rfl rfl dX6_decode_93 ?_
        refine lv_sipush (v := 384) hx hb dX6_decode_96 (by decide) ?_
        refine lv_bipush (v := 96) hx hb dX6_decode_99 (by decide) ?_
        refine lv_iload hx hb dX6_decode_101 (lv_at hl 4 rfl) ?_
        refine lv_imul hx hb dX6_decode_103 ?_
        refine lv_iadd hx hb dX6_decode_104 ?_
        refine lv_iconst (v := 3) hx hb dX6_decode_105 (by decide) ?_
        refine lv_iload hx hb dX6_decode_106 (lv_at hl 5 rfl) ?_
        refine lv_imul hx hb dX6_decode_108 ?_
        refine lv_iadd hx hb dX6_decode_109 ?_
        obtain ⟨hin10, h⟩ := h
        refine q_lald (n := 768) hx hb hK hw (hcs _ (by omega)) (by unfold isJ; omega) rfl hin10 dX6_decode_110 ?_
        refine lv_topl (fun x111 ex111 => ?_)
        have h := h x111 ex111
        refine lv_lstore (lv' := [(4, .long x111), (3, .int r88), (0, .ref (w.1 45)), (1, .int v1), (6, .int v6), (7, .int v7)]) hx hb dX6_decode_111 hl (by decide) rfl (fun ls hl => ?_)
        refine lv_iinc (v := (v7 + (1 : Int32))) (lv' := [(7, .int (v7 + (1 : Int32))), (4, .long x111), (3, .int r88), (0, .ref (w.1 45)), (1, .int v1), (6, .int v6)]) hx hb dX6_decode_113 hl (k := 5) rfl rfl (by decide) rfl (fun ls hl => ?_)
        refine lv_goto (tgt := 70) hx hb dX6_decode_116 (by decide) ?_
        exact ih r88 x111 (v7 + (1 : Int32)) _ _ _ h hw (lv_sub hl [3, 4, 2, 1, 5, 0] rfl)
set_option maxHeartbeats 4000000 in
set_option maxRecDepth 100000 in
theorem lX6_decode_54 {p : Program} {l : Launch} {e : Env} {s : State} {m : MethodId} {args : Array Value} {below : List Frame} {meth : Method} {c : Code} {Q : State → Prop} {w : WE} {cs : List Nat} {A : Nat → Prop} {H0 : Heap} (C : CallFix p m c cX6_decode 8 s args wsX6_decode RX6) (hK : KW w s) (hcs : ∀ c, c < 56 → c ∈ cs) (v1 : Int32) (G : GS) (B : BS) {K125 : Int32 → Int64 → Prop} (k125 : ∀ (y3 : Int32) (y4 : Int64) (H : Heap) (locs : List Loc) (ls : Array Slot), K125 y3 y4 → WO w cs A H0 G B H locs → lv_has ls 8 [(0, .ref (w.1 45)), (1, .int v1), (3, .int y3), (4, .long y4)] → W p l e (rmW 2) s m args below meth c H locs 0 0 Q (F0 m 125 ls [])) : ∀ (n : Nat) (v3 : Int32) (v4 : Int64) (v6 : Int32) (H : Heap) (locs : List Loc) (ls : Array Slot), wlX6_decode_54 K125 v1 G B n v3 v4 v6 → WO w cs A H0 G B H locs → lv_has ls 8 [(0, .ref (w.1 45)), (1, .int v1), (3, .int v3), (4, .long v4), (6, .int v6)] → W p l e (rmW 2) s m args below meth c H locs 0 0 Q (F0 m 54 ls []) := by
  have hx := C.1
  have hb := C.2.1
  have hown := C.2.2.2.1
  have hta := fun w h => C.2.2.2.2 w (List.mem_cons_of_mem _ h)
  intro n
  induction n with
  | zero => intro v3 v4 v6 H locs ls h hw hl; exact False.elim h
  | succ n ih =>
    intro v3 v4 v6 H locs ls h hw hl
    refine lv_iload hx hb dX6_decode_54 (lv_at hl 4 rfl) ?_
    refine lv_aload_n hx hb dX6_decode_56 rfl (lv_at hl 0 rfl) ?_
    refine q_get (v := .int (G 45 6)) (C := RX6) (T := TX6) (N := 17) (ci := 6) hx hb hta kw_X6 hown hK hw 45 (hcs _ (by omega)) (by unfold isB; omega) rfl rfl 6 (by decide) (hta _ kw_368) rfl rfl dX6_decode_57 ?_
    refine lv_icmp_ge (tgt := 125) hx hb dX6_decode_60 (by decide) (fun c6 => ?_) (fun c6 => ?_)
    · have h := h.1 c6
      exact k125 v3 v4 _ _ _ h hw (lv_sub hl [0, 1, 2, 3] rfl)
    · have h := h.2 c6
      refine lv_iload_n hx hb dX6_decode_63 rfl (lv_at hl 2 rfl) ?_
      refine lv_if_ge (tgt := 125) hx hb dX6_decode_64 (by decide) (fun c7 => ?_) (fun c7 => ?_)
      · have h := h.1 c7
        exact k125 v3 v4 _ _ _ h hw (lv_sub hl [0, 1, 2, 3] rfl)
      · have h := h.2 c7
        refine lv_iconst (v := 0) hx hb dX6_decode_67 (by decide) ?_
        refine lv_istore (lv' := [(7, .int (0 : Int32)), (0, .ref (w.1 45)), (1, .int v1), (3, .int v3), (4, .long v4), (6, .int v6)]) hx hb dX6_decode_68 hl (by decide) rfl (fun ls hl => ?_)
        obtain ⟨n70, h⟩ := h
        refine lX6_decode_70 C hK hcs v1 v6 G B (K119 := _) ?_ n70 v3 v4 (0 : Int32) _ _ _ h hw (lv_sub hl [1, 2, 3, 4, 5, 0] rfl)
        · intro x3_119 x4_119 H locs ls h hw hl
          refine lv_iinc (v := (v6 + (1 : Int32))) (lv' := [(6, .int (v6 + (1 : Int32))), (0, .ref (w.1 45)), (1, .int v1), (3, .int x3_119), (4, .long x4_119)]) hx hb dX6_decode_119 hl (k := 4) rfl rfl (by decide) rfl (fun ls hl => ?_)
          refine lv_goto (tgt := 54) hx hb dX6_decode_122 (by decide) ?_
          exact ih x3_119 x4_119 (v6 + (1 : Int32)) _ _ _ h hw (lv_sub hl [1, 2, 3, 4, 0] rfl)
set_option maxHeartbeats 4000000 in
set_option maxRecDepth 100000 in
theorem lX6_decode_35 {p : Program} {l : Launch} {e : Env} {s : State} {m : MethodId} {args : Array Value} {below : List Frame} {meth : Method} {c : Code} {Q : State → Prop} {w : WE} {cs : List Nat} {A : Nat → Prop} {H0 : Heap} (C : CallFix p m c cX6_decode 8 s args wsX6_decode RX6) (hK : KW w s) (hcs : ∀ c, c < 56 → c ∈ cs) {K178 : Int32 → GS → BS → Prop} (k178 : ∀ (y1 : Int32) (G : GS) (B : BS) (H : Heap) (locs : List Loc) (ls : Array Slot), K178 y1 G B → WO w cs A H0 G B H locs → lv_has ls 8 [(0, .ref (w.1 45)), (1, .int y1)] → W p l e (rmW 2) s m args below meth c H locs 0 0 Q (F0 m 178 ls [])) : ∀ (n : Nat) (v1 : Int32) (v2 : Int32) (G : GS) (B : BS) (H : Heap) (locs : List Loc) (ls : Array Slot), wlX6_decode_35 K178 n v1 v2 G B → WO w cs A H0 G B H locs → lv_has ls 8 [(0, .ref (w.1 45)), (1, .int v1), (2, .int v2)] → W p l e (rmW 2) s m args below meth c H locs 0 0 Q (F0 m 35 ls []) := by
  have hx := C.1
  have hb := C.2.1
  have hown := C.2.2.2.1
  have hta := fun w h => C.2.2.2.2 w (List.mem_cons_of_mem _ h)
  intro n
  induction n with
  | zero => intro v1 v2 G B H locs ls h hw hl; exact False.elim h
  | succ n ih =>
    intro v1 v2 G B H locs ls h hw hl
    refine lv_iload_n hx hb dX6_decode_35 rfl (lv_at hl 2 rfl) ?_
    refine lv_if_eq (tgt := 178) hx hb dX6_decode_36 (by decide) (fun c4 => ?_) (fun c4 => ?_)
    · have h := h.1 c4
      exact k178 v1 G B _ _ _ h hw (lv_sub hl [0, 1] rfl)
    · have h := h.2 c4
      refine lv_iload_n hx hb dX6_decode_39 rfl (lv_at hl 1 rfl) ?_
      refine lv_sipush (v := 200) hx hb dX6_decode_40 (by decide) ?_
      refine lv_icmp_ge (tgt := 178) hx hb dX6_decode_43 (by decide) (fun c5 => ?_) (fun c5 => ?_)
      · have h := h.1 c5
        exact k178 v1 G B _ _ _ h hw (lv_sub hl [0, 1] rfl)
      · have h := h.2 c5
        refine lv_iconst (v := -1) hx hb dX6_decode_46 (by decide) ?_
        refine lv_istore_n (lv' := [(3, .int (-1 : Int32)), (0, .ref (w.1 45)), (1, .int v1), (2, .int v2)]) hx hb dX6_decode_47 rfl hl (by decide) rfl (fun ls hl => ?_)
        refine lv_lconst (v := 0) hx hb dX6_decode_48 (by decide) ?_
        refine lv_lstore (lv' := [(4, .long (0 : Int64)), (3, .int (-1 : Int32)), (0, .ref (w.1 45)), (1, .int v1), (2, .int v2)]) hx hb dX6_decode_49 hl (by decide) rfl (fun ls hl => ?_)
        refine lv_iconst (v := 0) hx hb dX6_decode_51 (by decide) ?_
        refine lv_istore (lv' := [(6, .int (0 : Int32)), (4, .long (0 : Int64)), (3, .int (-1 : Int32)), (0, .ref (w.1 45)), (1, .int v1), (2, .int v2)]) hx hb dX6_decode_52 hl (by decide) rfl (fun ls hl => ?_)
        obtain ⟨n54, h⟩ := h
        refine lX6_decode_54 C hK hcs v1 G B (K125 := _) ?_ n54 (-1 : Int32) (0 : Int64) (0 : Int32) _ _ _ h hw (lv_sub hl [3, 4, 2, 1, 0] rfl)
        · intro x3_125 x4_125 H locs ls h hw hl
          refine lv_iload_n hx hb dX6_decode_125 rfl (lv_at hl 2 rfl) ?_
          refine lv_if_lt (tgt := 133) hx hb dX6_decode_126 (by decide) (fun c11 => ?_) (fun c11 => ?_)
          · have h := h.1 c11
            refine lv_iconst (v := 0) hx hb dX6_decode_133 (by decide) ?_
            refine lv_istore_n (lv' := [(2, .int (0 : Int32)), (0, .ref (w.1 45)), (1, .int v1), (3, .int x3_125), (4, .long x4_125)]) hx hb dX6_decode_134 rfl hl (by decide) rfl (fun ls hl => ?_)
            refine lv_iload_n hx hb dX6_decode_135 rfl (lv_at hl 0 rfl) ?_
            refine lv_if_eq (tgt := 175) hx hb dX6_decode_136 (by decide) (fun c12 => ?_) (fun c12 => ?_)
            · have h := h.1 c12
              refine lv_goto (tgt := 35) hx hb dX6_decode_175 (by decide) ?_
              exact ih v1 (0 : Int32) G B _ _ _ h hw (lv_sub hl [1, 2, 0] rfl)
            · have h := h.2 c12
              refine lv_iload_n hx hb dX6_decode_139 rfl (lv_at hl 2 rfl) ?_
              refine lv_bipush (v := 100) hx hb dX6_decode_140 (by decide) ?_
              refine lv_icmp_ge (tgt := 161) hx hb dX6_decode_142 (by decide) (fun c13 => ?_) (fun c13 => ?_)
              · have h := h.1 c13
                refine lv_aload_n hx hb dX6_decode_161 rfl (lv_at hl 1 rfl) ?_
                refine lv_sipush (v := 384) hx hb dX6_decode_162 (by decide) ?_
                refine lv_iload_n hx hb dX6_decode_165 rfl (lv_at hl 3 rfl) ?_
                refine lv_lload hx hb dX6_decode_166 (lv_at hl 4 rfl) ?_
                refine lv_lneg hx hb dX6_decode_168 ?_
                refine q_callv hw (va_runV (As := [.int (384 : Int32), .int x3_125, .long (-x4_125)]) (rest := []) C (mX6_adds l w cs (fun c h => hcs c (by omega)) _ G B (384 : Int32) x3_125 (-x4_125) _ h) (cwV 3 hta (gVw kw_385 kw_386 kw_387 kw_17 kw_384) rfl rfl rfl (by decide +kernel) ⟨Nat.le_of_ble_eq_true rfl, Nat.le_of_ble_eq_true rfl⟩) (preV hK hw 45 (hcs _ (by omega)) (by unfold isB; omega) rfl rfl _) rfl rfl hl.1 rfl (lv_room (Nat.le_of_ble_eq_true rfl)) dX6_decode_169 ⟨Nat.le_refl 0, Nat.le_refl 0⟩) (fun G169 B169 H locs h hw => ?_)
                obtain ⟨e1, h⟩ := h; subst e1
                refine lv_iinc (v := (v1 + (1 : Int32))) (lv' := [(1, .int (v1 + (1 : Int32))), (2, .int (0 : Int32)), (0, .ref (w.1 45)), (3, .int x3_125), (4, .long x4_125)]) hx hb dX6_decode_172 hl (k := 2) rfl rfl (by decide) rfl (fun ls hl => ?_)
                refine lv_goto (tgt := 35) hx hb dX6_decode_175 (by decide) ?_
                exact ih (v1 + (1 : Int32)) (0 : Int32) G B169 _ _ _ h hw (lv_sub hl [2, 0, 1] rfl)
              · have h := h.2 c13
                refine lv_aload_n hx hb dX6_decode_145 rfl (lv_at hl 1 rfl) ?_
                refine q_get (v := .ref (w.1 50)) (C := RX6) (T := TX6) (N := 17) (ci := 6) hx hb hta kw_X6 hown hK hw 45 (hcs _ (by omega)) (by unfold isB; omega) rfl rfl 11 (by decide) (hta _ kw_392) rfl rfl dX6_decode_146 ?_
                refine lv_iload_n hx hb dX6_decode_149 rfl (lv_at hl 2 rfl) ?_
                refine lv_iload_n hx hb dX6_decode_150 rfl (lv_at hl 3 rfl) ?_
                obtain ⟨hin14, h⟩ := h
                refine q_iast (n := 100) hx hb hK hw (hcs _ (by omega)) (by unfold isI; omega) rfl hin14 dX6_decode_151 (fun H locs G151 eG151 hw => ?_)
                have h := h G151 eG151
                refine lv_aload_n hx hb dX6_decode_152 rfl (lv_at hl 1 rfl) ?_
                refine q_get (v := .ref (w.1 51)) (C := RX6) (T := TX6) (N := 17) (ci := 6) hx hb hta kw_X6 hown hK hw 45 (hcs _ (by omega)) (by unfold isB; omega) rfl rfl 12 (by decide) (hta _ kw_393) rfl rfl dX6_decode_153 ?_
                refine lv_iload_n hx hb dX6_decode_156 rfl (lv_at hl 2 rfl) ?_
                refine lv_lload hx hb dX6_decode_157 (lv_at hl 4 rfl) ?_
                refine lv_l2i hx hb dX6_decode_159 rfl ?_
                obtain ⟨hin15, h⟩ := h
                refine q_iast (n := 100) hx hb hK hw (hcs _ (by omega)) (by unfold isI; omega) rfl hin15 dX6_decode_160 (fun H locs G160 eG160 hw => ?_)
                have h := h G160 eG160
                refine lv_aload_n hx hb dX6_decode_161 rfl (lv_at hl 1 rfl) ?_
                refine lv_sipush (v := 384) hx hb dX6_decode_162 (by decide) ?_
                refine lv_iload_n hx hb dX6_decode_165 rfl (lv_at hl 3 rfl) ?_
                refine lv_lload hx hb dX6_decode_166 (lv_at hl 4 rfl) ?_
                refine lv_lneg hx hb dX6_decode_168 ?_
                refine q_callv hw (va_runV (As := [.int (384 : Int32), .int x3_125, .long (-x4_125)]) (rest := []) C (mX6_adds l w cs (fun c h => hcs c (by omega)) _ G160 B (384 : Int32) x3_125 (-x4_125) _ h) (cwV 3 hta (gVw kw_385 kw_386 kw_387 kw_17 kw_384) rfl rfl rfl (by decide +kernel) ⟨Nat.le_of_ble_eq_true rfl, Nat.le_of_ble_eq_true rfl⟩) (preV hK hw 45 (hcs _ (by omega)) (by unfold isB; omega) rfl rfl _) rfl rfl hl.1 rfl (lv_room (Nat.le_of_ble_eq_true rfl)) dX6_decode_169 ⟨Nat.le_refl 0, Nat.le_refl 0⟩) (fun G169 B169 H locs h hw => ?_)
                obtain ⟨e1, h⟩ := h; subst e1
                refine lv_iinc (v := (v1 + (1 : Int32))) (lv' := [(1, .int (v1 + (1 : Int32))), (2, .int (0 : Int32)), (0, .ref (w.1 45)), (3, .int x3_125), (4, .long x4_125)]) hx hb dX6_decode_172 hl (k := 2) rfl rfl (by decide) rfl (fun ls hl => ?_)
                refine lv_goto (tgt := 35) hx hb dX6_decode_175 (by decide) ?_
                exact ih (v1 + (1 : Int32)) (0 : Int32) G160 B169 _ _ _ h hw (lv_sub hl [2, 0, 1] rfl)
          · have h := h.2 c11
            refine lv_iconst (v := 1) hx hb dX6_decode_129 (by decide) ?_
            refine lv_goto (tgt := 134) hx hb dX6_decode_130 (by decide) ?_
            refine lv_istore_n (lv' := [(2, .int (1 : Int32)), (0, .ref (w.1 45)), (1, .int v1), (3, .int x3_125), (4, .long x4_125)]) hx hb dX6_decode_134 rfl hl (by decide) rfl (fun ls hl => ?_)
            refine lv_iload_n hx hb dX6_decode_135 rfl (lv_at hl 0 rfl) ?_
            refine lv_if_eq (tgt := 175) hx hb dX6_decode_136 (by decide) (fun c16 => ?_) (fun c16 => ?_)
            · have h := h.1 c16
              refine lv_goto (tgt := 35) hx hb dX6_decode_175 (by decide) ?_
              exact ih v1 (1 : Int32) G B _ _ _ h hw (lv_sub hl [1, 2, 0] rfl)
            · have h := h.2 c16
              refine lv_iload_n hx hb dX6_decode_139 rfl (lv_at hl 2 rfl) ?_
              refine lv_bipush (v := 100) hx hb dX6_decode_140 (by decide) ?_
              refine lv_icmp_ge (tgt := 161) hx hb dX6_decode_142 (by decide) (fun c17 => ?_) (fun c17 => ?_)
              · have h := h.1 c17
                refine lv_aload_n hx hb dX6_decode_161 rfl (lv_at hl 1 rfl) ?_
                refine lv_sipush (v := 384) hx hb dX6_decode_162 (by decide) ?_
                refine lv_iload_n hx hb dX6_decode_165 rfl (lv_at hl 3 rfl) ?_
                refine lv_lload hx hb dX6_decode_166 (lv_at hl 4 rfl) ?_
                refine lv_lneg hx hb dX6_decode_168 ?_
                refine q_callv hw (va_runV (As := [.int (384 : Int32), .int x3_125, .long (-x4_125)]) (rest := []) C (mX6_adds l w cs (fun c h => hcs c (by omega)) _ G B (384 : Int32) x3_125 (-x4_125) _ h) (cwV 3 hta (gVw kw_385 kw_386 kw_387 kw_17 kw_384) rfl rfl rfl (by decide +kernel) ⟨Nat.le_of_ble_eq_true rfl, Nat.le_of_ble_eq_true rfl⟩) (preV hK hw 45 (hcs _ (by omega)) (by unfold isB; omega) rfl rfl _) rfl rfl hl.1 rfl (lv_room (Nat.le_of_ble_eq_true rfl)) dX6_decode_169 ⟨Nat.le_refl 0, Nat.le_refl 0⟩) (fun G169 B169 H locs h hw => ?_)
                obtain ⟨e1, h⟩ := h; subst e1
                refine lv_iinc (v := (v1 + (1 : Int32))) (lv' := [(1, .int (v1 + (1 : Int32))), (2, .int (1 : Int32)), (0, .ref (w.1 45)), (3, .int x3_125), (4, .long x4_125)]) hx hb dX6_decode_172 hl (k := 2) rfl rfl (by decide) rfl (fun ls hl => ?_)
                refine lv_goto (tgt := 35) hx hb dX6_decode_175 (by decide) ?_
                exact ih (v1 + (1 : Int32)) (1 : Int32) G B169 _ _ _ h hw (lv_sub hl [2, 0, 1] rfl)
              · have h := h.2 c17
                refine lv_aload_n hx hb dX6_decode_145 rfl (lv_at hl 1 rfl) ?_
                refine q_get (v := .ref (w.1 50)) (C := RX6) (T := TX6) (N := 17) (ci := 6) hx hb hta kw_X6 hown hK hw 45 (hcs _ (by omega)) (by unfold isB; omega) rfl rfl 11 (by decide) (hta _ kw_392) rfl rfl dX6_decode_146 ?_
                refine lv_iload_n hx hb dX6_decode_149 rfl (lv_at hl 2 rfl) ?_
                refine lv_iload_n hx hb dX6_decode_150 rfl (lv_at hl 3 rfl) ?_
                obtain ⟨hin18, h⟩ := h
                refine q_iast (n := 100) hx hb hK hw (hcs _ (by omega)) (by unfold isI; omega) rfl hin18 dX6_decode_151 (fun H locs G151 eG151 hw => ?_)
                have h := h G151 eG151
                refine lv_aload_n hx hb dX6_decode_152 rfl (lv_at hl 1 rfl) ?_
                refine q_get (v := .ref (w.1 51)) (C := RX6) (T := TX6) (N := 17) (ci := 6) hx hb hta kw_X6 hown hK hw 45 (hcs _ (by omega)) (by unfold isB; omega) rfl rfl 12 (by decide) (hta _ kw_393) rfl rfl dX6_decode_153 ?_
                refine lv_iload_n hx hb dX6_decode_156 rfl (lv_at hl 2 rfl) ?_
                refine lv_lload hx hb dX6_decode_157 (lv_at hl 4 rfl) ?_
                refine lv_l2i hx hb dX6_decode_159 rfl ?_
                obtain ⟨hin19, h⟩ := h
                refine q_iast (n := 100) hx hb hK hw (hcs _ (by omega)) (by unfold isI; omega) rfl hin19 dX6_decode_160 (fun H locs G160 eG160 hw => ?_)
                have h := h G160 eG160
                refine lv_aload_n hx hb dX6_decode_161 rfl (lv_at hl 1 rfl) ?_
                refine lv_sipush (v := 384) hx hb dX6_decode_162 (by decide) ?_
                refine lv_iload_n hx hb dX6_decode_165 rfl (lv_at hl 3 rfl) ?_
                refine lv_lload hx hb dX6_decode_166 (lv_at hl 4 rfl) ?_
                refine lv_lneg hx hb dX6_decode_168 ?_
                refine q_callv hw (va_runV (As := [.int (384 : Int32), .int x3_125, .long (-x4_125)]) (rest := []) C (mX6_adds l w cs (fun c h => hcs c (by omega)) _ G160 B (384 : Int32) x3_125 (-x4_125) _ h) (cwV 3 hta (gVw kw_385 kw_386 kw_387 kw_17 kw_384) rfl rfl rfl (by decide +kernel) ⟨Nat.le_of_ble_eq_true rfl, Nat.le_of_ble_eq_true rfl⟩) (preV hK hw 45 (hcs _ (by omega)) (by unfold isB; omega) rfl rfl _) rfl rfl hl.1 rfl (lv_room (Nat.le_of_ble_eq_true rfl)) dX6_decode_169 ⟨Nat.le_refl 0, Nat.le_refl 0⟩) (fun G169 B169 H locs h hw => ?_)
                obtain ⟨e1, h⟩ := h; subst e1
                refine lv_iinc (v := (v1 + (1 : Int32))) (lv' := [(1, .int (v1 + (1 : Int32))), (2, .int (1 : Int32)), (0, .ref (w.1 45)), (3, .int x3_125), (4, .long x4_125)]) hx hb dX6_decode_172 hl (k := 2) rfl rfl (by decide) rfl (fun ls hl => ?_)
                refine lv_goto (tgt := 35) hx hb dX6_decode_175 (by decide) ?_
                exact ih (v1 + (1 : Int32)) (1 : Int32) G160 B169 _ _ _ h hw (lv_sub hl [2, 0, 1] rfl)
set_option maxHeartbeats 4000000 in
set_option maxRecDepth 100000 in
theorem lX6_decode_190 {p : Program} {l : Launch} {e : Env} {s : State} {m : MethodId} {args : Array Value} {below : List Frame} {meth : Method} {c : Code} {Q : State → Prop} {w : WE} {cs : List Nat} {A : Nat → Prop} {H0 : Heap} (C : CallFix p m c cX6_decode 8 s args wsX6_decode RX6) (hK : KW w s) (hcs : ∀ c, c < 56 → c ∈ cs) (v1 : Int32) (G : GS) (B : BS) {K226 : Int32 → Prop} (k226 : ∀ (y3 : Int32) (H : Heap) (locs : List Loc) (ls : Array Slot), K226 y3 → WO w cs A H0 G B H locs → lv_has ls 8 [(1, .int v1), (3, .int y3)] → W p l e (rmW 2) s m args below meth c H locs 0 0 Q (F0 m 226 ls [])) : ∀ (n : Nat) (v3 : Int32) (v4 : Int32) (H : Heap) (locs : List Loc) (ls : Array Slot), wlX6_decode_190 K226 v1 B n v3 v4 → WO w cs A H0 G B H locs → lv_has ls 8 [(0, .ref (w.1 45)), (1, .int v1), (3, .int v3), (4, .int v4)] → W p l e (rmW 2) s m args below meth c H locs 0 0 Q (F0 m 190 ls []) := by
  have hx := C.1
  have hb := C.2.1
  have hown := C.2.2.2.1
  have hta := fun w h => C.2.2.2.2 w (List.mem_cons_of_mem _ h)
  intro n
  induction n with
  | zero => intro v3 v4 H locs ls h hw hl; exact False.elim h
  | succ n ih =>
    intro v3 v4 H locs ls h hw hl
    refine lv_iload hx hb dX6_decode_190 (lv_at hl 3 rfl) ?_
    refine lv_sipush (v := 768) hx hb dX6_decode_192 (by decide) ?_
    refine lv_icmp_ge (tgt := 226) hx hb dX6_decode_195 (by decide) (fun c20 => ?_) (fun c20 => ?_)
    · have h := h.1 c20
      exact k226 v3 _ _ _ h hw (lv_sub hl [1, 2] rfl)
    · have h := h.2 c20
      refine lv_iload_n hx hb dX6_decode_198 rfl (lv_at hl 2 rfl) ?_
      refine lv_if_eq (tgt := 218) hx hb dX6_decode_199 (by decide) (fun c21 => ?_) (fun c21 => ?_)
      · have h := h.1 c21
        refine lv_iconst (v := 0) hx hb dX6_decode_218 (by decide) ?_
        refine lv_istore_n (lv' := [(3, .int (0 : Int32)), (0, .ref (w.1 45)), (1, .int v1), (4, .int v4)]) hx hb dX6_decode_219 rfl hl (by decide) rfl (fun ls hl => ?_)
        refine lv_iinc (v := (v4 + (1 : Int32))) (lv' := [(4, .int (v4 + (1 : Int32))), (3, .int (0 : Int32)), (0, .ref (w.1 45)), (1, .int v1)]) hx hb dX6_decode_220 hl (k := 3) rfl rfl (by decide) rfl (fun ls hl => ?_)
        refine lv_goto (tgt := 190) hx hb dX6_decode_223 (by decide) ?_
        exact ih (0 : Int32) (v4 + (1 : Int32)) _ _ _ h hw (lv_sub hl [2, 3, 1, 0] rfl)
      · have h := h.2 c21
        refine lv_aload_n hx hb dX6_decode_202 rfl (lv_at hl 0 rfl) ?_
        refine q_get (v := .ref (w.1 49)) (C := RX6) (T := TX6) (N := 17) (ci := 6) hx hb hta kw_X6 hown hK hw 45 (hcs _ (by omega)) (by unfold isB; omega) rfl rfl 9 (by decide) (hta _ kw_372) rfl rfl dX6_decode_203 ?_
        refine lv_iload hx hb dX6_decode_206 (lv_at hl 3 rfl) ?_
        obtain ⟨hin22, h⟩ := h
        refine q_lald (n := 768) hx hb hK hw (hcs _ (by omega)) (by unfold isJ; omega) rfl hin22 dX6_decode_208 ?_
        refine lv_lconst (v := 0) hx hb dX6_decode_209 (by decide) ?_
        refine W.lcmp hx hb dX6_decode_210 ?_
        refine lv_if_ne (tgt := 218) hx hb dX6_decode_211 (by decide) (fun c23 => ?_) (fun c23 => ?_)
        · have h := h.1 c23
          refine lv_iconst (v := 0) hx hb dX6_decode_218 (by decide) ?_
          refine lv_istore_n (lv' := [(3, .int (0 : Int32)), (0, .ref (w.1 45)), (1, .int v1), (4, .int v4)]) hx hb dX6_decode_219 rfl hl (by decide) rfl (fun ls hl => ?_)
          refine lv_iinc (v := (v4 + (1 : Int32))) (lv' := [(4, .int (v4 + (1 : Int32))), (3, .int (0 : Int32)), (0, .ref (w.1 45)), (1, .int v1)]) hx hb dX6_decode_220 hl (k := 3) rfl rfl (by decide) rfl (fun ls hl => ?_)
          refine lv_goto (tgt := 190) hx hb dX6_decode_223 (by decide) ?_
          exact ih (0 : Int32) (v4 + (1 : Int32)) _ _ _ h hw (lv_sub hl [2, 3, 1, 0] rfl)
        · have h := h.2 c23
          refine lv_iconst (v := 1) hx hb dX6_decode_214 (by decide) ?_
          refine lv_goto (tgt := 219) hx hb dX6_decode_215 (by decide) ?_
          refine lv_istore_n (lv' := [(3, .int (1 : Int32)), (0, .ref (w.1 45)), (1, .int v1), (4, .int v4)]) hx hb dX6_decode_219 rfl hl (by decide) rfl (fun ls hl => ?_)
          refine lv_iinc (v := (v4 + (1 : Int32))) (lv' := [(4, .int (v4 + (1 : Int32))), (3, .int (1 : Int32)), (0, .ref (w.1 45)), (1, .int v1)]) hx hb dX6_decode_220 hl (k := 3) rfl rfl (by decide) rfl (fun ls hl => ?_)
          refine lv_goto (tgt := 190) hx hb dX6_decode_223 (by decide) ?_
          exact ih (1 : Int32) (v4 + (1 : Int32)) _ _ _ h hw (lv_sub hl [2, 3, 1, 0] rfl)
set_option maxHeartbeats 4000000 in
set_option maxRecDepth 100000 in
theorem mX6_decode (l : Launch) (w : WE) (cs : List Nat) (hcs : ∀ c, c < 56 → c ∈ cs) (sz : Nat) (G : GS) (B : BS) (P : Int32 → GS → BS → Prop) (h : wX6_decode G B P) : Met l yX6_decode wsX6_decode (rmW 2) (PcW w cs sz G B [.ref (w.1 45)]) (QI w cs sz (fun r G1 B1 => P r G1 B1)) 0 0 (AA w cs sz) := by
  refine metW (own := RX6) [.ref (w.1 45)] (by decide +kernel) rfl rfl (Nat.le_of_ble_eq_true rfl) ?_
  intro p e s m below meth c ls hsz C hr hK hw hl
  subst hsz
  have hx := C.1
  have hb := C.2.1
  have hown := C.2.2.2.1
  have hta := fun w h => C.2.2.2.2 w (List.mem_cons_of_mem _ h)
  have hl : lv_has ls 8 [(0, .ref (w.1 45))] := hl
  refine lv_iconst (v := 0) hx hb dX6_decode_0 (by decide) ?_
  refine lv_istore_n (lv' := [(1, .int (0 : Int32)), (0, .ref (w.1 45))]) hx hb dX6_decode_1 rfl hl (by decide) rfl (fun ls hl => ?_)
  obtain ⟨n2, h⟩ := h
  refine lX6_decode_2 C hK hcs G (K31 := _) ?_ n2 (0 : Int32) B _ _ _ h hw (lv_sub hl [1, 0] rfl)
  · intro B_31 H locs ls h hw hl
    refine lv_iconst (v := 0) hx hb dX6_decode_31 (by decide) ?_
    refine lv_istore_n (lv' := [(1, .int (0 : Int32)), (0, .ref (w.1 45))]) hx hb dX6_decode_32 rfl hl (by decide) rfl (fun ls hl => ?_)
    refine lv_iconst (v := 1) hx hb dX6_decode_33 (by decide) ?_
    refine lv_istore_n (lv' := [(2, .int (1 : Int32)), (1, .int (0 : Int32)), (0, .ref (w.1 45))]) hx hb dX6_decode_34 rfl hl (by decide) rfl (fun ls hl => ?_)
    obtain ⟨n35, h⟩ := h
    refine lX6_decode_35 C hK hcs (K178 := _) ?_ n35 (0 : Int32) (1 : Int32) G B_31 _ _ _ h hw (lv_sub hl [2, 1, 0] rfl)
    · intro x1_178 G_178 B_178 H locs ls h hw hl
      refine lv_aload_n hx hb dX6_decode_178 rfl (lv_at hl 0 rfl) ?_
      refine lv_iload_n hx hb dX6_decode_179 rfl (lv_at hl 1 rfl) ?_
      refine q_put (x := x1_178) (C := RX6) (T := TX6) (N := 17) (ci := 6) hx hb hta kw_X6 tyX6 tyX6_ok nmX6 hown hK hw 45 (hcs _ (by omega)) (by unfold isB; omega) rfl rfl 10 (by decide) (hta _ kw_371) rfl rfl rfl (Nat.le_of_ble_eq_true rfl) rfl dX6_decode_180 (fun H locs G180 eG180 hw => ?_)
      have h := h G180 eG180
      refine lv_iconst (v := 1) hx hb dX6_decode_183 (by decide) ?_
      refine lv_istore_n (lv' := [(3, .int (1 : Int32)), (0, .ref (w.1 45)), (1, .int x1_178)]) hx hb dX6_decode_184 rfl hl (by decide) rfl (fun ls hl => ?_)
      refine lv_sipush (v := 384) hx hb dX6_decode_185 (by decide) ?_
      refine lv_istore (lv' := [(4, .int (384 : Int32)), (3, .int (1 : Int32)), (0, .ref (w.1 45)), (1, .int x1_178)]) hx hb dX6_decode_188 hl (by decide) rfl (fun ls hl => ?_)
      obtain ⟨n190, h⟩ := h
      refine lX6_decode_190 C hK hcs x1_178 G180 B_178 (K226 := _) ?_ n190 (1 : Int32) (384 : Int32) _ _ _ h hw (lv_sub hl [2, 3, 1, 0] rfl)
      · intro x3_226 H locs ls h hw hl
        refine lv_iload_n hx hb dX6_decode_226 rfl (lv_at hl 0 rfl) ?_
        refine lv_iload_n hx hb dX6_decode_227 rfl (lv_at hl 1 rfl) ?_
        refine lv_if_eq (tgt := 237) hx hb dX6_decode_228 (by decide) (fun c24 => ?_) (fun c24 => ?_)
        · have h := h.1 c24
          refine lv_iconst (v := 0) hx hb dX6_decode_237 (by decide) ?_
          refine lv_iadd hx hb dX6_decode_238 ?_
          exact q_reti hx hb hr hw h dX6_decode_239
        · have h := h.2 c24
          refine lv_sipush (v := 10000) hx hb dX6_decode_231 (by decide) ?_
          refine lv_goto (tgt := 238) hx hb dX6_decode_234 (by decide) ?_
          refine lv_iadd hx hb dX6_decode_238 ?_
          exact q_reti hx hb hr hw h dX6_decode_239
def wX6_decoded (v1 : Int32) (v2 : Int32) (G : GS) (P : Int32 → Prop) : Prop := ((v1 < 0 → P (-1000000001 : Int32)) ∧ (¬ v1 < 0 → (wX6_in v2.toInt64 (0 : Int64) (1 : Int64) (fun r8 => ((¬ r8 = 0 → (((G 45 10) ≤ v1 → P (-1000000004 : Int32)) ∧ (¬ (G 45 10) ≤ v1 → ((v1 < (100 : Int32) → ((¬ v2 = 0 → (vp_in v1 100 ∧ P (G 51 (cl v1)))) ∧ (v2 = 0 → (vp_in v1 100 ∧ P (G 50 (cl v1)))))) ∧ (¬ v1 < (100 : Int32) → P (-1000000004 : Int32)))))) ∧ (r8 = 0 → P (-1000000001 : Int32)))))))
set_option maxHeartbeats 4000000 in
set_option maxRecDepth 100000 in
theorem mX6_decoded (l : Launch) (w : WE) (cs : List Nat) (hcs : ∀ c, c < 56 → c ∈ cs) (sz : Nat) (G : GS) (B : BS) (v1 : Int32) (v2 : Int32) (P : Int32 → Prop) (h : wX6_decoded v1 v2 G P) : Met l yX6_decoded wsX6_decoded (rmW 1) (PcW w cs sz G B [.ref (w.1 45), .int v1, .int v2]) (QI w cs sz (fun r G1 B1 => P r ∧ G = G1 ∧ B = B1)) 0 0 (AA w cs sz) := by
  refine metW (own := RX6) [.ref (w.1 45), .int v1, .int v2] (by decide +kernel) rfl rfl (Nat.le_of_ble_eq_true rfl) ?_
  intro p e s m below meth c ls hsz C hr hK hw hl
  subst hsz
  have hx := C.1
  have hb := C.2.1
  have hown := C.2.2.2.1
  have hta := fun w h => C.2.2.2.2 w (List.mem_cons_of_mem _ h)
  have hl : lv_has ls 3 [(0, .ref (w.1 45)), (1, .int v1), (2, .int v2)] := hl
  refine lv_iload_n hx hb dX6_decoded_0 rfl (lv_at hl 1 rfl) ?_
  refine lv_if_lt (tgt := 14) hx hb dX6_decoded_1 (by decide) (fun c1 => ?_) (fun c1 => ?_)
  · have h := h.1 c1
    refine lv_ldc hx hb hown (hta _ kw_394) dX6_decoded_14 ?_
    exact q_reti hx hb hr hw ⟨h, rfl, rfl⟩ dX6_decoded_16
  · have h := h.2 c1
    refine lv_iload_n hx hb dX6_decoded_4 rfl (lv_at hl 2 rfl) ?_
    refine lv_i2l hx hb dX6_decoded_5 rfl ?_
    refine lv_lconst (v := 0) hx hb dX6_decoded_6 (by decide) ?_
    refine lv_lconst (v := 1) hx hb dX6_decoded_7 (by decide) ?_
    refine q_calli hw (va_runS (As := [.long v2.toInt64, .long (0 : Int64), .long (1 : Int64)]) (rest := []) C (mX6_in l w cs _ G B v2.toInt64 (0 : Int64) (1 : Int64) _ h) (va_cwS 3 hta (gSw kw_15 kw_16 kw_17 kw_14) rfl rfl rfl (by decide +kernel) ⟨Nat.le_of_ble_eq_true rfl, Nat.le_of_ble_eq_true rfl⟩) (preS hK hw _) rfl rfl hl.1 rfl (lv_room (Nat.le_of_ble_eq_true rfl)) dX6_decoded_8 ⟨Nat.le_refl 0, Nat.le_refl 0⟩) (fun r8 G8 B8 H locs h hw => ?_)
    obtain ⟨h, e1, e2⟩ := h; subst e1; subst e2
    refine lv_if_ne (tgt := 17) hx hb dX6_decoded_11 (by decide) (fun c2 => ?_) (fun c2 => ?_)
    · have h := h.1 c2
      refine lv_iload_n hx hb dX6_decoded_17 rfl (lv_at hl 1 rfl) ?_
      refine lv_aload_n hx hb dX6_decoded_18 rfl (lv_at hl 0 rfl) ?_
      refine q_get (v := .int (G 45 10)) (C := RX6) (T := TX6) (N := 17) (ci := 6) hx hb hta kw_X6 hown hK hw 45 (hcs _ (by omega)) (by unfold isB; omega) rfl rfl 10 (by decide) (hta _ kw_371) rfl rfl dX6_decoded_19 ?_
      refine lv_icmp_ge (tgt := 31) hx hb dX6_decoded_22 (by decide) (fun c3 => ?_) (fun c3 => ?_)
      · have h := h.1 c3
        refine lv_ldc hx hb hown (hta _ kw_395) dX6_decoded_31 ?_
        exact q_reti hx hb hr hw ⟨h, rfl, rfl⟩ dX6_decoded_33
      · have h := h.2 c3
        refine lv_iload_n hx hb dX6_decoded_25 rfl (lv_at hl 1 rfl) ?_
        refine lv_bipush (v := 100) hx hb dX6_decoded_26 (by decide) ?_
        refine lv_icmp_lt (tgt := 34) hx hb dX6_decoded_28 (by decide) (fun c4 => ?_) (fun c4 => ?_)
        · have h := h.1 c4
          refine lv_iload_n hx hb dX6_decoded_34 rfl (lv_at hl 2 rfl) ?_
          refine lv_if_ne (tgt := 47) hx hb dX6_decoded_35 (by decide) (fun c5 => ?_) (fun c5 => ?_)
          · have h := h.1 c5
            refine lv_aload_n hx hb dX6_decoded_47 rfl (lv_at hl 0 rfl) ?_
            refine q_get (v := .ref (w.1 51)) (C := RX6) (T := TX6) (N := 17) (ci := 6) hx hb hta kw_X6 hown hK hw 45 (hcs _ (by omega)) (by unfold isB; omega) rfl rfl 12 (by decide) (hta _ kw_393) rfl rfl dX6_decoded_48 ?_
            refine lv_iload_n hx hb dX6_decoded_51 rfl (lv_at hl 1 rfl) ?_
            obtain ⟨hin6, h⟩ := h
            refine q_iald (n := 100) hx hb hK hw (hcs _ (by omega)) (by unfold isI; omega) rfl hin6 dX6_decoded_52 ?_
            exact q_reti hx hb hr hw ⟨h, rfl, rfl⟩ dX6_decoded_53
          · have h := h.2 c5
            refine lv_aload_n hx hb dX6_decoded_38 rfl (lv_at hl 0 rfl) ?_
            refine q_get (v := .ref (w.1 50)) (C := RX6) (T := TX6) (N := 17) (ci := 6) hx hb hta kw_X6 hown hK hw 45 (hcs _ (by omega)) (by unfold isB; omega) rfl rfl 11 (by decide) (hta _ kw_392) rfl rfl dX6_decoded_39 ?_
            refine lv_iload_n hx hb dX6_decoded_42 rfl (lv_at hl 1 rfl) ?_
            obtain ⟨hin7, h⟩ := h
            refine q_iald (n := 100) hx hb hK hw (hcs _ (by omega)) (by unfold isI; omega) rfl hin7 dX6_decoded_43 ?_
            refine lv_goto (tgt := 53) hx hb dX6_decoded_44 (by decide) ?_
            exact q_reti hx hb hr hw ⟨h, rfl, rfl⟩ dX6_decoded_53
        · have h := h.2 c4
          refine lv_ldc hx hb hown (hta _ kw_395) dX6_decoded_31 ?_
          exact q_reti hx hb hr hw ⟨h, rfl, rfl⟩ dX6_decoded_33
    · have h := h.2 c2
      refine lv_ldc hx hb hown (hta _ kw_394) dX6_decoded_14 ?_
      exact q_reti hx hb hr hw ⟨h, rfl, rfl⟩ dX6_decoded_16
def wX6_bucket (v1 : Int32) (v2 : Int32) (v3 : Int32) (G : GS) (B : BS) (P : Int64 → Prop) : Prop := (wX6_in v1.toInt64 (0 : Int64) ((G 45 6) - (1 : Int32)).toInt64 (fun r10 => ((r10 = 0 → P (-1000000000000000000 : Int64)) ∧ (¬ r10 = 0 → (wX6_in v2.toInt64 (0 : Int64) ((G 45 7) - (1 : Int32)).toInt64 (fun r26 => ((r26 = 0 → P (-1000000000000000000 : Int64)) ∧ (¬ r26 = 0 → (wX6_in v3.toInt64 (0 : Int64) (2 : Int64) (fun r38 => ((r38 = 0 → P (-1000000000000000000 : Int64)) ∧ (¬ r38 = 0 → (vp_in ((((96 : Int32) * v1) + ((3 : Int32) * v2)) + v3) 768 ∧ P (B 49 (cl ((((96 : Int32) * v1) + ((3 : Int32) * v2)) + v3))))))))))))))))
set_option maxHeartbeats 4000000 in
set_option maxRecDepth 100000 in
theorem mX6_bucket (l : Launch) (w : WE) (cs : List Nat) (hcs : ∀ c, c < 56 → c ∈ cs) (sz : Nat) (G : GS) (B : BS) (v1 : Int32) (v2 : Int32) (v3 : Int32) (P : Int64 → Prop) (h : wX6_bucket v1 v2 v3 G B P) : Met l yX6_bucket wsX6_bucket (rmW 1) (PcW w cs sz G B [.ref (w.1 45), .int v1, .int v2, .int v3]) (QL w cs sz (fun r G1 B1 => P r ∧ G = G1 ∧ B = B1)) 0 0 (AA w cs sz) := by
  refine metW (own := RX6) [.ref (w.1 45), .int v1, .int v2, .int v3] (by decide +kernel) rfl rfl (Nat.le_of_ble_eq_true rfl) ?_
  intro p e s m below meth c ls hsz C hr hK hw hl
  subst hsz
  have hx := C.1
  have hb := C.2.1
  have hown := C.2.2.2.1
  have hta := fun w h => C.2.2.2.2 w (List.mem_cons_of_mem _ h)
  have hl : lv_has ls 4 [(0, .ref (w.1 45)), (1, .int v1), (2, .int v2), (3, .int v3)] := hl
  refine lv_iload_n hx hb dX6_bucket_0 rfl (lv_at hl 1 rfl) ?_
  refine lv_i2l hx hb dX6_bucket_1 rfl ?_
  refine lv_lconst (v := 0) hx hb dX6_bucket_2 (by decide) ?_
  refine lv_aload_n hx hb dX6_bucket_3 rfl (lv_at hl 0 rfl) ?_
  refine q_get (v := .int (G 45 6)) (C := RX6) (T := TX6) (N := 17) (ci := 6) hx hb hta kw_X6 hown hK hw 45 (hcs _ (by omega)) (by unfold isB; omega) rfl rfl 6 (by decide) (hta _ kw_368) rfl rfl dX6_bucket_4 ?_
  refine lv_iconst (v := 1) hx hb dX6_bucket_7 (by decide) ?_
  refine lv_isub hx hb dX6_bucket_8 ?_
  refine lv_i2l hx hb dX6_bucket_9 rfl ?_
  refine q_calli hw (va_runS (As := [.long v1.toInt64, .long (0 : Int64), .long ((G 45 6) - (1 : Int32)).toInt64]) (rest := []) C (mX6_in l w cs _ G B v1.toInt64 (0 : Int64) ((G 45 6) - (1 : Int32)).toInt64 _ h) (va_cwS 3 hta (gSw kw_15 kw_16 kw_17 kw_14) rfl rfl rfl (by decide +kernel) ⟨Nat.le_of_ble_eq_true rfl, Nat.le_of_ble_eq_true rfl⟩) (preS hK hw _) rfl rfl hl.1 rfl (lv_room (Nat.le_of_ble_eq_true rfl)) dX6_bucket_10 ⟨Nat.le_refl 0, Nat.le_refl 0⟩) (fun r10 G10 B10 H locs h hw => ?_)
  obtain ⟨h, e1, e2⟩ := h; subst e1; subst e2
  refine lv_if_eq (tgt := 62) hx hb dX6_bucket_13 (by decide) (fun c1 => ?_) (fun c1 => ?_)
  · have h := h.1 c1
    refine lv_ldc2 hx hb hown (hta _ kw_396) dX6_bucket_62 ?_
    exact q_retl hx hb hr hw ⟨h, rfl, rfl⟩ dX6_bucket_65
  · have h := h.2 c1
    refine lv_iload_n hx hb dX6_bucket_16 rfl (lv_at hl 2 rfl) ?_
    refine lv_i2l hx hb dX6_bucket_17 rfl ?_
    refine lv_lconst (v := 0) hx hb dX6_bucket_18 (by decide) ?_
    refine lv_aload_n hx hb dX6_bucket_19 rfl (lv_at hl 0 rfl) ?_
    refine q_get (v := .int (G 45 7)) (C := RX6) (T := TX6) (N := 17) (ci := 6) hx hb hta kw_X6 hown hK hw 45 (hcs _ (by omega)) (by unfold isB; omega) rfl rfl 7 (by decide) (hta _ kw_369) rfl rfl dX6_bucket_20 ?_
    refine lv_iconst (v := 1) hx hb dX6_bucket_23 (by decide) ?_
    refine lv_isub hx hb dX6_bucket_24 ?_
    refine lv_i2l hx hb dX6_bucket_25 rfl ?_
    refine q_calli hw (va_runS (As := [.long v2.toInt64, .long (0 : Int64), .long ((G 45 7) - (1 : Int32)).toInt64]) (rest := []) C (mX6_in l w cs _ G B v2.toInt64 (0 : Int64) ((G 45 7) - (1 : Int32)).toInt64 _ h) (va_cwS 3 hta (gSw kw_15 kw_16 kw_17 kw_14) rfl rfl rfl (by decide +kernel) ⟨Nat.le_of_ble_eq_true rfl, Nat.le_of_ble_eq_true rfl⟩) (preS hK hw _) rfl rfl hl.1 rfl (lv_room (Nat.le_of_ble_eq_true rfl)) dX6_bucket_26 ⟨Nat.le_refl 0, Nat.le_refl 0⟩) (fun r26 G26 B26 H locs h hw => ?_)
    obtain ⟨h, e1, e2⟩ := h; subst e1; subst e2
    refine lv_if_eq (tgt := 62) hx hb dX6_bucket_29 (by decide) (fun c2 => ?_) (fun c2 => ?_)
    · have h := h.1 c2
      refine lv_ldc2 hx hb hown (hta _ kw_396) dX6_bucket_62 ?_
      exact q_retl hx hb hr hw ⟨h, rfl, rfl⟩ dX6_bucket_65
    · have h := h.2 c2
      refine lv_iload_n hx hb dX6_bucket_32 rfl (lv_at hl 3 rfl) ?_
      refine lv_i2l hx hb dX6_bucket_33 rfl ?_
      refine lv_lconst (v := 0) hx hb dX6_bucket_34 (by decide) ?_
      refine lv_ldc2 hx hb hown (hta _ kw_12) dX6_bucket_35 ?_
      refine q_calli hw (va_runS (As := [.long v3.toInt64, .long (0 : Int64), .long (2 : Int64)]) (rest := []) C (mX6_in l w cs _ G B v3.toInt64 (0 : Int64) (2 : Int64) _ h) (va_cwS 3 hta (gSw kw_15 kw_16 kw_17 kw_14) rfl rfl rfl (by decide +kernel) ⟨Nat.le_of_ble_eq_true rfl, Nat.le_of_ble_eq_true rfl⟩) (preS hK hw _) rfl rfl hl.1 rfl (lv_room (Nat.le_of_ble_eq_true rfl)) dX6_bucket_38 ⟨Nat.le_refl 0, Nat.le_refl 0⟩) (fun r38 G38 B38 H locs h hw => ?_)
      obtain ⟨h, e1, e2⟩ := h; subst e1; subst e2
      refine lv_if_eq (tgt := 62) hx hb dX6_bucket_41 (by decide) (fun c3 => ?_) (fun c3 => ?_)
      · have h := h.1 c3
        refine lv_ldc2 hx hb hown (hta _ kw_396) dX6_bucket_62 ?_
        exact q_retl hx hb hr hw ⟨h, rfl, rfl⟩ dX6_bucket_65
      · have h := h.2 c3
        refine lv_aload_n hx hb dX6_bucket_44 rfl (lv_at hl 0 rfl) ?_
        refine q_get (v := .ref (w.1 49)) (C := RX6) (T := TX6) (N := 17) (ci := 6) hx hb hta kw_X6 hown hK hw 45 (hcs _ (by omega)) (by unfold isB; omega) rfl rfl 9 (by decide) (hta _ kw_372) rfl rfl dX6_bucket_45 ?_
        refine lv_bipush (v := 96) hx hb dX6_bucket_48 (by decide) ?_
        refine lv_iload_n hx hb dX6_bucket_50 rfl (lv_at hl 1 rfl) ?_
        refine lv_imul hx hb dX6_bucket_51 ?_
        refine lv_iconst (v := 3) hx hb dX6_bucket_52 (by decide) ?_
        refine lv_iload_n hx hb dX6_bucket_53 rfl (lv_at hl 2 rfl) ?_
        refine lv_imul hx hb dX6_bucket_54 ?_
        refine lv_iadd hx hb dX6_bucket_55 ?_
        refine lv_iload_n hx hb dX6_bucket_56 rfl (lv_at hl 3 rfl) ?_
        refine lv_iadd hx hb dX6_bucket_57 ?_
        obtain ⟨hin4, h⟩ := h
        refine q_lald (n := 768) hx hb hK hw (hcs _ (by omega)) (by unfold isJ; omega) rfl hin4 dX6_bucket_58 ?_
        refine lv_goto (tgt := 65) hx hb dX6_bucket_59 (by decide) ?_
        exact q_retl hx hb hr hw ⟨h, rfl, rfl⟩ dX6_bucket_65
def wX6_count (v1 : Int32) (G : GS) (P : Int32 → Prop) : Prop := ((v1 = 0 → P (G 45 0)) ∧ ((v1 = 1 → P (G 45 1)) ∧ ((v1 = 2 → P (G 45 2)) ∧ ((v1 = 3 → P (G 45 6)) ∧ ((v1 = 4 → P (G 45 7)) ∧ ((v1 = 5 → P (G 45 8)) ∧ (¬ v1 = 0 ∧ ¬ v1 = 1 ∧ ¬ v1 = 2 ∧ ¬ v1 = 3 ∧ ¬ v1 = 4 ∧ ¬ v1 = 5 → P (-1 : Int32))))))))
set_option maxHeartbeats 4000000 in
set_option maxRecDepth 100000 in
theorem mX6_count (l : Launch) (w : WE) (cs : List Nat) (hcs : ∀ c, c < 56 → c ∈ cs) (sz : Nat) (G : GS) (B : BS) (v1 : Int32) (P : Int32 → Prop) (h : wX6_count v1 G P) : Met l yX6_count wsX6_count (rmW 0) (PcW w cs sz G B [.ref (w.1 45), .int v1]) (QI w cs sz (fun r G1 B1 => P r ∧ G = G1 ∧ B = B1)) 0 0 (AA w cs sz) := by
  refine metW (own := RX6) [.ref (w.1 45), .int v1] (by decide +kernel) rfl rfl (Nat.le_of_ble_eq_true rfl) ?_
  intro p e s m below meth c ls hsz C hr hK hw hl
  subst hsz
  have hx := C.1
  have hb := C.2.1
  have hown := C.2.2.2.1
  have hta := fun w h => C.2.2.2.2 w (List.mem_cons_of_mem _ h)
  have hl : lv_has ls 2 [(0, .ref (w.1 45)), (1, .int v1)] := hl
  refine lv_iload_n hx hb dX6_count_0 rfl (lv_at hl 1 rfl) ?_
  by_cases c1 : v1 = 0
  · have h := h.1 c1
    refine lv_tableIn (tgt := 40) hx hb dX6_count_1 (by rw [c1]; decide) (by rw [c1]; decide) (by rw [c1]; rfl) (by decide) ?_
    refine lv_aload_n hx hb dX6_count_40 rfl (lv_at hl 0 rfl) ?_
    refine q_get (v := .int (G 45 0)) (C := RX6) (T := TX6) (N := 17) (ci := 6) hx hb hta kw_X6 hown hK hw 45 (hcs _ (by omega)) (by unfold isB; omega) rfl rfl 0 (by decide) (hta _ kw_278) rfl rfl dX6_count_41 ?_
    exact q_reti hx hb hr hw ⟨h, rfl, rfl⟩ dX6_count_44
  have h := h.2
  by_cases c2 : v1 = 1
  · have h := h.1 c2
    refine lv_tableIn (tgt := 45) hx hb dX6_count_1 (by rw [c2]; decide) (by rw [c2]; decide) (by rw [c2]; rfl) (by decide) ?_
    refine lv_aload_n hx hb dX6_count_45 rfl (lv_at hl 0 rfl) ?_
    refine q_get (v := .int (G 45 1)) (C := RX6) (T := TX6) (N := 17) (ci := 6) hx hb hta kw_X6 hown hK hw 45 (hcs _ (by omega)) (by unfold isB; omega) rfl rfl 1 (by decide) (hta _ kw_284) rfl rfl dX6_count_46 ?_
    exact q_reti hx hb hr hw ⟨h, rfl, rfl⟩ dX6_count_49
  have h := h.2
  by_cases c3 : v1 = 2
  · have h := h.1 c3
    refine lv_tableIn (tgt := 50) hx hb dX6_count_1 (by rw [c3]; decide) (by rw [c3]; decide) (by rw [c3]; rfl) (by decide) ?_
    refine lv_aload_n hx hb dX6_count_50 rfl (lv_at hl 0 rfl) ?_
    refine q_get (v := .int (G 45 2)) (C := RX6) (T := TX6) (N := 17) (ci := 6) hx hb hta kw_X6 hown hK hw 45 (hcs _ (by omega)) (by unfold isB; omega) rfl rfl 2 (by decide) (hta _ kw_285) rfl rfl dX6_count_51 ?_
    exact q_reti hx hb hr hw ⟨h, rfl, rfl⟩ dX6_count_54
  have h := h.2
  by_cases c4 : v1 = 3
  · have h := h.1 c4
    refine lv_tableIn (tgt := 55) hx hb dX6_count_1 (by rw [c4]; decide) (by rw [c4]; decide) (by rw [c4]; rfl) (by decide) ?_
    refine lv_aload_n hx hb dX6_count_55 rfl (lv_at hl 0 rfl) ?_
    refine q_get (v := .int (G 45 6)) (C := RX6) (T := TX6) (N := 17) (ci := 6) hx hb hta kw_X6 hown hK hw 45 (hcs _ (by omega)) (by unfold isB; omega) rfl rfl 6 (by decide) (hta _ kw_368) rfl rfl dX6_count_56 ?_
    exact q_reti hx hb hr hw ⟨h, rfl, rfl⟩ dX6_count_59
  have h := h.2
  by_cases c5 : v1 = 4
  · have h := h.1 c5
    refine lv_tableIn (tgt := 60) hx hb dX6_count_1 (by rw [c5]; decide) (by rw [c5]; decide) (by rw [c5]; rfl) (by decide) ?_
    refine lv_aload_n hx hb dX6_count_60 rfl (lv_at hl 0 rfl) ?_
    refine q_get (v := .int (G 45 7)) (C := RX6) (T := TX6) (N := 17) (ci := 6) hx hb hta kw_X6 hown hK hw 45 (hcs _ (by omega)) (by unfold isB; omega) rfl rfl 7 (by decide) (hta _ kw_369) rfl rfl dX6_count_61 ?_
    exact q_reti hx hb hr hw ⟨h, rfl, rfl⟩ dX6_count_64
  have h := h.2
  by_cases c6 : v1 = 5
  · have h := h.1 c6
    refine lv_tableIn (tgt := 65) hx hb dX6_count_1 (by rw [c6]; decide) (by rw [c6]; decide) (by rw [c6]; rfl) (by decide) ?_
    refine lv_aload_n hx hb dX6_count_65 rfl (lv_at hl 0 rfl) ?_
    refine q_get (v := .int (G 45 8)) (C := RX6) (T := TX6) (N := 17) (ci := 6) hx hb hta kw_X6 hown hK hw 45 (hcs _ (by omega)) (by unfold isB; omega) rfl rfl 8 (by decide) (hta _ kw_370) rfl rfl dX6_count_66 ?_
    exact q_reti hx hb hr hw ⟨h, rfl, rfl⟩ dX6_count_69
  have h := h.2
  have h := h ⟨c1, c2, c3, c4, c5, c6⟩
  refine lv_tableOut (tgt := 70) hx hb dX6_count_1 (tsw_out5 c1 c2 c3 c4 c5 c6) (by decide) ?_
  refine lv_iconst (v := -1) hx hb dX6_count_70 (by decide) ?_
  exact q_reti hx hb hr hw ⟨h, rfl, rfl⟩ dX6_count_71
