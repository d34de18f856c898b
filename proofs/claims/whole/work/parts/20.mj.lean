def wlX5_copy_10 (K27 : GS → Prop) (a0 : Nat) (a1 : Nat) (v2 : Int32) : Nat → Int32 → GS → Prop
  | 0, _, _ => False
  | n10 + 1, v3, G => ((v2 ≤ v3 → K27 G) ∧ (¬ v2 ≤ v3 → (vp_in v3 (ln a0) ∧ (vp_in v3 (ln a1) ∧ (∀ G20 : GS, G20 = wr G a1 (cl v3) (G a0 (cl v3)) → wlX5_copy_10 K27 a0 a1 v2 n10 (v3 + (1 : Int32)) G20)))))
def wX5_copy (a0 : Nat) (a1 : Nat) (G : GS) (P : GS → Prop) : Prop := (∀ x7 : Int32, x7 = (if (nI (ln a1)) < (nI (ln a0)) then (nI (ln a1)) else (nI (ln a0))) → (∃ z10 : Nat, wlX5_copy_10 (fun G_27 => P G_27) a0 a1 x7 z10 (0 : Int32) G))
set_option maxHeartbeats 4000000 in
set_option maxRecDepth 100000 in
theorem lX5_copy_10 {p : Program} {l : Launch} {e : Env} {s : State} {m : MethodId} {args : Array Value} {below : List Frame} {meth : Method} {c : Code} {Q : State → Prop} {w : WE} {cs : List Nat} {A : Nat → Prop} {H0 : Heap} (C : CallFix p m c cX5_copy 4 s args wsX5_copy RX5) (hK : KW w s) (a0 : Nat) (ha0I : isI a0) (ha0C : a0 ∈ cs) (a1 : Nat) (ha1I : isI a1) (ha1C : a1 ∈ cs) (v2 : Int32) (B : BS) {K27 : GS → Prop} (k27 : ∀ (G : GS) (H : Heap) (locs : List Loc) (ls : Array Slot), K27 G → WO w cs A H0 G B H locs → lv_has ls 4 [] → W p l e (rmW 1) s m args below meth c H locs 0 0 Q (F0 m 27 ls [])) : ∀ (n : Nat) (v3 : Int32) (G : GS) (H : Heap) (locs : List Loc) (ls : Array Slot), wlX5_copy_10 K27 a0 a1 v2 n v3 G → WO w cs A H0 G B H locs → lv_has ls 4 [(0, .ref (w.1 a0)), (1, .ref (w.1 a1)), (2, .int v2), (3, .int v3)] → W p l e (rmW 1) s m args below meth c H locs 0 0 Q (F0 m 10 ls []) := by
  have hx := C.1
  have hb := C.2.1
  have hown := C.2.2.2.1
  have hta := fun w h => C.2.2.2.2 w (List.mem_cons_of_mem _ h)
  intro n
  induction n with
  | zero => intro v3 G H locs ls h hw hl; exact False.elim h
  | succ n ih =>
    intro v3 G H locs ls h hw hl
    refine lv_iload_n hx hb dX5_copy_10 rfl (lv_at hl 3 rfl) ?_
    refine lv_iload_n hx hb dX5_copy_11 rfl (lv_at hl 2 rfl) ?_
    refine lv_icmp_ge (tgt := 27) hx hb dX5_copy_12 (by decide) (fun c1 => ?_) (fun c1 => ?_)
    · have h := h.1 c1
      exact k27 G _ _ _ h hw (lv_sub hl [] rfl)
    · have h := h.2 c1
      refine lv_aload_n hx hb dX5_copy_15 rfl (lv_at hl 1 rfl) ?_
      refine lv_iload_n hx hb dX5_copy_16 rfl (lv_at hl 3 rfl) ?_
      refine lv_aload_n hx hb dX5_copy_17 rfl (lv_at hl 0 rfl) ?_
      refine lv_iload_n hx hb dX5_copy_18 rfl (lv_at hl 3 rfl) ?_
      obtain ⟨hin2, h⟩ := h
      refine q_iald (n := (ln a0)) hx hb hK hw ha0C ha0I rfl hin2 dX5_copy_19 ?_
      obtain ⟨hin3, h⟩ := h
      refine q_iast (n := (ln a1)) hx hb hK hw ha1C ha1I rfl hin3 dX5_copy_20 (fun H locs G20 eG20 hw => ?_)
      have h := h G20 eG20
      refine lv_iinc (v := (v3 + (1 : Int32))) (lv' := [(3, .int (v3 + (1 : Int32))), (0, .ref (w.1 a0)), (1, .ref (w.1 a1)), (2, .int v2)]) hx hb dX5_copy_21 hl (k := 3) rfl rfl (by decide) rfl (fun ls hl => ?_)
      refine lv_goto (tgt := 10) hx hb dX5_copy_24 (by decide) ?_
      exact ih (v3 + (1 : Int32)) G20 _ _ _ h hw (lv_sub hl [1, 2, 3, 0] rfl)
set_option maxHeartbeats 4000000 in
set_option maxRecDepth 100000 in
theorem mX5_copy (l : Launch) (w : WE) (cs : List Nat) (sz : Nat) (G : GS) (B : BS) (a0 : Nat) (ha0I : isI a0) (ha0C : a0 ∈ cs) (a1 : Nat) (ha1I : isI a1) (ha1C : a1 ∈ cs) (P : GS → Prop) (h : wX5_copy a0 a1 G P) : Met l yX5_copy wsX5_copy (rmW 1) (PcW w cs sz G B [.ref (w.1 a0), .ref (w.1 a1)]) (QV w cs sz (fun G1 B1 => P G1 ∧ B = B1)) 0 0 (AA w cs sz) := by
  refine metW (own := RX5) [.ref (w.1 a0), .ref (w.1 a1)] (by decide +kernel) rfl rfl (Nat.le_of_ble_eq_true rfl) ?_
  intro p e s m below meth c ls hsz C hr hK hw hl
  subst hsz
  have hx := C.1
  have hb := C.2.1
  have hown := C.2.2.2.1
  have hta := fun w h => C.2.2.2.2 w (List.mem_cons_of_mem _ h)
  have hl : lv_has ls 4 [(0, .ref (w.1 a0)), (1, .ref (w.1 a1))] := hl
  refine lv_aload_n hx hb dX5_copy_0 rfl (lv_at hl 0 rfl) ?_
  refine q_alenI (n := (ln a0)) hx hb hK hw ha0C ha0I rfl dX5_copy_1 ?_
  refine lv_aload_n hx hb dX5_copy_2 rfl (lv_at hl 1 rfl) ?_
  refine q_alenI (n := (ln a1)) hx hb hK hw ha1C ha1I rfl dX5_copy_3 ?_
  refine va_mmin hx hb (C.2.2.1.trans hl.1.symm) hown (hta _ kw_0) (hta _ kw_1) (hta _ kw_2) (hta _ kw_3) (Nat.le_of_ble_eq_true rfl) (Nat.le_of_ble_eq_true rfl) (Nat.le_refl 0) (Nat.le_refl 0) dX5_copy_4 ?_
  refine lv_topi (fun x7 ex7 => ?_)
  have h := h x7 ex7
  refine lv_istore_n (lv' := [(2, .int x7), (0, .ref (w.1 a0)), (1, .ref (w.1 a1))]) hx hb dX5_copy_7 rfl hl (by decide) rfl (fun ls hl => ?_)
  refine lv_iconst (v := 0) hx hb dX5_copy_8 (by decide) ?_
  refine lv_istore_n (lv' := [(3, .int (0 : Int32)), (2, .int x7), (0, .ref (w.1 a0)), (1, .ref (w.1 a1))]) hx hb dX5_copy_9 rfl hl (by decide) rfl (fun ls hl => ?_)
  obtain ⟨n10, h⟩ := h
  refine lX5_copy_10 C hK a0 ha0I ha0C a1 ha1I ha1C x7 B (K27 := _) ?_ n10 (0 : Int32) G _ _ _ h hw (lv_sub hl [2, 3, 1, 0] rfl)
  · intro G_27 H locs ls h hw hl
    exact q_retv hx hb hr hw ⟨h, rfl⟩ dX5_copy_27
def wlX5_clear_2 (K18 : GS → Prop) (a0 : Nat) : Nat → Int32 → GS → Prop
  | 0, _, _ => False
  | n2 + 1, v1, G => (((nI (ln a0)) ≤ v1 → K18 G) ∧ (¬ (nI (ln a0)) ≤ v1 → (vp_in v1 (ln a0) ∧ (∀ G11 : GS, G11 = wr G a0 (cl v1) (0 : Int32) → wlX5_clear_2 K18 a0 n2 (v1 + (1 : Int32)) G11))))
def wX5_clear (a0 : Nat) (G : GS) (P : GS → Prop) : Prop := (∃ z2 : Nat, wlX5_clear_2 (fun G_18 => P G_18) a0 z2 (0 : Int32) G)
set_option maxHeartbeats 4000000 in
set_option maxRecDepth 100000 in
theorem lX5_clear_2 {p : Program} {l : Launch} {e : Env} {s : State} {m : MethodId} {args : Array Value} {below : List Frame} {meth : Method} {c : Code} {Q : State → Prop} {w : WE} {cs : List Nat} {A : Nat → Prop} {H0 : Heap} (C : CallFix p m c cX5_clear 2 s args wsX5_clear RX5) (hK : KW w s) (a0 : Nat) (ha0I : isI a0) (ha0C : a0 ∈ cs) (B : BS) {K18 : GS → Prop} (k18 : ∀ (G : GS) (H : Heap) (locs : List Loc) (ls : Array Slot), K18 G → WO w cs A H0 G B H locs → lv_has ls 2 [] → W p l e (rmW 0) s m args below meth c H locs 0 0 Q (F0 m 18 ls [])) : ∀ (n : Nat) (v1 : Int32) (G : GS) (H : Heap) (locs : List Loc) (ls : Array Slot), wlX5_clear_2 K18 a0 n v1 G → WO w cs A H0 G B H locs → lv_has ls 2 [(0, .ref (w.1 a0)), (1, .int v1)] → W p l e (rmW 0) s m args below meth c H locs 0 0 Q (F0 m 2 ls []) := by
  have hx := C.1
  have hb := C.2.1
  have hown := C.2.2.2.1
  have hta := fun w h => C.2.2.2.2 w (List.mem_cons_of_mem _ h)
  intro n
  induction n with
  | zero => intro v1 G H locs ls h hw hl; exact False.elim h
  | succ n ih =>
    intro v1 G H locs ls h hw hl
    refine lv_iload_n hx hb dX5_clear_2 rfl (lv_at hl 1 rfl) ?_
    refine lv_aload_n hx hb dX5_clear_3 rfl (lv_at hl 0 rfl) ?_
    refine q_alenI (n := (ln a0)) hx hb hK hw ha0C ha0I rfl dX5_clear_4 ?_
    refine lv_icmp_ge (tgt := 18) hx hb dX5_clear_5 (by decide) (fun c1 => ?_) (fun c1 => ?_)
    · have h := h.1 c1
      exact k18 G _ _ _ h hw (lv_sub hl [] rfl)
    · have h := h.2 c1
      refine lv_aload_n hx hb dX5_clear_8 rfl (lv_at hl 0 rfl) ?_
      refine lv_iload_n hx hb dX5_clear_9 rfl (lv_at hl 1 rfl) ?_
      refine lv_iconst (v := 0) hx hb dX5_clear_10 (by decide) ?_
      obtain ⟨hin2, h⟩ := h
      refine q_iast (n := (ln a0)) hx hb hK hw ha0C ha0I rfl hin2 dX5_clear_11 (fun H locs G11 eG11 hw => ?_)
      have h := h G11 eG11
      refine lv_iinc (v := (v1 + (1 : Int32))) (lv' := [(1, .int (v1 + (1 : Int32))), (0, .ref (w.1 a0))]) hx hb dX5_clear_12 hl (k := 1) rfl rfl (by decide) rfl (fun ls hl => ?_)
      refine lv_goto (tgt := 2) hx hb dX5_clear_15 (by decide) ?_
      exact ih (v1 + (1 : Int32)) G11 _ _ _ h hw (lv_sub hl [1, 0] rfl)
set_option maxHeartbeats 4000000 in
set_option maxRecDepth 100000 in
theorem mX5_clear (l : Launch) (w : WE) (cs : List Nat) (sz : Nat) (G : GS) (B : BS) (a0 : Nat) (ha0I : isI a0) (ha0C : a0 ∈ cs) (P : GS → Prop) (h : wX5_clear a0 G P) : Met l yX5_clear wsX5_clear (rmW 0) (PcW w cs sz G B [.ref (w.1 a0)]) (QV w cs sz (fun G1 B1 => P G1 ∧ B = B1)) 0 0 (AA w cs sz) := by
  refine metW (own := RX5) [.ref (w.1 a0)] (by decide +kernel) rfl rfl (Nat.le_of_ble_eq_true rfl) ?_
  intro p e s m below meth c ls hsz C hr hK hw hl
  subst hsz
  have hx := C.1
  have hb := C.2.1
  have hown := C.2.2.2.1
  have hta := fun w h => C.2.2.2.2 w (List.mem_cons_of_mem _ h)
  have hl : lv_has ls 2 [(0, .ref (w.1 a0))] := hl
  refine lv_iconst (v := 0) hx hb dX5_clear_0 (by decide) ?_
  refine lv_istore_n (lv' := [(1, .int (0 : Int32)), (0, .ref (w.1 a0))]) hx hb dX5_clear_1 rfl hl (by decide) rfl (fun ls hl => ?_)
  obtain ⟨n2, h⟩ := h
  refine lX5_clear_2 C hK a0 ha0I ha0C B (K18 := _) ?_ n2 (0 : Int32) G _ _ _ h hw (lv_sub hl [1, 0] rfl)
  · intro G_18 H locs ls h hw hl
    exact q_retv hx hb hr hw ⟨h, rfl⟩ dX5_clear_18
def wlX5_weight_4 (K25 : Int32 → Prop) (a0 : Nat) (G : GS) : Nat → Int32 → Int32 → Prop
  | 0, _, _ => False
  | n4 + 1, v1, v2 => (((nI (ln a0)) ≤ v2 → K25 v1) ∧ (¬ (nI (ln a0)) ≤ v2 → (vp_in v2 (ln a0) ∧ (((G a0 (cl v2)) = 0 → wlX5_weight_4 K25 a0 G n4 v1 (v2 + (1 : Int32))) ∧ (¬ (G a0 (cl v2)) = 0 → wlX5_weight_4 K25 a0 G n4 (v1 + (1 : Int32)) (v2 + (1 : Int32)))))))
def wX5_weight (a0 : Nat) (G : GS) (P : Int32 → Prop) : Prop := (∃ z4 : Nat, wlX5_weight_4 (fun x1_25 => P x1_25) a0 G z4 (0 : Int32) (0 : Int32))
set_option maxHeartbeats 4000000 in
set_option maxRecDepth 100000 in
theorem lX5_weight_4 {p : Program} {l : Launch} {e : Env} {s : State} {m : MethodId} {args : Array Value} {below : List Frame} {meth : Method} {c : Code} {Q : State → Prop} {w : WE} {cs : List Nat} {A : Nat → Prop} {H0 : Heap} (C : CallFix p m c cX5_weight 3 s args wsX5_weight RX5) (hK : KW w s) (a0 : Nat) (ha0I : isI a0) (ha0C : a0 ∈ cs) (G : GS) (B : BS) {K25 : Int32 → Prop} (k25 : ∀ (y1 : Int32) (H : Heap) (locs : List Loc) (ls : Array Slot), K25 y1 → WO w cs A H0 G B H locs → lv_has ls 3 [(1, .int y1)] → W p l e (rmW 0) s m args below meth c H locs 0 0 Q (F0 m 25 ls [])) : ∀ (n : Nat) (v1 : Int32) (v2 : Int32) (H : Heap) (locs : List Loc) (ls : Array Slot), wlX5_weight_4 K25 a0 G n v1 v2 → WO w cs A H0 G B H locs → lv_has ls 3 [(0, .ref (w.1 a0)), (1, .int v1), (2, .int v2)] → W p l e (rmW 0) s m args below meth c H locs 0 0 Q (F0 m 4 ls []) := by
  have hx := C.1
  have hb := C.2.1
  have hown := C.2.2.2.1
  have hta := fun w h => C.2.2.2.2 w (List.mem_cons_of_mem _ h)
  intro n
  induction n with
  | zero => intro v1 v2 H locs ls h hw hl; exact False.elim h
  | succ n ih =>
    intro v1 v2 H locs ls h hw hl
    refine lv_iload_n hx hb dX5_weight_4 rfl (lv_at hl 2 rfl) ?_
    refine lv_aload_n hx hb dX5_weight_5 rfl (lv_at hl 0 rfl) ?_
    refine q_alenI (n := (ln a0)) hx hb hK hw ha0C ha0I rfl dX5_weight_6 ?_
    refine lv_icmp_ge (tgt := 25) hx hb dX5_weight_7 (by decide) (fun c1 => ?_) (fun c1 => ?_)
    · have h := h.1 c1
      exact k25 v1 _ _ _ h hw (lv_sub hl [1] rfl)
    · have h := h.2 c1
      refine lv_aload_n hx hb dX5_weight_10 rfl (lv_at hl 0 rfl) ?_
      refine lv_iload_n hx hb dX5_weight_11 rfl (lv_at hl 2 rfl) ?_
      obtain ⟨hin2, h⟩ := h
      refine q_iald (n := (ln a0)) hx hb hK hw ha0C ha0I rfl hin2 dX5_weight_12 ?_
      refine lv_if_eq (tgt := 19) hx hb dX5_weight_13 (by decide) (fun c3 => ?_) (fun c3 => ?_)
      · have h := h.1 c3
        refine lv_iinc (v := (v2 + (1 : Int32))) (lv' := [(2, .int (v2 + (1 : Int32))), (0, .ref (w.1 a0)), (1, .int v1)]) hx hb dX5_weight_19 hl (k := 2) rfl rfl (by decide) rfl (fun ls hl => ?_)
        refine lv_goto (tgt := 4) hx hb dX5_weight_22 (by decide) ?_
        exact ih v1 (v2 + (1 : Int32)) _ _ _ h hw (lv_sub hl [1, 2, 0] rfl)
      · have h := h.2 c3
        refine lv_iinc (v := (v1 + (1 : Int32))) (lv' := [(1, .int (v1 + (1 : Int32))), (0, .ref (w.1 a0)), (2, .int v2)]) hx hb dX5_weight_16 hl (k := 1) rfl rfl (by decide) rfl (fun ls hl => ?_)
        refine lv_iinc (v := (v2 + (1 : Int32))) (lv' := [(2, .int (v2 + (1 : Int32))), (1, .int (v1 + (1 : Int32))), (0, .ref (w.1 a0))]) hx hb dX5_weight_19 hl (k := 2) rfl rfl (by decide) rfl (fun ls hl => ?_)
        refine lv_goto (tgt := 4) hx hb dX5_weight_22 (by decide) ?_
        exact ih (v1 + (1 : Int32)) (v2 + (1 : Int32)) _ _ _ h hw (lv_sub hl [2, 1, 0] rfl)
set_option maxHeartbeats 4000000 in
set_option maxRecDepth 100000 in
theorem mX5_weight (l : Launch) (w : WE) (cs : List Nat) (sz : Nat) (G : GS) (B : BS) (a0 : Nat) (ha0I : isI a0) (ha0C : a0 ∈ cs) (P : Int32 → Prop) (h : wX5_weight a0 G P) : Met l yX5_weight wsX5_weight (rmW 0) (PcW w cs sz G B [.ref (w.1 a0)]) (QI w cs sz (fun r G1 B1 => P r ∧ G = G1 ∧ B = B1)) 0 0 (AA w cs sz) := by
  refine metW (own := RX5) [.ref (w.1 a0)] (by decide +kernel) rfl rfl (Nat.le_of_ble_eq_true rfl) ?_
  intro p e s m below meth c ls hsz C hr hK hw hl
  subst hsz
  have hx := C.1
  have hb := C.2.1
  have hown := C.2.2.2.1
  have hta := fun w h => C.2.2.2.2 w (List.mem_cons_of_mem _ h)
  have hl : lv_has ls 3 [(0, .ref (w.1 a0))] := hl
  refine lv_iconst (v := 0) hx hb dX5_weight_0 (by decide) ?_
  refine lv_istore_n (lv' := [(1, .int (0 : Int32)), (0, .ref (w.1 a0))]) hx hb dX5_weight_1 rfl hl (by decide) rfl (fun ls hl => ?_)
  refine lv_iconst (v := 0) hx hb dX5_weight_2 (by decide) ?_
  refine lv_istore_n (lv' := [(2, .int (0 : Int32)), (1, .int (0 : Int32)), (0, .ref (w.1 a0))]) hx hb dX5_weight_3 rfl hl (by decide) rfl (fun ls hl => ?_)
  obtain ⟨n4, h⟩ := h
  refine lX5_weight_4 C hK a0 ha0I ha0C G B (K25 := _) ?_ n4 (0 : Int32) (0 : Int32) _ _ _ h hw (lv_sub hl [2, 1, 0] rfl)
  · intro x1_25 H locs ls h hw hl
    refine lv_iload_n hx hb dX5_weight_25 rfl (lv_at hl 0 rfl) ?_
    exact q_reti hx hb hr hw ⟨h, rfl, rfl⟩ dX5_weight_26
def wJ9_floorMod_7cf53 (v0 : Int32) (v1 : Int32) (P : Int32 → Prop) : Prop := (¬ v1 = 0 ∧ (∀ x3 : Int32, x3 = (v0 - v0 / v1 * v1) → ((0 ≤ (v0 ^^^ v1) → P x3) ∧ (¬ 0 ≤ (v0 ^^^ v1) → ((x3 = 0 → P x3) ∧ (¬ x3 = 0 → P (x3 + v1)))))))
set_option maxHeartbeats 4000000 in
set_option maxRecDepth 100000 in
theorem mJ9_floorMod_7cf53 (l : Launch) (w : WE) (cs : List Nat) (sz : Nat) (G : GS) (B : BS) (v0 : Int32) (v1 : Int32) (P : Int32 → Prop) (h : wJ9_floorMod_7cf53 v0 v1 P) : Met l yJ9_floorMod_7cf53 wsJ9_floorMod_7cf53 (rmW 0) (PcW w cs sz G B [.int v0, .int v1]) (QI w cs sz (fun r G1 B1 => P r ∧ G = G1 ∧ B = B1)) 0 0 (AA w cs sz) := by
  refine metW (own := RJ9) [.int v0, .int v1] (by decide +kernel) rfl rfl (Nat.le_of_ble_eq_true rfl) ?_
  intro p e s m below meth c ls hsz C hr hK hw hl
  subst hsz
  have hx := C.1
  have hb := C.2.1
  have hown := C.2.2.2.1
  have hta := fun w h => C.2.2.2.2 w (List.mem_cons_of_mem _ h)
  have hl : lv_has ls 3 [(0, .int v0), (1, .int v1)] := hl
  refine lv_iload_n hx hb dJ9_floorMod_7cf53_0 rfl (lv_at hl 0 rfl) ?_
  refine lv_iload_n hx hb dJ9_floorMod_7cf53_1 rfl (lv_at hl 1 rfl) ?_
  obtain ⟨hz1, h⟩ := h
  refine lv_irem hx hb dJ9_floorMod_7cf53_2 hz1 ?_
  refine lv_topi (fun x3 ex3 => ?_)
  have h := h x3 ex3
  refine lv_istore_n (lv' := [(2, .int x3), (0, .int v0), (1, .int v1)]) hx hb dJ9_floorMod_7cf53_3 rfl hl (by decide) rfl (fun ls hl => ?_)
  refine lv_iload_n hx hb dJ9_floorMod_7cf53_4 rfl (lv_at hl 1 rfl) ?_
  refine lv_iload_n hx hb dJ9_floorMod_7cf53_5 rfl (lv_at hl 2 rfl) ?_
  refine lv_ixor hx hb dJ9_floorMod_7cf53_6 ?_
  refine lv_if_ge (tgt := 18) hx hb dJ9_floorMod_7cf53_7 (by decide) (fun c2 => ?_) (fun c2 => ?_)
  · have h := h.1 c2
    refine lv_iload_n hx hb dJ9_floorMod_7cf53_18 rfl (lv_at hl 0 rfl) ?_
    exact q_reti hx hb hr hw ⟨h, rfl, rfl⟩ dJ9_floorMod_7cf53_19
  · have h := h.2 c2
    refine lv_iload_n hx hb dJ9_floorMod_7cf53_10 rfl (lv_at hl 0 rfl) ?_
    refine lv_if_eq (tgt := 18) hx hb dJ9_floorMod_7cf53_11 (by decide) (fun c3 => ?_) (fun c3 => ?_)
    · have h := h.1 c3
      refine lv_iload_n hx hb dJ9_floorMod_7cf53_18 rfl (lv_at hl 0 rfl) ?_
      exact q_reti hx hb hr hw ⟨h, rfl, rfl⟩ dJ9_floorMod_7cf53_19
    · have h := h.2 c3
      refine lv_iload_n hx hb dJ9_floorMod_7cf53_14 rfl (lv_at hl 0 rfl) ?_
      refine lv_iload_n hx hb dJ9_floorMod_7cf53_15 rfl (lv_at hl 2 rfl) ?_
      refine lv_iadd hx hb dJ9_floorMod_7cf53_16 ?_
      exact q_reti hx hb hr hw ⟨h, rfl, rfl⟩ dJ9_floorMod_7cf53_17
def wJ6_bitCount_0f7a4 (v0 : Int32) (P : Int32 → Prop) : Prop := (∀ x9 : Int32, x9 = (v0 - (((v0.toUInt32 >>> ((1 : Int32).toUInt32 &&& Int32.toUInt32 31)).toInt32) &&& (1431655765 : Int32))) → (∀ x23 : Int32, x23 = ((x9 &&& (858993459 : Int32)) + (((x9.toUInt32 >>> ((2 : Int32).toUInt32 &&& Int32.toUInt32 31)).toInt32) &&& (858993459 : Int32))) → (∀ x33 : Int32, x33 = ((x23 + ((x23.toUInt32 >>> ((4 : Int32).toUInt32 &&& Int32.toUInt32 31)).toInt32)) &&& (252645135 : Int32)) → (∀ x40 : Int32, x40 = (x33 + ((x33.toUInt32 >>> ((8 : Int32).toUInt32 &&& Int32.toUInt32 31)).toInt32)) → (∀ x47 : Int32, x47 = (x40 + ((x40.toUInt32 >>> ((16 : Int32).toUInt32 &&& Int32.toUInt32 31)).toInt32)) → P (x47 &&& (63 : Int32)))))))
set_option maxHeartbeats 4000000 in
set_option maxRecDepth 100000 in
theorem mJ6_bitCount_0f7a4 (l : Launch) (w : WE) (cs : List Nat) (sz : Nat) (G : GS) (B : BS) (v0 : Int32) (P : Int32 → Prop) (h : wJ6_bitCount_0f7a4 v0 P) : Met l yJ6_bitCount_0f7a4 wsJ6_bitCount_0f7a4 (rmW 0) (PcW w cs sz G B [.int v0]) (QI w cs sz (fun r G1 B1 => P r ∧ G = G1 ∧ B = B1)) 0 0 (AA w cs sz) := by
  refine metW (own := RJ6) [.int v0] (by decide +kernel) rfl rfl (Nat.le_of_ble_eq_true rfl) ?_
  intro p e s m below meth c ls hsz C hr hK hw hl
  subst hsz
  have hx := C.1
  have hb := C.2.1
  have hown := C.2.2.2.1
  have hta := fun w h => C.2.2.2.2 w (List.mem_cons_of_mem _ h)
  have hl : lv_has ls 1 [(0, .int v0)] := hl
  refine lv_iload_n hx hb dJ6_bitCount_0f7a4_0 rfl (lv_at hl 0 rfl) ?_
  refine lv_iload_n hx hb dJ6_bitCount_0f7a4_1 rfl (lv_at hl 0 rfl) ?_
  refine lv_iconst (v := 1) hx hb dJ6_bitCount_0f7a4_2 (by decide) ?_
  refine lv_iushr (v := ((v0.toUInt32 >>> ((1 : Int32).toUInt32 &&& Int32.toUInt32 31)).toInt32)) hx hb dJ6_bitCount_0f7a4_3 rfl ?_
  refine lv_ldcw hx hb hown (hta _ kw_4) dJ6_bitCount_0f7a4_4 ?_
  refine lv_iand hx hb dJ6_bitCount_0f7a4_7 ?_
  refine lv_isub hx hb dJ6_bitCount_0f7a4_8 ?_
  refine lv_topi (fun x9 ex9 => ?_)
  have h := h x9 ex9
  refine lv_istore_n (lv' := [(0, .int x9)]) hx hb dJ6_bitCount_0f7a4_9 rfl hl (by decide) rfl (fun ls hl => ?_)
  refine lv_iload_n hx hb dJ6_bitCount_0f7a4_10 rfl (lv_at hl 0 rfl) ?_
  refine lv_ldcw hx hb hown (hta _ kw_5) dJ6_bitCount_0f7a4_11 ?_
  refine lv_iand hx hb dJ6_bitCount_0f7a4_14 ?_
  refine lv_iload_n hx hb dJ6_bitCount_0f7a4_15 rfl (lv_at hl 0 rfl) ?_
  refine lv_iconst (v := 2) hx hb dJ6_bitCount_0f7a4_16 (by decide) ?_
  refine lv_iushr (v := ((x9.toUInt32 >>> ((2 : Int32).toUInt32 &&& Int32.toUInt32 31)).toInt32)) hx hb dJ6_bitCount_0f7a4_17 rfl ?_
  refine lv_ldcw hx hb hown (hta _ kw_5) dJ6_bitCount_0f7a4_18 ?_
  refine lv_iand hx hb dJ6_bitCount_0f7a4_21 ?_
  refine lv_iadd hx hb dJ6_bitCount_0f7a4_22 ?_
  refine lv_topi (fun x23 ex23 => ?_)
  have h := h x23 ex23
  refine lv_istore_n (lv' := [(0, .int x23)]) hx hb dJ6_bitCount_0f7a4_23 rfl hl (by decide) rfl (fun ls hl => ?_)
  refine lv_iload_n hx hb dJ6_bitCount_0f7a4_24 rfl (lv_at hl 0 rfl) ?_
  refine lv_iload_n hx hb dJ6_bitCount_0f7a4_25 rfl (lv_at hl 0 rfl) ?_
  refine lv_iconst (v := 4) hx hb dJ6_bitCount_0f7a4_26 (by decide) ?_
  refine lv_iushr (v := ((x23.toUInt32 >>> ((4 : Int32).toUInt32 &&& Int32.toUInt32 31)).toInt32)) hx hb dJ6_bitCount_0f7a4_27 rfl ?_
  refine lv_iadd hx hb dJ6_bitCount_0f7a4_28 ?_
  refine lv_ldcw hx hb hown (hta _ kw_6) dJ6_bitCount_0f7a4_29 ?_
  refine lv_iand hx hb dJ6_bitCount_0f7a4_32 ?_
  refine lv_topi (fun x33 ex33 => ?_)
  have h := h x33 ex33
  refine lv_istore_n (lv' := [(0, .int x33)]) hx hb dJ6_bitCount_0f7a4_33 rfl hl (by decide) rfl (fun ls hl => ?_)
  refine lv_iload_n hx hb dJ6_bitCount_0f7a4_34 rfl (lv_at hl 0 rfl) ?_
  refine lv_iload_n hx hb dJ6_bitCount_0f7a4_35 rfl (lv_at hl 0 rfl) ?_
  refine lv_bipush (v := 8) hx hb dJ6_bitCount_0f7a4_36 (by decide) ?_
  refine lv_iushr (v := ((x33.toUInt32 >>> ((8 : Int32).toUInt32 &&& Int32.toUInt32 31)).toInt32)) hx hb dJ6_bitCount_0f7a4_38 rfl ?_
  refine lv_iadd hx hb dJ6_bitCount_0f7a4_39 ?_
  refine lv_topi (fun x40 ex40 => ?_)
  have h := h x40 ex40
  refine lv_istore_n (lv' := [(0, .int x40)]) hx hb dJ6_bitCount_0f7a4_40 rfl hl (by decide) rfl (fun ls hl => ?_)
  refine lv_iload_n hx hb dJ6_bitCount_0f7a4_41 rfl (lv_at hl 0 rfl) ?_
  refine lv_iload_n hx hb dJ6_bitCount_0f7a4_42 rfl (lv_at hl 0 rfl) ?_
  refine lv_bipush (v := 16) hx hb dJ6_bitCount_0f7a4_43 (by decide) ?_
  refine lv_iushr (v := ((x40.toUInt32 >>> ((16 : Int32).toUInt32 &&& Int32.toUInt32 31)).toInt32)) hx hb dJ6_bitCount_0f7a4_45 rfl ?_
  refine lv_iadd hx hb dJ6_bitCount_0f7a4_46 ?_
  refine lv_topi (fun x47 ex47 => ?_)
  have h := h x47 ex47
  refine lv_istore_n (lv' := [(0, .int x47)]) hx hb dJ6_bitCount_0f7a4_47 rfl hl (by decide) rfl (fun ls hl => ?_)
  refine lv_iload_n hx hb dJ6_bitCount_0f7a4_48 rfl (lv_at hl 0 rfl) ?_
  refine lv_bipush (v := 63) hx hb dJ6_bitCount_0f7a4_49 (by decide) ?_
  refine lv_iand hx hb dJ6_bitCount_0f7a4_51 ?_
  exact q_reti hx hb hr hw ⟨h, rfl, rfl⟩ dJ6_bitCount_0f7a4_52
def wlX1_isLess_2 (K17 : Int32 → Prop) (K38 : Prop) (a0 : Nat) (a1 : Nat) (G : GS) : Nat → Int32 → Prop
  | 0, _ => False
  | n2 + 1, v2 => (((12 : Int32) ≤ v2 → K38) ∧ (¬ (12 : Int32) ≤ v2 → (vp_in v2 (ln a0) ∧ (vp_in v2 (ln a1) ∧ (((G a0 (cl v2)) = (G a1 (cl v2)) → wlX1_isLess_2 K17 K38 a0 a1 G n2 (v2 + (1 : Int32))) ∧ (¬ (G a0 (cl v2)) = (G a1 (cl v2)) → K17 v2))))))
def wX1_isLess (a0 : Nat) (a1 : Nat) (G : GS) (P : Int32 → Prop) : Prop := (∃ z2 : Nat, wlX1_isLess_2 (fun x2_17 => (vp_in x2_17 (ln a0) ∧ (vp_in x2_17 (ln a1) ∧ (((G a1 (cl x2_17)) ≤ (G a0 (cl x2_17)) → P (0 : Int32)) ∧ (¬ (G a1 (cl x2_17)) ≤ (G a0 (cl x2_17)) → P (1 : Int32)))))) (P (0 : Int32)) a0 a1 G z2 (0 : Int32))
set_option maxHeartbeats 4000000 in
set_option maxRecDepth 100000 in
theorem lX1_isLess_2 {p : Program} {l : Launch} {e : Env} {s : State} {m : MethodId} {args : Array Value} {below : List Frame} {meth : Method} {c : Code} {Q : State → Prop} {w : WE} {cs : List Nat} {A : Nat → Prop} {H0 : Heap} (C : CallFix p m c cX1_isLess 3 s args wsX1_isLess RX1) (hK : KW w s) (a0 : Nat) (ha0I : isI a0) (ha0C : a0 ∈ cs) (a1 : Nat) (ha1I : isI a1) (ha1C : a1 ∈ cs) (G : GS) (B : BS) {K17 : Int32 → Prop} {K38 : Prop} (k17 : ∀ (y2 : Int32) (H : Heap) (locs : List Loc) (ls : Array Slot), K17 y2 → WO w cs A H0 G B H locs → lv_has ls 3 [(0, .ref (w.1 a0)), (1, .ref (w.1 a1)), (2, .int y2)] → W p l e (rmW 0) s m args below meth c H locs 0 0 Q (F0 m 17 ls [])) (k38 : ∀ (H : Heap) (locs : List Loc) (ls : Array Slot), K38 → WO w cs A H0 G B H locs → lv_has ls 3 [] → W p l e (rmW 0) s m args below meth c H locs 0 0 Q (F0 m 38 ls [])) : ∀ (n : Nat) (v2 : Int32) (H : Heap) (locs : List Loc) (ls : Array Slot), wlX1_isLess_2 K17 K38 a0 a1 G n v2 → WO w cs A H0 G B H locs → lv_has ls 3 [(0, .ref (w.1 a0)), (1, .ref (w.1 a1)), (2, .int v2)] → W p l e (rmW 0) s m args below meth c H locs 0 0 Q (F0 m 2 ls []) := by
  have hx := C.1
  have hb := C.2.1
  have hown := C.2.2.2.1
  have hta := fun w h => C.2.2.2.2 w (List.mem_cons_of_mem _ h)
  intro n
  induction n with
  | zero => intro v2 H locs ls h hw hl; exact False.elim h
  | succ n ih =>
    intro v2 H locs ls h hw hl
    refine lv_iload_n hx hb dX1_isLess_2 rfl (lv_at hl 2 rfl) ?_
    refine lv_bipush (v := 12) hx hb dX1_isLess_3 (by decide) ?_
    refine lv_icmp_ge (tgt := 38) hx hb dX1_isLess_5 (by decide) (fun c1 => ?_) (fun c1 => ?_)
    · have h := h.1 c1
      exact k38 _ _ _ h hw (lv_sub hl [] rfl)
    · have h := h.2 c1
      refine lv_aload_n hx hb dX1_isLess_8 rfl (lv_at hl 0 rfl) ?_
      refine lv_iload_n hx hb dX1_isLess_9 rfl (lv_at hl 2 rfl) ?_
      obtain ⟨hin2, h⟩ := h
      refine q_iald (n := (ln a0)) hx hb hK hw ha0C ha0I rfl hin2 dX1_isLess_10 ?_
      refine lv_aload_n hx hb dX1_isLess_11 rfl (lv_at hl 1 rfl) ?_
      refine lv_iload_n hx hb dX1_isLess_12 rfl (lv_at hl 2 rfl) ?_
      obtain ⟨hin3, h⟩ := h
      refine q_iald (n := (ln a1)) hx hb hK hw ha1C ha1I rfl hin3 dX1_isLess_13 ?_
      refine lv_icmp_eq (tgt := 32) hx hb dX1_isLess_14 (by decide) (fun c4 => ?_) (fun c4 => ?_)
      · have h := h.1 c4
        refine lv_iinc (v := (v2 + (1 : Int32))) (lv' := [(2, .int (v2 + (1 : Int32))), (0, .ref (w.1 a0)), (1, .ref (w.1 a1))]) hx hb dX1_isLess_32 hl (k := 2) rfl rfl (by decide) rfl (fun ls hl => ?_)
        refine lv_goto (tgt := 2) hx hb dX1_isLess_35 (by decide) ?_
        exact ih (v2 + (1 : Int32)) _ _ _ h hw (lv_sub hl [1, 2, 0] rfl)
      · have h := h.2 c4
        exact k17 v2 _ _ _ h hw (lv_sub hl [0, 1, 2] rfl)
set_option maxHeartbeats 4000000 in
set_option maxRecDepth 100000 in
theorem mX1_isLess (l : Launch) (w : WE) (cs : List Nat) (sz : Nat) (G : GS) (B : BS) (a0 : Nat) (ha0I : isI a0) (ha0C : a0 ∈ cs) (a1 : Nat) (ha1I : isI a1) (ha1C : a1 ∈ cs) (P : Int32 → Prop) (h : wX1_isLess a0 a1 G P) : Met l yX1_isLess wsX1_isLess (rmW 0) (PcW w cs sz G B [.ref (w.1 a0), .ref (w.1 a1)]) (QI w cs sz (fun r G1 B1 => P r ∧ G = G1 ∧ B = B1)) 0 0 (AA w cs sz) := by
  refine metW (own := RX1) [.ref (w.1 a0), .ref (w.1 a1)] (by decide +kernel) rfl rfl (Nat.le_of_ble_eq_true rfl) ?_
  intro p e s m below meth c ls hsz C hr hK hw hl
  subst hsz
  have hx := C.1
  have hb := C.2.1
  have hown := C.2.2.2.1
  have hta := fun w h => C.2.2.2.2 w (List.mem_cons_of_mem _ h)
  have hl : lv_has ls 3 [(0, .ref (w.1 a0)), (1, .ref (w.1 a1))] := hl
  refine lv_iconst (v := 0) hx hb dX1_isLess_0 (by decide) ?_
  refine lv_istore_n (lv' := [(2, .int (0 : Int32)), (0, .ref (w.1 a0)), (1, .ref (w.1 a1))]) hx hb dX1_isLess_1 rfl hl (by decide) rfl (fun ls hl => ?_)
  obtain ⟨n2, h⟩ := h
  refine lX1_isLess_2 C hK a0 ha0I ha0C a1 ha1I ha1C G B (K17 := _) (K38 := _) ?_ ?_ n2 (0 : Int32) _ _ _ h hw (lv_sub hl [1, 2, 0] rfl)
  · intro x2_17 H locs ls h hw hl
    refine lv_aload_n hx hb dX1_isLess_17 rfl (lv_at hl 0 rfl) ?_
    refine lv_iload_n hx hb dX1_isLess_18 rfl (lv_at hl 2 rfl) ?_
    obtain ⟨hin5, h⟩ := h
    refine q_iald (n := (ln a0)) hx hb hK hw ha0C ha0I rfl hin5 dX1_isLess_19 ?_
    refine lv_aload_n hx hb dX1_isLess_20 rfl (lv_at hl 1 rfl) ?_
    refine lv_iload_n hx hb dX1_isLess_21 rfl (lv_at hl 2 rfl) ?_
    obtain ⟨hin6, h⟩ := h
    refine q_iald (n := (ln a1)) hx hb hK hw ha1C ha1I rfl hin6 dX1_isLess_22 ?_
    refine lv_icmp_ge (tgt := 30) hx hb dX1_isLess_23 (by decide) (fun c7 => ?_) (fun c7 => ?_)
    · have h := h.1 c7
      refine lv_iconst (v := 0) hx hb dX1_isLess_30 (by decide) ?_
      exact q_retz hx hb hr hw (Or.inl rfl) ⟨h, rfl, rfl⟩ dX1_isLess_31
    · have h := h.2 c7
      refine lv_iconst (v := 1) hx hb dX1_isLess_26 (by decide) ?_
      refine lv_goto (tgt := 31) hx hb dX1_isLess_27 (by decide) ?_
      exact q_retz hx hb hr hw (Or.inr rfl) ⟨h, rfl, rfl⟩ dX1_isLess_31
  · intro H locs ls h hw hl
    refine lv_iconst (v := 0) hx hb dX1_isLess_38 (by decide) ?_
    exact q_retz hx hb hr hw (Or.inl rfl) ⟨h, rfl, rfl⟩ dX1_isLess_39
def wX3_start (v0 : Int32) (v1 : Int32) (P : Int32 → Prop) : Prop := P (((v0 * (32 : Int32)) + v1) * (3 : Int32))
set_option maxHeartbeats 4000000 in
set_option maxRecDepth 100000 in
theorem mX3_start (l : Launch) (w : WE) (cs : List Nat) (sz : Nat) (G : GS) (B : BS) (v0 : Int32) (v1 : Int32) (P : Int32 → Prop) (h : wX3_start v0 v1 P) : Met l yX3_start wsX3_start (rmW 0) (PcW w cs sz G B [.int v0, .int v1]) (QI w cs sz (fun r G1 B1 => P r ∧ G = G1 ∧ B = B1)) 0 0 (AA w cs sz) := by
  refine metW (own := RX3) [.int v0, .int v1] (by decide +kernel) rfl rfl (Nat.le_of_ble_eq_true rfl) ?_
  intro p e s m below meth c ls hsz C hr hK hw hl
  subst hsz
  have hx := C.1
  have hb := C.2.1
  have hown := C.2.2.2.1
  have hta := fun w h => C.2.2.2.2 w (List.mem_cons_of_mem _ h)
  have hl : lv_has ls 2 [(0, .int v0), (1, .int v1)] := hl
  refine lv_iload_n hx hb dX3_start_0 rfl (lv_at hl 0 rfl) ?_
  refine lv_bipush (v := 32) hx hb dX3_start_1 (by decide) ?_
  refine lv_imul hx hb dX3_start_3 ?_
  refine lv_iload_n hx hb dX3_start_4 rfl (lv_at hl 1 rfl) ?_
  refine lv_iadd hx hb dX3_start_5 ?_
  refine lv_iconst (v := 3) hx hb dX3_start_6 (by decide) ?_
  refine lv_imul hx hb dX3_start_7 ?_
  exact q_reti hx hb hr hw ⟨h, rfl, rfl⟩ dX3_start_8
def wJ9_floorMod_f86c9 (v0 : Int64) (v2 : Int64) (P : Int64 → Prop) : Prop := (¬ v2 = 0 ∧ (∀ x3 : Int64, x3 = (v0 - v0 / v2 * v2) → ((0 ≤ (lg_cmp (v0 ^^^ v2) (0 : Int64)) → P x3) ∧ (¬ 0 ≤ (lg_cmp (v0 ^^^ v2) (0 : Int64)) → (((lg_cmp x3 (0 : Int64)) = 0 → P x3) ∧ (¬ (lg_cmp x3 (0 : Int64)) = 0 → P (x3 + v2)))))))
set_option maxHeartbeats 4000000 in
set_option maxRecDepth 100000 in
theorem mJ9_floorMod_f86c9 (l : Launch) (w : WE) (cs : List Nat) (sz : Nat) (G : GS) (B : BS) (v0 : Int64) (v2 : Int64) (P : Int64 → Prop) (h : wJ9_floorMod_f86c9 v0 v2 P) : Met l yJ9_floorMod_f86c9 wsJ9_floorMod_f86c9 (rmW 0) (PcW w cs sz G B [.long v0, .long v2]) (QL w cs sz (fun r G1 B1 => P r ∧ G = G1 ∧ B = B1)) 0 0 (AA w cs sz) := by
  refine metW (own := RJ9) [.long v0, .long v2] (by decide +kernel) rfl rfl (Nat.le_of_ble_eq_true rfl) ?_
  intro p e s m below meth c ls hsz C hr hK hw hl
  subst hsz
  have hx := C.1
  have hb := C.2.1
  have hown := C.2.2.2.1
  have hta := fun w h => C.2.2.2.2 w (List.mem_cons_of_mem _ h)
  have hl : lv_has ls 6 [(0, .long v0), (2, .long v2)] := hl
  refine lv_lload_n hx hb dJ9_floorMod_f86c9_0 rfl (lv_at hl 0 rfl) ?_
  refine lv_lload_n hx hb dJ9_floorMod_f86c9_1 rfl (lv_at hl 1 rfl) ?_
  obtain ⟨hz1, h⟩ := h
  refine lv_lrem hx hb dJ9_floorMod_f86c9_2 hz1 ?_
  refine lv_topl (fun x3 ex3 => ?_)
  have h := h x3 ex3
  refine lv_lstore (lv' := [(4, .long x3), (0, .long v0), (2, .long v2)]) hx hb dJ9_floorMod_f86c9_3 hl (by decide) rfl (fun ls hl => ?_)
  refine lv_lload_n hx hb dJ9_floorMod_f86c9_5 rfl (lv_at hl 1 rfl) ?_
  refine lv_lload_n hx hb dJ9_floorMod_f86c9_6 rfl (lv_at hl 2 rfl) ?_
  refine lv_lxor hx hb dJ9_floorMod_f86c9_7 ?_
  refine lv_lconst (v := 0) hx hb dJ9_floorMod_f86c9_8 (by decide) ?_
  refine W.lcmp hx hb dJ9_floorMod_f86c9_9 ?_
  refine lv_if_ge (tgt := 25) hx hb dJ9_floorMod_f86c9_10 (by decide) (fun c2 => ?_) (fun c2 => ?_)
  · have h := h.1 c2
    refine lv_lload hx hb dJ9_floorMod_f86c9_25 (lv_at hl 0 rfl) ?_
    exact q_retl hx hb hr hw ⟨h, rfl, rfl⟩ dJ9_floorMod_f86c9_27
  · have h := h.2 c2
    refine lv_lload hx hb dJ9_floorMod_f86c9_13 (lv_at hl 0 rfl) ?_
    refine lv_lconst (v := 0) hx hb dJ9_floorMod_f86c9_15 (by decide) ?_
    refine W.lcmp hx hb dJ9_floorMod_f86c9_16 ?_
    refine lv_if_eq (tgt := 25) hx hb dJ9_floorMod_f86c9_17 (by decide) (fun c3 => ?_) (fun c3 => ?_)
    · have h := h.1 c3
      refine lv_lload hx hb dJ9_floorMod_f86c9_25 (lv_at hl 0 rfl) ?_
      exact q_retl hx hb hr hw ⟨h, rfl, rfl⟩ dJ9_floorMod_f86c9_27
    · have h := h.2 c3
      refine lv_lload hx hb dJ9_floorMod_f86c9_20 (lv_at hl 0 rfl) ?_
      refine lv_lload_n hx hb dJ9_floorMod_f86c9_22 rfl (lv_at hl 2 rfl) ?_
      refine lv_ladd hx hb dJ9_floorMod_f86c9_23 ?_
      exact q_retl hx hb hr hw ⟨h, rfl, rfl⟩ dJ9_floorMod_f86c9_24
def wX3_squareSum (v0 : Int64) (v2 : Int64) (P : Int64 → Prop) : Prop := (wJ9_floorMod_f86c9 v2 (1000003 : Int64) (fun r4 => P ((r4 * ((v0 * v0) - (v0 * v0) / (1000003 : Int64) * (1000003 : Int64))) - (r4 * ((v0 * v0) - (v0 * v0) / (1000003 : Int64) * (1000003 : Int64))) / (1000003 : Int64) * (1000003 : Int64))))
set_option maxHeartbeats 4000000 in
set_option maxRecDepth 100000 in
theorem mX3_squareSum (l : Launch) (w : WE) (cs : List Nat) (sz : Nat) (G : GS) (B : BS) (v0 : Int64) (v2 : Int64) (P : Int64 → Prop) (h : wX3_squareSum v0 v2 P) : Met l yX3_squareSum wsX3_squareSum (rmW 1) (PcW w cs sz G B [.long v0, .long v2]) (QL w cs sz (fun r G1 B1 => P r ∧ G = G1 ∧ B = B1)) 0 0 (AA w cs sz) := by
  refine metW (own := RX3) [.long v0, .long v2] (by decide +kernel) rfl rfl (Nat.le_of_ble_eq_true rfl) ?_
  intro p e s m below meth c ls hsz C hr hK hw hl
  subst hsz
  have hx := C.1
  have hb := C.2.1
  have hown := C.2.2.2.1
  have hta := fun w h => C.2.2.2.2 w (List.mem_cons_of_mem _ h)
  have hl : lv_has ls 4 [(0, .long v0), (2, .long v2)] := hl
  refine lv_lload_n hx hb dX3_squareSum_0 rfl (lv_at hl 1 rfl) ?_
  refine lv_ldc2 hx hb hown (hta _ kw_7) dX3_squareSum_1 ?_
  refine q_calll hw (va_runS (As := [.long v2, .long (1000003 : Int64)]) (rest := []) C (mJ9_floorMod_f86c9 l w cs _ G B v2 (1000003 : Int64) _ h) (va_cwS 2 hta (gSw kw_9 kw_10 kw_11 kw_8) rfl rfl rfl (by decide +kernel) ⟨Nat.le_of_ble_eq_true rfl, Nat.le_of_ble_eq_true rfl⟩) (preS hK hw _) rfl rfl hl.1 rfl (lv_room (Nat.le_of_ble_eq_true rfl)) dX3_squareSum_4 ⟨Nat.le_refl 0, Nat.le_refl 0⟩) (fun r4 G4 B4 H locs h hw => ?_)
  obtain ⟨h, e1, e2⟩ := h; subst e1; subst e2
  refine lv_lload_n hx hb dX3_squareSum_7 rfl (lv_at hl 0 rfl) ?_
  refine lv_lload_n hx hb dX3_squareSum_8 rfl (lv_at hl 0 rfl) ?_
  refine lv_lmul hx hb dX3_squareSum_9 ?_
  refine lv_ldc2 hx hb hown (hta _ kw_7) dX3_squareSum_10 ?_
  refine lv_lrem hx hb dX3_squareSum_13 (by decide) ?_
  refine lv_lmul hx hb dX3_squareSum_14 ?_
  refine lv_ldc2 hx hb hown (hta _ kw_7) dX3_squareSum_15 ?_
  refine lv_lrem hx hb dX3_squareSum_18 (by decide) ?_
  exact q_retl hx hb hr hw ⟨h, rfl, rfl⟩ dX3_squareSum_19
def wlX5_isPrime_15 (K26 : Prop) (K34 : Prop) (v0 : Int32) : Nat → Int32 → Prop
  | 0, _ => False
  | n15 + 1, v1 => ((v0 ≤ v1 → K34) ∧ (¬ v0 ≤ v1 → (¬ v1 = 0 ∧ ((¬ (v0 - v0 / v1 * v1) = 0 → wlX5_isPrime_15 K26 K34 v0 n15 (v1 + (1 : Int32))) ∧ ((v0 - v0 / v1 * v1) = 0 → K26)))))
def wX5_isPrime (v0 : Int32) (P : Int32 → Prop) : Prop := ((v0 < (2 : Int32) → P (0 : Int32)) ∧ (¬ v0 < (2 : Int32) → ((v0 ≤ (97 : Int32) → (∃ z15 : Nat, wlX5_isPrime_15 (P (0 : Int32)) (P (1 : Int32)) v0 z15 (2 : Int32))) ∧ (¬ v0 ≤ (97 : Int32) → P (0 : Int32)))))
set_option maxHeartbeats 4000000 in
set_option maxRecDepth 100000 in
theorem lX5_isPrime_15 {p : Program} {l : Launch} {e : Env} {s : State} {m : MethodId} {args : Array Value} {below : List Frame} {meth : Method} {c : Code} {Q : State → Prop} {w : WE} {cs : List Nat} {A : Nat → Prop} {H0 : Heap} (C : CallFix p m c cX5_isPrime 2 s args wsX5_isPrime RX5) (hK : KW w s) (v0 : Int32) (G : GS) (B : BS) {K26 : Prop} {K34 : Prop} (k26 : ∀ (H : Heap) (locs : List Loc) (ls : Array Slot), K26 → WO w cs A H0 G B H locs → lv_has ls 2 [] → W p l e (rmW 0) s m args below meth c H locs 0 0 Q (F0 m 26 ls [])) (k34 : ∀ (H : Heap) (locs : List Loc) (ls : Array Slot), K34 → WO w cs A H0 G B H locs → lv_has ls 2 [] → W p l e (rmW 0) s m args below meth c H locs 0 0 Q (F0 m 34 ls [])) : ∀ (n : Nat) (v1 : Int32) (H : Heap) (locs : List Loc) (ls : Array Slot), wlX5_isPrime_15 K26 K34 v0 n v1 → WO w cs A H0 G B H locs → lv_has ls 2 [(0, .int v0), (1, .int v1)] → W p l e (rmW 0) s m args below meth c H locs 0 0 Q (F0 m 15 ls []) := by
  have hx := C.1
  have hb := C.2.1
  have hown := C.2.2.2.1
  have hta := fun w h => C.2.2.2.2 w (List.mem_cons_of_mem _ h)
  intro n
  induction n with
  | zero => intro v1 H locs ls h hw hl; exact False.elim h
  | succ n ih =>
    intro v1 H locs ls h hw hl
    refine lv_iload_n hx hb dX5_isPrime_15 rfl (lv_at hl 1 rfl) ?_
    refine lv_iload_n hx hb dX5_isPrime_16 rfl (lv_at hl 0 rfl) ?_
    refine lv_icmp_ge (tgt := 34) hx hb dX5_isPrime_17 (by decide) (fun c3 => ?_) (fun c3 => ?_)
    · have h := h.1 c3
      exact k34 _ _ _ h hw (lv_sub hl [] rfl)
    · have h := h.2 c3
      refine lv_iload_n hx hb dX5_isPrime_20 rfl (lv_at hl 0 rfl) ?_
      refine lv_iload_n hx hb dX5_isPrime_21 rfl (lv_at hl 1 rfl) ?_
      obtain ⟨hz4, h⟩ := h
      refine lv_irem hx hb dX5_isPrime_22 hz4 ?_
      refine lv_if_ne (tgt := 28) hx hb dX5_isPrime_23 (by decide) (fun c5 => ?_) (fun c5 => ?_)
      · have h := h.1 c5
        refine lv_iinc (v := (v1 + (1 : Int32))) (lv' := [(1, .int (v1 + (1 : Int32))), (0, .int v0)]) hx hb dX5_isPrime_28 hl (k := 1) rfl rfl (by decide) rfl (fun ls hl => ?_)
        refine lv_goto (tgt := 15) hx hb dX5_isPrime_31 (by decide) ?_
        exact ih (v1 + (1 : Int32)) _ _ _ h hw (lv_sub hl [1, 0] rfl)
      · have h := h.2 c5
        exact k26 _ _ _ h hw (lv_sub hl [] rfl)
set_option maxHeartbeats 4000000 in
set_option maxRecDepth 100000 in
theorem mX5_isPrime (l : Launch) (w : WE) (cs : List Nat) (sz : Nat) (G : GS) (B : BS) (v0 : Int32) (P : Int32 → Prop) (h : wX5_isPrime v0 P) : Met l yX5_isPrime wsX5_isPrime (rmW 0) (PcW w cs sz G B [.int v0]) (QI w cs sz (fun r G1 B1 => P r ∧ G = G1 ∧ B = B1)) 0 0 (AA w cs sz) := by
  refine metW (own := RX5) [.int v0] (by decide +kernel) rfl rfl (Nat.le_of_ble_eq_true rfl) ?_
  intro p e s m below meth c ls hsz C hr hK hw hl
  subst hsz
  have hx := C.1
  have hb := C.2.1
  have hown := C.2.2.2.1
  have hta := fun w h => C.2.2.2.2 w (List.mem_cons_of_mem _ h)
  have hl : lv_has ls 2 [(0, .int v0)] := hl
  refine lv_iload_n hx hb dX5_isPrime_0 rfl (lv_at hl 0 rfl) ?_
  refine lv_iconst (v := 2) hx hb dX5_isPrime_1 (by decide) ?_
  refine lv_icmp_lt (tgt := 11) hx hb dX5_isPrime_2 (by decide) (fun c1 => ?_) (fun c1 => ?_)
  · have h := h.1 c1
    refine lv_iconst (v := 0) hx hb dX5_isPrime_11 (by decide) ?_
    exact q_retz hx hb hr hw (Or.inl rfl) ⟨h, rfl, rfl⟩ dX5_isPrime_12
  · have h := h.2 c1
    refine lv_iload_n hx hb dX5_isPrime_5 rfl (lv_at hl 0 rfl) ?_
    refine lv_bipush (v := 97) hx hb dX5_isPrime_6 (by decide) ?_
    refine lv_icmp_le (tgt := 13) hx hb dX5_isPrime_8 (by decide) (fun c2 => ?_) (fun c2 => ?_)
    · have h := h.1 c2
      refine lv_iconst (v := 2) hx hb dX5_isPrime_13 (by decide) ?_
      refine lv_istore_n (lv' := [(1, .int (2 : Int32)), (0, .int v0)]) hx hb dX5_isPrime_14 rfl hl (by decide) rfl (fun ls hl => ?_)
      obtain ⟨n15, h⟩ := h
      refine lX5_isPrime_15 C hK v0 G B (K26 := _) (K34 := _) ?_ ?_ n15 (2 : Int32) _ _ _ h hw (lv_sub hl [1, 0] rfl)
      · intro H locs ls h hw hl
        refine lv_iconst (v := 0) hx hb dX5_isPrime_26 (by decide) ?_
        exact q_retz hx hb hr hw (Or.inl rfl) ⟨h, rfl, rfl⟩ dX5_isPrime_27
      · intro H locs ls h hw hl
        refine lv_iconst (v := 1) hx hb dX5_isPrime_34 (by decide) ?_
        exact q_retz hx hb hr hw (Or.inr rfl) ⟨h, rfl, rfl⟩ dX5_isPrime_35
    · have h := h.2 c2
      refine lv_iconst (v := 0) hx hb dX5_isPrime_11 (by decide) ?_
      exact q_retz hx hb hr hw (Or.inl rfl) ⟨h, rfl, rfl⟩ dX5_isPrime_12
def wX5_isKept (v0 : Int32) (P : Int32 → Prop) : Prop := ((v0 < 0 → P (0 : Int32)) ∧ (¬ v0 < 0 → (((6 : Int32) ≤ v0 → P (0 : Int32)) ∧ (¬ (6 : Int32) ≤ v0 → P (1 : Int32)))))
set_option maxHeartbeats 4000000 in
set_option maxRecDepth 100000 in
theorem mX5_isKept (l : Launch) (w : WE) (cs : List Nat) (sz : Nat) (G : GS) (B : BS) (v0 : Int32) (P : Int32 → Prop) (h : wX5_isKept v0 P) : Met l yX5_isKept wsX5_isKept (rmW 0) (PcW w cs sz G B [.int v0]) (QI w cs sz (fun r G1 B1 => P r ∧ G = G1 ∧ B = B1)) 0 0 (AA w cs sz) := by
  refine metW (own := RX5) [.int v0] (by decide +kernel) rfl rfl (Nat.le_of_ble_eq_true rfl) ?_
  intro p e s m below meth c ls hsz C hr hK hw hl
  subst hsz
  have hx := C.1
  have hb := C.2.1
  have hown := C.2.2.2.1
  have hta := fun w h => C.2.2.2.2 w (List.mem_cons_of_mem _ h)
  have hl : lv_has ls 1 [(0, .int v0)] := hl
  refine lv_iload_n hx hb dX5_isKept_0 rfl (lv_at hl 0 rfl) ?_
  refine lv_if_lt (tgt := 14) hx hb dX5_isKept_1 (by decide) (fun c1 => ?_) (fun c1 => ?_)
  · have h := h.1 c1
    refine lv_iconst (v := 0) hx hb dX5_isKept_14 (by decide) ?_
    exact q_retz hx hb hr hw (Or.inl rfl) ⟨h, rfl, rfl⟩ dX5_isKept_15
  · have h := h.2 c1
    refine lv_iload_n hx hb dX5_isKept_4 rfl (lv_at hl 0 rfl) ?_
    refine lv_bipush (v := 6) hx hb dX5_isKept_5 (by decide) ?_
    refine lv_icmp_ge (tgt := 14) hx hb dX5_isKept_7 (by decide) (fun c2 => ?_) (fun c2 => ?_)
    · have h := h.1 c2
      refine lv_iconst (v := 0) hx hb dX5_isKept_14 (by decide) ?_
      exact q_retz hx hb hr hw (Or.inl rfl) ⟨h, rfl, rfl⟩ dX5_isKept_15
    · have h := h.2 c2
      refine lv_iconst (v := 1) hx hb dX5_isKept_10 (by decide) ?_
      refine lv_goto (tgt := 15) hx hb dX5_isKept_11 (by decide) ?_
      exact q_retz hx hb hr hw (Or.inr rfl) ⟨h, rfl, rfl⟩ dX5_isKept_15
def wX6_in (v0 : Int64) (v2 : Int64) (v4 : Int64) (P : Int32 → Prop) : Prop := (((lg_cmp v0 v2) < 0 → P (0 : Int32)) ∧ (¬ (lg_cmp v0 v2) < 0 → ((0 < (lg_cmp v0 v4) → P (0 : Int32)) ∧ (¬ 0 < (lg_cmp v0 v4) → P (1 : Int32)))))
set_option maxHeartbeats 4000000 in
set_option maxRecDepth 100000 in
theorem mX6_in (l : Launch) (w : WE) (cs : List Nat) (sz : Nat) (G : GS) (B : BS) (v0 : Int64) (v2 : Int64) (v4 : Int64) (P : Int32 → Prop) (h : wX6_in v0 v2 v4 P) : Met l yX6_in wsX6_in (rmW 0) (PcW w cs sz G B [.long v0, .long v2, .long v4]) (QI w cs sz (fun r G1 B1 => P r ∧ G = G1 ∧ B = B1)) 0 0 (AA w cs sz) := by
  refine metW (own := RX6) [.long v0, .long v2, .long v4] (by decide +kernel) rfl rfl (Nat.le_of_ble_eq_true rfl) ?_
  intro p e s m below meth c ls hsz C hr hK hw hl
  subst hsz
  have hx := C.1
  have hb := C.2.1
  have hown := C.2.2.2.1
  have hta := fun w h => C.2.2.2.2 w (List.mem_cons_of_mem _ h)
  have hl : lv_has ls 6 [(0, .long v0), (2, .long v2), (4, .long v4)] := hl
  refine lv_lload_n hx hb dX6_in_0 rfl (lv_at hl 0 rfl) ?_
  refine lv_lload_n hx hb dX6_in_1 rfl (lv_at hl 1 rfl) ?_
  refine W.lcmp hx hb dX6_in_2 ?_
  refine lv_if_lt (tgt := 17) hx hb dX6_in_3 (by decide) (fun c1 => ?_) (fun c1 => ?_)
  · have h := h.1 c1
    refine lv_iconst (v := 0) hx hb dX6_in_17 (by decide) ?_
    exact q_retz hx hb hr hw (Or.inl rfl) ⟨h, rfl, rfl⟩ dX6_in_18
  · have h := h.2 c1
    refine lv_lload_n hx hb dX6_in_6 rfl (lv_at hl 0 rfl) ?_
    refine lv_lload hx hb dX6_in_7 (lv_at hl 2 rfl) ?_
    refine W.lcmp hx hb dX6_in_9 ?_
    refine lv_if_gt (tgt := 17) hx hb dX6_in_10 (by decide) (fun c2 => ?_) (fun c2 => ?_)
    · have h := h.1 c2
      refine lv_iconst (v := 0) hx hb dX6_in_17 (by decide) ?_
      exact q_retz hx hb hr hw (Or.inl rfl) ⟨h, rfl, rfl⟩ dX6_in_18
    · have h := h.2 c2
      refine lv_iconst (v := 1) hx hb dX6_in_13 (by decide) ?_
      refine lv_goto (tgt := 18) hx hb dX6_in_14 (by decide) ?_
      exact q_retz hx hb hr hw (Or.inr rfl) ⟨h, rfl, rfl⟩ dX6_in_18
def wlX6_isPrime_14 (K43 : Int32 → Prop) (v0 : Int32) : Nat → Int32 → Int32 → Prop
  | 0, _, _ => False
  | n14 + 1, v1, v2 => ((v1 = 0 → K43 v1) ∧ (¬ v1 = 0 → ((v0 < (v2 * v2) → K43 v1) ∧ (¬ v0 < (v2 * v2) → (¬ v2 = 0 ∧ (((v0 - v0 / v2 * v2) = 0 → wlX6_isPrime_14 K43 v0 n14 (0 : Int32) (v2 + (1 : Int32))) ∧ (¬ (v0 - v0 / v2 * v2) = 0 → wlX6_isPrime_14 K43 v0 n14 (1 : Int32) (v2 + (1 : Int32)))))))))
def wX6_isPrime (v0 : Int32) (P : Int32 → Prop) : Prop := (wX6_in v0.toInt64 (2 : Int64) (97 : Int64) (fun r8 => (∃ z14 : Nat, wlX6_isPrime_14 (fun x1_43 => (vb x1_43 ∧ P x1_43)) v0 z14 r8 (2 : Int32))))
set_option maxHeartbeats 4000000 in
set_option maxRecDepth 100000 in
theorem lX6_isPrime_14 {p : Program} {l : Launch} {e : Env} {s : State} {m : MethodId} {args : Array Value} {below : List Frame} {meth : Method} {c : Code} {Q : State → Prop} {w : WE} {cs : List Nat} {A : Nat → Prop} {H0 : Heap} (C : CallFix p m c cX6_isPrime 3 s args wsX6_isPrime RX6) (hK : KW w s) (v0 : Int32) (G : GS) (B : BS) {K43 : Int32 → Prop} (k43 : ∀ (y1 : Int32) (H : Heap) (locs : List Loc) (ls : Array Slot), K43 y1 → WO w cs A H0 G B H locs → lv_has ls 3 [(1, .int y1)] → W p l e (rmW 1) s m args below meth c H locs 0 0 Q (F0 m 43 ls [])) : ∀ (n : Nat) (v1 : Int32) (v2 : Int32) (H : Heap) (locs : List Loc) (ls : Array Slot), wlX6_isPrime_14 K43 v0 n v1 v2 → WO w cs A H0 G B H locs → lv_has ls 3 [(0, .int v0), (1, .int v1), (2, .int v2)] → W p l e (rmW 1) s m args below meth c H locs 0 0 Q (F0 m 14 ls []) := by
  have hx := C.1
  have hb := C.2.1
  have hown := C.2.2.2.1
  have hta := fun w h => C.2.2.2.2 w (List.mem_cons_of_mem _ h)
  intro n
  induction n with
  | zero => intro v1 v2 H locs ls h hw hl; exact False.elim h
  | succ n ih =>
    intro v1 v2 H locs ls h hw hl
    refine lv_iload_n hx hb dX6_isPrime_14 rfl (lv_at hl 1 rfl) ?_
    refine lv_if_eq (tgt := 43) hx hb dX6_isPrime_15 (by decide) (fun c1 => ?_) (fun c1 => ?_)
    · have h := h.1 c1
      exact k43 v1 _ _ _ h hw (lv_sub hl [1] rfl)
    · have h := h.2 c1
      refine lv_iload_n hx hb dX6_isPrime_18 rfl (lv_at hl 2 rfl) ?_
      refine lv_iload_n hx hb dX6_isPrime_19 rfl (lv_at hl 2 rfl) ?_
      refine lv_imul hx hb dX6_isPrime_20 ?_
      refine lv_iload_n hx hb dX6_isPrime_21 rfl (lv_at hl 0 rfl) ?_
      refine lv_icmp_gt (tgt := 43) hx hb dX6_isPrime_22 (by decide) (fun c2 => ?_) (fun c2 => ?_)
      · have h := h.1 c2
        exact k43 v1 _ _ _ h hw (lv_sub hl [1] rfl)
      · have h := h.2 c2
        refine lv_iload_n hx hb dX6_isPrime_25 rfl (lv_at hl 0 rfl) ?_
        refine lv_iload_n hx hb dX6_isPrime_26 rfl (lv_at hl 2 rfl) ?_
        obtain ⟨hz3, h⟩ := h
        refine lv_irem hx hb dX6_isPrime_27 hz3 ?_
        refine lv_if_eq (tgt := 35) hx hb dX6_isPrime_28 (by decide) (fun c4 => ?_) (fun c4 => ?_)
        · have h := h.1 c4
          refine lv_iconst (v := 0) hx hb dX6_isPrime_35 (by decide) ?_
          refine lv_istore_n (lv' := [(1, .int (0 : Int32)), (0, .int v0), (2, .int v2)]) hx hb dX6_isPrime_36 rfl hl (by decide) rfl (fun ls hl => ?_)
          refine lv_iinc (v := (v2 + (1 : Int32))) (lv' := [(2, .int (v2 + (1 : Int32))), (1, .int (0 : Int32)), (0, .int v0)]) hx hb dX6_isPrime_37 hl (k := 2) rfl rfl (by decide) rfl (fun ls hl => ?_)
          refine lv_goto (tgt := 14) hx hb dX6_isPrime_40 (by decide) ?_
          exact ih (0 : Int32) (v2 + (1 : Int32)) _ _ _ h hw (lv_sub hl [2, 1, 0] rfl)
        · have h := h.2 c4
          refine lv_iconst (v := 1) hx hb dX6_isPrime_31 (by decide) ?_
          refine lv_goto (tgt := 36) hx hb dX6_isPrime_32 (by decide) ?_
          refine lv_istore_n (lv' := [(1, .int (1 : Int32)), (0, .int v0), (2, .int v2)]) hx hb dX6_isPrime_36 rfl hl (by decide) rfl (fun ls hl => ?_)
          refine lv_iinc (v := (v2 + (1 : Int32))) (lv' := [(2, .int (v2 + (1 : Int32))), (1, .int (1 : Int32)), (0, .int v0)]) hx hb dX6_isPrime_37 hl (k := 2) rfl rfl (by decide) rfl (fun ls hl => ?_)
          refine lv_goto (tgt := 14) hx hb dX6_isPrime_40 (by decide) ?_
          exact ih (1 : Int32) (v2 + (1 : Int32)) _ _ _ h hw (lv_sub hl [2, 1, 0] rfl)
set_option maxHeartbeats 4000000 in
set_option maxRecDepth 100000 in
theorem mX6_isPrime (l : Launch) (w : WE) (cs : List Nat) (sz : Nat) (G : GS) (B : BS) (v0 : Int32) (P : Int32 → Prop) (h : wX6_isPrime v0 P) : Met l yX6_isPrime wsX6_isPrime (rmW 1) (PcW w cs sz G B [.int v0]) (QI w cs sz (fun r G1 B1 => P r ∧ G = G1 ∧ B = B1)) 0 0 (AA w cs sz) := by
  refine metW (own := RX6) [.int v0] (by decide +kernel) rfl rfl (Nat.le_of_ble_eq_true rfl) ?_
  intro p e s m below meth c ls hsz C hr hK hw hl
  subst hsz
  have hx := C.1
  have hb := C.2.1
  have hown := C.2.2.2.1
  have hta := fun w h => C.2.2.2.2 w (List.mem_cons_of_mem _ h)
  have hl : lv_has ls 3 [(0, .int v0)] := hl
  refine lv_iload_n hx hb dX6_isPrime_0 rfl (lv_at hl 0 rfl) ?_
  refine lv_i2l hx hb dX6_isPrime_1 rfl ?_
  refine lv_ldc2 hx hb hown (hta _ kw_12) dX6_isPrime_2 ?_
  refine lv_ldc2 hx hb hown (hta _ kw_13) dX6_isPrime_5 ?_
  refine q_calli hw (va_runS (As := [.long v0.toInt64, .long (2 : Int64), .long (97 : Int64)]) (rest := []) C (mX6_in l w cs _ G B v0.toInt64 (2 : Int64) (97 : Int64) _ h) (va_cwS 3 hta (gSw kw_15 kw_16 kw_17 kw_14) rfl rfl rfl (by decide +kernel) ⟨Nat.le_of_ble_eq_true rfl, Nat.le_of_ble_eq_true rfl⟩) (preS hK hw _) rfl rfl hl.1 rfl (lv_room (Nat.le_of_ble_eq_true rfl)) dX6_isPrime_8 ⟨Nat.le_refl 0, Nat.le_refl 0⟩) (fun r8 G8 B8 H locs h hw => ?_)
  obtain ⟨h, e1, e2⟩ := h; subst e1; subst e2
  refine lv_istore_n (lv' := [(1, .int r8), (0, .int v0)]) hx hb dX6_isPrime_11 rfl hl (by decide) rfl (fun ls hl => ?_)
  refine lv_iconst (v := 2) hx hb dX6_isPrime_12 (by decide) ?_
  refine lv_istore_n (lv' := [(2, .int (2 : Int32)), (1, .int r8), (0, .int v0)]) hx hb dX6_isPrime_13 rfl hl (by decide) rfl (fun ls hl => ?_)
  obtain ⟨n14, h⟩ := h
  refine lX6_isPrime_14 C hK v0 G B (K43 := _) ?_ n14 r8 (2 : Int32) _ _ _ h hw (lv_sub hl [2, 1, 0] rfl)
  · intro x1_43 H locs ls h hw hl
    refine lv_iload_n hx hb dX6_isPrime_43 rfl (lv_at hl 0 rfl) ?_
    obtain ⟨hv5, h⟩ := h
    exact q_retz hx hb hr hw hv5 ⟨h, rfl, rfl⟩ dX6_isPrime_44
def wlX6_bits_4 (K24 : Int32 → Prop) (v0 : Int32) : Nat → Int32 → Int32 → Prop
  | 0, _, _ => False
  | n4 + 1, v1, v2 => (((12 : Int32) ≤ v2 → K24 v1) ∧ (¬ (12 : Int32) ≤ v2 → (∀ x17 : Int32, x17 = (v1 + ((v0 >>> (v2 &&& (31 : Int32))) &&& (1 : Int32))) → wlX6_bits_4 K24 v0 n4 x17 (v2 + (1 : Int32)))))
def wX6_bits (v0 : Int32) (P : Int32 → Prop) : Prop := (∃ z4 : Nat, wlX6_bits_4 (fun x1_24 => P x1_24) v0 z4 (0 : Int32) (0 : Int32))
set_option maxHeartbeats 4000000 in
set_option maxRecDepth 100000 in
theorem lX6_bits_4 {p : Program} {l : Launch} {e : Env} {s : State} {m : MethodId} {args : Array Value} {below : List Frame} {meth : Method} {c : Code} {Q : State → Prop} {w : WE} {cs : List Nat} {A : Nat → Prop} {H0 : Heap} (C : CallFix p m c cX6_bits 3 s args wsX6_bits RX6) (hK : KW w s) (v0 : Int32) (G : GS) (B : BS) {K24 : Int32 → Prop} (k24 : ∀ (y1 : Int32) (H : Heap) (locs : List Loc) (ls : Array Slot), K24 y1 → WO w cs A H0 G B H locs → lv_has ls 3 [(1, .int y1)] → W p l e (rmW 0) s m args below meth c H locs 0 0 Q (F0 m 24 ls [])) : ∀ (n : Nat) (v1 : Int32) (v2 : Int32) (H : Heap) (locs : List Loc) (ls : Array Slot), wlX6_bits_4 K24 v0 n v1 v2 → WO w cs A H0 G B H locs → lv_has ls 3 [(0, .int v0), (1, .int v1), (2, .int v2)] → W p l e (rmW 0) s m args below meth c H locs 0 0 Q (F0 m 4 ls []) := by
  have hx := C.1
  have hb := C.2.1
  have hown := C.2.2.2.1
  have hta := fun w h => C.2.2.2.2 w (List.mem_cons_of_mem _ h)
  intro n
  induction n with
  | zero => intro v1 v2 H locs ls h hw hl; exact False.elim h
  | succ n ih =>
    intro v1 v2 H locs ls h hw hl
    refine lv_iload_n hx hb dX6_bits_4 rfl (lv_at hl 2 rfl) ?_
    refine lv_bipush (v := 12) hx hb dX6_bits_5 (by decide) ?_
    refine lv_icmp_ge (tgt := 24) hx hb dX6_bits_7 (by decide) (fun c1 => ?_) (fun c1 => ?_)
    · have h := h.1 c1
      exact k24 v1 _ _ _ h hw (lv_sub hl [1] rfl)
    · have h := h.2 c1
      refine lv_iload_n hx hb dX6_bits_10 rfl (lv_at hl 1 rfl) ?_
      refine lv_iload_n hx hb dX6_bits_11 rfl (lv_at hl 0 rfl) ?_
      refine lv_iload_n hx hb dX6_bits_12 rfl (lv_at hl 2 rfl) ?_
      refine lv_ishr hx hb dX6_bits_13 ?_
      refine lv_iconst (v := 1) hx hb dX6_bits_14 (by decide) ?_
      refine lv_iand hx hb dX6_bits_15 ?_
      refine lv_iadd hx hb dX6_bits_16 ?_
      refine lv_topi (fun x17 ex17 => ?_)
      have h := h x17 ex17
      refine lv_istore_n (lv' := [(1, .int x17), (0, .int v0), (2, .int v2)]) hx hb dX6_bits_17 rfl hl (by decide) rfl (fun ls hl => ?_)
      refine lv_iinc (v := (v2 + (1 : Int32))) (lv' := [(2, .int (v2 + (1 : Int32))), (1, .int x17), (0, .int v0)]) hx hb dX6_bits_18 hl (k := 2) rfl rfl (by decide) rfl (fun ls hl => ?_)
      refine lv_goto (tgt := 4) hx hb dX6_bits_21 (by decide) ?_
      exact ih x17 (v2 + (1 : Int32)) _ _ _ h hw (lv_sub hl [2, 1, 0] rfl)
set_option maxHeartbeats 4000000 in
set_option maxRecDepth 100000 in
theorem mX6_bits (l : Launch) (w : WE) (cs : List Nat) (sz : Nat) (G : GS) (B : BS) (v0 : Int32) (P : Int32 → Prop) (h : wX6_bits v0 P) : Met l yX6_bits wsX6_bits (rmW 0) (PcW w cs sz G B [.int v0]) (QI w cs sz (fun r G1 B1 => P r ∧ G = G1 ∧ B = B1)) 0 0 (AA w cs sz) := by
  refine metW (own := RX6) [.int v0] (by decide +kernel) rfl rfl (Nat.le_of_ble_eq_true rfl) ?_
  intro p e s m below meth c ls hsz C hr hK hw hl
  subst hsz
  have hx := C.1
  have hb := C.2.1
  have hown := C.2.2.2.1
  have hta := fun w h => C.2.2.2.2 w (List.mem_cons_of_mem _ h)
  have hl : lv_has ls 3 [(0, .int v0)] := hl
  refine lv_iconst (v := 0) hx hb dX6_bits_0 (by decide) ?_
  refine lv_istore_n (lv' := [(1, .int (0 : Int32)), (0, .int v0)]) hx hb dX6_bits_1 rfl hl (by decide) rfl (fun ls hl => ?_)
  refine lv_iconst (v := 0) hx hb dX6_bits_2 (by decide) ?_
  refine lv_istore_n (lv' := [(2, .int (0 : Int32)), (1, .int (0 : Int32)), (0, .int v0)]) hx hb dX6_bits_3 rfl hl (by decide) rfl (fun ls hl => ?_)
  obtain ⟨n4, h⟩ := h
  refine lX6_bits_4 C hK v0 G B (K24 := _) ?_ n4 (0 : Int32) (0 : Int32) _ _ _ h hw (lv_sub hl [2, 1, 0] rfl)
  · intro x1_24 H locs ls h hw hl
    refine lv_iload_n hx hb dX6_bits_24 rfl (lv_at hl 0 rfl) ?_
    exact q_reti hx hb hr hw ⟨h, rfl, rfl⟩ dX6_bits_25
def wX6_isSix (v0 : Int32) (P : Int32 → Prop) : Prop := (wX6_in v0.toInt64 (0 : Int64) (5 : Int64) (fun r6 => (vb r6 ∧ P r6)))
set_option maxHeartbeats 4000000 in
set_option maxRecDepth 100000 in
theorem mX6_isSix (l : Launch) (w : WE) (cs : List Nat) (sz : Nat) (G : GS) (B : BS) (v0 : Int32) (P : Int32 → Prop) (h : wX6_isSix v0 P) : Met l yX6_isSix wsX6_isSix (rmW 1) (PcW w cs sz G B [.int v0]) (QI w cs sz (fun r G1 B1 => P r ∧ G = G1 ∧ B = B1)) 0 0 (AA w cs sz) := by
  refine metW (own := RX6) [.int v0] (by decide +kernel) rfl rfl (Nat.le_of_ble_eq_true rfl) ?_
  intro p e s m below meth c ls hsz C hr hK hw hl
  subst hsz
  have hx := C.1
  have hb := C.2.1
  have hown := C.2.2.2.1
  have hta := fun w h => C.2.2.2.2 w (List.mem_cons_of_mem _ h)
  have hl : lv_has ls 1 [(0, .int v0)] := hl
  refine lv_iload_n hx hb dX6_isSix_0 rfl (lv_at hl 0 rfl) ?_
  refine lv_i2l hx hb dX6_isSix_1 rfl ?_
  refine lv_lconst (v := 0) hx hb dX6_isSix_2 (by decide) ?_
  refine lv_ldc2 hx hb hown (hta _ kw_18) dX6_isSix_3 ?_
  refine q_calli hw (va_runS (As := [.long v0.toInt64, .long (0 : Int64), .long (5 : Int64)]) (rest := []) C (mX6_in l w cs _ G B v0.toInt64 (0 : Int64) (5 : Int64) _ h) (va_cwS 3 hta (gSw kw_15 kw_16 kw_17 kw_14) rfl rfl rfl (by decide +kernel) ⟨Nat.le_of_ble_eq_true rfl, Nat.le_of_ble_eq_true rfl⟩) (preS hK hw _) rfl rfl hl.1 rfl (lv_room (Nat.le_of_ble_eq_true rfl)) dX6_isSix_6 ⟨Nat.le_refl 0, Nat.le_refl 0⟩) (fun r6 G6 B6 H locs h hw => ?_)
  obtain ⟨h, e1, e2⟩ := h; subst e1; subst e2
  obtain ⟨hv1, h⟩ := h
  exact q_retz hx hb hr hw hv1 ⟨h, rfl, rfl⟩ dX6_isSix_9
def wlX6_weight_6 (K37 : Int32 → Prop) (a1 : Nat) (v2 : Int32) (v3 : Int32) (G : GS) : Nat → Int32 → Int32 → Prop
  | 0, _, _ => False
  | n6 + 1, v4, v5 => ((v3 ≤ v5 → K37 v4) ∧ (¬ v3 ≤ v5 → (vp_in (v2 + v5) (ln a1) ∧ ((¬ (G a1 (cl (v2 + v5))) = 0 → (∀ x29 : Int32, x29 = (v4 + (1 : Int32)) → wlX6_weight_6 K37 a1 v2 v3 G n6 x29 (v5 + (1 : Int32)))) ∧ ((G a1 (cl (v2 + v5))) = 0 → (∀ x29 : Int32, x29 = (v4 + (0 : Int32)) → wlX6_weight_6 K37 a1 v2 v3 G n6 x29 (v5 + (1 : Int32))))))))
def wX6_weight (a1 : Nat) (v2 : Int32) (v3 : Int32) (G : GS) (P : Int32 → Prop) : Prop := (∃ z6 : Nat, wlX6_weight_6 (fun x4_37 => P x4_37) a1 v2 v3 G z6 (0 : Int32) (0 : Int32))
set_option maxHeartbeats 4000000 in
set_option maxRecDepth 100000 in
theorem lX6_weight_6 {p : Program} {l : Launch} {e : Env} {s : State} {m : MethodId} {args : Array Value} {below : List Frame} {meth : Method} {c : Code} {Q : State → Prop} {w : WE} {cs : List Nat} {A : Nat → Prop} {H0 : Heap} (C : CallFix p m c cX6_weight 6 s args wsX6_weight RX6) (hK : KW w s) (a1 : Nat) (ha1I : isI a1) (ha1C : a1 ∈ cs) (v2 : Int32) (v3 : Int32) (G : GS) (B : BS) {K37 : Int32 → Prop} (k37 : ∀ (y4 : Int32) (H : Heap) (locs : List Loc) (ls : Array Slot), K37 y4 → WO w cs A H0 G B H locs → lv_has ls 6 [(4, .int y4)] → W p l e (rmW 0) s m args below meth c H locs 0 0 Q (F0 m 37 ls [])) : ∀ (n : Nat) (v4 : Int32) (v5 : Int32) (H : Heap) (locs : List Loc) (ls : Array Slot), wlX6_weight_6 K37 a1 v2 v3 G n v4 v5 → WO w cs A H0 G B H locs → lv_has ls 6 [(1, .ref (w.1 a1)), (2, .int v2), (3, .int v3), (4, .int v4), (5, .int v5)] → W p l e (rmW 0) s m args below meth c H locs 0 0 Q (F0 m 6 ls []) := by
  have hx := C.1
  have hb := C.2.1
  have hown := C.2.2.2.1
  have hta := fun w h => C.2.2.2.2 w (List.mem_cons_of_mem _ h)
  intro n
  induction n with
  | zero => intro v4 v5 H locs ls h hw hl; exact False.elim h
  | succ n ih =>
    intro v4 v5 H locs ls h hw hl
    refine lv_iload hx hb dX6_weight_6 (lv_at hl 4 rfl) ?_
    refine lv_iload_n hx hb dX6_weight_8 rfl (lv_at hl 2 rfl) ?_
    refine lv_icmp_ge (tgt := 37) hx hb dX6_weight_9 (by decide) (fun c1 => ?_) (fun c1 => ?_)
    · have h := h.1 c1
      exact k37 v4 _ _ _ h hw (lv_sub hl [3] rfl)
    · have h := h.2 c1
      refine lv_iload hx hb dX6_weight_12 (lv_at hl 3 rfl) ?_
      refine lv_aload_n hx hb dX6_weight_14 rfl (lv_at hl 0 rfl) ?_
      refine lv_iload_n hx hb dX6_weight_15 rfl (lv_at hl 1 rfl) ?_
      refine lv_iload hx hb dX6_weight_16 (lv_at hl 4 rfl) ?_
      refine lv_iadd hx hb dX6_weight_18 ?_
      obtain ⟨hin2, h⟩ := h
      refine q_iald (n := (ln a1)) hx hb hK hw ha1C ha1I rfl hin2 dX6_weight_19 ?_
      refine lv_if_ne (tgt := 27) hx hb dX6_weight_20 (by decide) (fun c3 => ?_) (fun c3 => ?_)
      · have h := h.1 c3
        refine lv_iconst (v := 1) hx hb dX6_weight_27 (by decide) ?_
        refine lv_iadd hx hb dX6_weight_28 ?_
        refine lv_topi (fun x29 ex29 => ?_)
        have h := h x29 ex29
        refine lv_istore (lv' := [(4, .int x29), (1, .ref (w.1 a1)), (2, .int v2), (3, .int v3), (5, .int v5)]) hx hb dX6_weight_29 hl (by decide) rfl (fun ls hl => ?_)
        refine lv_iinc (v := (v5 + (1 : Int32))) (lv' := [(5, .int (v5 + (1 : Int32))), (4, .int x29), (1, .ref (w.1 a1)), (2, .int v2), (3, .int v3)]) hx hb dX6_weight_31 hl (k := 4) rfl rfl (by decide) rfl (fun ls hl => ?_)
        refine lv_goto (tgt := 6) hx hb dX6_weight_34 (by decide) ?_
        exact ih x29 (v5 + (1 : Int32)) _ _ _ h hw (lv_sub hl [2, 3, 4, 1, 0] rfl)
      · have h := h.2 c3
        refine lv_iconst (v := 0) hx hb dX6_weight_23 (by decide) ?_
        refine lv_goto (tgt := 28) hx hb dX6_weight_24 (by decide) ?_
        refine lv_iadd hx hb dX6_weight_28 ?_
        refine lv_topi (fun x29 ex29 => ?_)
        have h := h x29 ex29
        refine lv_istore (lv' := [(4, .int x29), (1, .ref (w.1 a1)), (2, .int v2), (3, .int v3), (5, .int v5)]) hx hb dX6_weight_29 hl (by decide) rfl (fun ls hl => ?_)
        refine lv_iinc (v := (v5 + (1 : Int32))) (lv' := [(5, .int (v5 + (1 : Int32))), (4, .int x29), (1, .ref (w.1 a1)), (2, .int v2), (3, .int v3)]) hx hb dX6_weight_31 hl (k := 4) rfl rfl (by decide) rfl (fun ls hl => ?_)
        refine lv_goto (tgt := 6) hx hb dX6_weight_34 (by decide) ?_
        exact ih x29 (v5 + (1 : Int32)) _ _ _ h hw (lv_sub hl [2, 3, 4, 1, 0] rfl)
set_option maxHeartbeats 4000000 in
set_option maxRecDepth 100000 in
theorem mX6_weight (l : Launch) (w : WE) (cs : List Nat) (sz : Nat) (G : GS) (B : BS) (a1 : Nat) (ha1I : isI a1) (ha1C : a1 ∈ cs) (v2 : Int32) (v3 : Int32) (P : Int32 → Prop) (h : wX6_weight a1 v2 v3 G P) : Met l yX6_weight wsX6_weight (rmW 0) (PcW w cs sz G B [.ref (w.1 45), .ref (w.1 a1), .int v2, .int v3]) (QI w cs sz (fun r G1 B1 => P r ∧ G = G1 ∧ B = B1)) 0 0 (AA w cs sz) := by
  refine metW (own := RX6) [.ref (w.1 45), .ref (w.1 a1), .int v2, .int v3] (by decide +kernel) rfl rfl (Nat.le_of_ble_eq_true rfl) ?_
  intro p e s m below meth c ls hsz C hr hK hw hl
  subst hsz
  have hx := C.1
  have hb := C.2.1
  have hown := C.2.2.2.1
  have hta := fun w h => C.2.2.2.2 w (List.mem_cons_of_mem _ h)
  have hl : lv_has ls 6 [(0, .ref (w.1 45)), (1, .ref (w.1 a1)), (2, .int v2), (3, .int v3)] := hl
  refine lv_iconst (v := 0) hx hb dX6_weight_0 (by decide) ?_
  refine lv_istore (lv' := [(4, .int (0 : Int32)), (0, .ref (w.1 45)), (1, .ref (w.1 a1)), (2, .int v2), (3, .int v3)]) hx hb dX6_weight_1 hl (by decide) rfl (fun ls hl => ?_)
  refine lv_iconst (v := 0) hx hb dX6_weight_3 (by decide) ?_
  refine lv_istore (lv' := [(5, .int (0 : Int32)), (4, .int (0 : Int32)), (0, .ref (w.1 45)), (1, .ref (w.1 a1)), (2, .int v2), (3, .int v3)]) hx hb dX6_weight_4 hl (by decide) rfl (fun ls hl => ?_)
  obtain ⟨n6, h⟩ := h
  refine lX6_weight_6 C hK a1 ha1I ha1C v2 v3 G B (K37 := _) ?_ n6 (0 : Int32) (0 : Int32) _ _ _ h hw (lv_sub hl [3, 4, 5, 1, 0] rfl)
  · intro x4_37 H locs ls h hw hl
    refine lv_iload hx hb dX6_weight_37 (lv_at hl 0 rfl) ?_
    exact q_reti hx hb hr hw ⟨h, rfl, rfl⟩ dX6_weight_39
def wX6_third (v0 : Int64) (P : Int64 → Prop) : Prop := (∀ x5 : Int64, x5 = (v0 - v0 / (1000003 : Int64) * (1000003 : Int64)) → ((0 ≤ (lg_cmp x5 (0 : Int64)) → P x5) ∧ (¬ 0 ≤ (lg_cmp x5 (0 : Int64)) → P (x5 + (1000003 : Int64)))))
set_option maxHeartbeats 4000000 in
set_option maxRecDepth 100000 in
theorem mX6_third (l : Launch) (w : WE) (cs : List Nat) (sz : Nat) (G : GS) (B : BS) (v0 : Int64) (P : Int64 → Prop) (h : wX6_third v0 P) : Met l yX6_third wsX6_third (rmW 0) (PcW w cs sz G B [.long v0]) (QL w cs sz (fun r G1 B1 => P r ∧ G = G1 ∧ B = B1)) 0 0 (AA w cs sz) := by
  refine metW (own := RX6) [.long v0] (by decide +kernel) rfl rfl (Nat.le_of_ble_eq_true rfl) ?_
  intro p e s m below meth c ls hsz C hr hK hw hl
  subst hsz
  have hx := C.1
  have hb := C.2.1
  have hown := C.2.2.2.1
  have hta := fun w h => C.2.2.2.2 w (List.mem_cons_of_mem _ h)
  have hl : lv_has ls 4 [(0, .long v0)] := hl
  refine lv_lload_n hx hb dX6_third_0 rfl (lv_at hl 0 rfl) ?_
  refine lv_ldc2 hx hb hown (hta _ kw_19) dX6_third_1 ?_
  refine lv_lrem hx hb dX6_third_4 (by decide) ?_
  refine lv_topl (fun x5 ex5 => ?_)
  have h := h x5 ex5
  refine lv_lstore_n (lv' := [(2, .long x5), (0, .long v0)]) hx hb dX6_third_5 rfl hl (by decide) rfl (fun ls hl => ?_)
  refine lv_lload_n hx hb dX6_third_6 rfl (lv_at hl 0 rfl) ?_
  refine lv_lconst (v := 0) hx hb dX6_third_7 (by decide) ?_
  refine W.lcmp hx hb dX6_third_8 ?_
  refine lv_if_ge (tgt := 20) hx hb dX6_third_9 (by decide) (fun c1 => ?_) (fun c1 => ?_)
  · have h := h.1 c1
    refine lv_lload_n hx hb dX6_third_20 rfl (lv_at hl 0 rfl) ?_
    exact q_retl hx hb hr hw ⟨h, rfl, rfl⟩ dX6_third_21
  · have h := h.2 c1
    refine lv_lload_n hx hb dX6_third_12 rfl (lv_at hl 0 rfl) ?_
    refine lv_ldc2 hx hb hown (hta _ kw_19) dX6_third_13 ?_
    refine lv_ladd hx hb dX6_third_16 ?_
    refine lv_goto (tgt := 21) hx hb dX6_third_17 (by decide) ?_
    exact q_retl hx hb hr hw ⟨h, rfl, rfl⟩ dX6_third_21
