def wlX1_look_6 (K131 : Int32 → GS → Prop) (a1 : Nat) (v2 : Int32) (v3 : Int32) : Nat → Int32 → Int32 → GS → Prop
  | 0, _, _, _ => False
  | n6 + 1, v4, v5, G => ((((1 : Int32) <<< ((G 1 1) &&& (31 : Int32))) ≤ v5 → K131 v4 G) ∧ (¬ ((1 : Int32) <<< ((G 1 1) &&& (31 : Int32))) ≤ v5 → (wJ6_bitCount_0f7a4 v5 (fun r22 => ((¬ r22 = v3 → wlX1_look_6 K131 a1 v2 v3 n6 v4 (v5 + (1 : Int32)) G) ∧ (r22 = v3 → (wX2_waysToTell a1 v5 v2 (1 : Int32) G (fun r38 G38 => ((r38 ≤ 0 → wlX1_look_6 K131 a1 v2 v3 n6 v4 (v5 + (1 : Int32)) G38) ∧ (¬ r38 ≤ 0 → ((v4 < 0 → ((¬ (1 : Int32) = 0 → (∀ x109 : Int32, x109 = (G38 2 9) → (wX5_copy 13 14 G38 (fun G122 => wlX1_look_6 K131 a1 v2 v3 n6 x109 (v5 + (1 : Int32)) G122)))) ∧ ((1 : Int32) = 0 → ((¬ (G38 2 9) = v4 → wlX1_look_6 K131 a1 v2 v3 n6 v4 (v5 + (1 : Int32)) G38) ∧ ((G38 2 9) = v4 → (wX1_isLess 13 14 G38 (fun r96 => ((r96 = 0 → wlX1_look_6 K131 a1 v2 v3 n6 v4 (v5 + (1 : Int32)) G38) ∧ (¬ r96 = 0 → (∀ x109 : Int32, x109 = (G38 2 9) → (wX5_copy 13 14 G38 (fun G122 => wlX1_look_6 K131 a1 v2 v3 n6 x109 (v5 + (1 : Int32)) G122)))))))))))) ∧ (¬ v4 < 0 → ((v4 ≤ (G38 2 9) → ((¬ (0 : Int32) = 0 → (∀ x109 : Int32, x109 = (G38 2 9) → (wX5_copy 13 14 G38 (fun G122 => wlX1_look_6 K131 a1 v2 v3 n6 x109 (v5 + (1 : Int32)) G122)))) ∧ ((0 : Int32) = 0 → ((¬ (G38 2 9) = v4 → wlX1_look_6 K131 a1 v2 v3 n6 v4 (v5 + (1 : Int32)) G38) ∧ ((G38 2 9) = v4 → (wX1_isLess 13 14 G38 (fun r96 => ((r96 = 0 → wlX1_look_6 K131 a1 v2 v3 n6 v4 (v5 + (1 : Int32)) G38) ∧ (¬ r96 = 0 → (∀ x109 : Int32, x109 = (G38 2 9) → (wX5_copy 13 14 G38 (fun G122 => wlX1_look_6 K131 a1 v2 v3 n6 x109 (v5 + (1 : Int32)) G122)))))))))))) ∧ (¬ v4 ≤ (G38 2 9) → ((¬ (1 : Int32) = 0 → (∀ x109 : Int32, x109 = (G38 2 9) → (wX5_copy 13 14 G38 (fun G122 => wlX1_look_6 K131 a1 v2 v3 n6 x109 (v5 + (1 : Int32)) G122)))) ∧ ((1 : Int32) = 0 → ((¬ (G38 2 9) = v4 → wlX1_look_6 K131 a1 v2 v3 n6 v4 (v5 + (1 : Int32)) G38) ∧ ((G38 2 9) = v4 → (wX1_isLess 13 14 G38 (fun r96 => ((r96 = 0 → wlX1_look_6 K131 a1 v2 v3 n6 v4 (v5 + (1 : Int32)) G38) ∧ (¬ r96 = 0 → (∀ x109 : Int32, x109 = (G38 2 9) → (wX5_copy 13 14 G38 (fun G122 => wlX1_look_6 K131 a1 v2 v3 n6 x109 (v5 + (1 : Int32)) G122)))))))))))))))))))))))))
def wX1_look (a1 : Nat) (v2 : Int32) (v3 : Int32) (G : GS) (P : Int32 → GS → Prop) : Prop := (∃ z6 : Nat, wlX1_look_6 (fun x4_131 G_131 => ((x4_131 < 0 → P (0 : Int32) G_131) ∧ (¬ x4_131 < 0 → P (1 : Int32) G_131))) a1 v2 v3 z6 (-1 : Int32) (0 : Int32) G)
set_option maxHeartbeats 4000000 in
set_option maxRecDepth 100000 in
theorem lX1_look_6 {p : Program} {l : Launch} {e : Env} {s : State} {m : MethodId} {args : Array Value} {below : List Frame} {meth : Method} {c : Code} {Q : State → Prop} {w : WE} {cs : List Nat} {A : Nat → Prop} {H0 : Heap} (C : CallFix p m c cX1_look 7 s args wsX1_look RX1) (hK : KW w s) (hcs : ∀ c, c < 56 → c ∈ cs) (a1 : Nat) (ha1I : isI a1) (ha1C : a1 ∈ cs) (v2 : Int32) (v3 : Int32) (B : BS) {K131 : Int32 → GS → Prop} (k131 : ∀ (y4 : Int32) (G : GS) (H : Heap) (locs : List Loc) (ls : Array Slot), K131 y4 G → WO w cs A H0 G B H locs → lv_has ls 7 [(4, .int y4)] → W p l e (rmW 28) s m args below meth c H locs 0 0 Q (F0 m 131 ls [])) : ∀ (n : Nat) (v4 : Int32) (v5 : Int32) (G : GS) (H : Heap) (locs : List Loc) (ls : Array Slot), wlX1_look_6 K131 a1 v2 v3 n v4 v5 G → WO w cs A H0 G B H locs → lv_has ls 7 [(0, .ref (w.1 3)), (1, .ref (w.1 a1)), (2, .int v2), (3, .int v3), (4, .int v4), (5, .int v5)] → W p l e (rmW 28) s m args below meth c H locs 0 0 Q (F0 m 6 ls []) := by
  have hx := C.1
  have hb := C.2.1
  have hown := C.2.2.2.1
  have hta := fun w h => C.2.2.2.2 w (List.mem_cons_of_mem _ h)
  intro n
  induction n with
  | zero => intro v4 v5 G H locs ls h hw hl; exact False.elim h
  | succ n ih =>
    intro v4 v5 G H locs ls h hw hl
    refine lv_iload hx hb dX1_look_6 (lv_at hl 5 rfl) ?_
    refine lv_iconst (v := 1) hx hb dX1_look_8 (by decide) ?_
    refine lv_aload_n hx hb dX1_look_9 rfl (lv_at hl 0 rfl) ?_
    refine q_get (v := .ref (w.1 1)) (C := RX1) (T := TX1) (N := 3) (ci := 1) hx hb hta kw_X1 hown hK hw 3 (hcs _ (by omega)) (by unfold isB; omega) rfl rfl 0 (by decide) (hta _ kw_112) rfl rfl dX1_look_10 ?_
    refine q_getN (v := .int (G 1 1)) (host := RX5) (C := RX4) (T := TX4) (N := 5) (ci := 4) hx hb hta kw_X4 hown hK hw 1 (hcs _ (by omega)) (by unfold isB; omega) rfl rfl 1 (by decide) (by decide +kernel) rfl rfl dX1_look_13 ?_
    refine lv_ishl hx hb dX1_look_16 ?_
    refine lv_icmp_ge (tgt := 131) hx hb dX1_look_17 (by decide) (fun c1 => ?_) (fun c1 => ?_)
    · have h := h.1 c1
      exact k131 v4 G _ _ _ h hw (lv_sub hl [4] rfl)
    · have h := h.2 c1
      refine lv_iload hx hb dX1_look_20 (lv_at hl 5 rfl) ?_
      refine q_calli hw (va_runS (As := [.int v5]) (rest := []) C (mJ6_bitCount_0f7a4 l w cs _ G B v5 _ h) (va_cwS 1 hta (gSw kw_114 kw_115 kw_116 kw_113) rfl rfl rfl (by decide +kernel) ⟨Nat.le_of_ble_eq_true rfl, Nat.le_of_ble_eq_true rfl⟩) (preS hK hw _) rfl rfl hl.1 rfl (lv_room (Nat.le_of_ble_eq_true rfl)) dX1_look_22 ⟨Nat.le_refl 0, Nat.le_refl 0⟩) (fun r22 G22 B22 H locs h hw => ?_)
      obtain ⟨h, e1, e2⟩ := h; subst e1; subst e2
      refine lv_iload_n hx hb dX1_look_25 rfl (lv_at hl 3 rfl) ?_
      refine lv_icmp_ne (tgt := 125) hx hb dX1_look_26 (by decide) (fun c2 => ?_) (fun c2 => ?_)
      · have h := h.1 c2
        refine lv_iinc (v := (v5 + (1 : Int32))) (lv' := [(5, .int (v5 + (1 : Int32))), (0, .ref (w.1 3)), (1, .ref (w.1 a1)), (2, .int v2), (3, .int v3), (4, .int v4)]) hx hb dX1_look_125 hl (k := 5) rfl rfl (by decide) rfl (fun ls hl => ?_)
        refine lv_goto (tgt := 6) hx hb dX1_look_128 (by decide) ?_
        exact ih v4 (v5 + (1 : Int32)) G _ _ _ h hw (lv_sub hl [1, 2, 3, 4, 5, 0] rfl)
      · have h := h.2 c2
        refine lv_aload_n hx hb dX1_look_29 rfl (lv_at hl 0 rfl) ?_
        refine q_get (v := .ref (w.1 2)) (C := RX1) (T := TX1) (N := 3) (ci := 1) hx hb hta kw_X1 hown hK hw 3 (hcs _ (by omega)) (by unfold isB; omega) rfl rfl 1 (by decide) (hta _ kw_117) rfl rfl dX1_look_30 ?_
        refine lv_aload_n hx hb dX1_look_33 rfl (lv_at hl 1 rfl) ?_
        refine lv_iload hx hb dX1_look_34 (lv_at hl 5 rfl) ?_
        refine lv_iload_n hx hb dX1_look_36 rfl (lv_at hl 2 rfl) ?_
        refine lv_iconst (v := 1) hx hb dX1_look_37 (by decide) ?_
        refine q_calli hw (va_runV (As := [.ref (w.1 a1), .int v5, .int v2, .int (1 : Int32)]) (rest := []) C (mX2_waysToTell l w cs (fun c h => hcs c (by omega)) _ G B a1 ha1I ha1C v5 v2 (1 : Int32) _ h) (cwV 4 hta (gVw kw_119 kw_120 kw_121 kw_56 kw_118) rfl rfl rfl (by decide +kernel) ⟨Nat.le_of_ble_eq_true rfl, Nat.le_of_ble_eq_true rfl⟩) (preV hK hw 2 (hcs _ (by omega)) (by unfold isB; omega) rfl rfl _) rfl rfl hl.1 rfl (lv_room (Nat.le_of_ble_eq_true rfl)) dX1_look_38 ⟨Nat.le_refl 0, Nat.le_refl 0⟩) (fun r38 G38 B38 H locs h hw => ?_)
        obtain ⟨h, e2⟩ := h; subst e2
        refine lv_if_le (tgt := 125) hx hb dX1_look_41 (by decide) (fun c3 => ?_) (fun c3 => ?_)
        · have h := h.1 c3
          refine lv_iinc (v := (v5 + (1 : Int32))) (lv' := [(5, .int (v5 + (1 : Int32))), (0, .ref (w.1 3)), (1, .ref (w.1 a1)), (2, .int v2), (3, .int v3), (4, .int v4)]) hx hb dX1_look_125 hl (k := 5) rfl rfl (by decide) rfl (fun ls hl => ?_)
          refine lv_goto (tgt := 6) hx hb dX1_look_128 (by decide) ?_
          exact ih v4 (v5 + (1 : Int32)) G38 _ _ _ h hw (lv_sub hl [1, 2, 3, 4, 5, 0] rfl)
        · have h := h.2 c3
          refine lv_iload hx hb dX1_look_44 (lv_at hl 4 rfl) ?_
          refine lv_if_lt (tgt := 61) hx hb dX1_look_46 (by decide) (fun c4 => ?_) (fun c4 => ?_)
          · have h := h.1 c4
            refine lv_iconst (v := 1) hx hb dX1_look_61 (by decide) ?_
            refine lv_goto (tgt := 66) hx hb dX1_look_62 (by decide) ?_
            refine lv_istore (lv' := [(6, .int (1 : Int32)), (0, .ref (w.1 3)), (1, .ref (w.1 a1)), (2, .int v2), (3, .int v3), (4, .int v4), (5, .int v5)]) hx hb dX1_look_66 hl (by decide) rfl (fun ls hl => ?_)
            refine lv_iload hx hb dX1_look_68 (lv_at hl 0 rfl) ?_
            refine lv_if_ne (tgt := 102) hx hb dX1_look_70 (by decide) (fun c5 => ?_) (fun c5 => ?_)
            · have h := h.1 c5
              refine lv_aload_n hx hb dX1_look_102 rfl (lv_at hl 1 rfl) ?_
              refine q_get (v := .ref (w.1 2)) (C := RX1) (T := TX1) (N := 3) (ci := 1) hx hb hta kw_X1 hown hK hw 3 (hcs _ (by omega)) (by unfold isB; omega) rfl rfl 1 (by decide) (hta _ kw_117) rfl rfl dX1_look_103 ?_
              refine q_getN (v := .int (G38 2 9)) (host := RX5) (C := RX2) (T := TX2) (N := 11) (ci := 2) hx hb hta kw_X2 hown hK hw 2 (hcs _ (by omega)) (by unfold isB; omega) rfl rfl 9 (by decide) (by decide +kernel) rfl rfl dX1_look_106 ?_
              refine lv_topi (fun x109 ex109 => ?_)
              have h := h x109 ex109
              refine lv_istore (lv' := [(4, .int x109), (6, .int (1 : Int32)), (0, .ref (w.1 3)), (1, .ref (w.1 a1)), (2, .int v2), (3, .int v3), (5, .int v5)]) hx hb dX1_look_109 hl (by decide) rfl (fun ls hl => ?_)
              refine lv_aload_n hx hb dX1_look_111 rfl (lv_at hl 2 rfl) ?_
              refine q_get (v := .ref (w.1 2)) (C := RX1) (T := TX1) (N := 3) (ci := 1) hx hb hta kw_X1 hown hK hw 3 (hcs _ (by omega)) (by unfold isB; omega) rfl rfl 1 (by decide) (hta _ kw_117) rfl rfl dX1_look_112 ?_
              refine q_getN (v := .ref (w.1 13)) (host := RX5) (C := RX2) (T := TX2) (N := 11) (ci := 2) hx hb hta kw_X2 hown hK hw 2 (hcs _ (by omega)) (by unfold isB; omega) rfl rfl 4 (by decide) (by decide +kernel) rfl rfl dX1_look_115 ?_
              refine lv_aload_n hx hb dX1_look_118 rfl (lv_at hl 2 rfl) ?_
              refine q_get (v := .ref (w.1 14)) (C := RX1) (T := TX1) (N := 3) (ci := 1) hx hb hta kw_X1 hown hK hw 3 (hcs _ (by omega)) (by unfold isB; omega) rfl rfl 2 (by decide) (hta _ kw_122) rfl rfl dX1_look_119 ?_
              refine q_callv hw (va_runSN (As := [.ref (w.1 13), .ref (w.1 14)]) (rest := []) C (mX5_copy l w cs _ G38 B 13 (by unfold isI; omega) (hcs _ (by omega)) 14 (by unfold isI; omega) (hcs _ (by omega)) _ h) ⟨va_cnB 2 hta (gNw kw_123) rfl rfl rfl (hK.2 (.methodLinkNest RX1 49 yX5_copy RX5) (by decide +kernel)) (hta _ kw_30) (by decide +kernel) ⟨Nat.le_of_ble_eq_true rfl, Nat.le_of_ble_eq_true rfl⟩, hta _ kw_124, trivial⟩ (preS hK hw _) rfl rfl hl.1 rfl (lv_room (Nat.le_of_ble_eq_true rfl)) dX1_look_122 ⟨Nat.le_refl 0, Nat.le_refl 0⟩) (fun G122 B122 H locs h hw => ?_)
              obtain ⟨h, e2⟩ := h; subst e2
              refine lv_iinc (v := (v5 + (1 : Int32))) (lv' := [(5, .int (v5 + (1 : Int32))), (4, .int x109), (6, .int (1 : Int32)), (0, .ref (w.1 3)), (1, .ref (w.1 a1)), (2, .int v2), (3, .int v3)]) hx hb dX1_look_125 hl (k := 6) rfl rfl (by decide) rfl (fun ls hl => ?_)
              refine lv_goto (tgt := 6) hx hb dX1_look_128 (by decide) ?_
              exact ih x109 (v5 + (1 : Int32)) G122 _ _ _ h hw (lv_sub hl [3, 4, 5, 6, 1, 0] rfl)
            · have h := h.2 c5
              refine lv_aload_n hx hb dX1_look_73 rfl (lv_at hl 1 rfl) ?_
              refine q_get (v := .ref (w.1 2)) (C := RX1) (T := TX1) (N := 3) (ci := 1) hx hb hta kw_X1 hown hK hw 3 (hcs _ (by omega)) (by unfold isB; omega) rfl rfl 1 (by decide) (hta _ kw_117) rfl rfl dX1_look_74 ?_
              refine q_getN (v := .int (G38 2 9)) (host := RX5) (C := RX2) (T := TX2) (N := 11) (ci := 2) hx hb hta kw_X2 hown hK hw 2 (hcs _ (by omega)) (by unfold isB; omega) rfl rfl 9 (by decide) (by decide +kernel) rfl rfl dX1_look_77 ?_
              refine lv_iload hx hb dX1_look_80 (lv_at hl 5 rfl) ?_
              refine lv_icmp_ne (tgt := 125) hx hb dX1_look_82 (by decide) (fun c6 => ?_) (fun c6 => ?_)
              · have h := h.1 c6
                refine lv_iinc (v := (v5 + (1 : Int32))) (lv' := [(5, .int (v5 + (1 : Int32))), (6, .int (1 : Int32)), (0, .ref (w.1 3)), (1, .ref (w.1 a1)), (2, .int v2), (3, .int v3), (4, .int v4)]) hx hb dX1_look_125 hl (k := 6) rfl rfl (by decide) rfl (fun ls hl => ?_)
                refine lv_goto (tgt := 6) hx hb dX1_look_128 (by decide) ?_
                exact ih v4 (v5 + (1 : Int32)) G38 _ _ _ h hw (lv_sub hl [2, 3, 4, 5, 6, 0] rfl)
              · have h := h.2 c6
                refine lv_aload_n hx hb dX1_look_85 rfl (lv_at hl 1 rfl) ?_
                refine q_get (v := .ref (w.1 2)) (C := RX1) (T := TX1) (N := 3) (ci := 1) hx hb hta kw_X1 hown hK hw 3 (hcs _ (by omega)) (by unfold isB; omega) rfl rfl 1 (by decide) (hta _ kw_117) rfl rfl dX1_look_86 ?_
                refine q_getN (v := .ref (w.1 13)) (host := RX5) (C := RX2) (T := TX2) (N := 11) (ci := 2) hx hb hta kw_X2 hown hK hw 2 (hcs _ (by omega)) (by unfold isB; omega) rfl rfl 4 (by decide) (by decide +kernel) rfl rfl dX1_look_89 ?_
                refine lv_aload_n hx hb dX1_look_92 rfl (lv_at hl 1 rfl) ?_
                refine q_get (v := .ref (w.1 14)) (C := RX1) (T := TX1) (N := 3) (ci := 1) hx hb hta kw_X1 hown hK hw 3 (hcs _ (by omega)) (by unfold isB; omega) rfl rfl 2 (by decide) (hta _ kw_122) rfl rfl dX1_look_93 ?_
                refine q_calli hw (va_runS (As := [.ref (w.1 13), .ref (w.1 14)]) (rest := []) C (mX1_isLess l w cs _ G38 B 13 (by unfold isI; omega) (hcs _ (by omega)) 14 (by unfold isI; omega) (hcs _ (by omega)) _ h) (va_cwS 2 hta (gSw kw_126 kw_127 kw_128 kw_125) rfl rfl rfl (by decide +kernel) ⟨Nat.le_of_ble_eq_true rfl, Nat.le_of_ble_eq_true rfl⟩) (preS hK hw _) rfl rfl hl.1 rfl (lv_room (Nat.le_of_ble_eq_true rfl)) dX1_look_96 ⟨Nat.le_refl 0, Nat.le_refl 0⟩) (fun r96 G96 B96 H locs h hw => ?_)
                obtain ⟨h, e1, e2⟩ := h; subst e1; subst e2
                refine lv_if_eq (tgt := 125) hx hb dX1_look_99 (by decide) (fun c7 => ?_) (fun c7 => ?_)
                · have h := h.1 c7
                  refine lv_iinc (v := (v5 + (1 : Int32))) (lv' := [(5, .int (v5 + (1 : Int32))), (6, .int (1 : Int32)), (0, .ref (w.1 3)), (1, .ref (w.1 a1)), (2, .int v2), (3, .int v3), (4, .int v4)]) hx hb dX1_look_125 hl (k := 6) rfl rfl (by decide) rfl (fun ls hl => ?_)
                  refine lv_goto (tgt := 6) hx hb dX1_look_128 (by decide) ?_
                  exact ih v4 (v5 + (1 : Int32)) G38 _ _ _ h hw (lv_sub hl [2, 3, 4, 5, 6, 0] rfl)
                · have h := h.2 c7
                  refine lv_aload_n hx hb dX1_look_102 rfl (lv_at hl 1 rfl) ?_
                  refine q_get (v := .ref (w.1 2)) (C := RX1) (T := TX1) (N := 3) (ci := 1) hx hb hta kw_X1 hown hK hw 3 (hcs _ (by omega)) (by unfold isB; omega) rfl rfl 1 (by decide) (hta _ kw_117) rfl rfl dX1_look_103 ?_
                  refine q_getN (v := .int (G38 2 9)) (host := RX5) (C := RX2) (T := TX2) (N := 11) (ci := 2) hx hb hta kw_X2 hown hK hw 2 (hcs _ (by omega)) (by unfold isB; omega) rfl rfl 9 (by decide) (by decide +kernel) rfl rfl dX1_look_106 ?_
                  refine lv_topi (fun x109 ex109 => ?_)
                  have h := h x109 ex109
                  refine lv_istore (lv' := [(4, .int x109), (6, .int (1 : Int32)), (0, .ref (w.1 3)), (1, .ref (w.1 a1)), (2, .int v2), (3, .int v3), (5, .int v5)]) hx hb dX1_look_109 hl (by decide) rfl (fun ls hl => ?_)
                  refine lv_aload_n hx hb dX1_look_111 rfl (lv_at hl 2 rfl) ?_
                  refine q_get (v := .ref (w.1 2)) (C := RX1) (T := TX1) (N := 3) (ci := 1) hx hb hta kw_X1 hown hK hw 3 (hcs _ (by omega)) (by unfold isB; omega) rfl rfl 1 (by decide) (hta _ kw_117) rfl rfl dX1_look_112 ?_
                  refine q_getN (v := .ref (w.1 13)) (host := RX5) (C := RX2) (T := TX2) (N := 11) (ci := 2) hx hb hta kw_X2 hown hK hw 2 (hcs _ (by omega)) (by unfold isB; omega) rfl rfl 4 (by decide) (by decide +kernel) rfl rfl dX1_look_115 ?_
                  refine lv_aload_n hx hb dX1_look_118 rfl (lv_at hl 2 rfl) ?_
                  refine q_get (v := .ref (w.1 14)) (C := RX1) (T := TX1) (N := 3) (ci := 1) hx hb hta kw_X1 hown hK hw 3 (hcs _ (by omega)) (by unfold isB; omega) rfl rfl 2 (by decide) (hta _ kw_122) rfl rfl dX1_look_119 ?_
                  refine q_callv hw (va_runSN (As := [.ref (w.1 13), .ref (w.1 14)]) (rest := []) C (mX5_copy l w cs _ G38 B 13 (by unfold isI; omega) (hcs _ (by omega)) 14 (by unfold isI; omega) (hcs _ (by omega)) _ h) ⟨va_cnB 2 hta (gNw kw_123) rfl rfl rfl (hK.2 (.methodLinkNest RX1 49 yX5_copy RX5) (by decide +kernel)) (hta _ kw_30) (by decide +kernel) ⟨Nat.le_of_ble_eq_true rfl, Nat.le_of_ble_eq_true rfl⟩, hta _ kw_124, trivial⟩ (preS hK hw _) rfl rfl hl.1 rfl (lv_room (Nat.le_of_ble_eq_true rfl)) dX1_look_122 ⟨Nat.le_refl 0, Nat.le_refl 0⟩) (fun G122 B122 H locs h hw => ?_)
                  obtain ⟨h, e2⟩ := h; subst e2
                  refine lv_iinc (v := (v5 + (1 : Int32))) (lv' := [(5, .int (v5 + (1 : Int32))), (4, .int x109), (6, .int (1 : Int32)), (0, .ref (w.1 3)), (1, .ref (w.1 a1)), (2, .int v2), (3, .int v3)]) hx hb dX1_look_125 hl (k := 6) rfl rfl (by decide) rfl (fun ls hl => ?_)
                  refine lv_goto (tgt := 6) hx hb dX1_look_128 (by decide) ?_
                  exact ih x109 (v5 + (1 : Int32)) G122 _ _ _ h hw (lv_sub hl [3, 4, 5, 6, 1, 0] rfl)
          · have h := h.2 c4
            refine lv_aload_n hx hb dX1_look_49 rfl (lv_at hl 0 rfl) ?_
            refine q_get (v := .ref (w.1 2)) (C := RX1) (T := TX1) (N := 3) (ci := 1) hx hb hta kw_X1 hown hK hw 3 (hcs _ (by omega)) (by unfold isB; omega) rfl rfl 1 (by decide) (hta _ kw_117) rfl rfl dX1_look_50 ?_
            refine q_getN (v := .int (G38 2 9)) (host := RX5) (C := RX2) (T := TX2) (N := 11) (ci := 2) hx hb hta kw_X2 hown hK hw 2 (hcs _ (by omega)) (by unfold isB; omega) rfl rfl 9 (by decide) (by decide +kernel) rfl rfl dX1_look_53 ?_
            refine lv_iload hx hb dX1_look_56 (lv_at hl 4 rfl) ?_
            refine lv_icmp_ge (tgt := 65) hx hb dX1_look_58 (by decide) (fun c8 => ?_) (fun c8 => ?_)
            · have h := h.1 c8
              refine lv_iconst (v := 0) hx hb dX1_look_65 (by decide) ?_
              refine lv_istore (lv' := [(6, .int (0 : Int32)), (0, .ref (w.1 3)), (1, .ref (w.1 a1)), (2, .int v2), (3, .int v3), (4, .int v4), (5, .int v5)]) hx hb dX1_look_66 hl (by decide) rfl (fun ls hl => ?_)
              refine lv_iload hx hb dX1_look_68 (lv_at hl 0 rfl) ?_
              refine lv_if_ne (tgt := 102) hx hb dX1_look_70 (by decide) (fun c9 => ?_) (fun c9 => ?_)
              · have h := h.1 c9
                refine lv_aload_n hx hb dX1_look_102 rfl (lv_at hl 1 rfl) ?_
                refine q_get (v := .ref (w.1 2)) (C := RX1) (T := TX1) (N := 3) (ci := 1) hx hb hta kw_X1 hown hK hw 3 (hcs _ (by omega)) (by unfold isB; omega) rfl rfl 1 (by decide) (hta _ kw_117) rfl rfl dX1_look_103 ?_
                refine q_getN (v := .int (G38 2 9)) (host := RX5) (C := RX2) (T := TX2) (N := 11) (ci := 2) hx hb hta kw_X2 hown hK hw 2 (hcs _ (by omega)) (by unfold isB; omega) rfl rfl 9 (by decide) (by decide +kernel) rfl rfl dX1_look_106 ?_
                refine lv_topi (fun x109 ex109 => ?_)
                have h := h x109 ex109
                refine lv_istore (lv' := [(4, .int x109), (6, .int (0 : Int32)), (0, .ref (w.1 3)), (1, .ref (w.1 a1)), (2, .int v2), (3, .int v3), (5, .int v5)]) hx hb dX1_look_109 hl (by decide) rfl (fun ls hl => ?_)
                refine lv_aload_n hx hb dX1_look_111 rfl (lv_at hl 2 rfl) ?_
                refine q_get (v := .ref (w.1 2)) (C := RX1) (T := TX1) (N := 3) (ci := 1) hx hb hta kw_X1 hown hK hw 3 (hcs _ (by omega)) (by unfold isB; omega) rfl rfl 1 (by decide) (hta _ kw_117) rfl rfl dX1_look_112 ?_
                refine q_getN (v := .ref (w.1 13)) (host := RX5) (C := RX2) (T := TX2) (N := 11) (ci := 2) hx hb hta kw_X2 hown hK hw 2 (hcs _ (by omega)) (by unfold isB; omega) rfl rfl 4 (by decide) (by decide +kernel) rfl rfl dX1_look_115 ?_
                refine lv_aload_n hx hb dX1_look_118 rfl (lv_at hl 2 rfl) ?_
                refine q_get (v := .ref (w.1 14)) (C := RX1) (T := TX1) (N := 3) (ci := 1) hx hb hta kw_X1 hown hK hw 3 (hcs _ (by omega)) (by unfold isB; omega) rfl rfl 2 (by decide) (hta _ kw_122) rfl rfl dX1_look_119 ?_
                refine q_callv hw (va_runSN (As := [.ref (w.1 13), .ref (w.1 14)]) (rest := []) C (mX5_copy l w cs _ G38 B 13 (by unfold isI; omega) (hcs _ (by omega)) 14 (by unfold isI; omega) (hcs _ (by omega)) _ h) ⟨va_cnB 2 hta (gNw kw_123) rfl rfl rfl (hK.2 (.methodLinkNest RX1 49 yX5_copy RX5) (by decide +kernel)) (hta _ kw_30) (by decide +kernel) ⟨Nat.le_of_ble_eq_true rfl, Nat.le_of_ble_eq_true rfl⟩, hta _ kw_124, trivial⟩ (preS hK hw _) rfl rfl hl.1 rfl (lv_room (Nat.le_of_ble_eq_true rfl)) dX1_look_122 ⟨Nat.le_refl 0, Nat.le_refl 0⟩) (fun G122 B122 H locs h hw => ?_)
                obtain ⟨h, e2⟩ := h; subst e2
                refine lv_iinc (v := (v5 + (1 : Int32))) (lv' := [(5, .int (v5 + (1 : Int32))), (4, .int x109), (6, .int (0 : Int32)), (0, .ref (w.1 3)), (1, .ref (w.1 a1)), (2, .int v2), (3, .int v3)]) hx hb dX1_look_125 hl (k := 6) rfl rfl (by decide) rfl (fun ls hl => ?_)
                refine lv_goto (tgt := 6) hx hb dX1_look_128 (by decide) ?_
                exact ih x109 (v5 + (1 : Int32)) G122 _ _ _ h hw (lv_sub hl [3, 4, 5, 6, 1, 0] rfl)
              · have h := h.2 c9
                refine lv_aload_n hx hb dX1_look_73 rfl (lv_at hl 1 rfl) ?_
                refine q_get (v := .ref (w.1 2)) (C := RX1) (T := TX1) (N := 3) (ci := 1) hx hb hta kw_X1 hown hK hw 3 (hcs _ (by omega)) (by unfold isB; omega) rfl rfl 1 (by decide) (hta _ kw_117) rfl rfl dX1_look_74 ?_
                refine q_getN (v := .int (G38 2 9)) (host := RX5) (C := RX2) (T := TX2) (N := 11) (ci := 2) hx hb hta kw_X2 hown hK hw 2 (hcs _ (by omega)) (by unfold isB; omega) rfl rfl 9 (by decide) (by decide +kernel) rfl rfl dX1_look_77 ?_
                refine lv_iload hx hb dX1_look_80 (lv_at hl 5 rfl) ?_
                refine lv_icmp_ne (tgt := 125) hx hb dX1_look_82 (by decide) (fun c10 => ?_) (fun c10 => ?_)
                · have h := h.1 c10
                  refine lv_iinc (v := (v5 + (1 : Int32))) (lv' := [(5, .int (v5 + (1 : Int32))), (6, .int (0 : Int32)), (0, .ref (w.1 3)), (1, .ref (w.1 a1)), (2, .int v2), (3, .int v3), (4, .int v4)]) hx hb dX1_look_125 hl (k := 6) rfl rfl (by decide) rfl (fun ls hl => ?_)
                  refine lv_goto (tgt := 6) hx hb dX1_look_128 (by decide) ?_
                  exact ih v4 (v5 + (1 : Int32)) G38 _ _ _ h hw (lv_sub hl [2, 3, 4, 5, 6, 0] rfl)
                · have h := h.2 c10
                  refine lv_aload_n hx hb dX1_look_85 rfl (lv_at hl 1 rfl) ?_
                  refine q_get (v := .ref (w.1 2)) (C := RX1) (T := TX1) (N := 3) (ci := 1) hx hb hta kw_X1 hown hK hw 3 (hcs _ (by omega)) (by unfold isB; omega) rfl rfl 1 (by decide) (hta _ kw_117) rfl rfl dX1_look_86 ?_
                  refine q_getN (v := .ref (w.1 13)) (host := RX5) (C := RX2) (T := TX2) (N := 11) (ci := 2) hx hb hta kw_X2 hown hK hw 2 (hcs _ (by omega)) (by unfold isB; omega) rfl rfl 4 (by decide) (by decide +kernel) rfl rfl dX1_look_89 ?_
                  refine lv_aload_n hx hb dX1_look_92 rfl (lv_at hl 1 rfl) ?_
                  refine q_get (v := .ref (w.1 14)) (C := RX1) (T := TX1) (N := 3) (ci := 1) hx hb hta kw_X1 hown hK hw 3 (hcs _ (by omega)) (by unfold isB; omega) rfl rfl 2 (by decide) (hta _ kw_122) rfl rfl dX1_look_93 ?_
                  refine q_calli hw (va_runS (As := [.ref (w.1 13), .ref (w.1 14)]) (rest := []) C (mX1_isLess l w cs _ G38 B 13 (by unfold isI; omega) (hcs _ (by omega)) 14 (by unfold isI; omega) (hcs _ (by omega)) _ h) (va_cwS 2 hta (gSw kw_126 kw_127 kw_128 kw_125) rfl rfl rfl (by decide +kernel) ⟨Nat.le_of_ble_eq_true rfl, Nat.le_of_ble_eq_true rfl⟩) (preS hK hw _) rfl rfl hl.1 rfl (lv_room (Nat.le_of_ble_eq_true rfl)) dX1_look_96 ⟨Nat.le_refl 0, Nat.le_refl 0⟩) (fun r96 G96 B96 H locs h hw => ?_)
                  obtain ⟨h, e1, e2⟩ := h; subst e1; subst e2
                  refine lv_if_eq (tgt := 125) hx hb dX1_look_99 (by decide) (fun c11 => ?_) (fun c11 => ?_)
                  · have h := h.1 c11
                    refine lv_iinc (v := (v5 + (1 : Int32))) (lv' := [(5, .int (v5 + (1 : Int32))), (6, .int (0 : Int32)), (0, .ref (w.1 3)), (1, .ref (w.1 a1)), (2, .int v2), (3, .int v3), (4, .int v4)]) hx hb dX1_look_125 hl (k := 6) rfl rfl (by decide) rfl (fun ls hl => ?_)
                    refine lv_goto (tgt := 6) hx hb dX1_look_128 (by decide) ?_
                    exact ih v4 (v5 + (1 : Int32)) G38 _ _ _ h hw (lv_sub hl [2, 3, 4, 5, 6, 0] rfl)
                  · have h := h.2 c11
                    refine lv_aload_n hx hb dX1_look_102 rfl (lv_at hl 1 rfl) ?_
                    refine q_get (v := .ref (w.1 2)) (C := RX1) (T := TX1) (N := 3) (ci := 1) hx hb hta kw_X1 hown hK hw 3 (hcs _ (by omega)) (by unfold isB; omega) rfl rfl 1 (by decide) (hta _ kw_117) rfl rfl dX1_look_103 ?_
                    refine q_getN (v := .int (G38 2 9)) (host := RX5) (C := RX2) (T := TX2) (N := 11) (ci := 2) hx hb hta kw_X2 hown hK hw 2 (hcs _ (by omega)) (by unfold isB; omega) rfl rfl 9 (by decide) (by decide +kernel) rfl rfl dX1_look_106 ?_
                    refine lv_topi (fun x109 ex109 => ?_)
                    have h := h x109 ex109
                    refine lv_istore (lv' := [(4, .int x109), (6, .int (0 : Int32)), (0, .ref (w.1 3)), (1, .ref (w.1 a1)), (2, .int v2), (3, .int v3), (5, .int v5)]) hx hb dX1_look_109 hl (by decide) rfl (fun ls hl => ?_)
                    refine lv_aload_n hx hb dX1_look_111 rfl (lv_at hl 2 rfl) ?_
                    refine q_get (v := .ref (w.1 2)) (C := RX1) (T := TX1) (N := 3) (ci := 1) hx hb hta kw_X1 hown hK hw 3 (hcs _ (by omega)) (by unfold isB; omega) rfl rfl 1 (by decide) (hta _ kw_117) rfl rfl dX1_look_112 ?_
                    refine q_getN (v := .ref (w.1 13)) (host := RX5) (C := RX2) (T := TX2) (N := 11) (ci := 2) hx hb hta kw_X2 hown hK hw 2 (hcs _ (by omega)) (by unfold isB; omega) rfl rfl 4 (by decide) (by decide +kernel) rfl rfl dX1_look_115 ?_
                    refine lv_aload_n hx hb dX1_look_118 rfl (lv_at hl 2 rfl) ?_
                    refine q_get (v := .ref (w.1 14)) (C := RX1) (T := TX1) (N := 3) (ci := 1) hx hb hta kw_X1 hown hK hw 3 (hcs _ (by omega)) (by unfold isB; omega) rfl rfl 2 (by decide) (hta _ kw_122) rfl rfl dX1_look_119 ?_
                    refine q_callv hw (va_runSN (As := [.ref (w.1 13), .ref (w.1 14)]) (rest := []) C (mX5_copy l w cs _ G38 B 13 (by unfold isI; omega) (hcs _ (by omega)) 14 (by unfold isI; omega) (hcs _ (by omega)) _ h) ⟨va_cnB 2 hta (gNw kw_123) rfl rfl rfl (hK.2 (.methodLinkNest RX1 49 yX5_copy RX5) (by decide +kernel)) (hta _ kw_30) (by decide +kernel) ⟨Nat.le_of_ble_eq_true rfl, Nat.le_of_ble_eq_true rfl⟩, hta _ kw_124, trivial⟩ (preS hK hw _) rfl rfl hl.1 rfl (lv_room (Nat.le_of_ble_eq_true rfl)) dX1_look_122 ⟨Nat.le_refl 0, Nat.le_refl 0⟩) (fun G122 B122 H locs h hw => ?_)
                    obtain ⟨h, e2⟩ := h; subst e2
                    refine lv_iinc (v := (v5 + (1 : Int32))) (lv' := [(5, .int (v5 + (1 : Int32))), (4, .int x109), (6, .int (0 : Int32)), (0, .ref (w.1 3)), (1, .ref (w.1 a1)), (2, .int v2), (3, .int v3)]) hx hb dX1_look_125 hl (k := 6) rfl rfl (by decide) rfl (fun ls hl => ?_)
                    refine lv_goto (tgt := 6) hx hb dX1_look_128 (by decide) ?_
                    exact ih x109 (v5 + (1 : Int32)) G122 _ _ _ h hw (lv_sub hl [3, 4, 5, 6, 1, 0] rfl)
            · have h := h.2 c8
              refine lv_iconst (v := 1) hx hb dX1_look_61 (by decide) ?_
              refine lv_goto (tgt := 66) hx hb dX1_look_62 (by decide) ?_
              refine lv_istore (lv' := [(6, .int (1 : Int32)), (0, .ref (w.1 3)), (1, .ref (w.1 a1)), (2, .int v2), (3, .int v3), (4, .int v4), (5, .int v5)]) hx hb dX1_look_66 hl (by decide) rfl (fun ls hl => ?_)
              refine lv_iload hx hb dX1_look_68 (lv_at hl 0 rfl) ?_
              refine lv_if_ne (tgt := 102) hx hb dX1_look_70 (by decide) (fun c12 => ?_) (fun c12 => ?_)
              · have h := h.1 c12
                refine lv_aload_n hx hb dX1_look_102 rfl (lv_at hl 1 rfl) ?_
                refine q_get (v := .ref (w.1 2)) (C := RX1) (T := TX1) (N := 3) (ci := 1) hx hb hta kw_X1 hown hK hw 3 (hcs _ (by omega)) (by unfold isB; omega) rfl rfl 1 (by decide) (hta _ kw_117) rfl rfl dX1_look_103 ?_
                refine q_getN (v := .int (G38 2 9)) (host := RX5) (C := RX2) (T := TX2) (N := 11) (ci := 2) hx hb hta kw_X2 hown hK hw 2 (hcs _ (by omega)) (by unfold isB; omega) rfl rfl 9 (by decide) (by decide +kernel) rfl rfl dX1_look_106 ?_
                refine lv_topi (fun x109 ex109 => ?_)
                have h := h x109 ex109
                refine lv_istore (lv' := [(4, .int x109), (6, .int (1 : Int32)), (0, .ref (w.1 3)), (1, .ref (w.1 a1)), (2, .int v2), (3, .int v3), (5, .int v5)]) hx hb dX1_look_109 hl (by decide) rfl (fun ls hl => ?_)
                refine lv_aload_n hx hb dX1_look_111 rfl (lv_at hl 2 rfl) ?_
                refine q_get (v := .ref (w.1 2)) (C := RX1) (T := TX1) (N := 3) (ci := 1) hx hb hta kw_X1 hown hK hw 3 (hcs _ (by omega)) (by unfold isB; omega) rfl rfl 1 (by decide) (hta _ kw_117) rfl rfl dX1_look_112 ?_
                refine q_getN (v := .ref (w.1 13)) (host := RX5) (C := RX2) (T := TX2) (N := 11) (ci := 2) hx hb hta kw_X2 hown hK hw 2 (hcs _ (by omega)) (by unfold isB; omega) rfl rfl 4 (by decide) (by decide +kernel) rfl rfl dX1_look_115 ?_
                refine lv_aload_n hx hb dX1_look_118 rfl (lv_at hl 2 rfl) ?_
                refine q_get (v := .ref (w.1 14)) (C := RX1) (T := TX1) (N := 3) (ci := 1) hx hb hta kw_X1 hown hK hw 3 (hcs _ (by omega)) (by unfold isB; omega) rfl rfl 2 (by decide) (hta _ kw_122) rfl rfl dX1_look_119 ?_
                refine q_callv hw (va_runSN (As := [.ref (w.1 13), .ref (w.1 14)]) (rest := []) C (mX5_copy l w cs _ G38 B 13 (by unfold isI; omega) (hcs _ (by omega)) 14 (by unfold isI; omega) (hcs _ (by omega)) _ h) ⟨va_cnB 2 hta (gNw kw_123) rfl rfl rfl (hK.2 (.methodLinkNest RX1 49 yX5_copy RX5) (by decide +kernel)) (hta _ kw_30) (by decide +kernel) ⟨Nat.le_of_ble_eq_true rfl, Nat.le_of_ble_eq_true rfl⟩, hta _ kw_124, trivial⟩ (preS hK hw _) rfl rfl hl.1 rfl (lv_room (Nat.le_of_ble_eq_true rfl)) dX1_look_122 ⟨Nat.le_refl 0, Nat.le_refl 0⟩) (fun G122 B122 H locs h hw => ?_)
                obtain ⟨h, e2⟩ := h; subst e2
                refine lv_iinc (v := (v5 + (1 : Int32))) (lv' := [(5, .int (v5 + (1 : Int32))), (4, .int x109), (6, .int (1 : Int32)), (0, .ref (w.1 3)), (1, .ref (w.1 a1)), (2, .int v2), (3, .int v3)]) hx hb dX1_look_125 hl (k := 6) rfl rfl (by decide) rfl (fun ls hl => ?_)
                refine lv_goto (tgt := 6) hx hb dX1_look_128 (by decide) ?_
                exact ih x109 (v5 + (1 : Int32)) G122 _ _ _ h hw (lv_sub hl [3, 4, 5, 6, 1, 0] rfl)
              · have h := h.2 c12
                refine lv_aload_n hx hb dX1_look_73 rfl (lv_at hl 1 rfl) ?_
                refine q_get (v := .ref (w.1 2)) (C := RX1) (T := TX1) (N := 3) (ci := 1) hx hb hta kw_X1 hown hK hw 3 (hcs _ (by omega)) (by unfold isB; omega) rfl rfl 1 (by decide) (hta _ kw_117) rfl rfl dX1_look_74 ?_
                refine q_getN (v := .int (G38 2 9)) (host := RX5) (C := RX2) (T := TX2) (N := 11) (ci := 2) hx hb hta kw_X2 hown hK hw 2 (hcs _ (by omega)) (by unfold isB; omega) rfl rfl 9 (by decide) (by decide +kernel) rfl rfl dX1_look_77 ?_
                refine lv_iload hx hb dX1_look_80 (lv_at hl 5 rfl) ?_
                refine lv_icmp_ne (tgt := 125) hx hb dX1_look_82 (by decide) (fun c13 => ?_) (fun c13 => ?_)
                · have h := h.1 c13
                  refine lv_iinc (v := (v5 + (1 : Int32))) (lv' := [(5, .int (v5 + (1 : Int32))), (6, .int (1 : Int32)), (0, .ref (w.1 3)), (1, .ref (w.1 a1)), (2, .int v2), (3, .int v3), (4, .int v4)]) hx hb dX1_look_125 hl (k := 6) rfl rfl (by decide) rfl (fun ls hl => ?_)
                  refine lv_goto (tgt := 6) hx hb dX1_look_128 (by decide) ?_
                  exact ih v4 (v5 + (1 : Int32)) G38 _ _ _ h hw (lv_sub hl [2, 3, 4, 5, 6, 0] rfl)
                · have h := h.2 c13
                  refine lv_aload_n hx hb dX1_look_85 rfl (lv_at hl 1 rfl) ?_
                  refine q_get (v := .ref (w.1 2)) (C := RX1) (T := TX1) (N := 3) (ci := 1) hx hb hta kw_X1 hown hK hw 3 (hcs _ (by omega)) (by unfold isB; omega) rfl rfl 1 (by decide) (hta _ kw_117) rfl rfl dX1_look_86 ?_
                  refine q_getN (v := .ref (w.1 13)) (host := RX5) (C := RX2) (T := TX2) (N := 11) (ci := 2) hx hb hta kw_X2 hown hK hw 2 (hcs _ (by omega)) (by unfold isB; omega) rfl rfl 4 (by decide) (by decide +kernel) rfl rfl dX1_look_89 ?_
                  refine lv_aload_n hx hb dX1_look_92 rfl (lv_at hl 1 rfl) ?_
                  refine q_get (v := .ref (w.1 14)) (C := RX1) (T := TX1) (N := 3) (ci := 1) hx hb hta kw_X1 hown hK hw 3 (hcs _ (by omega)) (by unfold isB; omega) rfl rfl 2 (by decide) (hta _ kw_122) rfl rfl dX1_look_93 ?_
                  refine q_calli hw (va_runS (As := [.ref (w.1 13), .ref (w.1 14)]) (rest := []) C (mX1_isLess l w cs _ G38 B 13 (by unfold isI; omega) (hcs _ (by omega)) 14 (by unfold isI; omega) (hcs _ (by omega)) _ h) (va_cwS 2 hta (gSw kw_126 kw_127 kw_128 kw_125) rfl rfl rfl (by decide +kernel) ⟨Nat.le_of_ble_eq_true rfl, Nat.le_of_ble_eq_true rfl⟩) (preS hK hw _) rfl rfl hl.1 rfl (lv_room (Nat.le_of_ble_eq_true rfl)) dX1_look_96 ⟨Nat.le_refl 0, Nat.le_refl 0⟩) (fun r96 G96 B96 H locs h hw => ?_)
                  obtain ⟨h, e1, e2⟩ := h; subst e1; subst e2
                  refine lv_if_eq (tgt := 125) hx hb dX1_look_99 (by decide) (fun c14 => ?_) (fun c14 => ?_)
                  · have h := h.1 c14
                    refine lv_iinc (v := (v5 + (1 : Int32))) (lv' := [(5, .int (v5 + (1 : Int32))), (6, .int (1 : Int32)), (0, .ref (w.1 3)), (1, .ref (w.1 a1)), (2, .int v2), (3, .int v3), (4, .int v4)]) hx hb dX1_look_125 hl (k := 6) rfl rfl (by decide) rfl (fun ls hl => ?_)
                    refine lv_goto (tgt := 6) hx hb dX1_look_128 (by decide) ?_
                    exact ih v4 (v5 + (1 : Int32)) G38 _ _ _ h hw (lv_sub hl [2, 3, 4, 5, 6, 0] rfl)
                  · have h := h.2 c14
                    refine lv_aload_n hx hb dX1_look_102 rfl (lv_at hl 1 rfl) ?_
                    refine q_get (v := .ref (w.1 2)) (C := RX1) (T := TX1) (N := 3) (ci := 1) hx hb hta kw_X1 hown hK hw 3 (hcs _ (by omega)) (by unfold isB; omega) rfl rfl 1 (by decide) (hta _ kw_117) rfl rfl dX1_look_103 ?_
                    refine q_getN (v := .int (G38 2 9)) (host := RX5) (C := RX2) (T := TX2) (N := 11) (ci := 2) hx hb hta kw_X2 hown hK hw 2 (hcs _ (by omega)) (by unfold isB; omega) rfl rfl 9 (by decide) (by decide +kernel) rfl rfl dX1_look_106 ?_
                    refine lv_topi (fun x109 ex109 => ?_)
                    have h := h x109 ex109
                    refine lv_istore (lv' := [(4, .int x109), (6, .int (1 : Int32)), (0, .ref (w.1 3)), (1, .ref (w.1 a1)), (2, .int v2), (3, .int v3), (5, .int v5)]) hx hb dX1_look_109 hl (by decide) rfl (fun ls hl => ?_)
                    refine lv_aload_n hx hb dX1_look_111 rfl (lv_at hl 2 rfl) ?_
                    refine q_get (v := .ref (w.1 2)) (C := RX1) (T := TX1) (N := 3) (ci := 1) hx hb hta kw_X1 hown hK hw 3 (hcs _ (by omega)) (by unfold isB; omega) rfl rfl 1 (by decide) (hta _ kw_117) rfl rfl dX1_look_112 ?_
                    refine q_getN (v := .ref (w.1 13)) (host := RX5) (C := RX2) (T := TX2) (N := 11) (ci := 2) hx hb hta kw_X2 hown hK hw 2 (hcs _ (by omega)) (by unfold isB; omega) rfl rfl 4 (by decide) (by decide +kernel) rfl rfl dX1_look_115 ?_
                    refine lv_aload_n hx hb dX1_look_118 rfl (lv_at hl 2 rfl) ?_
                    refine q_get (v := .ref (w.1 14)) (C := RX1) (T := TX1) (N := 3) (ci := 1) hx hb hta kw_X1 hown hK hw 3 (hcs _ (by omega)) (by unfold isB; omega) rfl rfl 2 (by decide) (hta _ kw_122) rfl rfl dX1_look_119 ?_
                    refine q_callv hw (va_runSN (As := [.ref (w.1 13), .ref (w.1 14)]) (rest := []) C (mX5_copy l w cs _ G38 B 13 (by unfold isI; omega) (hcs _ (by omega)) 14 (by unfold isI; omega) (hcs _ (by omega)) _ h) ⟨va_cnB 2 hta (gNw kw_123) rfl rfl rfl (hK.2 (.methodLinkNest RX1 49 yX5_copy RX5) (by decide +kernel)) (hta _ kw_30) (by decide +kernel) ⟨Nat.le_of_ble_eq_true rfl, Nat.le_of_ble_eq_true rfl⟩, hta _ kw_124, trivial⟩ (preS hK hw _) rfl rfl hl.1 rfl (lv_room (Nat.le_of_ble_eq_true rfl)) dX1_look_122 ⟨Nat.le_refl 0, Nat.le_refl 0⟩) (fun G122 B122 H locs h hw => ?_)
                    obtain ⟨h, e2⟩ := h; subst e2
                    refine lv_iinc (v := (v5 + (1 : Int32))) (lv' := [(5, .int (v5 + (1 : Int32))), (4, .int x109), (6, .int (1 : Int32)), (0, .ref (w.1 3)), (1, .ref (w.1 a1)), (2, .int v2), (3, .int v3)]) hx hb dX1_look_125 hl (k := 6) rfl rfl (by decide) rfl (fun ls hl => ?_)
                    refine lv_goto (tgt := 6) hx hb dX1_look_128 (by decide) ?_
                    exact ih x109 (v5 + (1 : Int32)) G122 _ _ _ h hw (lv_sub hl [3, 4, 5, 6, 1, 0] rfl)
set_option maxHeartbeats 4000000 in
set_option maxRecDepth 100000 in
theorem mX1_look (l : Launch) (w : WE) (cs : List Nat) (hcs : ∀ c, c < 56 → c ∈ cs) (sz : Nat) (G : GS) (B : BS) (a1 : Nat) (ha1I : isI a1) (ha1C : a1 ∈ cs) (v2 : Int32) (v3 : Int32) (P : Int32 → GS → Prop) (h : wX1_look a1 v2 v3 G P) : Met l yX1_look wsX1_look (rmW 28) (PcW w cs sz G B [.ref (w.1 3), .ref (w.1 a1), .int v2, .int v3]) (QI w cs sz (fun r G1 B1 => P r G1 ∧ B = B1)) 0 0 (AA w cs sz) := by
  refine metW (own := RX1) [.ref (w.1 3), .ref (w.1 a1), .int v2, .int v3] (by decide +kernel) rfl rfl (Nat.le_of_ble_eq_true rfl) ?_
  intro p e s m below meth c ls hsz C hr hK hw hl
  subst hsz
  have hx := C.1
  have hb := C.2.1
  have hown := C.2.2.2.1
  have hta := fun w h => C.2.2.2.2 w (List.mem_cons_of_mem _ h)
  have hl : lv_has ls 7 [(0, .ref (w.1 3)), (1, .ref (w.1 a1)), (2, .int v2), (3, .int v3)] := hl
  refine lv_iconst (v := -1) hx hb dX1_look_0 (by decide) ?_
  refine lv_istore (lv' := [(4, .int (-1 : Int32)), (0, .ref (w.1 3)), (1, .ref (w.1 a1)), (2, .int v2), (3, .int v3)]) hx hb dX1_look_1 hl (by decide) rfl (fun ls hl => ?_)
  refine lv_iconst (v := 0) hx hb dX1_look_3 (by decide) ?_
  refine lv_istore (lv' := [(5, .int (0 : Int32)), (4, .int (-1 : Int32)), (0, .ref (w.1 3)), (1, .ref (w.1 a1)), (2, .int v2), (3, .int v3)]) hx hb dX1_look_4 hl (by decide) rfl (fun ls hl => ?_)
  obtain ⟨n6, h⟩ := h
  refine lX1_look_6 C hK hcs a1 ha1I ha1C v2 v3 B (K131 := _) ?_ n6 (-1 : Int32) (0 : Int32) G _ _ _ h hw (lv_sub hl [2, 3, 4, 5, 1, 0] rfl)
  · intro x4_131 G_131 H locs ls h hw hl
    refine lv_iload hx hb dX1_look_131 (lv_at hl 0 rfl) ?_
    refine lv_if_lt (tgt := 140) hx hb dX1_look_133 (by decide) (fun c15 => ?_) (fun c15 => ?_)
    · have h := h.1 c15
      refine lv_iconst (v := 0) hx hb dX1_look_140 (by decide) ?_
      exact q_retz hx hb hr hw (Or.inl rfl) ⟨h, rfl⟩ dX1_look_141
    · have h := h.2 c15
      refine lv_iconst (v := 1) hx hb dX1_look_136 (by decide) ?_
      refine lv_goto (tgt := 141) hx hb dX1_look_137 (by decide) ?_
      exact q_retz hx hb hr hw (Or.inr rfl) ⟨h, rfl⟩ dX1_look_141
