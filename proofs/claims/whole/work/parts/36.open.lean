theorem nw_of {w : Cond} {A : Array Value} {s : State} (hw : nwOk w = true) (h : w.before A s = true) : va_Nw w s := by
  cases w <;> first | exact va_Nw.of rfl h | exact absurd (show false = true from hw) Bool.false_ne_true
/-- what the pure part owes -/
def PureLaw : Prop := ∀ (xs : Nat → Int32) (L : Nat), L ≤ 2560 → ∃ (PT : GS → Prop) (PS : GS → BS → Prop), wX4_shape 11 1 1 G0 PT ∧ wX3_shape 1 2 G0 B0 PS ∧ ∀ (g1 g5 : GS) (b5 : BS), PT g1 → PS g5 b5 → ∃ n : Nat, wlL_law_18 xs L n 0 (Gst g1 g5) (Bst b5)
theorem arrI {s : State} {args : Array Value} {ty : FieldType} (hp : ∀ C, ty ≠ .object C) (h : (Cond.arrayClass ty).before args s = true) : ∃ cA : ClassId, ArrOfT s cA ty ∧ va_RA s cA ty := by
  obtain ⟨c, k, comp, h1, h2, h3⟩ := Cond.arrayClass_spec h
  refine ⟨c, fun n z => ⟨fun k h => (by cases h), k, h2, comp, h3⟩, ?_⟩
  cases ty <;> first | exact h1 | exact absurd rfl (hp _)
theorem arrO {s : State} (h : va_AOA .int s) : ∃ cA : ClassId, ArrOfT s cA (.array .int) ∧ va_RA s cA (.array .int) := by
  obtain ⟨comp, c, k, h1, h2, h3, h4, h5⟩ := Jvm.Stand.arrayOver_specB (args := #[]) (first := s) (o := none) (idx := []) h
  exact ⟨c, fun n z => ⟨fun k h => (by cases h), k, h3, comp, h4⟩, h5⟩
set_option maxHeartbeats 4000000 in
set_option maxRecDepth 100000 in
theorem whole_start_open (pure9 : PureLaw) {p : Program} {e : Env} {s : State} {m : MethodId} {below : List Frame} {meth : Method} {c : Code} (l : Launch) {b L : Nat} {xs : Nat → Int32} (hL : L ≤ 2560) (C0 : lw_At p s m meth c b L xs) : W p l e room_1 s m #[Value.ref b] below meth c s.heap [] 0 0 (lw_Z below #[Value.ref b] s) (entryFrame m ([Value.ref b] : List Value).toArray 4) := by
  obtain ⟨hx, hb, hr, hml, hown, hts, hX, hbl, hlocks, hgv⟩ := id C0
  have hta : ∀ w ∈ ALLW, w.before #[Value.ref b] s = true := fun w h => hts w (alw_in h)
  have hown : s.vm.findClass RL = some m.cls := hown
  have CF : CallFix p m c cL_law 4 s #[Value.ref b] ALLW RL := ⟨hx, hb, hml, hown, hta⟩
  have hao : va_AOA .int s := hts (.arrayOver (.array .int)) (tm1 (i := 26) rfl)
  have hnw : NW s := fun w hw => nw_of (List.all_eq_true.mp nwl_ok w hw) (hts w (nwl_in w hw))
  obtain ⟨cI, aI, rI⟩ := arrI (ty := .int) (fun _ h => by cases h) (hta (.arrayClass .int) kw_552)
  obtain ⟨cJ, aJ, rJ⟩ := arrI (ty := .long) (fun _ h => by cases h) (hta (.arrayClass .long) kw_557)
  obtain ⟨cO, aO, rO⟩ := arrO hao
  obtain ⟨c0, iS0, hKn0⟩ := u_known (C := RX0) (T := TX0) (N := 5) (n := 5) hta kw_X0 (hta (.instantiable RX0 5) kw_580)
  obtain ⟨c1, iS1, hKn1⟩ := u_known (C := RX1) (T := TX1) (N := 3) (n := 3) hta kw_X1 (hta (.instantiable RX1 3) kw_575)
  obtain ⟨c2, iS2, hKn2⟩ := u_known (C := RX2) (T := TX2) (N := 11) (n := 11) hta kw_X2 (hta (.instantiable RX2 11) kw_570)
  obtain ⟨c3, iS3, hKn3⟩ := u_known (C := RX3) (T := TX3) (N := 8) (n := 8) hta kw_X3 (hta (.instantiable RX3 8) kw_585)
  obtain ⟨c4, iS4, hKn4⟩ := u_known (C := RX4) (T := TX4) (N := 5) (n := 5) hta kw_X4 (hta (.instantiable RX4 5) kw_565)
  obtain ⟨c5, iS5, hKn5⟩ := u_known (C := RX5) (T := TX5) (N := 7) (n := 7) hta kw_X5 (hta (.instantiable RX5 7) kw_590)
  obtain ⟨c6, iS6, hKn6⟩ := u_known (C := RX6) (T := TX6) (N := 17) (n := 17) hta kw_X6 (hta (.instantiable RX6 17) kw_591)
  obtain ⟨dC, dI, hKc⟩ : ∃ (dC : Nat → ClassId) (dI : Nat → Nat → Nat), ∀ (k : Nat) (q : vw_C), vwCl[k]? = some q → u_Kn s q.1 q.2.1 q.2.2 (dC k) (dI k) := by
    refine ⟨fun k => match k with | 0 => c0 | 1 => c1 | 2 => c2 | 3 => c3 | 4 => c4 | 5 => c5 | _ => c6, fun k => match k with | 0 => iS0 | 1 => iS1 | 2 => iS2 | 3 => iS3 | 4 => iS4 | 5 => iS5 | _ => iS6, ?_⟩
    intro k q hq
    match k, hq with
    | 0, hq => cases hq; exact hKn0
    | 1, hq => cases hq; exact hKn1
    | 2, hq => cases hq; exact hKn2
    | 3, hq => cases hq; exact hKn3
    | 4, hq => cases hq; exact hKn4
    | 5, hq => cases hq; exact hKn5
    | 6, hq => cases hq; exact hKn6
    | k + 7, hq => simp [vwCl] at hq
  obtain ⟨w, hwe⟩ : ∃ w : WE, w = (fun _ => 0, (cI, cJ, cO), (dC, dI)) := ⟨_, rfl⟩
  have hK : KWo w s := by
    subst hwe
    refine ⟨⟨⟨hKc, fun k q h => ?_⟩, hnw⟩, hao⟩
    match k, h with
    | 0, h => cases h; exact ⟨aI, rI⟩
    | 1, h => cases h; exact ⟨aJ, rJ⟩
    | 2, h => cases h; exact ⟨aO, rO⟩
    | k + 3, h => simp [tysW] at h
  have hw : CW w [] (fun q => s.heap.size ≤ q) s.heap s.heap [] := ⟨fun k q h => by simp at h, ⟨fun i j p q h => by simp at h, fun k q h => by simp at h⟩, va_S.rf, fun _ h => h⟩
  obtain ⟨PT, PS, hT, hS5, hgo⟩ := pure9 xs L hL
  have hl := lv_entry ([.ref b]) (n := 4) (Nat.le_of_ble_eq_true rfl)
  rw [lg_entry_eq]
  generalize (lg_sl ([.ref b]) ++ List.replicate (4 - (lg_sl ([.ref b])).length) Slot.unset).toArray = ls at hl ⊢
  have hl : lv_has ls 4 [(0, .ref b)] := hl
  refine n_new (ci := 5) (fs := [.null, .null, .null, .null, .null, .null, .null]) (C := RX5) (T := TX5) (N := 7) hx hb hta kw_X5 tyX5 tyX5_ok hown (hta _ kw_592) (hta _ kw_590) (hta _ kw_30) hK hw rfl (fun j hj => by rcases (show j = 0 ∨ j = 1 ∨ j = 2 ∨ j = 3 ∨ j = 4 ∨ j = 5 ∨ j = 6 by omega) with rfl | rfl | rfl | rfl | rfl | rfl | rfl <;> rfl) (Nat.le_of_ble_eq_true rfl) (Nat.le_of_ble_eq_true rfl) dL_law_0 (fun h0 H hw => ?_)
  have hw : CW w ([] ++ [(h0, .inr (5, [.null, .null, .null, .null, .null, .null, .null]))]) _ _ _ _ := hw
  refine lv_dup hx hb dL_law_3 rfl ?_
  refine n_callI hw (va_runI (As := []) (rest := [.ref h0]) CF (mX5_init l w _ h0 PT PS hT hS5) (cwI 0 hta (gNw kw_593) rfl rfl rfl (hta _ kw_30) (hta _ kw_594) (hta _ kw_595) rfl (by decide +kernel) ⟨Nat.le_of_ble_eq_true rfl, Nat.le_of_ble_eq_true rfl⟩) (n_preI hK hw _) rfl rfl hl.1 rfl (lv_room (Nat.le_of_ble_eq_true rfl)) dL_law_4 ⟨Nat.le_of_ble_eq_true rfl, Nat.le_of_ble_eq_true rfl⟩) (fun ⟨u, g1, g5, b5⟩ H locs ⟨hp1, hp2⟩ hw => ?_)
  have hw : CW w (fewL w h0 u g1 g5 b5) _ _ _ _ := hw
  refine lv_astore_n (lv' := [(1, .ref h0), (0, .ref b)]) hx hb dL_law_7 rfl hl (by decide) rfl (fun ls hl => ?_)
  refine n_new (ci := 6) (fs := [.int 0, .int 0, .int 0, .null, .null, .null, .int 0, .int 0, .int 0, .null, .int 0, .null, .null, .null, .null, .null, .null]) (C := RX6) (T := TX6) (N := 17) hx hb hta kw_X6 tyX6 tyX6_ok hown (hta _ kw_596) (hta _ kw_591) (hta _ kw_17) hK hw rfl (fun j hj => by rcases (show j = 0 ∨ j = 1 ∨ j = 2 ∨ j = 3 ∨ j = 4 ∨ j = 5 ∨ j = 6 ∨ j = 7 ∨ j = 8 ∨ j = 9 ∨ j = 10 ∨ j = 11 ∨ j = 12 ∨ j = 13 ∨ j = 14 ∨ j = 15 ∨ j = 16 by omega) with rfl | rfl | rfl | rfl | rfl | rfl | rfl | rfl | rfl | rfl | rfl | rfl | rfl | rfl | rfl | rfl | rfl <;> rfl) (Nat.le_of_ble_eq_true rfl) (Nat.le_of_ble_eq_true rfl) dL_law_8 (fun hm H hw => ?_)
  have hw : CW w (fewL w h0 u g1 g5 b5 ++ [(hm, .inr (6, [.int 0, .int 0, .int 0, .null, .null, .null, .int 0, .int 0, .int 0, .null, .int 0, .null, .null, .null, .null, .null, .null]))]) _ _ _ _ := hw
  refine lv_dup hx hb dL_law_11 rfl ?_
  refine n_callI hw (va_runI (As := []) (rest := [.ref hm]) CF (mX6_init l w _ hm) (cwI 0 hta (gNw kw_597) rfl rfl rfl (hta _ kw_17) (hta _ kw_598) (hta _ kw_599) rfl (by decide +kernel) ⟨Nat.le_of_ble_eq_true rfl, Nat.le_of_ble_eq_true rfl⟩) (n_preI hK hw _) rfl rfl hl.1 rfl (lv_room (Nat.le_of_ble_eq_true rfl)) dL_law_12 ⟨Nat.le_of_ble_eq_true rfl, Nat.le_of_ble_eq_true rfl⟩) (fun v H locs _ hw => ?_)
  have hw : CW w (lsF w h0 hm u v g1 g5 b5) _ _ _ _ := hw
  refine lv_astore_n (lv' := [(2, .ref hm), (1, .ref h0), (0, .ref b)]) hx hb dL_law_15 rfl hl (by decide) rfl (fun ls hl => ?_)
  refine lv_iconst (v := 0) hx hb dL_law_16 (by decide) ?_
  refine lv_istore_n (lv' := [(3, .int 0), (2, .ref hm), (1, .ref h0), (0, .ref b)]) hx hb dL_law_17 rfl hl (by decide) rfl (fun ls hl => ?_)
  refine W.widen (k := 600000) (n := 7302250) (Nat.le_of_ble_eq_true rfl) (Nat.le_of_ble_eq_true rfl) ?_
  obtain ⟨n, hn⟩ := hgo g1 g5 b5 hp1 hp2
  exact lL_law_18 (w := wF w h0 hm u v) (cs := List.range 56) CF hr hlocks hX hbl hK.1 (fun c h => List.mem_range.mpr h) n 0 _ _ _ _ _ hn (toF hw) (lv_sub hl [3, 2, 1, 0] rfl)
