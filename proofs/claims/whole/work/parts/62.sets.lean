/-! PURE PART: the class's sets: loading, taking out -/
def kr (dr : Nat) : Nat → List Nat
  | 0 => []
  | i + 1 => if bt dr i = 0 then kr dr i ++ [i] else kr dr i
theorem kr_mem {dr : Nat} : ∀ i x, x ∈ kr dr i ↔ x < i ∧ bt dr x = 0
  | 0, x => ⟨fun h => absurd h (List.not_mem_nil), fun h => by omega⟩
  | i + 1, x => by
    show x ∈ (if bt dr i = 0 then kr dr i ++ [i] else kr dr i) ↔ _
    by_cases e : bt dr i = 0
    · rw [if_pos e, List.mem_append, kr_mem i x, List.mem_singleton]
      constructor
      · rintro (q | q)
        · exact ⟨by omega, q.2⟩
        · subst q; exact ⟨by omega, e⟩
      · rintro ⟨q1, q2⟩
        by_cases ex : x = i
        · exact Or.inr ex
        · exact Or.inl ⟨by omega, q2⟩
    · rw [if_neg e, kr_mem i x]
      constructor
      · rintro ⟨q1, q2⟩; exact ⟨by omega, q2⟩
      · rintro ⟨q1, q2⟩
        have : x ≠ i := fun ex => e (ex ▸ q2)
        exact ⟨by omega, q2⟩
theorem kr_len {dr : Nat} : ∀ i, (kr dr i).length ≤ i
  | 0 => Nat.le_refl _
  | i + 1 => by
    have := kr_len (dr := dr) i
    show (if bt dr i = 0 then kr dr i ++ [i] else kr dr i).length ≤ i + 1
    by_cases e : bt dr i = 0
    · rw [if_pos e, List.length_append]; simp only [List.length_cons, List.length_nil]; omega
    · rw [if_neg e]; omega
def rw_ (dr m k : Nat) : Nat := (kr dr m).getD k 0
theorem rw_in {dr m k : Nat} (h : k < (kr dr m).length) : rw_ dr m k ∈ kr dr m := by
  unfold rw_
  rw [List.getD_eq_getElem?_getD, List.getElem?_eq_getElem h]
  exact List.getElem_mem h
theorem rw_lt {dr m k : Nat} (h : k < (kr dr m).length) : rw_ dr m k < m := ((kr_mem m _).mp (rw_in h)).1
theorem rw_old {dr i k : Nat} (h : k < (kr dr i).length) : rw_ dr (i + 1) k = rw_ dr i k := by
  unfold rw_
  show (if bt dr i = 0 then kr dr i ++ [i] else kr dr i).getD k 0 = _
  by_cases e : bt dr i = 0
  · rw [if_pos e, List.getD_eq_getElem?_getD, List.getElem?_append_left h, ← List.getD_eq_getElem?_getD]
  · rw [if_neg e]
theorem rw_new {dr i : Nat} (e : bt dr i = 0) : rw_ dr (i + 1) (kr dr i).length = i := by
  unfold rw_
  show (if bt dr i = 0 then kr dr i ++ [i] else kr dr i).getD _ 0 = _
  rw [if_pos e, List.getD_eq_getElem?_getD, List.getElem?_append_right (Nat.le_refl _), Nat.sub_self]
  rfl
theorem kr_yes {dr i : Nat} (e : bt dr i = 0) : (kr dr (i + 1)).length = (kr dr i).length + 1 := by
  show (if bt dr i = 0 then kr dr i ++ [i] else kr dr i).length = _
  rw [if_pos e, List.length_append]; rfl
theorem kr_not {dr i : Nat} (e : bt dr i ≠ 0) : kr dr (i + 1) = kr dr i := if_neg e
theorem rw_onto {dr m x : Nat} (h : x < m) (h2 : bt dr x = 0) : ∃ k, k < (kr dr m).length ∧ rw_ dr m k = x := by
  have := (kr_mem m x).mpr ⟨h, h2⟩
  obtain ⟨k, hk, e⟩ := List.mem_iff_getElem.mp this
  refine ⟨k, hk, ?_⟩
  unfold rw_
  rw [List.getD_eq_getElem?_getD, List.getElem?_eq_getElem hk]
  exact e
theorem bt_0 (i : Nat) : bt 0 i = 0 := by unfold bt; rw [Nat.zero_div]
theorem kr_0 : ∀ m, (kr 0 m).length = m
  | 0 => rfl
  | m + 1 => by rw [kr_yes (bt_0 m), kr_0 m]
theorem rw_0 : ∀ m k, k < m → rw_ 0 m k = k
  | m + 1, k, h => by
    by_cases e : k = m
    · subst e
      have := rw_new (dr := 0) (bt_0 k)
      rw [kr_0] at this
      exact this
    · rw [rw_old (by rw [kr_0]; omega)]
      exact rw_0 m k (by omega)
theorem i6r (j k : Nat) : nI j * (6 : Int32) + nI k = nI (6 * j + k) := by rw [show (6 : Int32) = nI 6 from rfl, pk_mul, nI_add, Nat.mul_comm]
theorem s_ldC_i {G : GS} {i n len : Nat} {v1 : Int32} {K : GS → Prop} (hi : i < 6) (hn : n ≤ 12) (hl : len < 6) (a2 : G 1 2 = nI n) (h5 : G 2 5 = nI len) (hK : ∀ G1 : GS, (∀ c, c ≠ 38 → G1 c = G c) → (∀ j, j < n → G1 38 (6 * j + len) = G (32 + i) j) → (∀ x, (∀ j, j < n → x ≠ 6 * j + len) → G1 38 x = G 38 x) → K G1) : ∀ k j (G1 : GS), j + k = n → (∀ c, c ≠ 38 → G1 c = G c) → (∀ j2, j2 < j → G1 38 (6 * j2 + len) = G (32 + i) j2) → (∀ x, (∀ j2, j2 < j → x ≠ 6 * j2 + len) → G1 38 x = G 38 x) → wlX2_loadColumns_28 K v1 (nI i) (k + 1) (nI j) G1 := by
  intro k
  induction k with
  | zero =>
    intro j G1 hj f1 f2 f3
    have e : j = n := by omega
    subst e
    unfold wlX2_loadColumns_28
    rw [f1 1 (by omega), a2]
    exact ⟨fun _ => hK G1 f1 f2 f3, fun h => absurd (Int32.le_refl _) h⟩
  | succ k ih =>
    intro j G1 hj f1 f2 f3
    unfold wlX2_loadColumns_28
    rw [f1 1 (by omega), a2, f1 2 (by omega), h5, i6r]
    refine ⟨fun h => absurd h (nI_ge (by omega) (by omega)), fun _ => ⟨vp_in_nI (n := 0) (by omega) (by omega), vp_in_nI (by omega) (by omega), vp_in_nI (by omega) (by omega), vp_in_nI (by omega) (by omega), fun G2 e2 => ?_⟩⟩
    rw [show cl (0 : Int32) = 0 from rfl, zc (by omega), zc (by omega), zc (by omega), Nat.add_zero, f1 (32 + i) (by omega)] at e2
    rw [z1]
    refine ih (j + 1) G2 (by omega) (fun c hc => by rw [e2, wr_ne hc, f1 c hc]) (fun j2 hj2 => ?_) (fun x hx => ?_)
    · by_cases e : j2 = j
      · rw [e, e2, wr_ss]
      · rw [e2, wr_sn (by omega)]; exact f2 j2 (by omega)
    · rw [e2, wr_sn (hx j (by omega))]
      exact f3 x (fun j2 h2 => hx j2 (by omega))
theorem s_ldC_o {G : GS} {p m n dr : Nat} {K : GS → Prop} (hT : TI G p m n) (hdr : dr < 2 ^ 31) (hK : ∀ G1 : GS, (∀ c, c ≠ 2 → c ≠ 38 → G1 c = G c) → (∀ j, j ≠ 5 → G1 2 j = G 2 j) → G1 2 5 = nI (kr dr m).length → (∀ j k, j < n → k < (kr dr m).length → G1 38 (6 * j + k) = nI (cA G (rw_ dr m k) j)) → K G1) : ∀ f i (G1 : GS), i + f = m → (∀ c, c ≠ 2 → c ≠ 38 → G1 c = G c) → (∀ j, j ≠ 5 → G1 2 j = G 2 j) → G1 2 5 = nI (kr dr i).length → (∀ j k, j < n → k < (kr dr i).length → G1 38 (6 * j + k) = nI (cA G (rw_ dr i k) j)) → wlX2_loadColumns_7 K (nI dr) (f + 1) (nI i) G1 := by
  obtain ⟨hp, ⟨hm0, hm⟩, ⟨hn0, hn⟩, ⟨a0, a1, a2⟩, -, -, hv⟩ := id hT
  intro f
  induction f with
  | zero =>
    intro i G1 hi f1 f2 f3 f4
    have e : i = m := by omega
    subst e
    unfold wlX2_loadColumns_7
    rw [f1 1 (by omega) (by omega), a1]
    exact ⟨fun _ => hK G1 f1 f2 f3 f4, fun h => absurd (Int32.le_refl _) h⟩
  | succ f ih =>
    intro i G1 hi f1 f2 f3 f4
    have hl := kr_len (dr := dr) i
    unfold wlX2_loadColumns_7
    rw [f1 1 (by omega) (by omega), a1, bt_I hdr (by omega), z_ne0 (by have := bt_lt dr i; omega), z1]
    refine ⟨fun h => absurd h (nI_ge (by omega) (by omega)), fun _ => ⟨fun e => ?_, fun e => ⟨n + 1, ?_⟩⟩⟩
    · have ek := kr_not e
      refine ih (i + 1) G1 (by omega) f1 f2 (by rw [ek]; exact f3) (fun j k hj hk => ?_)
      rw [ek] at hk
      rw [rw_old hk]
      exact f4 j k hj hk
    · refine s_ldC_i (G := G1) (i := i) (n := n) (len := (kr dr i).length) (by omega) hn (by omega) (by rw [f1 1 (by omega) (by omega), a2]) f3 (fun G2 g1 g2 g3 G3 e3 => ?_) n 0 G1 (by omega) (fun _ _ => rfl) (fun j hj => by omega) (fun _ _ => rfl)
      rw [g1 2 (by omega), f3, z1, ← kr_yes e] at e3
      refine ih (i + 1) G3 (by omega) (fun c x y => by rw [e3, wr_ne x, g1 c y, f1 c x y]) (fun j hj => by rw [e3, wr_sn hj, g1 2 (by omega), f2 j hj]) (by rw [e3, wr_ss]) (fun j k hj hk => ?_)
      rw [e3, wr_ne (by omega)]
      rw [kr_yes e] at hk
      by_cases ek : k = (kr dr i).length
      · rw [ek, rw_new e, g2 j hj, f1 _ (by omega) (by omega)]
        exact (TI_A hT (by omega) (by omega)).2.1
      · rw [rw_old (by omega), g3 _ (fun j2 hj2 => by omega)]
        exact f4 j k hj (by omega)
theorem s_ldC {G : GS} {p m n dr : Nat} {P : GS → Prop} (hT : TI G p m n) (hdr : dr < 2 ^ 31) (hK : ∀ G1 : GS, (∀ c, c ≠ 2 → c ≠ 38 → G1 c = G c) → (∀ j, j ≠ 5 → G1 2 j = G 2 j) → G1 2 5 = nI (kr dr m).length → (∀ j k, j < n → k < (kr dr m).length → G1 38 (6 * j + k) = nI (cA G (rw_ dr m k) j)) → P G1) : wX2_loadColumns (nI dr) G P := by
  intro G1 e1
  have hT1 : TI G1 p m n := TI_fr (fun c hc => by rw [e1, wr_ne (by omega)]) hT
  have hA : ∀ i j, cA G1 i j = cA G i j := fun i j => by unfold cA; rw [e1, wr_ne (by omega)]
  refine ⟨m + 1, s_ldC_o hT1 hdr (fun G2 g1 g2 g3 g4 => hK G2 (fun c x y => by rw [g1 c x y, e1, wr_ne x]) (fun j hj => by rw [g2 j hj, e1, wr_sn hj]) g3 (fun j k hj hk => by rw [g4 j k hj hk, hA])) m 0 G1 (by omega) (fun _ _ _ => rfl) (fun _ _ => rfl) (by rw [e1, wr_ss]; rfl) (fun j k _ hk => ?_)⟩
  exact absurd hk (Nat.not_lt_zero _)
theorem s_ldS {G : GS} {m dr y : Nat} {P : GS → Prop} (hm : m ≤ 6) (hdr : dr < 2 ^ 31) (hy : y < 6) (a1 : G 1 1 = nI m) (hS : ∀ i, i < m → G (26 + y) i = nI (cS G y i)) (hK : ∀ G1 : GS, (∀ c, c ≠ 38 → G1 c = G c) → (∀ k, k < (kr dr m).length → G1 38 (72 + k) = nI (cS G y (rw_ dr m k))) → (∀ x, x < 72 → G1 38 x = G 38 x) → P G1) : wX2_loadSums (26 + y) (nI dr) G P := by
  have key : ∀ f i (G1 : GS), i + f = m → (∀ c, c ≠ 38 → G1 c = G c) → (∀ k, k < (kr dr i).length → G1 38 (72 + k) = nI (cS G y (rw_ dr i k))) → (∀ x, x < 72 → G1 38 x = G 38 x) → wlX2_loadSums_6 (fun G1 => P G1) (26 + y) (nI dr) (f + 1) (nI (72 + (kr dr i).length)) (nI i) G1 := by
    intro f
    induction f with
    | zero =>
      intro i G1 hi f1 f2 f3
      have e : i = m := by omega
      subst e
      unfold wlX2_loadSums_6
      rw [f1 1 (by omega), a1]
      exact ⟨fun _ => hK G1 f1 f2 f3, fun h => absurd (Int32.le_refl _) h⟩
    | succ f ih =>
      intro i G1 hi f1 f2 f3
      have hl := kr_len (dr := dr) i
      unfold wlX2_loadSums_6
      rw [f1 1 (by omega), a1, bt_I hdr (by omega), z_ne0 (by have := bt_lt dr i; omega), z1, z1]
      refine ⟨fun h => absurd h (nI_ge (by omega) (by omega)), fun _ => ⟨fun e => ?_, fun e => ⟨vp_in_nI (n := 0) (by omega) (by omega), by rw [ln_26 hy]; exact vp_in_nI (by omega) (by omega), vp_in_nI (by omega) (by omega), fun G2 e2 => ?_⟩⟩⟩
      · have ek := kr_not e
        have := ih (i + 1) G1 (by omega) f1 (fun k hk => by rw [ek] at hk; rw [rw_old hk]; exact f2 k hk) f3
        rw [ek] at this
        exact this
      · rw [show cl (0 : Int32) = 0 from rfl, zc (by omega), zc (by omega), Nat.add_zero, f1 (26 + y) (by omega), hS i (by omega)] at e2
        have := ih (i + 1) G2 (by omega) (fun c hc => by rw [e2, wr_ne hc, f1 c hc]) (fun k hk => ?_) (fun x hx => by rw [e2, wr_sn (by omega), f3 x hx])
        · rw [kr_yes e, ← Nat.add_assoc] at this
          exact this
        · rw [kr_yes e] at hk
          by_cases ek : k = (kr dr i).length
          · rw [ek, rw_new e, e2, wr_ss]
          · rw [rw_old (by omega), e2, wr_sn (by omega)]
            exact f2 k (by omega)
  exact ⟨m + 1, key m 0 G (by omega) (fun _ _ => rfl) (fun k hk => absurd hk (Nat.not_lt_zero _)) (fun _ _ => rfl)⟩
/-- what is left in a slot at a depth -/
def LV {p : Nat} [NeZero p] (G : GS) (d c h : Nat) (g : Nat → Fin p) : Prop := ∀ i, i < h → ∃ t, t < p ∧ G (38 + d) (6 * c + i) = nI t ∧ fK p t = g i
theorem s_fp {p : Nat} [NeZero p] {G : GS} {d c h : Nat} {g : Nat → Fin p} {P : Int32 → Prop} (hp : p ≤ 97) (hd : d < 7) (hc : c ≤ 12) (hh : h ≤ 6) (h5 : G 2 5 = nI h) (hL : LV G d c h g) (h1 : ∀ r, r < h → g r ≠ 0 → (∀ i, i < r → g i = 0) → P (nI r)) (h0 : (∀ i, i < h → g i = 0) → P (nI h)) : wX2_firstPlace (nI d) (nI c) G P := by
  have key : ∀ f i, i + f = h → (∀ k, k < i → g k = 0) → wlX2_firstPlace_2 (fun x => P x) (nI d) (nI c) G (f + 1) (nI i) := by
    intro f
    induction f with
    | zero =>
      intro i hi hz
      have e : i = h := by omega
      subst e
      unfold wlX2_firstPlace_2
      rw [h5]
      exact ⟨fun _ => h0 hz, fun h => absurd (Int32.le_refl _) h⟩
    | succ f ih =>
      intro i hi hz
      unfold wlX2_firstPlace_2
      rw [h5, i6r, zc (by omega), zc (by omega), z1]
      obtain ⟨t, ht, e1, e2⟩ := hL i (by omega)
      rw [e1, z_ne0 (by omega)]
      refine ⟨fun h => absurd h (nI_ge (by omega) (by omega)), fun _ => ⟨vp_in_nI (by omega) (by omega), vp_in_nI (by omega) (by omega), fun q => ?_, fun q => ?_⟩⟩
      · exact h1 i (by omega) (fun q2 => q ((fK_z ht).mp (e2.trans q2))) hz
      · refine ih (i + 1) (by omega) (fun k hk => ?_)
        by_cases ek : k = i
        · rw [ek, ← e2, q]; rfl
        · exact hz k (by omega)
  exact ⟨h + 1, key h 0 (by omega) (fun k hk => by omega)⟩
theorem s_iN {p : Nat} [NeZero p] {G : GS} {d c h : Nat} {g : Nat → Fin p} {P : Int32 → Prop} (hp : p ≤ 97) (hd : d < 7) (hc : c ≤ 12) (hh : h ≤ 6) (h5 : G 2 5 = nI h) (hL : LV G d c h g) (h1 : (¬ ∀ i, i < h → g i = 0) → P 0) (h0 : (∀ i, i < h → g i = 0) → P 1) : wX2_isNought (nI d) (nI c) G P := by
  refine s_fp hp hd hc hh h5 hL (fun r hr hn _ => ?_) (fun hz => ?_)
  · rw [h5]
    refine ⟨fun _ => h1 (fun q => hn (q r hr)), fun e => ?_⟩
    have := (nI_eq (by omega) (by omega)).mp e
    omega
  · rw [h5]
    exact ⟨fun e => absurd rfl e, fun _ => h0 hz⟩
theorem s_oo {p : Nat} [NeZero p] {G : GS} {d c c2 h r : Nat} {g g2 : Nat → Fin p} {P : GS → Prop} (hp2 : 2 ≤ p) (hp : p ≤ 97) (hd : d < 6) (hc : c ≤ 12) (hc2 : c2 ≤ 12) (hh : h ≤ 6) (hr : r < h) (h0 : G 1 0 = nI p) (h5 : G 2 5 = nI h) (h12 : G 12 d = nI r) (hL : LV G d c h g) (hL2 : LV G d c2 h g2) (hK : ∀ G1 : GS, (∀ x, x ≠ 38 + (d + 1) → G1 x = G x) → (∀ x, (x < 6 * c2 ∨ 6 * c2 + 6 ≤ x) → G1 (38 + (d + 1)) x = G (38 + (d + 1)) x) → LV G1 (d + 1) c2 h (fun i => g2 i * g r - g i * g2 r) → P G1) : wX2_takeOutOf (nI c2) (nI d) (nI c) G P := by
  obtain ⟨tr, htr, er1, er2⟩ := hL r hr
  obtain ⟨ur, hur, es1, es2⟩ := hL2 r hr
  have m6 : ∀ j, nI j * (6 : Int32) = nI (6 * j) := fun j => by rw [show (6 : Int32) = nI 6 from rfl, pk_mul, Nat.mul_comm]
  unfold wX2_takeOutOf
  rw [z1, m6, m6]
  refine ⟨vp_in_nI (by omega) (by omega), vp_in_nI (by omega) (by omega), fun x ex y ey => ?_⟩
  subst ex
  subst ey
  rw [zc (by omega), zc (by omega), h12, nI_add, nI_add, zc (by omega), zc (by omega), h0, er1, es1, pk_sub (by omega)]
  refine ⟨vp_in_nI (by omega) (by omega), vp_in_nI (by omega) (by omega), fun x ex => ⟨vp_in_nI (by omega) (by omega), vp_in_nI (by omega) (by omega), fun y ey => ?_⟩⟩
  subst ex
  subst ey
  have key : ∀ f i (G1 : GS), i + f = h → (∀ x, x ≠ 38 + (d + 1) → G1 x = G x) → (∀ x, (x < 6 * c2 ∨ 6 * c2 + 6 ≤ x) → G1 (38 + (d + 1)) x = G (38 + (d + 1)) x) → LV G1 (d + 1) c2 i (fun i => g2 i * g r - g i * g2 r) → wlX2_takeOutOf_69 (fun G1 => P G1) (38 + d) (38 + (d + 1)) (nI (6 * c2)) (nI (6 * c)) (nI tr) (nI (p - ur)) (f + 1) (nI i) G1 := by
    intro f
    induction f with
    | zero =>
      intro i G1 hi f1 f2 f3
      have e : i = h := by omega
      subst e
      unfold wlX2_takeOutOf_69
      rw [f1 2 (by omega), h5]
      exact ⟨fun _ => hK G1 f1 f2 f3, fun h => absurd (Int32.le_refl _) h⟩
    | succ f ih =>
      intro i G1 hi f1 f2 f3
      obtain ⟨t, ht, e1, e2⟩ := hL i (by omega)
      obtain ⟨u, hu, e3, e4⟩ := hL2 i (by omega)
      have b1 : u * tr ≤ 97 * 97 := Nat.mul_le_mul (by omega) (by omega)
      have b2 : t * (p - ur) ≤ 97 * 97 := Nat.mul_le_mul (by omega) (by omega)
      unfold wlX2_takeOutOf_69
      rw [f1 2 (by omega), h5, nI_add, nI_add, f1 1 (by omega), h0, zc (by omega), zc (by omega), f1 (38 + d) (by omega), e1, e3, pk_mul, pk_mul, nI_add, z_rem (by omega) (by omega) (by omega), z1]
      refine ⟨fun h => absurd h (nI_ge (by omega) (by omega)), fun _ => ⟨vp_in_nI (by omega) (by omega), vp_in_nI (by omega) (by omega), nI_ne0 (by omega) (by omega), vp_in_nI (by omega) (by omega), fun G2 eG => ?_⟩⟩
      refine ih (i + 1) G2 (by omega) (fun x hx => by rw [eG, wr_ne hx, f1 x hx]) (fun x hx => by rw [eG, wr_sn (by omega), f2 x hx]) (fun k hk => ?_)
      by_cases ek : k = i
      · subst ek
        refine ⟨(u * tr + t * (p - ur)) % p, Nat.mod_lt _ (by omega), by rw [eG, wr_ss], ?_⟩
        rw [fK_mod, fK_add, fK_mul, fK_mul, fK_sub (by omega), fK_p, er2, es2, e2, e4]
        grind
      · obtain ⟨z, z1, z2, z3⟩ := f3 k (by omega)
        exact ⟨z, z1, by rw [eG, wr_sn (by omega)]; exact z2, z3⟩
  exact ⟨h + 1, key h 0 G (by omega) (fun _ _ => rfl) (fun _ _ => rfl) (fun k hk => by omega)⟩
theorem s_to {p : Nat} [NeZero p] {G : GS} {d c h bd : Nat} {g : Nat → Fin p} {F : Nat → Nat → Fin p} {P : GS → Prop} (hp2 : 2 ≤ p) (hp : p ≤ 97) (hd : d < 6) (hc : c < 12) (hbd : bd ≤ 12) (hh : h ≤ 6) (h0 : G 1 0 = nI p) (h5 : G 2 5 = nI h) (hL : LV G d c h g) (hne : ¬ ∀ i, i < h → g i = 0) (hF : ∀ c2, c2 < bd → LV G d c2 h (F c2)) (hK : ∀ (G1 : GS) (r : Nat), r < h → g r ≠ 0 → (∀ x, x ≠ 11 → x ≠ 12 → x ≠ 38 + (d + 1) → G1 x = G x) → G1 11 d = nI c → G1 12 d = nI r → (∀ j, j ≠ d → G1 11 j = G 11 j ∧ G1 12 j = G 12 j) → (∀ c2, c2 < bd → LV G1 (d + 1) c2 h (fun i => F c2 i * g r - g i * F c2 r)) → P G1) : wX2_takeOut (nI d) (nI c) (nI bd) G P := by
  refine ⟨vp_in_nI (by omega) (by omega), fun G1 e1 => ?_⟩
  rw [zc (by omega)] at e1
  have g1 : ∀ x, x ≠ 11 → G1 x = G x := fun x hx => by rw [e1, wr_ne hx]
  have hL1 : LV G1 d c h g := fun i hi => by rw [g1 (38 + d) (by omega)]; exact hL i hi
  refine s_fp hp (by omega) (by omega) hh (by rw [g1 2 (by omega), h5]) hL1 (fun r hr hn _ => ⟨vp_in_nI (by omega) (by omega), fun G2 e2 => ?_⟩) (fun q => absurd q hne)
  rw [zc (by omega)] at e2
  have g2 : ∀ x, x ≠ 11 → x ≠ 12 → G2 x = G x := fun x hx hy => by rw [e2, wr_ne hy, g1 x hx]
  have key : ∀ f i (G3 : GS), i + f = bd → (∀ x, x ≠ 38 + (d + 1) → G3 x = G2 x) → (∀ c2, c2 < i → LV G3 (d + 1) c2 h (fun i => F c2 i * g r - g i * F c2 r)) → wlX2_takeOut_22 (fun G1 => P G1) (nI d) (nI c) (nI bd) (f + 1) (nI i) G3 := by
    intro f
    induction f with
    | zero =>
      intro i G3 hi f1 f2
      have e : i = bd := by omega
      subst e
      refine ⟨fun _ => hK G3 r hr hn (fun x a b c => by rw [f1 x c, g2 x a b]) ?_ ?_ (fun j hj => ⟨?_, ?_⟩) f2, fun h => absurd (Int32.le_refl _) h⟩
      · rw [f1 11 (by omega), e2, wr_ne (by omega), e1, wr_ss]
      · rw [f1 12 (by omega), e2, wr_ss]
      · rw [f1 11 (by omega), e2, wr_ne (by omega), e1, wr_sn hj]
      · rw [f1 12 (by omega), e2, wr_sn hj, g1 12 (by omega)]
    | succ f ih =>
      intro i G3 hi f1 f2
      refine ⟨fun h => absurd h (nI_ge (by omega) (by omega)), fun _ => ?_⟩
      rw [z1]
      refine s_oo (p := p) (g := g) (g2 := F i) (r := r) (h := h) hp2 hp hd (by omega) (by omega) hh hr (by rw [f1 1 (by omega), g2 1 (by omega) (by omega), h0]) (by rw [f1 2 (by omega), g2 2 (by omega) (by omega), h5]) (by rw [f1 12 (by omega), e2, wr_ss]) (fun k hk => by rw [f1 (38 + d) (by omega), g2 (38 + d) (by omega) (by omega)]; exact hL k hk) (fun k hk => by rw [f1 (38 + d) (by omega), g2 (38 + d) (by omega) (by omega)]; exact hF i (by omega) k hk) (fun G4 k1 k2 k3 => ?_)
      refine ih (i + 1) G4 (by omega) (fun x hx => by rw [k1 x hx, f1 x hx]) (fun c2 hc2 => ?_)
      by_cases e : c2 = i
      · rw [e]; exact k3
      · intro k hk
        rw [k2 _ (by omega)]
        exact f2 c2 (by omega) k hk
  exact ⟨bd + 1, key bd 0 G2 (by omega) (fun _ _ => rfl) (fun c2 h => by omega)⟩
