/-! PURE PART: tell -/
def cA (G : GS) (i j : Nat) : Nat := cl (G (32 + i) j)
theorem TI_A {G : GS} {p m n i j : Nat} (hT : TI G p m n) (hi : i < 6) (hj : j < 12) : cA G i j < p ∧ G (32 + i) j = nI (cA G i j) ∧ G 46 (12 * i + j) = nI (cA G i j) := by
  obtain ⟨t, h1, h2, h3⟩ := hT.2.2.2.2.2.1 i j hi hj
  have hp := isP_lt hT.1
  have e : cA G i j = t := by unfold cA; rw [h2, zc (by omega)]
  rw [e]; exact ⟨h1, h2, h3⟩
def cR (G : GS) (r j : Nat) : Nat := cl (G (20 + r) j)
theorem RI_A {G : GS} {p n r j : Nat} (hp : p ≤ 97) (hR : RI G p n) (hr : r < 6) (hj : j < 12) : cR G r j < p ∧ G (20 + r) j = nI (cR G r j) ∧ G 47 (12 * r + j) = nI (cR G r j) ∧ (n ≤ j → cR G r j = 0) := by
  obtain ⟨t, h1, h2, h3, h4⟩ := hR r j hr hj
  have e : cR G r j = t := by unfold cR; rw [h2, zc (by omega)]
  rw [e]; exact ⟨h1, h2, h3, h4⟩
def cS (G : GS) (y i : Nat) : Nat := cl (G (26 + y) i)
theorem SI_A {G : GS} {p m y i : Nat} (hp : p ≤ 97) (hS : SI G p m) (hy : y < 6) (hi : i < 6) : cS G y i < p ∧ G (26 + y) i = nI (cS G y i) ∧ G 48 (6 * y + i) = nI (cS G y i) ∧ (m ≤ i → cS G y i = 0) := by
  obtain ⟨t, h1, h2, h3, h4⟩ := hS y i hy hi
  have e : cS G y i = t := by unfold cS; rw [h2, zc (by omega)]
  rw [e]; exact ⟨h1, h2, h3, h4⟩
theorem s_telX {G : GS} {p m n r y : Nat} {K : GS → Prop} (hT : TI G p m n) (hR : RI G p n) (hr : r < 6) (hy : y < 6) (hK : ∀ G1 : GS, (∀ c, c ≠ 26 + y → G1 c = G c) → (∀ i, i < m → G1 (26 + y) i = nI (dot (cA G i) (cR G r) n % p)) → (∀ i, m ≤ i → G1 (26 + y) i = G (26 + y) i) → K G1) : ∀ k i (G1 : GS), i + k = m → (∀ c, c ≠ 26 + y → G1 c = G c) → (∀ j, j < i → G1 (26 + y) j = nI (dot (cA G j) (cR G r) n % p)) → (∀ j, i ≤ j → G1 (26 + y) j = G (26 + y) j) → wlX4_sumsOf_2 K (20 + r) (26 + y) (k + 1) (nI i) G1 := by
  obtain ⟨hp, ⟨hm0, hm⟩, ⟨hn0, hn⟩, ⟨a0, a1, a2⟩, ⟨b0, b1, b2⟩, -, hv⟩ := id hT
  have hp2 := isP_lt hp
  intro k
  induction k with
  | zero =>
    intro i G1 hi f1 f2 f3
    have e : i = m := by omega
    subst e
    unfold wlX4_sumsOf_2
    rw [f1 1 (by omega), a1]
    exact ⟨fun _ => hK G1 f1 f2 f3, fun h => absurd (Int32.le_refl _) h⟩
  | succ k ih =>
    intro i G1 hi f1 f2 f3
    unfold wlX4_sumsOf_2
    rw [f1 1 (by omega), a1, a0]
    refine ⟨fun h => absurd h (nI_ge (by omega) (by omega)), fun _ => ⟨n + 1, ?_⟩⟩
    refine s_dotX _ G1 (20 + r) (26 + y) i n (cA G i) (cR G r) (by omega) hn (ln_20 hr) (by rw [f1 1 (by omega), a2]) (fun j hj => by rw [f1 _ (by omega)]; exact (TI_A hT (by omega) (by omega)).2.1) (fun j hj => by rw [f1 _ (by omega)]; exact (RI_A hp2.2 hR hr (by omega)).2.1) ?_ n 0 (by omega)
    have hd := dot_le (f := cA G i) (g := cR G r) hp2.2 n (fun j hj => ⟨(TI_A hT (by omega) (by omega)).1, (RI_A hp2.2 hR hr (by omega)).1⟩)
    have hd2 : dot (cA G i) (cR G r) n < 2 ^ 31 := by omega
    refine ⟨nI_ne0 (by omega) (by omega), by rw [ln_26 hy]; exact vp_in_nI (by omega) (by omega), fun G2 e2 => ?_⟩
    rw [zc (by omega), z_rem hd2 (by omega) (by omega)] at e2
    rw [z1]
    refine ih (i + 1) G2 (by omega) (fun c hc => by rw [e2, wr_ne hc, f1 c hc]) (fun j hj => ?_) (fun j hj => by rw [e2, wr_sn (by omega), f3 j (by omega)])
    rw [e2]
    by_cases ej : j = i
    · rw [ej, wr_ss]
    · rw [wr_sn ej]; exact f2 j (by omega)
theorem s_telM {G : GS} {p m n r y : Nat} {K : GS → Prop} (A R : Nat → Nat → Nat) (hp : 0 < p) (hp2 : p ≤ 97) (hm : m ≤ 6) (hn : n ≤ 12) (b0 : G 45 0 = nI p) (b1 : G 45 1 = nI m) (b2 : G 45 2 = nI n) (hA : ∀ i j, i < m → j < n → A i j < p ∧ G 46 (12 * i + j) = nI (A i j)) (hR : ∀ j, j < n → R r j < p ∧ G 47 (12 * r + j) = nI (R r j)) (hr : r < 6) (hy : y < 6) (hK : ∀ G1 : GS, (∀ c, c ≠ 48 → G1 c = G c) → (∀ i, i < m → G1 48 (6 * y + i) = nI (dot (A i) (R r) n % p)) → (∀ i, i < 6 * y ∨ 6 * y + m ≤ i → G1 48 i = G 48 i) → K G1) : ∀ k i (G1 : GS), i + k = m → (∀ c, c ≠ 48 → G1 c = G c) → (∀ j, j < i → G1 48 (6 * y + j) = nI (dot (A j) (R r) n % p)) → (∀ j, j < 6 * y ∨ 6 * y + i ≤ j → G1 48 j = G 48 j) → wlX6_tell_18 K (nI y) (nI r) (k + 1) (nI i) G1 := by
  intro k
  induction k with
  | zero =>
    intro i G1 hi f1 f2 f3
    have e : i = m := by omega
    subst e
    unfold wlX6_tell_18
    rw [f1 45 (by omega), b1]
    exact ⟨fun _ => hK G1 f1 f2 f3, fun h => absurd (Int32.le_refl _) h⟩
  | succ k ih =>
    intro i G1 hi f1 f2 f3
    unfold wlX6_tell_18
    rw [f1 45 (by omega), b1, b0]
    refine ⟨fun h => absurd h (nI_ge (by omega) (by omega)), fun _ => ⟨n + 1, ?_⟩⟩
    refine s_dotM _ G1 (nI y) r i n (A i) (R r) (by omega) hr hn (by rw [f1 45 (by omega), b2]) (fun j hj => by rw [f1 46 (by omega)]; exact (hA i j (by omega) hj).2) (fun j hj => by rw [f1 47 (by omega)]; exact (hR j hj).2) ?_ n 0 (by omega)
    have hd := dot_le (f := A i) (g := R r) hp2 n (fun j hj => ⟨(hA i j (by omega) hj).1, (hR j hj).1⟩)
    have hd2 : dot (A i) (R r) n < 2 ^ 31 := by omega
    rw [i6]
    refine ⟨nI_ne0 (by omega) (by omega), vp_in_nI (by omega) (by omega), fun G2 e2 => ?_⟩
    rw [zc (by omega), z_rem hd2 (by omega) (by omega)] at e2
    rw [z1]
    refine ih (i + 1) G2 (by omega) (fun c hc => by rw [e2, wr_ne hc, f1 c hc]) (fun j hj => ?_) (fun j hj => by rw [e2, wr_sn (by omega), f3 j (by omega)])
    rw [e2]
    by_cases ej : j = i
    · rw [ej, wr_ss]
    · rw [wr_sn (by omega)]; exact f2 j (by omega)
theorem op_tell {G : GS} {B : BS} {v1 v2 : Int32} {P : Int32 → Int32 → GS → Prop} (h : Inv G B) (k : ∀ r G2, Inv G2 B → P r r G2) : wX5_tell v1 v2 G (fun r G1 => wX6_tell v1 v2 G1 (fun r2 G2 => P r r2 G2)) := by
  have hI := h
  obtain ⟨p, m, n, d, b, q, t, hT, hR, hS, hK⟩ := h
  obtain ⟨hp, ⟨hm0, hm⟩, ⟨hn0, hn⟩, ⟨a0, a1, a2⟩, ⟨b0, b1, b2⟩, hc, hv⟩ := id hT
  have hp2 := isP_lt hp
  have bad : ¬ (inR v1 6 ∧ inR v2 6) → wX6_tell v1 v2 G (fun r2 G2 => P (-1) r2 G2) := fun hbad =>
    s_six (fun _ => ⟨fun _ => k _ _ hI, fun h => absurd rfl h⟩) (fun g => ⟨fun e => absurd e (by decide), fun _ => s_six (fun _ => ⟨fun h => absurd rfl h, fun _ => k _ _ hI⟩) (fun x => absurd ⟨g, x⟩ hbad)⟩)
  refine s_kept (fun h => ⟨fun _ => bad (fun x => h x.1), fun h => absurd rfl h⟩) (fun h => ⟨fun e => absurd e (by decide), fun _ => ?_⟩)
  refine s_kept (fun h => ⟨fun h => absurd rfl h, fun _ => bad (fun x => h x.2)⟩) (fun h2 => ⟨fun _ => ?_, fun e => absurd e (by decide)⟩)
  obtain ⟨y, hy, rfl⟩ := h
  obtain ⟨r, hr, rfl⟩ := h2
  refine ⟨vp_in_nI (by omega) (by omega), vp_in_nI (by omega) (by omega), ?_⟩
  rw [zc (by omega), zc (by omega)]
  refine ⟨m + 1, s_telX hT hR hr hy (fun G1 f1 f2 f3 => ?_) m 0 G (by omega) (fun _ _ => rfl) (fun j hj => by omega) (fun _ _ => rfl)⟩
  refine ⟨vp_in_nI (by omega) (by omega), s_weight (by rw [ln_26 hy]; omega) ?_⟩
  refine s_six (fun x => absurd ⟨y, hy, rfl⟩ x) (fun _ => ⟨fun e => absurd e (by decide), fun _ => ?_⟩)
  refine s_six (fun x => absurd ⟨r, hr, rfl⟩ x) (fun _ => ⟨fun _ => ?_, fun e => absurd e (by decide)⟩)
  refine ⟨m + 1, s_telM (G := G1) (p := p) (n := n) (r := r) (y := y) (cA G) (cR G) (by omega) hp2.2 hm hn (by rw [f1 45 (by omega), b0]) (by rw [f1 45 (by omega), b1]) (by rw [f1 45 (by omega), b2]) (fun i j hi hj => ?_) (fun j hj => ?_) hr hy (fun G2 g1 g2 g3 => ?_) m 0 G1 (by omega) (fun _ _ => rfl) (fun j hj => by omega) (fun _ _ => rfl)⟩
  · have := TI_A hT (i := i) (j := j) (by omega) (by omega)
    rw [f1 46 (by omega)]
    exact ⟨this.1, this.2.2⟩
  · have := RI_A hp2.2 hR hr (j := j) (by omega)
    rw [f1 47 (by omega)]
    exact ⟨this.1, this.2.2.1⟩
  have fr : ∀ c, c ≠ 26 + y → c ≠ 48 → G2 c = G c := fun c h1 h2 => by rw [g1 c h2, f1 c h1]
  have hS2 : SI G2 p m := by
    intro y2 i h1 h2
    by_cases e : y2 = y
    · subst e
      rw [g1 (26 + y2) (by omega)]
      rcases Nat.lt_or_ge i m with hi | hi
      · exact ⟨dot (cA G i) (cR G r) n % p, Nat.mod_lt _ (by omega), f2 i hi, g2 i hi, fun h => by omega⟩
      · rw [f3 i hi, g3 _ (by omega), f1 48 (by omega)]
        exact hS y2 i h1 h2
    · rw [fr (26 + y2) (by omega) (by omega), g3 _ (by omega), f1 48 (by omega)]
      exact hS y2 i h1 h2
  refine s_wtM (6 * y) m (i6m y) (by rw [fr 45 (by omega) (by omega), b1]) (by rw [ln48]; omega) (by rw [ln48]; omega) ?_
  have e3 : wt (G1 (26 + y)) 6 = wt (fun k => G2 48 (6 * y + k)) m := by
    rw [← wt_sum hS2 hm hy, g1 (26 + y) (by omega)]
  rw [ln_26 hy, e3]
  exact k _ _ ⟨p, m, n, d, b, q, t, TI_fr (fun c hc => fr c (by omega) (by omega)) hT, RI_fr (fun c hc => fr c (by omega) (by omega)) hR, hS2, KI_fr (fun c hc => fr c (by omega) (by omega)) hK⟩
