/-! PURE PART: powers -/
def pw (p a j : Nat) : Nat → Nat
  | 0 => a
  | i + 1 => (pw p a j i * (j + 1)) % p
theorem pw_lt {p a j : Nat} (ha : a < p) : ∀ i, pw p a j i < p
  | 0 => ha
  | i + 1 => Nat.mod_lt _ (by omega)
theorem s_pwX_i {p m a j : Nat} {G : GS} {v1 : Int32} {K : GS → Prop} (hp : 2 ≤ p) (hp2 : p ≤ 97) (ha : a < p) (hm : m ≤ 6) (hj : j < 12) (a0 : G 1 0 = nI p) (a1 : G 1 1 = nI m) (hK : ∀ G1 : GS, (∀ c, ¬ (32 ≤ c ∧ c < 32 + m) → G1 c = G c) → (∀ i, i < m → G1 (32 + i) j = nI (pw p a j i)) → (∀ i l, i < 6 → l ≠ j → G1 (32 + i) l = G (32 + i) l) → K G1) : ∀ k i (G1 : GS), i + k = m → (∀ c, ¬ (32 ≤ c ∧ c < 32 + m) → G1 c = G c) → (∀ x, x < i → G1 (32 + x) j = nI (pw p a j x)) → (∀ x l, x < 6 → l ≠ j → G1 (32 + x) l = G (32 + x) l) → wlX4_fillWithPowers_15 K v1 (nI j) (k + 1) (nI (pw p a j i)) (nI i) G1 := by
  intro k
  induction k with
  | zero =>
    intro i G1 hi f1 f2 f3
    have e : i = m := by omega
    subst e
    unfold wlX4_fillWithPowers_15
    rw [f1 1 (by omega), a1]
    exact ⟨fun _ => hK G1 f1 f2 f3, fun h => absurd (Int32.le_refl _) h⟩
  | succ k ih =>
    intro i G1 hi f1 f2 f3
    have h1 := pw_lt (j := j) ha i
    have h2 : pw p a j i * (j + 1) ≤ 97 * 12 := Nat.mul_le_mul (by omega) (by omega)
    unfold wlX4_fillWithPowers_15
    rw [f1 1 (by omega), a1]
    refine ⟨fun h => absurd h (nI_ge (by omega) (by omega)), fun _ => ⟨vp_in_nI (by omega) (by omega), vp_in_nI (by omega) (by omega), fun G2 e2 => ?_⟩⟩
    rw [zc (by omega), zc (by omega)] at e2
    have g1 : G2 1 0 = nI p := by rw [e2, wr_ne (by omega), f1 1 (by omega), a0]
    rw [g1]
    refine ⟨nI_ne0 (by omega) (by omega), fun x ex => ?_⟩
    rw [z1, pk_mul, z_rem (by omega) (by omega) (by omega)] at ex
    rw [ex, z1]
    refine ih (i + 1) G2 (by omega) (fun c hc => by rw [e2, wr_ne (by omega), f1 c hc]) (fun x hx => ?_) (fun x l hx hl => ?_)
    · by_cases e : x = i
      · rw [e, e2, wr_ss]
      · rw [e2, wr_ne (by omega)]; exact f2 x (by omega)
    · by_cases e : x = i
      · rw [e, e2, wr_sn hl]; exact f3 i l (by omega) hl
      · rw [e2, wr_ne (by omega)]; exact f3 x l hx hl
theorem s_pwX {p m n a : Nat} {G : GS} {K : GS → Prop} (hp : 2 ≤ p) (hp2 : p ≤ 97) (ha : a < p) (hm : m ≤ 6) (hn : n ≤ 12) (a0 : G 1 0 = nI p) (a1 : G 1 1 = nI m) (a2 : G 1 2 = nI n) (hK : ∀ G1 : GS, (∀ c, ¬ (32 ≤ c ∧ c < 32 + m) → G1 c = G c) → (∀ i j, i < m → j < n → G1 (32 + i) j = nI (pw p a j i)) → (∀ i l, i < 6 → n ≤ l → G1 (32 + i) l = G (32 + i) l) → K G1) : ∀ k j (G1 : GS), j + k = n → (∀ c, ¬ (32 ≤ c ∧ c < 32 + m) → G1 c = G c) → (∀ x l, x < m → l < j → G1 (32 + x) l = nI (pw p a l x)) → (∀ x l, x < 6 → j ≤ l → G1 (32 + x) l = G (32 + x) l) → wlX4_fillWithPowers_2 K (nI a) (k + 1) (nI j) G1 := by
  intro k
  induction k with
  | zero =>
    intro j G1 hj f1 f2 f3
    have e : j = n := by omega
    subst e
    unfold wlX4_fillWithPowers_2
    rw [f1 1 (by omega), a2]
    exact ⟨fun _ => hK G1 f1 f2 f3, fun h => absurd (Int32.le_refl _) h⟩
  | succ k ih =>
    intro j G1 hj f1 f2 f3
    unfold wlX4_fillWithPowers_2
    rw [f1 1 (by omega), a2]
    refine ⟨fun h => absurd h (nI_ge (by omega) (by omega)), fun _ => ⟨m + 1, ?_⟩⟩
    refine s_pwX_i (G := G1) (p := p) (m := m) (a := a) hp hp2 ha hm (by omega) (by rw [f1 1 (by omega), a0]) (by rw [f1 1 (by omega), a1]) (fun G2 g1 g2 g3 => ?_) m 0 G1 (by omega) (fun _ _ => rfl) (fun x hx => by omega) (fun _ _ _ _ => rfl)
    rw [z1]
    refine ih (j + 1) G2 (by omega) (fun c hc => by rw [g1 c hc, f1 c hc]) (fun x l hx hl => ?_) (fun x l hx hl => by rw [g3 x l hx (by omega), f3 x l hx (by omega)])
    by_cases e : l = j
    · rw [e]; exact g2 x hx
    · rw [g3 x l (by omega) e]; exact f2 x l hx (by omega)
theorem s_pwM_i {p m a j : Nat} {G : GS} {v1 : Int32} {K : GS → Prop} (hp : 2 ≤ p) (hp2 : p ≤ 97) (ha : a < p) (hm : m ≤ 6) (hj : j < 12) (a0 : G 45 0 = nI p) (a1 : G 45 1 = nI m) (hK : ∀ G1 : GS, (∀ c, c ≠ 46 → G1 c = G c) → (∀ i, i < m → G1 46 (12 * i + j) = nI (pw p a j i)) → (∀ i l, l < 12 → (i < m → l ≠ j) → G1 46 (12 * i + l) = G 46 (12 * i + l)) → K G1) : ∀ k i (G1 : GS), i + k = m → (∀ c, c ≠ 46 → G1 c = G c) → (∀ x, x < i → G1 46 (12 * x + j) = nI (pw p a j x)) → (∀ x l, l < 12 → (x < i → l ≠ j) → G1 46 (12 * x + l) = G 46 (12 * x + l)) → wlX6_powers_33 K v1 (nI j) (k + 1) (nI (pw p a j i)) (nI i) G1 := by
  intro k
  induction k with
  | zero =>
    intro i G1 hi f1 f2 f3
    have e : i = m := by omega
    subst e
    unfold wlX6_powers_33
    rw [f1 45 (by omega), a1]
    exact ⟨fun _ => hK G1 f1 f2 f3, fun h => absurd (Int32.le_refl _) h⟩
  | succ k ih =>
    intro i G1 hi f1 f2 f3
    have h1 := pw_lt (j := j) ha i
    have h3 : (j + 1) % p < p := Nat.mod_lt _ (by omega)
    have h2 : pw p a j i * ((j + 1) % p) ≤ 97 * 97 := Nat.mul_le_mul (by omega) (by omega)
    unfold wlX6_powers_33
    rw [f1 45 (by omega), a1, i12]
    refine ⟨fun h => absurd h (nI_ge (by omega) (by omega)), fun _ => ⟨vp_in_nI (by omega) (by omega), fun G2 e2 => ?_⟩⟩
    rw [zc (by omega)] at e2
    have g1 : G2 45 0 = nI p := by rw [e2, wr_ne (by omega), f1 45 (by omega), a0]
    rw [g1]
    refine ⟨nI_ne0 (by omega) (by omega), nI_ne0 (by omega) (by omega), fun x ex => ?_⟩
    rw [z1, z_rem (by omega) (by omega) (by omega), pk_mul, z_rem (by omega) (by omega) (by omega)] at ex
    have ex2 : x = nI (pw p a j (i + 1)) := by
      rw [ex]
      show nI (pw p a j i * ((j + 1) % p) % p) = nI ((pw p a j i * (j + 1)) % p)
      rw [Nat.mul_mod_mod]
    rw [ex2, z1]
    refine ih (i + 1) G2 (by omega) (fun c hc => by rw [e2, wr_ne hc, f1 c hc]) (fun x hx => ?_) (fun x l hx hl => ?_)
    · by_cases e : x = i
      · rw [e, e2, wr_ss]
      · rw [e2, wr_sn (by omega)]; exact f2 x (by omega)
    · rw [e2, wr_sn (fun q => by
        by_cases e : x = i
        · have := hl (by omega)
          omega
        · omega)]
      exact f3 x l hx (fun q => hl (by omega))
theorem s_pwM {p m n a : Nat} {G : GS} {K : GS → Prop} (hp : 2 ≤ p) (hp2 : p ≤ 97) (ha : a < p) (hm : m ≤ 6) (hn : n ≤ 12) (a0 : G 45 0 = nI p) (a1 : G 45 1 = nI m) (a2 : G 45 2 = nI n) (hK : ∀ G1 : GS, (∀ c, c ≠ 46 → G1 c = G c) → (∀ i j, i < m → j < n → G1 46 (12 * i + j) = nI (pw p a j i)) → (∀ i l, l < 12 → (i < m → n ≤ l) → G1 46 (12 * i + l) = G 46 (12 * i + l)) → K G1) : ∀ k j (G1 : GS), j + k = n → (∀ c, c ≠ 46 → G1 c = G c) → (∀ x l, x < m → l < j → G1 46 (12 * x + l) = nI (pw p a l x)) → (∀ x l, l < 12 → (x < m → j ≤ l) → G1 46 (12 * x + l) = G 46 (12 * x + l)) → wlX6_powers_20 K (nI a) (k + 1) (nI j) G1 := by
  intro k
  induction k with
  | zero =>
    intro j G1 hj f1 f2 f3
    have e : j = n := by omega
    subst e
    unfold wlX6_powers_20
    rw [f1 45 (by omega), a2]
    exact ⟨fun _ => hK G1 f1 f2 f3, fun h => absurd (Int32.le_refl _) h⟩
  | succ k ih =>
    intro j G1 hj f1 f2 f3
    unfold wlX6_powers_20
    rw [f1 45 (by omega), a2]
    refine ⟨fun h => absurd h (nI_ge (by omega) (by omega)), fun _ => ⟨m + 1, ?_⟩⟩
    refine s_pwM_i (G := G1) (p := p) (m := m) (a := a) hp hp2 ha hm (by omega) (by rw [f1 45 (by omega), a0]) (by rw [f1 45 (by omega), a1]) (fun G2 g1 g2 g3 => ?_) m 0 G1 (by omega) (fun _ _ => rfl) (fun x hx => by omega) (fun _ _ _ _ => rfl)
    rw [z1]
    refine ih (j + 1) G2 (by omega) (fun c hc => by rw [g1 c hc, f1 c hc]) (fun x l hx hl => ?_) (fun x l hx hl => by rw [g3 x l hx (fun q => by have := hl q; omega), f3 x l hx (fun q => by have := hl q; omega)])
    by_cases e : l = j
    · rw [e]; exact g2 x hx
    · rw [g3 x l (by omega) (fun _ => e)]; exact f2 x l hx (by omega)
theorem op_powers {G : GS} {B : BS} {v1 : Int32} {P : Int32 → Int32 → GS → Prop} (h : Inv G B) (k : ∀ r G2, Inv G2 B → P r r G2) : wX5_powers v1 G (fun r G1 => wX6_powers v1 G1 (fun r2 G2 => P r r2 G2)) := by
  have hI := h
  obtain ⟨p, m, n, d, b, q, t, hT, hR, hS, hK⟩ := h
  obtain ⟨hp, ⟨hm0, hm⟩, ⟨hn0, hn⟩, ⟨a0, a1, a2⟩, ⟨b0, b1, b2⟩, hc, hv⟩ := id hT
  have hp2 := isP_lt hp
  have bad : ¬ inR v1 p → wX6_powers v1 G (fun r2 G2 => P (-1) r2 G2) := fun hb =>
    s_in0 p (by omega) (by omega) (by rw [b0, nI_m1 (by omega)]) (fun _ => ⟨fun e => absurd rfl e, fun _ => k _ _ hI⟩) (fun x => absurd x hb)
  unfold wX5_powers
  rw [a0]
  refine ⟨fun g => bad (inR_neg (by omega) g), fun g1 => ⟨fun g2 => ?_, fun g => bad (inR_big (by omega) (Int32.not_lt.mp g))⟩⟩
  obtain ⟨a, ha, rfl⟩ := inR_of (n := p) (by omega) g1 (Int32.not_le.mpr g2)
  refine ⟨n + 1, s_pwX (G := G) (p := p) (m := m) (n := n) hp2.1 hp2.2 ha hm hn a0 a1 a2 (fun G1 f1 f2 f3 => ?_) n 0 G (by omega) (fun _ _ => rfl) (fun x l _ hl => by omega) (fun _ _ _ _ => rfl)⟩
  refine s_in0 p (by omega) (by omega) (by rw [f1 45 (by omega), b0, nI_m1 (by omega)]) (fun x => absurd ⟨a, ha, rfl⟩ x) (fun _ => ⟨fun _ => ?_, fun e => absurd e (by decide)⟩)
  refine ⟨n + 1, s_pwM (G := G1) (p := p) (m := m) (n := n) hp2.1 hp2.2 ha hm hn (by rw [f1 45 (by omega), b0]) (by rw [f1 45 (by omega), b1]) (by rw [f1 45 (by omega), b2]) (fun G2 g1 g2 g3 => ?_) n 0 G1 (by omega) (fun _ _ => rfl) (fun x l _ hl => by omega) (fun _ _ _ _ => rfl)⟩
  have fr : ∀ c, ¬ (32 ≤ c ∧ c < 38) → c ≠ 46 → G2 c = G c := fun c h1 h2 => by rw [g1 c h2, f1 c (by omega)]
  refine k _ _ ⟨p, m, n, d, b, q, t, ⟨hp, ⟨hm0, hm⟩, ⟨hn0, hn⟩, ?_, ?_, fun i j hi hj => ?_, fun a x y => ?_⟩, RI_fr (fun c hc => fr c (by omega) (by omega)) hR, SI_fr (fun c hc => fr c (by omega) (by omega)) hS, KI_fr (fun c hc => fr c (by omega) (by omega)) hK⟩
  · rw [fr 1 (by omega) (by omega)]; exact ⟨a0, a1, a2⟩
  · rw [fr 45 (by omega) (by omega)]; exact ⟨b0, b1, b2⟩
  · rw [g1 _ (by omega)]
    by_cases e : i < m ∧ j < n
    · exact ⟨pw p a j i, pw_lt ha i, f2 i j e.1 e.2, g2 i j e.1 e.2⟩
    · rw [g3 i j hj (fun q => by omega), f1 46 (by omega)]
      have : G1 (32 + i) j = G (32 + i) j := by
        rcases Nat.lt_or_ge i m with z | z
        · exact f3 i j hi (by omega)
        · rw [f1 _ (by omega)]
      rw [this]
      exact hc i j hi hj
  · rw [fr 9 (by omega) (by omega)]; exact hv a x y
