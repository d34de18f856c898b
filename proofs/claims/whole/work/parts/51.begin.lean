/-! PURE PART: begin, powers -/
theorem inv_step {p a q r b : Nat} (e : a * q + r = p) (ha : 1 ≤ a) (hq : q ≤ p) (hb : (r * b) % p = 1) : (a * (((p - q) * b) % p)) % p = 1 := by
  obtain ⟨s, rfl⟩ : ∃ s, p = q + s := ⟨p - q, by omega⟩
  obtain ⟨a', rfl⟩ : ∃ a', a = a' + 1 := ⟨a - 1, by omega⟩
  have hs : s = a' * q + r := by
    have : (a' + 1) * q = a' * q + q := by rw [Nat.add_mul, Nat.one_mul]
    omega
  rw [Nat.add_sub_cancel_left, Nat.mul_mod, Nat.mod_mod, ← Nat.mul_mod]
  have : (a' + 1) * (s * b) = (q + s) * (a' * b) + r * b := by
    have e1 : (a' + 1) * s = (q + s) * a' + r := by
      rw [Nat.add_mul, Nat.one_mul, Nat.add_mul, Nat.mul_comm a' s]
      conv => lhs; rhs; rw [hs]
      rw [Nat.mul_comm a' q]; omega
    rw [← Nat.mul_assoc, e1, Nat.add_mul, Nat.mul_assoc]
  rw [this, Nat.mul_add_mod]
  exact hb
theorem s_inv_l {p : Nat} (hp : isP p) (K : GS → Prop) (G : GS) (hg : G 1 0 = nI p) (hK : ∀ G1 : GS, (∀ c, c ≠ 9 → G1 c = G c) → (∀ a, 1 ≤ a → a < p → ∃ b, b < p ∧ G1 9 a = nI b ∧ (a * b) % p = 1) → K G1) : ∀ k a (G1 : GS), a + k = p → 2 ≤ a → (∀ c, c ≠ 9 → G1 c = G c) → (∀ x, 1 ≤ x → x < a → ∃ b, b < p ∧ G1 9 x = nI b ∧ (x * b) % p = 1) → wlX4_shape_51 K (k + 1) (nI a) G1 := by
  have hp2 := isP_lt hp
  intro k
  induction k with
  | zero =>
    intro a G1 ha ha2 f1 f2
    have e : a = p := by omega
    subst e
    unfold wlX4_shape_51
    rw [f1 1 (by omega), hg]
    exact ⟨fun _ => hK G1 f1 f2, fun h => absurd (Int32.le_refl _) h⟩
  | succ k ih =>
    intro a G1 ha ha2 f1 f2
    unfold wlX4_shape_51
    have hr0 := hp.2.2 a ha2 (by omega)
    have hra := Nat.mod_lt p (show 0 < a by omega)
    have hdv := Nat.div_add_mod p a
    have hq : p / a ≤ p := Nat.div_le_self p a
    rw [f1 1 (by omega), hg, z_rem (by omega) (by omega) (by omega), zc (by omega)]
    obtain ⟨b, hb, eb, hb1⟩ := f2 (p % a) (by omega) (by omega)
    have hm : (p - p / a) * b ≤ 97 * 97 := Nat.mul_le_mul (Nat.le_trans (Nat.sub_le _ _) hp2.2) (by omega)
    refine ⟨fun h => absurd h (nI_ge (by omega) (by omega)), fun _ => ⟨nI_ne0 (by omega) (by omega), nI_ne0 (by omega) (by omega), vp_in_nI (by omega) (by omega), nI_ne0 (by omega) (by omega), vp_in_nI (by omega) (by omega), fun G2 e2 => ?_⟩⟩
    have ed : nI p / nI a = nI (p / a) := pk_div (by omega) (by omega) (by omega)
    rw [zc (by omega), eb, ed, show nI p - nI (p / a) = nI (p - p / a) from pk_sub hq, pk_mul, z_rem (by omega) (by omega) (by omega)] at e2
    rw [z1]
    refine ih (a + 1) G2 (by omega) (by omega) (fun c hc => by rw [e2, wr_ne hc, f1 c hc]) (fun x h1 h2 => ?_)
    rw [e2]
    by_cases ex : x = a
    · subst ex
      exact ⟨((p - p / x) * b) % p, Nat.mod_lt _ (by omega), by rw [wr_ss], inv_step hdv (by omega) hq hb1⟩
    · rw [wr_sn ex]; exact f2 x h1 (by omega)
theorem s_shc_l (K : GS → Prop) (G : GS) (hK : ∀ G1 : GS, (∀ c, ¬ (32 ≤ c ∧ c < 38) → G1 c = G c) → (∀ i j, i < 6 → j < 12 → G1 (32 + i) j = 0) → K G1) : ∀ k i (G1 : GS), i + k = 6 → (∀ c, ¬ (32 ≤ c ∧ c < 38) → G1 c = G c) → (∀ x j, x < i → j < 12 → G1 (32 + x) j = 0) → wlX4_shape_18 K (k + 1) (nI i) G1 := by
  intro k
  induction k with
  | zero =>
    intro i G1 hi f1 f2
    have e : i = 6 := by omega
    subst e
    exact ⟨fun _ => hK G1 f1 f2, fun h => absurd (Int32.le_refl _) h⟩
  | succ k ih =>
    intro i G1 hi f1 f2
    refine ⟨fun h => absurd h (nI_ge (b := 6) (by omega) (by omega)), fun _ => ⟨vp_in_nI (by omega) (by omega), ?_⟩⟩
    rw [zc (by omega), z1]
    refine s_clear (by rw [ln_32 (by omega)]; omega) (fun G2 g1 g2 => ?_)
    rw [ln_32 (by omega)] at g2
    refine ih (i + 1) G2 (by omega) (fun c hc => by rw [g1 c (by omega), f1 c hc]) (fun x j h1 h2 => ?_)
    by_cases e : x = i
    · rw [e]; exact g2 j h2
    · rw [g1 _ (by omega)]; exact f2 x j (by omega) h2
theorem s_sh4 {p : Nat} (hp : isP p) {v2 v3 : Int32} {G : GS} {P : GS → Prop} (h : ∀ G1 : GS, (∀ c, c ≠ 1 → c ≠ 9 → ¬ (32 ≤ c ∧ c < 38) → G1 c = G c) → G1 1 0 = nI p → G1 1 1 = v2 → G1 1 2 = v3 → (∀ i j, i < 6 → j < 12 → G1 (32 + i) j = 0) → (∀ a, 1 ≤ a → a < p → ∃ b, b < p ∧ G1 9 a = nI b ∧ (a * b) % p = 1) → P G1) : wX4_shape (nI p) v2 v3 G P := by
  have hp2 := isP_lt hp
  intro G1 e1 G2 e2 G3 e3
  refine ⟨7, s_shc_l _ G3 (fun G4 f1 f2 G5 e5 => ?_) 6 0 G3 (by omega) (fun _ _ => rfl) (fun x j hx => by omega)⟩
  have h30 : G3 1 0 = nI p := by rw [e3, wr_sn (by omega), e2, wr_sn (by omega), e1, wr_ss]
  have h31 : G3 1 1 = v2 := by rw [e3, wr_sn (by omega), e2, wr_ss]
  have h32 : G3 1 2 = v3 := by rw [e3, wr_ss]
  have f5 : ∀ c, c ≠ 9 → G5 c = G4 c := fun c hc => by rw [e5, wr_ne hc]
  refine ⟨p - 2 + 1, s_inv_l hp _ G5 (by rw [f5 1 (by omega), f1 1 (by omega), h30]) (fun G6 g1 g2 => ?_) (p - 2) 2 G5 (by omega) (by omega) (fun _ _ => rfl) (fun x h1 h2 => ?_)⟩
  · refine h G6 (fun c c1 c9 c3 => ?_) ?_ ?_ ?_ (fun i j hi hj => ?_) g2
    · rw [g1 c c9, f5 c c9, f1 c c3, e3, wr_ne c1, e2, wr_ne c1, e1, wr_ne c1]
    · rw [g1 1 (by omega), f5 1 (by omega), f1 1 (by omega), h30]
    · rw [g1 1 (by omega), f5 1 (by omega), f1 1 (by omega), h31]
    · rw [g1 1 (by omega), f5 1 (by omega), f1 1 (by omega), h32]
    · rw [g1 _ (by omega), f5 _ (by omega)]; exact f2 i j hi hj
  · have ex : x = 1 := by omega
    subst ex
    refine ⟨1, by omega, ?_, Nat.mod_eq_of_lt (by omega)⟩
    rw [e5, show cl (1 : Int32) = 1 from rfl, wr_ss]
    rfl
theorem s_bgX_l (K : GS → Prop) (G : GS) (hK : ∀ G1 : GS, (∀ c, ¬ (20 ≤ c ∧ c < 32) → G1 c = G c) → (∀ i j, i < 6 → j < 12 → G1 (20 + i) j = 0) → (∀ i j, i < 6 → j < 6 → G1 (26 + i) j = 0) → K G1) : ∀ k i (G1 : GS), i + k = 6 → (∀ c, ¬ (20 ≤ c ∧ c < 32) → G1 c = G c) → (∀ x j, x < i → j < 12 → G1 (20 + x) j = 0) → (∀ x j, x < i → j < 6 → G1 (26 + x) j = 0) → wlX5_begin_44 K (k + 1) (nI i) G1 := by
  intro k
  induction k with
  | zero =>
    intro i G1 hi f1 f2 f3
    have e : i = 6 := by omega
    subst e
    exact ⟨fun _ => hK G1 f1 f2 f3, fun h => absurd (Int32.le_refl _) h⟩
  | succ k ih =>
    intro i G1 hi f1 f2 f3
    refine ⟨fun h => absurd h (nI_ge (b := 6) (by omega) (by omega)), fun _ => ⟨vp_in_nI (by omega) (by omega), ?_⟩⟩
    rw [zc (by omega), z1]
    refine s_clear (by rw [ln_20 (by omega)]; omega) (fun G2 g1 g2 => ⟨vp_in_nI (by omega) (by omega), ?_⟩)
    rw [ln_20 (by omega)] at g2
    refine s_clear (by rw [ln_26 (by omega)]; omega) (fun G3 h1 h2 => ?_)
    rw [ln_26 (by omega)] at h2
    refine ih (i + 1) G3 (by omega) (fun c hc => by rw [h1 c (by omega), g1 c (by omega), f1 c hc]) (fun x j q1 q2 => ?_) (fun x j q1 q2 => ?_)
    · rw [h1 _ (by omega)]
      by_cases e : x = i
      · rw [e]; exact g2 j q2
      · rw [g1 _ (by omega)]; exact f2 x j (by omega) q2
    · by_cases e : x = i
      · rw [e]; exact h2 j q2
      · rw [h1 _ (by omega), g1 _ (by omega)]; exact f3 x j (by omega) q2
theorem s_bgM1_l (K : GS → Prop) (G : GS) (hK : ∀ G1 : GS, (∀ c, c ≠ 46 → c ≠ 47 → G1 c = G c) → (∀ j, j < 72 → G1 46 j = 0 ∧ G1 47 j = 0) → K G1) : ∀ k i (G1 : GS), i + k = 72 → (∀ c, c ≠ 46 → c ≠ 47 → G1 c = G c) → (∀ j, j < i → G1 46 j = 0 ∧ G1 47 j = 0) → wlX6_begin_51 K (k + 1) (nI i) G1 := by
  intro k
  induction k with
  | zero =>
    intro i G1 hi f1 f2
    have e : i = 72 := by omega
    subst e
    exact ⟨fun _ => hK G1 f1 f2, fun h => absurd (Int32.le_refl _) h⟩
  | succ k ih =>
    intro i G1 hi f1 f2
    refine ⟨fun h => absurd h (nI_ge (b := 72) (by omega) (by omega)), fun _ => ⟨vp_in_nI (by omega) (by omega), fun G2 e2 => ⟨vp_in_nI (by omega) (by omega), fun G3 e3 => ?_⟩⟩⟩
    rw [zc (by omega)] at e2 e3
    rw [z1]
    refine ih (i + 1) G3 (by omega) (fun c h1 h2 => by rw [e3, wr_ne h2, e2, wr_ne h1, f1 c h1 h2]) (fun j hj => ?_)
    by_cases e : j = i
    · subst e
      exact ⟨by rw [e3, wr_ne (by omega), e2, wr_ss], by rw [e3, wr_ss]⟩
    · refine ⟨by rw [e3, wr_ne (by omega), e2, wr_sn e]; exact (f2 j (by omega)).1, by rw [e3, wr_sn e, e2, wr_ne (by omega)]; exact (f2 j (by omega)).2⟩
theorem s_bgM2_l (K : GS → Prop) (G : GS) (hK : ∀ G1 : GS, (∀ c, c ≠ 48 → G1 c = G c) → (∀ j, j < 36 → G1 48 j = 0) → K G1) : ∀ k i (G1 : GS), i + k = 36 → (∀ c, c ≠ 48 → G1 c = G c) → (∀ j, j < i → G1 48 j = 0) → wlX6_begin_83 K (k + 1) (nI i) G1 := by
  intro k
  induction k with
  | zero =>
    intro i G1 hi f1 f2
    have e : i = 36 := by omega
    subst e
    exact ⟨fun _ => hK G1 f1 f2, fun h => absurd (Int32.le_refl _) h⟩
  | succ k ih =>
    intro i G1 hi f1 f2
    refine ⟨fun h => absurd h (nI_ge (b := 36) (by omega) (by omega)), fun _ => ⟨vp_in_nI (by omega) (by omega), fun G2 e2 => ?_⟩⟩
    rw [zc (by omega)] at e2
    rw [z1]
    refine ih (i + 1) G2 (by omega) (fun c h1 => by rw [e2, wr_ne h1, f1 c h1]) (fun j hj => ?_)
    by_cases e : j = i
    · rw [e, e2, wr_ss]
    · rw [e2, wr_sn e]; exact f2 j (by omega)
theorem op_begin {G : GS} {B : BS} {v1 v2 v3 : Int32} {P : Int32 → Int32 → GS → Prop} (h : Inv G B) (k : ∀ r G2, Inv G2 B → P r r G2) : wX5_begin v1 v2 v3 G (fun r G1 => wX6_begin v1 v2 v3 G1 (fun r2 G2 => P r r2 G2)) := by
  have hI := h
  obtain ⟨p0, m0, n0, d, b, q, t, hT, hR, hS, hK⟩ := h
  have bad : ¬ ((∃ p, v1 = nI p ∧ isP p) ∧ ((1 : Int32) ≤ v2 ∧ v2 ≤ 6) ∧ ((1 : Int32) ≤ v3 ∧ v3 ≤ 12)) → wX6_begin v1 v2 v3 G (fun r2 G2 => P (-1) r2 G2) := fun hb =>
    s_prM (fun _ => ⟨fun _ => k _ _ hI, fun e => absurd rfl e⟩) (fun p e hp => ⟨fun e => absurd e (by decide), fun _ => s_inI (lo := 1) (hi := 6) (fun _ => ⟨fun _ => k _ _ hI, fun e => absurd rfl e⟩) (fun x y => ⟨fun e => absurd e (by decide), fun _ => s_inI (lo := 1) (hi := 12) (fun _ => ⟨fun e => absurd rfl e, fun _ => k _ _ hI⟩) (fun z w => absurd ⟨⟨p, e, hp⟩, ⟨x, y⟩, z, w⟩ hb)⟩)⟩)
  refine s_prX (fun g => ⟨fun _ => bad (fun x => ?_), fun e => absurd rfl e⟩) (fun p ep hp => ⟨fun e => absurd e (by decide), fun _ => ?_⟩)
  · obtain ⟨⟨p, e, hp⟩, -⟩ := x
    exact g p e hp
  refine ⟨fun g => bad (fun x => Int32.not_lt.mpr x.2.1.1 g), fun g1 => ⟨fun g => bad (fun x => Int32.not_lt.mpr x.2.1.2 g), fun g2 => ⟨fun g => bad (fun x => Int32.not_lt.mpr x.2.2.1 g), fun g3 => ⟨fun g4 => ?_, fun g => bad (fun x => g x.2.2.2)⟩⟩⟩⟩
  subst ep
  obtain ⟨m, x1, x2, rfl⟩ := rgI (lo := 1) (hi := 6) (by omega) (by omega) g1 (Int32.not_lt.mp g2)
  obtain ⟨n, y1, y2, rfl⟩ := rgI (lo := 1) (hi := 12) (by omega) (by omega) g3 g4
  have hp2 := isP_lt hp
  refine s_sh4 hp (fun G1 f1 u0 u1 u2 u3 u4 => ?_)
  refine ⟨7, s_bgX_l _ G1 (fun G2 f2 w1 w2 => ?_) 6 0 G1 (by omega) (fun _ _ => rfl) (fun x j hx => by omega) (fun x j hx => by omega)⟩
  refine s_prM (fun h => absurd hp (h p rfl)) (fun p2 e2 hpp => ⟨fun e => absurd e (by decide), fun _ => ?_⟩)
  refine s_inI (lo := 1) (hi := 6) (fun h => absurd ⟨Int32.not_lt.mp g1, Int32.not_lt.mp g2⟩ h) (fun _ _ => ⟨fun e => absurd e (by decide), fun _ => ?_⟩)
  refine s_inI (lo := 1) (hi := 12) (fun h => absurd ⟨Int32.not_lt.mp g3, g4⟩ h) (fun _ _ => ⟨fun _ => ?_, fun e => absurd e (by decide)⟩)
  intro H1 e1 H2 e2 H3 e3
  refine ⟨73, s_bgM1_l _ H3 (fun H4 h4 h5 => ?_) 72 0 H3 (by omega) (fun _ _ _ => rfl) (fun j hj => by omega)⟩
  refine ⟨37, s_bgM2_l _ H4 (fun H5 h6 h7 => ?_) 36 0 H4 (by omega) (fun _ _ => rfl) (fun j hj => by omega)⟩
  have fr : ∀ c, c ≠ 45 → c ≠ 46 → c ≠ 47 → c ≠ 48 → H5 c = G2 c := fun c a b c2 d2 => by rw [h6 c d2, h4 c b c2, e3, wr_ne a, e2, wr_ne a, e1, wr_ne a]
  have f45 : ∀ j, j ≠ 0 → j ≠ 1 → j ≠ 2 → H5 45 j = G 45 j := fun j a b c => by rw [h6 45 (by omega), h4 45 (by omega) (by omega), e3, wr_sn c, e2, wr_sn b, e1, wr_sn a, f2 45 (by omega), f1 45 (by omega) (by omega) (by omega)]
  have frG : ∀ c, c < 20 → c ≠ 1 → c ≠ 9 → H5 c = G c := fun c a b c2 => by rw [fr c (by omega) (by omega) (by omega) (by omega), f2 c (by omega), f1 c b c2 (by omega)]
  have frG2 : ∀ c, 49 ≤ c → H5 c = G c := fun c a => by rw [fr c (by omega) (by omega) (by omega) (by omega), f2 c (by omega), f1 c (by omega) (by omega) (by omega)]
  obtain ⟨k1, k2, k3, k4, k5, k6, k7, k8, k9⟩ := hK
  refine k _ _ ⟨p, m, n, d, b, q, t, ⟨hp, ⟨x1, x2⟩, ⟨y1, y2⟩, ?_, ?_, fun i j hi hj => ⟨0, by omega, ?_, ?_⟩, fun a z w => ?_⟩, fun r j hr hj => ⟨0, by omega, ?_, ?_, fun _ => rfl⟩, fun r j hr hj => ⟨0, by omega, ?_, ?_, fun _ => rfl⟩, k1, k2, k3, k4, ?_, ?_, k7, k8, fun j z w => ?_⟩
  · rw [fr 1 (by omega) (by omega) (by omega) (by omega), f2 1 (by omega)]; exact ⟨u0, u1, u2⟩
  · refine ⟨?_, ?_, ?_⟩
    · rw [h6 45 (by omega), h4 45 (by omega) (by omega), e3, wr_sn (by omega), e2, wr_sn (by omega), e1, wr_ss]
    · rw [h6 45 (by omega), h4 45 (by omega) (by omega), e3, wr_sn (by omega), e2, wr_ss]
    · rw [h6 45 (by omega), h4 45 (by omega) (by omega), e3, wr_ss]
  · rw [fr _ (by omega) (by omega) (by omega) (by omega), f2 _ (by omega), u3 i j hi hj]; rfl
  · rw [h6 46 (by omega), (h5 (12 * i + j) (by omega)).1]; rfl
  · rw [fr 9 (by omega) (by omega) (by omega) (by omega), f2 9 (by omega)]; exact u4 a z w
  · rw [fr _ (by omega) (by omega) (by omega) (by omega), w1 r j hr hj]; rfl
  · rw [h6 47 (by omega), (h5 (12 * r + j) (by omega)).2]; rfl
  · rw [fr _ (by omega) (by omega) (by omega) (by omega), w2 r j hr hj]; rfl
  · rw [h7 (6 * r + j) (by omega)]; rfl
  · rw [frG 5 (by omega) (by omega) (by omega)]; exact k5
  · rw [f45 6 (by omega) (by omega) (by omega), f45 7 (by omega) (by omega) (by omega), f45 8 (by omega) (by omega) (by omega), f45 10 (by omega) (by omega) (by omega)]; exact k6
  · rw [frG 18 (by omega) (by omega) (by omega), frG 19 (by omega) (by omega) (by omega), frG2 50 (by omega), frG2 51 (by omega)]; exact k9 j z w
