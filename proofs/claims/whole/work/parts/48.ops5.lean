/-! PURE PART: sketch -/
theorem rgI {v : Int32} {lo hi : Nat} (hh : hi < 1000000) (hl : lo ≤ hi) (h1 : ¬ v < nI lo) (h2 : v ≤ nI hi) : ∃ j, lo ≤ j ∧ j ≤ hi ∧ v = nI j := by
  rcases pk_ix v (n := hi + 1) (by omega) with h | h | ⟨j, hj, e⟩
  · exact absurd (Int32.lt_of_lt_of_le h (nI_pos' (by omega))) h1
  · exact absurd (Int32.le_trans h h2) (nI_ge (by omega) (by omega))
  · refine ⟨j, ?_, by omega, e⟩
    rcases Nat.lt_or_ge j lo with q | q
    · exact absurd (by rw [e]; exact nI_lt q (by omega)) h1
    · exact q
theorem s_sh3_l (K : BS → Prop) (B : BS) (hK : ∀ B1 : BS, (∀ c, c ≠ 16 → B1 c = B c) → (∀ k, k < 384 → B1 16 k = 0) → K B1) : ∀ k i (B1 : BS), i + k = 384 → (∀ c, c ≠ 16 → B1 c = B c) → (∀ j, j < i → B1 16 j = 0) → wlX3_shape_22 K (k + 1) (nI i) B1 := by
  intro k
  induction k with
  | zero =>
    intro i B1 hi h1 h2
    have e : i = 384 := by omega
    subst e
    exact ⟨fun _ => hK B1 h1 h2, fun h => absurd (Int32.le_refl _) h⟩
  | succ k ih =>
    intro i B1 hi h1 h2
    refine ⟨fun h => absurd h (nI_ge (by omega) (by omega)), fun _ => ⟨vp_in_nI (by omega) (by omega), fun B2 e => ?_⟩⟩
    rw [zc (by omega)] at e
    rw [z1]
    refine ih (i + 1) B2 (by omega) (fun c hc => by rw [e, wrL_ne hc]; exact h1 c hc) (fun j hj => ?_)
    rw [e]
    by_cases ej : j = i
    · rw [ej, wrL_ss]
    · rw [wrL_sn ej]; exact h2 j (by omega)
theorem s_sh3 {v1 v2 : Int32} {G : GS} {B : BS} {P : GS → BS → Prop} (h : ∀ G1 B1, (∀ c, c ≠ 5 → G1 c = G c) → G1 5 0 = v1 → G1 5 1 = v2 → G1 5 2 = 0 → G1 5 3 = 0 → (∀ c, c ≠ 16 → B1 c = B c) → (∀ k, k < 384 → B1 16 k = 0) → P G1 B1) : wX3_shape v1 v2 G B P := by
  intro G1 e1 G2 e2 G3 e3 G4 e4
  refine ⟨385, s_sh3_l _ B (fun B1 h1 h2 => h G4 B1 (fun c hc => by rw [e4, wr_ne hc, e3, wr_ne hc, e2, wr_ne hc, e1, wr_ne hc]) ?_ ?_ ?_ ?_ h1 h2) 384 0 B (by omega) (fun _ _ => rfl) (fun j hj => by omega)⟩
  · rw [e4, wr_sn (by omega), e3, wr_sn (by omega), e2, wr_sn (by omega), e1, wr_ss]
  · rw [e4, wr_sn (by omega), e3, wr_sn (by omega), e2, wr_ss]
  · rw [e4, wr_sn (by omega), e3, wr_ss]
  · rw [e4, wr_ss]
theorem s_skM_l (K : BS → Prop) (B : BS) (hK : ∀ B1 : BS, (∀ c, c ≠ 49 → B1 c = B c) → (∀ k, k < 768 → B1 49 k = 0) → K B1) : ∀ k i (B1 : BS), i + k = 768 → (∀ c, c ≠ 49 → B1 c = B c) → (∀ j, j < i → B1 49 j = 0) → wlX6_sketch_50 K (k + 1) (nI i) B1 := by
  intro k
  induction k with
  | zero =>
    intro i B1 hi h1 h2
    have e : i = 768 := by omega
    subst e
    exact ⟨fun _ => hK B1 h1 h2, fun h => absurd (Int32.le_refl _) h⟩
  | succ k ih =>
    intro i B1 hi h1 h2
    refine ⟨fun h => absurd h (nI_ge (b := 768) (by omega) (by omega)), fun _ => ⟨vp_in_nI (by omega) (by omega), fun B2 e => ?_⟩⟩
    rw [zc (by omega)] at e
    rw [z1]
    refine ih (i + 1) B2 (by omega) (fun c hc => by rw [e, wrL_ne hc]; exact h1 c hc) (fun j hj => ?_)
    rw [e]
    by_cases ej : j = i
    · rw [ej, wrL_ss]
    · rw [wrL_sn ej]; exact h2 j (by omega)
theorem op_sketch {G : GS} {B : BS} {v1 v2 : Int32} {P : Int32 → Int32 → GS → BS → Prop} (h : Inv G B) (k : ∀ r G2 B2, Inv G2 B2 → P r r G2 B2) : wX5_sketch v1 v2 G B (fun r G1 B1 => wX6_sketch v1 v2 G1 B1 (fun r2 G2 B2 => P r r2 G2 B2)) := by
  have hI := h
  obtain ⟨p, m, n, d, b, q, t, hT, hR, hS, hK⟩ := h
  have bad : ¬ (((1 : Int32) ≤ v1 ∧ v1 ≤ 4) ∧ ((2 : Int32) ≤ v2 ∧ v2 ≤ 32)) → wX6_sketch v1 v2 G B (fun r2 G2 B2 => P (-1) r2 G2 B2) := fun hb =>
    s_inI (lo := 1) (hi := 4) (fun _ => ⟨fun _ => k _ _ _ hI, fun e => absurd rfl e⟩) (fun x y => ⟨fun e => absurd e (by decide), fun _ => s_inI (lo := 2) (hi := 32) (fun _ => ⟨fun e => absurd rfl e, fun _ => k _ _ _ hI⟩) (fun z w => absurd ⟨⟨x, y⟩, z, w⟩ hb)⟩)
  refine ⟨fun g => bad (fun x => Int32.not_lt.mpr x.1.1 g), fun g1 => ⟨fun g => bad (fun x => Int32.not_lt.mpr x.1.2 g), fun g2 => ⟨fun g => bad (fun x => Int32.not_lt.mpr x.2.1 g), fun g3 => ⟨fun g4 => ?_, fun g => bad (fun x => g x.2.2)⟩⟩⟩⟩
  obtain ⟨d2, x1, x2, rfl⟩ := rgI (lo := 1) (hi := 4) (by omega) (by omega) g1 (Int32.not_lt.mp g2)
  obtain ⟨b2, y1, y2, rfl⟩ := rgI (lo := 2) (hi := 32) (by omega) (by omega) g3 g4
  refine s_sh3 (fun G1 B1 f1 u0 u1 u2 u3 f2 u4 => ?_)
  refine s_inI (lo := 1) (hi := 4) (fun h => absurd ⟨Int32.not_lt.mp g1, Int32.not_lt.mp g2⟩ h) (fun _ _ => ⟨fun e => absurd e (by decide), fun _ => ?_⟩)
  refine s_inI (lo := 2) (hi := 32) (fun h => absurd ⟨Int32.not_lt.mp g3, g4⟩ h) (fun _ _ => ⟨fun _ => ?_, fun e => absurd e (by decide)⟩)
  intro H1 e1 H2 e2 H3 e3 H4 e4
  refine ⟨769, s_skM_l _ B1 (fun B2 f3 u5 => ?_) 768 0 B1 (by omega) (fun _ _ => rfl) (fun j hj => by omega)⟩
  have f4 : ∀ c, c ≠ 45 → c ≠ 5 → H4 c = G c := fun c hc h5 => by rw [e4, wr_ne hc, e3, wr_ne hc, e2, wr_ne hc, e1, wr_ne hc, f1 c h5]
  have f5 : ∀ c, c ≠ 45 → H4 c = G1 c := fun c hc => by rw [e4, wr_ne hc, e3, wr_ne hc, e2, wr_ne hc, e1, wr_ne hc]
  have f6 : ∀ j, j ≠ 6 → j ≠ 7 → j ≠ 8 → j ≠ 10 → H4 45 j = G 45 j := fun j a b c d => by rw [e4, wr_sn d, e3, wr_sn c, e2, wr_sn b, e1, wr_sn a, f1 45 (by omega)]
  obtain ⟨h1, h2, h3, h4, ⟨i0, i1, i2⟩, h6, h7⟩ := hT
  refine k _ _ _ ⟨p, m, n, d2, b2, 0, 0, ⟨h1, h2, h3, ?_, ?_, fun i j hi hj => ?_, fun a x y => ?_⟩, RI_fr (fun c hc => f4 c (by omega) (by omega)) hR, SI_fr (fun c hc => f4 c (by omega) (by omega)) hS, ⟨x1, x2⟩, ⟨y1, y2⟩, by omega, by omega, ?_, ?_, fun k hk => ?_, fun l hl => ⟨0, by omega, ?_⟩, fun k hk => by omega⟩
  · rw [f4 1 (by omega) (by omega)]; exact h4
  · rw [f6 0 (by omega) (by omega) (by omega) (by omega), f6 1 (by omega) (by omega) (by omega) (by omega), f6 2 (by omega) (by omega) (by omega) (by omega)]; exact ⟨i0, i1, i2⟩
  · rw [f4 (32 + i) (by omega) (by omega), f4 46 (by omega) (by omega)]; exact h6 i j hi hj
  · rw [f4 9 (by omega) (by omega)]; exact h7 a x y
  · rw [f5 5 (by omega)]; exact ⟨u0, u1, u2, u3⟩
  · refine ⟨?_, ?_, ?_, ?_⟩
    · rw [e4, wr_sn (by omega), e3, wr_sn (by omega), e2, wr_sn (by omega), e1, wr_ss]
    · rw [e4, wr_sn (by omega), e3, wr_sn (by omega), e2, wr_ss]
    · rw [e4, wr_sn (by omega), e3, wr_ss]; rfl
    · rw [e4, wr_ss]; rfl
  · rw [f3 16 (by omega), u4 k hk, u5 k (by omega)]
  · rw [f3 16 (by omega), u4 _ (by omega)]; rfl
