/-! PURE PART: greedy, one turn -/
def wtE (m : Nat) (e : Nat → Nat) : Nat := ctP (fun i => decide (e i ≠ 0)) m
def offE (p : Nat) (e : Nat → Nat) (A : Nat → Nat → Nat) (c f i : Nat) : Nat := rmd (nI (e i) - nI f * nI (A i c)) p
def wg (p m : Nat) (e : Nat → Nat) (A : Nat → Nat → Nat) (c f : Nat) : Nat := wtE m (offE p e A c f)
theorem wtE_le (m : Nat) (e : Nat → Nat) : wtE m e ≤ m := ctP_le _ m
theorem ctP_mono {Q R : Nat → Bool} : ∀ n, (∀ k, k < n → Q k = true → R k = true) → ctP Q n ≤ ctP R n
  | 0, _ => Nat.le_refl _
  | n + 1, h => by
    have h1 := ctP_mono n (fun k hk => h k (by omega))
    have h2 := h n (by omega)
    unfold ctP
    by_cases q : Q n = true
    · rw [if_pos q, if_pos (h2 q)]; omega
    · rw [if_neg q]; split <;> omega
/-- a factor that makes no place nought doesn't lessen the weight -/
theorem no_cand {p m c f : Nat} [NeZero p] {e : Nat → Nat} {A : Nat → Nat → Nat} (hp : p ≤ 97) (he : ∀ i, i < m → e i < p) (hA : ∀ i, i < m → A i c < p) (hf : f < p) (h : ∀ i, i < m → e i ≠ 0 → A i c ≠ 0 → (f * A i c) % p ≠ e i) : wtE m e ≤ wg p m e A c f := by
  refine ctP_mono m (fun i hi hq => ?_)
  have hq := of_decide_eq_true hq
  apply decide_eq_true
  intro h0
  have h1 := (fK_rmd hp (he i hi) hf (hA i hi)).2
  have h2 : fK p (offE p e A c f i) = 0 := by rw [h0]; rfl
  have h3 : fK p (e i) = fK p ((f * A i c) % p) := by
    rw [fK_mod, fK_mul]
    have : fK p (e i) - fK p f * fK p (A i c) = 0 := h1.symm.trans h2
    grind
  have h4 := fK_inj (he i hi) (Nat.mod_lt _ (by omega)) h3
  by_cases ha : A i c = 0
  · rw [ha, Nat.mul_zero, Nat.zero_mod] at h4
    exact hq h4
  · exact h i hi hq ha h4.symm
/-- where the search for the best stands; D: what has been weighed -/
def BI (p m n S : Nat) (e : Nat → Nat) (A : Nat → Nat → Nat) (D : Nat → Nat → Prop) (z : Option (Nat × Nat)) (w : Nat) : Prop := (z = none → w = wtE m e ∧ ∀ c f, D c f → wtE m e ≤ wg p m e A c f) ∧ ∀ bc bf, z = some (bc, bf) → bc < n ∧ bt S bc = 0 ∧ bf < p ∧ w = wg p m e A bc bf ∧ w < wtE m e ∧ D bc bf ∧ ∀ c f, D c f → w ≤ wg p m e A c f ∧ ((c < bc ∨ (c = bc ∧ f < bf)) → w < wg p m e A c f)
theorem BI_le {p m n S w : Nat} {e : Nat → Nat} {A : Nat → Nat → Nat} {D : Nat → Nat → Prop} {z : Option (Nat × Nat)} (h : BI p m n S e A D z w) : w ≤ wtE m e := by
  cases z with
  | none => rw [(h.1 rfl).1]; exact Nat.le_refl _
  | some x => have := h.2 x.1 x.2 rfl; omega
theorem BI_up {p m n S w c f : Nat} {e : Nat → Nat} {A : Nat → Nat → Nat} {D D' : Nat → Nat → Prop} {z : Option (Nat × Nat)} (h : BI p m n S e A D z w) (hc : c < n) (hS : bt S c = 0) (hf : f < p) (hw : wg p m e A c f < w ∨ (wg p m e A c f = w ∧ ∃ bf, z = some (c, bf) ∧ f < bf)) (hD : ∀ c2 f2, D' c2 f2 → D c2 f2 ∨ (c2 = c ∧ f2 = f)) (hD2 : D' c f) : BI p m n S e A D' (some (c, f)) (wg p m e A c f) := by
  have hle := BI_le h
  refine ⟨fun q => absurd q (by simp), fun bc bf q => ?_⟩
  have q1 : c = bc := congrArg Prod.fst (Option.some.inj q)
  have q2 : f = bf := congrArg Prod.snd (Option.some.inj q)
  subst q1
  subst q2
  refine ⟨hc, hS, hf, rfl, ?_, hD2, fun c2 f2 hd => ?_⟩
  · rcases hw with hw | ⟨hw, bf, ez, hb⟩
    · omega
    · have := (h.2 c bf ez).2.2.2.2.1; omega
  · rcases hD c2 f2 hd with hd | ⟨rfl, rfl⟩
    · cases z with
      | none =>
        obtain ⟨h1, h2⟩ := h.1 rfl
        have := h2 c2 f2 hd
        rcases hw with hw | ⟨hw, bf, ez, hb⟩
        · exact ⟨by omega, fun _ => by omega⟩
        · exact absurd ez (by simp)
      | some x =>
        have h1 := (h.2 x.1 x.2 rfl).2.2.2.2.2.2 c2 f2 hd
        rcases hw with hw | ⟨hw, bf, ez, hb⟩
        · exact ⟨by omega, fun _ => by omega⟩
        · have h2 := (h.2 c bf ez).2.2.2.2.2.2 c2 f2 hd
          refine ⟨by omega, fun q => ?_⟩
          have := h2.2 (by omega)
          omega
    · exact ⟨Nat.le_refl _, fun q => by omega⟩
theorem BI_keep {p m n S w c f : Nat} {e : Nat → Nat} {A : Nat → Nat → Nat} {D D' : Nat → Nat → Prop} {z : Option (Nat × Nat)} (h : BI p m n S e A D z w) (hw : ¬ (wg p m e A c f < w ∨ (wg p m e A c f = w ∧ ∃ bf, z = some (c, bf) ∧ f < bf))) (hc : ∀ c2 f2, D c2 f2 → c2 ≤ c) (hD : ∀ c2 f2, D' c2 f2 → D c2 f2 ∨ (c2 = c ∧ f2 = f)) (hD2 : ∀ c2 f2, D c2 f2 → D' c2 f2) : BI p m n S e A D' z w := by
  refine ⟨fun q => ?_, fun bc bf q => ?_⟩
  · obtain ⟨h1, h2⟩ := h.1 q
    refine ⟨h1, fun c2 f2 hd => ?_⟩
    rcases hD c2 f2 hd with hd | ⟨rfl, rfl⟩
    · exact h2 c2 f2 hd
    · have : ¬ wg p m e A c2 f2 < w := fun q => hw (Or.inl q)
      omega
  · obtain ⟨h1, h2, h3, h4, h5, h6, h7⟩ := h.2 bc bf q
    refine ⟨h1, h2, h3, h4, h5, hD2 _ _ h6, fun c2 f2 hd => ?_⟩
    rcases hD c2 f2 hd with hd | ⟨rfl, rfl⟩
    · exact h7 c2 f2 hd
    · have h8 : ¬ wg p m e A c2 f2 < w := fun q => hw (Or.inl q)
      refine ⟨by omega, fun q2 => ?_⟩
      have h9 := hc bc bf h6
      have : c2 = bc ∧ f2 < bf := by omega
      obtain ⟨rfl, hb⟩ := this
      have : ¬ wg p m e A c2 f2 = w := fun q3 => hw (Or.inr ⟨q3, bf, q, hb⟩)
      omega
theorem BI_ext {p m n S w : Nat} {e : Nat → Nat} {A : Nat → Nat → Nat} {D D' : Nat → Nat → Prop} {z : Option (Nat × Nat)} (h : BI p m n S e A D z w) (hD : ∀ c f, D' c f → D c f ∨ wtE m e ≤ wg p m e A c f) (hD2 : ∀ c f, D c f → D' c f) : BI p m n S e A D' z w := by
  refine ⟨fun q => ?_, fun bc bf q => ?_⟩
  · obtain ⟨h1, h2⟩ := h.1 q
    refine ⟨h1, fun c f hd => ?_⟩
    rcases hD c f hd with hd | hd
    · exact h2 c f hd
    · exact hd
  · obtain ⟨h1, h2, h3, h4, h5, h6, h7⟩ := h.2 bc bf q
    refine ⟨h1, h2, h3, h4, h5, hD2 _ _ h6, fun c f hd => ?_⟩
    rcases hD c f hd with hd | hd
    · exact h7 c f hd
    · exact ⟨by omega, fun _ => by omega⟩
/-- the best of all -/
def isBe (p m n S : Nat) (e : Nat → Nat) (A : Nat → Nat → Nat) (z : Option (Nat × Nat)) : Prop := ∃ w, BI p m n S e A (fun c f => c < n ∧ bt S c = 0 ∧ f < p) z w
theorem isBe_uniq {p m n S : Nat} {e : Nat → Nat} {A : Nat → Nat → Nat} {z z' : Option (Nat × Nat)} (h : isBe p m n S e A z) (h' : isBe p m n S e A z') : z = z' := by
  obtain ⟨w, h⟩ := h
  obtain ⟨w', h'⟩ := h'
  cases z with
  | none =>
    cases z' with
    | none => rfl
    | some y =>
      obtain ⟨a1, a2, a3, a4, a5, -, -⟩ := h'.2 y.1 y.2 rfl
      have := (h.1 rfl).2 y.1 y.2 ⟨a1, a2, a3⟩
      omega
  | some x =>
    obtain ⟨b1, b2, b3, b4, b5, -, b7⟩ := h.2 x.1 x.2 rfl
    cases z' with
    | none =>
      have := (h'.1 rfl).2 x.1 x.2 ⟨b1, b2, b3⟩
      omega
    | some y =>
      obtain ⟨a1, a2, a3, a4, a5, -, a7⟩ := h'.2 y.1 y.2 rfl
      have h1 := a7 x.1 x.2 ⟨b1, b2, b3⟩
      have h2 := b7 y.1 y.2 ⟨a1, a2, a3⟩
      have e1 : x.1 = y.1 := by
        rcases Nat.lt_trichotomy x.1 y.1 with q | q | q
        · have := h1.2 (Or.inl q); omega
        · exact q
        · have := h2.2 (Or.inl q); omega
      have e2 : x.2 = y.2 := by
        rcases Nat.lt_trichotomy x.2 y.2 with q | q | q
        · have := h1.2 (Or.inr ⟨e1, q⟩); omega
        · exact q
        · have := h2.2 (Or.inr ⟨e1.symm, q⟩); omega
      rw [show x = y from Prod.ext e1 e2]
/-- what the class keeps of the best -/
def RB (G : GS) (z : Option (Nat × Nat)) (w : Nat) : Prop := G 4 4 = nI w ∧ (z = none → G 4 2 = -1) ∧ ∀ bc bf, z = some (bc, bf) → G 4 2 = nI bc ∧ G 4 3 = nI bf ∧ bc < 12 ∧ bf < 100
theorem s_rwo {p m n i c f : Nat} {e : Nat → Nat} {G : GS} {P : Int32 → Prop} (hT : TI G p m n) (hi : i < m) (hc : c < n) (h15 : G 15 i = nI (e i)) (h : P (nI (offE p e (cA G) c f i))) : wX0_restWithout (nI i) (nI c) (nI f) G P := by
  have hp := isP_lt hT.1
  obtain ⟨-, ⟨hm0, hm⟩, ⟨hn0, hn⟩, ⟨a0, a1, a2⟩, -⟩ := id hT
  unfold wX0_restWithout
  rw [zc (by omega), zc (by omega), h15, (TI_A hT (i := i) (j := c) (by omega) (by omega)).2.1]
  exact ⟨vp_in_nI (by omega) (by omega), vp_in_nI (by omega) (by omega), vp_in_nI (by omega) (by omega), s_rem (p := p) (by omega) (by omega) a0 h⟩
theorem s_wei {p m n c f w : Nat} {e : Nat → Nat} {G : GS} {z : Option (Nat × Nat)} {P : GS → Prop} (hT : TI G p m n) (hc : c < n) (hf : f < p) (hw : w ≤ 6) (he : ∀ i, i < m → G 15 i = nI (e i)) (hR : RB G z w) (h1 : (wg p m e (cA G) c f < w ∨ (wg p m e (cA G) c f = w ∧ ∃ bf, z = some (c, bf) ∧ f < bf)) → ∀ G1 : GS, (∀ x, x ≠ 4 → G1 x = G x) → RB G1 (some (c, f)) (wg p m e (cA G) c f) → P G1) (h0 : ¬ (wg p m e (cA G) c f < w ∨ (wg p m e (cA G) c f = w ∧ ∃ bf, z = some (c, bf) ∧ f < bf)) → P G) : wX0_weigh (nI c) (nI f) G P := by
  have hp := isP_lt hT.1
  obtain ⟨-, ⟨hm0, hm⟩, ⟨hn0, hn⟩, ⟨a0, a1, a2⟩, -⟩ := id hT
  obtain ⟨r1, r2, r3⟩ := hR
  have set3 : ∀ G1 G2 G3 : GS, G1 = wr G 4 2 (nI c) → G2 = wr G1 4 3 (nI f) → G3 = wr G2 4 4 (nI (wg p m e (cA G) c f)) → (∀ x, x ≠ 4 → G3 x = G x) ∧ RB G3 (some (c, f)) (wg p m e (cA G) c f) := fun G1 G2 G3 e1 e2 e3 => by
    refine ⟨fun x hx => by rw [e3, wr_ne hx, e2, wr_ne hx, e1, wr_ne hx], by rw [e3, wr_ss], fun q => absurd q (by simp), fun bc bf q => ?_⟩
    have q1 : c = bc := congrArg Prod.fst (Option.some.inj q)
    have q2 : f = bf := congrArg Prod.snd (Option.some.inj q)
    subst q1
    subst q2
    exact ⟨by rw [e3, wr_sn (by omega), e2, wr_sn (by omega), e1, wr_ss], by rw [e3, wr_sn (by omega), e2, wr_ss], by omega, by omega⟩
  have hwg : wg p m e (cA G) c f ≤ m := wtE_le m _
  have key : ∀ k i, i + k = m → ∀ K : Int32 → Prop, K (nI (wg p m e (cA G) c f)) → wlX0_weigh_5 K (nI c) (nI f) G (k + 1) (nI (ctP (fun i => decide (offE p e (cA G) c f i ≠ 0)) i)) (nI i) := by
    intro k
    induction k with
    | zero =>
      intro i hi K hK
      have e : i = m := by omega
      subst e
      unfold wlX0_weigh_5
      rw [a1]
      exact ⟨fun _ => hK, fun h => absurd (Int32.le_refl _) h⟩
    | succ k ih =>
      intro i hi K hK
      have h1 := ih (i + 1) (by omega) K hK
      unfold wlX0_weigh_5
      rw [a1, z1, z1]
      refine ⟨fun h => absurd h (nI_ge (by omega) (by omega)), fun _ => s_rwo hT (by omega) hc (he i (by omega)) ?_⟩
      have hlt : offE p e (cA G) c f i < p := rmd_lt _ (by omega)
      rw [z_ne0 (by omega)]
      unfold ctP at h1
      simp only [decide_eq_true_eq] at h1
      refine ⟨fun q => ?_, fun q => ?_⟩
      · rw [if_neg (fun q2 => q2 q)] at h1; exact h1
      · rw [if_pos q] at h1; exact h1
  refine ⟨m + 1, key m 0 (by omega) _ ?_⟩
  rw [r1]
  have lt_iff : nI (wg p m e (cA G) c f) < nI w ↔ wg p m e (cA G) c f < w := nI_ltI (by omega) (by omega)
  have eq_iff : nI (wg p m e (cA G) c f) = nI w ↔ wg p m e (cA G) c f = w := nI_eq (by omega) (by omega)
  rw [lt_iff, eq_iff]
  have up := fun (hq : wg p m e (cA G) c f < w ∨ (wg p m e (cA G) c f = w ∧ ∃ bf, z = some (c, bf) ∧ f < bf)) (G1 : GS) (e1 : G1 = wr G 4 2 (nI c)) (G2 : GS) (e2 : G2 = wr G1 4 3 (nI f)) (G3 : GS) (e3 : G3 = wr G2 4 4 (nI (wg p m e (cA G) c f))) => h1 hq G3 (set3 G1 G2 G3 e1 e2 e3).1 (set3 G1 G2 G3 e1 e2 e3).2
  cases z with
  | none =>
    have r2' := r2 rfl
    have hne : ¬ nI c = G 4 2 := fun q => by
      rw [r2'] at q
      exact absurd (q ▸ nI_pos' (n := c) (by omega)) (by decide)
    refine ⟨fun _ => ⟨fun q => up (Or.inl q), fun q => ⟨fun q2 => h0 (fun q3 => ?_), fun q2 => ⟨fun _ => h0 (fun q3 => ?_), fun q3 => absurd rfl q3⟩⟩⟩, fun q => absurd q hne⟩
    · rcases q3 with q3 | ⟨q3, -⟩
      · exact q q3
      · exact q2 q3
    · rcases q3 with q3 | ⟨-, bf, q3, -⟩
      · exact q q3
      · exact absurd q3 (by simp)
  | some x =>
    obtain ⟨s1, s2, s3, s4⟩ := r3 x.1 x.2 rfl
    rw [s1, s2, nI_eq (by omega) (by omega), nI_leI (by omega) (by omega)]
    refine ⟨fun hne => ⟨fun q => up (Or.inl q), fun q => ⟨fun q2 => h0 (fun q3 => ?_), fun q2 => ⟨fun _ => h0 (fun q3 => ?_), fun q3 => absurd rfl q3⟩⟩⟩, fun heq => ⟨fun hle => ⟨fun q => up (Or.inl q), fun q => ⟨fun q2 => h0 (fun q3 => ?_), fun q2 => ⟨fun _ => h0 (fun q3 => ?_), fun q3 => absurd rfl q3⟩⟩⟩, fun hle => ⟨fun q => up (Or.inl q), fun q => ⟨fun q2 => h0 (fun q3 => ?_), fun q2 => ⟨fun q3 => absurd q3 (by decide), fun _ => up (Or.inr ⟨q2, x.2, by rw [heq], by omega⟩)⟩⟩⟩⟩⟩
    · rcases q3 with q3 | ⟨q3, -⟩
      · exact q q3
      · exact q2 q3
    · rcases q3 with q3 | ⟨-, bf, q3, -⟩
      · exact q q3
      · exact hne (congrArg Prod.fst (Option.some.inj q3)).symm
    · rcases q3 with q3 | ⟨q3, -⟩
      · exact q q3
      · exact q2 q3
    · rcases q3 with q3 | ⟨-, bf, q3, q4⟩
      · exact q q3
      · have : x.2 = bf := congrArg Prod.snd (Option.some.inj q3)
        omega
    · rcases q3 with q3 | ⟨q3, -⟩
      · exact q q3
      · exact q2 q3
theorem s_cho {p m n S : Nat} [NeZero p] {e : Nat → Nat} {G : GS} {P : GS → Prop} (hT : TI G p m n) (hS : S < 2 ^ 12) (he : ∀ i, i < m → e i < p ∧ G 15 i = nI (e i)) (hK : ∀ (G1 : GS) z, (∀ x, x ≠ 4 → G1 x = G x) → isBe p m n S e (cA G) z → (z = none → G1 4 2 = -1) → (∀ bc bf, z = some (bc, bf) → G1 4 2 = nI bc ∧ G1 4 3 = nI bf ∧ G1 4 4 = nI (wg p m e (cA G) bc bf)) → P G1) : wX0_choose (nI S) (nI (wtE m e)) G P := by
  have hp := isP_lt hT.1
  obtain ⟨-, ⟨hm0, hm⟩, ⟨hn0, hn⟩, ⟨a0, a1, a2⟩, -, -, hv⟩ := id hT
  have hW := wtE_le m e
  have hA : ∀ i c, i < m → c < n → cA G i c < p := fun i c hi hc => (TI_A hT (by omega) (by omega)).1
  intro G1 e1 G2 e2 G3 e3
  have fr3 : ∀ x, x ≠ 4 → G3 x = G x := fun x hx => by rw [e3, wr_ne hx, e2, wr_ne hx, e1, wr_ne hx]
  -- one column
  have rows : ∀ c, c < n → bt S c = 0 → ∀ k i z w (G4 : GS) (K : GS → Prop), i + k = m → (∀ x, x ≠ 4 → G4 x = G x) → RB G4 z w → BI p m n S e (cA G) (fun c2 f => c2 < n ∧ bt S c2 = 0 ∧ f < p ∧ (c2 < c ∨ (c2 = c ∧ ∃ i2, i2 < i ∧ e i2 ≠ 0 ∧ cA G i2 c ≠ 0 ∧ (f * cA G i2 c) % p = e i2))) z w → (∀ (G5 : GS) z w, (∀ x, x ≠ 4 → G5 x = G x) → RB G5 z w → BI p m n S e (cA G) (fun c2 f => c2 < n ∧ bt S c2 = 0 ∧ f < p ∧ c2 < c + 1) z w → K G5) → wlX0_choose_31 K (nI S) (nI c) (k + 1) (nI i) G4 := by
    intro c hc hSc k
    induction k with
    | zero =>
      intro i z w G4 K hi f1 f2 f3 hK2
      have ei : i = m := by omega
      subst ei
      unfold wlX0_choose_31
      rw [f1 1 (by omega), a1]
      refine ⟨fun _ => hK2 G4 z w f1 f2 (BI_ext f3 (fun c2 f hd => ?_) (fun c2 f hd => ⟨hd.1, hd.2.1, hd.2.2.1, by omega⟩)), fun h => absurd (Int32.le_refl _) h⟩
      by_cases ec : c2 = c
      · subst ec
        by_cases hq : ∃ i2, i2 < i ∧ e i2 ≠ 0 ∧ cA G i2 c2 ≠ 0 ∧ (f * cA G i2 c2) % p = e i2
        · exact Or.inl ⟨hd.1, hd.2.1, hd.2.2.1, Or.inr ⟨rfl, hq⟩⟩
        · exact Or.inr (no_cand hp.2 (fun i2 h2 => (he i2 h2).1) (fun i2 h2 => hA i2 c2 h2 hc) hd.2.2.1 (fun i2 h2 q1 q2 q3 => hq ⟨i2, h2, q1, q2, q3⟩))
      · exact Or.inl ⟨hd.1, hd.2.1, hd.2.2.1, by omega⟩
    | succ k ih =>
      intro i z w G4 K hi f1 f2 f3 hK2
      have hT4 : TI G4 p m n := TI_fr (fun x hx => f1 x (by omega)) hT
      have hcA : ∀ i c, cA G4 i c = cA G i c := fun i c => by unfold cA; rw [f1 _ (by omega)]
      obtain ⟨t1, t2⟩ := he i (by omega)
      have hAi := TI_A hT (i := i) (j := c) (by omega) (by omega)
      have skip : (¬ (e i ≠ 0 ∧ cA G i c ≠ 0)) → wlX0_choose_31 K (nI S) (nI c) (k + 1) (nI (i + 1)) G4 := fun hno => by
        refine ih (i + 1) z w G4 K (by omega) f1 f2 (BI_ext f3 (fun c2 f hd => Or.inl ⟨hd.1, hd.2.1, hd.2.2.1, ?_⟩) (fun c2 f hd => ⟨hd.1, hd.2.1, hd.2.2.1, ?_⟩)) hK2
        · rcases hd.2.2.2 with q | ⟨q, i2, j1, j2, j3, j4⟩
          · exact Or.inl q
          · by_cases ei : i2 = i
            · subst ei; exact absurd ⟨j2, j3⟩ hno
            · exact Or.inr ⟨q, i2, by omega, j2, j3, j4⟩
        · rcases hd.2.2.2 with q | ⟨q, i2, j1, j2⟩
          · exact Or.inl q
          · exact Or.inr ⟨q, i2, by omega, j2⟩
      unfold wlX0_choose_31
      rw [f1 1 (by omega), a1, bt_I (by omega) (by omega), z_ne0 (by have := bt_lt S c; omega), zc (by omega), zc (by omega), f1 15 (by omega), t2, f1 (32 + i) (by omega), hAi.2.1, z_ne0 (by omega), z_ne0 (by omega), z1]
      refine ⟨fun h => absurd h (nI_ge (by omega) (by omega)), fun _ => ⟨fun q => absurd hSc q, fun _ => ⟨vp_in_nI (by omega) (by omega), fun q => skip (fun q2 => q2.1 q), fun q1 => ⟨vp_in_nI (by omega) (by omega), vp_in_nI (by omega) (by omega), fun q => skip (fun q2 => q2.2 q), fun q2 => ⟨vp_in_nI (by omega) (by omega), vp_in_nI (by omega) (by omega), vp_in_nI (by omega) (by omega), ?_⟩⟩⟩⟩⟩
      refine s_quo hT4 t1 hAi.1 q2 (fun cc hcc hcc1 => ?_)
      have hf : (e i * cc) % p < p := Nat.mod_lt _ (by omega)
      have hfo := quo_mul t1 hcc1
      have huq : ∀ f2, f2 < p → (f2 * cA G i c) % p = e i → f2 = (e i * cc) % p := fun f2 h1 h2 => (quo_uniq h1 hcc1 h2).symm
      generalize (e i * cc) % p = f at hf hfo huq
      have hD : ∀ c2 f2, (c2 < n ∧ bt S c2 = 0 ∧ f2 < p ∧ (c2 < c ∨ (c2 = c ∧ ∃ i2, i2 < i + 1 ∧ e i2 ≠ 0 ∧ cA G i2 c ≠ 0 ∧ (f2 * cA G i2 c) % p = e i2))) → (c2 < n ∧ bt S c2 = 0 ∧ f2 < p ∧ (c2 < c ∨ (c2 = c ∧ ∃ i2, i2 < i ∧ e i2 ≠ 0 ∧ cA G i2 c ≠ 0 ∧ (f2 * cA G i2 c) % p = e i2))) ∨ (c2 = c ∧ f2 = f) := fun c2 f2 hd => by
        rcases hd.2.2.2 with q | ⟨q, i2, j1, j2, j3, j4⟩
        · exact Or.inl ⟨hd.1, hd.2.1, hd.2.2.1, Or.inl q⟩
        · by_cases ei : i2 = i
          · subst ei
            exact Or.inr ⟨q, huq f2 hd.2.2.1 j4⟩
          · exact Or.inl ⟨hd.1, hd.2.1, hd.2.2.1, Or.inr ⟨q, i2, by omega, j2, j3, j4⟩⟩
      have hD2 : ∀ c2 f2, (c2 < n ∧ bt S c2 = 0 ∧ f2 < p ∧ (c2 < c ∨ (c2 = c ∧ ∃ i2, i2 < i ∧ e i2 ≠ 0 ∧ cA G i2 c ≠ 0 ∧ (f2 * cA G i2 c) % p = e i2))) → (c2 < n ∧ bt S c2 = 0 ∧ f2 < p ∧ (c2 < c ∨ (c2 = c ∧ ∃ i2, i2 < i + 1 ∧ e i2 ≠ 0 ∧ cA G i2 c ≠ 0 ∧ (f2 * cA G i2 c) % p = e i2))) := fun c2 f2 hd => by
        rcases hd.2.2.2 with q | ⟨q, i2, j1, j2⟩
        · exact ⟨hd.1, hd.2.1, hd.2.2.1, Or.inl q⟩
        · exact ⟨hd.1, hd.2.1, hd.2.2.1, Or.inr ⟨q, i2, by omega, j2⟩⟩
      have hwl := BI_le f3
      have wge : wg p m e (cA G4) c f = wg p m e (cA G) c f := by
        have : cA G4 = cA G := by funext i c; exact hcA i c
        rw [this]
      refine s_wei (e := e) (z := z) (w := w) hT4 hc hf (by omega) (fun i2 h2 => by rw [f1 15 (by omega)]; exact (he i2 h2).2) f2 (fun hu G5 g1 g2 => ?_) (fun hu => ?_)
      · rw [wge] at hu g2
        exact ih (i + 1) _ _ G5 K (by omega) (fun x hx => by rw [g1 x hx, f1 x hx]) g2 (BI_up f3 hc hSc hf hu hD ⟨hc, hSc, hf, Or.inr ⟨rfl, i, by omega, q1, q2, hfo⟩⟩) hK2
      · rw [wge] at hu
        exact ih (i + 1) z w G4 K (by omega) f1 f2 (BI_keep f3 hu (fun c2 f2 hd => by rcases hd.2.2.2 with q | q <;> omega) hD hD2) hK2
  have cols : ∀ k c z w (G4 : GS), c + k = n → (∀ x, x ≠ 4 → G4 x = G x) → RB G4 z w → BI p m n S e (cA G) (fun c2 f => c2 < n ∧ bt S c2 = 0 ∧ f < p ∧ c2 < c) z w → wlX0_choose_17 (fun G1 => P G1) (nI S) (k + 1) (nI c) G4 := by
    intro k
    induction k with
    | zero =>
      intro c z w G4 hc f1 f2 f3
      have ec : c = n := by omega
      subst ec
      unfold wlX0_choose_17
      rw [f1 1 (by omega), a2]
      refine ⟨fun _ => hK G4 z f1 ⟨w, BI_ext f3 (fun c2 f hd => Or.inl ⟨hd.1, hd.2.1, hd.2.2, hd.1⟩) (fun c2 f hd => ⟨hd.1, hd.2.1, hd.2.2.1⟩)⟩ f2.2.1 (fun bc bf q => ?_), fun h => absurd (Int32.le_refl _) h⟩
      have := f2.2.2 bc bf q
      have hw := (f3.2 bc bf q).2.2.2.1
      exact ⟨this.1, this.2.1, by rw [f2.1, hw]⟩
    | succ k ih =>
      intro c z w G4 hc f1 f2 f3
      unfold wlX0_choose_17
      rw [f1 1 (by omega), a2]
      refine ⟨fun h => absurd h (nI_ge (by omega) (by omega)), fun _ => ?_⟩
      rw [z1]
      by_cases hSc : bt S c = 0
      · refine ⟨m + 1, rows c (by omega) hSc m 0 z w G4 _ (by omega) f1 f2 (BI_ext f3 (fun c2 f hd => Or.inl ⟨hd.1, hd.2.1, hd.2.2.1, ?_⟩) (fun c2 f hd => ⟨hd.1, hd.2.1, hd.2.2.1, Or.inl hd.2.2.2⟩)) (fun G5 z5 w5 g1 g2 g3 => ih (c + 1) z5 w5 G5 (by omega) g1 g2 g3)⟩
        rcases hd.2.2.2 with q | ⟨-, i2, q, -⟩
        · exact q
        · exact absurd q (Nat.not_lt_zero _)
      · refine ⟨1, ?_⟩
        unfold wlX0_choose_31
        rw [bt_I (by omega) (by omega), z_ne0 (by have := bt_lt S c; omega)]
        have fin : wlX0_choose_17 (fun G1 => P G1) (nI S) (k + 1) (nI (c + 1)) G4 := ih (c + 1) z w G4 (by omega) f1 f2 (BI_ext f3 (fun c2 f hd => Or.inl ⟨hd.1, hd.2.1, hd.2.2.1, by
          rcases Nat.lt_or_ge c2 c with q | q
          · exact q
          · have : c2 = c := by have := hd.2.2.2; omega
            exact absurd (this ▸ hd.2.1) hSc⟩) (fun c2 f hd => ⟨hd.1, hd.2.1, hd.2.2.1, by have := hd.2.2.2; omega⟩))
        exact ⟨fun _ => fin, fun _ => ⟨fun _ => fin, fun q => absurd q hSc⟩⟩
  refine ⟨n + 1, cols n 0 none (wtE m e) G3 (by omega) fr3 ⟨by rw [e3, wr_ss], fun _ => by rw [e3, wr_sn (by omega), e2, wr_sn (by omega), e1, wr_ss], fun bc bf q => absurd q (by simp)⟩ ⟨fun _ => ⟨rfl, fun c f hd => absurd hd.2.2.2 (Nat.not_lt_zero _)⟩, fun bc bf q => absurd q (by simp)⟩⟩
theorem s_off {p m n c f : Nat} {e : Nat → Nat} {G : GS} {P : GS → Prop} (hT : TI G p m n) (hc : c < n) (he : ∀ i, i < m → G 15 i = nI (e i)) (h2 : G 4 2 = nI c) (h3 : G 4 3 = nI f) (hK : ∀ G1 : GS, (∀ x, x ≠ 15 → G1 x = G x) → (∀ i, i < m → G1 15 i = nI (offE p e (cA G) c f i)) → P G1) : wX0_takeOff G P := by
  obtain ⟨-, ⟨hm0, hm⟩, ⟨hn0, hn⟩, ⟨a0, a1, a2⟩, -⟩ := id hT
  have key : ∀ k i (G1 : GS), i + k = m → (∀ x, x ≠ 15 → G1 x = G x) → (∀ j, j < i → G1 15 j = nI (offE p e (cA G) c f j)) → (∀ j, i ≤ j → j < m → G1 15 j = nI (e j)) → wlX0_takeOff_2 (fun G1 => P G1) (k + 1) (nI i) G1 := by
    intro k
    induction k with
    | zero =>
      intro i G1 hi f1 f2 f3
      have ei : i = m := by omega
      subst ei
      unfold wlX0_takeOff_2
      rw [f1 1 (by omega), a1]
      exact ⟨fun _ => hK G1 f1 f2, fun h => absurd (Int32.le_refl _) h⟩
    | succ k ih =>
      intro i G1 hi f1 f2 f3
      have hT1 : TI G1 p m n := TI_fr (fun x hx => f1 x (by omega)) hT
      have hcA : cA G1 = cA G := by funext i c; unfold cA; rw [f1 _ (by omega)]
      unfold wlX0_takeOff_2
      rw [f1 1 (by omega), a1, f1 4 (by omega), h2, h3]
      refine ⟨fun h => absurd h (nI_ge (by omega) (by omega)), fun _ => s_rwo hT1 (by omega) hc (f3 i (Nat.le_refl _) (by omega)) ⟨vp_in_nI (by omega) (by omega), fun G2 e2 => ?_⟩⟩
      rw [zc (by omega), hcA] at e2
      rw [z1]
      refine ih (i + 1) G2 (by omega) (fun x hx => by rw [e2, wr_ne hx, f1 x hx]) (fun j hj => ?_) (fun j h4 h5 => by rw [e2, wr_sn (by omega)]; exact f3 j (by omega) h5)
      by_cases ej : j = i
      · rw [ej, e2, wr_ss]
      · rw [e2, wr_sn ej]; exact f2 j (by omega)
  exact ⟨m + 1, key m 0 G (by omega) (fun _ _ => rfl) (fun j hj => by omega) (fun j _ hj => he j hj)⟩
