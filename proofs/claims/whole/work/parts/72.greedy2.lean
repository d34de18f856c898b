/-! PURE PART: greedy, the model's turn and the walk -/
theorem s_wiM {p m n c f : Nat} {e : Nat → Nat} {A : Nat → Nat → Nat} {G : GS} {P : Int32 → Prop} (hT : TI G p m n) (hA : ∀ i c, i < m → c < n → G 46 (12 * i + c) = nI (A i c)) (hc : c < n) (he : ∀ i, i < m → G 55 i = nI (e i)) (h : P (nI (wg p m e A c f))) : wX6_without (nI c) (nI f) G P := by
  have hp := isP_lt hT.1
  obtain ⟨-, ⟨hm0, hm⟩, ⟨hn0, hn⟩, -, ⟨b0, b1, b2⟩, -⟩ := id hT
  have key : ∀ k i, i + k = m → wlX6_without_5 (fun x => P x) (nI c) (nI f) G (k + 1) (nI (ctP (fun i => decide (offE p e A c f i ≠ 0)) i)) (nI i) := by
    intro k
    induction k with
    | zero =>
      intro i hi
      have ei : i = m := by omega
      subst ei
      unfold wlX6_without_5
      rw [b1]
      exact ⟨fun _ => h, fun h => absurd (Int32.le_refl _) h⟩
    | succ k ih =>
      intro i hi
      have h1 := ih (i + 1) (by omega)
      unfold wlX6_without_5
      rw [b1, i12, zc (by omega), zc (by omega), he i (by omega), hA i c (by omega) hc, z1, z1]
      refine ⟨fun h => absurd h (nI_ge (by omega) (by omega)), fun _ => ⟨vp_in_nI (by omega) (by omega), vp_in_nI (by omega) (by omega), s_by (p := p) (by omega) (by omega) b0 ?_⟩⟩
      have hlt : offE p e A c f i < p := rmd_lt _ (by omega)
      show (¬ nI (offE p e A c f i) = 0 → _) ∧ (nI (offE p e A c f i) = 0 → _)
      rw [z_ne0 (by omega)]
      unfold ctP at h1
      simp only [decide_eq_true_eq] at h1
      refine ⟨fun q x ex => ?_, fun q x ex => ?_⟩
      · rw [if_pos q] at h1
        rw [ex]; exact h1
      · rw [if_neg (fun q2 => q2 q)] at h1
        rw [ex, show nI (ctP (fun i => decide (offE p e A c f i ≠ 0)) i) + (0 : Int32) = nI (ctP (fun i => decide (offE p e A c f i ≠ 0)) i) from nI_add _ 0]; exact h1
  exact ⟨m + 1, key m 0 (by omega)⟩
def RM (z : Option (Nat × Nat)) (w : Nat) (v8 v9 v10 : Int32) : Prop := v10 = nI w ∧ (z = none → v8 = -1) ∧ ∀ bc bf, z = some (bc, bf) → v8 = nI bc ∧ v9 = nI bf
theorem s_choM {p m n S : Nat} {e : Nat → Nat} {A : Nat → Nat → Nat} {G : GS} {v1 v3 v4 v7 : Int32} {K : Int32 → Int32 → Int32 → Prop} (hT : TI G p m n) (hA : ∀ i c, i < m → c < n → G 46 (12 * i + c) = nI (A i c)) (hS : S < 2 ^ 12) (he : ∀ i, i < m → G 55 i = nI (e i)) (hK : ∀ z v8 v9 v10, isBe p m n S e A z → (z = none → v8 = -1) → (∀ bc bf, z = some (bc, bf) → v8 = nI bc ∧ v9 = nI bf ∧ v10 = nI (wg p m e A bc bf)) → K v8 v9 v10) : ∃ z, wlX6_greedy_147 K v1 v3 v4 (nI S) v7 G z (-1) 0 (nI (wtE m e)) 0 := by
  have hp := isP_lt hT.1
  obtain ⟨-, ⟨hm0, hm⟩, ⟨hn0, hn⟩, -, ⟨b0, b1, b2⟩, -⟩ := id hT
  have hW := wtE_le m e
  have facs : ∀ c, c < n → bt S c = 0 → ∀ k f z w v8 v9 v10 (K : Int32 → Int32 → Int32 → Prop), f + k = p → RM z w v8 v9 v10 → BI p m n S e A (fun c2 f2 => c2 < n ∧ bt S c2 = 0 ∧ f2 < p ∧ (c2 < c ∨ (c2 = c ∧ f2 < f))) z w → (∀ z w v8 v9 v10, RM z w v8 v9 v10 → BI p m n S e A (fun c2 f2 => c2 < n ∧ bt S c2 = 0 ∧ f2 < p ∧ c2 < c + 1) z w → K v8 v9 v10) → wlX6_greedy_159 K v1 v3 v4 (nI S) v7 (nI c) G (k + 1) v8 v9 v10 (nI f) := by
    intro c hc hSc k
    induction k with
    | zero =>
      intro f z w v8 v9 v10 K hf r1 r2 hK2
      have ef : f = p := by omega
      subst ef
      unfold wlX6_greedy_159
      rw [b0]
      refine ⟨fun _ => hK2 z w v8 v9 v10 r1 (BI_ext r2 (fun c2 f2 hd => Or.inl ⟨hd.1, hd.2.1, hd.2.2.1, by have := hd.2.2; omega⟩) (fun c2 f2 hd => ⟨hd.1, hd.2.1, hd.2.2.1, by have := hd.2.2; omega⟩)), fun h => absurd (Int32.le_refl _) h⟩
    | succ k ih =>
      intro f z w v8 v9 v10 K hf r1 r2 hK2
      have hwl := BI_le r2
      have hwg : wg p m e A c f ≤ m := wtE_le m _
      have hD : ∀ c2 f2, (c2 < n ∧ bt S c2 = 0 ∧ f2 < p ∧ (c2 < c ∨ (c2 = c ∧ f2 < f + 1))) → (c2 < n ∧ bt S c2 = 0 ∧ f2 < p ∧ (c2 < c ∨ (c2 = c ∧ f2 < f))) ∨ (c2 = c ∧ f2 = f) := fun c2 f2 hd => by
        by_cases q : c2 = c ∧ f2 = f
        · exact Or.inr q
        · exact Or.inl ⟨hd.1, hd.2.1, hd.2.2.1, by have := hd.2.2.2; omega⟩
      unfold wlX6_greedy_159
      rw [b0, bt_I (by omega) (by omega), z_ne0 (by have := bt_lt S c; omega), r1.1, z1]
      refine ⟨fun h => absurd h (nI_ge (by omega) (by omega)), fun _ => ⟨fun q => absurd hSc q, fun _ => s_wiM hT hA hc he ?_⟩⟩
      rw [nI_leI (by omega) (by omega)]
      refine ⟨fun q => ?_, fun q => s_wiM hT hA hc he ?_⟩
      · have := ih (f + 1) z w v8 v9 v10 K (by omega) r1 (BI_keep r2 (c := c) (f := f) (fun q2 => ?_) (fun c2 f2 hd => by have := hd.2.2; omega) hD (fun c2 f2 hd => ⟨hd.1, hd.2.1, hd.2.2.1, by have := hd.2.2; omega⟩)) hK2
        · rw [r1.1] at this; exact this
        · rcases q2 with q2 | ⟨-, bf, q2, q3⟩
          · omega
          · have := (r2.2 c bf q2).2.2.2.2.2.1.2.2.2
            omega
      · refine ih (f + 1) (some (c, f)) (wg p m e A c f) (nI c) (nI f) _ K (by omega) ⟨rfl, fun q2 => absurd q2 (by simp), fun bc bf q2 => ?_⟩ (BI_up r2 hc hSc (by omega) (Or.inl (by omega)) hD ⟨hc, hSc, by omega, Or.inr ⟨rfl, by omega⟩⟩) hK2
        have q3 : c = bc := congrArg Prod.fst (Option.some.inj q2)
        have q4 : f = bf := congrArg Prod.snd (Option.some.inj q2)
        rw [q3, q4]
        exact ⟨rfl, rfl⟩
  have cols : ∀ k c z w v8 v9 v10, c + k = n → RM z w v8 v9 v10 → BI p m n S e A (fun c2 f => c2 < n ∧ bt S c2 = 0 ∧ f < p ∧ c2 < c) z w → wlX6_greedy_147 K v1 v3 v4 (nI S) v7 G (k + 1) v8 v9 v10 (nI c) := by
    intro k
    induction k with
    | zero =>
      intro c z w v8 v9 v10 hc r1 r2
      have ec : c = n := by omega
      subst ec
      unfold wlX6_greedy_147
      rw [b2]
      refine ⟨fun _ => hK z v8 v9 v10 ⟨w, BI_ext r2 (fun c2 f hd => Or.inl ⟨hd.1, hd.2.1, hd.2.2, hd.1⟩) (fun c2 f hd => ⟨hd.1, hd.2.1, hd.2.2.1⟩)⟩ r1.2.1 (fun bc bf q => ?_), fun h => absurd (Int32.le_refl _) h⟩
      have hw := (r2.2 bc bf q).2.2.2.1
      exact ⟨(r1.2.2 bc bf q).1, (r1.2.2 bc bf q).2, by rw [r1.1, hw]⟩
    | succ k ih =>
      intro c z w v8 v9 v10 hc r1 r2
      unfold wlX6_greedy_147
      rw [b2]
      refine ⟨fun h => absurd h (nI_ge (by omega) (by omega)), fun _ => ?_⟩
      rw [z1]
      by_cases hSc : bt S c = 0
      · exact ⟨p + 1, facs c (by omega) hSc p 0 z w v8 v9 v10 _ (by omega) r1 (BI_ext r2 (fun c2 f hd => Or.inl ⟨hd.1, hd.2.1, hd.2.2.1, by have := hd.2.2; omega⟩) (fun c2 f hd => ⟨hd.1, hd.2.1, hd.2.2.1, Or.inl hd.2.2.2⟩)) (fun z5 w5 u8 u9 u10 g2 g3 => ih (c + 1) z5 w5 u8 u9 u10 (by omega) g2 g3)⟩
      · refine ⟨1, ?_⟩
        unfold wlX6_greedy_159
        rw [bt_I (by omega) (by omega), z_ne0 (by have := bt_lt S c; omega)]
        have fin : wlX6_greedy_147 K v1 v3 v4 (nI S) v7 G (k + 1) v8 v9 v10 (nI (c + 1)) := ih (c + 1) z w v8 v9 v10 (by omega) r1 (BI_ext r2 (fun c2 f hd => Or.inl ⟨hd.1, hd.2.1, hd.2.2.1, by
          rcases Nat.lt_or_ge c2 c with q | q
          · exact q
          · have : c2 = c := by have := hd.2.2.2; omega
            exact absurd (this ▸ hd.2.1) hSc⟩) (fun c2 f hd => ⟨hd.1, hd.2.1, hd.2.2.1, by have := hd.2.2.2; omega⟩))
        exact ⟨fun _ => fin, fun _ => ⟨fun _ => fin, fun q => absurd q hSc⟩⟩
  exact ⟨n + 1, cols n 0 none (wtE m e) (-1) 0 _ (by omega) ⟨rfl, fun _ => rfl, fun bc bf q => absurd q (by simp)⟩ ⟨fun _ => ⟨rfl, fun c f hd => absurd hd.2.2.2 (Nat.not_lt_zero _)⟩, fun bc bf q => absurd q (by simp)⟩⟩
theorem gB_ex (p m n S : Nat) (e : Nat → Nat) (A : Nat → Nat → Nat) : ∃ y : Option (Nat × Nat), ∀ z, isBe p m n S e A z → y = z := by
  by_cases h : ∃ z, isBe p m n S e A z
  · obtain ⟨y, hy⟩ := h
    exact ⟨y, fun z hz => isBe_uniq hy hz⟩
  · exact ⟨none, fun z hz => absurd ⟨z, hz⟩ h⟩
noncomputable def gB (p m n S : Nat) (e : Nat → Nat) (A : Nat → Nat → Nat) : Option (Nat × Nat) := Classical.choose (gB_ex p m n S e A)
theorem gB_is {p m n S : Nat} {e : Nat → Nat} {A : Nat → Nat → Nat} {z : Option (Nat × Nat)} (h : isBe p m n S e A z) : gB p m n S e A = z := Classical.choose_spec (gB_ex p m n S e A) z h
def gS (p : Nat) (A : Nat → Nat → Nat) (s : (Nat → Nat) × Nat × (Nat → Nat)) : Option (Nat × Nat) → (Nat → Nat) × Nat × (Nat → Nat)
  | none => s
  | some (bc, bf) => (offE p s.1 A bc bf, s.2.1 ||| 2 ^ bc, fun c => if c = bc then bf else s.2.2 c)
noncomputable def gW (p m n : Nat) (A : Nat → Nat → Nat) (e : Nat → Nat) : Nat → (Nat → Nat) × Nat × (Nat → Nat)
  | 0 => (e, 0, fun _ => 0)
  | t + 1 => gS p A (gW p m n A e t) (gB p m n (gW p m n A e t).2.1 (gW p m n A e t).1 A)
/-- what stays true of a state of the walk -/
def gOk (p m n : Nat) (s : (Nat → Nat) × Nat × (Nat → Nat)) : Prop := (∀ i, i < m → s.1 i < p) ∧ s.2.1 < 2 ^ 12 ∧ (∀ c, c < 12 → s.2.2 c < p) ∧ ∀ c, n ≤ c → s.2.2 c = 0
theorem gOk_S {p m n bc bf : Nat} {A : Nat → Nat → Nat} {s : (Nat → Nat) × Nat × (Nat → Nat)} (hp : 0 < p) (hn : n ≤ 12) (h : gOk p m n s) (hb : bc < n) (hf : bf < p) : gOk p m n (gS p A s (some (bc, bf))) := by
  obtain ⟨h1, h2, h3, h4⟩ := h
  refine ⟨fun i _ => rmd_lt _ hp, Nat.or_lt_two_pow h2 (Nat.pow_lt_pow_right (by omega) (by omega)), fun c hc => ?_, fun c hc => ?_⟩
  · show (if c = bc then bf else s.2.2 c) < p
    by_cases e : c = bc
    · rw [if_pos e]; exact hf
    · rw [if_neg e]; exact h3 c hc
  · show (if c = bc then bf else s.2.2 c) = 0
    rw [if_neg (by omega)]; exact h4 c hc
theorem nI_or2 {S bc : Nat} (h : bc < 31) : nI S ||| ((1 : Int32) <<< (nI bc &&& (31 : Int32))) = nI (S ||| 2 ^ bc) := by
  rw [sh_I h]
  apply Int32.toBitVec_inj.mp
  rw [Int32.toBitVec_or]
  show BitVec.ofNat 32 S ||| BitVec.ofNat 32 (2 ^ bc) = BitVec.ofNat 32 (S ||| 2 ^ bc)
  rw [BitVec.ofNat_or]
theorem gW_N (p m n k : Nat) (A : Nat → Nat → Nat) (e : Nat → Nat) : ∃ N, N ≤ k ∧ (∀ t, t < N → wtE m (gW p m n A e t).1 ≠ 0 ∧ gB p m n (gW p m n A e t).2.1 (gW p m n A e t).1 A ≠ none) ∧ (N = k ∨ wtE m (gW p m n A e N).1 = 0 ∨ gB p m n (gW p m n A e N).2.1 (gW p m n A e N).1 A = none) := by
  obtain ⟨N, h1, h2⟩ := pk_least (fun t => t = k ∨ wtE m (gW p m n A e t).1 = 0 ∨ gB p m n (gW p m n A e t).2.1 (gW p m n A e t).1 A = none) ⟨k, Or.inl rfl⟩
  refine ⟨N, ?_, fun t ht => ?_, h1⟩
  · rcases Nat.lt_or_ge k N with q | q
    · exact absurd (Or.inl rfl) (h2 k q)
    · exact q
  · exact ⟨fun q => h2 t ht (Or.inr (Or.inl q)), fun q => h2 t ht (Or.inr (Or.inr q))⟩
theorem s_wkX {p m n r k N : Nat} [NeZero p] {e0 : Nat → Nat} {G : GS} {K : Int32 → GS → Prop} (hT : TI G p m n) (hr : r < 6) (hk : k ≤ 8) (hN : N ≤ k) (hN1 : ∀ t, t < N → wtE m (gW p m n (cA G) e0 t).1 ≠ 0 ∧ gB p m n (gW p m n (cA G) e0 t).2.1 (gW p m n (cA G) e0 t).1 (cA G) ≠ none) (hN2 : N = k ∨ wtE m (gW p m n (cA G) e0 N).1 = 0 ∨ gB p m n (gW p m n (cA G) e0 N).2.1 (gW p m n (cA G) e0 N).1 (cA G) = none) (hK : ∀ G1 : GS, (∀ x, x ≠ 4 → x ≠ 15 → x ≠ 20 + r → G1 x = G x) → gOk p m n (gW p m n (cA G) e0 N) → (∀ c, c < 12 → G1 (20 + r) c = nI ((gW p m n (cA G) e0 N).2.2 c)) → K (nI (wtE m (gW p m n (cA G) e0 N).1)) G1) : ∀ f t (G1 : GS), t + f = N → (∀ x, x ≠ 4 → x ≠ 15 → x ≠ 20 + r → G1 x = G x) → gOk p m n (gW p m n (cA G) e0 t) → (∀ i, i < m → G1 15 i = nI ((gW p m n (cA G) e0 t).1 i)) → (∀ c, c < 12 → G1 (20 + r) c = nI ((gW p m n (cA G) e0 t).2.2 c)) → wlX0_walk_27 K K (nI k) (20 + r) (f + 1) (nI (gW p m n (cA G) e0 t).2.1) (nI (wtE m (gW p m n (cA G) e0 t).1)) (nI t) G1 := by
  have hp := isP_lt hT.1
  obtain ⟨-, ⟨hm0, hm⟩, ⟨hn0, hn⟩, ⟨a0, a1, a2⟩, -⟩ := id hT
  have cho : ∀ t (G1 : GS) (Q : GS → Prop), (∀ x, x ≠ 4 → x ≠ 15 → x ≠ 20 + r → G1 x = G x) → gOk p m n (gW p m n (cA G) e0 t) → (∀ i, i < m → G1 15 i = nI ((gW p m n (cA G) e0 t).1 i)) → (∀ (G2 : GS) z, (∀ x, x ≠ 4 → G2 x = G1 x) → isBe p m n (gW p m n (cA G) e0 t).2.1 (gW p m n (cA G) e0 t).1 (cA G) z → (z = none → G2 4 2 = -1) → (∀ bc bf, z = some (bc, bf) → G2 4 2 = nI bc ∧ G2 4 3 = nI bf ∧ G2 4 4 = nI (wg p m (gW p m n (cA G) e0 t).1 (cA G) bc bf)) → Q G2) → wX0_choose (nI (gW p m n (cA G) e0 t).2.1) (nI (wtE m (gW p m n (cA G) e0 t).1)) G1 Q := by
    intro t G1 Q f1 f2 f3 hQ
    have hT1 : TI G1 p m n := TI_fr (fun x hx => f1 x (by omega) (by omega) (by omega)) hT
    have hcA : cA G1 = cA G := by funext i c; unfold cA; rw [f1 _ (by omega) (by omega) (by omega)]
    refine s_cho hT1 f2.2.1 (fun i hi => ⟨f2.1 i hi, f3 i hi⟩) (fun G2 z g1 g2 g3 g4 => ?_)
    rw [hcA] at g2
    exact hQ G2 z g1 g2 g3 (fun bc bf q => by have := g4 bc bf q; rw [hcA] at this; exact this)
  intro f
  induction f with
  | zero =>
    intro t G1 ht f1 f2 f3 f4
    have et : t = N := by omega
    subst et
    have hh := hK G1 f1 f2 f4
    refine ⟨fun _ => hh, fun q => ⟨fun _ => hh, fun q2 => cho t G1 _ f1 f2 f3 (fun G2 z g1 g2 g3 g4 => ?_)⟩⟩
    have hW := wtE_le m (gW p m n (cA G) e0 t).1
    have hz : z = none := by
      rcases hN2 with h | h | h
      · exact absurd (nI_le (show k ≤ t by omega) (by omega)) q
      · exact absurd (by rw [h]; exact Int32.le_refl _) q2
      · rw [← gB_is g2]; exact h
    rw [g3 hz]
    refine ⟨fun q3 => absurd q3 (by decide), fun _ => hK G2 (fun x a b c => by rw [g1 x a, f1 x a b c]) f2 (fun c hc => by rw [g1 _ (by omega)]; exact f4 c hc)⟩
  | succ f ih =>
    intro t G1 ht f1 f2 f3 f4
    have hW := wtE_le m (gW p m n (cA G) e0 t).1
    obtain ⟨w1, w2⟩ := hN1 t (by omega)
    refine ⟨fun q => absurd q (nI_ge (by omega) (by omega)), fun _ => ⟨fun q => absurd q (nI_nle (by omega) (by omega)), fun _ => cho t G1 _ f1 f2 f3 (fun G2 z g1 g2 g3 g4 => ?_)⟩⟩
    have hz : z ≠ none := by rw [← gB_is g2]; exact w2
    cases z with
    | none => exact absurd rfl hz
    | some y =>
      obtain ⟨s1, s2, s3⟩ := g4 y.1 y.2 rfl
      obtain ⟨w, hB⟩ := id g2
      obtain ⟨c1, c2, c3, -⟩ := hB.2 y.1 y.2 rfl
      have hstep : gW p m n (cA G) e0 (t + 1) = gS p (cA G) (gW p m n (cA G) e0 t) (some (y.1, y.2)) := by
        show gS p (cA G) _ (gB p m n _ _ (cA G)) = _
        rw [gB_is g2]
      rw [s1, s2]
      refine ⟨fun _ x ex => ?_, fun q => absurd (nI_pos' (by omega)) q⟩
      rw [nI_or2 (by omega)] at ex
      subst ex
      rw [ln_20 hr]
      refine ⟨vp_in_nI (by omega) (by omega), fun G3 e3 => ?_⟩
      rw [zc (by omega)] at e3
      have fr3 : ∀ x, x ≠ 4 → x ≠ 15 → x ≠ 20 + r → G3 x = G x := fun x a b c => by rw [e3, wr_ne c, g1 x a, f1 x a b c]
      have hT3 : TI G3 p m n := TI_fr (fun x hx => fr3 x (by omega) (by omega) (by omega)) hT
      have hcA3 : cA G3 = cA G := by funext i c; unfold cA; rw [fr3 _ (by omega) (by omega) (by omega)]
      have e34 : G3 4 = G2 4 := by rw [e3, wr_ne (by omega)]
      refine s_off (c := y.1) (f := y.2) (e := (gW p m n (cA G) e0 t).1) hT3 c1 (fun i hi => by rw [e3, wr_ne (by omega), g1 15 (by omega)]; exact f3 i hi) (by rw [e34, s1]) (by rw [e34, s2]) (fun G4 k1 k2 x ex => ?_)
      rw [hcA3] at k2
      rw [k1 4 (by omega), e34, s3] at ex
      subst ex
      have := ih (t + 1) G4 (by omega) (fun x a b c => by rw [k1 x b, fr3 x a b c]) (by rw [hstep]; exact gOk_S (by omega) hn f2 c1 c3) (fun i hi => by rw [hstep]; exact k2 i hi) (fun c hc => ?_)
      · rw [hstep] at this
        rw [z1]
        exact this
      · rw [hstep, k1 _ (by omega), e3]
        show _ = nI (if c = y.1 then y.2 else (gW p m n (cA G) e0 t).2.2 c)
        by_cases ec : c = y.1
        · rw [if_pos ec, ec, wr_ss]
        · rw [if_neg ec, wr_sn ec, g1 _ (by omega)]; exact f4 c hc
theorem s_wkM {p m n r k N : Nat} {e0 : Nat → Nat} {A : Nat → Nat → Nat} {G : GS} {K : Int32 → GS → Prop} (hT : TI G p m n) (hA : ∀ i c, i < m → c < n → G 46 (12 * i + c) = nI (A i c)) (hr : r < 6) (hk : k ≤ 8) (hN : N ≤ k) (hN1 : ∀ t, t < N → wtE m (gW p m n A e0 t).1 ≠ 0 ∧ gB p m n (gW p m n A e0 t).2.1 (gW p m n A e0 t).1 A ≠ none) (hN2 : N = k ∨ wtE m (gW p m n A e0 N).1 = 0 ∨ gB p m n (gW p m n A e0 N).2.1 (gW p m n A e0 N).1 A = none) (hK : ∀ G1 : GS, (∀ x, x ≠ 47 → x ≠ 55 → G1 x = G x) → (∀ x, (x < 12 * r ∨ 12 * r + 12 ≤ x) → G1 47 x = G 47 x) → (∀ c, c < 12 → G1 47 (12 * r + c) = nI ((gW p m n A e0 N).2.2 c)) → K (nI (wtE m (gW p m n A e0 N).1)) G1) : ∀ f t (G1 : GS), t + f = N → (∀ x, x ≠ 47 → x ≠ 55 → G1 x = G x) → (∀ x, (x < 12 * r ∨ 12 * r + 12 ≤ x) → G1 47 x = G 47 x) → gOk p m n (gW p m n A e0 t) → (∀ i, i < m → G1 55 i = nI ((gW p m n A e0 t).1 i)) → (∀ c, c < 12 → G1 47 (12 * r + c) = nI ((gW p m n A e0 t).2.2 c)) → wlX6_greedy_118 K (nI r) (nI k) (f + 2) (nI (wtE m (gW p m n A e0 t).1)) (nI (gW p m n A e0 t).2.1) 1 (nI t) G1 := by
  have hp := isP_lt hT.1
  obtain ⟨-, ⟨hm0, hm⟩, ⟨hn0, hn⟩, -, ⟨b0, b1, b2⟩, -⟩ := id hT
  intro f
  induction f with
  | zero =>
    intro t G1 ht f1 f1b f2 f3 f4
    have et : t = N := by omega
    subst et
    have hh := hK G1 f1 f1b f4
    have hT1 : TI G1 p m n := TI_fr (fun x hx => f1 x (by omega) (by omega)) hT
    have hA46 : ∀ i c, i < m → c < n → G1 46 (12 * i + c) = nI (A i c) := fun i c hi hc => by rw [f1 46 (by omega) (by omega)]; exact hA i c hi hc
    refine ⟨fun _ => hh, fun q => ⟨fun _ => hh, fun q2 => ⟨fun q3 => absurd q3 (by decide), fun _ => s_choM hT1 hA46 f2.2.1 f3 (fun z v8 v9 v10 g2 g3 g4 => ?_)⟩⟩⟩
    have hz : z = none := by
      rcases hN2 with h | h | h
      · exact absurd (nI_le (show k ≤ t by omega) (by omega)) q
      · exact absurd (by rw [h]; exact Int32.le_refl _) q2
      · rw [← gB_is g2]; exact h
    rw [g3 hz]
    exact ⟨fun _ => ⟨fun _ => ⟨fun _ => hh, fun _ => ⟨fun _ => hh, fun _ => ⟨fun _ => hh, fun q5 => absurd rfl q5⟩⟩⟩, fun q5 => absurd rfl q5⟩, fun q5 => absurd (by decide) q5⟩
  | succ f ih =>
    intro t G1 ht f1 f1b f2 f3 f4
    have hW := wtE_le m (gW p m n A e0 t).1
    obtain ⟨w1, w2⟩ := hN1 t (by omega)
    have hT1 : TI G1 p m n := TI_fr (fun x hx => f1 x (by omega) (by omega)) hT
    have hA46 : ∀ i c, i < m → c < n → G1 46 (12 * i + c) = nI (A i c) := fun i c hi hc => by rw [f1 46 (by omega) (by omega)]; exact hA i c hi hc
    refine ⟨fun q => absurd q (nI_ge (by omega) (by omega)), fun _ => ⟨fun q => absurd q (nI_nle (by omega) (by omega)), fun _ => ⟨fun q3 => absurd q3 (by decide), fun _ => s_choM hT1 hA46 f2.2.1 f3 (fun z v8 v9 v10 g2 g3 g4 => ?_)⟩⟩⟩
    have hz : z ≠ none := by rw [← gB_is g2]; exact w2
    cases z with
    | none => exact absurd rfl hz
    | some y =>
      obtain ⟨s1, s2, s3⟩ := g4 y.1 y.2 rfl
      obtain ⟨w, hB⟩ := id g2
      obtain ⟨c1, c2, c3, -⟩ := hB.2 y.1 y.2 rfl
      have hstep : gW p m n A e0 (t + 1) = gS p A (gW p m n A e0 t) (some (y.1, y.2)) := by
        show gS p A _ (gB p m n _ _ A) = _
        rw [gB_is g2]
      subst s1
      subst s2
      subst s3
      refine ⟨fun q => absurd q (nI_pos (by omega)), fun _ => ⟨fun q => absurd q (by decide), fun _ => ?_⟩⟩
      have off : ∀ q i (G2 : GS), i + q = m → (∀ x, x ≠ 55 → G2 x = G1 x) → (∀ j, j < i → G2 55 j = nI (offE p (gW p m n A e0 t).1 A y.1 y.2 j)) → (∀ j, i ≤ j → j < m → G2 55 j = nI ((gW p m n A e0 t).1 j)) → wlX6_greedy_241 (fun G_291 => (vp_in (((12 : Int32) * nI r) + nI y.1) 72 ∧ (∀ G304 : GS, G304 = wr G_291 47 (cl (((12 : Int32) * nI r) + nI y.1)) (nI y.2) → (∀ x312 : Int32, x312 = (nI (gW p m n A e0 t).2.1 ||| ((1 : Int32) <<< (nI y.1 &&& (31 : Int32)))) → wlX6_greedy_118 K (nI r) (nI k) (f + 2) (nI (wg p m (gW p m n A e0 t).1 A y.1 y.2)) x312 (1 : Int32) (nI t + (1 : Int32)) G304)))) (nI r) (nI k) (nI (gW p m n A e0 t).2.1) (1 : Int32) (nI t) (nI y.1) (nI y.2) (nI (wg p m (gW p m n A e0 t).1 A y.1 y.2)) (q + 1) (nI i) G2 := by
        intro q
        induction q with
        | zero =>
          intro i G2 hi k1 k2 k3
          have ei : i = m := by omega
          subst ei
          unfold wlX6_greedy_241
          rw [k1 45 (by omega), f1 45 (by omega) (by omega), b1, i12 r y.1, zc (by omega), z1]
          refine ⟨fun _ => ⟨vp_in_nI (by omega) (by omega), fun G3 e3 x ex => ?_⟩, fun h => absurd (Int32.le_refl _) h⟩
          rw [nI_or2 (by omega)] at ex
          subst ex
          have := ih (t + 1) G3 (by omega) (fun x a b => by rw [e3, wr_ne a, k1 x b, f1 x a b]) (fun x hx => by rw [e3, wr_sn (by omega), k1 47 (by omega), f1b x hx]) (by rw [hstep]; exact gOk_S (by omega) hn f2 c1 c3) (fun i2 hi2 => by rw [hstep, e3, wr_ne (by omega)]; exact k2 i2 hi2) (fun c hc => ?_)
          · rw [hstep] at this
            exact this
          · rw [hstep, e3]
            show _ = nI (if c = y.1 then y.2 else (gW p i n A e0 t).2.2 c)
            by_cases ec : c = y.1
            · rw [if_pos ec, ec, wr_ss]
            · rw [if_neg ec, wr_sn (by omega), k1 47 (by omega)]; exact f4 c hc
        | succ q ihq =>
          intro i G2 hi k1 k2 k3
          unfold wlX6_greedy_241
          rw [k1 45 (by omega), f1 45 (by omega) (by omega), b1, i12 i y.1, zc (by omega), zc (by omega), k3 i (Nat.le_refl _) (by omega), k1 46 (by omega), f1 46 (by omega) (by omega), hA i y.1 (by omega) c1, z1 i]
          refine ⟨fun h => absurd h (nI_ge (by omega) (by omega)), fun _ => ⟨vp_in_nI (by omega) (by omega), vp_in_nI (by omega) (by omega), s_by (p := p) (by omega) (by omega) (by rw [k1 45 (by omega), f1 45 (by omega) (by omega), b0]) ⟨vp_in_nI (by omega) (by omega), fun G3 e3 => ?_⟩⟩⟩
          refine ihq (i + 1) G3 (by omega) (fun x hx => by rw [e3, wr_ne hx, k1 x hx]) (fun j hj => ?_) (fun j h4 h5 => by rw [e3, wr_sn (by omega)]; exact k3 j (by omega) h5)
          by_cases ej : j = i
          · rw [ej, e3, wr_ss]; rfl
          · rw [e3, wr_sn ej]; exact k2 j (by omega)
      exact ⟨m + 1, off m 0 G1 (by omega) (fun _ _ => rfl) (fun j hj => by omega) (fun j _ hj => f3 j hj)⟩
