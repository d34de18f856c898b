/-! PURE PART: likeness; judge -/
def ctP (Q : Nat → Bool) : Nat → Nat
  | 0 => 0
  | n + 1 => ctP Q n + (if Q n = true then 1 else 0)
theorem ctP_le (Q : Nat → Bool) : ∀ n, ctP Q n ≤ n
  | 0 => Nat.le_refl _
  | n + 1 => by
    have := ctP_le Q n
    unfold ctP
    split <;> omega
theorem ctP_congr {Q R : Nat → Bool} : ∀ n, (∀ k, k < n → Q k = R k) → ctP Q n = ctP R n
  | 0, _ => rfl
  | n + 1, h => by
    unfold ctP
    rw [ctP_congr n (fun k hk => h k (by omega)), h n (by omega)]
theorem ctP_pos {Q : Nat → Bool} : ∀ n, ctP Q n ≠ 0 → ∃ k, k < n ∧ Q k = true
  | 0, h => absurd rfl h
  | n + 1, h => by
    by_cases e : Q n = true
    · exact ⟨n, by omega, e⟩
    · unfold ctP at h
      rw [if_neg e] at h
      obtain ⟨k, h1, h2⟩ := ctP_pos n h
      exact ⟨k, by omega, h2⟩
theorem ctP_sum {Q R S : Nat → Bool} : ∀ n, (∀ k, k < n → (if Q k = true then 1 else 0) = (if R k = true then 1 else 0) + (if S k = true then 1 else 0)) → ctP Q n = ctP R n + ctP S n
  | 0, _ => rfl
  | n + 1, h => by
    have h1 := ctP_sum n (fun k hk => h k (by omega))
    have h2 := h n (by omega)
    unfold ctP
    omega
def cnL (p : Nat) (A : Nat → Nat → Nat) (m f o a : Nat) : Nat := ctP (fun k => decide ((A k o * f) % p = A k a)) m
def pfL (p : Nat) (A : Nat → Nat → Nat) (m f o a : Nat) : Nat := ctP (fun k => decide (A k o ≠ 0 ∧ (f * A k o) % p = A k a)) m
def zcL (A : Nat → Nat → Nat) (o a i : Nat) : Nat := ctP (fun k => decide (A k o = 0 ∧ A k a = 0)) i
theorem cn_split {p m f o a : Nat} {A : Nat → Nat → Nat} (hp : 0 < p) : cnL p A m f o a = zcL A o a m + pfL p A m f o a := by
  refine ctP_sum m (fun k hk => ?_)
  simp only [decide_eq_true_eq]
  by_cases e : A k o = 0
  · rw [e, Nat.zero_mul, Nat.zero_mod]
    by_cases e2 : A k a = 0
    · rw [if_pos e2.symm, if_pos ⟨rfl, e2⟩, if_neg (fun q => q.1 rfl)]
    · rw [if_neg (fun q => e2 q.symm), if_neg (fun q => e2 q.2), if_neg (fun q => q.1 rfl)]
  · rw [Nat.mul_comm f]
    by_cases e2 : (A k o * f) % p = A k a
    · rw [if_pos e2, if_neg (fun q => e q.1), if_pos ⟨e, e2⟩]
    · rw [if_neg e2, if_neg (fun q => e q.1), if_neg (fun q => e2 q.2)]
theorem s_quo {p m n a b : Nat} {G : GS} {P : Int32 → Prop} (hT : TI G p m n) (ha : a < p) (hb : b < p) (hb0 : b ≠ 0) (hK : ∀ c, c < p → (b * c) % p = 1 → P (nI ((a * c) % p))) : wX4_quotient (nI a) (nI b) G P := by
  have hp := isP_lt hT.1
  obtain ⟨c, hc, e, h1⟩ := hT.2.2.2.2.2.2 b (by omega) hb
  have hac : a * c ≤ 97 * 97 := Nat.mul_le_mul (by omega) (by omega)
  unfold wX4_quotient
  rw [zc (by omega), e, hT.2.2.2.1.1, pk_mul, z_rem (by omega) (by omega) (by omega)]
  exact ⟨vp_in_nI (by omega) (by omega), nI_ne0 (by omega) (by omega), hK c hc h1⟩
/-- a * c is what b must be multiplied by to be a -/
theorem quo_mul {p a b c : Nat} (ha : a < p) (h : (b * c) % p = 1) : (((a * c) % p) * b) % p = a := by
  have e : (((a * c) % p) * b) % p = (a * (b * c)) % p := by
    rw [Nat.mod_mul_mod, Nat.mul_assoc, Nat.mul_comm c b]
  rw [e, Nat.mul_mod, h, Nat.mul_one, Nat.mod_mod, Nat.mod_eq_of_lt ha]
theorem quo_uniq {p a b c f : Nat} (hf : f < p) (h : (b * c) % p = 1) (e : (f * b) % p = a) : (a * c) % p = f := by
  rw [← e, Nat.mod_mul_mod, Nat.mul_assoc, Nat.mul_mod, h, Nat.mul_one, Nat.mod_mod, Nat.mod_eq_of_lt hf]
theorem s_pwf {p m n i o a : Nat} {G : GS} {P : Int32 → Prop} (hT : TI G p m n) (hi : i < m) (ho : o < n) (ha : a < n) (hn1 : cA G i o ≠ 0) (hK : ∀ f, f < p → (f * cA G i o) % p = cA G i a → P (nI (pfL p (cA G) m f o a))) : wX4_placesWithFactorOf (nI i) (nI a) (nI o) G P := by
  have hp := isP_lt hT.1
  obtain ⟨-, ⟨hm0, hm⟩, ⟨hn0, hn⟩, ⟨a0, a1, a2⟩, -, -, -⟩ := id hT
  have hA := fun k c (hk : k < m) (hc : c < n) => TI_A hT (i := k) (j := c) (by omega) (by omega)
  unfold wX4_placesWithFactorOf
  rw [zc (by omega), zc (by omega), zc (by omega), (hA i a hi ha).2.1, (hA i o hi ho).2.1]
  refine ⟨vp_in_nI (by omega) (by omega), vp_in_nI (by omega) (by omega), vp_in_nI (by omega) (by omega), vp_in_nI (by omega) (by omega), s_quo hT (hA i a hi ha).1 (hA i o hi ho).1 hn1 (fun c hc hc1 => ?_)⟩
  have hf : (cA G i a * c) % p < p := Nat.mod_lt _ (by omega)
  have hfo := quo_mul (hA i a hi ha).1 hc1
  generalize (cA G i a * c) % p = f at hf hfo
  have key : ∀ z k, k + z = m → wlX4_placesWithFactorOf_28 (fun x => P x) (nI a) (nI o) (nI f) G (z + 1) (nI (ctP (fun k => decide (cA G k o ≠ 0 ∧ (f * cA G k o) % p = cA G k a)) k)) (nI k) := by
    intro z
    induction z with
    | zero =>
      intro k hk
      have e : k = m := by omega
      subst e
      unfold wlX4_placesWithFactorOf_28
      rw [a1]
      exact ⟨fun _ => hK f hf hfo, fun h => absurd (Int32.le_refl _) h⟩
    | succ z ih =>
      intro k hk
      have h1 := ih (k + 1) (by omega)
      have hA1 := hA k o (by omega) ho
      have hA2 := hA k a (by omega) ha
      have hfb : f * cA G k o ≤ 97 * 97 := Nat.mul_le_mul (by omega) (by omega)
      have hmod := Nat.mod_lt (f * cA G k o) (show 0 < p by omega)
      unfold wlX4_placesWithFactorOf_28
      rw [a1, a0, zc (by omega), zc (by omega), zc (by omega), hA1.2.1, hA2.2.1, z1, z1, z_ne0 (by omega), pk_mul, z_rem (by omega) (by omega) (by omega), nI_eq (by omega) (by omega)]
      unfold ctP at h1
      simp only [decide_eq_true_eq] at h1
      refine ⟨fun h => absurd h (nI_ge (by omega) (by omega)), fun _ => ⟨vp_in_nI (by omega) (by omega), vp_in_nI (by omega) (by omega), fun e => ?_, fun e => ⟨vp_in_nI (by omega) (by omega), vp_in_nI (by omega) (by omega), nI_ne0 (by omega) (by omega), vp_in_nI (by omega) (by omega), vp_in_nI (by omega) (by omega), fun e2 => ?_, fun e2 => ?_⟩⟩⟩
      · rw [if_neg (fun q => q.1 e)] at h1; exact h1
      · rw [if_neg (fun q => e2 q.2)] at h1; exact h1
      · rw [if_pos ⟨e, e2⟩] at h1; exact h1
  exact ⟨m + 1, key m 0 (by omega)⟩
theorem no_zd {p a f c : Nat} (h : (a * c) % p = 1) (hf : f ≠ 0) (hfp : f < p) : (a * f) % p ≠ 0 := fun e => by
  have h1 : (a * f * c) % p = 0 := by rw [Nat.mul_mod, e, Nat.zero_mul, Nat.zero_mod]
  have h2 : a * f * c = f * (a * c) := by rw [Nat.mul_comm a f, Nat.mul_assoc]
  rw [h2, Nat.mul_mod, h, Nat.mul_one, Nat.mod_mod, Nat.mod_eq_of_lt hfp] at h1
  exact hf h1
theorem s_likX {p m n o a : Nat} {G : GS} {P : Int32 → Prop} (hT : TI G p m n) (ho : o < n) (ha : a < n) (hK : ∀ L, L ≤ 12 → (∀ f, 1 ≤ f → f < p → cnL p (cA G) m f o a ≤ L) → (∃ f, 1 ≤ f ∧ f < p ∧ L ≤ cnL p (cA G) m f o a) → P (nI L)) : wX4_likeness (nI a) (nI o) G P := by
  have hp := isP_lt hT.1
  obtain ⟨-, ⟨hm0, hm⟩, ⟨hn0, hn⟩, ⟨a0, a1, a2⟩, -, -, hv⟩ := id hT
  have hA := fun k c (hk : k < m) (hc : c < n) => TI_A hT (i := k) (j := c) (by omega) (by omega)
  have key : ∀ z k b, k + z = m → b ≤ 6 → (∀ i f, i < k → cA G i o ≠ 0 → cA G i a ≠ 0 → f < p → (f * cA G i o) % p = cA G i a → pfL p (cA G) m f o a ≤ b) → (b = 0 ∨ ∃ f, 1 ≤ f ∧ f < p ∧ b ≤ pfL p (cA G) m f o a) → wlX4_likeness_8 (fun x y => P (x + y)) (nI a) (nI o) G (z + 1) (nI (zcL (cA G) o a k)) (nI b) (nI k) := by
    intro z
    induction z with
    | zero =>
      intro k b hk hb h1 h2
      have e : k = m := by omega
      subst e
      unfold wlX4_likeness_8
      rw [a1, nI_add]
      have hz : zcL (cA G) o a k ≤ k := ctP_le _ k
      refine ⟨fun _ => hK _ (by omega) (fun f hf1 hf2 => ?_) ?_, fun h => absurd (Int32.le_refl _) h⟩
      · rw [cn_split (by omega)]
        have : pfL p (cA G) k f o a ≤ b := by
          rcases Nat.eq_zero_or_pos (pfL p (cA G) k f o a) with q | q
          · omega
          · obtain ⟨i, hi, hQ⟩ := ctP_pos (Q := fun k => decide (cA G k o ≠ 0 ∧ (f * cA G k o) % p = cA G k a)) k (by show pfL p (cA G) k f o a ≠ 0; omega)
            have hQ := of_decide_eq_true hQ
            obtain ⟨c, hc1, -, hc2⟩ := hv (cA G i o) (by omega) (hA i o hi ho).1
            refine h1 i f hi hQ.1 (fun e0 => ?_) hf2 hQ.2
            have := no_zd hc2 (show f ≠ 0 by omega) hf2
            rw [Nat.mul_comm] at this
            exact this (hQ.2.trans e0)
        omega
      · rcases h2 with h2 | ⟨f, f1, f2, f3⟩
        · exact ⟨1, by omega, by omega, by rw [cn_split (by omega)]; omega⟩
        · exact ⟨f, f1, f2, by rw [cn_split (by omega)]; omega⟩
    | succ z ih =>
      intro k b hk hb h1 h2
      have hA1 := hA k o (by omega) ho
      have hA2 := hA k a (by omega) ha
      have zs : zcL (cA G) o a (k + 1) = zcL (cA G) o a k + (if cA G k o = 0 ∧ cA G k a = 0 then 1 else 0) := by
        show ctP _ k + _ = _
        simp only [decide_eq_true_eq]
        rfl
      have same : ∀ b2, b2 = b → ¬ (cA G k o ≠ 0 ∧ cA G k a ≠ 0) → (∀ i f, i < k + 1 → cA G i o ≠ 0 → cA G i a ≠ 0 → f < p → (f * cA G i o) % p = cA G i a → pfL p (cA G) m f o a ≤ b2) := fun b2 eb hno i f hi x y => by
        subst eb
        by_cases e : i = k
        · rw [e] at x y
          exact absurd ⟨x, y⟩ hno
        · exact h1 i f (by omega) x y
      unfold wlX4_likeness_8
      rw [a1, zc (by omega), zc (by omega), zc (by omega), hA1.2.1, hA2.2.1, z_ne0 (by omega), z_ne0 (by omega), z1, z1]
      have both : cA G k a ≠ 0 → cA G k o ≠ 0 → wX4_placesWithFactorOf (nI k) (nI a) (nI o) G (fun r78 => ∀ x84 : Int32, x84 = (if nI b < r78 then r78 else nI b) → wlX4_likeness_8 (fun x y => P (x + y)) (nI a) (nI o) G (z + 1) (nI (zcL (cA G) o a k)) x84 (nI (k + 1))) := by
        intro na no
        refine s_pwf hT (by omega) ho ha no (fun f hf hfo x ex => ?_)
        have hpl : pfL p (cA G) m f o a ≤ m := ctP_le _ m
        have zs0 : zcL (cA G) o a (k + 1) = zcL (cA G) o a k := by rw [zs, if_neg (fun q => no q.1)]; rfl
        have f0 : 1 ≤ f := by
          rcases Nat.eq_zero_or_pos f with q | q
          · rw [q, Nat.zero_mul, Nat.zero_mod] at hfo
            exact absurd hfo.symm na
          · exact q
        have fun_ : ∀ i f2, i < k + 1 → cA G i o ≠ 0 → cA G i a ≠ 0 → f2 < p → (f2 * cA G i o) % p = cA G i a → pfL p (cA G) m f2 o a ≤ max b (pfL p (cA G) m f o a) := fun i f2 hi x y w e => by
          by_cases ei : i = k
          · subst ei
            obtain ⟨c, hc1, -, hc2⟩ := hv (cA G i o) (by omega) hA1.1
            have e1 := quo_uniq w hc2 e
            have e2 := quo_uniq hf hc2 hfo
            rw [← e1, e2]
            exact Nat.le_max_right _ _
          · exact Nat.le_trans (h1 i f2 (by omega) x y w e) (Nat.le_max_left _ _)
        have exm : x = nI (max b (pfL p (cA G) m f o a)) := by
          rw [ex]
          by_cases q : b < pfL p (cA G) m f o a
          · rw [if_pos (nI_lt q (by omega)), Nat.max_eq_right (by omega)]
          · rw [if_neg (nI_nlt (by omega) (by omega)), Nat.max_eq_left (by omega)]
        rw [exm]
        have := ih (k + 1) (max b (pfL p (cA G) m f o a)) (by omega) (by omega) fun_ ?_
        · rw [zs0] at this
          exact this
        · by_cases q : b < pfL p (cA G) m f o a
          · rw [Nat.max_eq_right (by omega)]
            exact Or.inr ⟨f, f0, hf, Nat.le_refl _⟩
          · rw [Nat.max_eq_left (by omega)]
            exact h2
      have skip : ¬ (cA G k o = 0 ∧ cA G k a = 0) → ¬ (cA G k o ≠ 0 ∧ cA G k a ≠ 0) → wlX4_likeness_8 (fun x y => P (x + y)) (nI a) (nI o) G (z + 1) (nI (zcL (cA G) o a k)) (nI b) (nI (k + 1)) := fun x y => by
        have := ih (k + 1) b (by omega) hb (same b rfl y) h2
        rw [zs, if_neg x] at this
        exact this
      have v6 := vp_in_nI (show k < 6 by omega) (show 6 < 2 ^ 31 by omega)
      have va := vp_in_nI (show a < 12 by omega) (show 12 < 2 ^ 31 by omega)
      have vo := vp_in_nI (show o < 12 by omega) (show 12 < 2 ^ 31 by omega)
      refine ⟨fun h => absurd h (nI_ge (by omega) (by omega)), fun _ => ⟨v6, va, fun na => ⟨v6, va, fun q => absurd q na, fun _ => ⟨v6, vo, fun no => skip (fun q => na q.2) (fun q => q.1 no), fun no => both na no⟩⟩, fun za => ⟨v6, vo, fun no => ⟨v6, va, fun _ => skip (fun q => no q.1) (fun q => q.2 za), fun q => absurd za q⟩, fun zo => ?_⟩⟩⟩
      have := ih (k + 1) b (by omega) hb (same b rfl (fun q => q.1 zo)) h2
      rw [zs, if_pos ⟨zo, za⟩] at this
      exact this
  exact ⟨m + 1, key m 0 0 (by omega) (by omega) (fun i f h => by omega) (Or.inl rfl)⟩
/-- how like two columns are, at most -/
def isLk (p : Nat) (A : Nat → Nat → Nat) (m n r : Nat) : Prop := (∀ a o f, a < n → o < a → 1 ≤ f → f < p → cnL p A m f o a ≤ r) ∧ (r = 0 ∨ ∃ a o f, a < n ∧ o < a ∧ 1 ≤ f ∧ f < p ∧ r ≤ cnL p A m f o a)
theorem isLk_uniq {p m n r s : Nat} {A : Nat → Nat → Nat} (h1 : isLk p A m n r) (h2 : isLk p A m n s) : r = s := by
  have x : r ≤ s := by
    rcases h1.2 with e | ⟨a, o, f, x1, x2, x3, x4, x5⟩
    · omega
    · have := h2.1 a o f x1 x2 x3 x4; omega
  have y : s ≤ r := by
    rcases h2.2 with e | ⟨a, o, f, x1, x2, x3, x4, x5⟩
    · omega
    · have := h1.1 a o f x1 x2 x3 x4; omega
  omega
theorem s_mostX {p m n : Nat} {G : GS} {P : Int32 → Prop} (hT : TI G p m n) (hK : ∀ r, isLk p (cA G) m n r → P (nI r)) : wX4_mostLike G P := by
  obtain ⟨-, ⟨hm0, hm⟩, ⟨hn0, hn⟩, ⟨a0, a1, a2⟩, -, -, hv⟩ := id hT
  have inner : ∀ (a : Nat) (K : Int32 → Prop), a < n → (∀ r, r ≤ 12 → (∀ a2 o f, a2 < n → o < a2 → a2 < a + 1 → 1 ≤ f → f < p → cnL p (cA G) m f o a2 ≤ r) → (r = 0 ∨ ∃ a o f, a < n ∧ o < a ∧ 1 ≤ f ∧ f < p ∧ r ≤ cnL p (cA G) m f o a) → K (nI r)) → ∀ z o r, o + z = a → r ≤ 12 → (∀ a2 o2 f, a2 < n → o2 < a2 → (a2 < a ∨ (a2 = a ∧ o2 < o)) → 1 ≤ f → f < p → cnL p (cA G) m f o2 a2 ≤ r) → (r = 0 ∨ ∃ a o f, a < n ∧ o < a ∧ 1 ≤ f ∧ f < p ∧ r ≤ cnL p (cA G) m f o a) → wlX4_mostLike_14 K (nI a) G (z + 1) (nI r) (nI o) := by
    intro a K ha hK2 z
    induction z with
    | zero =>
      intro o r ho hr h1 h2
      have e : o = a := by omega
      subst e
      exact ⟨fun _ => hK2 r hr (fun a2 o2 f x y w => h1 a2 o2 f x y (by omega)) h2, fun h => absurd (Int32.le_refl _) h⟩
    | succ z ih =>
      intro o r ho hr h1 h2
      refine ⟨fun h => absurd h (nI_ge (by omega) (by omega)), fun _ => s_likX hT (by omega) ha (fun L hL l1 l2 x ex => ?_)⟩
      have exm : x = nI (max r L) := by
        rw [ex]
        by_cases q : r < L
        · rw [if_pos (nI_lt q (by omega)), Nat.max_eq_right (by omega)]
        · rw [if_neg (nI_nlt (by omega) (by omega)), Nat.max_eq_left (by omega)]
      rw [exm, z1]
      refine ih (o + 1) (max r L) (by omega) (by omega) (fun a2 o2 f x y w u v => ?_) ?_
      · by_cases e : a2 = a ∧ o2 = o
        · obtain ⟨rfl, rfl⟩ := e
          exact Nat.le_trans (l1 f u v) (Nat.le_max_right _ _)
        · exact Nat.le_trans (h1 a2 o2 f x y (by omega) u v) (Nat.le_max_left _ _)
      · by_cases q : r < L
        · rw [Nat.max_eq_right (by omega)]
          obtain ⟨f, f1, f2, f3⟩ := l2
          exact Or.inr ⟨a, o, f, ha, by omega, f1, f2, f3⟩
        · rw [Nat.max_eq_left (by omega)]; exact h2
  have outer : ∀ z a r, a + z = n → r ≤ 12 → (∀ a2 o2 f, a2 < n → o2 < a2 → a2 < a → 1 ≤ f → f < p → cnL p (cA G) m f o2 a2 ≤ r) → (r = 0 ∨ ∃ a o f, a < n ∧ o < a ∧ 1 ≤ f ∧ f < p ∧ r ≤ cnL p (cA G) m f o a) → wlX4_mostLike_4 (fun x => P x) G (z + 1) (nI r) (nI a) := by
    intro z
    induction z with
    | zero =>
      intro a r ha hr h1 h2
      have e : a = n := by omega
      subst e
      unfold wlX4_mostLike_4
      rw [a2]
      exact ⟨fun _ => hK r ⟨fun a2 o f x y => h1 a2 o f x y x, h2⟩, fun h => absurd (Int32.le_refl _) h⟩
    | succ z ih =>
      intro a r ha hr h1 h2
      unfold wlX4_mostLike_4
      rw [a2]
      refine ⟨fun h => absurd h (nI_ge (by omega) (by omega)), fun _ => ⟨a + 1, inner a _ (by omega) (fun r2 hr2 k1 k2 => ?_) a 0 r (by omega) hr (fun a2 o2 f x y w => h1 a2 o2 f x y (by omega)) h2⟩⟩
      rw [z1]
      exact ih (a + 1) r2 (by omega) hr2 (fun a2 o2 f x y w => k1 a2 o2 f x y w) k2
  exact ⟨n + 1, outer n 0 0 (by omega) (by omega) (fun a2 o2 f x y w => by omega) (Or.inl rfl)⟩
theorem s_alM {p m n : Nat} {G : GS} {P : Int32 → Prop} (hT : TI G p m n) (hK : ∀ r, isLk p (cA G) m n r → P (nI r)) : wX6_alike G P := by
  have hp := isP_lt hT.1
  obtain ⟨-, ⟨hm0, hm⟩, ⟨hn0, hn⟩, -, ⟨b0, b1, b2⟩, -, hv⟩ := id hT
  have hA := fun k c (hk : k < m) (hc : c < n) => TI_A hT (i := k) (j := c) (by omega) (by omega)
  have cnt : ∀ (o a f : Nat) (v1 : Int32) (K : Int32 → Prop), o < n → a < n → f < p → K (nI (cnL p (cA G) m f o a)) → ∃ z, wlX6_alike_42 K v1 (nI o) (nI a) (nI f) G z 0 0 := by
    intro o a f v1 K ho ha hf hK2
    have key : ∀ z k, k + z = m → wlX6_alike_42 K v1 (nI o) (nI a) (nI f) G (z + 1) (nI (ctP (fun k => decide ((cA G k o * f) % p = cA G k a)) k)) (nI k) := by
      intro z
      induction z with
      | zero =>
        intro k hk
        have e : k = m := by omega
        subst e
        unfold wlX6_alike_42
        rw [b1]
        exact ⟨fun _ => hK2, fun h => absurd (Int32.le_refl _) h⟩
      | succ z ih =>
        intro k hk
        have h1 := ih (k + 1) (by omega)
        have hA1 := hA k o (by omega) ho
        have hA2 := hA k a (by omega) ha
        have hfb : cA G k o * f ≤ 97 * 97 := Nat.mul_le_mul (by omega) (by omega)
        have hmod := Nat.mod_lt (cA G k o * f) (show 0 < p by omega)
        unfold wlX6_alike_42
        rw [b1, b0, i12, i12, zc (by omega), zc (by omega), hA1.2.2, hA2.2.2, pk_mul, z_rem (by omega) (by omega) (by omega), nI_eq (by omega) (by omega), z1, z1]
        unfold ctP at h1
        simp only [decide_eq_true_eq] at h1
        refine ⟨fun h => absurd h (nI_ge (by omega) (by omega)), fun _ => ⟨vp_in_nI (by omega) (by omega), nI_ne0 (by omega) (by omega), vp_in_nI (by omega) (by omega), fun e x ex => ?_, fun e x ex => ?_⟩⟩
        · rw [if_neg e] at h1
          rw [ex, show nI (ctP (fun k => decide ((cA G k o * f) % p = cA G k a)) k) + (0 : Int32) = nI (ctP (fun k => decide ((cA G k o * f) % p = cA G k a)) k) from nI_add _ 0]; exact h1
        · rw [if_pos e] at h1
          rw [ex]; exact h1
    exact ⟨m + 1, key m 0 (by omega)⟩
  have cl12 : ∀ f o a, cnL p (cA G) m f o a ≤ 12 := fun f o a => Nat.le_trans (ctP_le _ m) (by omega)
  have facs : ∀ (o a r0 : Nat) (K : Int32 → Prop), o < a → a < n → r0 ≤ 12 → (∀ r, r ≤ 12 → r0 ≤ r → (∀ f, 1 ≤ f → f < p → cnL p (cA G) m f o a ≤ r) → (r = r0 ∨ ∃ f, 1 ≤ f ∧ f < p ∧ r ≤ cnL p (cA G) m f o a) → K (nI r)) → ∃ z, wlX6_alike_27 K (nI o) (nI a) G z (nI r0) 1 := by
    intro o a r0 K ho ha hr0 hK2
    have key : ∀ z f r, f + z = p → 1 ≤ f → r ≤ 12 → r0 ≤ r → (∀ f2, 1 ≤ f2 → f2 < f → cnL p (cA G) m f2 o a ≤ r) → (r = r0 ∨ ∃ f, 1 ≤ f ∧ f < p ∧ r ≤ cnL p (cA G) m f o a) → wlX6_alike_27 K (nI o) (nI a) G (z + 1) (nI r) (nI f) := by
      intro z
      induction z with
      | zero =>
        intro f r hf hf1 hr hr1 h1 h2
        have e : f = p := by omega
        subst e
        unfold wlX6_alike_27
        rw [b0]
        exact ⟨fun _ => hK2 r hr hr1 h1 h2, fun h => absurd (Int32.le_refl _) h⟩
      | succ z ih =>
        intro f r hf hf1 hr hr1 h1 h2
        have hc := cl12 f o a
        unfold wlX6_alike_27
        rw [b0]
        refine ⟨fun h => absurd h (nI_ge (by omega) (by omega)), fun _ => cnt o a f _ _ (by omega) ha (by omega) ?_⟩
        rw [nI_leI (by omega) (by omega), z1]
        refine ⟨fun q => ih (f + 1) r (by omega) (by omega) hr hr1 (fun f2 x y => ?_) h2, fun q => ih (f + 1) _ (by omega) (by omega) hc (by omega) (fun f2 x y => ?_) (Or.inr ⟨f, hf1, by omega, Nat.le_refl _⟩)⟩
        · by_cases e : f2 = f
          · rw [e]; exact q
          · exact h1 f2 x (by omega)
        · by_cases e : f2 = f
          · rw [e]; exact Nat.le_refl _
          · have := h1 f2 x (by omega)
            omega
    exact ⟨p - 1 + 1, key (p - 1) 1 r0 (by omega) (by omega) hr0 (Nat.le_refl _) (fun f2 x y => by omega) (Or.inl rfl)⟩
  have inner : ∀ (o : Nat) (K : Int32 → Prop), o < n → (∀ r, r ≤ 12 → (∀ a o2 f, a < n → o2 < a → o2 < o + 1 → 1 ≤ f → f < p → cnL p (cA G) m f o2 a ≤ r) → (r = 0 ∨ ∃ a o f, a < n ∧ o < a ∧ 1 ≤ f ∧ f < p ∧ r ≤ cnL p (cA G) m f o a) → K (nI r)) → ∀ z a r, a + z = n → o < a → r ≤ 12 → (∀ a2 o2 f, a2 < n → o2 < a2 → (o2 < o ∨ (o2 = o ∧ a2 < a)) → 1 ≤ f → f < p → cnL p (cA G) m f o2 a2 ≤ r) → (r = 0 ∨ ∃ a o f, a < n ∧ o < a ∧ 1 ≤ f ∧ f < p ∧ r ≤ cnL p (cA G) m f o a) → wlX6_alike_16 K (nI o) G (z + 1) (nI r) (nI a) := by
    intro o K ho hK2 z
    induction z with
    | zero =>
      intro a r ha hoa hr h1 h2
      have e : a = n := by omega
      subst e
      unfold wlX6_alike_16
      rw [b2]
      exact ⟨fun _ => hK2 r hr (fun a2 o2 f x y w => h1 a2 o2 f x y (by omega)) h2, fun h => absurd (Int32.le_refl _) h⟩
    | succ z ih =>
      intro a r ha hoa hr h1 h2
      unfold wlX6_alike_16
      rw [b2]
      refine ⟨fun h => absurd h (nI_ge (by omega) (by omega)), fun _ => facs o a r _ hoa (by omega) hr (fun r2 hr2 hrr k1 k2 => ?_)⟩
      rw [z1]
      refine ih (a + 1) r2 (by omega) (by omega) hr2 (fun a2 o2 f x y w u v => ?_) ?_
      · by_cases e : a2 = a ∧ o2 = o
        · obtain ⟨rfl, rfl⟩ := e
          exact k1 f u v
        · exact Nat.le_trans (h1 a2 o2 f x y (by omega) u v) hrr
      · rcases k2 with k2 | ⟨f, f1, f2, f3⟩
        · rw [k2]; exact h2
        · exact Or.inr ⟨a, o, f, by omega, hoa, f1, f2, f3⟩
  have outer : ∀ z o r, o + z = n → r ≤ 12 → (∀ a o2 f, a < n → o2 < a → o2 < o → 1 ≤ f → f < p → cnL p (cA G) m f o2 a ≤ r) → (r = 0 ∨ ∃ a o f, a < n ∧ o < a ∧ 1 ≤ f ∧ f < p ∧ r ≤ cnL p (cA G) m f o a) → wlX6_alike_4 (fun x => P x) G (z + 1) (nI r) (nI o) := by
    intro z
    induction z with
    | zero =>
      intro o r ho hr h1 h2
      have e : o = n := by omega
      subst e
      unfold wlX6_alike_4
      rw [b2]
      exact ⟨fun _ => hK r ⟨fun a o f x y => h1 a o f x y (by omega), h2⟩, fun h => absurd (Int32.le_refl _) h⟩
    | succ z ih =>
      intro o r ho hr h1 h2
      unfold wlX6_alike_4
      rw [b2]
      refine ⟨fun h => absurd h (nI_ge (by omega) (by omega)), fun _ x ex => ?_⟩
      rw [z1] at ex
      subst ex
      refine ⟨n - (o + 1) + 1, inner o _ (by omega) (fun r2 hr2 k1 k2 => ?_) (n - (o + 1)) (o + 1) r (by omega) (by omega) hr (fun a2 o2 f x y w => h1 a2 o2 f x y (by omega)) h2⟩
      rw [z1]
      exact ih (o + 1) r2 (by omega) hr2 (fun a2 o2 f x y w => k1 a2 o2 f x y w) k2
  exact ⟨n + 1, outer n 0 0 (by omega) (by omega) (fun a2 o2 f x y w => by omega) (Or.inl rfl)⟩
theorem Inv_fr {G G' : GS} {B : BS} (h : ∀ c, ¬ (c = 2 ∨ c = 3 ∨ c = 4 ∨ (11 ≤ c ∧ c < 16) ∨ (38 ≤ c ∧ c < 45) ∨ (52 ≤ c ∧ c < 56)) → G' c = G c) (hI : Inv G B) : Inv G' B := by
  obtain ⟨p, m, n, d, b, q, t, hT, hR, hS, hK⟩ := hI
  exact ⟨p, m, n, d, b, q, t, TI_fr (fun c hc => h c (by omega)) hT, RI_fr (fun c hc => h c (by omega)) hR, SI_fr (fun c hc => h c (by omega)) hS, KI_fr (fun c hc => h c (by omega)) hK⟩
theorem op_judge {G : GS} {B : BS} {v1 : Int32} {P : Int32 → Int32 → GS → Prop} (h : Inv G B) (k : ∀ r G2, Inv G2 B → P r r G2) : wX5_judge v1 G (fun r G1 => wX6_judge v1 G1 (fun r2 G2 => P r r2 G2)) := by
  have hI := h
  obtain ⟨p, m, n, d, b, q, t, hT, hR, hS, hK⟩ := h
  have hp := isP_lt hT.1
  obtain ⟨-, ⟨hm0, hm⟩, ⟨hn0, hn⟩, ⟨a0, a1, a2⟩, ⟨b0, b1, b2⟩, -, -⟩ := id hT
  haveI : NeZero p := ⟨by omega⟩
  have hpow : 2 ^ n ≤ 2 ^ 12 := Nat.pow_le_pow_right (by omega) hn
  have h2n := Nat.two_pow_pos n
  refine ⟨fun e => ?_, fun e => ?_, fun e => ?_, fun e => ?_, fun e => ?_⟩
  · subst e
    refine s_rank hT (fun G1 T f1 f2 f3 f4 => ⟨fun _ => ?_, fun h => absurd h (by decide), fun h => absurd h (by decide), fun h => absurd h (by decide), fun h => absurd rfl h.1⟩)
    have hT1 : TI G1 p m n := TI_fr (fun c hc => f1 c (by omega) (by omega) (by omega) (by omega)) hT
    rw [f1 45 (by omega) (by omega) (by omega) (by omega), b2, sh_I (by omega), nI_m1 h2n]
    refine s_rankOf hT1 (v := 2 ^ n - 1) (by omega) (fun G2 r f g1 g2 => ?_)
    rw [colK_fr (G := G) hm (fun i hi => f1 _ (by omega) (by omega) (by omega) (by omega))] at g2
    have hl : (cr (2 ^ n - 1) 0 n).length = n := cr_full n 0 _ (fun i _ h2 => bt_ones (by omega))
    rw [hl] at g2
    have := Elm_rank (TI_inv hT) g2 (T := T.map (colK p G 0 m)) f2 (fun k hk => by rw [gc_full hk]; exact f3 k hk) (fun u hu => by
      obtain ⟨c, hc, rfl⟩ := List.mem_map.mp hu
      exact ⟨c, f4 c hc, by rw [gc_full (f4 c hc)]⟩)
    rw [List.length_map] at this
    rw [this]
    exact k _ _ (Inv_fr (fun c hc => by rw [g1 c (by omega), f1 c (by omega) (by omega) (by omega) (by omega)]) hI)
  · subst e
    refine s_spark hT (fun G1 s f1 f2 => ⟨fun h => absurd h (by decide), fun _ => ?_, fun h => absurd h (by decide), fun h => absurd h (by decide), fun h => absurd rfl h.2.1⟩)
    have hT1 : TI G1 p m n := TI_fr (fun c hc => f1 c (by omega) (by omega) (by omega) (by omega)) hT
    refine s_sparkM hT1 (fun G2 s2 g1 g2 => ?_)
    rw [colK_fr (G := G) hm (fun i hi => f1 _ (by omega) (by omega) (by omega) (by omega))] at g2
    rw [isSpark_uniq f2 g2]
    exact k _ _ (Inv_fr (fun c hc => by rw [g1 c (by omega), f1 c (by omega) (by omega) (by omega) (by omega)]) hI)
  · subst e
    refine s_spark hT (fun G1 s f1 f2 => ⟨fun h => absurd h (by decide), fun h => absurd h (by decide), fun _ => ?_, fun h => absurd h (by decide), fun h => absurd rfl h.2.2.1⟩)
    have hT1 : TI G1 p m n := TI_fr (fun c hc => f1 c (by omega) (by omega) (by omega) (by omega)) hT
    refine s_sparkM hT1 (fun G2 s2 g1 g2 => ?_)
    rw [colK_fr (G := G) hm (fun i hi => f1 _ (by omega) (by omega) (by omega) (by omega))] at g2
    rw [isSpark_uniq f2 g2]
    exact k _ _ (Inv_fr (fun c hc => by rw [g1 c (by omega), f1 c (by omega) (by omega) (by omega) (by omega)]) hI)
  · subst e
    refine s_mostX hT (fun r hr => ⟨fun h => absurd h (by decide), fun h => absurd h (by decide), fun h => absurd h (by decide), fun _ => ?_, fun h => absurd rfl h.2.2.2⟩)
    refine s_alM hT (fun r2 hr2 => ?_)
    rw [isLk_uniq hr hr2]
    exact k _ _ hI
  · exact ⟨fun h => absurd h e.1, fun h => absurd h e.2.1, fun h => absurd h e.2.2.1, fun h => absurd h e.2.2.2, fun _ => k _ _ hI⟩
