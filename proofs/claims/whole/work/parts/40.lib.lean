/-! PURE PART: numbers and the small loops -/
theorem zc {n : Nat} (h : n < 2 ^ 31) : cl (nI n) = n := nI_clamp h
theorem z1 (n : Nat) : nI n + (1 : Int32) = nI (n + 1) := (nI_succ n).symm
theorem z_ne0 {n : Nat} (h : n < 2 ^ 31) : nI n = 0 ↔ n = 0 := by
  constructor
  · intro e
    rcases Nat.eq_zero_or_pos n with h0 | h0
    · exact h0
    · exact absurd e (nI_ne0 h0 h)
  · intro e; rw [e]; rfl
theorem z_rem {a d : Nat} (ha : a < 2 ^ 31) (h0 : 0 < d) (hd : d < 2 ^ 31) : nI a - nI a / nI d * nI d = nI (a % d) := pk_rem ha h0 hd
/-- how many of the first n aren't 0 -/
def wt (f : Nat → Int32) : Nat → Nat
  | 0 => 0
  | n + 1 => wt f n + (if f n = 0 then 0 else 1)
theorem wt_le (f : Nat → Int32) : ∀ n, wt f n ≤ n
  | 0 => Nat.le_refl 0
  | n + 1 => by
    have := wt_le f n
    unfold wt
    split <;> omega
theorem wt_congr {f g : Nat → Int32} : ∀ n, (∀ k, k < n → f k = g k) → wt f n = wt g n
  | 0, _ => rfl
  | n + 1, h => by
    unfold wt
    rw [wt_congr n (fun k hk => h k (by omega)), h n (by omega)]
theorem wt_zero {f : Nat → Int32} {m : Nat} : ∀ n, m ≤ n → (∀ k, m ≤ k → k < n → f k = 0) → wt f n = wt f m
  | 0, h, _ => by rw [show m = 0 by omega]
  | n + 1, h, hz => by
    rcases Nat.lt_or_ge n m with h1 | h1
    · rw [show m = n + 1 by omega]
    · show wt f n + (if f n = 0 then 0 else 1) = wt f m
      rw [wt_zero n h1 (fun k a b => hz k a (by omega)), if_pos (hz n h1 (by omega))]
      exact Nat.add_zero _
theorem s_weight_l (a : Nat) (G : GS) (K : Int32 → Prop) (hl : ln a < 1000) (hK : K (nI (wt (G a) (ln a)))) : ∀ k i, i + k = ln a → wlX5_weight_4 K a G (k + 1) (nI (wt (G a) i)) (nI i) := by
  intro k
  induction k with
  | zero =>
    intro i hi
    have e : i = ln a := by omega
    subst e
    exact ⟨fun _ => hK, fun h => absurd (nI_le (Nat.le_refl _) (by omega)) h⟩
  | succ k ih =>
    intro i hi
    have h1 := ih (i + 1) (by omega)
    refine ⟨fun h => absurd h (nI_ge (by omega) (by omega)), fun _ => ⟨vp_in_nI (by omega) (by omega), fun e => ?_, fun e => ?_⟩⟩
    · rw [zc (by omega)] at e
      rw [z1]
      unfold wt at h1
      rw [if_pos e] at h1
      exact h1
    · rw [zc (by omega)] at e
      rw [z1, z1]
      unfold wt at h1
      rw [if_neg e] at h1
      exact h1
theorem s_weight {a : Nat} {G : GS} {P : Int32 → Prop} (hl : ln a < 1000) (h : P (nI (wt (G a) (ln a)))) : wX5_weight a G P := ⟨ln a + 1, s_weight_l a G _ hl h (ln a) 0 (by omega)⟩
theorem s_clear_l (a : Nat) (G : GS) (K : GS → Prop) (hl : ln a < 1000) (hK : ∀ G1 : GS, (∀ c, c ≠ a → G1 c = G c) → (∀ k, k < ln a → G1 a k = 0) → K G1) : ∀ k i (G1 : GS), i + k = ln a → (∀ c, c ≠ a → G1 c = G c) → (∀ j, j < i → G1 a j = 0) → wlX5_clear_2 K a (k + 1) (nI i) G1 := by
  intro k
  induction k with
  | zero =>
    intro i G1 hi h1 h2
    have e : i = ln a := by omega
    subst e
    exact ⟨fun _ => hK G1 h1 h2, fun h => absurd (nI_le (Nat.le_refl _) (by omega)) h⟩
  | succ k ih =>
    intro i G1 hi h1 h2
    refine ⟨fun h => absurd h (nI_ge (by omega) (by omega)), fun _ => ⟨vp_in_nI (by omega) (by omega), fun G2 e => ?_⟩⟩
    rw [zc (by omega)] at e
    rw [z1]
    refine ih (i + 1) G2 (by omega) (fun c hc => by rw [e, wr_ne hc]; exact h1 c hc) (fun j hj => ?_)
    rw [e]
    by_cases ej : j = i
    · rw [ej, wr_ss]
    · rw [wr_sn ej]; exact h2 j (by omega)
theorem s_clear {a : Nat} {G : GS} {P : GS → Prop} (hl : ln a < 1000) (h : ∀ G1 : GS, (∀ c, c ≠ a → G1 c = G c) → (∀ k, k < ln a → G1 a k = 0) → P G1) : wX5_clear a G P :=
  ⟨ln a + 1, s_clear_l a G _ hl h (ln a) 0 G (by omega) (fun _ _ => rfl) (fun j hj => by omega)⟩
/-- in(v, lo, hi) -/
theorem s_in {v lo hi : Int64} {P : Int32 → Prop} (h0 : ¬ (lo ≤ v ∧ v ≤ hi) → P 0) (h1 : lo ≤ v → v ≤ hi → P 1) : wX6_in v lo hi P := by
  refine ⟨fun h => h0 (fun q => ?_), fun h => ⟨fun g => h0 (fun q => ?_), fun g => h1 ?_ ?_⟩⟩
  · have := (lg_cmp_lt v lo).mp h
    exact absurd q.1 (Int64.not_le.mpr this)
  · have := (lg_cmp_gt v hi).mp g
    exact absurd q.2 (Int64.not_le.mpr this)
  · rw [lg_cmp_lt] at h
    exact Int64.not_lt.mp h
  · rw [lg_cmp_gt] at g
    exact Int64.not_lt.mp g
/-- in over ints -/
theorem i64_le {x y : Int32} : x.toInt64 ≤ y.toInt64 ↔ x ≤ y := by
  rw [Int64.le_iff_toInt_le, Int32.le_iff_toInt_le, Int32.toInt_toInt64, Int32.toInt_toInt64]
theorem s_inI {v lo hi : Int32} {P : Int32 → Prop} (h0 : ¬ (lo ≤ v ∧ v ≤ hi) → P 0) (h1 : lo ≤ v → v ≤ hi → P 1) : wX6_in v.toInt64 lo.toInt64 hi.toInt64 P :=
  s_in (fun h => h0 (fun q => h ⟨i64_le.mpr q.1, i64_le.mpr q.2⟩)) (fun a b => h1 (i64_le.mp a) (i64_le.mp b))
theorem s_copy_l (a b : Nat) (G : GS) (N : Nat) (K : GS → Prop) (hab : a ≠ b) (hN : N < 1000) (ha : N ≤ ln a) (hb : N ≤ ln b) (ha2 : ln a < 1000) (hb2 : ln b < 1000) (hK : ∀ G1 : GS, (∀ c, c ≠ b → G1 c = G c) → (∀ k, k < N → G1 b k = G a k) → (∀ k, N ≤ k → G1 b k = G b k) → K G1) : ∀ k i (G1 : GS), i + k = N → (∀ c, c ≠ b → G1 c = G c) → (∀ j, j < i → G1 b j = G a j) → (∀ j, i ≤ j → G1 b j = G b j) → wlX5_copy_10 K a b (nI N) (k + 1) (nI i) G1 := by
  intro k
  induction k with
  | zero =>
    intro i G1 hi h1 h2 h3
    have e : i = N := by omega
    subst e
    exact ⟨fun _ => hK G1 h1 h2 h3, fun h => absurd (nI_le (Nat.le_refl _) (by omega)) h⟩
  | succ k ih =>
    intro i G1 hi h1 h2 h3
    refine ⟨fun h => absurd h (nI_ge (by omega) (by omega)), fun _ => ⟨vp_in_nI (by omega) (by omega), vp_in_nI (by omega) (by omega), fun G2 e => ?_⟩⟩
    rw [zc (by omega)] at e
    rw [z1]
    refine ih (i + 1) G2 (by omega) (fun c hc => by rw [e, wr_ne hc]; exact h1 c hc) (fun j hj => ?_) (fun j hj => ?_)
    · rw [e]
      by_cases ej : j = i
      · rw [ej, wr_ss, h1 a hab]
      · rw [wr_sn ej]; exact h2 j (by omega)
    · rw [e, wr_sn (by omega)]; exact h3 j (by omega)
/-- copy(a, b): as many as both have -/
theorem s_copy {a b : Nat} {G : GS} {P : GS → Prop} (N : Nat) (hab : a ≠ b) (hN : N < 1000) (hm : N = min (ln a) (ln b)) (ha : ln a < 1000) (hb : ln b < 1000) (h : ∀ G1 : GS, (∀ c, c ≠ b → G1 c = G c) → (∀ k, k < N → G1 b k = G a k) → (∀ k, N ≤ k → G1 b k = G b k) → P G1) : wX5_copy a b G P := by
  intro x ex
  have e : x = nI N := by
    rw [ex, hm]
    by_cases q : ln b < ln a
    · rw [if_pos (nI_lt q (by omega)), Nat.min_eq_right (by omega)]
    · rw [if_neg (nI_nlt (by omega) (by omega)), Nat.min_eq_left (by omega)]
  subst e
  exact ⟨N + 1, s_copy_l a b G N _ hab hN (by omega) (by omega) ha hb h N 0 G (by omega) (fun _ _ => rfl) (fun j hj => by omega) (fun _ _ => rfl)⟩
/-- primes -/
def isP (k : Nat) : Prop := 2 ≤ k ∧ k ≤ 97 ∧ ∀ g, 2 ≤ g → g < k → k % g ≠ 0
theorem s_prX_l (v : Nat) (hv : 2 ≤ v) (hv2 : v ≤ 97) (K26 K34 : Prop) (h0 : ¬ isP v → K26) (h1 : isP v → K34) : ∀ d f, f + d = v → 2 ≤ f → (∀ g, 2 ≤ g → g < f → v % g ≠ 0) → wlX5_isPrime_15 K26 K34 (nI v) (d + 1) (nI f) := by
  intro d
  induction d with
  | zero =>
    intro f hf h2 hg
    have e : f = v := by omega
    subst e
    exact ⟨fun _ => h1 ⟨hv, hv2, hg⟩, fun h => absurd (nI_le (Nat.le_refl _) (by omega)) h⟩
  | succ d ih =>
    intro f hf h2 hg
    refine ⟨fun h => absurd h (nI_ge (by omega) (by omega)), fun _ => ⟨nI_ne0 (by omega) (by omega), fun e => ?_, fun e => ?_⟩⟩
    · rw [z_rem (by omega) (by omega) (by omega), z_ne0 (by have := Nat.mod_lt v (show 0 < f by omega); omega)] at e
      rw [z1]
      refine ih (f + 1) (by omega) (by omega) (fun g a b => ?_)
      by_cases q : g = f
      · rw [q]; exact e
      · exact hg g a (by omega)
    · rw [z_rem (by omega) (by omega) (by omega), z_ne0 (by have := Nat.mod_lt v (show 0 < f by omega); omega)] at e
      exact h0 (fun q => q.2.2 f h2 (by omega) e)
theorem n_small {v : Int32} (h1 : ¬ v < 2) (h2 : v ≤ 97) : ∃ k, v = nI k ∧ 2 ≤ k ∧ k ≤ 97 := by
  rcases pk_ix v (n := 98) (by omega) with h | h | ⟨j, hj, e⟩
  · exact absurd (Int32.lt_trans h (by decide)) h1
  · exact absurd (Int32.lt_of_lt_of_le (show (97 : Int32) < nI 98 by decide) h) (Int32.not_lt.mpr h2)
  · refine ⟨j, e, ?_, by omega⟩
    rcases Nat.lt_or_ge j 2 with q | q
    · exact absurd (by rw [e]; exact nI_lt (b := 2) q (by omega)) h1
    · exact q
theorem s_prX {v : Int32} {P : Int32 → Prop} (h0 : (∀ k, v = nI k → ¬ isP k) → P 0) (h1 : ∀ k, v = nI k → isP k → P 1) : wX5_isPrime v P := by
  refine ⟨fun h => h0 (fun k e q => ?_), fun h => ⟨fun g => ?_, fun g => h0 (fun k e q => ?_)⟩⟩
  · rw [e] at h
    exact absurd h (nI_nlt (b := 2) q.1 (by have := q.2.1; omega))
  · obtain ⟨k, rfl, a, b⟩ := n_small h g
    refine ⟨k - 2 + 1, s_prX_l k a b _ _ (fun q => h0 (fun k2 e q2 => q ?_)) (fun q => h1 k rfl q) (k - 2) 2 (by omega) (by omega) (fun g a b => by omega)⟩
    have : k2 = k := ((nI_eq (by omega) (by have := q2.2.1; omega)).mp e).symm
    rw [this] at q2; exact q2
  · rw [e] at g
    exact absurd (nI_le (b := 97) q.2.1 (by omega)) g
theorem p_root {v f : Nat} (hv : 2 ≤ v) (hv2 : v ≤ 97) (hf : v < f * f) (hg : ∀ g, 2 ≤ g → g < f → v % g ≠ 0) : isP v := by
  refine ⟨hv, hv2, fun g a b e => ?_⟩
  rcases Nat.lt_or_ge g f with q | q
  · exact hg g a q e
  · have e1 : g * (v / g) = v := by
      have := Nat.div_add_mod v g
      omega
    generalize v / g = h at e1
    have h2 : 2 ≤ h := by
      rcases Nat.lt_or_ge h 2 with r | r
      · have : h = 0 ∨ h = 1 := by omega
        rcases this with r | r
        · rw [r] at e1; omega
        · rw [r] at e1; omega
      · exact r
    have h3 : h < f := by
      rcases Nat.lt_or_ge h f with r | r
      · exact r
      · have := Nat.mul_le_mul q r
        omega
    refine hg h h2 h3 ?_
    have : v = h * g := by rw [Nat.mul_comm]; exact e1.symm
    exact Nat.mod_eq_zero_of_dvd ⟨g, this⟩
theorem s_prM_l (v : Nat) (hv : 2 ≤ v) (hv2 : v ≤ 97) (K : Int32 → Prop) (h0 : ¬ isP v → K 0) (h1 : isP v → K 1) : ∀ d f, f + d = 11 → 2 ≤ f → (∀ g, 2 ≤ g → g < f → v % g ≠ 0) → wlX6_isPrime_14 K (nI v) (d + 2) 1 (nI f) := by
  intro d
  induction d with
  | zero =>
    intro f hf h2 hg
    have e : f = 11 := by omega
    subst e
    refine ⟨fun h => absurd h (by decide), fun _ => ⟨fun _ => h1 (p_root hv hv2 (by omega) hg), fun h => absurd ?_ h⟩⟩
    rw [pk_mul]
    exact nI_lt (by omega) (by omega)
  | succ d ih =>
    intro f hf h2 hg
    have hff : f * f ≤ 121 := Nat.mul_le_mul (show f ≤ 11 by omega) (show f ≤ 11 by omega)
    refine ⟨fun h => absurd h (by decide), fun _ => ⟨fun h => ?_, fun h => ⟨nI_ne0 (by omega) (by omega), fun e => ?_, fun e => ?_⟩⟩⟩
    · rw [pk_mul, nI_ltI (by omega) (by omega)] at h
      exact h1 (p_root hv hv2 h hg)
    · rw [pk_mul, nI_ltI (by omega) (by omega)] at h
      rw [z_rem (by omega) (by omega) (by omega), z_ne0 (by have := Nat.mod_lt v (show 0 < f by omega); omega)] at e
      have hfv : f < v := by
        rcases Nat.lt_or_ge f v with q | q
        · exact q
        · have := Nat.mul_le_mul q q
          have h9 := Nat.mul_le_mul hv (Nat.le_refl v)
          have h8 := Nat.mul_le_mul q (Nat.le_refl f)
          have h7 : v * 2 ≤ v * f := Nat.mul_le_mul (Nat.le_refl v) h2
          omega
      exact ⟨fun _ => h0 (fun q => q.2.2 f h2 hfv e), fun h => absurd rfl h⟩
    · rw [z_rem (by omega) (by omega) (by omega), z_ne0 (by have := Nat.mod_lt v (show 0 < f by omega); omega)] at e
      rw [z1]
      refine ih (f + 1) (by omega) (by omega) (fun g a b => ?_)
      by_cases q : g = f
      · rw [q]; exact e
      · exact hg g a (by omega)
theorem s_prM {v : Int32} {P : Int32 → Prop} (h0 : (∀ k, v = nI k → ¬ isP k) → P 0) (h1 : ∀ k, v = nI k → isP k → P 1) : wX6_isPrime v P := by
  refine s_inI (lo := 2) (hi := 97) (fun h => ?_) (fun a b => ?_)
  · refine ⟨1, fun _ => ⟨Or.inl rfl, h0 (fun k e q => h ?_)⟩, fun h => absurd rfl h⟩
    rw [e]
    exact ⟨nI_le (a := 2) q.1 (by have := q.2.1; omega), nI_le (b := 97) q.2.1 (by omega)⟩
  · obtain ⟨k, rfl, a, b⟩ := n_small (Int32.not_lt.mpr a) b
    refine ⟨9 + 2, s_prM_l k a b _ (fun q => ⟨Or.inl rfl, h0 (fun k2 e q2 => q ?_)⟩) (fun q => ⟨Or.inr rfl, h1 k rfl q⟩) 9 2 (by omega) (by omega) (fun g a b => by omega)⟩
    have : k2 = k := ((nI_eq (by omega) (by have := q2.2.1; omega)).mp e).symm
    rw [this] at q2; exact q2
