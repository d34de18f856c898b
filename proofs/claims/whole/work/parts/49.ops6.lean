/-! PURE PART: tell -/
def dot (f g : Nat → Nat) : Nat → Nat
  | 0 => 0
  | n + 1 => dot f g n + f n * g n
theorem dot_le {f g : Nat → Nat} {p : Nat} (hp : p ≤ 97) : ∀ n, (∀ k, k < n → f k < p ∧ g k < p) → dot f g n ≤ n * 9409
  | 0, _ => Nat.le_refl 0
  | n + 1, h => by
    have h1 := dot_le (f := f) (g := g) hp n (fun k hk => h k (by omega))
    have h2 := h n (by omega)
    have h3 : f n * g n ≤ 97 * 97 := Nat.mul_le_mul (by omega) (by omega)
    show dot f g n + f n * g n ≤ (n + 1) * 9409
    omega
theorem s_dotX (K : Int32 → Prop) (G : GS) (a1 a2 i n : Nat) (f g : Nat → Nat) (hi : i < 6) (hn : n ≤ 12) (hl : ln a1 = 12) (h2 : G 1 2 = nI n) (hf : ∀ j, j < n → G (32 + i) j = nI (f j)) (hg : ∀ j, j < n → G a1 j = nI (g j)) (hK : K (nI (dot f g n))) : ∀ k j, j + k = n → wlX4_sumsOf_16 K a1 a2 (nI i) G (k + 1) (nI (dot f g j)) (nI j) := by
  intro k
  induction k with
  | zero =>
    intro j hj
    have e : j = n := by omega
    subst e
    unfold wlX4_sumsOf_16
    rw [h2]
    exact ⟨fun _ => hK, fun h => absurd (Int32.le_refl _) h⟩
  | succ k ih =>
    intro j hj
    have h1 := ih (j + 1) (by omega)
    unfold wlX4_sumsOf_16
    rw [h2, hl]
    refine ⟨fun h => absurd h (nI_ge (by omega) (by omega)), fun _ => ⟨vp_in_nI (by omega) (by omega), vp_in_nI (by omega) (by omega), vp_in_nI (by omega) (by omega), fun x ex => ?_⟩⟩
    rw [zc (by omega), zc (by omega), hf j (by omega), hg j (by omega), pk_mul, nI_add] at ex
    rw [ex, z1]
    exact h1
theorem s_dotM (K : Int32 → Prop) (G : GS) (v1 : Int32) (r i n : Nat) (f g : Nat → Nat) (hi : i < 6) (hr : r < 6) (hn : n ≤ 12) (h2 : G 45 2 = nI n) (hf : ∀ j, j < n → G 46 (12 * i + j) = nI (f j)) (hg : ∀ j, j < n → G 47 (12 * r + j) = nI (g j)) (hK : K (nI (dot f g n))) : ∀ k j, j + k = n → wlX6_tell_32 K v1 (nI r) (nI i) G (k + 1) (nI (dot f g j)) (nI j) := by
  intro k
  induction k with
  | zero =>
    intro j hj
    have e : j = n := by omega
    subst e
    unfold wlX6_tell_32
    rw [h2]
    exact ⟨fun _ => hK, fun h => absurd (Int32.le_refl _) h⟩
  | succ k ih =>
    intro j hj
    have h1 := ih (j + 1) (by omega)
    unfold wlX6_tell_32
    rw [h2, i12, i12]
    refine ⟨fun h => absurd h (nI_ge (by omega) (by omega)), fun _ => ⟨vp_in_nI (by omega) (by omega), vp_in_nI (by omega) (by omega), fun x ex => ?_⟩⟩
    rw [zc (by omega), zc (by omega), hf j (by omega), hg j (by omega), pk_mul, nI_add] at ex
    rw [ex, z1]
    exact h1
