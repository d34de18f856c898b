/-! PURE PART: places in range -/
def inR (v : Int32) (n : Nat) : Prop := ∃ j, j < n ∧ v = nI j
theorem inR_neg {v : Int32} {n : Nat} (hn : n < 2 ^ 31) (h : v < 0) : ¬ inR v n := by
  rintro ⟨j, hj, rfl⟩
  exact nI_pos (by omega) h
theorem inR_big {v : Int32} {n : Nat} (hn : n < 2 ^ 31) (h : nI n ≤ v) : ¬ inR v n := by
  rintro ⟨j, hj, rfl⟩
  exact nI_ge hj hn h
theorem inR_of {v : Int32} {n : Nat} (hn : n < 2 ^ 31) (h1 : ¬ v < 0) (h2 : ¬ nI n ≤ v) : inR v n := by
  rcases pk_ix v hn with h | h | ⟨j, hj, e⟩
  · exact absurd h h1
  · exact absurd h h2
  · exact ⟨j, hj, e⟩
theorem inR_iff {v : Int32} {n : Nat} (h0 : 0 < n) (hn : n < 2 ^ 31) : (0 ≤ v ∧ v ≤ nI (n - 1)) ↔ inR v n := by
  constructor
  · rintro ⟨a, b⟩
    refine inR_of hn (Int32.not_lt.mpr a) (fun h => ?_)
    exact nI_ge (show n - 1 < n by omega) hn (Int32.le_trans h b)
  · rintro ⟨j, hj, rfl⟩
    exact ⟨nI_pos' (by omega), nI_le (by omega) (by omega)⟩
theorem nI_m1 {n : Nat} (h0 : 0 < n) : nI n - (1 : Int32) = nI (n - 1) := by
  have := nI_pred (n - 1)
  rw [show n - 1 + 1 = n by omega] at this
  exact this
/-- in(v, 0, n - 1) -/
theorem s_in0 {v hi : Int32} {P : Int32 → Prop} (n : Nat) (h0 : 0 < n) (hn : n < 2 ^ 31) (hh : hi = nI (n - 1)) (a : ¬ inR v n → P 0) (b : inR v n → P 1) : wX6_in v.toInt64 (0 : Int64) hi.toInt64 P := by
  subst hh
  exact s_inI (lo := 0) (fun h => a (fun q => h ((inR_iff h0 hn).mpr q))) (fun x y => b ((inR_iff h0 hn).mp ⟨x, y⟩))
theorem s_six {v : Int32} {P : Int32 → Prop} (a : ¬ inR v 6 → P 0) (b : inR v 6 → P 1) : wX6_isSix v P :=
  s_in0 (hi := 5) 6 (by omega) (by omega) rfl (fun h => ⟨Or.inl rfl, a h⟩) (fun h => ⟨Or.inr rfl, b h⟩)
theorem s_kept {v : Int32} {P : Int32 → Prop} (a : ¬ inR v 6 → P 0) (b : inR v 6 → P 1) : wX5_isKept v P :=
  ⟨fun h => a (inR_neg (by omega) h), fun h => ⟨fun g => a (inR_big (n := 6) (by omega) g), fun g => b (inR_of (by omega) h g)⟩⟩
theorem s_has {v1 v2 : Int32} {G : GS} {P : Int32 → Prop} {m n : Nat} (hm : m < 2 ^ 31) (hn : n < 2 ^ 31) (h1 : G 1 1 = nI m) (h2 : G 1 2 = nI n) (a : ¬ (inR v1 m ∧ inR v2 n) → P 0) (b : inR v1 m → inR v2 n → P 1) : wX4_has v1 v2 G P := by
  unfold wX4_has
  rw [h1, h2]
  exact ⟨fun h => a (fun q => inR_neg hm h q.1), fun h => ⟨fun g => a (fun q => inR_big hm g q.1), fun g => ⟨fun h9 => a (fun q => inR_neg hn h9 q.2), fun h9 => ⟨fun g9 => a (fun q => inR_big hn g9 q.2), fun g9 => b (inR_of hm h g) (inR_of hn h9 g9)⟩⟩⟩⟩
theorem s_place {v1 v2 : Int32} {G : GS} {P : Int32 → Prop} {m n : Nat} (m0 : 0 < m) (n0 : 0 < n) (hm : m < 2 ^ 31) (hn : n < 2 ^ 31) (h1 : G 45 1 = nI m) (h2 : G 45 2 = nI n) (a : ¬ (inR v1 m ∧ inR v2 n) → P 0) (b : inR v1 m → inR v2 n → P 1) : wX6_isPlace v1 v2 G P := by
  refine s_in0 m m0 hm (by rw [h1, nI_m1 m0]) (fun h => ⟨fun _ => a (fun q => h q.1), fun h => absurd rfl h⟩) (fun h => ⟨fun e => absurd e (by decide), fun _ => ?_⟩)
  exact s_in0 n n0 hn (by rw [h2, nI_m1 n0]) (fun g => ⟨fun _ => a (fun q => g q.2), fun h => absurd rfl h⟩) (fun g => ⟨fun e => absurd e (by decide), fun _ => b h g⟩)
theorem s_wtM_l (a : Nat) (s n : Nat) (G : GS) (K : Int32 → Prop) (hl : s + n ≤ ln a) (hl2 : ln a < 1000) (hK : K (nI (wt (fun k => G a (s + k)) n))) : ∀ k i, i + k = n → wlX6_weight_6 K a (nI s) (nI n) G (k + 1) (nI (wt (fun k => G a (s + k)) i)) (nI i) := by
  intro k
  induction k with
  | zero =>
    intro i hi
    have e : i = n := by omega
    subst e
    exact ⟨fun _ => hK, fun h => absurd (nI_le (Nat.le_refl _) (by omega)) h⟩
  | succ k ih =>
    intro i hi
    have h1 := ih (i + 1) (by omega)
    have e0 : nI s + nI i = nI (s + i) := nI_add s i
    refine ⟨fun h => absurd h (nI_ge (by omega) (by omega)), fun _ => ⟨by rw [e0]; exact vp_in_nI (by omega) (by omega), fun e x ex => ?_, fun e x ex => ?_⟩⟩
    · rw [e0, zc (by omega)] at e
      rw [ex, z1, z1]
      unfold wt at h1
      rw [if_neg e] at h1
      exact h1
    · rw [e0, zc (by omega)] at e
      rw [ex, z1, show nI (wt (fun k => G a (s + k)) i) + (0 : Int32) = nI (wt (fun k => G a (s + k)) i) from nI_add _ 0]
      unfold wt at h1
      rw [if_pos e] at h1
      exact h1
/-- weight(all, from, size) -/
theorem s_wtM {a : Nat} {v w : Int32} {G : GS} {P : Int32 → Prop} (s n : Nat) (hv : v = nI s) (hw : w = nI n) (hl : s + n ≤ ln a) (hl2 : ln a < 1000) (h : P (nI (wt (fun k => G a (s + k)) n))) : wX6_weight a v w G P := by
  subst hv
  subst hw
  exact ⟨n + 1, s_wtM_l a s n G _ hl hl2 h n 0 (by omega)⟩
