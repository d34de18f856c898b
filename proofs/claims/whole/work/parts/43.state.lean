/-! PURE PART: what holds between the calls -/
def TI (G : GS) (p m n : Nat) : Prop := isP p ∧ (1 ≤ m ∧ m ≤ 6) ∧ (1 ≤ n ∧ n ≤ 12) ∧ (G 1 0 = nI p ∧ G 1 1 = nI m ∧ G 1 2 = nI n) ∧ (G 45 0 = nI p ∧ G 45 1 = nI m ∧ G 45 2 = nI n) ∧ (∀ i j, i < 6 → j < 12 → ∃ t, t < p ∧ G (32 + i) j = nI t ∧ G 46 (12 * i + j) = nI t) ∧ (∀ a, 1 ≤ a → a < p → ∃ b, b < p ∧ G 9 a = nI b ∧ (a * b) % p = 1)
def RI (G : GS) (p n : Nat) : Prop := ∀ r j, r < 6 → j < 12 → ∃ t, t < p ∧ G (20 + r) j = nI t ∧ G 47 (12 * r + j) = nI t ∧ (n ≤ j → t = 0)
def SI (G : GS) (p m : Nat) : Prop := ∀ y i, y < 6 → i < 6 → ∃ t, t < p ∧ G (26 + y) i = nI t ∧ G 48 (6 * y + i) = nI t ∧ (m ≤ i → t = 0)
def KI (G : GS) (B : BS) (d b q t : Nat) : Prop := (1 ≤ d ∧ d ≤ 4) ∧ (2 ≤ b ∧ b ≤ 32) ∧ q ≤ 100000 ∧ t ≤ 200 ∧ (G 5 0 = nI d ∧ G 5 1 = nI b ∧ G 5 2 = nI q ∧ G 5 3 = nI t) ∧ (G 45 6 = nI d ∧ G 45 7 = nI b ∧ G 45 8 = nI q ∧ G 45 10 = nI t) ∧ (∀ k, k < 384 → B 16 k = B 49 k) ∧ (∀ l, l < 128 → ∃ z, z < 1000003 ∧ B 16 (3 * l + 2) = lN z) ∧ (∀ k, k < t → k < 100 → G 18 k = G 50 k ∧ G 19 k = G 51 k)
def Inv (G : GS) (B : BS) : Prop := ∃ p m n d b q t, TI G p m n ∧ RI G p n ∧ SI G p m ∧ KI G B d b q t
theorem isP_lt {p : Nat} (h : isP p) : 2 ≤ p ∧ p ≤ 97 := ⟨h.1, h.2.1⟩
theorem op_count {G : GS} {B : BS} {v : Int32} {P : Int32 → Int32 → Prop} (h : Inv G B) (k : ∀ r, P r r) : wX5_count v G (fun r => wX6_count v G (fun r2 => P r r2)) := by
  obtain ⟨p, m, n, d, b, q, t, hT, hR, hS, hK⟩ := h
  obtain ⟨-, -, -, ⟨a0, a1, a2⟩, ⟨b0, b1, b2⟩, -, -⟩ := hT
  obtain ⟨-, -, -, -, ⟨c0, c1, c2, c3⟩, ⟨d0, d1, d2, d3⟩, -, -, -⟩ := hK
  unfold wX5_count wX6_count
  rw [a0, a1, a2, b0, b1, b2, c0, c1, c2, d0, d1, d2]
  refine ⟨fun e => ?_, fun e => ?_, fun e => ?_, fun e => ?_, fun e => ?_, fun e => ?_, fun e => ?_⟩
  · subst e; exact ⟨fun _ => k _, fun h => absurd h (by decide), fun h => absurd h (by decide), fun h => absurd h (by decide), fun h => absurd h (by decide), fun h => absurd h (by decide), fun h => absurd rfl h.1⟩
  · subst e; exact ⟨fun h => absurd h (by decide), fun _ => k _, fun h => absurd h (by decide), fun h => absurd h (by decide), fun h => absurd h (by decide), fun h => absurd h (by decide), fun h => absurd rfl h.2.1⟩
  · subst e; exact ⟨fun h => absurd h (by decide), fun h => absurd h (by decide), fun _ => k _, fun h => absurd h (by decide), fun h => absurd h (by decide), fun h => absurd h (by decide), fun h => absurd rfl h.2.2.1⟩
  · subst e; exact ⟨fun h => absurd h (by decide), fun h => absurd h (by decide), fun h => absurd h (by decide), fun _ => k _, fun h => absurd h (by decide), fun h => absurd h (by decide), fun h => absurd rfl h.2.2.2.1⟩
  · subst e; exact ⟨fun h => absurd h (by decide), fun h => absurd h (by decide), fun h => absurd h (by decide), fun h => absurd h (by decide), fun _ => k _, fun h => absurd h (by decide), fun h => absurd rfl h.2.2.2.2.1⟩
  · subst e; exact ⟨fun h => absurd h (by decide), fun h => absurd h (by decide), fun h => absurd h (by decide), fun h => absurd h (by decide), fun h => absurd h (by decide), fun _ => k _, fun h => absurd rfl h.2.2.2.2.2⟩
  · exact ⟨fun h => absurd h e.1, fun h => absurd h e.2.1, fun h => absurd h e.2.2.1, fun h => absurd h e.2.2.2.1, fun h => absurd h e.2.2.2.2.1, fun h => absurd h e.2.2.2.2.2, fun _ => k _⟩
theorem i12 (i j : Nat) : (12 : Int32) * nI i + nI j = nI (12 * i + j) := by rw [show (12 : Int32) = nI 12 from rfl, pk_mul, nI_add]
theorem i6 (i j : Nat) : (6 : Int32) * nI i + nI j = nI (6 * i + j) := by rw [show (6 : Int32) = nI 6 from rfl, pk_mul, nI_add]
theorem op_at {G : GS} {B : BS} {v1 v2 : Int32} {P : Int32 → Int32 → Prop} (h : Inv G B) (k : ∀ r, P r r) : wX5_at v1 v2 G (fun r => wX6_at v1 v2 G (fun r2 => P r r2)) := by
  obtain ⟨p, m, n, d, b, q, t, hT, hR, hS, hK⟩ := h
  obtain ⟨hp, ⟨hm0, hm⟩, ⟨hn0, hn⟩, ⟨a0, a1, a2⟩, ⟨b0, b1, b2⟩, hc, -⟩ := hT
  refine s_has (by omega) (by omega) a1 a2 (fun h => ⟨fun _ => ?_, fun h => absurd rfl h⟩) (fun h1 h2 => ⟨fun e => absurd e (by decide), fun _ => ?_⟩)
  · exact s_place hm0 hn0 (by omega) (by omega) b1 b2 (fun _ => ⟨fun _ => k _, fun h => absurd rfl h⟩) (fun x y => absurd ⟨x, y⟩ h)
  · obtain ⟨i, hi, rfl⟩ := h1
    obtain ⟨j, hj, rfl⟩ := h2
    refine ⟨vp_in_nI (by omega) (by omega), vp_in_nI (by omega) (by omega), ?_⟩
    refine s_place hm0 hn0 (by omega) (by omega) b1 b2 (fun h => absurd ⟨⟨i, hi, rfl⟩, ⟨j, hj, rfl⟩⟩ h) (fun _ _ => ⟨fun e => absurd e (by decide), fun _ => ?_⟩)
    rw [i12]
    refine ⟨vp_in_nI (by omega) (by omega), ?_⟩
    rw [zc (by omega), zc (by omega), zc (by omega)]
    obtain ⟨z, -, e1, e2⟩ := hc i j (by omega) (by omega)
    rw [e1, e2]
    exact k _
