/-! PURE PART: row, told -/
theorem i32m1 : (-1 : Int32).toInt = -1 := rfl
theorem s_jX {v : Int32} {n : Nat} (h0 : 0 < n) (hn : n < 1000) {A C D : Prop} (a : ¬ (v = -1 ∨ inR v n) → A) (c : inR v n → C) (dd : v = -1 → D) : (v < (-1 : Int32) → A) ∧ (¬ v < (-1 : Int32) → ((v < nI n → ((¬ v = (-1 : Int32) → C) ∧ (v = (-1 : Int32) → D))) ∧ (¬ v < nI n → A))) := by
  have hnI : (nI n).toInt = (n : Int) := nI_toInt (by omega)
  refine ⟨fun h => a ?_, fun h => ⟨fun g => ⟨fun e => c ?_, dd⟩, fun g => a ?_⟩⟩
  · rintro (e | e)
    · rw [e] at h; exact absurd h (by decide)
    · exact inR_neg (by omega) (Int32.lt_trans h (by decide)) e
  · refine inR_of (by omega) (fun q => e ?_) (fun q => ?_)
    · apply Int32.toInt_inj.mp
      rw [i32m1]
      rw [Int32.lt_iff_toInt_lt] at h q
      rw [i32m1] at h
      have : (0 : Int32).toInt = 0 := rfl
      omega
    · rw [Int32.lt_iff_toInt_lt] at g
      rw [Int32.le_iff_toInt_le] at q
      omega
  · rintro (e | e)
    · apply g
      rw [e, Int32.lt_iff_toInt_lt, i32m1, hnI]; omega
    · exact inR_big (by omega) (Int32.not_lt.mp g) e
theorem s_jM {v hi : Int32} {n : Nat} (h0 : 0 < n) (hn : n < 1000) (hh : hi = nI (n - 1)) {A C D : Prop} (a : ¬ (v = -1 ∨ inR v n) → A) (c : inR v n → C) (dd : v = -1 → D) : wX6_in v.toInt64 (-1 : Int64) hi.toInt64 (fun r => ((¬ r = 0 → ((0 ≤ v → C) ∧ (¬ 0 ≤ v → D))) ∧ (r = 0 → A))) := by
  subst hh
  have hnI : (nI (n - 1)).toInt = ((n - 1 : Nat) : Int) := nI_toInt (by omega)
  have hz : (0 : Int32).toInt = 0 := rfl
  refine s_inI (lo := -1) (fun h => ⟨fun e => absurd rfl e, fun _ => a ?_⟩) (fun x y => ⟨fun _ => ⟨fun g => c ?_, fun g => dd ?_⟩, fun e => absurd e (by decide)⟩)
  · rintro (e | e)
    · rw [e] at h
      apply h
      refine ⟨Int32.le_refl _, ?_⟩
      rw [Int32.le_iff_toInt_le, i32m1, hnI]; omega
    · apply h
      have := (inR_iff h0 (by omega)).mpr e
      exact ⟨Int32.le_trans (by decide) this.1, this.2⟩
  · exact (inR_iff h0 (by omega)).mp ⟨g, y⟩
  · apply Int32.toInt_inj.mp
    rw [Int32.le_iff_toInt_le] at x g
    rw [i32m1] at x ⊢
    omega
theorem wt_row {G : GS} {p n r : Nat} (hR : RI G p n) (hn : n ≤ 12) (hr : r < 6) : wt (G (20 + r)) 12 = wt (fun k => G 47 (12 * r + k)) n := by
  rw [wt_zero (m := n) 12 hn (fun k h1 h2 => ?_)]
  · refine wt_congr n (fun k hk => ?_)
    obtain ⟨t, -, e1, e2, -⟩ := hR r k hr (by omega)
    show G (20 + r) k = G 47 (12 * r + k)
    rw [e1, e2]
  · obtain ⟨t, -, e1, -, e3⟩ := hR r k hr h2
    rw [e1, e3 h1]; rfl
theorem wt_sum {G : GS} {p m y : Nat} (hS : SI G p m) (hm : m ≤ 6) (hy : y < 6) : wt (G (26 + y)) 6 = wt (fun k => G 48 (6 * y + k)) m := by
  rw [wt_zero (m := m) 6 hm (fun k h1 h2 => ?_)]
  · refine wt_congr m (fun k hk => ?_)
    obtain ⟨t, -, e1, e2, -⟩ := hS y k hy (by omega)
    show G (26 + y) k = G 48 (6 * y + k)
    rw [e1, e2]
  · obtain ⟨t, -, e1, -, e3⟩ := hS y k hy h2
    rw [e1, e3 h1]; rfl
theorem i12m (r : Nat) : (12 : Int32) * nI r = nI (12 * r) := by rw [show (12 : Int32) = nI 12 from rfl, pk_mul]
theorem i6m (r : Nat) : (6 : Int32) * nI r = nI (6 * r) := by rw [show (6 : Int32) = nI 6 from rfl, pk_mul]
theorem ln47 : ln 47 = 72 := rfl
theorem ln48 : ln 48 = 36 := rfl
theorem op_row {G : GS} {B : BS} {v1 v2 : Int32} {P : Int32 → Int32 → Prop} (h : Inv G B) (k : ∀ r, P r r) : wX5_row v1 v2 G (fun r => wX6_row v1 v2 G (fun r2 => P r r2)) := by
  obtain ⟨p, m, n, d, b, q, t, hT, hR, hS, hK⟩ := h
  obtain ⟨hp, ⟨hm0, hm⟩, ⟨hn0, hn⟩, ⟨a0, a1, a2⟩, ⟨b0, b1, b2⟩, hc, -⟩ := hT
  refine s_kept (fun h => ⟨fun _ => ?_, fun h => absurd rfl h⟩) (fun h => ⟨fun e => absurd e (by decide), fun _ => ?_⟩)
  · exact s_six (fun _ => ⟨fun _ => k _, fun h => absurd rfl h⟩) (fun q => absurd q h)
  · obtain ⟨r, hr, rfl⟩ := h
    have six : ∀ {Q : Int32 → Prop}, (wX6_in v2.toInt64 (-1 : Int64) ((G 45 2) - (1 : Int32)).toInt64 (fun r19 => ((¬ r19 = 0 → ((0 ≤ v2 → (vp_in (((12 : Int32) * nI r) + v2) 72 ∧ Q (G 47 (cl (((12 : Int32) * nI r) + v2))))) ∧ (¬ 0 ≤ v2 → (wX6_weight 47 ((12 : Int32) * nI r) (G 45 2) G (fun r44 => Q r44))))) ∧ (r19 = 0 → Q (-1 : Int32))))) → wX6_row (nI r) v2 G Q := fun {Q} hq => s_six (fun q => absurd ⟨r, hr, rfl⟩ q) (fun _ => ⟨fun e => absurd e (by decide), fun _ => hq⟩)
    rw [a2]
    refine s_jX (by omega) (by omega) (fun g => six ?_) (fun g => ?_) (fun g => ?_)
    · exact s_jM hn0 (by omega) (by rw [b2, nI_m1 hn0]) (fun _ => k _) (fun x => absurd (Or.inr x) g) (fun x => absurd (Or.inl x) g)
    · obtain ⟨j, hj, rfl⟩ := g
      refine ⟨vp_in_nI (by omega) (by omega), vp_in_nI (by omega) (by omega), six ?_⟩
      refine s_jM hn0 (by omega) (by rw [b2, nI_m1 hn0]) (fun x => absurd (Or.inr ⟨j, hj, rfl⟩) x) (fun _ => ?_) (fun x => ?_)
      · rw [i12]
        refine ⟨vp_in_nI (by omega) (by omega), ?_⟩
        rw [zc (by omega), zc (by omega), zc (by omega)]
        obtain ⟨z, -, e1, e2, -⟩ := hR r j (by omega) (by omega)
        rw [e1, e2]
        exact k _
      · exact absurd (x ▸ nI_pos' (by omega)) (by decide)
    · subst g
      refine ⟨vp_in_nI (by omega) (by omega), ?_⟩
      rw [zc (by omega)]
      refine s_weight (by rw [ln_20 hr]; omega) (six ?_)
      refine s_jM hn0 (by omega) (by rw [b2, nI_m1 hn0]) (fun x => absurd (Or.inl rfl) x) (fun x => absurd x (inR_neg (by omega) (by decide))) (fun _ => ?_)
      refine s_wtM (12 * r) n (i12m r) b2 (by rw [ln47]; omega) (by rw [ln47]; omega) ?_
      rw [ln_20 hr, wt_row hR hn hr]
      exact k _
