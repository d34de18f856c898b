theorem op_told {G : GS} {B : BS} {v1 v2 : Int32} {P : Int32 → Int32 → Prop} (h : Inv G B) (k : ∀ r, P r r) : wX5_told v1 v2 G (fun r => wX6_told v1 v2 G (fun r2 => P r r2)) := by
  obtain ⟨p, m, n, d, b, q, t, hT, hR, hS, hK⟩ := h
  obtain ⟨hp, ⟨hm0, hm⟩, ⟨hn0, hn⟩, ⟨a0, a1, a2⟩, ⟨b0, b1, b2⟩, hc, -⟩ := hT
  refine s_kept (fun h => ⟨fun _ => ?_, fun h => absurd rfl h⟩) (fun h => ⟨fun e => absurd e (by decide), fun _ => ?_⟩)
  · exact s_six (fun _ => ⟨fun _ => k _, fun h => absurd rfl h⟩) (fun q => absurd q h)
  · obtain ⟨r, hr, rfl⟩ := h
    have six : ∀ {Q : Int32 → Prop}, (wX6_in v2.toInt64 (-1 : Int64) ((G 45 1) - (1 : Int32)).toInt64 (fun r19 => ((¬ r19 = 0 → ((0 ≤ v2 → (vp_in (((6 : Int32) * nI r) + v2) 36 ∧ Q (G 48 (cl (((6 : Int32) * nI r) + v2))))) ∧ (¬ 0 ≤ v2 → (wX6_weight 48 ((6 : Int32) * nI r) (G 45 1) G (fun r44 => Q r44))))) ∧ (r19 = 0 → Q (-1 : Int32))))) → wX6_told (nI r) v2 G Q := fun {Q} hq => s_six (fun q => absurd ⟨r, hr, rfl⟩ q) (fun _ => ⟨fun e => absurd e (by decide), fun _ => hq⟩)
    rw [a1]
    refine s_jX (by omega) (by omega) (fun g => six ?_) (fun g => ?_) (fun g => ?_)
    · exact s_jM hm0 (by omega) (by rw [b1, nI_m1 hm0]) (fun _ => k _) (fun x => absurd (Or.inr x) g) (fun x => absurd (Or.inl x) g)
    · obtain ⟨j, hj, rfl⟩ := g
      refine ⟨vp_in_nI (by omega) (by omega), vp_in_nI (by omega) (by omega), six ?_⟩
      refine s_jM hm0 (by omega) (by rw [b1, nI_m1 hm0]) (fun x => absurd (Or.inr ⟨j, hj, rfl⟩) x) (fun _ => ?_) (fun x => ?_)
      · rw [i6]
        refine ⟨vp_in_nI (by omega) (by omega), ?_⟩
        rw [zc (by omega), zc (by omega), zc (by omega)]
        obtain ⟨z, -, e1, e2, -⟩ := hS r j (by omega) (by omega)
        rw [e1, e2]
        exact k _
      · exact absurd (x ▸ nI_pos' (by omega)) (by decide)
    · subst g
      refine ⟨vp_in_nI (by omega) (by omega), ?_⟩
      rw [zc (by omega)]
      refine s_weight (by rw [ln_26 hr]; omega) (six ?_)
      refine s_jM hm0 (by omega) (by rw [b1, nI_m1 hm0]) (fun x => absurd (Or.inl rfl) x) (fun x => absurd x (inR_neg (by omega) (by decide))) (fun _ => ?_)
      refine s_wtM (6 * r) m (i6m r) b1 (by rw [ln48]; omega) (by rw [ln48]; omega) ?_
      rw [ln_26 hr, wt_sum hS hm hr]
      exact k _
theorem TI_fr {G G' : GS} {p m n : Nat} (h : ∀ c, (c = 1 ∨ c = 9 ∨ c = 45 ∨ c = 46 ∨ (32 ≤ c ∧ c < 38)) → G' c = G c) (hT : TI G p m n) : TI G' p m n := by
  obtain ⟨h1, h2, h3, h4, h5, h6, h7⟩ := hT
  refine ⟨h1, h2, h3, ?_, ?_, fun i j hi hj => ?_, fun a x y => ?_⟩
  · rw [h 1 (by omega)]; exact h4
  · rw [h 45 (by omega)]; exact h5
  · rw [h (32 + i) (by omega), h 46 (by omega)]; exact h6 i j hi hj
  · rw [h 9 (by omega)]; exact h7 a x y
theorem RI_fr {G G' : GS} {p n : Nat} (h : ∀ c, ((20 ≤ c ∧ c < 26) ∨ c = 47) → G' c = G c) (hR : RI G p n) : RI G' p n := fun r j hr hj => by
  rw [h (20 + r) (by omega), h 47 (by omega)]; exact hR r j hr hj
theorem SI_fr {G G' : GS} {p m : Nat} (h : ∀ c, ((26 ≤ c ∧ c < 32) ∨ c = 48) → G' c = G c) (hS : SI G p m) : SI G' p m := fun r j hr hj => by
  rw [h (26 + r) (by omega), h 48 (by omega)]; exact hS r j hr hj
theorem KI_fr {G G' : GS} {B : BS} {d b q t : Nat} (h : ∀ c, (c = 5 ∨ c = 18 ∨ c = 19 ∨ c = 45 ∨ c = 50 ∨ c = 51) → G' c = G c) (hK : KI G B d b q t) : KI G' B d b q t := by
  obtain ⟨h1, h2, h3, h4, h5, h6, h7, h8, h9⟩ := hK
  refine ⟨h1, h2, h3, h4, ?_, ?_, h7, h8, fun k x y => ?_⟩
  · rw [h 5 (by omega)]; exact h5
  · rw [h 45 (by omega)]; exact h6
  · rw [h 18 (by omega), h 19 (by omega), h 50 (by omega), h 51 (by omega)]; exact h9 k x y
theorem RI_put {G : GS} {p n r j t : Nat} (hR : RI G p n) (hr : r < 6) (hj : j < n) (hn : n ≤ 12) (ht : t < p) : RI (wr (wr G (20 + r) j (nI t)) 47 (12 * r + j) (nI t)) p n := by
  intro r2 j2 h1 h2
  by_cases e : r2 = r ∧ j2 = j
  · obtain ⟨rfl, rfl⟩ := e
    exact ⟨t, ht, by rw [wr_ne (by omega), wr_ss], by rw [wr_ss], fun h => by omega⟩
  · obtain ⟨z, z1, z2, z3, z4⟩ := hR r2 j2 h1 h2
    refine ⟨z, z1, ?_, ?_, z4⟩
    · rw [wr_ne (by omega)]
      by_cases e2 : r2 = r
      · subst e2
        rw [wr_sn (fun q => e ⟨rfl, q⟩)]; exact z2
      · rw [wr_ne (by omega)]; exact z2
    · rw [wr_sn (by omega), wr_ne (by omega)]; exact z3
theorem SI_put {G : GS} {p m y i t : Nat} (hS : SI G p m) (hy : y < 6) (hi : i < m) (hm : m ≤ 6) (ht : t < p) : SI (wr (wr G (26 + y) i (nI t)) 48 (6 * y + i) (nI t)) p m := by
  intro y2 i2 h1 h2
  by_cases e : y2 = y ∧ i2 = i
  · obtain ⟨rfl, rfl⟩ := e
    exact ⟨t, ht, by rw [wr_ne (by omega), wr_ss], by rw [wr_ss], fun h => by omega⟩
  · obtain ⟨z, z1, z2, z3, z4⟩ := hS y2 i2 h1 h2
    refine ⟨z, z1, ?_, ?_, z4⟩
    · rw [wr_ne (by omega)]
      by_cases e2 : y2 = y
      · subst e2
        rw [wr_sn (fun q => e ⟨rfl, q⟩)]; exact z2
      · rw [wr_ne (by omega)]; exact z2
    · rw [wr_sn (by omega), wr_ne (by omega)]; exact z3
theorem op_put {G : GS} {B : BS} {v1 v2 v3 : Int32} {P : Int32 → Int32 → GS → Prop} (h : Inv G B) (k : ∀ r G2, Inv G2 B → P r r G2) : wX5_put v1 v2 v3 G (fun r G1 => wX6_put v1 v2 v3 G1 (fun r2 G2 => P r r2 G2)) := by
  have hI := h
  obtain ⟨p, m, n, d, b, q, t, hT, hR, hS, hK⟩ := h
  obtain ⟨hp, ⟨hm0, hm⟩, ⟨hn0, hn⟩, ⟨a0, a1, a2⟩, ⟨b0, b1, b2⟩, hc, hv⟩ := id hT
  have hp2 := isP_lt hp
  have bad : ∀ (hbad : ¬ (inR v1 6 ∧ inR v2 n)), wX6_put v1 v2 v3 G (fun r2 G2 => P (-1) r2 G2) := fun hbad =>
    s_six (fun _ => ⟨fun _ => k _ _ hI, fun h => absurd rfl h⟩) (fun g => ⟨fun e => absurd e (by decide), fun _ => s_in0 n hn0 (by omega) (by rw [b2, nI_m1 hn0]) (fun _ => ⟨fun h => absurd rfl h, fun _ => k _ _ hI⟩) (fun x => absurd ⟨g, x⟩ hbad)⟩)
  refine s_kept (fun h => ⟨fun _ => bad (fun x => h x.1), fun h => absurd rfl h⟩) (fun h => ⟨fun e => absurd e (by decide), fun _ => ?_⟩)
  rw [a2]
  refine ⟨fun g => bad (fun x => inR_neg (by omega) g x.2), fun g => ⟨fun g2 => ?_, fun g2 => bad (fun x => inR_big (by omega) (Int32.not_lt.mp g2) x.2)⟩⟩
  have hj := inR_of (n := n) (by omega) g (Int32.not_le.mpr g2)
  obtain ⟨r, hr, rfl⟩ := h
  obtain ⟨j, hj, rfl⟩ := hj
  refine ⟨vp_in_nI (by omega) (by omega), s_rem (p := p) (by omega) (by omega) a0 ⟨vp_in_nI (by omega) (by omega), fun G1 e1 => ⟨vp_in_nI (by omega) (by omega), ?_⟩⟩⟩
  rw [zc (by omega), zc (by omega)] at e1
  rw [zc (by omega)]
  refine s_weight (by rw [ln_20 hr]; omega) ?_
  have f1 : ∀ c, c ≠ 20 + r → G1 c = G c := fun c hc => by rw [e1, wr_ne hc]
  refine s_six (fun x => absurd ⟨r, hr, rfl⟩ x) (fun _ => ⟨fun e => absurd e (by decide), fun _ => ?_⟩)
  refine s_in0 n hn0 (by omega) (by rw [f1 45 (by omega), b2, nI_m1 hn0]) (fun x => absurd ⟨j, hj, rfl⟩ x) (fun _ => ⟨fun _ => ?_, fun e => absurd e (by decide)⟩)
  refine s_by (p := p) (by omega) (by omega) (by rw [f1 45 (by omega), b0]) ?_
  rw [i12]
  refine ⟨vp_in_nI (by omega) (by omega), fun G2 e2 => ?_⟩
  rw [zc (by omega)] at e2
  have f2 : ∀ c, c ≠ 20 + r → c ≠ 47 → G2 c = G c := fun c h1 h2 => by rw [e2, wr_ne h2, f1 c h1]
  have hR2 : RI G2 p n := by rw [e2, e1]; exact RI_put hR hr hj hn (rmd_lt v3 (by omega))
  refine s_wtM (12 * r) n (i12m r) (by rw [f2 45 (by omega) (by omega), b2]) (by rw [ln47]; omega) (by rw [ln47]; omega) ?_
  have e3 : wt (G1 (20 + r)) 12 = wt (fun k => G2 47 (12 * r + k)) n := by
    rw [← wt_row hR2 hn hr]
    have : G2 (20 + r) = G1 (20 + r) := by rw [e2, wr_ne (by omega)]
    rw [this]
  rw [ln_20 hr, e3]
  exact k _ _ ⟨p, m, n, d, b, q, t, TI_fr (fun c hc => f2 c (by omega) (by omega)) hT, hR2, SI_fr (fun c hc => f2 c (by omega) (by omega)) hS, KI_fr (fun c hc => f2 c (by omega) (by omega)) hK⟩
