theorem op_sum {G : GS} {B : BS} {v1 v2 v3 : Int32} {P : Int32 → Int32 → GS → Prop} (h : Inv G B) (k : ∀ r G2, Inv G2 B → P r r G2) : wX5_sum v1 v2 v3 G (fun r G1 => wX6_sum v1 v2 v3 G1 (fun r2 G2 => P r r2 G2)) := by
  have hI := h
  obtain ⟨p, m, n, d, b, q, t, hT, hR, hS, hK⟩ := h
  obtain ⟨hp, ⟨hm0, hm⟩, ⟨hn0, hn⟩, ⟨a0, a1, a2⟩, ⟨b0, b1, b2⟩, hc, hv⟩ := id hT
  have hp2 := isP_lt hp
  have bad : ∀ (hbad : ¬ (inR v1 6 ∧ inR v2 m)), wX6_sum v1 v2 v3 G (fun r2 G2 => P (-1) r2 G2) := fun hbad =>
    s_six (fun _ => ⟨fun _ => k _ _ hI, fun h => absurd rfl h⟩) (fun g => ⟨fun e => absurd e (by decide), fun _ => s_in0 m hm0 (by omega) (by rw [b1, nI_m1 hm0]) (fun _ => ⟨fun h => absurd rfl h, fun _ => k _ _ hI⟩) (fun x => absurd ⟨g, x⟩ hbad)⟩)
  refine s_kept (fun h => ⟨fun _ => bad (fun x => h x.1), fun h => absurd rfl h⟩) (fun h => ⟨fun e => absurd e (by decide), fun _ => ?_⟩)
  rw [a1]
  refine ⟨fun g => bad (fun x => inR_neg (by omega) g x.2), fun g => ⟨fun g2 => ?_, fun g2 => bad (fun x => inR_big (by omega) (Int32.not_lt.mp g2) x.2)⟩⟩
  have hj := inR_of (n := m) (by omega) g (Int32.not_le.mpr g2)
  obtain ⟨r, hr, rfl⟩ := h
  obtain ⟨j, hj, rfl⟩ := hj
  refine ⟨vp_in_nI (by omega) (by omega), s_rem (p := p) (by omega) (by omega) a0 ⟨vp_in_nI (by omega) (by omega), fun G1 e1 => ⟨vp_in_nI (by omega) (by omega), ?_⟩⟩⟩
  rw [zc (by omega), zc (by omega)] at e1
  rw [zc (by omega)]
  refine s_weight (by rw [ln_26 hr]; omega) ?_
  have f1 : ∀ c, c ≠ 26 + r → G1 c = G c := fun c hc => by rw [e1, wr_ne hc]
  refine s_six (fun x => absurd ⟨r, hr, rfl⟩ x) (fun _ => ⟨fun e => absurd e (by decide), fun _ => ?_⟩)
  refine s_in0 m hm0 (by omega) (by rw [f1 45 (by omega), b1, nI_m1 hm0]) (fun x => absurd ⟨j, hj, rfl⟩ x) (fun _ => ⟨fun _ => ?_, fun e => absurd e (by decide)⟩)
  refine s_by (p := p) (by omega) (by omega) (by rw [f1 45 (by omega), b0]) ?_
  rw [i6]
  refine ⟨vp_in_nI (by omega) (by omega), fun G2 e2 => ?_⟩
  rw [zc (by omega)] at e2
  have f2 : ∀ c, c ≠ 26 + r → c ≠ 48 → G2 c = G c := fun c h1 h2 => by rw [e2, wr_ne h2, f1 c h1]
  have hS2 : SI G2 p m := by rw [e2, e1]; exact SI_put hS hr hj hm (rmd_lt v3 (by omega))
  refine s_wtM (6 * r) m (i6m r) (by rw [f2 45 (by omega) (by omega), b1]) (by rw [ln48]; omega) (by rw [ln48]; omega) ?_
  have e3 : wt (G1 (26 + r)) 6 = wt (fun k => G2 48 (6 * r + k)) m := by
    rw [← wt_sum hS2 hm hr]
    have : G2 (26 + r) = G1 (26 + r) := by rw [e2, wr_ne (by omega)]
    rw [this]
  rw [ln_26 hr, e3]
  exact k _ _ ⟨p, m, n, d, b, q, t, TI_fr (fun c hc => f2 c (by omega) (by omega)) hT, RI_fr (fun c hc => f2 c (by omega) (by omega)) hR, hS2, KI_fr (fun c hc => f2 c (by omega) (by omega)) hK⟩
theorem op_set {G : GS} {B : BS} {v1 v2 v3 : Int32} {P : Int32 → Int32 → GS → Prop} (h : Inv G B) (k : ∀ r G2, Inv G2 B → P r r G2) : wX5_set v1 v2 v3 G (fun r G1 => wX6_set v1 v2 v3 G1 (fun r2 G2 => P r r2 G2)) := by
  have hI := h
  obtain ⟨p, m, n, d, b, q, t, hT, hR, hS, hK⟩ := h
  obtain ⟨hp, ⟨hm0, hm⟩, ⟨hn0, hn⟩, ⟨a0, a1, a2⟩, ⟨b0, b1, b2⟩, hc, hv⟩ := id hT
  have hp2 := isP_lt hp
  refine s_has (by omega) (by omega) a1 a2 (fun h => ⟨fun h => absurd rfl h, fun _ => ?_⟩) (fun h1 h2 => ⟨fun _ => ?_, fun e => absurd e (by decide)⟩)
  · exact s_place hm0 hn0 (by omega) (by omega) b1 b2 (fun _ => ⟨fun h => absurd rfl h, fun _ => k _ _ hI⟩) (fun x y => absurd ⟨x, y⟩ h)
  · obtain ⟨i, hi, rfl⟩ := h1
    obtain ⟨j, hj, rfl⟩ := h2
    refine ⟨vp_in_nI (by omega) (by omega), vp_in_nI (by omega) (by omega), fun x ex => ⟨vp_in_nI (by omega) (by omega), s_rem (p := p) (by omega) (by omega) a0 ⟨vp_in_nI (by omega) (by omega), fun G1 e1 => ?_⟩⟩⟩
    rw [zc (by omega), zc (by omega)] at e1 ex
    have f1 : ∀ c, c ≠ 32 + i → G1 c = G c := fun c hc => by rw [e1, wr_ne hc]
    refine s_place hm0 hn0 (by omega) (by omega) (by rw [f1 45 (by omega), b1]) (by rw [f1 45 (by omega), b2]) (fun h => absurd ⟨⟨i, hi, rfl⟩, ⟨j, hj, rfl⟩⟩ h) (fun _ _ => ⟨fun _ => ?_, fun e => absurd e (by decide)⟩)
    rw [i12]
    refine ⟨vp_in_nI (by omega) (by omega), fun x2 ex2 => s_by (p := p) (by omega) (by omega) (by rw [f1 45 (by omega), b0]) ⟨vp_in_nI (by omega) (by omega), fun G2 e2 => ?_⟩⟩
    rw [zc (by omega)] at e2 ex2
    have f2 : ∀ c, c ≠ 32 + i → c ≠ 46 → G2 c = G c := fun c h1 h2 => by rw [e2, wr_ne h2, f1 c h1]
    obtain ⟨z, -, z1, z2⟩ := hc i j (by omega) (by omega)
    have exx : x2 = x := by rw [ex, ex2, f1 46 (by omega), z1, z2]
    rw [exx]
    refine k _ _ ⟨p, m, n, d, b, q, t, ⟨hp, ⟨hm0, hm⟩, ⟨hn0, hn⟩, ?_, ?_, fun i2 j2 h1 h2 => ?_, fun a x y => ?_⟩, RI_fr (fun c hc => f2 c (by omega) (by omega)) hR, SI_fr (fun c hc => f2 c (by omega) (by omega)) hS, KI_fr (fun c hc => f2 c (by omega) (by omega)) hK⟩
    · rw [f2 1 (by omega) (by omega)]; exact ⟨a0, a1, a2⟩
    · rw [f2 45 (by omega) (by omega)]; exact ⟨b0, b1, b2⟩
    · by_cases e : i2 = i ∧ j2 = j
      · obtain ⟨rfl, rfl⟩ := e
        exact ⟨rmd v3 p, rmd_lt v3 (by omega), by rw [e2, wr_ne (by omega), e1, wr_ss], by rw [e2, wr_ss]⟩
      · obtain ⟨y, y1, y2, y3⟩ := hc i2 j2 h1 h2
        refine ⟨y, y1, ?_, ?_⟩
        · rw [e2, wr_ne (by omega), e1]
          by_cases e3 : i2 = i
          · subst e3
            rw [wr_sn (fun q => e ⟨rfl, q⟩)]; exact y2
          · rw [wr_ne (by omega)]; exact y2
        · rw [e2, wr_sn (by omega), f1 46 (by omega)]; exact y3
    · rw [f2 9 (by omega) (by omega)]; exact hv a x y
