/-! PURE PART: miss -/
theorem Cand_frG {p : Nat} [NeZero p] {G G1 : GS} {m n y : Nat} (hm : m ≤ 6) (h1 : ∀ i, i < 6 → G1 (32 + i) = G (32 + i)) (h2 : G1 (26 + y) = G (26 + y)) (dr v : Nat) (x : Nat → Nat) : Cand p m n G1 y dr v x ↔ Cand p m n G y dr v x := by
  unfold Cand
  rw [colK_fr (G := G) hm h1]
  have : ∀ i, i < m → (ag p n G1 y x i ↔ ag p n G y x i) := fun i hi => by
    unfold ag cS
    have e1 : cA G1 i = cA G i := by funext j; unfold cA; rw [h1 i (by omega)]
    rw [e1, h2]
  constructor
  · rintro ⟨a, b, c, d⟩; exact ⟨a, b, c, fun i hi hb => (this i hi).mp (d i hi hb)⟩
  · rintro ⟨a, b, c, d⟩; exact ⟨a, b, c, fun i hi hb => (this i hi).mpr (d i hi hb)⟩
theorem MI_frG {p : Nat} [NeZero p] {G G1 : GS} {m n y e w : Nat} (hm : m ≤ 6) (h1 : ∀ i, i < 6 → G1 (32 + i) = G (32 + i)) (h2 : G1 (26 + y) = G (26 + y)) (D : Nat → Nat → Prop) (z : Option (Nat × Nat × (Nat → Nat))) : MI p m n G1 y e w D z ↔ MI p m n G y e w D z := by
  have e1 : ∀ dr v x, MC p m n G1 y e w dr v x ↔ MC p m n G y e w dr v x := fun dr v x => by
    unfold MC
    rw [Cand_frG hm h1 h2]
  have e2 : ∀ x, dfN p m n G1 y x = dfN p m n G y x := fun x => by
    refine ctP_congr m (fun i hi => ?_)
    have e1 : cA G1 i = cA G i := by funext j; unfold cA; rw [h1 i (by omega)]
    unfold cS
    rw [e1, h2]
  unfold MI
  simp only [e1, e2]
/-- no row of weight s with just e places left out -/
def NoC (p : Nat) [NeZero p] (m n : Nat) (G : GS) (y s e : Nat) : Prop := ∀ dr v x, dr < 2 ^ m → pc dr = e → v < 2 ^ n → (cr v 0 n).length = s → ¬ Cand p m n G y dr v x
theorem s_ms48 {p : Nat} [NeZero p] {G : GS} {m n y k e w : Nat} {v1 : Int32} {K75 : Int32 → GS → Prop} {K106 : GS → Prop} (hT : TI G p m n) (hS : SI G p m) (hy : y < 6) (he : e ≤ 3) (hw : w ≤ 3) (hK1 : ∀ (G1 : GS) e1 bv bx, (∀ x, x ≠ 2 → x ≠ 11 → x ≠ 12 → x ≠ 13 → x ≠ 14 → ¬ (38 ≤ x ∧ x < 45) → G1 x = G x) → e1 ≤ e → (∀ e2, e2 < e1 → NoC p m n G y w e2) → bv < 2 ^ n → (∃ dr, dr < 2 ^ m ∧ pc dr = e1 ∧ (cr bv 0 n).length = w ∧ Cand p m n G y dr bv bx) → (∀ dr v x, dr < 2 ^ m → pc dr = e1 → v < 2 ^ n → (cr v 0 n).length = w → Cand p m n G y dr v x → ¬ lsV v x bv bx) → (∀ c, c < 12 → G1 14 c = nI (bx c)) → K75 (nI e1) G1) (hK0 : ∀ G1 : GS, (∀ x, x ≠ 2 → x ≠ 11 → x ≠ 12 → x ≠ 13 → x ≠ 14 → ¬ (38 ≤ x ∧ x < 45) → G1 x = G x) → (∀ e2, e2 ≤ e → NoC p m n G y w e2) → K106 G1) : ∀ f e1 (G1 : GS), e1 + f = e + 1 → (∀ x, x ≠ 2 → x ≠ 11 → x ≠ 12 → x ≠ 13 → x ≠ 14 → ¬ (38 ≤ x ∧ x < 45) → G1 x = G x) → (∀ e2, e2 < e1 → NoC p m n G y w e2) → wlX5_miss_48 K75 K106 v1 (nI y) (nI k) (nI e) (nI w) (f + 1) (nI e1) G1 := by
  obtain ⟨-, ⟨hm0, hm⟩, -⟩ := id hT
  intro f
  induction f with
  | zero =>
    intro e1 G1 h1 f1 f2
    exact ⟨fun _ => hK0 G1 f1 (fun e2 h => f2 e2 (by omega)), fun q => absurd (nI_lt (show e < e1 by omega) (by omega)) q⟩
  | succ f ih =>
    intro e1 G1 h1 f1 f2
    have hT1 : TI G1 p m n := TI_fr (fun c hc => f1 c (by omega) (by omega) (by omega) (by omega) (by omega) (by omega)) hT
    have hS1 : SI G1 p m := SI_fr (fun c hc => f1 c (by omega) (by omega) (by omega) (by omega) (by omega) (by omega)) hS
    have cf := Cand_frG (p := p) (n := n) (G := G) (G1 := G1) (y := y) hm (fun i hi => f1 _ (by omega) (by omega) (by omega) (by omega) (by omega) (by omega)) (f1 _ (by omega) (by omega) (by omega) (by omega) (by omega) (by omega))
    refine ⟨fun q => absurd q (nI_nlt (by omega) (by omega)), fun _ => ⟨vp_in_nI (by omega) (by omega), ?_⟩⟩
    rw [zc (by omega), z1]
    refine s_look hT1 hS1 hy (by omega) (by omega) (fun G2 g1 g2 => ⟨fun _ => ?_, fun q => absurd rfl q⟩) (fun G2 bv bx g1 g2 g3 g4 g5 => ⟨fun q => absurd q (by decide), fun _ => ?_⟩)
    · refine ih (e1 + 1) G2 (by omega) (fun x a b c d e2 f2 => by rw [g1 x a b c d e2 f2, f1 x a b c d e2 f2]) (fun e2 h2 => ?_)
      by_cases ee : e2 = e1
      · rw [ee]
        intro dr v x q1 q2 q3 q4 q5
        exact g2 dr v x q1 q2 q3 q4 ((cf dr v x).mpr q5)
      · exact f2 e2 (by omega)
    · refine hK1 G2 e1 bv bx (fun x a b c d e2 f2 => by rw [g1 x a b c d e2 f2, f1 x a b c d e2 f2]) (by omega) f2 g2 ?_ (fun dr v x q1 q2 q3 q4 q5 => g4 dr v x q1 q2 q3 q4 ((cf dr v x).mpr q5)) g5
      obtain ⟨dr, q1, q2, q3, q4⟩ := g3
      exact ⟨dr, q1, q2, q3, (cf dr bv bx).mp q4⟩
theorem s_ms39 {p : Nat} [NeZero p] {G : GS} {m n y k e : Nat} {v1 : Int32} {K75 : Int32 → Int32 → GS → Prop} {K112 : GS → Prop} (hT : TI G p m n) (hS : SI G p m) (hy : y < 6) (he : e ≤ 3) (hk : k ≤ 3) (hK1 : ∀ (G1 : GS) w e1 bv bx, (∀ x, x ≠ 2 → x ≠ 11 → x ≠ 12 → x ≠ 13 → x ≠ 14 → ¬ (38 ≤ x ∧ x < 45) → G1 x = G x) → w ≤ k → (∀ s e2, s < w → e2 ≤ e → NoC p m n G y s e2) → e1 ≤ e → (∀ e2, e2 < e1 → NoC p m n G y w e2) → bv < 2 ^ n → (∃ dr, dr < 2 ^ m ∧ pc dr = e1 ∧ (cr bv 0 n).length = w ∧ Cand p m n G y dr bv bx) → (∀ dr v x, dr < 2 ^ m → pc dr = e1 → v < 2 ^ n → (cr v 0 n).length = w → Cand p m n G y dr v x → ¬ lsV v x bv bx) → (∀ c, c < 12 → G1 14 c = nI (bx c)) → K75 (nI w) (nI e1) G1) (hK0 : ∀ G1 : GS, (∀ x, x ≠ 2 → x ≠ 11 → x ≠ 12 → x ≠ 13 → x ≠ 14 → ¬ (38 ≤ x ∧ x < 45) → G1 x = G x) → (∀ s e2, s ≤ k → e2 ≤ e → NoC p m n G y s e2) → K112 G1) : ∀ f w (G1 : GS), w + f = k + 1 → (∀ x, x ≠ 2 → x ≠ 11 → x ≠ 12 → x ≠ 13 → x ≠ 14 → ¬ (38 ≤ x ∧ x < 45) → G1 x = G x) → (∀ s e2, s < w → e2 ≤ e → NoC p m n G y s e2) → wlX5_miss_39 K75 K112 v1 (nI y) (nI k) (nI e) (f + 1) (nI w) G1 := by
  obtain ⟨-, ⟨hm0, hm⟩, -⟩ := id hT
  intro f
  induction f with
  | zero =>
    intro w G1 h1 f1 f2
    exact ⟨fun _ => hK0 G1 f1 (fun s e2 h => f2 s e2 (by omega)), fun q => absurd (nI_lt (show k < w by omega) (by omega)) q⟩
  | succ f ih =>
    intro w G1 h1 f1 f2
    have hT1 : TI G1 p m n := TI_fr (fun c hc => f1 c (by omega) (by omega) (by omega) (by omega) (by omega) (by omega)) hT
    have hS1 : SI G1 p m := SI_fr (fun c hc => f1 c (by omega) (by omega) (by omega) (by omega) (by omega) (by omega)) hS
    have cf := Cand_frG (p := p) (n := n) (G := G) (G1 := G1) (y := y) hm (fun i hi => f1 _ (by omega) (by omega) (by omega) (by omega) (by omega) (by omega)) (f1 _ (by omega) (by omega) (by omega) (by omega) (by omega) (by omega))
    have nf : ∀ s e2, NoC p m n G1 y s e2 → NoC p m n G y s e2 := fun s e2 hn dr v x q1 q2 q3 q4 q5 => hn dr v x q1 q2 q3 q4 ((cf dr v x).mpr q5)
    refine ⟨fun q => absurd q (nI_nlt (by omega) (by omega)), fun _ => ⟨e + 1 + 1, s_ms48 hT1 hS1 hy he (by omega) (fun G2 e1 bv bx g1 g2 g3 g4 g5 g6 g7 => ?_) (fun G2 g1 g2 => ?_) (e + 1) 0 G1 (by omega) (fun _ _ _ _ _ _ _ => rfl) (fun e2 h => by omega)⟩⟩
    · refine hK1 G2 w e1 bv bx (fun x a b c d e2 f2 => by rw [g1 x a b c d e2 f2, f1 x a b c d e2 f2]) (by omega) f2 g2 (fun e2 h => nf w e2 (g3 e2 h)) g4 ?_ (fun dr v x q1 q2 q3 q4 q5 => g6 dr v x q1 q2 q3 q4 ((cf dr v x).mpr q5)) g7
      obtain ⟨dr, q1, q2, q3, q4⟩ := g5
      exact ⟨dr, q1, q2, q3, (cf dr bv bx).mp q4⟩
    · rw [z1]
      refine ih (w + 1) G2 (by omega) (fun x a b c d e2 f2 => by rw [g1 x a b c d e2 f2, f1 x a b c d e2 f2]) (fun s e2 h h2 => ?_)
      by_cases es : s = w
      · rw [es]; exact nf w e2 (g2 e2 h2)
      · exact f2 s e2 (by omega) h2
theorem op_miss {G : GS} {B : BS} {v1 v2 v3 v4 : Int32} {P : Int32 → Int32 → GS → Prop} (h : Inv G B) (k : ∀ r G2, Inv G2 B → P r r G2) : wX5_miss v1 v2 v3 v4 G (fun r G1 => wX6_miss v1 v2 v3 v4 G1 (fun r2 G2 => P r r2 G2)) := by
  have hI := h
  obtain ⟨p, m, n, d, b, q, t, hT, hR, hS, hK⟩ := h
  obtain ⟨hp, ⟨hm0, hm⟩, ⟨hn0, hn⟩, ⟨a0, a1, a2⟩, ⟨b0, b1, b2⟩, hc, hv⟩ := id hT
  have hp2 := isP_lt hp
  haveI : NeZero p := ⟨by omega⟩
  have inv := TI_inv hT
  have bad : ¬ (inR v1 6 ∧ inR v2 6 ∧ inR v3 4 ∧ inR v4 4) → wX6_miss v1 v2 v3 v4 G (fun r2 G2 => P (-1) r2 G2) := fun hbad =>
    s_six (fun _ => ⟨fun _ => k _ _ hI, fun h => absurd rfl h⟩) (fun g => ⟨fun e => absurd e (by decide), fun _ => s_six (fun _ => ⟨fun _ => k _ _ hI, fun h => absurd rfl h⟩) (fun g2 => ⟨fun e => absurd e (by decide), fun _ => s_in0 (hi := 3) 4 (by omega) (by omega) rfl (fun _ => ⟨fun _ => k _ _ hI, fun h => absurd rfl h⟩) (fun g3 => ⟨fun e => absurd e (by decide), fun _ => s_in0 (hi := 3) 4 (by omega) (by omega) rfl (fun _ => ⟨fun h => absurd rfl h, fun _ => k _ _ hI⟩) (fun g4 => absurd ⟨g, g2, g3, g4⟩ hbad)⟩)⟩)⟩)
  refine s_kept (fun h => ⟨fun _ => bad (fun x => h x.1), fun h => absurd rfl h⟩) (fun h1 => ⟨fun e => absurd e (by decide), fun _ => ?_⟩)
  refine s_kept (fun h => ⟨fun _ => bad (fun x => h x.2.1), fun h => absurd rfl h⟩) (fun h2 => ⟨fun e => absurd e (by decide), fun _ => ?_⟩)
  refine ⟨fun g => bad (fun x => inR_neg (by omega) g x.2.2.1), fun g1 => ⟨fun g => bad (fun x => Int32.not_lt.mpr ((inR_iff (n := 4) (by omega) (by omega)).mpr x.2.2.1).2 g), fun g2 => ⟨fun g => bad (fun x => inR_neg (by omega) g x.2.2.2), fun g3 => ⟨fun g4 => ?_, fun g4 => bad (fun x => g4 ((inR_iff (n := 4) (by omega) (by omega)).mpr x.2.2.2).2)⟩⟩⟩⟩
  have h3 : inR v3 4 := (inR_iff (n := 4) (by omega) (by omega)).mp ⟨Int32.not_lt.mp g1, Int32.not_lt.mp g2⟩
  have h4 : inR v4 4 := (inR_iff (n := 4) (by omega) (by omega)).mp ⟨Int32.not_lt.mp g3, g4⟩
  obtain ⟨r, hr, rfl⟩ := h1
  obtain ⟨y, hy, rfl⟩ := h2
  obtain ⟨kk, hkk, rfl⟩ := h3
  obtain ⟨e, he, rfl⟩ := h4
  have hSp : ∀ i, i < m → cS G y i < p := fun i hi => (SI_A hp2.2 hS hy (by omega)).1
  have mcall : ∀ {G1 : GS} {Q : Int32 → GS → Prop}, (∃ z44 : Nat, wlX6_miss_44 (fun x5_183 x6_183 G_183 => (wX6_keeps (nI r) G_183 (fun G185 => Q (x5_183 + ((100 : Int32) * x6_183)) G185))) (fun G_203 => Q (-2 : Int32) G_203) (nI r) (nI y) (nI kk) (nI e) z44 (0 : Int32) G1) → wX6_miss (nI r) (nI y) (nI kk) (nI e) G1 Q := fun {G1 Q} hq =>
    s_six (fun x => absurd ⟨r, hr, rfl⟩ x) (fun _ => ⟨fun e => absurd e (by decide), fun _ => s_six (fun x => absurd ⟨y, hy, rfl⟩ x) (fun _ => ⟨fun e => absurd e (by decide), fun _ => s_in0 (hi := 3) 4 (by omega) (by omega) rfl (fun x => absurd ⟨kk, hkk, rfl⟩ x) (fun _ => ⟨fun e => absurd e (by decide), fun _ => s_in0 (hi := 3) 4 (by omega) (by omega) rfl (fun x => absurd ⟨e, he, rfl⟩ x) (fun _ => ⟨fun _ => hq, fun e => absurd e (by decide)⟩)⟩)⟩)⟩)
  -- the model's loop over the weights, told where it ends
  have mloop : ∀ (G2 : GS) (Q : Int32 → GS → Prop), (∀ i, i < 6 → G2 (32 + i) = G (32 + i)) → G2 (26 + y) = G (26 + y) → TI G2 p m n → SI G2 p m → (∀ (G1 : GS) w dd bv bx, (∀ x, ¬ (52 ≤ x ∧ x < 55) → G1 x = G2 x) → w ≤ kk → (∀ s, s < w → ∀ dr v x, ¬ MC p m n G y e s dr v x) → dd ≤ 6 → MI p m n G y e w (fun _ _ => True) (some (dd, bv, bx)) → (∀ c, c < 12 → bx c < 100 ∧ G1 54 c = nI (bx c)) → wX6_keeps (nI r) G1 (fun G185 => Q (nI w + ((100 : Int32) * nI dd)) G185)) → (∀ G1 : GS, (∀ x, ¬ (52 ≤ x ∧ x < 55) → G1 x = G2 x) → (∀ s, s ≤ kk → ∀ dr v x, ¬ MC p m n G y e s dr v x) → Q (-2) G1) → ∀ f w (G1 : GS), w + f = kk + 1 → (∀ x, ¬ (52 ≤ x ∧ x < 55) → G1 x = G2 x) → (∀ s, s < w → ∀ dr v x, ¬ MC p m n G y e s dr v x) → wlX6_miss_44 (fun x5_183 x6_183 G_183 => (wX6_keeps (nI r) G_183 (fun G185 => Q (x5_183 + ((100 : Int32) * x6_183)) G185))) (fun G_203 => Q (-2 : Int32) G_203) (nI r) (nI y) (nI kk) (nI e) (f + 1) (nI w) G1 := by
    intro G2 Q q1 q2 hT2 hS2 hK1 hK0 f
    induction f with
    | zero =>
      intro w G1 hw f1 f2
      exact ⟨fun _ => hK0 G1 f1 (fun s hs => f2 s (by omega)), fun q => absurd (nI_lt (show kk < w by omega) (by omega)) q⟩
    | succ f ih =>
      intro w G1 hw f1 f2
      have hT1 : TI G1 p m n := TI_fr (fun c hc => f1 c (by omega)) hT2
      have hS1 : SI G1 p m := SI_fr (fun c hc => f1 c (by omega)) hS2
      refine ⟨fun q => absurd q (nI_nlt (by omega) (by omega)), fun _ => s_m60 hT1 hS1 hy (by omega) (by omega) (fun G3 z v6 v7 w1 w2 w3 => ?_)⟩
      have w3' : MI p m n G y e w (fun _ _ => True) z := (MI_frG hm (fun i hi => by rw [f1 _ (by omega), q1 i hi]) (by rw [f1 _ (by omega), q2]) _ _).mp w3
      have fr3 : ∀ x, ¬ (52 ≤ x ∧ x < 55) → G3 x = G2 x := fun x hx => by rw [w1 x hx, f1 x hx]
      rw [z1]
      cases z with
      | none =>
        have h6 := w2.1 rfl
        subst h6
        refine ⟨fun _ => ih (w + 1) G3 (by omega) fr3 (fun s hs dr v x hM => ?_), fun q => absurd (Int32.le_refl _) q⟩
        by_cases es : s = w
        · rw [es] at hM
          exact w3'.1 rfl v dr x True.intro hM
        · exact f2 s (by omega) dr v x hM
      | some zz =>
        obtain ⟨d6, e6, -, e54⟩ := w2.2 zz.1 zz.2.1 zz.2.2 rfl
        subst e6
        exact ⟨fun q => absurd q (nI_ge (b := 99) (by omega) (by omega)), fun _ => hK1 G3 w zz.1 zz.2.1 zz.2.2 fr3 (by omega) f2 d6 w3' e54⟩
  refine ⟨kk + 1 + 1, s_ms39 hT hS hy (by omega) (by omega) (fun G1 w e1 bv bx f1 f2 f3 f4 f5 f6 f7 f8 f9 => ?_) (fun G1 f1 f2 => ?_) (kk + 1) 0 G (by omega) (fun _ _ _ _ _ _ _ => rfl) (fun s e2 h => by omega)⟩
  · -- found
    obtain ⟨dr, hdr, hpc, hlen, hCd⟩ := f7
    refine ⟨vp_in_nI (by omega) (by omega), ?_⟩
    rw [zc (by omega)]
    refine s_copy 12 (by omega) (by omega) (by rw [ln_20 hr]; rfl) (by decide) (by rw [ln_20 hr]; omega) (fun G2 g1 g2 g3 => ?_)
    have fr2 : ∀ x, x ≠ 2 → x ≠ 11 → x ≠ 12 → x ≠ 13 → x ≠ 14 → ¬ (38 ≤ x ∧ x < 45) → x ≠ 20 + r → G2 x = G x := fun x a b c d e f i => by rw [g1 x i, f1 x a b c d e f]
    have hT2 : TI G2 p m n := TI_fr (fun c hc => fr2 c (by omega) (by omega) (by omega) (by omega) (by omega) (by omega) (by omega)) hT
    have hS2 : SI G2 p m := SI_fr (fun c hc => fr2 c (by omega) (by omega) (by omega) (by omega) (by omega) (by omega) (by omega)) hS
    -- the class's row is a hit of the model
    have hMC : MC p m n G y e w dr bv bx := by
      refine ⟨hdr, by omega, f6, hlen, hCd, fun c hc e0 => ?_⟩
      have hH := cand_hit (by omega) hn hSp hlen hCd
      have hno : ∀ s, s < w → ∀ u, u < 2 ^ n → ¬ Hit (kr dr m).length n s (colK p G dr m) (sumK p G dr m y) u := fun s hs u hu hh => by
        obtain ⟨x, hx⟩ := hit_cand (by omega) hn hSp hh
        exact f3 s (pc dr) hs (by omega) dr u x hdr rfl hu hh.1 hx
      obtain ⟨-, hInd, ξ, hξ, hξ0⟩ := (hit_sv hno f6).mp hH
      refine hξ0 c hc ?_
      rw [← Sol_uniq inv hInd (cand_Sol (by omega) hn hSp hCd) hξ c hc, e0]; rfl
    have mz : ∀ s, s < w → ∀ dr v x, ¬ MC p m n G y e s dr v x := fun s hs dr v x hM => f3 s (pc dr) hs hM.2.1 dr v x hM.1 rfl hM.2.2.1 hM.2.2.2.1 hM.2.2.2.2.1
    have hdf : dfN p m n G y bx = e1 := by
      have h1 := df_le hm hdr hCd
      obtain ⟨dx, x1, x2, x3⟩ := cand_df hm hdr hCd
      rcases Nat.lt_or_ge (dfN p m n G y bx) e1 with z | z
      · exact absurd x3 (f5 _ z dx bv bx x1 x2 f6 hlen)
      · omega
    refine mcall ⟨kk + 1 + 1, mloop G2 _ (fun i hi => fr2 _ (by omega) (by omega) (by omega) (by omega) (by omega) (by omega) (by omega)) (fr2 _ (by omega) (by omega) (by omega) (by omega) (by omega) (by omega) (by omega)) hT2 hS2 (fun G3 w2 dd mv mx w1 hw2 w3 hd6 hMI e54 => ?_) (fun G3 w1 w3 => absurd hMC (w3 w f2 dr bv bx)) (kk + 1) 0 G2 (by omega) (fun _ _ => rfl) (fun s hs => by omega)⟩
    obtain ⟨hd1, ⟨drm, hMm, -⟩, hmin⟩ := hMI.2 dd mv mx rfl
    have ew : w2 = w := by
      rcases Nat.lt_trichotomy w2 w with z | z | z
      · exact absurd hMm (mz w2 z drm mv mx)
      · exact z
      · exact absurd hMC (w3 w z dr bv bx)
    subst ew
    have hm1 := hmin bv dr bx True.intro hMC
    obtain ⟨dx, x1, x2, x3⟩ := cand_df hm hMm.1 hMm.2.2.2.2.1
    have edd : dd = e1 := by
      rcases Nat.lt_or_ge dd e1 with z | z
      · exact absurd x3 (f5 dd z dx mv mx x1 (by omega) hMm.2.2.1 hMm.2.2.2.1)
      · omega
    have hn1 := f8 dx mv mx x1 (by omega) hMm.2.2.1 hMm.2.2.2.1 x3
    have hn2 := hm1.2 (by omega)
    have emv : mv = bv := by
      rcases Nat.lt_trichotomy mv bv with z | z | z
      · exact absurd (Or.inl z) hn1
      · exact z
      · exact absurd (Or.inl z) hn2
    have erow : ∀ c, c < 12 → mx c = bx c := lx_tri (fun q => hn1 (Or.inr ⟨emv, q⟩)) (fun q => hn2 (Or.inr ⟨emv.symm, q⟩))
    refine s_keep hr (fun G4 k1 k2 k3 => ?_)
    rw [edd]
    refine k _ _ ?_
    have fr4 : ∀ x, ¬ (x = 2 ∨ x = 3 ∨ x = 4 ∨ (11 ≤ x ∧ x < 16) ∨ (38 ≤ x ∧ x < 45) ∨ (52 ≤ x ∧ x < 56)) → x ≠ 20 + r → x ≠ 47 → G4 x = G x := fun x a b c => by rw [k1 x c, w1 x (by omega), fr2 x (by omega) (by omega) (by omega) (by omega) (by omega) (by omega) b]
    refine ⟨p, m, n, d, b, q, t, TI_fr (fun c hc => fr4 c (by omega) (by omega) (by omega)) hT, fun r2 j h1 h2 => ?_, SI_fr (fun c hc => fr4 c (by omega) (by omega) (by omega)) hS, KI_fr (fun c hc => fr4 c (by omega) (by omega) (by omega)) hK⟩
    by_cases er : r2 = r
    · subst er
      refine ⟨bx j, hCd.1 j h2, ?_, ?_, fun hj => hCd.2.1 j h2 (fun hm2 => by have := (cr_mem n 0 j).mp hm2; omega)⟩
      · rw [k1 _ (by omega), w1 _ (by omega), g2 j (by omega)]; exact f9 j h2
      · rw [k2 j h2, (e54 j h2).2, erow j h2]
    · rw [fr4 (20 + r2) (by omega) (by omega) (by omega), k3 _ (by omega), w1 47 (by omega), fr2 47 (by omega) (by omega) (by omega) (by omega) (by omega) (by omega) (by omega)]
      exact hR r2 j h1 h2
  · -- none
    have hT2 : TI G1 p m n := TI_fr (fun c hc => f1 c (by omega) (by omega) (by omega) (by omega) (by omega) (by omega)) hT
    have hS2 : SI G1 p m := SI_fr (fun c hc => f1 c (by omega) (by omega) (by omega) (by omega) (by omega) (by omega)) hS
    have mz : ∀ s, s ≤ kk → ∀ dr v x, ¬ MC p m n G y e s dr v x := fun s hs dr v x hM => f2 s (pc dr) hs hM.2.1 dr v x hM.1 rfl hM.2.2.1 hM.2.2.2.1 hM.2.2.2.2.1
    refine mcall ⟨kk + 1 + 1, mloop G1 _ (fun i hi => f1 _ (by omega) (by omega) (by omega) (by omega) (by omega) (by omega)) (f1 _ (by omega) (by omega) (by omega) (by omega) (by omega) (by omega)) hT2 hS2 (fun G3 w2 dd mv mx w1 hw2 w3 hd6 hMI e54 => ?_) (fun G3 w1 w3 => ?_) (kk + 1) 0 G1 (by omega) (fun _ _ => rfl) (fun s hs => by omega)⟩
    · obtain ⟨-, ⟨drm, hMm, -⟩, -⟩ := hMI.2 dd mv mx rfl
      exact absurd hMm (mz w2 hw2 drm mv mx)
    · exact k _ _ (Inv_fr (fun c hc => by rw [w1 c (by omega), f1 c (by omega) (by omega) (by omega) (by omega) (by omega) (by omega)]) hI)
