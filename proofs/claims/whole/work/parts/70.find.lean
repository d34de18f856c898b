/-! PURE PART: find -/
theorem AnsR_fr {p : Nat} [NeZero p] {F F' : Nat → Int32} {h n v : Nat} {C : Nat → Nat → Fin p} {Y : Nat → Fin p} (e : ∀ c, c < 12 → F' c = F c) (hA : AnsR F h n C Y v) : AnsR F' h n C Y v := by
  obtain ⟨x, h1, h2, h3⟩ := hA
  exact ⟨x, fun c hc => by rw [e c hc]; exact h1 c hc, h2, h3⟩
/-- two rows that tell the same by the same set are the same -/
theorem AnsR_eq {p : Nat} [NeZero p] (inv : hasInv p) {F F' : Nat → Int32} {h n v : Nat} {C : Nat → Nat → Fin p} {Y : Nat → Fin p} (hI : Ind h ((cr v 0 n).map C)) (h1 : AnsR F h n C Y v) (h2 : AnsR F' h n C Y v) (c : Nat) (hc : c < 12) : F c = F' c := by
  obtain ⟨x, x1, x2, x3⟩ := h1
  obtain ⟨y, y1, y2, y3⟩ := h2
  have e : x c = y c := by
    by_cases q : c ∈ cr v 0 n
    · exact fK_inj (x1 c hc).1 (y1 c hc).1 (Sol_uniq inv hI x3 y3 c q)
    · rw [x2 c hc q, y2 c hc q]
  rw [(x1 c hc).2, (y1 c hc).2, e]
theorem sumK_fr {p : Nat} [NeZero p] {G G1 : GS} {dr m y : Nat} (h : G1 (26 + y) = G (26 + y)) : sumK p G1 dr m y = sumK p G dr m y := by
  funext k
  unfold sumK cS
  rw [h]
theorem s_best {G : GS} {P : GS → Prop} (hK : ∀ G1 : GS, (∀ c, c ≠ 54 → G1 c = G c) → (∀ c, c < 12 → G1 54 c = G 53 c) → P G1) : wX6_isBest G P := by
  have key : ∀ f i (G1 : GS), i + f = 12 → (∀ c, c ≠ 54 → G1 c = G c) → (∀ c, c < i → G1 54 c = G 53 c) → wlX6_isBest_2 (fun G1 => P G1) (f + 1) (nI i) G1 := by
    intro f
    induction f with
    | zero =>
      intro i G1 hi h1 h2
      have e : i = 12 := by omega
      subst e
      exact ⟨fun _ => hK G1 h1 h2, fun h => absurd (Int32.le_refl _) h⟩
    | succ f ih =>
      intro i G1 hi h1 h2
      refine ⟨fun h => absurd h (nI_ge (b := 12) (by omega) (by omega)), fun _ => ⟨vp_in_nI (by omega) (by omega), vp_in_nI (by omega) (by omega), fun G2 e => ?_⟩⟩
      rw [zc (by omega)] at e
      rw [z1]
      refine ih (i + 1) G2 (by omega) (fun c hc => by rw [e, wr_ne hc, h1 c hc]) (fun c hc => ?_)
      by_cases ec : c = i
      · rw [ec, e, wr_ss, h1 53 (by omega)]
      · rw [e, wr_sn ec]; exact h2 c (by omega)
  exact ⟨13, key 12 0 G (by omega) (fun _ _ => rfl) (fun c hc => by omega)⟩
theorem s_keep {G : GS} {r : Nat} {P : GS → Prop} (hr : r < 6) (hK : ∀ G1 : GS, (∀ c, c ≠ 47 → G1 c = G c) → (∀ c, c < 12 → G1 47 (12 * r + c) = G 54 c) → (∀ x, (x < 12 * r ∨ 12 * r + 12 ≤ x) → G1 47 x = G 47 x) → P G1) : wX6_keeps (nI r) G P := by
  have key : ∀ f i (G1 : GS), i + f = 12 → (∀ c, c ≠ 47 → G1 c = G c) → (∀ c, c < i → G1 47 (12 * r + c) = G 54 c) → (∀ x, (x < 12 * r ∨ 12 * r + 12 ≤ x) → G1 47 x = G 47 x) → wlX6_keeps_2 (fun G1 => P G1) (nI r) (f + 1) (nI i) G1 := by
    intro f
    induction f with
    | zero =>
      intro i G1 hi h1 h2 h3
      have e : i = 12 := by omega
      subst e
      exact ⟨fun _ => hK G1 h1 h2 h3, fun h => absurd (Int32.le_refl _) h⟩
    | succ f ih =>
      intro i G1 hi h1 h2 h3
      unfold wlX6_keeps_2
      rw [i12]
      refine ⟨fun h => absurd h (nI_ge (b := 12) (by omega) (by omega)), fun _ => ⟨vp_in_nI (by omega) (by omega), vp_in_nI (by omega) (by omega), fun G2 e => ?_⟩⟩
      rw [zc (by omega), zc (by omega)] at e
      rw [z1]
      refine ih (i + 1) G2 (by omega) (fun c hc => by rw [e, wr_ne hc, h1 c hc]) (fun c hc => ?_) (fun x hx => by rw [e, wr_sn (by omega), h3 x hx])
      by_cases ec : c = i
      · rw [ec, e, wr_ss, h1 54 (by omega)]
      · rw [e, wr_sn (by omega)]; exact h2 c (by omega)
  exact ⟨13, key 12 0 G (by omega) (fun _ _ => rfl) (fun c hc => by omega) (fun _ _ => rfl)⟩
/-- the class: how many ways, and the first, for a weight -/
noncomputable def wyX (p : Nat) [NeZero p] (G : GS) (dr m n y cap size : Nat) : Nat × Nat := scn (Hit (kr dr m).length n size (colK p G dr m) (sumK p G dr m y)) cap 0 (2 ^ n) (0, 0)
/-- the model's -/
noncomputable def wyM (p : Nat) [NeZero p] (G : GS) (m n y size : Nat) : Nat × Nat := scn (fun v => (cr v 0 n).length = size ∧ Svh (kr 0 m).length n (colK p G 0 m) (sumK p G 0 m y) v) 5000 0 (2 ^ n) (0, 0)
theorem wyX_fr {p : Nat} [NeZero p] {G G1 : GS} {dr m n y cap size : Nat} (hm : m ≤ 6) (h1 : ∀ i, i < 6 → G1 (32 + i) = G (32 + i)) (h2 : G1 (26 + y) = G (26 + y)) : wyX p G1 dr m n y cap size = wyX p G dr m n y cap size := by
  unfold wyX
  rw [colK_fr hm h1, sumK_fr h2]
theorem s_fdX {p : Nat} [NeZero p] {G : GS} {m n r y k : Nat} {v1 : Int32} {K58 : Int32 → Int32 → GS → Prop} {K97 : GS → Prop} (hT : TI G p m n) (hS : SI G p m) (hy : y < 6) (hk : k ≤ 4) (hK1 : ∀ (G1 : GS) size, (∀ x, x ≠ 2 → x ≠ 11 → x ≠ 12 → x ≠ 13 → ¬ (38 ≤ x ∧ x < 45) → G1 x = G x) → size ≤ k → (∀ s, s < size → (wyX p G 0 m n y 2 s).1 = 0) → (wyX p G 0 m n y 2 size).1 ≠ 0 → AnsR (G1 13) (kr 0 m).length n (colK p G 0 m) (sumK p G 0 m y) (wyX p G 0 m n y 2 size).2 → K58 (nI size) (nI (wyX p G 0 m n y 2 size).1) G1) (hK0 : ∀ G1 : GS, (∀ x, x ≠ 2 → x ≠ 11 → x ≠ 12 → x ≠ 13 → ¬ (38 ≤ x ∧ x < 45) → G1 x = G x) → (∀ s, s ≤ k → (wyX p G 0 m n y 2 s).1 = 0) → K97 G1) : ∀ f size (G1 : GS), size + f = k + 1 → (∀ x, x ≠ 2 → x ≠ 11 → x ≠ 12 → x ≠ 13 → ¬ (38 ≤ x ∧ x < 45) → G1 x = G x) → (∀ s, s < size → (wyX p G 0 m n y 2 s).1 = 0) → wlX5_find_28 K58 K97 v1 (nI y) (nI k) (f + 1) (nI size) G1 := by
  obtain ⟨-, ⟨hm0, hm⟩, -⟩ := id hT
  intro f
  induction f with
  | zero =>
    intro size G1 hs f1 f2
    exact ⟨fun _ => hK0 G1 f1 (fun s h => f2 s (by omega)), fun q => absurd (nI_lt (show k < size by omega) (by omega)) q⟩
  | succ f ih =>
    intro size G1 hs f1 f2
    refine ⟨fun q => absurd q (nI_nlt (by omega) (by omega)), fun _ => ⟨vp_in_nI (by omega) (by omega), ?_⟩⟩
    rw [zc (by omega), z1]
    have hT1 : TI G1 p m n := TI_fr (fun c hc => f1 c (by omega) (by omega) (by omega) (by omega) (by omega)) hT
    have hS1 : SI G1 p m := SI_fr (fun c hc => f1 c (by omega) (by omega) (by omega) (by omega) (by omega)) hS
    refine s_ways (dr := 0) (size := size) (cap := 2) hT1 hS1 (by omega) hy (by omega) (by omega) (by omega) (fun G2 g1 g2 => ?_)
    have e1 : wyX p G1 0 m n y 2 size = wyX p G 0 m n y 2 size := wyX_fr hm (fun i hi => f1 _ (by omega) (by omega) (by omega) (by omega) (by omega)) (f1 _ (by omega) (by omega) (by omega) (by omega) (by omega))
    have g1' : ∀ x, x ≠ 2 → x ≠ 11 → x ≠ 12 → x ≠ 13 → ¬ (38 ≤ x ∧ x < 45) → G2 x = G x := fun x a b c d e => by rw [g1 x a b c d e, f1 x a b c d e]
    change ((wyX p G1 0 m n y 2 size).1 ≠ 0 → G2 2 9 = nI (wyX p G1 0 m n y 2 size).2 ∧ AnsR (G2 13) (kr 0 m).length n (colK p G1 0 m) (sumK p G1 0 m y) (wyX p G1 0 m n y 2 size).2) at g2
    show (nI (wyX p G1 0 m n y 2 size).1 ≤ 0 → wlX5_find_28 K58 K97 v1 (nI y) (nI k) (f + 1) (nI (size + 1)) G2) ∧ (¬ nI (wyX p G1 0 m n y 2 size).1 ≤ 0 → K58 (nI size) (nI (wyX p G1 0 m n y 2 size).1) G2)
    rw [colK_fr (G := G) hm (fun i hi => f1 _ (by omega) (by omega) (by omega) (by omega) (by omega)), sumK_fr (f1 (26 + y) (by omega) (by omega) (by omega) (by omega) (by omega)), e1] at g2
    have hle : (wyX p G 0 m n y 2 size).1 ≤ 2 := (scn_le _ 2 (2 ^ n) 0 (0, 0) (by show 0 ≤ 2; omega)).2
    have z0 : nI (wyX p G 0 m n y 2 size).1 ≤ 0 ↔ (wyX p G 0 m n y 2 size).1 ≤ 0 := nI_leI (b := 0) (by omega) (by omega)
    rw [e1, z0]
    refine ⟨fun q => ih (size + 1) G2 (by omega) g1' (fun s h => ?_), fun q => hK1 G2 size g1' (by omega) f2 (by omega) (g2 (by omega)).2⟩
    by_cases es : s = size
    · rw [es]; omega
    · exact f2 s (by omega)
theorem s_fdM_i {p : Nat} [NeZero p] {G : GS} {m n y size : Nat} {v1 v3 : Int32} {K : Int32 → GS → Prop} (hT : TI G p m n) (hS : SI G p m) (hy : y < 6) (hsz : size ≤ 4) (hK : ∀ G1 : GS, (∀ x, ¬ (52 ≤ x ∧ x < 55) → G1 x = G x) → ((wyM p G m n y size).1 ≠ 0 → AnsR (G1 54) (kr 0 m).length n (colK p G 0 m) (sumK p G 0 m y) (wyM p G m n y size).2) → K (nI (wyM p G m n y size).1) G1) : ∃ z, wlX6_find_43 K v1 (nI y) v3 (nI size) z 0 0 G := by
  obtain ⟨-, ⟨hm0, hm⟩, ⟨hn0, hn⟩, -, ⟨b0, b1, b2⟩, -, -⟩ := id hT
  have hpow : 2 ^ n ≤ 2 ^ 12 := Nat.pow_le_pow_right (by omega) hn
  have key : ∀ f v (G1 : GS) (s : Nat × Nat), v + f = 2 ^ n → s.1 ≤ v → (∀ x, ¬ (52 ≤ x ∧ x < 55) → G1 x = G x) → (s.1 ≠ 0 → AnsR (G1 54) (kr 0 m).length n (colK p G 0 m) (sumK p G 0 m y) s.2) → scn (fun v => (cr v 0 n).length = size ∧ Svh (kr 0 m).length n (colK p G 0 m) (sumK p G 0 m y) v) 5000 v f s = wyM p G m n y size → wlX6_find_43 K v1 (nI y) v3 (nI size) (f + 1) (nI s.1) (nI v) G1 := by
    intro f
    induction f with
    | zero =>
      intro v G1 s hv hs1 f1 f2 f3
      have e : v = 2 ^ n := by omega
      subst e
      have f3 : s = wyM p G m n y size := f3
      unfold wlX6_find_43
      rw [f1 45 (by omega), b2, sh_I (by omega)]
      refine ⟨fun _ => ?_, fun h => absurd (Int32.le_refl _) h⟩
      rw [f3] at f2 ⊢
      exact hK G1 f1 f2
    | succ f ih =>
      intro v G1 s hv hs1 f1 f2 f3
      have hv2 : v < 2 ^ n := by omega
      have hcl := cr_len (v := v) n 0
      have a1 := scn_add (fun v => (cr v 0 n).length = size ∧ Svh (kr 0 m).length n (colK p G 0 m) (sumK p G 0 m y) v) 5000 1 v f s
      rw [show 1 + f = f + 1 by omega] at a1
      rw [a1] at f3
      unfold wlX6_find_43
      rw [f1 45 (by omega), b2, sh_I (by omega), z1]
      refine ⟨fun h => absurd h (nI_ge (by omega) (by omega)), fun _ => s_bits (by omega) ?_⟩
      rw [cr_12 hv2 hn, nI_eq (by omega) (by omega)]
      refine ⟨fun e => ?_, fun e => ?_⟩
      · rw [scn_miss (fun q => e q.2.1)] at f3
        exact ih (v + 1) G1 s (by omega) (by omega) f1 f2 f3
      · have hT1 : TI G1 p m n := TI_fr (fun c hc => f1 c (by omega)) hT
        have hS1 : SI G1 p m := SI_fr (fun c hc => f1 c (by omega)) hS
        refine s_solves (dr := 0) hT1 hS1 (by omega) hv2 hy (fun G2 g1 g2 g3 => ?_) (fun G2 g1 g2 => ?_)
        · rw [colK_fr (G := G) hm (fun i hi => f1 _ (by omega)), sumK_fr (f1 (26 + y) (by omega))] at g2 g3
          rw [scn_hit (by omega) ⟨e, g2⟩] at f3
          have fr : ∀ x, ¬ (52 ≤ x ∧ x < 55) → G2 x = G x := fun x hx => by rw [g1 x (by omega) (by omega), f1 x hx]
          refine ⟨fun q => absurd q (by decide), fun _ => ?_⟩
          rw [z1, z_ne0 (by omega)]
          refine ⟨fun q => ?_, fun q => s_best (fun G3 k1 k2 => ?_)⟩
          · rw [if_neg q] at f3
            exact ih (v + 1) G2 (s.1 + 1, s.2) (by omega) (by show s.1 + 1 ≤ v + 1; omega) fr (fun _ => AnsR_fr (F := G1 54) (fun c _ => by rw [g1 54 (by omega) (by omega)]) (f2 q)) f3
          · rw [if_pos q] at f3
            exact ih (v + 1) G3 (s.1 + 1, v) (by omega) (by show s.1 + 1 ≤ v + 1; omega) (fun x hx => by rw [k1 x (by omega), fr x hx]) (fun _ => AnsR_fr (F := G2 53) k2 g3) f3
        · rw [colK_fr (G := G) hm (fun i hi => f1 _ (by omega)), sumK_fr (f1 (26 + y) (by omega))] at g2
          rw [scn_miss (fun q => g2 q.2.2)] at f3
          have fr : ∀ x, ¬ (52 ≤ x ∧ x < 55) → G2 x = G x := fun x hx => by rw [g1 x (by omega) (by omega), f1 x hx]
          exact ⟨fun _ => ih (v + 1) G2 s (by omega) (by omega) fr (fun q => AnsR_fr (F := G1 54) (fun c _ => by rw [g1 54 (by omega) (by omega)]) (f2 q)) f3, fun q => absurd rfl q⟩
  exact ⟨2 ^ n + 1, key (2 ^ n) 0 G (0, 0) (by omega) (Nat.le_refl _) (fun _ _ => rfl) (fun q => absurd rfl q) rfl⟩
theorem wyM_fr {p : Nat} [NeZero p] {G G1 : GS} {m n y size : Nat} (hm : m ≤ 6) (h1 : ∀ i, i < 6 → G1 (32 + i) = G (32 + i)) (h2 : G1 (26 + y) = G (26 + y)) : wyM p G1 m n y size = wyM p G m n y size := by
  unfold wyM
  rw [colK_fr hm h1, sumK_fr h2]
theorem s_fdM {p : Nat} [NeZero p] {G : GS} {m n y k : Nat} {v1 : Int32} {K98 : Int32 → Int32 → GS → Prop} {K126 : GS → Prop} (hT : TI G p m n) (hS : SI G p m) (hy : y < 6) (hk : k ≤ 4) (hK1 : ∀ (G1 : GS) size, (∀ x, ¬ (52 ≤ x ∧ x < 55) → G1 x = G x) → size ≤ k → (∀ s, s < size → (wyM p G m n y s).1 = 0) → (wyM p G m n y size).1 ≠ 0 → AnsR (G1 54) (kr 0 m).length n (colK p G 0 m) (sumK p G 0 m y) (wyM p G m n y size).2 → K98 (nI size) (nI (wyM p G m n y size).1) G1) (hK0 : ∀ G1 : GS, (∀ x, ¬ (52 ≤ x ∧ x < 55) → G1 x = G x) → (∀ s, s ≤ k → (wyM p G m n y s).1 = 0) → K126 G1) : ∀ f size (G1 : GS), size + f = k + 1 → (∀ x, ¬ (52 ≤ x ∧ x < 55) → G1 x = G x) → (∀ s, s < size → (wyM p G m n y s).1 = 0) → wlX6_find_31 K98 K126 v1 (nI y) (nI k) (f + 1) (nI size) G1 := by
  obtain ⟨-, ⟨hm0, hm⟩, ⟨hn0, hn⟩, -⟩ := id hT
  intro f
  induction f with
  | zero =>
    intro size G1 hs f1 f2
    exact ⟨fun _ => hK0 G1 f1 (fun s h => f2 s (by omega)), fun q => absurd (nI_lt (show k < size by omega) (by omega)) q⟩
  | succ f ih =>
    intro size G1 hs f1 f2
    have hT1 : TI G1 p m n := TI_fr (fun c hc => f1 c (by omega)) hT
    have hS1 : SI G1 p m := SI_fr (fun c hc => f1 c (by omega)) hS
    have e1 : wyM p G1 m n y size = wyM p G m n y size := wyM_fr hm (fun i hi => f1 _ (by omega)) (f1 _ (by omega))
    refine ⟨fun q => absurd q (nI_nlt (by omega) (by omega)), fun _ => s_fdM_i hT1 hS1 hy (by omega) (fun G2 g1 g2 => ?_)⟩
    rw [colK_fr (G := G) hm (fun i hi => f1 _ (by omega)), sumK_fr (f1 (26 + y) (by omega)), e1] at g2
    have fr : ∀ x, ¬ (52 ≤ x ∧ x < 55) → G2 x = G x := fun x hx => by rw [g1 x hx, f1 x hx]
    have hle : (wyM p G m n y size).1 ≤ 5000 := (scn_le _ 5000 (2 ^ n) 0 (0, 0) (by show 0 ≤ 5000; omega)).2
    have z0 : nI (wyM p G m n y size).1 ≤ 0 ↔ (wyM p G m n y size).1 ≤ 0 := nI_leI (b := 0) (by omega) (by omega)
    rw [e1, z0, z1]
    refine ⟨fun q => ih (size + 1) G2 (by omega) fr (fun s h => ?_), fun q => hK1 G2 size fr (by omega) f2 (by omega) (g2 (by omega))⟩
    by_cases es : s = size
    · rw [es]; omega
    · exact f2 s (by omega)
theorem op_find {G : GS} {B : BS} {v1 v2 v3 : Int32} {P : Int32 → Int32 → GS → Prop} (h : Inv G B) (k : ∀ r G2, Inv G2 B → P r r G2) : wX5_find v1 v2 v3 G (fun r G1 => wX6_find v1 v2 v3 G1 (fun r2 G2 => P r r2 G2)) := by
  have hI := h
  obtain ⟨p, m, n, d, b, q, t, hT, hR, hS, hK⟩ := h
  obtain ⟨hp, ⟨hm0, hm⟩, ⟨hn0, hn⟩, ⟨a0, a1, a2⟩, ⟨b0, b1, b2⟩, hc, hv⟩ := id hT
  have hp2 := isP_lt hp
  haveI : NeZero p := ⟨by omega⟩
  have inv := TI_inv hT
  have hpow : 2 ^ n ≤ 2 ^ 12 := Nat.pow_le_pow_right (by omega) hn
  have bad : ¬ (inR v1 6 ∧ inR v2 6 ∧ inR v3 5) → wX6_find v1 v2 v3 G (fun r2 G2 => P (-1) r2 G2) := fun hbad =>
    s_six (fun _ => ⟨fun _ => k _ _ hI, fun h => absurd rfl h⟩) (fun g => ⟨fun e => absurd e (by decide), fun _ => s_six (fun _ => ⟨fun _ => k _ _ hI, fun h => absurd rfl h⟩) (fun g2 => ⟨fun e => absurd e (by decide), fun _ => s_in0 (hi := 4) 5 (by omega) (by omega) rfl (fun _ => ⟨fun h => absurd rfl h, fun _ => k _ _ hI⟩) (fun g3 => absurd ⟨g, g2, g3⟩ hbad)⟩)⟩)
  refine s_kept (fun h => ⟨fun _ => bad (fun x => h x.1), fun h => absurd rfl h⟩) (fun h1 => ⟨fun e => absurd e (by decide), fun _ => ?_⟩)
  refine s_kept (fun h => ⟨fun _ => bad (fun x => h x.2.1), fun h => absurd rfl h⟩) (fun h2 => ⟨fun e => absurd e (by decide), fun _ => ?_⟩)
  refine ⟨fun g => bad (fun x => inR_neg (by omega) g x.2.2), fun g => ⟨fun g4 => ?_, fun g4 => bad (fun x => g4 ((inR_iff (n := 5) (by omega) (by omega)).mpr x.2.2).2)⟩⟩
  have h3 : inR v3 5 := (inR_iff (n := 5) (by omega) (by omega)).mp ⟨Int32.not_lt.mp g, g4⟩
  obtain ⟨r, hr, rfl⟩ := h1
  obtain ⟨y, hy, rfl⟩ := h2
  obtain ⟨kk, hkk, rfl⟩ := h3
  -- what ties both sides
  have tie : ∀ size, (∀ s, s < size → (wyX p G 0 m n y 2 s).1 = 0) → (wyX p G 0 m n y 2 size).1 = min 2 (wyM p G m n y size).1 ∧ ((wyM p G m n y size).1 ≠ 0 → (wyX p G 0 m n y 2 size).2 = (wyM p G m n y size).2) := by
    intro size hz
    have hno : ∀ s, s < size → ∀ u, u < 2 ^ n → ¬ Hit (kr 0 m).length n s (colK p G 0 m) (sumK p G 0 m y) u := fun s hs u hu => scn_zero (by omega) (hz s hs) u hu
    have e : wyX p G 0 m n y 2 size = scn (fun v => (cr v 0 n).length = size ∧ Svh (kr 0 m).length n (colK p G 0 m) (sumK p G 0 m y) v) 2 0 (2 ^ n) (0, 0) := scn_ext _ _ _ (fun v _ hv2 => hit_sv hno (by omega))
    rw [e]
    exact scn_cap (cap := 5000) (by omega) (2 ^ n) 0 (0, 0) (by show 0 + 2 ^ n ≤ 5000; omega)
  have mz : ∀ size, (∀ s, s < size → (wyX p G 0 m n y 2 s).1 = 0) → ∀ s, s < size → (wyM p G m n y s).1 = 0 := fun size hz s hs => by
    have := (tie s (fun s2 h2 => hz s2 (by omega))).1
    rw [hz s hs] at this
    omega
  have mcall : ∀ {G1 : GS} {Q : Int32 → GS → Prop}, (∃ z31 : Nat, wlX6_find_31 (fun x4_98 x5_98 G_98 => (wX6_keeps (nI r) G_98 (fun G100 => ((¬ x5_98 = (1 : Int32) → Q x4_98 G100) ∧ (x5_98 = (1 : Int32) → Q ((100 : Int32) + x4_98) G100))))) (fun G_126 => Q (-2 : Int32) G_126) (nI r) (nI y) (nI kk) z31 (0 : Int32) G1) → wX6_find (nI r) (nI y) (nI kk) G1 Q := fun {G1 Q} hq =>
    s_six (fun x => absurd ⟨r, hr, rfl⟩ x) (fun _ => ⟨fun e => absurd e (by decide), fun _ => s_six (fun x => absurd ⟨y, hy, rfl⟩ x) (fun _ => ⟨fun e => absurd e (by decide), fun _ => s_in0 (hi := 4) 5 (by omega) (by omega) rfl (fun x => absurd ⟨kk, hkk, rfl⟩ x) (fun _ => ⟨fun _ => hq, fun e => absurd e (by decide)⟩)⟩)⟩)
  refine ⟨kk + 1 + 1, s_fdX (r := r) hT hS hy (by omega) (fun G1 size f1 hsz f2 f3 f4 => ?_) (fun G1 f1 f2 => ?_) (kk + 1) 0 G (by omega) (fun _ _ _ _ _ _ => rfl) (fun s hs => by omega)⟩
  · -- found
    refine ⟨vp_in_nI (by omega) (by omega), ?_⟩
    rw [zc (by omega)]
    refine s_copy 12 (by omega) (by omega) (by rw [ln_20 hr]; rfl) (by decide) (by rw [ln_20 hr]; omega) (fun G2 g1 g2 g3 => ?_)
    have fr2 : ∀ x, x ≠ 2 → x ≠ 11 → x ≠ 12 → x ≠ 13 → ¬ (38 ≤ x ∧ x < 45) → x ≠ 20 + r → G2 x = G x := fun x a b c d e f => by rw [g1 x f, f1 x a b c d e]
    have hT2 : TI G2 p m n := TI_fr (fun c hc => fr2 c (by omega) (by omega) (by omega) (by omega) (by omega) (by omega)) hT
    have hS2 : SI G2 p m := SI_fr (fun c hc => fr2 c (by omega) (by omega) (by omega) (by omega) (by omega) (by omega)) hS
    have wfr : ∀ s, wyM p G2 m n y s = wyM p G m n y s := fun s => wyM_fr hm (fun i hi => fr2 _ (by omega) (by omega) (by omega) (by omega) (by omega) (by omega)) (fr2 _ (by omega) (by omega) (by omega) (by omega) (by omega) (by omega))
    have tsz := tie size f2
    have hM : (wyM p G m n y size).1 ≠ 0 := fun e => f3 (by rw [tsz.1, e]; rfl)
    have fin : ∀ Rr, Rr = (if (wyX p G 0 m n y 2 size).1 = 1 then nI size + 100 else nI size) → wX6_find (nI r) (nI y) (nI kk) G2 (fun r2 G3 => P Rr r2 G3) := by
      intro Rr hRr
      refine mcall ⟨kk + 1 + 1, s_fdM hT2 hS2 hy (by omega) (fun G3 size2 w1 w2 w3 w4 w5 => ?_) (fun G3 w1 w2 => ?_) (kk + 1) 0 G2 (by omega) (fun _ _ => rfl) (fun s hs => by omega)⟩
      · rw [wfr] at w4 w5 ⊢
        rw [colK_fr (G := G) hm (fun i hi => fr2 _ (by omega) (by omega) (by omega) (by omega) (by omega) (by omega)), sumK_fr (fr2 (26 + y) (by omega) (by omega) (by omega) (by omega) (by omega) (by omega))] at w5
        have es : size2 = size := by
          rcases Nat.lt_trichotomy size2 size with z | z | z
          · exact absurd (mz size f2 size2 z) w4
          · exact z
          · have := w3 size z
            rw [wfr] at this
            exact absurd this hM
        subst es
        rw [← tsz.2 hM] at w5
        have hInd : Ind (kr 0 m).length ((cr (wyX p G 0 m n y 2 size2).2 0 n).map (colK p G 0 m)) := by
          apply Classical.byContradiction
          intro hno
          -- the first hit is a hit
          have := scn_fst (H := Hit (kr 0 m).length n size2 (colK p G 0 m) (sumK p G 0 m y)) (cap := 2) (2 ^ n) 0 (0, 0) (fun q => absurd rfl q) f3
          exact hno this.2.1
        refine s_keep hr (fun G4 k1 k2 k3 => ?_)
        have rowe : ∀ c, c < 12 → G1 13 c = G3 54 c := fun c hc => AnsR_eq inv hInd f4 w5 c hc
        have hI4 : Inv G4 B := by
          have fr4 : ∀ x, ¬ (x = 2 ∨ x = 3 ∨ x = 4 ∨ (11 ≤ x ∧ x < 16) ∨ (38 ≤ x ∧ x < 45) ∨ (52 ≤ x ∧ x < 56)) → x ≠ 20 + r → x ≠ 47 → G4 x = G x := fun x a b c => by rw [k1 x c, w1 x (by omega), fr2 x (by omega) (by omega) (by omega) (by omega) (by omega) b]
          refine ⟨p, m, n, d, b, q, t, TI_fr (fun c hc => fr4 c (by omega) (by omega) (by omega)) hT, fun r2 j h1 h2 => ?_, SI_fr (fun c hc => fr4 c (by omega) (by omega) (by omega)) hS, KI_fr (fun c hc => fr4 c (by omega) (by omega) (by omega)) hK⟩
          by_cases er : r2 = r
          · subst er
            obtain ⟨x, x1, x2, x3⟩ := f4
            refine ⟨x j, (x1 j h2).1, ?_, ?_, fun hj => x2 j h2 (fun hm2 => by have := (cr_mem n 0 j).mp hm2; omega)⟩
            · rw [k1 _ (by omega), w1 _ (by omega), g2 j (by omega)]; exact (x1 j h2).2
            · rw [k2 j h2, ← rowe j h2]; exact (x1 j h2).2
          · rw [fr4 (20 + r2) (by omega) (by omega) (by omega), k3 _ (by omega), w1 47 (by omega), fr2 47 (by omega) (by omega) (by omega) (by omega) (by omega) (by omega)]
            exact hR r2 j h1 h2
        have hle : (wyM p G m n y size2).1 ≤ 5000 := (scn_le _ 5000 (2 ^ n) 0 (0, 0) (by show 0 ≤ 5000; omega)).2
        rw [nI1 (by omega)]
        refine ⟨fun e => ?_, fun e => ?_⟩
        · rw [if_neg (by rw [tsz.1]; omega)] at hRr
          rw [hRr]; exact k _ _ hI4
        · rw [if_pos (by rw [tsz.1, e]; rfl)] at hRr
          rw [hRr, Int32.add_comm]; exact k _ _ hI4
      · exfalso
        have := w2 size (by omega)
        rw [wfr] at this
        exact hM this
    have hle2 : (wyX p G 0 m n y 2 size).1 ≤ 2 := (scn_le _ 2 (2 ^ n) 0 (0, 0) (by show 0 ≤ 2; omega)).2
    rw [nI1 (by omega)]
    exact ⟨fun e => fin _ (by rw [if_neg e]), fun e => fin _ (by rw [if_pos e])⟩
  · -- none
    have hT2 : TI G1 p m n := TI_fr (fun c hc => f1 c (by omega) (by omega) (by omega) (by omega) (by omega)) hT
    have hS2 : SI G1 p m := SI_fr (fun c hc => f1 c (by omega) (by omega) (by omega) (by omega) (by omega)) hS
    have wfr : ∀ s, wyM p G1 m n y s = wyM p G m n y s := fun s => wyM_fr hm (fun i hi => f1 _ (by omega) (by omega) (by omega) (by omega) (by omega)) (f1 _ (by omega) (by omega) (by omega) (by omega) (by omega))
    have allz := mz (kk + 1) (fun s hs => f2 s (by omega))
    refine mcall ⟨kk + 1 + 1, s_fdM hT2 hS2 hy (by omega) (fun G3 size2 w1 w2 w3 w4 w5 => ?_) (fun G3 w1 w2 => ?_) (kk + 1) 0 G1 (by omega) (fun _ _ => rfl) (fun s hs => by omega)⟩
    · rw [wfr] at w4
      exact absurd (allz size2 (by omega)) w4
    · exact k _ _ (Inv_fr (fun c hc => by rw [w1 c (by omega), f1 c (by omega) (by omega) (by omega) (by omega) (by omega)]) hI)
