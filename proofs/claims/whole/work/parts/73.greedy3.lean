/-! PURE PART: greedy, whole -/
theorem wt_nI {F : Nat → Int32} {x : Nat → Nat} {N : Nat} (h : ∀ k, k < N → F k = nI (x k)) : wt F N = wt (fun k => nI (x k)) N := wt_congr N h
theorem wtE_wt {F : Nat → Int32} {e : Nat → Nat} : ∀ N, (∀ k, k < N → e k < 2 ^ 31 ∧ F k = nI (e k)) → wt F N = wtE N e
  | 0, _ => rfl
  | N + 1, h => by
    have h1 := wtE_wt N (fun k hk => h k (by omega))
    obtain ⟨h2, h3⟩ := h N (by omega)
    show wt F N + (if F N = 0 then 0 else 1) = ctP (fun i => decide (e i ≠ 0)) N + (if decide (e N ≠ 0) = true then 1 else 0)
    rw [h1, h3]
    unfold wtE
    congr 1
    by_cases q : e N = 0
    · rw [if_pos (by rw [q]; rfl), if_neg (by simp [q])]
    · rw [if_neg (fun q2 => q ((z_ne0 h2).mp q2)), if_pos (by simp [q])]
theorem s_g31 {G : GS} {m y : Nat} {v1 v3 : Int32} {K : GS → Prop} (hm : m ≤ 6) (hy : y < 6) (b1 : G 45 1 = nI m) (hK : ∀ G1 : GS, (∀ x, x ≠ 55 → G1 x = G x) → (∀ i, i < m → G1 55 i = G 48 (6 * y + i)) → K G1) : ∃ z, wlX6_greedy_31 K v1 (nI y) v3 z 0 G := by
  have key : ∀ f i (G1 : GS), i + f = m → (∀ x, x ≠ 55 → G1 x = G x) → (∀ j, j < i → G1 55 j = G 48 (6 * y + j)) → wlX6_greedy_31 K v1 (nI y) v3 (f + 1) (nI i) G1 := by
    intro f
    induction f with
    | zero =>
      intro i G1 hi h1 h2
      have e : i = m := by omega
      subst e
      unfold wlX6_greedy_31
      rw [h1 45 (by omega), b1]
      exact ⟨fun _ => hK G1 h1 h2, fun h => absurd (Int32.le_refl _) h⟩
    | succ f ih =>
      intro i G1 hi h1 h2
      unfold wlX6_greedy_31
      rw [h1 45 (by omega), b1, i6]
      refine ⟨fun h => absurd h (nI_ge (by omega) (by omega)), fun _ => ⟨vp_in_nI (by omega) (by omega), vp_in_nI (by omega) (by omega), fun G2 e => ?_⟩⟩
      rw [zc (by omega), zc (by omega), h1 48 (by omega)] at e
      rw [z1]
      refine ih (i + 1) G2 (by omega) (fun x hx => by rw [e, wr_ne hx, h1 x hx]) (fun j hj => ?_)
      by_cases ej : j = i
      · rw [ej, e, wr_ss]
      · rw [e, wr_sn ej]; exact h2 j (by omega)
  exact ⟨m + 1, key m 0 G (by omega) (fun _ _ => rfl) (fun j hj => by omega)⟩
theorem s_g86 {G : GS} {r : Nat} {v3 v4 v5 : Int32} {K : GS → Prop} (hr : r < 6) (hK : ∀ G1 : GS, (∀ x, x ≠ 47 → G1 x = G x) → (∀ c, c < 12 → G1 47 (12 * r + c) = 0) → (∀ x, (x < 12 * r ∨ 12 * r + 12 ≤ x) → G1 47 x = G 47 x) → K G1) : ∃ z, wlX6_greedy_86 K (nI r) v3 v4 v5 z 0 G := by
  have key : ∀ f i (G1 : GS), i + f = 12 → (∀ x, x ≠ 47 → G1 x = G x) → (∀ c, c < i → G1 47 (12 * r + c) = 0) → (∀ x, (x < 12 * r ∨ 12 * r + 12 ≤ x) → G1 47 x = G 47 x) → wlX6_greedy_86 K (nI r) v3 v4 v5 (f + 1) (nI i) G1 := by
    intro f
    induction f with
    | zero =>
      intro i G1 hi h1 h2 h3
      have e : i = 12 := by omega
      subst e
      exact ⟨fun _ => hK G1 h1 h2 h3, fun h => absurd (Int32.le_refl _) h⟩
    | succ f ih =>
      intro i G1 hi h1 h2 h3
      unfold wlX6_greedy_86
      rw [i12]
      refine ⟨fun h => absurd h (nI_ge (b := 12) (by omega) (by omega)), fun _ => ⟨vp_in_nI (by omega) (by omega), fun G2 e => ?_⟩⟩
      rw [zc (by omega)] at e
      rw [z1]
      refine ih (i + 1) G2 (by omega) (fun x hx => by rw [e, wr_ne hx, h1 x hx]) (fun c hc => ?_) (fun x hx => by rw [e, wr_sn (by omega), h3 x hx])
      by_cases ec : c = i
      · rw [ec, e, wr_ss]
      · rw [e, wr_sn (by omega)]; exact h2 c (by omega)
  exact ⟨13, key 12 0 G (by omega) (fun _ _ => rfl) (fun c hc => by omega) (fun _ _ => rfl)⟩
def gKM (r : Nat) (W : Int32) (G2 : GS) (Q : Int32 → GS → Prop) : Prop := ((¬ W = 0 → (((0 : Int32) = 0 → Q (W + (0 : Int32)) G2) ∧ (¬ (0 : Int32) = 0 → Q (W + (100 : Int32)) G2))) ∧ (W = 0 → (wX6_weight 47 ((12 : Int32) * nI r) (G2 45 2) G2 (fun r343 => (wX6_spark G2 (fun r348 G348 => ((r348 ≤ ((2 : Int32) * r343) → (((0 : Int32) = 0 → Q (W + (0 : Int32)) G348) ∧ (¬ (0 : Int32) = 0 → Q (W + (100 : Int32)) G348))) ∧ (¬ r348 ≤ ((2 : Int32) * r343) → (((1 : Int32) = 0 → Q (W + (0 : Int32)) G348) ∧ (¬ (1 : Int32) = 0 → Q (W + (100 : Int32)) G348))))))))))
def gKX (r : Nat) (W : Int32) (G2 : GS) (Q : Int32 → GS → Prop) : Prop := (¬ W = 0 → (((0 : Int32) = 0 → Q W G2) ∧ (¬ (0 : Int32) = 0 → Q (W + (100 : Int32)) G2))) ∧ (W = 0 → (vp_in (nI r) 6 ∧ (wX5_weight (20 + r) G2 (fun r60 => (wX2_spark G2 (fun r68 G68 => ((r68 ≤ ((2 : Int32) * r60) → (((0 : Int32) = 0 → Q W G68) ∧ (¬ (0 : Int32) = 0 → Q (W + (100 : Int32)) G68))) ∧ (¬ r68 ≤ ((2 : Int32) * r60) → (((1 : Int32) = 0 → Q W G68) ∧ (¬ (1 : Int32) = 0 → Q (W + (100 : Int32)) G68))))))))))
theorem gW_0 (p m n : Nat) (A : Nat → Nat → Nat) (e : Nat → Nat) : gW p m n A e 0 = (e, 0, fun _ => 0) := rfl
theorem op_greedy {G : GS} {B : BS} {v1 v2 v3 : Int32} {P : Int32 → Int32 → GS → Prop} (h : Inv G B) (k : ∀ r G2, Inv G2 B → P r r G2) : wX5_greedy v1 v2 v3 G (fun r G1 => wX6_greedy v1 v2 v3 G1 (fun r2 G2 => P r r2 G2)) := by
  have hI := h
  obtain ⟨p, m, n, d, b, q, t, hT, hR, hS, hK⟩ := h
  obtain ⟨hp, ⟨hm0, hm⟩, ⟨hn0, hn⟩, ⟨a0, a1, a2⟩, ⟨b0, b1, b2⟩, hc, hv⟩ := id hT
  have hp2 := isP_lt hp
  haveI : NeZero p := ⟨by omega⟩
  have bad : ¬ (inR v1 6 ∧ inR v2 6 ∧ inR v3 9) → wX6_greedy v1 v2 v3 G (fun r2 G2 => P (-1) r2 G2) := fun hbad =>
    s_six (fun _ => ⟨fun _ => k _ _ hI, fun h => absurd rfl h⟩) (fun g => ⟨fun e => absurd e (by decide), fun _ => s_six (fun _ => ⟨fun _ => k _ _ hI, fun h => absurd rfl h⟩) (fun g2 => ⟨fun e => absurd e (by decide), fun _ => s_in0 (hi := 8) 9 (by omega) (by omega) rfl (fun _ => ⟨fun h => absurd rfl h, fun _ => k _ _ hI⟩) (fun g3 => absurd ⟨g, g2, g3⟩ hbad)⟩)⟩)
  refine s_kept (fun h => ⟨fun _ => bad (fun x => h x.1), fun h => absurd rfl h⟩) (fun h1 => ⟨fun e => absurd e (by decide), fun _ => ?_⟩)
  refine s_kept (fun h => ⟨fun _ => bad (fun x => h x.2.1), fun h => absurd rfl h⟩) (fun h2 => ⟨fun e => absurd e (by decide), fun _ => ?_⟩)
  refine ⟨fun g => bad (fun x => inR_neg (by omega) g x.2.2), fun g => ⟨fun g4 => ?_, fun g4 => bad (fun x => g4 ((inR_iff (n := 9) (by omega) (by omega)).mpr x.2.2).2)⟩⟩
  have h3 : inR v3 9 := (inR_iff (n := 9) (by omega) (by omega)).mp ⟨Int32.not_lt.mp g, g4⟩
  obtain ⟨r, hr, rfl⟩ := h1
  obtain ⟨y, hy, rfl⟩ := h2
  obtain ⟨kk, hkk, rfl⟩ := h3
  refine ⟨vp_in_nI (by omega) (by omega), vp_in_nI (by omega) (by omega), ?_⟩
  rw [zc (by omega), zc (by omega)]
  have hSI := fun i (hi : i < 6) => SI_A hp2.2 hS hy hi
  obtain ⟨N, hN, hN1, hN2⟩ := gW_N p m n kk (cA G) (cS G y)
  have ok0 : gOk p m n (gW p m n (cA G) (cS G y) 0) := by
    rw [gW_0]
    exact ⟨fun i hi => (hSI i (by omega)).1, Nat.two_pow_pos 12, fun c hc => by show 0 < p; omega, fun c hc => rfl⟩
  -- the model's run
  have mcall : ∀ (G1 : GS) (Q : Int32 → GS → Prop), (∀ x, ¬ (x = 2 ∨ x = 4 ∨ x = 11 ∨ x = 12 ∨ x = 15 ∨ x = 20 + r ∨ (38 ≤ x ∧ x < 45)) → G1 x = G x) → (∀ G2 : GS, (∀ x, x ≠ 47 → x ≠ 55 → G2 x = G1 x) → (∀ x, (x < 12 * r ∨ 12 * r + 12 ≤ x) → G2 47 x = G1 47 x) → (∀ c, c < 12 → G2 47 (12 * r + c) = nI ((gW p m n (cA G) (cS G y) N).2.2 c)) → gKM r (nI (wtE m (gW p m n (cA G) (cS G y) N).1)) G2 Q) → wX6_greedy (nI r) (nI y) (nI kk) G1 Q := by
    intro G1 Q f1 hQ
    refine s_six (fun x => absurd ⟨r, hr, rfl⟩ x) (fun _ => ⟨fun e => absurd e (by decide), fun _ => s_six (fun x => absurd ⟨y, hy, rfl⟩ x) (fun _ => ⟨fun e => absurd e (by decide), fun _ => s_in0 (hi := 8) 9 (by omega) (by omega) rfl (fun x => absurd ⟨kk, hkk, rfl⟩ x) (fun _ => ⟨fun _ => ?_, fun e => absurd e (by decide)⟩)⟩)⟩)
    refine s_g31 hm hy (by rw [f1 45 (by omega), b1]) (fun G2 g1 g2 => ?_)
    have e55 : ∀ i, i < m → G2 55 i = nI (cS G y i) := fun i hi => by rw [g2 i hi, f1 48 (by omega)]; exact (hSI i (by omega)).2.2.1
    refine s_wtM 0 m rfl (by rw [g1 45 (by omega), f1 45 (by omega), b1]) (by show 0 + m ≤ 6; omega) (by decide) ?_
    have ew : wt (fun k => G2 55 (0 + k)) m = wtE m (cS G y) := wtE_wt m (fun k hk => ⟨by have := (hSI k (by omega)).1; omega, by show G2 55 (0 + k) = _; rw [Nat.zero_add]; exact e55 k hk⟩)
    rw [ew]
    refine s_g86 hr (fun G3 k1 k2 k3 => ?_)
    have fr3 : ∀ x, ¬ (x = 2 ∨ x = 4 ∨ x = 11 ∨ x = 12 ∨ x = 15 ∨ x = 20 + r ∨ (38 ≤ x ∧ x < 45)) → x ≠ 47 → x ≠ 55 → G3 x = G x := fun x a b c => by rw [k1 x b, g1 x c, f1 x a]
    have hT3 : TI G3 p m n := TI_fr (fun c hc => fr3 c (by omega) (by omega) (by omega)) hT
    have hA3 : ∀ i c, i < m → c < n → G3 46 (12 * i + c) = nI (cA G i c) := fun i c hi hc => by rw [fr3 46 (by omega) (by omega) (by omega)]; exact (TI_A hT (by omega) (by omega)).2.2
    refine ⟨N + 2, s_wkM (e0 := cS G y) (A := cA G) hT3 hA3 hr (by omega) hN hN1 hN2 (fun G4 w1 w2 w3 => ?_) N 0 G3 (by omega) (fun _ _ _ => rfl) (fun _ _ => rfl) ok0 (fun i hi => by rw [k1 55 (by omega), gW_0]; exact e55 i hi) (fun c hc => by rw [k2 c hc, gW_0]; rfl)⟩
    exact hQ G4 (fun x a b => by rw [w1 x a b, k1 x a, g1 x b]) (fun x hx => by rw [w2 x hx, k3 x hx, g1 47 (by omega)]) w3
  -- the class's walk
  refine s_copy 6 (by omega) (by omega) (by rw [ln_26 hy]; rfl) (by rw [ln_26 hy]; omega) (by decide) (fun G1 f1 f2 _ => ?_)
  refine s_clear (by rw [ln_20 hr]; omega) (fun G2 g1 g2 => ?_)
  rw [ln_20 hr] at g2
  refine s_weight (by decide) ?_
  have fr2 : ∀ x, x ≠ 15 → x ≠ 20 + r → G2 x = G x := fun x a b => by rw [g1 x b, f1 x a]
  have e15 : ∀ i, i < 6 → G2 15 i = nI (cS G y i) := fun i hi => by rw [g1 15 (by omega), f2 i hi]; exact (hSI i hi).2.1
  have l15 : ln 15 = 6 := rfl
  have ew : wt (G2 15) (ln 15) = wtE m (cS G y) := by
    rw [l15, wt_zero (m := m) 6 hm (fun k h4 h5 => by rw [e15 k h5, (hSI k h5).2.2.2 h4]; rfl)]
    exact wtE_wt m (fun k hk => ⟨by have := (hSI k (by omega)).1; omega, e15 k (by omega)⟩)
  rw [ew]
  have hT2 : TI G2 p m n := TI_fr (fun c hc => fr2 c (by omega) (by omega)) hT
  have hcA2 : cA G2 = cA G := by funext i c; unfold cA; rw [fr2 _ (by omega) (by omega)]
  have main : ∀ G3 : GS, (∀ x, x ≠ 4 → x ≠ 15 → x ≠ 20 + r → G3 x = G2 x) → gOk p m n (gW p m n (cA G) (cS G y) N) → (∀ c, c < 12 → G3 (20 + r) c = nI ((gW p m n (cA G) (cS G y) N).2.2 c)) → gKX r (nI (wtE m (gW p m n (cA G) (cS G y) N).1)) G3 (fun r1 G1 => wX6_greedy (nI r) (nI y) (nI kk) G1 (fun r2 G2 => P r1 r2 G2)) := by
    intro G3 w1 w2 w3
    generalize hx : (gW p m n (cA G) (cS G y) N).2.2 = xr at w3
    generalize hWd : wtE m (gW p m n (cA G) (cS G y) N).1 = W
    have hWm : W ≤ m := by rw [← hWd]; exact wtE_le m _
    have xlt : ∀ c, c < 12 → xr c < p := fun c hc => by rw [← hx]; exact w2.2.2.1 c hc
    have xz : ∀ c, n ≤ c → xr c = 0 := fun c hc => by rw [← hx]; exact w2.2.2.2 c hc
    have fr3 : ∀ x, x ≠ 4 → x ≠ 15 → x ≠ 20 + r → G3 x = G x := fun x a b c => by rw [w1 x a b c, fr2 x b c]
    -- what holds after both
    have inv4 : ∀ (G5 G6 : GS), (∀ x, ¬ (x = 2 ∨ x = 11 ∨ x = 12 ∨ (38 ≤ x ∧ x < 45)) → G5 x = G3 x) → (∀ x, x ≠ 47 → x ≠ 52 → x ≠ 55 → G6 x = G5 x) → (∀ x, (x < 12 * r ∨ 12 * r + 12 ≤ x) → G6 47 x = G5 47 x) → (∀ c, c < 12 → G6 47 (12 * r + c) = nI (xr c)) → Inv G6 B := by
      intro G5 G6 m1 m2 m3 m4
      have fr6 : ∀ x, ¬ (x = 2 ∨ x = 4 ∨ x = 11 ∨ x = 12 ∨ x = 15 ∨ x = 20 + r ∨ x = 47 ∨ x = 52 ∨ x = 55 ∨ (38 ≤ x ∧ x < 45)) → G6 x = G x := fun x hx => by rw [m2 x (by omega) (by omega) (by omega), m1 x (by omega), fr3 x (by omega) (by omega) (by omega)]
      refine ⟨p, m, n, d, b, q, t, TI_fr (fun c hc => fr6 c (by omega)) hT, fun r2 j h1 h2 => ?_, SI_fr (fun c hc => fr6 c (by omega)) hS, KI_fr (fun c hc => fr6 c (by omega)) hK⟩
      by_cases er : r2 = r
      · subst er
        exact ⟨xr j, xlt j h2, by rw [m2 _ (by omega) (by omega) (by omega), m1 _ (by omega)]; exact w3 j h2, m4 j h2, xz j⟩
      · rw [fr6 (20 + r2) (by omega), m3 _ (by omega), m1 47 (by omega), fr3 47 (by omega) (by omega) (by omega)]
        exact hR r2 j h1 h2
    rw [hx, hWd] at mcall
    refine ⟨fun q1 => ⟨fun _ => mcall G3 _ (fun x hx => fr3 x (by omega) (by omega) (by omega)) (fun G4 m1 m2 m3 => ⟨fun _ => ⟨fun _ => ?_, fun q2 => absurd rfl q2⟩, fun q2 => absurd q2 q1⟩), fun q2 => absurd rfl q2⟩, fun q1 => ⟨vp_in_nI (by omega) (by omega), s_weight (by rw [ln_20 hr]; omega) ?_⟩⟩
    · rw [show nI W + (0 : Int32) = nI W from nI_add W 0]
      exact k _ _ (inv4 G3 G4 (fun _ _ => rfl) (fun x a b c => m1 x a c) m2 m3)
    · rw [ln_20 hr]
      have ew3 : wt (G3 (20 + r)) 12 = wt (fun k => nI (xr k)) n := by
        rw [wt_congr (g := fun k => nI (xr k)) 12 (fun k hk => w3 k hk)]
        exact wt_zero (m := n) 12 hn (fun k h4 h5 => by show nI (xr k) = 0; rw [xz k h4]; rfl)
      rw [ew3]
      have hwl := wt_le (fun k => nI (xr k)) n
      generalize wt (fun k => nI (xr k)) n = ω at hwl ew3
      have hT3 : TI G3 p m n := TI_fr (fun c hc => fr3 c (by omega) (by omega) (by omega)) hT
      refine s_spark hT3 (fun G5 s m1 hs1 => ?_)
      have hs12 := hs1.1
      have e2 : (2 : Int32) * nI ω = nI (2 * ω) := pk_mul 2 ω
      have mrun : ∀ Rr : Int32, ((s ≤ 2 * ω → Rr = nI W) ∧ (¬ s ≤ 2 * ω → Rr = nI W + 100)) → wX6_greedy (nI r) (nI y) (nI kk) G5 (fun r2 G2 => P Rr r2 G2) := by
        intro Rr hRr
        refine mcall G5 _ (fun x hx => by rw [m1 x (by omega) (by omega) (by omega) (by omega), fr3 x (by omega) (by omega) (by omega)]) (fun G6 n1 n2 n3 => ⟨fun q2 => absurd q1 q2, fun _ => ?_⟩)
        have fr6 : ∀ x, ¬ (x = 2 ∨ x = 4 ∨ x = 11 ∨ x = 12 ∨ x = 15 ∨ x = 20 + r ∨ x = 47 ∨ x = 55 ∨ (38 ≤ x ∧ x < 45)) → G6 x = G x := fun x hx => by rw [n1 x (by omega) (by omega), m1 x (by omega) (by omega) (by omega) (by omega), fr3 x (by omega) (by omega) (by omega)]
        refine s_wtM (12 * r) n (i12m r) (by rw [fr6 45 (by omega), b2]) (by rw [ln47]; omega) (by rw [ln47]; omega) ?_
        have ew6 : wt (fun k => G6 47 (12 * r + k)) n = ω := by
          rw [wt_congr (g := fun k => nI (xr k)) n (fun k hk => n3 k (by omega)), ← ew3]
          rw [wt_congr (g := fun k => nI (xr k)) 12 (fun k hk => w3 k hk)]
          exact (wt_zero (m := n) 12 hn (fun k h4 h5 => by show nI (xr k) = 0; rw [xz k h4]; rfl)).symm
        rw [ew6]
        have hT6 : TI G6 p m n := TI_fr (fun c hc => fr6 c (by omega)) hT
        refine s_sparkM hT6 (fun G7 s7 o1 hs7 => ?_)
        have ec : colK p G6 0 m = colK p G3 0 m := colK_fr hm (fun i hi => by rw [fr6 _ (by omega), fr3 _ (by omega) (by omega) (by omega)])
        rw [ec] at hs7
        have es := isSpark_uniq hs1 hs7
        subst es
        have inv7 : Inv G7 B := inv4 G5 G7 (fun x hx => m1 x (by omega) (by omega) (by omega) (by omega)) (fun x a b c => by rw [o1 x b, n1 x a c]) (fun x hx => by rw [o1 47 (by omega), n2 x hx]) (fun c hc => by rw [o1 47 (by omega), n3 c hc])
        rw [e2, nI_leI (by omega) (by omega), show nI W + (0 : Int32) = nI W from nI_add W 0]
        refine ⟨fun q2 => ⟨fun _ => ?_, fun q3 => absurd rfl q3⟩, fun q2 => ⟨fun q3 => absurd q3 (by decide), fun _ => ?_⟩⟩
        · rw [hRr.1 q2]; exact k _ _ inv7
        · rw [hRr.2 q2]; exact k _ _ inv7
      rw [e2, nI_leI (by omega) (by omega)]
      exact ⟨fun q2 => ⟨fun _ => mrun _ ⟨fun _ => rfl, fun q3 => absurd q2 q3⟩, fun q3 => absurd rfl q3⟩, fun q2 => ⟨fun q3 => absurd q3 (by decide), fun _ => mrun _ ⟨fun q3 => absurd q3 q2, fun _ => rfl⟩⟩⟩
  rw [← hcA2] at hN1 hN2
  have wk := s_wkX (e0 := cS G y) (r := r) (k := kk) (N := N) hT2 hr (by omega) hN hN1 hN2 (K := fun r43 G43 => gKX r r43 G43 (fun r1 G1 => wX6_greedy (nI r) (nI y) (nI kk) G1 (fun r2 G2 => P r1 r2 G2))) (fun G3 w1 w2 w3 => by rw [hcA2] at w2 w3 ⊢; exact main G3 w1 w2 w3) N 0 G2 (by omega) (fun _ _ _ _ => rfl) (by rw [hcA2]; exact ok0) (fun i hi => by rw [gW_0]; exact e15 i (by omega)) (fun c hc => by rw [gW_0, g2 c hc]; rfl)
  rw [gW_0] at wk
  exact ⟨N + 1, wk⟩
