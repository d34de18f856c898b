/-! PURE PART: the model's miss, one weight -/
theorem dot_congr {f g g' : Nat → Nat} : ∀ n, (∀ j, j < n → g j = g' j) → dot f g n = dot f g' n
  | 0, _ => rfl
  | n + 1, h => by
    show dot f g n + f n * g n = dot f g' n + f n * g' n
    rw [dot_congr n (fun j hj => h j (by omega)), h n (by omega)]
theorem df_congr {p m n y : Nat} {G : GS} {x x' : Nat → Nat} (hn : n ≤ 12) (h : ∀ c, c < 12 → x c = x' c) : dfN p m n G y x = dfN p m n G y x' := by
  refine ctP_congr m (fun i hi => ?_)
  rw [dot_congr (f := cA G i) n (fun j hj => h j (by omega))]
theorem s_dif {p : Nat} [NeZero p] {G G0 : GS} {m n y : Nat} {x : Nat → Nat} {P : Int32 → Prop} (hT : TI G0 p m n) (hS : SI G0 p m) (hy : y < 6) (h45 : G 45 = G0 45) (h46 : G 46 = G0 46) (h48 : G 48 = G0 48) (hx : ∀ c, c < 12 → x c < p ∧ G 53 c = nI (x c)) (h : P (nI (dfN p m n G0 y x))) : wX6_differs (nI y) G P := by
  have hp := isP_lt hT.1
  obtain ⟨-, ⟨hm0, hm⟩, ⟨hn0, hn⟩, -, ⟨b0, b1, b2⟩, -, -⟩ := id hT
  have inner : ∀ (i : Nat) (v2 : Int32) (K : Int32 → Prop), i < m → K (nI (dot (cA G0 i) x n)) → ∃ z, wlX6_differs_18 K (nI y) v2 (nI i) G z 0 0 := by
    intro i v2 K hi hK
    have key : ∀ f j, j + f = n → wlX6_differs_18 K (nI y) v2 (nI i) G (f + 1) (nI (dot (cA G0 i) x j)) (nI j) := by
      intro f
      induction f with
      | zero =>
        intro j hj
        have e : j = n := by omega
        subst e
        unfold wlX6_differs_18
        rw [h45, b2]
        exact ⟨fun _ => hK, fun h => absurd (Int32.le_refl _) h⟩
      | succ f ih =>
        intro j hj
        have h1 := ih (j + 1) (by omega)
        unfold wlX6_differs_18
        rw [h45, b2, i12, zc (by omega), zc (by omega), h46, (TI_A hT (by omega) (by omega)).2.2, (hx j (by omega)).2, pk_mul, nI_add, z1]
        refine ⟨fun h => absurd h (nI_ge (by omega) (by omega)), fun _ => ⟨vp_in_nI (by omega) (by omega), vp_in_nI (by omega) (by omega), fun w ew => ?_⟩⟩
        rw [ew]; exact h1
    exact ⟨n + 1, key n 0 (by omega)⟩
  have key : ∀ f i, i + f = m → wlX6_differs_4 (fun x => P x) (nI y) G (f + 1) (nI (ctP (fun i => decide (dot (cA G0 i) x n % p ≠ cS G0 y i)) i)) (nI i) := by
    intro f
    induction f with
    | zero =>
      intro i hi
      have e : i = m := by omega
      subst e
      unfold wlX6_differs_4
      rw [h45, b1]
      exact ⟨fun _ => h, fun h => absurd (Int32.le_refl _) h⟩
    | succ f ih =>
      intro i hi
      have h1 := ih (i + 1) (by omega)
      have hS1 := SI_A hp.2 hS hy (i := i) (by omega)
      have hd := dot_le (f := cA G0 i) (g := x) hp.2 n (fun j hj => ⟨(TI_A hT (by omega) (by omega)).1, (hx j (by omega)).1⟩)
      have hmod := Nat.mod_lt (dot (cA G0 i) x n) (show 0 < p by omega)
      unfold wlX6_differs_4
      rw [h45, b1]
      refine ⟨fun h => absurd h (nI_ge (by omega) (by omega)), fun _ => inner i _ _ (by omega) ?_⟩
      rw [b0, i6, zc (by omega), h48, hS1.2.2.1, z_rem (by omega) (by omega) (by omega), nI_eq (by omega) (by omega), z1, z1]
      unfold ctP at h1
      simp only [decide_eq_true_eq] at h1
      refine ⟨nI_ne0 (by omega) (by omega), vp_in_nI (by omega) (by omega), fun q w ew => ?_, fun q w ew => ?_⟩
      · rw [if_pos q] at h1
        rw [ew]; exact h1
      · rw [if_neg (fun q2 => q2 q)] at h1
        rw [ew, show nI (ctP (fun i => decide (dot (cA G0 i) x n % p ≠ cS G0 y i)) i) + (0 : Int32) = nI (ctP (fun i => decide (dot (cA G0 i) x n % p ≠ cS G0 y i)) i) from nI_add _ 0]; exact h1
  exact ⟨m + 1, key m 0 (by omega)⟩
theorem s_lsM {G : GS} {x y : Nat → Nat} {P : Int32 → Prop} (hx : ∀ c, c < 12 → x c < 100 ∧ G 53 c = nI (x c)) (hy : ∀ c, c < 12 → y c < 100 ∧ G 54 c = nI (y c)) (h1 : lx x y → P 1) (h0 : ¬ lx x y → P 0) : wX6_isLess G P := by
  have fin : ∀ j, j < 12 → (∀ i, i < j → x i = y i) → (j = 11 ∨ x j ≠ y j) → (vp_in (nI j) 12 ∧ (vp_in (nI j) 12 ∧ (((G 54 (cl (nI j))) ≤ (G 53 (cl (nI j))) → P (0 : Int32)) ∧ (¬ (G 54 (cl (nI j))) ≤ (G 53 (cl (nI j))) → P (1 : Int32))))) := by
    intro j hj he hd
    obtain ⟨x1, x2⟩ := hx j hj
    obtain ⟨y1, y2⟩ := hy j hj
    rw [zc (by omega), x2, y2, nI_leI (by omega) (by omega)]
    refine ⟨vp_in_nI (by omega) (by omega), vp_in_nI (by omega) (by omega), fun q => h0 (fun q2 => ?_), fun q => h1 ⟨j, hj, by omega, he⟩⟩
    obtain ⟨k, k1, k2, k3⟩ := q2
    rcases Nat.lt_trichotomy k j with z | z | z
    · have := he k z; omega
    · subst z; omega
    · rcases hd with hd | hd
      · omega
      · exact hd (k3 j z)
  have key : ∀ f j, j + f = 11 → (∀ i, i < j → x i = y i) → wlX6_isLess_2 (fun x1_29 => (vp_in x1_29 12 ∧ (vp_in x1_29 12 ∧ (((G 54 (cl x1_29)) ≤ (G 53 (cl x1_29)) → P (0 : Int32)) ∧ (¬ (G 54 (cl x1_29)) ≤ (G 53 (cl x1_29)) → P (1 : Int32)))))) G (f + 1) (nI j) := by
    intro f
    induction f with
    | zero =>
      intro j hj he
      have e : j = 11 := by omega
      subst e
      exact ⟨fun _ => fin 11 (by omega) he (Or.inl rfl), fun h => absurd (Int32.le_refl _) h⟩
    | succ f ih =>
      intro j hj he
      obtain ⟨x1, x2⟩ := hx j (by omega)
      obtain ⟨y1, y2⟩ := hy j (by omega)
      have hq : (G 53 (cl (nI j)) = G 54 (cl (nI j))) ↔ x j = y j := by rw [zc (by omega), x2, y2, nI_eq (by omega) (by omega)]
      refine ⟨fun h => absurd h (nI_ge (b := 11) (by omega) (by omega)), fun _ => ⟨vp_in_nI (by omega) (by omega), vp_in_nI (by omega) (by omega), fun e => fin j (by omega) he (Or.inr (fun q => e (hq.mpr q))), fun e => ?_⟩⟩
      rw [z1]
      refine ih (j + 1) (by omega) (fun i hi => ?_)
      by_cases ei : i = j
      · rw [ei]; exact hq.mp e
      · exact he i (by omega)
  exact ⟨12, key 11 0 (by omega) (fun i hi => by omega)⟩
/-- a hit of the model, with weight w and no more than e places left out -/
def MC (p : Nat) [NeZero p] (m n : Nat) (G : GS) (y e w dr v : Nat) (x : Nat → Nat) : Prop := dr < 2 ^ m ∧ pc dr ≤ e ∧ v < 2 ^ n ∧ (cr v 0 n).length = w ∧ Cand p m n G y dr v x ∧ ∀ c, c ∈ cr v 0 n → x c ≠ 0
/-- the best so far; D: what has been looked at -/
def MI (p : Nat) [NeZero p] (m n : Nat) (G : GS) (y e w : Nat) (D : Nat → Nat → Prop) (z : Option (Nat × Nat × (Nat → Nat))) : Prop := (z = none → ∀ v dr x, D v dr → ¬ MC p m n G y e w dr v x) ∧ ∀ d bv bx, z = some (d, bv, bx) → d = dfN p m n G y bx ∧ (∃ dr, MC p m n G y e w dr bv bx ∧ D bv dr) ∧ ∀ v dr x, D v dr → MC p m n G y e w dr v x → d ≤ dfN p m n G y x ∧ (dfN p m n G y x = d → ¬ lsV v x bv bx)
theorem MI_new {p : Nat} [NeZero p] (inv : hasInv p) {m n : Nat} {G : GS} {y e w v dr : Nat} {x : Nat → Nat} {D D' : Nat → Nat → Prop} {z : Option (Nat × Nat × (Nat → Nat))} (hp : 0 < p) (hn : n ≤ 12) (hS : ∀ i, i < m → cS G y i < p) (h : MI p m n G y e w D z) (hM : MC p m n G y e w dr v x) (hD : ∀ v' dr', D' v' dr' → D v' dr' ∨ (v' = v ∧ dr' = dr)) (hD2 : D' v dr) (hz : z = none ∨ ∃ d bv bx, z = some (d, bv, bx) ∧ (dfN p m n G y x < d ∨ (dfN p m n G y x = d ∧ v = bv ∧ lx x bx))) : MI p m n G y e w D' (some (dfN p m n G y x, v, x)) := by
  refine ⟨fun q => absurd q (by simp), fun d bv bx q => ?_⟩
  have q0 := Option.some.inj q
  have q1 : dfN p m n G y x = d := congrArg Prod.fst q0
  have q2 : v = bv := congrArg (fun t => t.2.1) q0
  have q3 : x = bx := congrArg (fun t => t.2.2) q0
  subst q1
  subst q2
  subst q3
  refine ⟨rfl, ⟨dr, hM, hD2⟩, fun v' dr' x' hd hM' => ?_⟩
  rcases hD v' dr' hd with hd | ⟨rfl, rfl⟩
  · rcases hz with hz | ⟨d, bv, bx, hz, hz2⟩
    · exact absurd hM' (h.1 hz v' dr' x' hd)
    · obtain ⟨-, -, h3⟩ := h.2 d bv bx hz
      obtain ⟨h4, h5⟩ := h3 v' dr' x' hd hM'
      rcases hz2 with hz2 | ⟨hz2, rfl, hz4⟩
      · exact ⟨by omega, fun q => by omega⟩
      · refine ⟨by omega, fun q hl => h5 (by omega) ?_⟩
        rcases hl with hl | ⟨hl, hl2⟩
        · exact Or.inl hl
        · exact Or.inr ⟨hl, lx_trans hl2 hz4⟩
  · have hu := cand_uniq inv hp hn hS hM'.2.2.2.2.1 hM.2.2.2.2.1
    rw [df_congr hn hu]
    refine ⟨Nat.le_refl _, fun _ hl => ?_⟩
    rcases hl with hl | ⟨-, hl⟩
    · omega
    · exact lx_irr (lx_congr hu (fun _ _ => rfl) hl)
theorem MI_old {p : Nat} [NeZero p] (inv : hasInv p) {m n : Nat} {G : GS} {y e w v dr : Nat} {x : Nat → Nat} {D D' : Nat → Nat → Prop} {d bv : Nat} {bx : Nat → Nat} (hp : 0 < p) (hn : n ≤ 12) (hS : ∀ i, i < m → cS G y i < p) (h : MI p m n G y e w D (some (d, bv, bx))) (hM : MC p m n G y e w dr v x) (hD : ∀ v' dr', D' v' dr' → D v' dr' ∨ (v' = v ∧ dr' = dr)) (hD2 : ∀ v' dr', D v' dr' → D' v' dr') (hv : ∀ v' dr', D v' dr' → v' ≤ v) (hz : ¬ (dfN p m n G y x < d ∨ (dfN p m n G y x = d ∧ v = bv ∧ lx x bx))) : MI p m n G y e w D' (some (d, bv, bx)) := by
  obtain ⟨h1, ⟨dr0, h2, h3⟩, h4⟩ := h.2 d bv bx rfl
  refine ⟨fun q => absurd q (by simp), fun d' bv' bx' q => ?_⟩
  have q0 := Option.some.inj q
  have q1 : d = d' := congrArg Prod.fst q0
  have q2 : bv = bv' := congrArg (fun t => t.2.1) q0
  have q3 : bx = bx' := congrArg (fun t => t.2.2) q0
  subst q1
  subst q2
  subst q3
  refine ⟨h1, ⟨dr0, h2, hD2 _ _ h3⟩, fun v' dr' x' hd hM' => ?_⟩
  rcases hD v' dr' hd with hd | ⟨rfl, rfl⟩
  · exact h4 v' dr' x' hd hM'
  · have hu := cand_uniq inv hp hn hS hM'.2.2.2.2.1 hM.2.2.2.2.1
    rw [df_congr hn hu]
    have := hv _ _ h3
    refine ⟨?_, fun q hl => hz ?_⟩
    · rcases Nat.lt_or_ge (dfN p m n G y x) d with z | z
      · exact absurd (Or.inl z) hz
      · exact z
    · rcases hl with hl | ⟨hl, hl2⟩
      · omega
      · exact Or.inr ⟨q, hl, lx_congr hu (fun _ _ => rfl) hl2⟩
theorem MI_no {p : Nat} [NeZero p] {m n : Nat} {G : GS} {y e w : Nat} {D D' : Nat → Nat → Prop} {z : Option (Nat × Nat × (Nat → Nat))} (h : MI p m n G y e w D z) (hD : ∀ v' dr', D' v' dr' → D v' dr' ∨ ∀ x, ¬ MC p m n G y e w dr' v' x) (hD2 : ∀ v' dr', D v' dr' → D' v' dr') : MI p m n G y e w D' z := by
  refine ⟨fun q v dr x hd hM => ?_, fun d bv bx q => ?_⟩
  · rcases hD v dr hd with hd | hd
    · exact h.1 q v dr x hd hM
    · exact hd x hM
  · obtain ⟨h1, ⟨dr0, h2, h3⟩, h4⟩ := h.2 d bv bx q
    refine ⟨h1, ⟨dr0, h2, hD2 _ _ h3⟩, fun v dr x hd hM => ?_⟩
    rcases hD v dr hd with hd | hd
    · exact h4 v dr x hd hM
    · exact absurd hM (hd x)
def RMz (G : GS) (z : Option (Nat × Nat × (Nat → Nat))) (v6 v7 : Int32) : Prop := (z = none → v6 = 99) ∧ ∀ d bv bx, z = some (d, bv, bx) → d ≤ 6 ∧ v6 = nI d ∧ v7 = nI bv ∧ ∀ c, c < 12 → bx c < 100 ∧ G 54 c = nI (bx c)
theorem df_6 {p m n y : Nat} {G : GS} {x : Nat → Nat} (hm : m ≤ 6) : dfN p m n G y x ≤ 6 := Nat.le_trans (ctP_le _ m) hm
theorem s_m74 {p : Nat} [NeZero p] {G : GS} {m n y e w v : Nat} {v1 v3 : Int32} {K : Int32 → Int32 → GS → Prop} (hT : TI G p m n) (hS : SI G p m) (hy : y < 6) (he : e ≤ 6) (hw : w ≤ 12) (hv : v < 2 ^ n) (hK : ∀ (G1 : GS) z v6 v7, (∀ x, ¬ (52 ≤ x ∧ x < 55) → G1 x = G x) → RMz G1 z v6 v7 → MI p m n G y e w (fun v' dr' => v' < v + 1) z → K v6 v7 G1) : ∀ f dr (G1 : GS) z v6 v7, dr + f = 2 ^ m → (∀ x, ¬ (52 ≤ x ∧ x < 55) → G1 x = G x) → RMz G1 z v6 v7 → MI p m n G y e w (fun v' dr' => v' < v ∨ (v' = v ∧ dr' < dr)) z → wlX6_miss_74 K v1 (nI y) v3 (nI e) (nI w) (nI v) (f + 1) v6 v7 (nI dr) G1 := by
  have hp := isP_lt hT.1
  obtain ⟨-, ⟨hm0, hm⟩, ⟨hn0, hn⟩, -, ⟨b0, b1, b2⟩, -, -⟩ := id hT
  have inv := TI_inv hT
  have hpow : 2 ^ n ≤ 2 ^ 12 := Nat.pow_le_pow_right (by omega) hn
  have hpm : 2 ^ m ≤ 2 ^ 6 := Nat.pow_le_pow_right (by omega) hm
  have hSp : ∀ i, i < m → cS G y i < p := fun i hi => (SI_A hp.2 hS hy (by omega)).1
  have hcl := cr_len (v := v) n 0
  intro f
  induction f with
  | zero =>
    intro dr G1 z v6 v7 hdr f1 f2 f3
    have ed : dr = 2 ^ m := by omega
    subst ed
    unfold wlX6_miss_74
    rw [f1 45 (by omega), b1, sh_I (by omega)]
    refine ⟨fun _ => hK G1 z v6 v7 f1 f2 (MI_no f3 (fun v' dr' hd => ?_) (fun v' dr' hd => by omega)), fun h => absurd (Int32.le_refl _) h⟩
    rcases Nat.lt_or_ge dr' (2 ^ m) with q | q
    · left; omega
    · right; exact fun x hM => by have := hM.1; omega
  | succ f ih =>
    intro dr G1 z v6 v7 hdr f1 f2 f3
    have hdr2 : dr < 2 ^ m := by omega
    have hpc : pc dr ≤ 12 := cr_len 12 0
    unfold wlX6_miss_74
    rw [f1 45 (by omega), b1, sh_I (by omega), z1]
    refine ⟨fun h => absurd h (nI_ge (by omega) (by omega)), fun _ => s_bits (by omega) ?_⟩
    rw [cr_12 hv hn, nI_eq (by omega) (by omega)]
    refine ⟨fun hne => hK G1 z v6 v7 f1 f2 (MI_no f3 (fun v' dr' hd => ?_) (fun v' dr' hd => by omega)), fun hlen => s_bits (by omega) ?_⟩
    · by_cases ev : v' = v
      · right; exact fun x hM => hne (by rw [← ev]; exact hM.2.2.2.1)
      · left; omega
    · have skip : (∀ x, ¬ MC p m n G y e w dr v x) → ∀ G2 : GS, (∀ x, ¬ (52 ≤ x ∧ x < 54) → G2 x = G1 x) → wlX6_miss_74 K v1 (nI y) v3 (nI e) (nI w) (nI v) (f + 1) v6 v7 (nI (dr + 1)) G2 := fun hno G2 g1 => by
        refine ih (dr + 1) G2 z v6 v7 (by omega) (fun x hx => by rw [g1 x (by omega), f1 x hx]) ⟨f2.1, fun d bv bx q => ?_⟩ (MI_no f3 (fun v' dr' hd => ?_) (fun v' dr' hd => by omega))
        · have := f2.2 d bv bx q
          rw [g1 54 (by omega)]
          exact this
        · by_cases ev : v' = v ∧ dr' = dr
          · obtain ⟨rfl, rfl⟩ := ev
            exact Or.inr hno
          · left; omega
      have hltI : nI e < nI (cr dr 0 12).length ↔ e < pc dr := nI_ltI (by omega) (show (cr dr 0 12).length < 2 ^ 31 from by show pc dr < 2 ^ 31; omega)
      rw [hltI]
      refine ⟨fun q => skip (fun x hM => by have := hM.2.1; omega) G1 (fun _ _ => rfl), fun q => ?_⟩
      have hT1 : TI G1 p m n := TI_fr (fun c hc => f1 c (by omega)) hT
      have hS1 : SI G1 p m := SI_fr (fun c hc => f1 c (by omega)) hS
      have c1 : colK p G1 dr m = colK p G dr m := colK_fr hm (fun i hi => f1 _ (by omega))
      have c2 : sumK p G1 dr m y = sumK p G dr m y := sumK_fr (f1 (26 + y) (by omega))
      refine s_solves hT1 hS1 (by omega) hv hy (fun G2 g1 g2 g3 => ⟨fun q2 => absurd q2 (by decide), fun _ => ?_⟩) (fun G2 g1 g2 => ⟨fun _ => ?_, fun q2 => absurd rfl q2⟩)
      · rw [c1, c2] at g2 g3
        obtain ⟨x, hx1, hx2⟩ := ans_cand (by omega) hn hSp g2.1 g3
        obtain ⟨hInd, ξ, hξ, hξ0⟩ := g2
        have hM : MC p m n G y e w dr v x := ⟨hdr2, by omega, hv, hlen, hx2, fun c hc e0 => by
          have := Sol_uniq inv hInd (cand_Sol (by omega) hn hSp hx2) hξ c hc
          refine hξ0 c hc ?_
          rw [← this, e0]; rfl⟩
        have fr2 : ∀ x, ¬ (52 ≤ x ∧ x < 55) → G2 x = G x := fun x hx => by rw [g1 x (by omega) (by omega), f1 x hx]
        have hxp : ∀ c, c < 12 → x c < p ∧ G2 53 c = nI (x c) := fun c hc => ⟨hx2.1 c hc, hx1 c hc⟩
        have hx100 : ∀ c, c < 12 → x c < 100 ∧ G2 53 c = nI (x c) := fun c hc => ⟨by have := hx2.1 c hc; omega, hx1 c hc⟩
        refine s_dif hT hS hy (fr2 45 (by omega)) (fr2 46 (by omega)) (fr2 48 (by omega)) hxp ?_
        have hdf := df_6 (p := p) (n := n) (y := y) (G := G) (x := x) hm
        have hD : ∀ v' dr', (v' < v ∨ (v' = v ∧ dr' < dr + 1)) → (v' < v ∨ (v' = v ∧ dr' < dr)) ∨ (v' = v ∧ dr' = dr) := fun v' dr' hd => by omega
        have take : (z = none ∨ ∃ d bv bx, z = some (d, bv, bx) ∧ (dfN p m n G y x < d ∨ (dfN p m n G y x = d ∧ v = bv ∧ lx x bx))) → wX6_isBest G2 (fun G161 => wlX6_miss_74 K v1 (nI y) v3 (nI e) (nI w) (nI v) (f + 1) (nI (dfN p m n G y x)) (nI v) (nI (dr + 1)) G161) := fun hz => by
          refine s_best (fun G3 k1 k2 => ih (dr + 1) G3 _ _ _ (by omega) (fun x hx => by rw [k1 x (by omega), fr2 x hx]) ⟨fun q => absurd q (by simp), fun d bv bx q => ?_⟩ (MI_new inv (by omega) hn hSp f3 hM hD (Or.inr ⟨rfl, by omega⟩) hz))
          have q0 := Option.some.inj q
          have q1 : dfN p m n G y x = d := congrArg Prod.fst q0
          have q2 : v = bv := congrArg (fun t => t.2.1) q0
          have q3 : x = bx := congrArg (fun t => t.2.2) q0
          subst q1
          subst q2
          subst q3
          exact ⟨hdf, rfl, rfl, fun c hc => ⟨(hx100 c hc).1, by rw [k2 c hc]; exact hx1 c hc⟩⟩
        cases z with
        | none =>
          have h6 := f2.1 rfl
          subst h6
          refine ⟨fun _ => take (Or.inl rfl), fun q3 => absurd ?_ q3⟩
          exact nI_lt (b := 99) (by omega) (by omega)
        | some zz =>
          obtain ⟨d6, e6, e7, e54⟩ := f2.2 zz.1 zz.2.1 zz.2.2 rfl
          subst e6
          subst e7
          obtain ⟨-, ⟨dr0, hM0, hD0⟩, -⟩ := f3.2 zz.1 zz.2.1 zz.2.2 rfl
          have hbv : zz.2.1 < 2 ^ n := hM0.2.2.1
          have keep : ¬ (dfN p m n G y x < zz.1 ∨ (dfN p m n G y x = zz.1 ∧ v = zz.2.1 ∧ lx x zz.2.2)) → wlX6_miss_74 K v1 (nI y) v3 (nI e) (nI w) (nI v) (f + 1) (nI zz.1) (nI zz.2.1) (nI (dr + 1)) G2 := fun hno => by
            refine ih (dr + 1) G2 (some (zz.1, zz.2.1, zz.2.2)) _ _ (by omega) fr2 ⟨fun q => absurd q (by simp), fun d bv bx q => ?_⟩ (MI_old inv (by omega) hn hSp f3 hM hD (fun v' dr' hd => by omega) (fun v' dr' hd => by omega) hno)
            have q0 := Option.some.inj q
            have q1 : zz.1 = d := congrArg Prod.fst q0
            have q2 : zz.2.1 = bv := congrArg (fun t => t.2.1) q0
            have q3 : zz.2.2 = bx := congrArg (fun t => t.2.2) q0
            subst q1
            subst q2
            subst q3
            exact ⟨d6, rfl, rfl, fun c hc => ⟨(e54 c hc).1, by rw [g1 54 (by omega) (by omega)]; exact (e54 c hc).2⟩⟩
          rw [nI_ltI (by omega) (by omega), nI_eq (by omega) (by omega), nI_eq (by omega) (by omega)]
          refine ⟨fun q3 => take (Or.inr ⟨_, _, _, rfl, Or.inl q3⟩), fun q3 => ⟨fun q4 => keep (fun q5 => by omega), fun q4 => ⟨fun q5 => keep (fun q6 => by omega), fun q5 => s_lsM hx100 (fun c hc => ⟨(e54 c hc).1, by rw [g1 54 (by omega) (by omega)]; exact (e54 c hc).2⟩) (fun hl => ⟨fun q6 => absurd q6 (by decide), fun _ => take (Or.inr ⟨_, _, _, rfl, Or.inr ⟨q4, q5, hl⟩⟩)⟩) (fun hl => ⟨fun _ => keep (fun q6 => q6.elim (fun q7 => q3 q7) (fun q7 => hl q7.2.2)), fun q6 => absurd rfl q6⟩)⟩⟩⟩
      · rw [c1, c2] at g2
        refine skip (fun x hM => g2 ⟨hM.2.2.2.2.1.2.2.1, fun c => fK p (x c), cand_Sol (by omega) hn hSp hM.2.2.2.2.1, fun c hc e0 => hM.2.2.2.2.2 c hc ?_⟩) G2 (fun x hx => g1 x (by omega) (by omega))
        have := (cr_mem n 0 c).mp hc
        exact (fK_z (hM.2.2.2.2.1.1 c (by omega))).mp e0
theorem s_m60 {p : Nat} [NeZero p] {G : GS} {m n y e w : Nat} {v1 v3 : Int32} {K : Int32 → GS → Prop} (hT : TI G p m n) (hS : SI G p m) (hy : y < 6) (he : e ≤ 6) (hw : w ≤ 12) (hK : ∀ (G1 : GS) z v6 v7, (∀ x, ¬ (52 ≤ x ∧ x < 55) → G1 x = G x) → RMz G1 z v6 v7 → MI p m n G y e w (fun _ _ => True) z → K v6 G1) : ∃ z, wlX6_miss_60 K v1 (nI y) v3 (nI e) (nI w) z 99 0 0 G := by
  obtain ⟨-, ⟨hm0, hm⟩, ⟨hn0, hn⟩, -, ⟨b0, b1, b2⟩, -, -⟩ := id hT
  have hpow : 2 ^ n ≤ 2 ^ 12 := Nat.pow_le_pow_right (by omega) hn
  have cfr : ∀ (G1 : GS), (∀ x, ¬ (52 ≤ x ∧ x < 55) → G1 x = G x) → ∀ dr v x, Cand p m n G1 y dr v x ↔ Cand p m n G y dr v x := fun G1 f1 dr v x => by
    unfold Cand
    rw [colK_fr (G := G) hm (fun i hi => f1 _ (by omega))]
    have : ∀ i, i < m → (ag p n G1 y x i ↔ ag p n G y x i) := fun i hi => by
      unfold ag cS
      have e1 : cA G1 i = cA G i := by funext j; unfold cA; rw [f1 _ (by omega)]
      rw [e1, f1 (26 + y) (by omega)]
    constructor
    · rintro ⟨a, b, c, d⟩; exact ⟨a, b, c, fun i hi hb => (this i hi).mp (d i hi hb)⟩
    · rintro ⟨a, b, c, d⟩; exact ⟨a, b, c, fun i hi hb => (this i hi).mpr (d i hi hb)⟩
  have dfr : ∀ (G1 : GS), (∀ x, ¬ (52 ≤ x ∧ x < 55) → G1 x = G x) → ∀ x, dfN p m n G1 y x = dfN p m n G y x := fun G1 f1 x => by
    refine ctP_congr m (fun i hi => ?_)
    have e1 : cA G1 i = cA G i := by funext j; unfold cA; rw [f1 _ (by omega)]
    unfold cS
    rw [e1, f1 (26 + y) (by omega)]
  have mfr : ∀ (G1 : GS), (∀ x, ¬ (52 ≤ x ∧ x < 55) → G1 x = G x) → ∀ D z, MI p m n G1 y e w D z ↔ MI p m n G y e w D z := fun G1 f1 D z => by
    have e1 : ∀ dr v x, MC p m n G1 y e w dr v x ↔ MC p m n G y e w dr v x := fun dr v x => by
      unfold MC
      rw [cfr G1 f1]
    unfold MI
    simp only [e1, dfr G1 f1]
  have key : ∀ f v (G1 : GS) z v6 v7, v + f = 2 ^ n → (∀ x, ¬ (52 ≤ x ∧ x < 55) → G1 x = G x) → RMz G1 z v6 v7 → MI p m n G y e w (fun v' _ => v' < v) z → wlX6_miss_60 K v1 (nI y) v3 (nI e) (nI w) (f + 1) v6 v7 (nI v) G1 := by
    intro f
    induction f with
    | zero =>
      intro v G1 z v6 v7 hv f1 f2 f3
      have ev : v = 2 ^ n := by omega
      subst ev
      unfold wlX6_miss_60
      rw [f1 45 (by omega), b2, sh_I (by omega)]
      refine ⟨fun _ => hK G1 z v6 v7 f1 f2 (MI_no f3 (fun v' dr' _ => ?_) (fun v' dr' _ => True.intro)), fun h => absurd (Int32.le_refl _) h⟩
      rcases Nat.lt_or_ge v' (2 ^ n) with q | q
      · exact Or.inl q
      · exact Or.inr (fun x hM => by have := hM.2.2.1; omega)
    | succ f ih =>
      intro v G1 z v6 v7 hv f1 f2 f3
      have hT1 : TI G1 p m n := TI_fr (fun c hc => f1 c (by omega)) hT
      have hS1 : SI G1 p m := SI_fr (fun c hc => f1 c (by omega)) hS
      unfold wlX6_miss_60
      rw [f1 45 (by omega), b2, sh_I (by omega), z1]
      refine ⟨fun h => absurd h (nI_ge (by omega) (by omega)), fun _ => ⟨2 ^ m + 1, s_m74 hT1 hS1 hy he hw (show v < 2 ^ n by omega) (fun G2 z2 u6 u7 g1 g2 g3 => ?_) (2 ^ m) 0 G1 z v6 v7 (by omega) (fun _ _ => rfl) f2 ((mfr G1 f1 _ _).mpr (MI_no f3 (fun v' dr' hd => Or.inl ?_) (fun v' dr' hd => Or.inl hd)))⟩⟩
      · exact ih (v + 1) G2 z2 u6 u7 (by omega) (fun x hx => by rw [g1 x hx, f1 x hx]) g2 ((mfr G1 f1 _ _).mp g3)
      · rcases hd with hd | ⟨-, hd⟩
        · exact hd
        · exact absurd hd (Nat.not_lt_zero _)
  exact ⟨2 ^ n + 1, key (2 ^ n) 0 G none 99 0 (by omega) (fun _ _ => rfl) ⟨fun _ => rfl, fun d bv bx q => absurd q (by simp)⟩ ⟨fun _ v dr x hd => absurd hd (Nat.not_lt_zero _), fun d bv bx q => absurd q (by simp)⟩⟩
