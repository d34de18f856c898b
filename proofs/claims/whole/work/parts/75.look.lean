/-! PURE PART: the class's look -/
def bcV (v0 : Int32) : Int32 :=
  let x9 := (v0 - (((v0.toUInt32 >>> ((1 : Int32).toUInt32 &&& Int32.toUInt32 31)).toInt32) &&& (1431655765 : Int32)))
  let x23 := ((x9 &&& (858993459 : Int32)) + (((x9.toUInt32 >>> ((2 : Int32).toUInt32 &&& Int32.toUInt32 31)).toInt32) &&& (858993459 : Int32)))
  let x33 := ((x23 + ((x23.toUInt32 >>> ((4 : Int32).toUInt32 &&& Int32.toUInt32 31)).toInt32)) &&& (252645135 : Int32))
  let x40 := (x33 + ((x33.toUInt32 >>> ((8 : Int32).toUInt32 &&& Int32.toUInt32 31)).toInt32))
  let x47 := (x40 + ((x40.toUInt32 >>> ((16 : Int32).toUInt32 &&& Int32.toUInt32 31)).toInt32))
  x47 &&& (63 : Int32)
theorem bc_all : ∀ d, d < 64 → bcV (nI d) = nI (pc d) := by decide +kernel
theorem s_bc {d : Nat} {P : Int32 → Prop} (hd : d < 64) (h : P (nI (pc d))) : wJ6_bitCount_0f7a4 (nI d) P := by
  rw [← bc_all d hd] at h
  intro x9 e9 x23 e23 x33 e33 x40 e40 x47 e47
  subst e47
  subst e40
  subst e33
  subst e23
  subst e9
  exact h
theorem s_lsX {G : GS} {x y : Nat → Nat} {P : Int32 → Prop} (hx : ∀ c, c < 12 → x c < 100 ∧ G 13 c = nI (x c)) (hy : ∀ c, c < 12 → y c < 100 ∧ G 14 c = nI (y c)) (h1 : lx x y → P 1) (h0 : ¬ lx x y → P 0) : wX1_isLess 13 14 G P := by
  have l13 : ln 13 = 12 := rfl
  have l14 : ln 14 = 12 := rfl
  have key : ∀ f j, j + f = 12 → (∀ i, i < j → x i = y i) → wlX1_isLess_2 (fun x2_17 => (vp_in x2_17 (ln 13) ∧ (vp_in x2_17 (ln 14) ∧ (((G 14 (cl x2_17)) ≤ (G 13 (cl x2_17)) → P (0 : Int32)) ∧ (¬ (G 14 (cl x2_17)) ≤ (G 13 (cl x2_17)) → P (1 : Int32)))))) (P (0 : Int32)) 13 14 G (f + 1) (nI j) := by
    intro f
    induction f with
    | zero =>
      intro j hj he
      have e : j = 12 := by omega
      subst e
      refine ⟨fun _ => h0 (fun q => ?_), fun h => absurd (Int32.le_refl _) h⟩
      obtain ⟨k, k1, k2, -⟩ := q
      have := he k k1
      omega
    | succ f ih =>
      intro j hj he
      obtain ⟨x1, x2⟩ := hx j (by omega)
      obtain ⟨y1, y2⟩ := hy j (by omega)
      unfold wlX1_isLess_2
      rw [l13, l14, zc (by omega), x2, y2, nI_eq (by omega) (by omega), z1]
      refine ⟨fun h => absurd h (nI_ge (b := 12) (by omega) (by omega)), fun _ => ⟨vp_in_nI (by omega) (by omega), vp_in_nI (by omega) (by omega), fun e => ?_, fun e => ⟨vp_in_nI (by omega) (by omega), vp_in_nI (by omega) (by omega), ?_⟩⟩⟩
      · have := ih (j + 1) (by omega) (fun i hi => ?_)
        · rw [l13, l14] at this
          exact this
        · by_cases ei : i = j
          · rw [ei]; exact e
          · exact he i (by omega)
      · rw [nI_leI (by omega) (by omega)]
        refine ⟨fun q => h0 (fun q2 => ?_), fun q => h1 ⟨j, by omega, by omega, he⟩⟩
        obtain ⟨k, k1, k2, k3⟩ := q2
        rcases Nat.lt_trichotomy k j with z | z | z
        · have := he k z; omega
        · subst z; omega
        · exact e (k3 j z)
  exact ⟨13, key 12 0 (by omega) (fun i hi => by omega)⟩
theorem s_look {p : Nat} [NeZero p] {G : GS} {m n y w e : Nat} {P : Int32 → GS → Prop} (hT : TI G p m n) (hS : SI G p m) (hy : y < 6) (hw : w ≤ 4) (he : e ≤ 6) (hK0 : ∀ G1 : GS, (∀ x, x ≠ 2 → x ≠ 11 → x ≠ 12 → x ≠ 13 → x ≠ 14 → ¬ (38 ≤ x ∧ x < 45) → G1 x = G x) → (∀ dr v x, dr < 2 ^ m → pc dr = e → v < 2 ^ n → (cr v 0 n).length = w → ¬ Cand p m n G y dr v x) → P 0 G1) (hK1 : ∀ (G1 : GS) bv bx, (∀ x, x ≠ 2 → x ≠ 11 → x ≠ 12 → x ≠ 13 → x ≠ 14 → ¬ (38 ≤ x ∧ x < 45) → G1 x = G x) → bv < 2 ^ n → (∃ dr, dr < 2 ^ m ∧ pc dr = e ∧ (cr bv 0 n).length = w ∧ Cand p m n G y dr bv bx) → (∀ dr v x, dr < 2 ^ m → pc dr = e → v < 2 ^ n → (cr v 0 n).length = w → Cand p m n G y dr v x → ¬ lsV v x bv bx) → (∀ c, c < 12 → G1 14 c = nI (bx c)) → P 1 G1) : wX1_look (26 + y) (nI w) (nI e) G P := by
  have hp := isP_lt hT.1
  obtain ⟨-, ⟨hm0, hm⟩, ⟨hn0, hn⟩, ⟨a0, a1, a2⟩, -, -, -⟩ := id hT
  have inv := TI_inv hT
  have hpow : 2 ^ n ≤ 2 ^ 12 := Nat.pow_le_pow_right (by omega) hn
  have hpm : 2 ^ m ≤ 2 ^ 6 := Nat.pow_le_pow_right (by omega) hm
  have hSp : ∀ i, i < m → cS G y i < p := fun i hi => (SI_A hp.2 hS hy (by omega)).1
  have key : ∀ f dr (z : Option (Nat × (Nat → Nat))) (v4 : Int32) (G1 : GS), dr + f = 2 ^ m → (∀ x, x ≠ 2 → x ≠ 11 → x ≠ 12 → x ≠ 13 → x ≠ 14 → ¬ (38 ≤ x ∧ x < 45) → G1 x = G x) → (z = none → v4 = -1 ∧ ∀ dr', dr' < dr → pc dr' = e → ∀ v x, v < 2 ^ n → (cr v 0 n).length = w → ¬ Cand p m n G y dr' v x) → (∀ bv bx, z = some (bv, bx) → v4 = nI bv ∧ bv < 2 ^ n ∧ (∀ c, c < 12 → bx c < 100 ∧ G1 14 c = nI (bx c)) ∧ (∃ dr', dr' < 2 ^ m ∧ pc dr' = e ∧ (cr bv 0 n).length = w ∧ Cand p m n G y dr' bv bx) ∧ ∀ dr', dr' < dr → pc dr' = e → ∀ v x, v < 2 ^ n → (cr v 0 n).length = w → Cand p m n G y dr' v x → ¬ lsV v x bv bx) → wlX1_look_6 (fun x4_131 G_131 => ((x4_131 < 0 → P (0 : Int32) G_131) ∧ (¬ x4_131 < 0 → P (1 : Int32) G_131))) (26 + y) (nI w) (nI e) (f + 1) v4 (nI dr) G1 := by
    intro f
    induction f with
    | zero =>
      intro dr z v4 G1 hdr f1 f2 f3
      have ed : dr = 2 ^ m := by omega
      subst ed
      unfold wlX1_look_6
      rw [f1 1 (by omega) (by omega) (by omega) (by omega) (by omega) (by omega), a1, sh_I (by omega)]
      refine ⟨fun _ => ?_, fun h => absurd (Int32.le_refl _) h⟩
      cases z with
      | none =>
        obtain ⟨g1, g2⟩ := f2 rfl
        subst g1
        exact ⟨fun _ => hK0 G1 f1 (fun dr v x h1 h2 h3 h4 => g2 dr h1 h2 v x h3 h4), fun q => absurd (by decide) q⟩
      | some zz =>
        obtain ⟨g1, g2, g3, g4, g5⟩ := f3 zz.1 zz.2 rfl
        subst g1
        exact ⟨fun q => absurd q (nI_pos (by omega)), fun _ => hK1 G1 zz.1 zz.2 f1 g2 g4 (fun dr v x h1 h2 h3 h4 => g5 dr h1 h2 v x h3 h4) (fun c hc => (g3 c hc).2)⟩
    | succ f ih =>
      intro dr z v4 G1 hdr f1 f2 f3
      have hdr2 : dr < 2 ^ m := by omega
      have hpc : pc dr ≤ 12 := cr_len 12 0
      unfold wlX1_look_6
      rw [f1 1 (by omega) (by omega) (by omega) (by omega) (by omega) (by omega), a1, sh_I (by omega), z1]
      refine ⟨fun h => absurd h (nI_ge (by omega) (by omega)), fun _ => s_bc (by omega) ?_⟩
      rw [nI_eq (by omega) (by omega)]
      refine ⟨fun hne => ?_, fun heq => ?_⟩
      · refine ih (dr + 1) z v4 G1 (by omega) f1 (fun q => ⟨(f2 q).1, fun dr' h1 h2 => ?_⟩) (fun bv bx q => ?_)
        · by_cases ed : dr' = dr
          · rw [ed] at h2; exact absurd h2 hne
          · exact (f2 q).2 dr' (by omega) h2
        · obtain ⟨g1, g2, g3, g4, g5⟩ := f3 bv bx q
          refine ⟨g1, g2, g3, g4, fun dr' h1 h2 => ?_⟩
          by_cases ed : dr' = dr
          · rw [ed] at h2; exact absurd h2 hne
          · exact g5 dr' (by omega) h2
      · have hT1 : TI G1 p m n := TI_fr (fun c hc => f1 c (by omega) (by omega) (by omega) (by omega) (by omega) (by omega)) hT
        have hS1 : SI G1 p m := SI_fr (fun c hc => f1 c (by omega) (by omega) (by omega) (by omega) (by omega) (by omega)) hS
        refine s_ways (dr := dr) (size := w) (cap := 1) hT1 hS1 (by omega) hy hw (Nat.le_refl _) (by omega) (fun G2 g1 g2 => ?_)
        have c1 : colK p G1 dr m = colK p G dr m := colK_fr hm (fun i hi => f1 _ (by omega) (by omega) (by omega) (by omega) (by omega) (by omega))
        have c2 : sumK p G1 dr m y = sumK p G dr m y := sumK_fr (f1 _ (by omega) (by omega) (by omega) (by omega) (by omega) (by omega))
        rw [c1, c2] at g2 ⊢
        have hfull := scn_least (H := Hit (kr dr m).length n w (colK p G dr m) (sumK p G dr m y)) (cap := 1) (2 ^ n) 0 (0, 0) rfl (Nat.le_refl _)
        have hzero := fun hz => scn_zero (H := Hit (kr dr m).length n w (colK p G dr m) (sumK p G dr m y)) (cap := 1) (k := 2 ^ n) (Nat.le_refl _) hz
        have hle := (scn_le (Hit (kr dr m).length n w (colK p G dr m) (sumK p G dr m y)) 1 (2 ^ n) 0 (0, 0) (Nat.zero_le _)).2
        generalize scn (Hit (kr dr m).length n w (colK p G dr m) (sumK p G dr m y)) 1 0 (2 ^ n) (0, 0) = s at g2 hfull hzero hle ⊢
        have fr2 : ∀ x, x ≠ 2 → x ≠ 11 → x ≠ 12 → x ≠ 13 → x ≠ 14 → ¬ (38 ≤ x ∧ x < 45) → G2 x = G x := fun x a b c d e2 f2 => by rw [g1 x a b c d f2, f1 x a b c d e2 f2]
        have e14 : G2 14 = G1 14 := g1 14 (by omega) (by omega) (by omega) (by omega) (by omega)
        have z0 : nI s.1 ≤ 0 ↔ s.1 ≤ 0 := nI_leI (b := 0) (by omega) (by omega)
        rw [z0]
        refine ⟨fun q => ?_, fun q => ?_⟩
        · have hno := hzero (by omega)
          have hnc : ∀ v x, v < 2 ^ n → (cr v 0 n).length = w → ¬ Cand p m n G y dr v x := fun v x h1 h2 h3 => hno v h1 (cand_hit (by omega) hn hSp h2 h3)
          refine ih (dr + 1) z v4 G2 (by omega) fr2 (fun q => ⟨(f2 q).1, fun dr' h1 h2 => ?_⟩) (fun bv bx q => ?_)
          · by_cases ed : dr' = dr
            · rw [ed]; exact hnc
            · exact (f2 q).2 dr' (by omega) h2
          · obtain ⟨k1, k2, k3, k4, k5⟩ := f3 bv bx q
            refine ⟨k1, k2, fun c hc => by rw [e14]; exact k3 c hc, k4, fun dr' h1 h2 => ?_⟩
            by_cases ed : dr' = dr
            · rw [ed]
              exact fun v x h4 h5 h6 => absurd h6 (hnc v x h4 h5)
            · exact k5 dr' (by omega) h2
        · obtain ⟨hH, hlt, hleast⟩ := hfull (by omega)
          obtain ⟨g29, gA⟩ := g2 (by omega)
          obtain ⟨x, hx1, hx2⟩ := ans_cand (by omega) hn hSp hH.2.1 gA
          have hs2 : s.2 < 2 ^ n := by omega
          have hother : ∀ v x', v < 2 ^ n → (cr v 0 n).length = w → Cand p m n G y dr v x' → s.2 ≤ v ∧ (v = s.2 → ∀ c, c < 12 → x' c = x c) := fun v x' h1 h2 h3 => by
            refine ⟨?_, fun ev => ?_⟩
            · rcases Nat.lt_or_ge v s.2 with z9 | z9
              · exact absurd (cand_hit (by omega) hn hSp h2 h3) (hleast v (Nat.zero_le _) z9)
              · exact z9
            · subst ev
              exact cand_uniq inv (by omega) hn hSp h3 hx2
          have x100 : ∀ c, c < 12 → x c < 100 ∧ G2 13 c = nI (x c) := fun c hc => ⟨by have := hx2.1 c hc; omega, hx1 c hc⟩
          -- taking it
          have take : (z = none ∨ ∃ bv bx, z = some (bv, bx) ∧ (s.2 < bv ∨ (s.2 = bv ∧ lx x bx))) → wX5_copy 13 14 G2 (fun G122 => wlX1_look_6 (fun x4_131 G_131 => ((x4_131 < 0 → P (0 : Int32) G_131) ∧ (¬ x4_131 < 0 → P (1 : Int32) G_131))) (26 + y) (nI w) (nI e) (f + 1) (nI s.2) (nI (dr + 1)) G122) := by
            intro hz
            refine s_copy 12 (by omega) (by omega) rfl (by decide) (by decide) (fun G3 k1 k2 _ => ?_)
            refine ih (dr + 1) (some (s.2, x)) (nI s.2) G3 (by omega) (fun x a b c d e2 f2 => by rw [k1 x e2, fr2 x a b c d e2 f2]) (fun q => absurd q (by simp)) (fun bv bx q => ?_)
            have q1 : s.2 = bv := congrArg Prod.fst (Option.some.inj q)
            have q2 : x = bx := congrArg Prod.snd (Option.some.inj q)
            subst q1
            subst q2
            refine ⟨rfl, hs2, fun c hc => ⟨(x100 c hc).1, by rw [k2 c hc]; exact hx1 c hc⟩, ⟨dr, hdr2, heq, hH.1, hx2⟩, fun dr' h1 h2 v x' h3 h4 h5 hl => ?_⟩
            by_cases ed : dr' = dr
            · subst ed
              obtain ⟨o1, o2⟩ := hother v x' h3 h4 h5
              rcases hl with hl | ⟨hl, hl2⟩
              · omega
              · exact lx_irr (lx_congr (o2 hl) (fun _ _ => rfl) hl2)
            · rcases hz with hz | ⟨bv, bx, hz, hz2⟩
              · exact (f2 hz).2 dr' (by omega) h2 v x' h3 h4 h5
              · obtain ⟨-, -, -, -, k5⟩ := f3 bv bx hz
                refine k5 dr' (by omega) h2 v x' h3 h4 h5 ?_
                rcases hl with hl | ⟨hl, hl2⟩
                · rcases hz2 with hz2 | ⟨hz2, -⟩
                  · exact Or.inl (by omega)
                  · exact Or.inl (by omega)
                · rcases hz2 with hz2 | ⟨hz2, hz3⟩
                  · exact Or.inl (by omega)
                  · exact Or.inr ⟨by omega, lx_trans hl2 hz3⟩
          have keep : (∃ bv bx, z = some (bv, bx) ∧ ¬ s.2 < bv ∧ (s.2 = bv → ¬ lx x bx)) → wlX1_look_6 (fun x4_131 G_131 => ((x4_131 < 0 → P (0 : Int32) G_131) ∧ (¬ x4_131 < 0 → P (1 : Int32) G_131))) (26 + y) (nI w) (nI e) (f + 1) v4 (nI (dr + 1)) G2 := by
            rintro ⟨bv, bx, hz, h6, h7⟩
            refine ih (dr + 1) z v4 G2 (by omega) fr2 (fun q => by rw [hz] at q; exact absurd q (by simp)) (fun bv' bx' q => ?_)
            obtain ⟨k1, k2, k3, k4, k5⟩ := f3 bv' bx' q
            rw [hz] at q
            have q1 : bv = bv' := congrArg Prod.fst (Option.some.inj q)
            have q2 : bx = bx' := congrArg Prod.snd (Option.some.inj q)
            subst q1
            subst q2
            refine ⟨k1, k2, fun c hc => by rw [e14]; exact k3 c hc, k4, fun dr' h1 h2 v x' h3 h4 h5 hl => ?_⟩
            by_cases ed : dr' = dr
            · subst ed
              obtain ⟨o1, o2⟩ := hother v x' h3 h4 h5
              rcases hl with hl | ⟨hl, hl2⟩
              · omega
              · exact h7 (by omega) (lx_congr (o2 (by omega)) (fun _ _ => rfl) hl2)
            · exact k5 dr' (by omega) h2 v x' h3 h4 h5 hl
          rw [g29]
          cases z with
          | none =>
            obtain ⟨k1, -⟩ := f2 rfl
            subst k1
            refine ⟨fun _ => ⟨fun _ x9 ex9 => ?_, fun q3 => absurd q3 (by decide)⟩, fun q3 => absurd (by decide) q3⟩
            rw [ex9]; exact take (Or.inl rfl)
          | some zz =>
            obtain ⟨k1, k2, k3, -, -⟩ := f3 zz.1 zz.2 rfl
            subst k1
            rw [nI_leI (by omega) (by omega), nI_eq (by omega) (by omega)]
            refine ⟨fun q3 => absurd q3 (nI_pos (by omega)), fun _ => ⟨fun q3 => ⟨fun q4 => absurd rfl q4, fun _ => ⟨fun q4 => keep ⟨zz.1, zz.2, rfl, by omega, fun q5 => absurd q5 q4⟩, fun q4 => s_lsX x100 (fun c hc => by rw [e14]; exact k3 c hc) (fun hl => ⟨fun q5 => absurd q5 (by decide), fun _ x9 ex9 => ?_⟩) (fun hl => ⟨fun _ => keep ⟨zz.1, zz.2, rfl, by omega, fun _ => hl⟩, fun q5 => absurd rfl q5⟩)⟩⟩, fun q3 => ⟨fun _ x9 ex9 => ?_, fun q4 => absurd q4 (by decide)⟩⟩⟩
            · rw [ex9]; exact take (Or.inr ⟨zz.1, zz.2, rfl, Or.inr ⟨q4, hl⟩⟩)
            · rw [ex9]; exact take (Or.inr ⟨zz.1, zz.2, rfl, Or.inl (by omega)⟩)
  exact ⟨2 ^ m + 1, key (2 ^ m) 0 none (-1) G (by omega) (fun _ _ _ _ _ _ _ => rfl) (fun _ => ⟨rfl, fun dr' h => by omega⟩) (fun bv bx q => absurd q (by simp))⟩
