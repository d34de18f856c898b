/-! PURE PART: decode, the loops -/
theorem Fst_pl {d b l k : Nat} {F : Nat → Int64} (h : Fst d b F l k) : ∃ pl, pl < 1000000 ∧ F (bst l k + 1) / F (bst l k) = lN pl := by
  obtain ⟨-, -, ⟨-, -, pl, h1, h2, -⟩, -⟩ := h
  exact ⟨pl, h1, h2⟩
theorem nx_ex (d b : Nat) (F : Nat → Int64) : ∃ x : (Nat → Int64) × Int32 × Int32, ∀ l k pl, Fst d b F l k → pl < 1000000 → F (bst l k + 1) / F (bst l k) = lN pl → x.1 = jn b pl (-(F (bst l k))) F d ∧ x.2.1 = nI pl ∧ x.2.2 = (F (bst l k)).toInt32 := by
  by_cases h : ∃ l k, Fst d b F l k
  · obtain ⟨l, k, hf⟩ := h
    obtain ⟨pl, h1, h2⟩ := Fst_pl hf
    refine ⟨(jn b pl (-(F (bst l k))) F d, nI pl, (F (bst l k)).toInt32), fun l2 k2 pl2 hf2 h3 h4 => ?_⟩
    obtain ⟨rfl, rfl⟩ := Fst_uniq hf hf2
    rw [h2] at h4
    rw [lN_inj h1 h3 h4]
    exact ⟨rfl, rfl, rfl⟩
  · exact ⟨(F, 0, 0), fun l k pl hf => absurd ⟨l, k, hf⟩ h⟩
noncomputable def nx (d b : Nat) (F : Nat → Int64) : (Nat → Int64) × Int32 × Int32 := Classical.choose (nx_ex d b F)
theorem nx_is {d b l k pl : Nat} {F : Nat → Int64} (h1 : Fst d b F l k) (h2 : pl < 1000000) (h3 : F (bst l k + 1) / F (bst l k) = lN pl) : (nx d b F).1 = jn b pl (-(F (bst l k))) F d ∧ (nx d b F).2.1 = nI pl ∧ (nx d b F).2.2 = (F (bst l k)).toInt32 := Classical.choose_spec (nx_ex d b F) l k pl h1 h2 h3
noncomputable def FF (d b : Nat) (F : Nat → Int64) : Nat → Nat → Int64
  | 0 => F
  | i + 1 => (nx d b (FF d b F i)).1
def hasF (d b : Nat) (F : Nat → Int64) : Prop := ∃ l k, Fst d b F l k
theorem hasF_no {d b : Nat} {F : Nat → Int64} (h : ∀ l k, l < d → k < b → ¬ isS b F l k) : ¬ hasF d b F := fun ⟨l, k, a, c, e, _⟩ => h l k a c e
theorem FF_TH {d b : Nat} {F : Nat → Int64} (hF : TH F) : ∀ i, (∀ j, j < i → hasF d b (FF d b F j)) → TH (FF d b F i)
  | 0, _ => hF
  | i + 1, h => by
    obtain ⟨l, k, hf⟩ := h i (by omega)
    obtain ⟨pl, h1, h2⟩ := Fst_pl hf
    show TH (nx d b (FF d b F i)).1
    rw [(nx_is hf h1 h2).1]
    exact jn_TH (FF_TH hF i (fun j hj => h j (by omega))) d
theorem FF_N (d b : Nat) (F : Nat → Int64) : ∃ N, N ≤ 200 ∧ (∀ i, i < N → hasF d b (FF d b F i)) ∧ (N = 200 ∨ ¬ hasF d b (FF d b F N)) := by
  obtain ⟨N, h1, h2⟩ := pk_least (fun k => k = 200 ∨ ¬ hasF d b (FF d b F k)) ⟨200, Or.inl rfl⟩
  refine ⟨N, ?_, fun i hi => ?_, h1⟩
  · rcases Nat.lt_or_ge 200 N with q | q
    · exact absurd (Or.inl rfl) (h2 200 q)
    · exact q
  · apply Classical.byContradiction
    intro q
    exact h2 i hi (Or.inr q)
/-- the class's loop -/
theorem s_taX {d b N : Nat} {F : Nat → Int64} {G : GS} {B : BS} {K : GS → BS → Prop} (hd : d ≤ 4) (hb : 2 ≤ b) (hb2 : b ≤ 32) (h0 : G 5 0 = nI d) (h1 : G 5 1 = nI b) (hF : TH F) (hN : N ≤ 200) (hN1 : ∀ i, i < N → hasF d b (FF d b F i)) (hN2 : N = 200 ∨ ¬ hasF d b (FF d b F N)) (hK : ∀ (G1 : GS) (B1 : BS), (∀ c, c ≠ 5 → c ≠ 18 → c ≠ 19 → G1 c = G c) → (∀ j, j ≠ 3 → G1 5 j = G 5 j) → G1 5 3 = nI N → (∀ j, j < N → j < 100 → G1 18 j = (nx d b (FF d b F j)).2.1 ∧ G1 19 j = (nx d b (FF d b F j)).2.2) → (∀ c, c ≠ 17 → B1 c = B c) → (∀ k, k < 384 → B1 17 k = FF d b F N k) → K G1 B1) : ∀ f i (G1 : GS) (B1 : BS), i + f = N → (∀ c, c ≠ 5 → c ≠ 18 → c ≠ 19 → G1 c = G c) → (∀ j, j ≠ 3 → G1 5 j = G 5 j) → G1 5 3 = nI i → (∀ j, j < i → j < 100 → G1 18 j = (nx d b (FF d b F j)).2.1 ∧ G1 19 j = (nx d b (FF d b F j)).2.2) → (∀ c, c ≠ 17 → B1 c = B c) → (∀ k, k < 384 → B1 17 k = FF d b F i k) → wlX3_tellAll_25 K K (f + 1) (nI i) G1 B1 := by
  intro f
  induction f with
  | zero =>
    intro i G1 B1 hi g1 g2 g3 g4 b1 b2
    have e : i = N := by omega
    subst e
    have hh := hK G1 B1 g1 g2 g3 g4 b1 b2
    refine ⟨fun _ => hh, fun hlt => ?_⟩
    refine s_fsX hd hb hb2 (by rw [g2 0 (by omega), h0]) (by rw [g2 1 (by omega), h1]) (fun l k q => ?_) (fun _ => ⟨fun h => absurd h (by decide), fun _ => hh⟩)
    rcases hN2 with e2 | e2
    · subst e2
      exact absurd (Int32.le_refl _) hlt
    · exact absurd ⟨l, k, Fst_congr hd hb2 b2 q⟩ e2
  | succ f ih =>
    intro i G1 B1 hi g1 g2 g3 g4 b1 b2
    refine ⟨fun h => absurd h (nI_ge (b := 200) (by omega) (by omega)), fun _ => ?_⟩
    have c0 : G1 5 0 = nI d := by rw [g2 0 (by omega), h0]
    have c1 : G1 5 1 = nI b := by rw [g2 1 (by omega), h1]
    refine s_fsX hd hb hb2 c0 c1 (fun l k q => ⟨fun _ => ?_, fun h => ?_⟩) (fun q => ?_)
    · have hlk : l < 4 ∧ k < 32 := ⟨by have := q.1; omega, by have := q.2.1; omega⟩
      have hs : bst l k + 2 < 384 := by unfold bst; omega
      have q2 := Fst_congr hd hb2 b2 q
      obtain ⟨pl, hpl, ep⟩ := Fst_pl q2
      obtain ⟨n1, n2, n3⟩ := nx_is q2 hpl ep
      have hne : ¬ B1 17 (bst l k) = 0 := q.2.2.1.1
      refine ⟨vp_in_nI (by omega) (by omega), fun x ex => ?_⟩
      rw [zc (by omega)] at ex
      subst ex
      rw [lg_cmp_eq, z1]
      refine ⟨fun _ => ⟨vp_in_nI (by omega) (by omega), hne, fun y ey => ?_⟩, fun h => absurd h hne⟩
      rw [zc (by omega), b2 _ (by omega), b2 _ (by omega), ep, lN_i] at ey
      subst ey
      rw [z1, g3]
      have fin : ∀ G2 : GS, (∀ c, c ≠ 5 → c ≠ 18 → c ≠ 19 → G2 c = G c) → (∀ j, j ≠ 3 → G2 5 j = G 5 j) → G2 5 3 = nI (i + 1) → (∀ j, j < i + 1 → j < 100 → G2 18 j = (nx d b (FF d b F j)).2.1 ∧ G2 19 j = (nx d b (FF d b F j)).2.2) → wX3_join 17 (nI pl) (-(B1 17 (bst l k))) G2 B1 (fun B77 => wlX3_tellAll_25 K K (f + 1) (nI (i + 1)) G2 B77) := by
        intro G2 u1 u2 u3 u4
        refine s_jnX (a := 17) (d := d) (b := b) rfl hd hb hb2 hpl (by rw [u2 0 (by omega), h0]) (by rw [u2 1 (by omega), h1]) (fun l2 hl2 => ?_) (fun B2 w1 w2 => ?_)
        · rw [b2 _ (by omega)]
          exact FF_TH hF i (fun j hj => hN1 j (by omega)) l2 hl2
        · refine ih (i + 1) G2 B2 (by omega) u1 u2 u3 u4 (fun c hc => by rw [w1 c hc, b1 c hc]) (fun j hj => ?_)
          show B2 17 j = (nx d b (FF d b F i)).1 j
          rw [n1, w2 j, b2 _ (by omega)]
          exact jn_congr hb hb2 b2 d hd j hj
      refine ⟨fun hge G2 e2 => fin G2 (fun c x y z => by rw [e2, wr_ne x, g1 c x y z]) (fun j hj => by rw [e2, wr_sn hj, g2 j hj]) (by rw [e2, wr_ss, z1]) (fun j x y => ?_), fun hlt => ⟨?_, fun G2 e2 => ?_⟩⟩
      · have hge2 : 100 ≤ i := by
          rcases Nat.lt_or_ge i 100 with z | z
          · exact absurd hge (nI_ge (b := 100) z (by omega))
          · exact z
        rw [e2, wr_ne (by omega), wr_ne (by omega)]
        exact g4 j (by omega) y
      · have hlt2 : i < 100 := by
          rcases Nat.lt_or_ge i 100 with z | z
          · exact z
          · exact absurd (nI_le z (by omega)) hlt
        exact vp_in_nI hlt2 (by omega)
      · have hlt2 : i < 100 := by
          rcases Nat.lt_or_ge i 100 with z | z
          · exact z
          · exact absurd (nI_le z (by omega)) hlt
        rw [zc (by omega)] at e2
        have e25 : G2 5 = G1 5 := by rw [e2, wr_ne (by omega)]
        rw [e25, g3]
        refine ⟨vp_in_nI hlt2 (by omega), fun G3 e3 => fun G4 e4 => ?_⟩
        rw [zc (by omega)] at e3
        have e35 : G3 5 = G1 5 := by rw [e3, wr_ne (by omega), e25]
        rw [e35, g3, z1] at e4
        refine fin G4 (fun c x y z => by rw [e4, wr_ne x, e3, wr_ne z, e2, wr_ne y, g1 c x y z]) (fun j hj => by rw [e4, wr_sn hj, e35, g2 j hj]) (by rw [e4, wr_ss]) (fun j x y => ?_)
        rw [e4, wr_ne (by omega), wr_ne (by omega)]
        by_cases ej : j = i
        · subst ej
          rw [n2, n3]
          exact ⟨by rw [e3, wr_ne (by omega), e2, wr_ss], by rw [e3, wr_ss, b2 _ (by omega)]⟩
        · refine ⟨?_, ?_⟩
          · rw [e3, wr_ne (by omega), e2, wr_sn ej]; exact (g4 j (by omega) y).1
          · rw [e3, wr_sn ej, e2, wr_ne (by omega)]; exact (g4 j (by omega) y).2
    · have : bst l k + 2 < 384 := by have := q.1; have := q.2.1; unfold bst; omega
      exact absurd (nI_pos' (by omega)) h
    · obtain ⟨l, k, hf⟩ := hN1 i (by omega)
      have := Fst_congr (F' := B1 17) hd hb2 (fun j hj => (b2 j hj).symm) hf
      exact absurd ⟨l, k, this⟩ (hasF_no q)
/-- the model's loop -/
theorem s_taM {d b N : Nat} {F : Nat → Int64} {G : GS} {B : BS} {K : Int32 → GS → BS → Prop} (hd : d ≤ 4) (hb : 2 ≤ b) (hb2 : b ≤ 32) (h0 : G 45 6 = nI d) (h1 : G 45 7 = nI b) (hF : TH F) (hN : N ≤ 200) (hN1 : ∀ i, i < N → hasF d b (FF d b F i)) (hN2 : N = 200 ∨ ¬ hasF d b (FF d b F N)) (hK : ∀ (G1 : GS) (B1 : BS), (∀ c, c ≠ 50 → c ≠ 51 → G1 c = G c) → (∀ j, j < N → j < 100 → G1 50 j = (nx d b (FF d b F j)).2.1 ∧ G1 51 j = (nx d b (FF d b F j)).2.2) → (∀ c, c ≠ 49 → B1 c = B c) → (∀ k, k < 384 → B1 49 k = B 49 k) → (∀ k, k < 384 → B1 49 (384 + k) = FF d b F N k) → K (nI N) G1 B1) : ∀ f i (G1 : GS) (B1 : BS), i + f = N → (∀ c, c ≠ 50 → c ≠ 51 → G1 c = G c) → (∀ j, j < i → j < 100 → G1 50 j = (nx d b (FF d b F j)).2.1 ∧ G1 51 j = (nx d b (FF d b F j)).2.2) → (∀ c, c ≠ 49 → B1 c = B c) → (∀ k, k < 384 → B1 49 k = B 49 k) → (∀ k, k < 384 → B1 49 (384 + k) = FF d b F i k) → wlX6_decode_35 K (f + 2) (nI i) 1 G1 B1 := by
  intro f
  induction f with
  | zero =>
    intro i G1 B1 hi g1 g4 b1 b3 b2
    have e : i = N := by omega
    subst e
    have hh := hK G1 B1 g1 g4 b1 b3 b2
    refine ⟨fun h => absurd h (by decide), fun _ => ⟨fun _ => hh, fun hlt => ⟨d + 1, ?_⟩⟩⟩
    refine s_fsM_o hd hb hb2 (by rw [g1 45 (by omega) (by omega), h0]) (by rw [g1 45 (by omega) (by omega), h1]) (fun l k pl q => ?_) (fun _ _ => ⟨fun _ => ⟨fun _ => ⟨fun _ => hh, fun h => absurd rfl h⟩, fun h => absurd rfl h⟩, fun h => absurd (by decide) h⟩) d 0 _ (by omega) (fun l2 k2 h => by omega)
    rcases hN2 with e2 | e2
    · subst e2
      exact absurd (Int32.le_refl _) hlt
    · exact absurd ⟨l, k, Fst_congr hd hb2 b2 q⟩ e2
  | succ f ih =>
    intro i G1 B1 hi g1 g4 b1 b3 b2
    refine ⟨fun h => absurd h (by decide), fun _ => ⟨fun h => absurd h (nI_ge (b := 200) (by omega) (by omega)), fun _ => ⟨d + 1, ?_⟩⟩⟩
    have c0 : G1 45 6 = nI d := by rw [g1 45 (by omega) (by omega), h0]
    have c1 : G1 45 7 = nI b := by rw [g1 45 (by omega) (by omega), h1]
    refine s_fsM_o hd hb hb2 c0 c1 (fun l k pl q hpl ep => ?found) (fun w q => ?none) d 0 _ (by omega) (fun l2 k2 h => by omega)
    case found =>
      refine ⟨fun h => absurd h (nI_pos (by omega)), fun _ => ⟨fun h => absurd h (by decide), fun _ => ?_⟩⟩
      have hlk : l < 4 ∧ k < 32 := ⟨by have := q.1; omega, by have := q.2.1; omega⟩
      have hs : bst l k + 2 < 384 := by unfold bst; omega
      have q2 := Fst_congr hd hb2 b2 q
      rw [b2 _ (by omega), b2 _ (by omega)] at ep
      obtain ⟨n1, n2, n3⟩ := nx_is q2 hpl ep
      rw [z1, b2 _ (by omega)]
      have fin : ∀ G2 : GS, (∀ c, c ≠ 50 → c ≠ 51 → G2 c = G c) → (∀ j, j < i + 1 → j < 100 → G2 50 j = (nx d b (FF d b F j)).2.1 ∧ G2 51 j = (nx d b (FF d b F j)).2.2) → wX6_adds (384 : Int32) (nI pl) (-(FF d b F i (bst l k))) G2 B1 (fun B169 => wlX6_decode_35 K (f + 2) (nI (i + 1)) (1 : Int32) G2 B169) := by
        intro G2 u1 u4
        refine s_jnM (o := 384) (d := d) (b := b) rfl (by omega) hd hb hb2 hpl (by rw [u1 45 (by omega) (by omega), h0]) (by rw [u1 45 (by omega) (by omega), h1]) (fun l2 hl2 => ?_) (fun B2 w1 w2 w3 => ?_)
        · show ∃ z, z < 1000003 ∧ B1 49 (384 + (3 * l2 + 2)) = lN z
          rw [b2 _ (by omega)]
          exact FF_TH hF i (fun j hj => hN1 j (by omega)) l2 hl2
        · refine ih (i + 1) G2 B2 (by omega) u1 u4 (fun c hc => by rw [w1 c hc, b1 c hc]) (fun j hj => by rw [w3 j hj, b3 j hj]) (fun j hj => ?_)
          show B2 49 (384 + j) = (nx d b (FF d b F i)).1 j
          rw [n1, w2 j]
          exact jn_congr hb hb2 b2 d hd j hj
      refine ⟨fun hge => fin G1 g1 (fun j x y => ?_), fun hlt => ?_⟩
      · have hge2 : 100 ≤ i := by
          rcases Nat.lt_or_ge i 100 with z | z
          · exact absurd hge (nI_ge (b := 100) z (by omega))
          · exact z
        exact g4 j (by omega) y
      · have hlt2 : i < 100 := by
          rcases Nat.lt_or_ge i 100 with z | z
          · exact z
          · exact absurd (nI_le z (by omega)) hlt
        refine ⟨vp_in_nI hlt2 (by omega), fun G2 e2 => ⟨vp_in_nI hlt2 (by omega), fun G3 e3 => ?_⟩⟩
        rw [zc (by omega)] at e2 e3
        refine fin G3 (fun c x y => by rw [e3, wr_ne y, e2, wr_ne x, g1 c x y]) (fun j x y => ?_)
        by_cases ej : j = i
        · subst ej
          rw [n2, n3]
          exact ⟨by rw [e3, wr_ne (by omega), e2, wr_ss], by rw [e3, wr_ss]⟩
        · refine ⟨?_, ?_⟩
          · rw [e3, wr_ne (by omega), e2, wr_sn ej]; exact (g4 j (by omega) y).1
          · rw [e3, wr_sn ej, e2, wr_ne (by omega)]; exact (g4 j (by omega) y).2
    case none =>
      obtain ⟨l, k, hf⟩ := hN1 i (by omega)
      have := Fst_congr (F' := fun j => B1 49 (384 + j)) hd hb2 (fun j hj => (b2 j hj).symm) hf
      exact absurd ⟨l, k, this⟩ (hasF_no q)
theorem s_nlX {B : BS} {P : Int32 → Prop} (h0 : (∃ k, k < 384 ∧ ¬ B 17 k = 0) → P 0) (h1 : (∀ k, k < 384 → B 17 k = 0) → P 1) : wX3_nothingLeft B P := by
  have key : ∀ f i, i + f = 384 → (∀ k, k < i → B 17 k = 0) → wlX3_nothingLeft_2 (P 0) (P 1) B (f + 1) (nI i) := by
    intro f
    induction f with
    | zero =>
      intro i hi h
      have e : i = 384 := by omega
      subst e
      exact ⟨fun _ => h1 h, fun h => absurd (Int32.le_refl _) h⟩
    | succ f ih =>
      intro i hi h
      refine ⟨fun h => absurd h (nI_ge (by omega) (by omega)), fun _ => ⟨vp_in_nI (by omega) (by omega), ?_⟩⟩
      rw [lg_cmp_eq, zc (by omega), z1]
      refine ⟨fun e => ih (i + 1) (by omega) (fun k hk => ?_), fun e => h0 ⟨i, by omega, e⟩⟩
      by_cases ek : k = i
      · rw [ek]; exact e
      · exact h k (by omega)
  exact ⟨385, key 384 0 (by omega) (fun k hk => by omega)⟩
theorem s_nlM {v1 : Int32} {B : BS} {K : Int32 → Prop} (h0 : (∃ k, k < 384 ∧ ¬ B 49 (384 + k) = 0) → K 0) (h1 : (∀ k, k < 384 → B 49 (384 + k) = 0) → K 1) : ∃ z, wlX6_decode_190 K v1 B z 1 384 := by
  have key0 : (∃ k, k < 384 ∧ ¬ B 49 (384 + k) = 0) → ∀ f i, i + f = 384 → wlX6_decode_190 K v1 B (f + 1) 0 (nI (384 + i)) := by
    intro hq f
    induction f with
    | zero =>
      intro i hi
      have e : i = 384 := by omega
      subst e
      exact ⟨fun _ => h0 hq, fun h => absurd (Int32.le_refl _) h⟩
    | succ f ih =>
      intro i hi
      refine ⟨fun h => absurd h (nI_ge (b := 768) (by omega) (by omega)), fun _ => ⟨fun _ => ?_, fun h => absurd rfl h⟩⟩
      rw [z1]
      exact ih (i + 1) (by omega)
  have key : ∀ f i, i + f = 384 → (∀ k, k < i → B 49 (384 + k) = 0) → wlX6_decode_190 K v1 B (f + 1) 1 (nI (384 + i)) := by
    intro f
    induction f with
    | zero =>
      intro i hi h
      have e : i = 384 := by omega
      subst e
      exact ⟨fun _ => h1 h, fun h => absurd (Int32.le_refl _) h⟩
    | succ f ih =>
      intro i hi h
      refine ⟨fun h => absurd h (nI_ge (b := 768) (by omega) (by omega)), fun _ => ⟨fun h => absurd h (by decide), fun _ => ⟨vp_in_nI (by omega) (by omega), ?_⟩⟩⟩
      rw [lg_cmp_eq, zc (by omega), z1]
      refine ⟨fun e => key0 ⟨i, by omega, e⟩ f (i + 1) (by omega), fun e => ih (i + 1) (by omega) (fun k hk => ?_)⟩
      by_cases ek : k = i
      · rw [ek]; exact e
      · exact h k (by omega)
  exact ⟨385, key 384 0 (by omega) (fun k hk => by omega)⟩
theorem s_dcM_l (K : BS → Prop) (B : BS) (hK : ∀ B1 : BS, (∀ c, c ≠ 49 → B1 c = B c) → (∀ k, k < 384 → B1 49 k = B 49 k) → (∀ k, k < 384 → B1 49 (384 + k) = B 49 k) → K B1) : ∀ f i (B1 : BS), i + f = 384 → (∀ c, c ≠ 49 → B1 c = B c) → (∀ k, k < 384 → B1 49 k = B 49 k) → (∀ k, k < i → B1 49 (384 + k) = B 49 k) → wlX6_decode_2 K (f + 1) (nI i) B1 := by
  intro f
  induction f with
  | zero =>
    intro i B1 hi h1 h2 h3
    have e : i = 384 := by omega
    subst e
    exact ⟨fun _ => hK B1 h1 h2 h3, fun h => absurd (Int32.le_refl _) h⟩
  | succ f ih =>
    intro i B1 hi h1 h2 h3
    have e0 : (384 : Int32) + nI i = nI (384 + i) := nI_add 384 i
    unfold wlX6_decode_2
    rw [e0]
    refine ⟨fun h => absurd h (nI_ge (b := 384) (by omega) (by omega)), fun _ => ⟨vp_in_nI (by omega) (by omega), vp_in_nI (by omega) (by omega), fun B2 e => ?_⟩⟩
    rw [zc (by omega), zc (by omega)] at e
    rw [z1]
    refine ih (i + 1) B2 (by omega) (fun c hc => by rw [e, wrL_ne hc, h1 c hc]) (fun k hk => by rw [e, wrL_sn (by omega), h2 k hk]) (fun k hk => ?_)
    by_cases ek : k = i
    · rw [ek, e, wrL_ss, h2 i (by omega)]
    · rw [e, wrL_sn (by omega)]; exact h3 k (by omega)
theorem op_decode {G : GS} {B : BS} {P : Int32 → Int32 → GS → BS → Prop} (h : Inv G B) (k : ∀ r G2 B2, Inv G2 B2 → P r r G2 B2) : wX5_decode G B (fun r G1 B1 => wX6_decode G1 B1 (fun r2 G2 B2 => P r r2 G2 B2)) := by
  obtain ⟨p, m, n, d, b, q, t, hT, hR, hS, hK⟩ := h
  obtain ⟨⟨hd0, hd⟩, ⟨hb0, hb⟩, hq, ht, ⟨c0, c1, c2, c3⟩, ⟨d0, d1, d2, d3⟩, h7, h8, h9⟩ := hK
  have hF : TH (B 16) := fun l hl => h8 l hl
  obtain ⟨N, hN, hN1, hN2⟩ := FF_N d b (B 16)
  intro B1 eB G1 eG
  have b17 : ∀ j, j < 384 → B1 17 j = B 16 j := fun j hj => by
    rw [eB, cpL_at]
    rw [show cl (0 : Int32) = 0 from rfl, show cl (nI 384) = 384 from zc (by omega), pk_cpy_in (by omega) (by omega)]
    rw [Nat.sub_zero, Nat.zero_add]
  have bne : ∀ c, c ≠ 17 → B1 c = B c := fun c hc => by rw [eB, cpL_ne hc]
  have cont : ∀ (G2 : GS) (B2 : BS), (∀ c, c ≠ 5 → c ≠ 18 → c ≠ 19 → G2 c = G1 c) → (∀ j, j ≠ 3 → G2 5 j = G1 5 j) → G2 5 3 = nI N → (∀ j, j < N → j < 100 → G2 18 j = (nx d b (FF d b (B 16) j)).2.1 ∧ G2 19 j = (nx d b (FF d b (B 16) j)).2.2) → (∀ c, c ≠ 17 → B2 c = B1 c) → (∀ k, k < 384 → B2 17 k = FF d b (B 16) N k) → ∀ r r2 w : Int32, (w = 0 ∧ r = nI N ∧ r2 = nI N + 0 ∨ w = 1 ∧ r = nI N + 10000 ∧ r2 = nI N + 10000) → (w = 0 → ∃ k, k < 384 ∧ ¬ B2 17 k = 0) → (w = 1 → ∀ k, k < 384 → B2 17 k = 0) → wX6_decode G2 B2 (fun r2 G2 B2 => P r r2 G2 B2) := by
    intro G2 B2 g1 g2 g3 g4 u1 u2 r r2 w hr w0 w1
    have gG : ∀ c, c ≠ 5 → c ≠ 18 → c ≠ 19 → G2 c = G c := fun c x y z => by rw [g1 c x y z, eG, wr_ne x]
    refine ⟨385, s_dcM_l _ B2 (fun B3 x1 x2 x3 => ?_) 384 0 B2 (by omega) (fun _ _ => rfl) (fun _ _ => rfl) (fun j hj => by omega)⟩
    refine ⟨N + 2, s_taM (d := d) (b := b) (N := N) (F := B 16) (G := G2) (B := B3) hd hb0 hb (by rw [gG 45 (by omega) (by omega) (by omega), d0]) (by rw [gG 45 (by omega) (by omega) (by omega), d1]) hF hN hN1 hN2 (fun G4 B4 y1 y2 y3 y4 y5 => ?_) N 0 G2 B3 (by omega) (fun _ _ _ => rfl) (fun j hj => by omega) (fun _ _ => rfl) (fun _ _ => rfl) (fun j hj => ?_)⟩
    · intro G5 e5
      have f5 : ∀ c, c ≠ 45 → G5 c = G4 c := fun c hc => by rw [e5, wr_ne hc]
      have inv : Inv G5 B4 := by
        have fr : ∀ c, c ≠ 5 → c ≠ 18 → c ≠ 19 → c ≠ 45 → c ≠ 50 → c ≠ 51 → G5 c = G c := fun c a1 a2 a3 a4 a5 a6 => by rw [f5 c a4, y1 c a5 a6, gG c a1 a2 a3]
        have f45 : ∀ j, j ≠ 10 → G5 45 j = G 45 j := fun j hj => by rw [e5, wr_sn hj, y1 45 (by omega) (by omega), gG 45 (by omega) (by omega) (by omega)]
        have f05 : ∀ j, j ≠ 3 → G5 5 j = G 5 j := fun j hj => by rw [f5 5 (by omega), y1 5 (by omega) (by omega), g2 j hj, eG, wr_sn hj]
        refine ⟨p, m, n, d, b, q, N, TI_45 (fun c hc => fr c (by omega) (by omega) (by omega) (by omega) (by omega) (by omega)) (fun j hj => f45 j (by omega)) hT, RI_fr (fun c hc => fr c (by omega) (by omega) (by omega) (by omega) (by omega) (by omega)) hR, SI_fr (fun c hc => fr c (by omega) (by omega) (by omega) (by omega) (by omega) (by omega)) hS, ⟨hd0, hd⟩, ⟨hb0, hb⟩, hq, hN, ?_, ?_, fun j hj => ?_, fun l hl => ?_, fun j x y => ?_⟩
        · rw [f05 0 (by omega), f05 1 (by omega), f05 2 (by omega), f5 5 (by omega), y1 5 (by omega) (by omega)]; exact ⟨c0, c1, c2, g3⟩
        · rw [f45 6 (by omega), f45 7 (by omega), f45 8 (by omega), e5, wr_ss]; exact ⟨d0, d1, d2, rfl⟩
        · rw [y3 16 (by omega), x1 16 (by omega), u1 16 (by omega), bne 16 (by omega), y4 j hj, x2 j hj, u1 49 (by omega), bne 49 (by omega)]; exact h7 j hj
        · rw [y3 16 (by omega), x1 16 (by omega), u1 16 (by omega), bne 16 (by omega)]; exact h8 l hl
        · have a1 := g4 j x y
          have a2 := y2 j x y
          rw [f5 18 (by omega), f5 19 (by omega), f5 50 (by omega), f5 51 (by omega), y1 18 (by omega) (by omega), y1 19 (by omega) (by omega), a1.1, a1.2, a2.1, a2.2]
          exact ⟨rfl, rfl⟩
      have same : ∀ j, j < 384 → B4 49 (384 + j) = B2 17 j := fun j hj => by rw [y5 j hj, u2 j hj]
      refine s_nlM (fun hx => ⟨fun _ => ?_, fun h => absurd rfl h⟩) (fun hx => ⟨fun h => absurd h (by decide), fun _ => ?_⟩)
      · obtain ⟨j, hj, hne⟩ := hx
        rcases hr with ⟨a1, a2, a3⟩ | ⟨a1, a2, a3⟩
        · have e0 : nI N + (0 : Int32) = nI N := nI_add N 0
          rw [a2, e0]
          exact k _ _ _ inv
        · exact absurd (by rw [same j hj]; exact w1 a1 j hj) hne
      · rcases hr with ⟨a1, a2, a3⟩ | ⟨a1, a2, a3⟩
        · obtain ⟨j, hj, hne⟩ := w0 a1
          exact absurd (by rw [← same j hj]; exact hx j hj) hne
        · rw [a2]
          exact k _ _ _ inv
    · rw [x3 j hj, u1 49 (by omega), bne 49 (by omega), ← h7 j hj]; rfl
  refine ⟨N + 1, s_taX (d := d) (b := b) (N := N) (F := B 16) (G := G1) (B := B1) hd hb0 hb (by rw [eG, wr_sn (by omega), c0]) (by rw [eG, wr_sn (by omega), c1]) hF hN hN1 hN2 (fun G2 B2 g1 g2 g3 g4 u1 u2 => ?_) N 0 G1 B1 (by omega) (fun _ _ _ _ => rfl) (fun _ _ => rfl) (by rw [eG, wr_ss]; rfl) (fun j hj => by omega) (fun _ _ => rfl) (fun j hj => b17 j hj)⟩
  refine s_nlX (fun hx => ⟨Or.inl rfl, fun _ => ?_, fun h => absurd rfl h⟩) (fun hx => ⟨Or.inr rfl, fun h => absurd h (by decide), fun _ => ?_⟩)
  · rw [g3]
    exact cont G2 B2 g1 g2 g3 g4 u1 u2 _ _ 0 (Or.inl ⟨rfl, rfl, rfl⟩) (fun _ => hx) (fun h => absurd h (by decide))
  · rw [g3]
    exact cont G2 B2 g1 g2 g3 g4 u1 u2 _ _ 1 (Or.inr ⟨rfl, rfl, rfl⟩) (fun h => absurd h (by decide)) (fun _ => hx)
