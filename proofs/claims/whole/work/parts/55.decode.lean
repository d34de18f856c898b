/-! PURE PART: decode -/
def isS (b : Nat) (F : Nat → Int64) (l k : Nat) : Prop := ¬ F (bst l k) = 0 ∧ F (bst l k + 1) - F (bst l k + 1) / F (bst l k) * F (bst l k) = 0 ∧ ∃ pl, pl < 1000000 ∧ F (bst l k + 1) / F (bst l k) = lN pl ∧ bk b l pl = k ∧ lN (sq (F (bst l k)) pl) = F (bst l k + 2)
theorem isS_congr {b l k : Nat} {F F' : Nat → Int64} (hl : l < 4) (hk : k < 32) (h : ∀ j, j < 384 → F j = F' j) : isS b F l k ↔ isS b F' l k := by
  have : bst l k + 2 < 384 := by unfold bst; omega
  unfold isS
  rw [h _ (by omega), h (bst l k + 1) (by omega), h (bst l k + 2) this]
theorem lN_inj {a b : Nat} (ha : a < 1000000) (hb : b < 1000000) (e : lN a = lN b) : a = b := (pk_lEQ (by omega) (by omega)).mp e
theorem lN_rg {x : Int64} (h1 : ¬ x < 0) (h2 : ¬ (999999 : Int64) < x) : ∃ pl, pl < 1000000 ∧ x = lN pl := by
  obtain ⟨j, hj, rfl⟩ := pk_lOf h1
  refine ⟨j, ?_, rfl⟩
  rcases Nat.lt_or_ge j 1000000 with z | z
  · exact z
  · exact absurd ((pk_lLT (a := 999999) (by omega) hj).mpr (by omega)) h2
theorem s_sgX {b l k : Nat} {G : GS} {B : BS} {P : Int32 → Prop} (hb : 2 ≤ b) (hb2 : b ≤ 32) (hl : l < 4) (hk : k < b) (h1 : G 5 1 = nI b) (h0 : ¬ isS b (B 17) l k → P 0) (hS : isS b (B 17) l k → P 1) : wX3_isSingle (nI l) (nI k) G B P := by
  have hs : bst l k + 2 < 384 := by unfold bst; omega
  refine s_stX ?_
  have s1 : nI (bst l k) + (1 : Int32) = nI (bst l k + 1) := z1 _
  have s2 : nI (bst l k) + (2 : Int32) = nI (bst l k + 2) := nI_add _ 2
  refine ⟨vp_in_nI (by omega) (by omega), fun x ex => ?_⟩
  rw [s1, s2, zc (by omega), zc (by omega)]
  rw [zc (by omega)] at ex
  subst ex
  rw [lg_cmp_eq, lg_cmp_eq]
  refine ⟨fun e => h0 (fun q => q.1 e), fun e0 => ⟨vp_in_nI (by omega) (by omega), e0, fun e1 => ⟨vp_in_nI (by omega) (by omega), e0, fun x ex => ?_⟩, fun e1 => h0 (fun q => e1 q.2.1)⟩⟩
  rw [lg_cmp_lt, lg_cmp_gt]
  refine ⟨fun e => h0 (fun q => ?_), fun e2 => ⟨fun e => h0 (fun q => ?_), fun e3 => ?_⟩⟩
  · obtain ⟨-, -, pl, hpl, ep, -⟩ := q
    rw [ex, ep] at e
    exact absurd ((pk_lLT (b := 0) (by omega) (by omega)).mp e) (by omega)
  · obtain ⟨-, -, pl, hpl, ep, -⟩ := q
    rw [ex, ep] at e
    exact absurd ((pk_lLT (a := 999999) (by omega) (by omega)).mp e) (by omega)
  obtain ⟨pl, hpl, ep⟩ := lN_rg e2 e3
  subst ep
  rw [lN_i]
  refine s_bkX hb hb2 hl hpl h1 ⟨fun eb => s_sqX hpl ⟨vp_in_nI (by omega) (by omega), ?_⟩, fun eb => h0 (fun q => eb ?_)⟩
  · have eb2 : bk b l pl = k := (nI_eq (by have := bk_lt (b := b) (l := l) (pl := pl) (by omega); omega) (by omega)).mp eb
    rw [lg_cmp_eq]
    refine ⟨fun e => h0 (fun q => e ?_), fun e => hS ⟨e0, e1, pl, hpl, ex.symm, eb2, e⟩⟩
    obtain ⟨-, -, pl2, hpl2, ep2, -, e5⟩ := q
    rw [← ex] at ep2
    rw [lN_inj hpl hpl2 ep2]; exact e5
  · obtain ⟨-, -, pl2, hpl2, ep2, e4, -⟩ := q
    rw [← ex] at ep2
    rw [lN_inj hpl hpl2 ep2, e4]
theorem s_sgM {b l k : Nat} {G : GS} {B : BS} {P : Int32 → Prop} (hb : 2 ≤ b) (hb2 : b ≤ 32) (hl : l < 4) (hk : k < b) (h1 : G 45 7 = nI b) (h0 : ¬ isS b (fun j => B 49 (384 + j)) l k → P (-1)) (hS : isS b (fun j => B 49 (384 + j)) l k → ∀ pl, pl < 1000000 → B 49 (384 + (bst l k + 1)) / B 49 (384 + bst l k) = lN pl → P (nI pl)) : wX6_single (nI l) (nI k) G B P := by
  have hs : bst l k + 2 < 384 := by unfold bst; omega
  have hx : (((384 : Int32) + ((96 : Int32) * nI l)) + ((3 : Int32) * nI k)) = nI (384 + bst l k) := by
    rw [show (384 : Int32) = nI 384 from rfl, show (96 : Int32) = nI 96 from rfl, show (3 : Int32) = nI 3 from rfl, pk_mul, pk_mul, nI_add, nI_add]
    unfold bst
    congr 1
    omega
  intro x ex
  rw [hx] at ex
  subst ex
  have s1 : nI (384 + bst l k) + (1 : Int32) = nI (384 + (bst l k + 1)) := z1 _
  have s2 : nI (384 + bst l k) + (2 : Int32) = nI (384 + (bst l k + 2)) := nI_add _ 2
  refine ⟨vp_in_nI (by omega) (by omega), fun x ex => ?_⟩
  rw [s1, s2, zc (by omega), zc (by omega)]
  rw [zc (by omega)] at ex
  subst ex
  rw [lg_cmp_eq, lg_cmp_eq]
  refine ⟨fun e => h0 (fun q => q.1 e), fun e0 => ⟨vp_in_nI (by omega) (by omega), e0, fun e1 => ⟨vp_in_nI (by omega) (by omega), e0, fun x ex => ?_⟩, fun e1 => h0 (fun q => e1 q.2.1)⟩⟩
  refine s_in (fun e => ⟨fun _ => h0 (fun q => ?_), fun h => absurd rfl h⟩) (fun e2 e3 => ⟨fun h => absurd h (by decide), fun _ => ?_⟩)
  · obtain ⟨-, -, pl, hpl, ep, -⟩ := q
    have ep : B 49 (384 + (bst l k + 1)) / B 49 (384 + bst l k) = lN pl := ep
    rw [ex, ep] at e
    exact e ⟨(pk_lLE (a := 0) (by omega) (by omega)).mpr (by omega), (pk_lLE (b := 999999) (by omega) (by omega)).mpr (by omega)⟩
  obtain ⟨pl, hpl, ep⟩ := lN_rg (Int64.not_lt.mpr e2) (Int64.not_lt.mpr e3)
  subst ep
  rw [lN_i]
  refine s_bkM hb hb2 hl hpl h1 ⟨fun eb => s_sqM hpl ⟨vp_in_nI (by omega) (by omega), ?_⟩, fun eb => h0 (fun q => eb ?_)⟩
  · have eb2 : bk b l pl = k := (nI_eq (by have := bk_lt (b := b) (l := l) (pl := pl) (by omega); omega) (by omega)).mp eb
    rw [lg_cmp_eq]
    refine ⟨fun e => h0 (fun q => e ?_), fun e => hS ⟨e0, e1, pl, hpl, ex.symm, eb2, e⟩ pl hpl ex.symm⟩
    obtain ⟨-, -, pl2, hpl2, ep2, -, e5⟩ := q
    have ep2 : B 49 (384 + (bst l k + 1)) / B 49 (384 + bst l k) = lN pl2 := ep2
    rw [← ex] at ep2
    rw [lN_inj hpl hpl2 ep2]; exact e5
  · obtain ⟨-, -, pl2, hpl2, ep2, e4, -⟩ := q
    have ep2 : B 49 (384 + (bst l k + 1)) / B 49 (384 + bst l k) = lN pl2 := ep2
    rw [← ex] at ep2
    rw [lN_inj hpl hpl2 ep2, e4]
/-- the first single bucket -/
def Fst (d b : Nat) (F : Nat → Int64) (l k : Nat) : Prop := l < d ∧ k < b ∧ isS b F l k ∧ ∀ l2 k2, k2 < b → (l2 < l ∨ (l2 = l ∧ k2 < k)) → ¬ isS b F l2 k2
theorem Fst_uniq {d b l k l2 k2 : Nat} {F : Nat → Int64} (h1 : Fst d b F l k) (h2 : Fst d b F l2 k2) : l = l2 ∧ k = k2 := by
  obtain ⟨a1, a2, a3, a4⟩ := h1
  obtain ⟨b1, b2, b3, b4⟩ := h2
  rcases Nat.lt_trichotomy l l2 with q | q | q
  · exact absurd a3 (b4 l k a2 (Or.inl q))
  · subst q
    rcases Nat.lt_trichotomy k k2 with r | r | r
    · exact absurd a3 (b4 l k a2 (Or.inr ⟨rfl, r⟩))
    · exact ⟨rfl, r⟩
    · exact absurd b3 (a4 l k2 b2 (Or.inr ⟨rfl, r⟩))
  · exact absurd b3 (a4 l2 k2 b2 (Or.inl q))
theorem Fst_congr {d b l k : Nat} {F F' : Nat → Int64} (hd : d ≤ 4) (hb2 : b ≤ 32) (h : ∀ j, j < 384 → F j = F' j) (hf : Fst d b F l k) : Fst d b F' l k := by
  obtain ⟨a1, a2, a3, a4⟩ := hf
  exact ⟨a1, a2, (isS_congr (by omega) (by omega) h).mp a3, fun l2 k2 hk hx q => a4 l2 k2 hk hx ((isS_congr (by omega) (by omega) h).mpr q)⟩
theorem s_fsX_i {d b l : Nat} {G : GS} {B : BS} {K29 : Int32 → Prop} {K41 : Prop} (hb : 2 ≤ b) (hb2 : b ≤ 32) (hl : l < 4) (h1 : G 5 1 = nI b) (hK1 : ∀ k, k < b → isS b (B 17) l k → (∀ k2, k2 < k → ¬ isS b (B 17) l k2) → K29 (nI k)) (hK2 : (∀ k2, k2 < b → ¬ isS b (B 17) l k2) → K41) : ∀ f k, k + f = b → (∀ k2, k2 < k → ¬ isS b (B 17) l k2) → wlX3_firstSingle_12 K29 K41 (nI l) G B (f + 1) (nI k) := by
  intro f
  induction f with
  | zero =>
    intro k hk h
    have e : k = b := by omega
    subst e
    unfold wlX3_firstSingle_12
    rw [h1]
    exact ⟨fun _ => hK2 h, fun h => absurd (Int32.le_refl _) h⟩
  | succ f ih =>
    intro k hk h
    unfold wlX3_firstSingle_12
    rw [h1]
    refine ⟨fun h => absurd h (nI_ge (by omega) (by omega)), fun _ => s_sgX hb hb2 hl (by omega) h1 (fun q => ⟨fun _ => ?_, fun e => absurd rfl e⟩) (fun q => ⟨fun e => absurd e (by decide), fun _ => hK1 k (by omega) q h⟩)⟩
    rw [z1]
    refine ih (k + 1) (by omega) (fun k2 hk2 => ?_)
    by_cases e : k2 = k
    · rw [e]; exact q
    · exact h k2 (by omega)
theorem s_fsX_o {d b : Nat} {G : GS} {B : BS} {K29 : Int32 → Int32 → Prop} {K47 : Prop} (hd : d ≤ 4) (hb : 2 ≤ b) (hb2 : b ≤ 32) (h0 : G 5 0 = nI d) (h1 : G 5 1 = nI b) (hK1 : ∀ l k, Fst d b (B 17) l k → K29 (nI l) (nI k)) (hK2 : (∀ l k, l < d → k < b → ¬ isS b (B 17) l k) → K47) : ∀ f l, l + f = d → (∀ l2 k2, l2 < l → k2 < b → ¬ isS b (B 17) l2 k2) → wlX3_firstSingle_2 K29 K47 G B (f + 1) (nI l) := by
  intro f
  induction f with
  | zero =>
    intro l hl h
    have e : l = d := by omega
    subst e
    unfold wlX3_firstSingle_2
    rw [h0]
    exact ⟨fun _ => hK2 h, fun h => absurd (Int32.le_refl _) h⟩
  | succ f ih =>
    intro l hl h
    unfold wlX3_firstSingle_2
    rw [h0]
    refine ⟨fun h => absurd h (nI_ge (by omega) (by omega)), fun _ => ⟨b + 1, s_fsX_i (d := d) hb hb2 (by omega) h1 (fun k hk q1 q2 => hK1 l k ⟨by omega, hk, q1, fun l2 k2 hk2 hx => ?_⟩) (fun q => ?_) b 0 (by omega) (fun k2 hk2 => by omega)⟩⟩
    · rcases hx with hx | ⟨rfl, hx⟩
      · exact h l2 k2 hx hk2
      · exact q2 k2 hx
    · rw [z1]
      refine ih (l + 1) (by omega) (fun l2 k2 h2 hk2 => ?_)
      by_cases e : l2 = l
      · rw [e]; exact q k2 hk2
      · exact h l2 k2 (by omega) hk2
theorem s_fsX {d b : Nat} {G : GS} {B : BS} {P : Int32 → Prop} (hd : d ≤ 4) (hb : 2 ≤ b) (hb2 : b ≤ 32) (h0 : G 5 0 = nI d) (h1 : G 5 1 = nI b) (hK1 : ∀ l k, Fst d b (B 17) l k → P (nI (bst l k))) (hK2 : (∀ l k, l < d → k < b → ¬ isS b (B 17) l k) → P (-1)) : wX3_firstSingle G B P :=
  ⟨d + 1, s_fsX_o hd hb hb2 h0 h1 (fun l k q => s_stX (hK1 l k q)) hK2 d 0 (by omega) (fun l2 k2 h => by omega)⟩
theorem s_fsM_i {b l : Nat} {v1 : Int32} {G : GS} {B : BS} {K119 : Int32 → Int64 → Prop} (hb : 2 ≤ b) (hb2 : b ≤ 32) (hl : l < 4) (h1 : G 45 7 = nI b) (hK1 : ∀ k pl, k < b → pl < 1000000 → B 49 (384 + (bst l k + 1)) / B 49 (384 + bst l k) = lN pl → isS b (fun j => B 49 (384 + j)) l k → (∀ k2, k2 < k → ¬ isS b (fun j => B 49 (384 + j)) l k2) → K119 (nI pl) (B 49 (384 + bst l k))) (hK2 : ∀ w, (∀ k2, k2 < b → ¬ isS b (fun j => B 49 (384 + j)) l k2) → K119 (-1) w) : ∀ f k w, k + f = b → (∀ k2, k2 < k → ¬ isS b (fun j => B 49 (384 + j)) l k2) → wlX6_decode_70 K119 v1 (nI l) G B (f + 1) (-1) w (nI k) := by
  intro f
  induction f with
  | zero =>
    intro k w hk h
    have e : k = b := by omega
    subst e
    unfold wlX6_decode_70
    rw [h1]
    exact ⟨fun _ => hK2 w h, fun h => absurd (Int32.le_refl _) h⟩
  | succ f ih =>
    intro k w hk h
    have hs : bst l k + 2 < 384 := by unfold bst; omega
    have hx : (((384 : Int32) + ((96 : Int32) * nI l)) + ((3 : Int32) * nI k)) = nI (384 + bst l k) := by
      rw [show (384 : Int32) = nI 384 from rfl, show (96 : Int32) = nI 96 from rfl, show (3 : Int32) = nI 3 from rfl, pk_mul, pk_mul, nI_add, nI_add]
      unfold bst
      congr 1
      omega
    unfold wlX6_decode_70
    rw [h1, hx]
    refine ⟨fun h => absurd h (nI_ge (by omega) (by omega)), fun _ => ⟨fun h => absurd h (by decide), fun _ => s_sgM hb hb2 hl (by omega) h1 (fun q => ⟨vp_in_nI (by omega) (by omega), fun x ex => ?_⟩) (fun q pl hpl ep => ⟨vp_in_nI (by omega) (by omega), fun x ex => ?_⟩)⟩⟩
    · rw [z1]
      refine ih (k + 1) x (by omega) (fun k2 hk2 => ?_)
      by_cases e : k2 = k
      · rw [e]; exact q
      · exact h k2 (by omega)
    · rw [zc (by omega)] at ex
      rw [ex, z1]
      have hh := hK1 k pl (by omega) hpl ep q h
      cases f with
      | zero =>
        unfold wlX6_decode_70
        rw [h1]
        exact ⟨fun _ => hh, fun g => absurd (nI_le (show b ≤ k + 1 by omega) (by omega)) g⟩
      | succ f =>
        unfold wlX6_decode_70
        rw [h1]
        exact ⟨fun _ => hh, fun _ => ⟨fun _ => hh, fun g => absurd (nI_pos' (by omega)) g⟩⟩
theorem s_fsM_o {d b : Nat} {v1 : Int32} {G : GS} {B : BS} {K125 : Int32 → Int64 → Prop} (hd : d ≤ 4) (hb : 2 ≤ b) (hb2 : b ≤ 32) (h0 : G 45 6 = nI d) (h1 : G 45 7 = nI b) (hK1 : ∀ l k pl, Fst d b (fun j => B 49 (384 + j)) l k → pl < 1000000 → B 49 (384 + (bst l k + 1)) / B 49 (384 + bst l k) = lN pl → K125 (nI pl) (B 49 (384 + bst l k))) (hK2 : ∀ w, (∀ l k, l < d → k < b → ¬ isS b (fun j => B 49 (384 + j)) l k) → K125 (-1) w) : ∀ f l w, l + f = d → (∀ l2 k2, l2 < l → k2 < b → ¬ isS b (fun j => B 49 (384 + j)) l2 k2) → wlX6_decode_54 K125 v1 G B (f + 1) (-1) w (nI l) := by
  intro f
  induction f with
  | zero =>
    intro l w hl h
    have e : l = d := by omega
    subst e
    unfold wlX6_decode_54
    rw [h0]
    exact ⟨fun _ => hK2 w h, fun h => absurd (Int32.le_refl _) h⟩
  | succ f ih =>
    intro l w hl h
    unfold wlX6_decode_54
    rw [h0]
    refine ⟨fun h => absurd h (nI_ge (by omega) (by omega)), fun _ => ⟨fun h => absurd h (by decide), fun _ => ⟨b + 1, s_fsM_i hb hb2 (by omega) h1 (fun k pl hk hpl ep q1 q2 => ?_) (fun w2 q => ?_) b 0 w (by omega) (fun k2 hk2 => by omega)⟩⟩⟩
    · have hh := hK1 l k pl ⟨by omega, hk, q1, fun l2 k2 hk2 hx => by
        rcases hx with hx | ⟨rfl, hx⟩
        · exact h l2 k2 hx hk2
        · exact q2 k2 hx⟩ hpl ep
      rw [z1]
      cases f with
      | zero =>
        unfold wlX6_decode_54
        rw [h0]
        exact ⟨fun _ => hh, fun g => absurd (nI_le (show d ≤ l + 1 by omega) (by omega)) g⟩
      | succ f =>
        unfold wlX6_decode_54
        rw [h0]
        exact ⟨fun _ => hh, fun _ => ⟨fun _ => hh, fun g => absurd (nI_pos' (by omega)) g⟩⟩
    · rw [z1]
      refine ih (l + 1) w2 (by omega) (fun l2 k2 h2 hk2 => ?_)
      by_cases e : l2 = l
      · rw [e]; exact q k2 hk2
      · exact h l2 k2 (by omega) hk2
