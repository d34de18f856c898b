/-! PURE PART: the law -/
theorem m5_lt {L i : Nat} (hL : L ≤ 2560) (hi : i < 2 ^ 30) : ((nI L) - (5 : Int32)) < nI i ↔ L < i + 5 := by
  rw [Int32.lt_iff_toInt_lt, show (5 : Int32) = nI 5 from rfl, pk_sub_toInt (by omega) (by omega), nI_toInt (by omega)]
  omega
set_option maxHeartbeats 4000000 in
theorem law_calls (xs : Nat → Int32) (L : Nat) (hL : L ≤ 2560) : ∀ f i (G : GS) (B : BS), Inv G B → L ≤ i + f → i ≤ 3000 → wlL_law_18 xs L (f + 1) (nI i) G B := by
  intro f
  induction f with
  | zero =>
    intro i G B hI h1 h2
    exact ⟨fun _ => True.intro, fun q => absurd ((m5_lt hL (by omega)).mpr (by omega)) q⟩
  | succ f ih =>
    intro i G B hI h1 h2
    refine ⟨fun _ => True.intro, fun q => ?_⟩
    rw [m5_lt hL (by omega)] at q
    have a1 : nI i + (1 : Int32) = nI (i + 1) := nI_add i 1
    have a2 : nI i + (2 : Int32) = nI (i + 2) := nI_add i 2
    have a3 : nI i + (3 : Int32) = nI (i + 3) := nI_add i 3
    have a4 : nI i + (4 : Int32) = nI (i + 4) := nI_add i 4
    have a5 : nI i + (5 : Int32) = nI (i + 5) := nI_add i 5
    rw [a1, a2, a3, a4, a5]
    have w1 := eq_true (vp_in_nI (show i + 1 < L by omega) (show L < 2 ^ 31 by omega))
    have w2 := eq_true (vp_in_nI (show i + 2 < L by omega) (show L < 2 ^ 31 by omega))
    have w3 := eq_true (vp_in_nI (show i + 3 < L by omega) (show L < 2 ^ 31 by omega))
    have w4 := eq_true (vp_in_nI (show i + 4 < L by omega) (show L < 2 ^ 31 by omega))
    simp only [w1, w2, w3, w4, true_and]
    have go : ∀ (G2 : GS) (B2 : BS), Inv G2 B2 → wlL_law_18 xs L (f + 1) (nI (i + 5)) G2 B2 := fun G2 B2 h => ih (i + 5) G2 B2 h (by omega) (by omega)
    refine ⟨vp_in_nI (by omega) (by omega), fun _ => ?c0, fun _ => ?c1, fun _ => ?c2, fun _ => ?c3, fun _ => ?c4, fun _ => ?c5, fun _ => ?c6, fun _ => ?c7, fun _ => ?c8, fun _ => ?c9, fun _ => ?c10, fun _ => ?c11, fun _ => ?c12, fun _ => ?c13, fun _ => ?c14, fun _ => ?c15, fun _ => ?c16, fun _ => ?c17, fun _ => ?c18, fun _ => go G B hI⟩
    case c0 => exact op_begin hI (fun r G2 h => ⟨fun _ => go G2 B h, fun z => z rfl⟩)
    case c1 => exact op_set hI (fun r G2 h => ⟨fun _ => go G2 B h, fun z => z rfl⟩)
    case c2 => exact op_powers hI (fun r G2 h => ⟨fun _ => go G2 B h, fun z => z rfl⟩)
    case c3 => exact op_at hI (fun r => ⟨fun _ => go G B hI, fun z => z rfl⟩)
    case c4 => exact op_judge hI (fun r G2 h => ⟨fun _ => go G2 B h, fun z => z rfl⟩)
    case c5 => exact op_put hI (fun r G2 h => ⟨fun _ => go G2 B h, fun z => z rfl⟩)
    case c6 => exact op_row hI (fun r => ⟨fun _ => go G B hI, fun z => z rfl⟩)
    case c7 => exact op_sum hI (fun r G2 h => ⟨fun _ => go G2 B h, fun z => z rfl⟩)
    case c8 => exact op_told hI (fun r => ⟨fun _ => go G B hI, fun z => z rfl⟩)
    case c9 => exact op_tell hI (fun r G2 h => ⟨fun _ => go G2 B h, fun z => z rfl⟩)
    case c10 => exact op_find hI (fun r G2 h => ⟨fun _ => go G2 B h, fun z => z rfl⟩)
    case c11 => exact op_miss hI (fun r G2 h => ⟨fun _ => go G2 B h, fun z => z rfl⟩)
    case c12 => exact op_greedy hI (fun r G2 h => ⟨fun _ => go G2 B h, fun z => z rfl⟩)
    case c13 => exact op_sketch hI (fun r G2 B2 h => ⟨fun _ => go G2 B2 h, fun z => z rfl⟩)
    case c14 => exact op_add hI (fun r G2 B2 h => ⟨fun _ => go G2 B2 h, fun z => z rfl⟩)
    case c15 => exact op_decode hI (fun r G2 B2 h => ⟨fun _ => go G2 B2 h, fun z => z rfl⟩)
    case c16 => exact op_decoded hI (fun r => ⟨fun _ => go G B hI, fun z => z rfl⟩)
    case c17 => exact op_bucket hI (fun r => ⟨fun _ => go G B hI, fun z => z ((lg_cmp_eq r r).mpr rfl)⟩)
    case c18 => exact op_count hI (fun r => ⟨fun _ => go G B hI, fun z => z rfl⟩)
theorem isP_11 : isP 11 := by
  refine ⟨by omega, by omega, ?_⟩
  have : ∀ g, g < 11 → 2 ≤ g → 11 % g ≠ 0 := by decide
  exact fun g h1 h2 => this g h2 h1
theorem law_all : PureLaw := by
  intro xs L hL
  refine ⟨fun g1 => g1 1 0 = nI 11 ∧ g1 1 1 = nI 1 ∧ g1 1 2 = nI 1 ∧ (∀ i j, i < 6 → j < 12 → g1 (32 + i) j = 0) ∧ ∀ a, 1 ≤ a → a < 11 → ∃ b, b < 11 ∧ g1 9 a = nI b ∧ (a * b) % 11 = 1, fun g5 b5 => g5 5 0 = nI 1 ∧ g5 5 1 = nI 2 ∧ g5 5 2 = nI 0 ∧ g5 5 3 = nI 0 ∧ ∀ k, k < 384 → b5 16 k = 0, ?_, ?_, fun g1 g5 b5 hT hS => ?_⟩
  · exact s_sh4 isP_11 (fun G1 _ u0 u1 u2 u3 u4 => ⟨u0, u1, u2, u3, u4⟩)
  · exact s_sh3 (fun G1 B1 _ u0 u1 u2 u3 _ u4 => ⟨u0, u1, u2, u3, u4⟩)
  · obtain ⟨t0, t1, t2, t3, t4⟩ := hT
    obtain ⟨s0, s1, s2, s3, s4⟩ := hS
    have e1 : Gst g1 g5 1 = g1 1 := if_pos (by omega)
    have e9 : Gst g1 g5 9 = g1 9 := if_pos (by omega)
    have e32 : ∀ i, i < 6 → Gst g1 g5 (32 + i) = g1 (32 + i) := fun i hi => if_pos (by omega)
    have e5 : Gst g1 g5 5 = g5 5 := by
      unfold Gst
      rw [if_neg (by omega), if_pos (by omega)]
    have e45 : Gst g1 g5 45 = fun k => if k = 0 then 11 else if k = 1 ∨ k = 2 ∨ k = 6 then 1 else if k = 7 then 2 else 0 := by
      unfold Gst
      rw [if_neg (by omega), if_neg (by omega), if_pos rfl]
    have ez : ∀ c, ((20 ≤ c ∧ c < 32) ∨ (46 ≤ c ∧ c < 49)) → ∀ k, Gst g1 g5 c k = 0 := fun c hc k => by
      unfold Gst
      rw [if_neg (by omega), if_neg (by omega), if_neg (by omega)]
    have b16 : Bst b5 16 = b5 16 := if_pos (by omega)
    have b49 : ∀ k, Bst b5 49 k = 0 := fun k => by
      unfold Bst
      rw [if_neg (by omega)]
    refine ⟨L + 1, law_calls xs L hL L 0 _ _ ⟨11, 1, 1, 1, 2, 0, 0, ⟨isP_11, by omega, by omega, ?_, ?_, fun i j hi hj => ⟨0, by omega, ?_, ?_⟩, fun a x y => ?_⟩, fun r j hr hj => ⟨0, by omega, ?_, ?_, fun _ => rfl⟩, fun r j hr hj => ⟨0, by omega, ?_, ?_, fun _ => rfl⟩, by omega, by omega, by omega, by omega, ?_, ?_, fun k hk => ?_, fun l hl => ⟨0, by omega, ?_⟩, fun k hk => by omega⟩ (by omega) (by omega)⟩
    · rw [e1]; exact ⟨t0, t1, t2⟩
    · rw [e45]; exact ⟨rfl, rfl, rfl⟩
    · rw [e32 i hi, t3 i j hi hj]; rfl
    · rw [ez 46 (by omega)]; rfl
    · rw [e9]; exact t4 a x y
    · rw [ez _ (by omega)]; rfl
    · rw [ez 47 (by omega)]; rfl
    · rw [ez _ (by omega)]; rfl
    · rw [ez 48 (by omega)]; rfl
    · rw [e5]; exact ⟨s0, s1, s2, s3⟩
    · rw [e45]; exact ⟨rfl, rfl, rfl, rfl⟩
    · rw [b16, s4 k hk, b49]
    · rw [b16, s4 _ (by omega)]; rfl
