/-! PURE PART: the model's rank and spark -/
theorem Elm_skips {K : Type} [Lean.Grind.CommRing K] {h : Nat} {D : Nat → Nat → K} {j r : Nat} {f : (Nat → K) → Nat → K} (he : Elm h D j r f) (hr : h ≤ r) : ∀ k, Elm h D (j + k) r f
  | 0 => he
  | k + 1 => Elm_skip (Elm_skips he hr k) (fun i h1 h2 => by omega)
theorem s_c159 {p : Nat} {G : GS} {h s r j : Nat} {v5 v6 : Int32} {w : Nat → Nat → Nat} {K : Int32 → Prop} (hp : p ≤ 97) (hh : h ≤ 6) (hs : s ≤ 12) (hj : j < s) (hr : r ≤ h) (hM : MV p G h s w) (h1 : ∀ q, r ≤ q → q < h → w q j ≠ 0 → K (nI q)) (h0 : (∀ q, r ≤ q → q < h → w q j = 0) → K (nI h)) : ∃ z, wlX6_clears_159 K (nI h) v5 v6 (nI j) G z (nI r) := by
  have key : ∀ f q, q + f = h → r ≤ q → (∀ i, r ≤ i → i < q → w i j = 0) → wlX6_clears_159 K (nI h) v5 v6 (nI j) G (f + 1) (nI q) := by
    intro f
    induction f with
    | zero =>
      intro q hq hrq hz
      have e : q = h := by omega
      subst e
      exact ⟨fun _ => h0 hz, fun h => absurd (Int32.le_refl _) h⟩
    | succ f ih =>
      intro q hq hrq hz
      have hm := hM q j (by omega) (Or.inl hj)
      unfold wlX6_clears_159
      rw [i13, zc (by omega), z1, hm.2, z_ne0 (by omega)]
      refine ⟨fun h => absurd h (nI_ge (by omega) (by omega)), fun _ => ⟨vp_in_nI (by omega) (by omega), fun e => h1 q hrq (by omega) e, fun e => ih (q + 1) (by omega) (by omega) (fun i h2 h3 => ?_)⟩⟩
      by_cases ei : i = q
      · rw [ei]; exact e
      · exact hz i h2 (by omega)
  exact ⟨h - r + 1, key (h - r) r (by omega) (Nat.le_refl _) (fun i h2 h3 => by omega)⟩
theorem w3_ok {p : Nat} [NeZero p] {h s r q j j2 b : Nat} {f : (Nat → Fin p) → Nat → Fin p} {col v : Nat → Fin p} {w : Nat → Nat → Nat} (hp : p ≤ 97) (hr : r < h) (hq : q < h) (hj : j < s) (hj2 : j2 < s ∨ j2 = 12) (hw : ∀ i j, i < h → (j < s ∨ j = 12) → w i j < p) (hc : ∀ i, i < h → fK p (w i j) = f col i) (hv : ∀ i, i < h → fK p (w i j2) = f v i) (i : Nat) (hi : i < h) : fK p (tkM p (fun i j => if i = r then ((fun i j => w (if i = q then r else if i = r then q else i) j) r j * b) % p else (fun i j => w (if i = q then r else if i = r then q else i) j) i j) r j i j2) = pvM f col r q (fK p b) v i := by
  have e1 : ∀ j, w (if r = q then r else if r = r then q else r) j = w q j := fun j => by
    by_cases e : r = q
    · rw [if_pos e, e]
    · rw [if_neg e, if_pos rfl]
  have e2 : ∀ j, w (if i = q then r else i) j = if i = q then w r j else w i j := fun j => by
    by_cases e : i = q
    · rw [if_pos e, if_pos e]
    · rw [if_neg e, if_neg e]
  unfold tkM pvM
  dsimp only
  rw [e1 j2]
  by_cases ei : i = r
  · rw [if_pos ei, if_pos ei, if_pos rfl, fK_mod, fK_mul, hv q hq]
  · rw [if_neg ei, if_neg ei, if_neg ei, if_neg ei, if_neg ei, if_pos rfl, e2 j2, e2 j]
    have b1 : (if i = q then w r j2 else w i j2) < p := by
      by_cases e : i = q
      · rw [if_pos e]; exact hw r j2 hr hj2
      · rw [if_neg e]; exact hw i j2 hi hj2
    have b2 : (if i = q then w r j else w i j) < p := by
      by_cases e : i = q
      · rw [if_pos e]; exact hw r j hr (Or.inl hj)
      · rw [if_neg e]; exact hw i j hi (Or.inl hj)
    have b3 : w q j2 * b % p < p := Nat.mod_lt _ (by omega)
    rw [(fK_rmd hp b1 b2 b3).2, fK_mod, fK_mul, hv q hq]
    by_cases e : i = q
    · rw [if_pos e, if_pos e, if_pos e, if_pos e, hv r hr, hc r hr]
    · rw [if_neg e, if_neg e, if_neg e, if_neg e, hv i hi, hc i hi]
theorem s_elm {p : Nat} [NeZero p] {G : GS} {h s : Nat} {D : Nat → Nat → Fin p} {y : Nat → Fin p} {K : Int32 → GS → Prop} (hp2 : 2 ≤ p) (hp : p ≤ 97) (hh : h ≤ 6) (hs : s ≤ 12) (h0 : G 45 0 = nI p) (hinv : ∀ t, 1 ≤ t → t < p → ∃ b, b < p ∧ (t * b) % p = 1) (hK : ∀ (G1 : GS) r f w, (∀ c, c ≠ 52 → G1 c = G c) → Elm h D s r f → MV p G1 h s w → (∀ i, i < h → fK p (w i 12) = f y i) → K (nI r) G1) : ∀ k j r f w (G1 : GS), j + k = s → (∀ c, c ≠ 52 → G1 c = G c) → Elm h D j r f → MV p G1 h s w → (∀ i j2, i < h → j2 < s → fK p (w i j2) = f (D j2) i) → (∀ i, i < h → fK p (w i 12) = f y i) → wlX6_clears_141 K (nI h) (nI s) (k + 1) (nI r) (nI j) G1 := by
  intro k
  induction k with
  | zero =>
    intro j r f w G1 hj f1 f2 f3 f4 f5
    have e : j = s := by omega
    subst e
    exact ⟨fun _ => hK G1 r f w f1 f2 f3 f5, fun h => absurd (Int32.le_refl _) h⟩
  | succ k ih =>
    intro j r f w G1 hj f1 f2 f3 f4 f5
    have hrh : r ≤ h := f2.2.2.1
    refine ⟨fun q => absurd q (nI_ge (by omega) (by omega)), fun _ => ⟨fun q => ?_, fun q => ?_⟩⟩
    · have hhr : h ≤ r := (nI_leI (by omega) (by omega)).mp q
      have := Elm_skips f2 hhr (k + 1)
      rw [show j + (k + 1) = s by omega] at this
      exact hK G1 r f w f1 this f3 f5
    · have hrl : r < h := by
        rcases Nat.lt_or_ge r h with z | z
        · exact z
        · exact absurd (nI_le z (by omega)) q
      refine s_c159 hp hh hs (show j < s by omega) hrh f3 (fun q hrq hqh hne => ?_) (fun hz => ?_)
      · refine ⟨fun q2 => absurd q2 (nI_ge hqh (by omega)), fun _ => ?_⟩
        refine s_swM hh hs hqh hrl f3 (fun G2 g1 g2 => ?_)
        have hw1 := g2 r j hrl (Or.inl (by omega))
        dsimp only at hw1
        have er : w (if r = q then r else if r = r then q else r) j = w q j := by
          by_cases e : r = q
          · rw [if_pos e, e]
          · rw [if_neg e, if_pos rfl]
        rw [er] at hw1
        rw [i13, zc (by omega), hw1.2]
        refine ⟨vp_in_nI (by omega) (by omega), s_turn hp2 hp (by rw [g1 45 (by omega), f1 45 (by omega), h0]) hw1.1 (hinv _ (by omega) hw1.1) (fun b hb hb1 => ?_)⟩
        refine s_scM hp2 hp hh hs hrl hb (by rw [g1 45 (by omega), f1 45 (by omega), h0]) g2 (fun G3 k1 k2 => ?_)
        refine s_tkM hp2 hp hh hs hrl (show j < s by omega) (by rw [k1 45 (by omega), g1 45 (by omega), f1 45 (by omega), h0]) k2 (fun G4 l1 l2 => ?_)
        rw [z1, z1]
        have hwl : ∀ i j, i < h → (j < s ∨ j = 12) → w i j < p := fun i j a c => (f3 i j a c).1
        have hcol : ∀ i, i < h → fK p (w i j) = f (D j) i := fun i hi => f4 i j hi (by omega)
        have hn1 : f (D j) q ≠ 0 := fun e => hne ((fK_z (hwl q j hqh (Or.inl (by omega)))).mp (by rw [hcol q hqh]; exact e))
        have hb2 : f (D j) q * fK p b = 1 := by
          rw [← hcol q hqh, ← fK_mul, ← fK_mod, hb1]; rfl
        refine ih (j + 1) (r + 1) (pvM f (D j) r q (fK p b)) _ G4 (by omega) (fun c hc => by rw [l1 c hc, k1 c hc, g1 c hc, f1 c hc]) (Elm_piv f2 hqh hrq hn1 hb2) l2 (fun i j2 hi hj2 => ?_) (fun i hi => ?_)
        · exact w3_ok (s := s) hp hrl hqh (by omega) (Or.inl hj2) hwl hcol (fun i hi => f4 i j2 hi hj2) i hi
        · exact w3_ok (s := s) hp hrl hqh (by omega) (Or.inr rfl) hwl hcol f5 i hi
      · refine ⟨fun _ => ?_, fun q2 => absurd (Int32.le_refl _) q2⟩
        rw [z1]
        refine ih (j + 1) r f w G1 (by omega) f1 (Elm_skip f2 (fun i h1 h2 => ?_)) f3 f4 f5
        rw [← f4 i j h2 (by omega), hz i h1 h2]; rfl
theorem s_c295 {p : Nat} [NeZero p] {G : GS} {h s r : Nat} {w : Nat → Nat → Nat} {K318 K326 : Prop} {v6 : Int32} (hp : p ≤ 97) (hh : h ≤ 6) (hr : r ≤ h) (hM : MV p G h s w) (h1 : (∀ i, r ≤ i → i < h → fK p (w i 12) = 0) → K326) (h0 : (¬ ∀ i, r ≤ i → i < h → fK p (w i 12) = 0) → K318) : ∃ z, wlX6_clears_295 K318 K326 (nI h) v6 G z (nI r) := by
  have e12 : (12 : Int32) = nI 12 := rfl
  have key : ∀ f q, q + f = h → r ≤ q → (∀ i, r ≤ i → i < q → fK p (w i 12) = 0) → wlX6_clears_295 K318 K326 (nI h) v6 G (f + 1) (nI q) := by
    intro f
    induction f with
    | zero =>
      intro q hq hrq hz
      have e : q = h := by omega
      subst e
      exact ⟨fun _ => h1 hz, fun h => absurd (Int32.le_refl _) h⟩
    | succ f ih =>
      intro q hq hrq hz
      have hm := hM q 12 (by omega) (Or.inr rfl)
      unfold wlX6_clears_295
      rw [e12, i13, zc (by omega), z1, hm.2, z_ne0 (by omega)]
      refine ⟨fun h => absurd h (nI_ge (by omega) (by omega)), fun _ => ⟨vp_in_nI (by omega) (by omega), fun e => ih (q + 1) (by omega) (by omega) (fun i h2 h3 => ?_), fun e => h0 (fun z => e ((fK_z hm.1).mp (z q hrq (by omega))))⟩⟩
      by_cases ei : i = q
      · rw [ei, e]; rfl
      · exact hz i h2 (by omega)
  exact ⟨h - r + 1, key (h - r) r (by omega) (Nat.le_refl _) (fun i h2 h3 => by omega)⟩
theorem s_clears {p : Nat} [NeZero p] {G : GS} {m n v dr : Nat} {v3 : Int32} {yv : Nat → Nat} {P : Int32 → GS → Prop} (hT : TI G p m n) (hdr : dr < 2 ^ 31) (hv : v < 2 ^ n) (hy : (∃ y, y < 6 ∧ v3 = nI y ∧ ∀ i, i < m → G 48 (6 * y + i) = nI (yv i)) ∨ (v3 = -1 ∧ ∀ i, yv i = 0)) (hy2 : ∀ i, i < m → yv i < p) (hK1 : ∀ (G1 : GS) r f, (∀ c, c ≠ 52 → G1 c = G c) → Elm (kr dr m).length (fun k => colK p G dr m (gc v n k)) (cr v 0 n).length r f → (∀ i, i < (kr dr m).length → ∃ t, t < p ∧ G1 52 (13 * i + 12) = nI t ∧ fK p t = f (fun k => fK p (yv (rw_ dr m k))) i) → (∀ i, r ≤ i → i < (kr dr m).length → f (fun k => fK p (yv (rw_ dr m k))) i = 0) → P (nI r) G1) (hK2 : ∀ (G1 : GS) r f, (∀ c, c ≠ 52 → G1 c = G c) → Elm (kr dr m).length (fun k => colK p G dr m (gc v n k)) (cr v 0 n).length r f → (¬ ∀ i, r ≤ i → i < (kr dr m).length → f (fun k => fK p (yv (rw_ dr m k))) i = 0) → P (-1) G1) : wX6_clears (nI v) (nI dr) v3 G P := by
  have hp := isP_lt hT.1
  obtain ⟨-, ⟨hm0, hm⟩, ⟨hn0, hn⟩, -, ⟨b0, b1, b2⟩, -, hv9⟩ := id hT
  have hpow : 2 ^ n ≤ 2 ^ 12 := Nat.pow_le_pow_right (by omega) hn
  have hv31 : v < 2 ^ 31 := by omega
  have hl := kr_len (dr := dr) m
  have hcl := cr_len (v := v) n 0
  refine ⟨m + 1, s_cl_o hT hdr hv31 hy hy2 (fun G1 f1 f2 => ?_) m 0 G (by omega) (fun _ _ => rfl) (fun i j hi => absurd hi (Nat.not_lt_zero _))⟩
  refine s_bits hv31 ?_
  rw [cr_12 hv hn]
  refine ⟨(cr v 0 n).length + 1, s_elm (p := p) (h := (kr dr m).length) (s := (cr v 0 n).length) (D := fun k => colK p G dr m (gc v n k)) (y := fun k => fK p (yv (rw_ dr m k))) hp.1 hp.2 (by omega) (by omega) (by rw [f1 45 (by omega), b0]) (fun t h1 h2 => ?_) (fun G2 r f w g1 g2 g3 g4 => ?_) (cr v 0 n).length 0 0 (fun v => v) _ G1 (by omega) (fun _ _ => rfl) Elm_0 f2 (fun i j2 hi hj2 => ?_) (fun i hi => ?_)⟩
  · obtain ⟨b, hb1, -, hb2⟩ := hv9 t h1 h2
    exact ⟨b, hb1, hb2⟩
  · have fr : ∀ c, c ≠ 52 → G2 c = G c := fun c hc => by rw [g1 c hc, f1 c hc]
    refine s_c295 hp.2 (by omega) g2.2.2.1 g3 (fun hz => hK1 G2 r f fr g2 (fun i hi => ⟨w i 12, (g3 i 12 hi (Or.inr rfl)).1, (g3 i 12 hi (Or.inr rfl)).2, g4 i hi⟩) (fun i h1 h2 => by rw [← g4 i h2]; exact hz i h1 h2)) (fun hz => hK2 G2 r f fr g2 (fun q => hz (fun i h1 h2 => by rw [g4 i h2]; exact q i h1 h2)))
  · try dsimp only
    rw [if_neg (by omega)]
    rfl
  · try dsimp only
    rw [if_pos rfl]
theorem rw_6 {dr m k : Nat} (hm : m ≤ 6) : rw_ dr m k < 6 := by
  rcases Nat.lt_or_ge k (kr dr m).length with q | q
  · have := rw_lt q
    omega
  · unfold rw_
    rw [List.getD_eq_getElem?_getD, List.getElem?_eq_none q]
    exact Nat.zero_lt_succ _
theorem colK_fr {p : Nat} [NeZero p] {G G1 : GS} {dr m : Nat} (hm : m ≤ 6) (h : ∀ i, i < 6 → G1 (32 + i) = G (32 + i)) : colK p G1 dr m = colK p G dr m := by
  funext c k
  unfold colK cA
  rw [h _ (rw_6 hm)]
theorem s_rankOf {p : Nat} [NeZero p] {G : GS} {m n v : Nat} {P : Int32 → GS → Prop} (hT : TI G p m n) (hv : v < 2 ^ n) (hK : ∀ (G1 : GS) r f, (∀ c, c ≠ 52 → G1 c = G c) → Elm m (fun k => colK p G 0 m (gc v n k)) (cr v 0 n).length r f → P (nI r) G1) : wX6_rankOf (nI v) G P := by
  have hp := isP_lt hT.1
  refine s_clears (dr := 0) (yv := fun _ => 0) hT (by omega) hv (Or.inr ⟨rfl, fun _ => rfl⟩) (fun _ _ => by omega) (fun G1 r f g1 g2 _ _ => ?_) (fun G1 r f g1 g2 g3 => ?_)
  · rw [kr_0] at g2
    exact hK G1 r f g1 g2
  · exact absurd (fun i _ h2 => Lin_z g2.1.1 (fun _ _ => rfl) i h2) g3
theorem Elm_mask {p : Nat} [NeZero p] (inv : hasInv p) {h n v r : Nat} {C : Nat → Nat → Fin p} {f : (Nat → Fin p) → Nat → Fin p} (he : Elm h (fun k => C (gc v n k)) (cr v 0 n).length r f) : r = (cr v 0 n).length ↔ Ind h ((cr v 0 n).map C) := by
  have := Elm_full inv he
  rw [this]
  have e : (List.range (cr v 0 n).length).map (fun k => C (gc v n k)) = (cr v 0 n).map C := map_cs C (cr v 0 n)
  rw [e]
theorem s_sparkM {p : Nat} [NeZero p] {G : GS} {m n : Nat} {P : Int32 → GS → Prop} (hT : TI G p m n) (hK : ∀ (G1 : GS) (s : Nat), (∀ c, c ≠ 52 → G1 c = G c) → isSpark m n (colK p G 0 m) s → P (nI s) G1) : wX6_spark G P := by
  have hp := isP_lt hT.1
  obtain ⟨-, ⟨hm0, hm⟩, ⟨hn0, hn⟩, -, ⟨b0, b1, b2⟩, -, hv9⟩ := id hT
  have hpow : 2 ^ n ≤ 2 ^ 12 := Nat.pow_le_pow_right (by omega) hn
  have h2n := Nat.two_pow_pos n
  intro x ex
  rw [b2, z1] at ex
  subst ex
  have key : ∀ k v s (G1 : GS), v + k = 2 ^ n → 1 ≤ v → (∀ c, c ≠ 52 → G1 c = G c) → s ≤ n + 1 → (s = n + 1 ∨ ∃ u, u < 2 ^ n ∧ ¬ Ind m ((cr u 0 n).map (colK p G 0 m)) ∧ (cr u 0 n).length = s) → (∀ u, u < v → ¬ Ind m ((cr u 0 n).map (colK p G 0 m)) → s ≤ (cr u 0 n).length) → wlX6_spark_9 (fun x G1 => P x G1) (k + 1) (nI s) (nI v) G1 := by
    intro k
    induction k with
    | zero =>
      intro v s G1 hv h1 f1 f2 f3 f4
      have e : v = 2 ^ n := by omega
      subst e
      unfold wlX6_spark_9
      rw [f1 45 (by omega), b2, sh_I (by omega)]
      exact ⟨fun _ => hK G1 s f1 ⟨f2, f3, f4⟩, fun h => absurd (Int32.le_refl _) h⟩
    | succ k ih =>
      intro v s G1 hv h1 f1 f2 f3 f4
      have hcl := cr_len (v := v) n 0
      have hv2 : v < 2 ^ n := by omega
      unfold wlX6_spark_9
      rw [f1 45 (by omega), b2, sh_I (by omega), z1]
      refine ⟨fun h => absurd h (nI_ge (by omega) (by omega)), fun _ => s_bits (by omega) ?_⟩
      rw [cr_12 hv2 hn, nI_leI (by omega) (by omega)]
      refine ⟨fun q => ih (v + 1) s G1 (by omega) (by omega) f1 f2 f3 (fun u hu hd => ?_), fun q => ?_⟩
      · by_cases e : u = v
        · rw [e]; exact q
        · exact f4 u (by omega) hd
      · have hT1 : TI G1 p m n := TI_fr (fun c hc => f1 c (by omega)) hT
        refine s_rankOf hT1 hv2 (fun G2 r f g1 g2 => s_bits (by omega) ?_)
        rw [colK_fr (G := G) hm (fun i hi => f1 _ (by omega))] at g2
        have fr : ∀ c, c ≠ 52 → G2 c = G c := fun c hc => by rw [g1 c hc, f1 c hc]
        have hfull := Elm_mask (TI_inv hT) g2
        have hle := g2.2.1
        rw [cr_12 hv2 hn, nI_leI (by omega) (by omega)]
        refine ⟨fun q2 => ih (v + 1) s G2 (by omega) (by omega) fr f2 f3 (fun u hu hd => ?_), fun q2 => s_bits (by omega) ?_⟩
        · by_cases e : u = v
          · rw [e] at hd
            exact absurd (hfull.mp (by omega)) hd
          · exact f4 u (by omega) hd
        · rw [cr_12 hv2 hn]
          have hdep : ¬ Ind m ((cr v 0 n).map (colK p G 0 m)) := fun hi => by
            have := hfull.mpr hi
            omega
          refine ih (v + 1) (cr v 0 n).length G2 (by omega) (by omega) fr (by omega) (Or.inr ⟨v, hv2, hdep, rfl⟩) (fun u hu hd => ?_)
          by_cases e : u = v
          · rw [e]; exact Nat.le_refl _
          · have := f4 u (by omega) hd
            omega
  refine ⟨2 ^ n - 1 + 1, key (2 ^ n - 1) 1 (n + 1) G (by omega) (Nat.le_refl _) (fun _ _ => rfl) (Nat.le_refl _) (Or.inl rfl) (fun u hu hd => ?_)⟩
  have : u = 0 := by omega
  rw [this, cr_no n 0 (fun i _ _ => bt_0 i)] at hd
  exact absurd True.intro hd
theorem gc_full {n k : Nat} (h : k < n) : gc (2 ^ n - 1) n k = k := by
  have : ∀ j, j ≤ n → ∀ k, k < j → gc (2 ^ n - 1) j k = k := by
    intro j
    induction j with
    | zero => intro _ k hk; omega
    | succ j ih =>
      intro hj k hk
      have hl : (cr (2 ^ n - 1) 0 j).length = j := cr_full j 0 _ (fun i _ h2 => bt_ones (by omega))
      by_cases e : k = j
      · have := gc_new (v := 2 ^ n - 1) (j := j) (bt_ones (by omega))
        rw [hl] at this
        rw [e]; exact this
      · rw [gc_old (by omega)]
        exact ih (by omega) k (by omega)
  exact this n (Nat.le_refl _) k h
