/-! PURE PART: the model's elimination -/
theorem i13 (i j : Nat) : (13 : Int32) * nI i + nI j = nI (13 * i + j) := by rw [show (13 : Int32) = nI 13 from rfl, pk_mul, nI_add]
def gc (v j k : Nat) : Nat := (cr v 0 j).getD k 0
theorem cr_s1 {v j : Nat} (h : bt v j = 1) : cr v 0 (j + 1) = cr v 0 j ++ [j] := by
  rw [cr_add, Nat.zero_add]
  congr 1
  show (if bt v j = 1 then j :: cr v (j + 1) 0 else cr v (j + 1) 0) = [j]
  rw [if_pos h]; rfl
theorem cr_s0 {v j : Nat} (h : bt v j ≠ 1) : cr v 0 (j + 1) = cr v 0 j := by
  rw [cr_add, Nat.zero_add]
  have : cr v j 1 = [] := by
    show (if bt v j = 1 then j :: cr v (j + 1) 0 else cr v (j + 1) 0) = []
    rw [if_neg h]; rfl
  rw [this, List.append_nil]
theorem gc_old {v j k : Nat} (h : k < (cr v 0 j).length) : gc v (j + 1) k = gc v j k := by
  unfold gc
  by_cases e : bt v j = 1
  · rw [cr_s1 e, List.getD_eq_getElem?_getD, List.getElem?_append_left h, ← List.getD_eq_getElem?_getD]
  · rw [cr_s0 e]
theorem gc_new {v j : Nat} (e : bt v j = 1) : gc v (j + 1) (cr v 0 j).length = j := by
  unfold gc
  rw [cr_s1 e, List.getD_eq_getElem?_getD, List.getElem?_append_right (Nat.le_refl _), Nat.sub_self]
  rfl
theorem gc_in {v n k : Nat} (h : k < (cr v 0 n).length) : gc v n k ∈ cr v 0 n := by
  unfold gc
  rw [List.getD_eq_getElem?_getD, List.getElem?_eq_getElem h]
  exact List.getElem_mem h
theorem gc_lt {v n k : Nat} (h : k < (cr v 0 n).length) : gc v n k < n := by
  have := (cr_mem n 0 _).mp (gc_in h)
  omega
theorem nI1 {t : Nat} (h : t < 2 ^ 31) : nI t = (1 : Int32) ↔ t = 1 := nI_eq (b := 1) h (by omega)
theorem s_cl_i {G : GS} {p m n i v len : Nat} {v2 v3 : Int32} {K : GS → Prop} (hT : TI G p m n) (hi : i < m) (hl : len < 6) (hv : v < 2 ^ 31) (hK : ∀ G1 : GS, (∀ c, c ≠ 52 → G1 c = G c) → (∀ k, k < (cr v 0 n).length → G1 52 (13 * len + k) = nI (cA G i (gc v n k))) → (∀ x, x < 13 * len → G1 52 x = G 52 x) → K G1) : ∀ f j (G1 : GS), j + f = n → (∀ c, c ≠ 52 → G1 c = G c) → (∀ k, k < (cr v 0 j).length → G1 52 (13 * len + k) = nI (cA G i (gc v j k))) → (∀ x, x < 13 * len → G1 52 x = G 52 x) → wlX6_clears_33 K (nI v) v2 v3 (nI len) (nI i) (f + 1) (nI (cr v 0 j).length) (nI j) G1 := by
  obtain ⟨hp, ⟨hm0, hm⟩, ⟨hn0, hn⟩, -, ⟨b0, b1, b2⟩, -, hv9⟩ := id hT
  intro f
  induction f with
  | zero =>
    intro j G1 hj f1 f2 f3
    have e : j = n := by omega
    subst e
    unfold wlX6_clears_33
    rw [f1 45 (by omega), b2]
    exact ⟨fun _ => hK G1 f1 f2 f3, fun h => absurd (Int32.le_refl _) h⟩
  | succ f ih =>
    intro j G1 hj f1 f2 f3
    have hcl := cr_len (v := v) j 0
    unfold wlX6_clears_33
    rw [f1 45 (by omega), b2, bt_I hv (by omega), nI1 (by have := bt_lt v j; omega), z1, i12, i13, z1]
    refine ⟨fun h => absurd h (nI_ge (by omega) (by omega)), fun _ => ⟨fun e => ?_, fun e => ⟨vp_in_nI (by omega) (by omega), vp_in_nI (by omega) (by omega), fun G2 e2 => ?_⟩⟩⟩
    · have := ih (j + 1) G1 (by omega) f1 (fun k hk => by rw [cr_s0 e] at hk; rw [gc_old hk]; exact f2 k hk) f3
      rw [cr_s0 e] at this
      exact this
    · rw [zc (by omega), zc (by omega), f1 46 (by omega), (TI_A hT (by omega) (by omega)).2.2] at e2
      have hlen : (cr v 0 (j + 1)).length = (cr v 0 j).length + 1 := by rw [cr_s1 e, List.length_append]; rfl
      have := ih (j + 1) G2 (by omega) (fun c hc => by rw [e2, wr_ne hc, f1 c hc]) (fun k hk => ?_) (fun x hx => by rw [e2, wr_sn (by omega), f3 x hx])
      · rw [hlen] at this
        exact this
      · rw [hlen] at hk
        by_cases ek : k = (cr v 0 j).length
        · rw [ek, gc_new e, e2, wr_ss]
        · rw [gc_old (by omega), e2, wr_sn (by omega)]
          exact f2 k (by omega)
/-- what the model's work holds -/
def MV (p : Nat) (G : GS) (h s : Nat) (w : Nat → Nat → Nat) : Prop := ∀ i j, i < h → (j < s ∨ j = 12) → w i j < p ∧ G 52 (13 * i + j) = nI (w i j)
theorem s_cl_o {G : GS} {p m n v dr : Nat} {v3 : Int32} {yv : Nat → Nat} {K : Int32 → GS → Prop} (hT : TI G p m n) (hdr : dr < 2 ^ 31) (hv : v < 2 ^ 31) (hy : (∃ y, y < 6 ∧ v3 = nI y ∧ ∀ i, i < m → G 48 (6 * y + i) = nI (yv i)) ∨ (v3 = -1 ∧ ∀ i, yv i = 0)) (hy2 : ∀ i, i < m → yv i < p) (hK : ∀ G1 : GS, (∀ c, c ≠ 52 → G1 c = G c) → MV p G1 (kr dr m).length (cr v 0 n).length (fun i j => if j = 12 then yv (rw_ dr m i) else cA G (rw_ dr m i) (gc v n j)) → K (nI (kr dr m).length) G1) : ∀ f i (G1 : GS), i + f = m → (∀ c, c ≠ 52 → G1 c = G c) → MV p G1 (kr dr i).length (cr v 0 n).length (fun i2 j => if j = 12 then yv (rw_ dr i i2) else cA G (rw_ dr i i2) (gc v n j)) → wlX6_clears_9 K (nI v) (nI dr) v3 (f + 1) (nI (kr dr i).length) (nI i) G1 := by
  obtain ⟨hp, ⟨hm0, hm⟩, ⟨hn0, hn⟩, -, ⟨b0, b1, b2⟩, -, hv9⟩ := id hT
  intro f
  induction f with
  | zero =>
    intro i G1 hi f1 f2
    have e : i = m := by omega
    subst e
    unfold wlX6_clears_9
    rw [f1 45 (by omega), b1]
    exact ⟨fun _ => hK G1 f1 f2, fun h => absurd (Int32.le_refl _) h⟩
  | succ f ih =>
    intro i G1 hi f1 f2
    have hl := kr_len (dr := dr) i
    have hcl := cr_len (v := v) n 0
    unfold wlX6_clears_9
    rw [f1 45 (by omega), b1, bt_I hdr (by omega), z_ne0 (by have := bt_lt dr i; omega), z1, z1]
    refine ⟨fun h => absurd h (nI_ge (by omega) (by omega)), fun _ => ⟨fun e => ?_, fun e => ⟨n + 1, ?_⟩⟩⟩
    · have ek := kr_not e
      have := ih (i + 1) G1 (by omega) f1 (fun i2 j hi2 hj => by
        rw [ek] at hi2
        have := f2 i2 j hi2 hj
        dsimp only at this ⊢
        rw [rw_old hi2]; exact this)
      rw [ek] at this
      exact this
    · have hT1 : TI G1 p m n := TI_fr (fun c hc => f1 c (by omega)) hT
      have hA : ∀ i j, i < 6 → cA G1 i j = cA G i j := fun i j hi => by unfold cA; rw [f1 _ (by omega)]
      have e12 : (12 : Int32) = nI 12 := rfl
      refine s_cl_i hT1 (by omega) (by omega) hv (fun G2 g1 g2 g3 => ?_) n 0 G1 (by omega) (fun _ _ => rfl) (fun k hk => absurd hk (Nat.not_lt_zero _)) (fun _ _ => rfl)
      have fin : ∀ G3 : GS, G3 = wr G2 52 (13 * (kr dr i).length + 12) (nI (yv i)) → wlX6_clears_9 K (nI v) (nI dr) v3 (f + 1) (nI ((kr dr i).length + 1)) (nI (i + 1)) G3 := by
        intro G3 e3
        have := ih (i + 1) G3 (by omega) (fun c hc => by rw [e3, wr_ne hc, g1 c hc, f1 c hc]) (fun i2 j hi2 hj => ?_)
        · rw [kr_yes e] at this
          exact this
        · rw [kr_yes e] at hi2
          show (if j = 12 then yv (rw_ dr (i + 1) i2) else cA G (rw_ dr (i + 1) i2) (gc v n j)) < p ∧ G3 52 (13 * i2 + j) = nI (if j = 12 then yv (rw_ dr (i + 1) i2) else cA G (rw_ dr (i + 1) i2) (gc v n j))
          by_cases ei : i2 = (kr dr i).length
          · rw [ei, rw_new e]
            by_cases ej : j = 12
            · rw [if_pos ej, ej, e3, wr_ss]
              exact ⟨hy2 i (by omega), rfl⟩
            · have hjs : j < (cr v 0 n).length := by omega
              rw [if_neg ej, e3, wr_sn (by omega), g2 j hjs, hA i _ (by omega)]
              exact ⟨(TI_A hT (by omega) (by have := gc_lt hjs; omega)).1, rfl⟩
          · have := f2 i2 j (by omega) hj
            rw [rw_old (by omega), e3, wr_sn (by omega), g3 _ (by omega)]
            exact this
      rcases hy with ⟨y, hy6, ey, hyv⟩ | ⟨ey, hyv⟩
      · subst ey
        rw [i6, e12, i13]
        refine ⟨fun _ => ⟨vp_in_nI (by omega) (by omega), vp_in_nI (by omega) (by omega), fun G3 e3 => fin G3 ?_⟩, fun q => absurd (nI_pos' (by omega)) q⟩
        rw [e3, zc (by omega), zc (by omega), g1 48 (by omega), f1 48 (by omega), hyv i (by omega)]
      · subst ey
        rw [e12, i13]
        refine ⟨fun q => absurd q (by decide), fun _ => ⟨vp_in_nI (by omega) (by omega), fun G3 e3 => fin G3 ?_⟩⟩
        rw [e3, zc (by omega), hyv i]; rfl
/-- two rows change places -/
theorem s_swM {p : Nat} {G : GS} {h s q r : Nat} {w : Nat → Nat → Nat} {P : GS → Prop} (hh : h ≤ 6) (hs : s ≤ 12) (hq : q < h) (hr : r < h) (hM : MV p G h s w) (hK : ∀ G1 : GS, (∀ c, c ≠ 52 → G1 c = G c) → MV p G1 h s (fun i j => w (if i = q then r else if i = r then q else i) j) → P G1) : wX6_swaps (nI q) (nI r) G P := by
  have key : ∀ f j (G1 : GS), j + f = 13 → (∀ c, c ≠ 52 → G1 c = G c) → (∀ i k, i < h → k < 13 → G1 52 (13 * i + k) = G 52 (13 * (if k < j then (if i = q then r else if i = r then q else i) else i) + k)) → wlX6_swaps_2 (fun G1 => P G1) (nI q) (nI r) (f + 1) (nI j) G1 := by
    intro f
    induction f with
    | zero =>
      intro j G1 hj f1 f2
      have e : j = 13 := by omega
      subst e
      refine ⟨fun _ => hK G1 f1 (fun i k hi hk => ?_), fun h => absurd (Int32.le_refl _) h⟩
      have h1 := f2 i k hi (by omega)
      rw [if_pos (by omega)] at h1
      rw [h1]
      refine hM _ k ?_ hk
      by_cases e1 : i = q
      · rw [if_pos e1]; exact hr
      · rw [if_neg e1]
        by_cases e2 : i = r
        · rw [if_pos e2]; exact hq
        · rw [if_neg e2]; exact hi
    | succ f ih =>
      intro j G1 hj f1 f2
      unfold wlX6_swaps_2
      rw [i13, i13, zc (by omega), zc (by omega), z1]
      refine ⟨fun h => absurd h (nI_ge (b := 13) (by omega) (by omega)), fun _ => ⟨vp_in_nI (by omega) (by omega), fun x ex => ⟨vp_in_nI (by omega) (by omega), vp_in_nI (by omega) (by omega), fun G2 e2 => ⟨vp_in_nI (by omega) (by omega), fun G3 e3 => ?_⟩⟩⟩⟩
      refine ih (j + 1) G3 (by omega) (fun c hc => by rw [e3, wr_ne hc, e2, wr_ne hc, f1 c hc]) (fun i k hi hk => ?_)
      by_cases ek : k = j
      · subst ek
        rw [if_pos (by omega)]
        have hq2 := f2 q k hq hk
        have hr2 := f2 r k hr hk
        rw [if_neg (by omega)] at hq2 hr2
        by_cases e1 : i = r
        · subst e1
          rw [e3, wr_ss, ex, hq2]
          by_cases e4 : i = q
          · subst e4; rw [if_pos rfl]
          · rw [if_neg e4, if_pos rfl]
        · rw [e3, wr_sn (by omega), e2]
          by_cases e4 : i = q
          · subst e4; rw [wr_ss, hr2, if_pos rfl]
          · rw [wr_sn (by omega), f2 i k hi hk, if_neg (by omega), if_neg e4, if_neg e1]
      · rw [e3, wr_sn (by omega), e2, wr_sn (by omega), f2 i k hi hk]
        by_cases e5 : k < j
        · rw [if_pos e5, if_pos (show k < j + 1 by omega)]
        · rw [if_neg e5, if_neg (show ¬ k < j + 1 by omega)]
  exact ⟨14, key 13 0 G (by omega) (fun _ _ => rfl) (fun i k _ _ => by rw [if_neg (by omega)])⟩
/-- the inverse, by trying -/
theorem s_turn {p t : Nat} {G : GS} {P : Int32 → Prop} (hp2 : 2 ≤ p) (hp : p ≤ 97) (h0 : G 45 0 = nI p) (ht : t < p) (hb : ∃ b, b < p ∧ (t * b) % p = 1) (hK : ∀ b, b < p → (t * b) % p = 1 → P (nI b)) : wX6_turned (nI t) G P := by
  obtain ⟨b, ⟨hb1, hb2⟩, hb3⟩ := pk_least (fun b => b < p ∧ (t * b) % p = 1) hb
  have b0 : 1 ≤ b := by
    rcases Nat.eq_zero_or_pos b with z | z
    · rw [z, Nat.mul_zero, Nat.zero_mod] at hb2
      omega
    · exact z
  have key : ∀ f x, x + f = b → 1 ≤ x → wlX6_turned_2 (fun x => P x) (nI t) G (f + 1) (nI x) := by
    intro f
    induction f with
    | zero =>
      intro x hx h1
      have e : x = b := by omega
      subst e
      have hm : x * t ≤ 97 * 97 := Nat.mul_le_mul (by omega) (by omega)
      unfold wlX6_turned_2
      rw [h0, pk_mul, z_rem (by omega) (by omega) (by omega), nI1 (by have := Nat.mod_lt (x * t) (show 0 < p by omega); omega), Nat.mul_comm]
      exact ⟨nI_ne0 (by omega) (by omega), fun _ => hK x hb1 hb2, fun q => absurd hb2 q⟩
    | succ f ih =>
      intro x hx h1
      have hm : x * t ≤ 97 * 97 := Nat.mul_le_mul (by omega) (by omega)
      unfold wlX6_turned_2
      rw [h0, pk_mul, z_rem (by omega) (by omega) (by omega), nI1 (by have := Nat.mod_lt (x * t) (show 0 < p by omega); omega), z1, Nat.mul_comm]
      exact ⟨nI_ne0 (by omega) (by omega), fun q => absurd ⟨by omega, q⟩ (hb3 x (by omega)), fun _ => ih (x + 1) (by omega) (by omega)⟩
  exact ⟨b - 1 + 1, key (b - 1) 1 (by omega) (by omega)⟩
theorem s_scM {p : Nat} {G : GS} {h s r b : Nat} {v4 v5 v7 : Int32} {w : Nat → Nat → Nat} {K : GS → Prop} (hp2 : 2 ≤ p) (hp : p ≤ 97) (hh : h ≤ 6) (hs : s ≤ 12) (hr : r < h) (hb : b < p) (h0 : G 45 0 = nI p) (hM : MV p G h s w) (hK : ∀ G1 : GS, (∀ c, c ≠ 52 → G1 c = G c) → MV p G1 h s (fun i j => if i = r then (w r j * b) % p else w i j) → K G1) : ∃ z, wlX6_clears_225 K v4 v5 (nI r) v7 (nI b) z 0 G := by
  have key : ∀ f j (G1 : GS), j + f = 13 → (∀ c, c ≠ 52 → G1 c = G c) → MV p G1 h s (fun i k => if i = r ∧ k < j then (w r k * b) % p else w i k) → wlX6_clears_225 K v4 v5 (nI r) v7 (nI b) (f + 1) (nI j) G1 := by
    intro f
    induction f with
    | zero =>
      intro j G1 hj f1 f2
      have e : j = 13 := by omega
      subst e
      refine ⟨fun _ => hK G1 f1 (fun i k hi hk => ?_), fun h => absurd (Int32.le_refl _) h⟩
      have := f2 i k hi hk
      dsimp only at this ⊢
      by_cases e1 : i = r
      · rw [if_pos ⟨e1, by omega⟩] at this
        rw [if_pos e1]; exact this
      · rw [if_neg (fun q => e1 q.1)] at this
        rw [if_neg e1]; exact this
    | succ f ih =>
      intro j G1 hj f1 f2
      unfold wlX6_clears_225
      rw [i13, f1 45 (by omega), h0, zc (by omega), z1]
      refine ⟨fun h => absurd h (nI_ge (b := 13) (by omega) (by omega)), fun _ => ⟨vp_in_nI (by omega) (by omega), nI_ne0 (by omega) (by omega), vp_in_nI (by omega) (by omega), fun G2 e2 => ?_⟩⟩
      refine ih (j + 1) G2 (by omega) (fun c hc => by rw [e2, wr_ne hc, f1 c hc]) (fun i k hi hk => ?_)
      have h1 := f2 i k hi hk
      dsimp only at h1 ⊢
      by_cases e1 : i = r
      · subst e1
        by_cases ek : k = j
        · subst ek
          rw [if_neg (by omega)] at h1
          rw [if_pos ⟨rfl, by omega⟩]
          have hwb : w i k * b ≤ 97 * 97 := Nat.mul_le_mul (by omega) (by omega)
          refine ⟨Nat.mod_lt _ (by omega), ?_⟩
          rw [e2, wr_ss, h1.2, pk_mul, z_rem (by omega) (by omega) (by omega)]
        · rw [e2, wr_sn (by omega)]
          by_cases e5 : k < j
          · rw [if_pos ⟨rfl, e5⟩] at h1
            rw [if_pos ⟨rfl, by omega⟩]; exact h1
          · rw [if_neg (by omega)] at h1
            rw [if_neg (by omega)]; exact h1
      · rw [if_neg (fun q => e1 q.1)] at h1
        rw [if_neg (fun q => e1 q.1), e2, wr_sn (by omega)]; exact h1
  exact ⟨14, key 13 0 G (by omega) (fun _ _ => rfl) (fun i k hi hk => by dsimp only; rw [if_neg (by omega)]; exact hM i k hi hk)⟩
def tkM (p : Nat) (w : Nat → Nat → Nat) (r j0 i j : Nat) : Nat := if i = r then w r j else rmd (nI (w i j) - nI (w i j0) * nI (w r j)) p
theorem rmd_s {p t : Nat} (ht : t < p) (hp : p ≤ 97) (u : Int32) : rmd (nI t - 0 * u) p = t := by
  have e : nI t - 0 * u = nI t := by rw [Int32.zero_mul, Int32.sub_zero]
  rw [e]
  unfold rmd
  rw [nI_toInt (by omega), Int.emod_eq_of_lt (by omega) (by omega)]
  omega
theorem s_tkM {p : Nat} [NeZero p] {G : GS} {h s r j0 : Nat} {w : Nat → Nat → Nat} {P : GS → Prop} (hp2 : 2 ≤ p) (hp : p ≤ 97) (hh : h ≤ 6) (hs : s ≤ 12) (hr : r < h) (hj0 : j0 < s) (h0 : G 45 0 = nI p) (hM : MV p G h s w) (hK : ∀ G1 : GS, (∀ c, c ≠ 52 → G1 c = G c) → MV p G1 h s (tkM p w r j0) → P G1) : wX6_takes (nI r) (nI j0) (nI h) G P := by
  have inner : ∀ (i x : Nat) (v3 : Int32) (K : GS → Prop) (G1 : GS), i < h → x < p → (∀ c, c ≠ 52 → G1 c = G c) → MV p G1 h s (fun i2 j => if i2 < i then tkM p w r j0 i2 j else w i2 j) → (i = r → x = 0) → (i ≠ r → x = w i j0) → (∀ G2 : GS, (∀ c, c ≠ 52 → G2 c = G c) → MV p G2 h s (fun i2 j => if i2 < i + 1 then tkM p w r j0 i2 j else w i2 j) → K G2) → ∃ z, wlX6_takes_36 K (nI r) (nI j0) v3 (nI i) (nI x) z 0 G1 := by
    intro i x v3 K G1 hi hx f1 f2 x1 x2 hK2
    have key : ∀ f j (G2 : GS), j + f = 13 → (∀ c, c ≠ 52 → G2 c = G c) → MV p G2 h s (fun i2 k => if i2 < i ∨ (i2 = i ∧ k < j) then tkM p w r j0 i2 k else w i2 k) → wlX6_takes_36 K (nI r) (nI j0) v3 (nI i) (nI x) (f + 1) (nI j) G2 := by
      intro f
      induction f with
      | zero =>
        intro j G2 hj g1 g2
        have e : j = 13 := by omega
        subst e
        refine ⟨fun _ => hK2 G2 g1 (fun i2 k hi2 hk => ?_), fun h => absurd (Int32.le_refl _) h⟩
        have := g2 i2 k hi2 hk
        dsimp only at this ⊢
        by_cases e1 : i2 < i + 1
        · rw [if_pos (by omega)] at this
          rw [if_pos e1]; exact this
        · rw [if_neg (by omega)] at this
          rw [if_neg e1]; exact this
      | succ f ih =>
        intro j G2 hj g1 g2
        unfold wlX6_takes_36
        rw [i13, i13, zc (by omega), zc (by omega), z1]
        refine ⟨fun h => absurd h (nI_ge (b := 13) (by omega) (by omega)), fun _ => ⟨vp_in_nI (by omega) (by omega), vp_in_nI (by omega) (by omega), s_by (p := p) (by omega) (by omega) (by rw [g1 45 (by omega), h0]) ⟨vp_in_nI (by omega) (by omega), fun G3 e3 => ?_⟩⟩⟩
        refine ih (j + 1) G3 (by omega) (fun c hc => by rw [e3, wr_ne hc, g1 c hc]) (fun i2 k hi2 hk => ?_)
        have h1 := g2 i2 k hi2 hk
        dsimp only at h1 ⊢
        by_cases e1 : i2 = i ∧ k = j
        · obtain ⟨rfl, rfl⟩ := e1
          rw [if_neg (by omega)] at h1
          rw [if_pos (Or.inr ⟨rfl, by omega⟩)]
          have h2 := g2 r k hr hk
          dsimp only at h2
          have e4 : (if r < i2 ∨ (r = i2 ∧ k < k) then tkM p w r j0 r k else w r k) = w r k := by
            by_cases q : r < i2 ∨ (r = i2 ∧ k < k)
            · rw [if_pos q]; unfold tkM; rw [if_pos rfl]
            · rw [if_neg q]
          rw [e4] at h2
          rw [h1.2, h2.2] at e3
          unfold tkM
          by_cases er : i2 = r
          · subst er
            rw [if_pos rfl]
            refine ⟨h1.1, ?_⟩
            rw [e3, wr_ss, x1 rfl]
            show nI (rmd (nI (w i2 k) - 0 * nI (w i2 k)) p) = _
            rw [rmd_s h1.1 hp]
          · rw [if_neg er]
            have hj0w := (hM i2 j0 hi2 (Or.inl hj0)).1
            refine ⟨(fK_rmd hp h1.1 hj0w h2.1).1, ?_⟩
            rw [e3, wr_ss, x2 er]
        · rw [e3, wr_sn (by omega)]
          by_cases e5 : i2 < i ∨ (i2 = i ∧ k < j)
          · rw [if_pos e5] at h1
            rw [if_pos (by omega)]; exact h1
          · rw [if_neg e5] at h1
            rw [if_neg (by omega)]; exact h1
    refine ⟨14, key 13 0 G1 (by omega) f1 (fun i2 k hi2 hk => ?_)⟩
    have := f2 i2 k hi2 hk
    dsimp only at this ⊢
    by_cases e : i2 < i
    · rw [if_pos e] at this
      rw [if_pos (Or.inl e)]; exact this
    · rw [if_neg e] at this
      rw [if_neg (by omega)]; exact this
  have key : ∀ f i (G1 : GS), i + f = h → (∀ c, c ≠ 52 → G1 c = G c) → MV p G1 h s (fun i2 j => if i2 < i then tkM p w r j0 i2 j else w i2 j) → wlX6_takes_3 (fun G1 => P G1) (nI r) (nI j0) (nI h) (f + 1) (nI i) G1 := by
    intro f
    induction f with
    | zero =>
      intro i G1 hi f1 f2
      have e : i = h := by omega
      subst e
      refine ⟨fun _ => hK G1 f1 (fun i2 k hi2 hk => ?_), fun h => absurd (Int32.le_refl _) h⟩
      have := f2 i2 k hi2 hk
      dsimp only at this ⊢
      rw [if_pos hi2] at this
      exact this
    | succ f ih =>
      intro i G1 hi f1 f2
      unfold wlX6_takes_3
      rw [i13, zc (by omega), z1, nI_eq (by omega) (by omega)]
      have h3 := f2 i j0 (by omega) (Or.inl hj0)
      dsimp only at h3
      rw [if_neg (by omega)] at h3
      refine ⟨fun h => absurd h (nI_ge (by omega) (by omega)), fun _ => ⟨fun e => ⟨vp_in_nI (by omega) (by omega), fun x ex => ?_⟩, fun e => ?_⟩⟩
      · rw [h3.2] at ex
        subst ex
        exact inner i (w i j0) _ _ G1 (by omega) h3.1 f1 f2 (fun q => absurd q e) (fun _ => rfl) (fun G2 g1 g2 => ih (i + 1) G2 (by omega) g1 g2)
      · exact inner i 0 _ _ G1 (by omega) (by omega) f1 f2 (fun _ => rfl) (fun q => absurd e q) (fun G2 g1 g2 => ih (i + 1) G2 (by omega) g1 g2)
  exact ⟨h + 1, key h 0 G (by omega) (fun _ _ => rfl) (fun i2 k hi2 hk => by dsimp only; rw [if_neg (by omega)]; exact hM i2 k hi2 hk)⟩
