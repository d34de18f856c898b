/-! PURE PART: the sketch's arithmetic -/
theorem lM : (1000003 : Int64) = lN 1000003 := rfl
def fm (v : Int64) : Nat := (v.toInt % (1000003 : Int)).toNat
theorem fm_lt (v : Int64) : fm v < 1000003 := by
  unfold fm
  have h1 := Int.emod_nonneg v.toInt (show (1000003 : Int) ≠ 0 by omega)
  have h2 := Int.emod_lt_of_pos v.toInt (show (0 : Int) < 1000003 by omega)
  omega
theorem fm_I (v : Int64) : (lN (fm v)).toInt = v.toInt % (1000003 : Int) := by
  have h1 := Int.emod_nonneg v.toInt (show (1000003 : Int) ≠ 0 by omega)
  have := fm_lt v
  rw [lN_toInt (by omega)]
  unfold fm
  omega
theorem fm_lN {n : Nat} (h : n < 2 ^ 63) : fm (lN n) = n % 1000003 := by
  unfold fm
  rw [pk_lT h]
  omega
theorem remL_toInt (v : Int64) : (v - v / (1000003 : Int64) * (1000003 : Int64)).toInt = v.toInt.tmod 1000003 := by
  have hpI : (1000003 : Int64).toInt = (1000003 : Int) := rfl
  rw [Int64.toInt_sub, Int64.toInt_mul, Int64.toInt_div, hpI, Int.bmod_mul_bmod, Int.sub_bmod_bmod, Int.mul_comm, ← Int.tmod_def]
  have h1 := Int.tmod_lt_of_pos v.toInt (show (0 : Int) < 1000003 by omega)
  have h2 : -(1000003 : Int) < v.toInt.tmod 1000003 := by
    have := Int.tmod_lt_of_pos (-v.toInt) (show (0 : Int) < 1000003 by omega)
    rw [Int.neg_tmod] at this
    omega
  exact Int.bmod_eq_of_le (by omega) (by omega)
theorem remL_cases (v : Int64) : let x := v - v / (1000003 : Int64) * (1000003 : Int64); (0 ≤ x → x = lN (fm v)) ∧ (¬ 0 ≤ x → x + (1000003 : Int64) = lN (fm v)) ∧ (0 ≤ v → 0 ≤ x) ∧ (¬ 0 ≤ v → ¬ x = 0 → ¬ 0 ≤ x) := by
  intro x
  have hx : x.toInt = v.toInt.tmod 1000003 := remL_toInt v
  have hpI : (1000003 : Int64).toInt = (1000003 : Int) := rfl
  have h1 := Int.emod_nonneg v.toInt (show (1000003 : Int) ≠ 0 by omega)
  have h2 := Int.emod_lt_of_pos v.toInt (show (0 : Int) < 1000003 by omega)
  have hr := fm_I v
  have hz : (0 : Int64).toInt = 0 := rfl
  have ht : v.toInt.tmod 1000003 = v.toInt % 1000003 ∨ v.toInt.tmod 1000003 = v.toInt % 1000003 - 1000003 ∧ v.toInt < 0 ∧ v.toInt % 1000003 ≠ 0 := by
    rw [Int.tmod_eq_emod]
    by_cases q : 0 ≤ v.toInt ∨ (1000003 : Int) ∣ v.toInt
    · rw [if_pos q]; left; omega
    · rw [if_neg q]
      right
      have q1 : ¬ 0 ≤ v.toInt := fun h => q (Or.inl h)
      have q2 : ¬ (1000003 : Int) ∣ v.toInt := fun h => q (Or.inr h)
      refine ⟨by simp, by omega, fun e => q2 (Int.dvd_of_emod_eq_zero e)⟩
  have hpos : 0 ≤ v.toInt → v.toInt.tmod 1000003 = v.toInt % 1000003 := fun h => Int.tmod_eq_emod_of_nonneg h
  refine ⟨fun h => ?_, fun h => ?_, fun h => ?_, fun h e => ?_⟩
  · rw [Int64.le_iff_toInt_le, hz] at h
    apply Int64.toInt_inj.mp
    rw [hr]
    rcases ht with t | ⟨t, -, -⟩ <;> omega
  · rw [Int64.le_iff_toInt_le, hz] at h
    apply Int64.toInt_inj.mp
    rw [hr, Int64.toInt_add, hpI]
    rcases ht with t | ⟨t, -, -⟩
    · omega
    · rw [hx, t]
      have : v.toInt % (1000003 : Int) - 1000003 + 1000003 = v.toInt % 1000003 := by omega
      rw [this]
      exact Int.bmod_eq_of_le (by omega) (by omega)
  · rw [Int64.le_iff_toInt_le, hz] at h ⊢
    rw [hx, hpos h]
    exact h1
  · rw [Int64.le_iff_toInt_le, hz] at h ⊢
    intro h9
    rcases ht with t | ⟨t, -, -⟩
    · have hn : v.toInt.tmod 1000003 ≤ 0 := by
        have := Int.tmod_nonneg (1000003 : Int) (show 0 ≤ -v.toInt by omega)
        rw [Int.neg_tmod] at this
        omega
      exact e (Int64.toInt_inj.mp (by rw [hx, hz]; omega))
    · omega
theorem xor_signL (v : Int64) : 0 ≤ (v ^^^ (1000003 : Int64)) ↔ 0 ≤ v := by
  have key : ∀ x : Int64, 0 ≤ x ↔ x.toBitVec.msb = false := fun x => by
    rw [Int64.le_iff_toInt_le]
    show (0 : Int) ≤ x.toBitVec.toInt ↔ _
    have := @BitVec.toInt_neg_iff 64 x.toBitVec
    rw [BitVec.msb_eq_decide]
    simp only [decide_eq_false_iff_not]
    omega
  rw [key, key, Int64.toBitVec_xor, BitVec.msb_xor]
  have : (1000003 : Int64).toBitVec.msb = false := by decide
  rw [this]
  simp
theorem s_third {v : Int64} {P : Int64 → Prop} (h : P (lN (fm v))) : wX6_third v P := by
  obtain ⟨c1, c2, c3, c4⟩ := remL_cases v
  intro x ex
  subst ex
  rw [lg_cmp_ge]
  exact ⟨fun a => by rw [c1 a]; exact h, fun a => by rw [c2 a]; exact h⟩
theorem s_fmod {v : Int64} {P : Int64 → Prop} (h : P (lN (fm v))) : wJ9_floorMod_f86c9 v (1000003 : Int64) P := by
  obtain ⟨c1, c2, c3, c4⟩ := remL_cases v
  refine ⟨by decide, fun x ex => ?_⟩
  subst ex
  rw [lg_cmp_ge, lg_cmp_eq, xor_signL]
  refine ⟨fun a => ?_, fun a => ⟨fun e => ?_, fun e => ?_⟩⟩
  · rw [c1 (c3 a)]; exact h
  · rw [c1 (by rw [e]; exact Int64.le_refl _)]; exact h
  · rw [c2 (c4 a e)]; exact h
/-- number times the square of the place, by 1000003 -/
def sq (v : Int64) (pl : Nat) : Nat := (fm v * (pl * pl % 1000003)) % 1000003
theorem sq_lt (v : Int64) (pl : Nat) : sq v pl < 1000003 := Nat.mod_lt _ (by omega)
theorem sq_b {a pl : Nat} (ha : a < 1000003) : a * (pl * pl % 1000003) < 2 ^ 63 := by
  have h1 : pl * pl % 1000003 < 1000003 := Nat.mod_lt _ (by omega)
  have : a * (pl * pl % 1000003) ≤ 1000003 * 1000003 := Nat.mul_le_mul (by omega) (by omega)
  omega
theorem pl_b {pl : Nat} (h : pl < 1000000) : pl * pl < 2 ^ 63 := by
  have : pl * pl ≤ 1000000 * 1000000 := Nat.mul_le_mul (by omega) (by omega)
  omega
theorem s_sqX {pl : Nat} {v : Int64} {P : Int64 → Prop} (hp : pl < 1000000) (h : P (lN (sq v pl))) : wX3_squareSum (lN pl) v P := by
  refine s_fmod ?_
  rw [lM, lN_mul, pk_lRem (pl_b hp) (by omega) (by omega), lN_mul, pk_lRem (sq_b (fm_lt v)) (by omega) (by omega)]
  exact h
theorem s_sqM {pl : Nat} {v : Int64} {P : Int64 → Prop} (hp : pl < 1000000) (h : P (lN (sq v pl))) : wX6_third v (fun r76 => wX6_third (lN pl * lN pl) (fun r84 => wX6_third (r76 * r84) (fun r88 => P r88))) := by
  refine s_third (s_third (s_third ?_))
  rw [lN_mul pl pl, fm_lN (pl_b hp), lN_mul, fm_lN (sq_b (fm_lt v))]
  exact h
def bk (b l pl : Nat) : Nat := (pl * (2 * l + 3) + pl / (5 * l + 7)) % b
theorem bk_lt {b l pl : Nat} (hb : 0 < b) : bk b l pl < b := Nat.mod_lt _ hb
theorem bk_b {l pl : Nat} (hl : l < 4) (hp : pl < 1000000) : pl * (2 * l + 3) + pl / (5 * l + 7) < 2 ^ 31 := by
  have h1 : pl * (2 * l + 3) ≤ 1000000 * 9 := Nat.mul_le_mul (by omega) (by omega)
  have h2 := Nat.div_le_self pl (5 * l + 7)
  omega
theorem l23 (l : Nat) : (2 : Int32) * nI l + (3 : Int32) = nI (2 * l + 3) := by rw [show (2 : Int32) = nI 2 from rfl, show (3 : Int32) = nI 3 from rfl, pk_mul, nI_add]
theorem l57 (l : Nat) : (5 : Int32) * nI l + (7 : Int32) = nI (5 * l + 7) := by rw [show (5 : Int32) = nI 5 from rfl, show (7 : Int32) = nI 7 from rfl, pk_mul, nI_add]
theorem s_bkX {b l pl : Nat} {G : GS} {P : Int32 → Prop} (hb : 2 ≤ b) (hb2 : b ≤ 32) (hl : l < 4) (hp : pl < 1000000) (h1 : G 5 1 = nI b) (h : P (nI (bk b l pl))) : wX3_bucketOf (nI l) (nI pl) G P := by
  unfold wX3_bucketOf
  have := bk_b hl hp
  rw [h1, l23, l57, pk_mul, pk_div (by omega) (by omega) (by omega), nI_add, z_rem this (by omega) (by omega)]
  exact ⟨nI_ne0 (by omega) (by omega), nI_ne0 (by omega) (by omega), h⟩
theorem s_bkM {b l pl : Nat} {G : GS} {P : Int32 → Prop} (hb : 2 ≤ b) (hb2 : b ≤ 32) (hl : l < 4) (hp : pl < 1000000) (h1 : G 45 7 = nI b) (h : P (nI (bk b l pl))) : wX6_bucketOf (nI l) (nI pl) G P := by
  unfold wX6_bucketOf
  have := bk_b hl hp
  have h2 := Nat.div_le_self pl (5 * l + 7)
  rw [h1, l23, l57, pk_div (by omega) (by omega) (by omega), nI_l (by omega), nI_l (by omega), nI_l (by omega), nI_l (by omega), lN_mul, lN_add, pk_lRem (by omega) (by omega) (by omega), lN_i]
  refine ⟨nI_ne0 (by omega) (by omega), fun e => ?_, h⟩
  have := (pk_lEQ (a := b) (b := 0) (by omega) (by omega)).mp e
  omega
/-- where a bucket's sums start -/
def bst (l k : Nat) : Nat := (l * 32 + k) * 3
theorem s_stX {l k : Nat} {P : Int32 → Prop} (h : P (nI (bst l k))) : wX3_start (nI l) (nI k) P := by
  unfold wX3_start
  rw [show (32 : Int32) = nI 32 from rfl, show (3 : Int32) = nI 3 from rfl, pk_mul, nI_add, pk_mul]
  exact h
def TH (F : Nat → Int64) : Prop := ∀ l, l < 128 → ∃ z, z < 1000003 ∧ F (3 * l + 2) = lN z
def jn1 (F : Nat → Int64) (s : Nat) (v w : Int64) (q : Nat) : Nat → Int64 := fun k => if k = s then F s + v else if k = s + 1 then F (s + 1) + v * w else if k = s + 2 then lN ((fm (F (s + 2)) + q) % 1000003) else F k
def jn (b pl : Nat) (v : Int64) (F : Nat → Int64) : Nat → Nat → Int64
  | 0 => F
  | l + 1 => jn1 (jn b pl v F l) (bst l (bk b l pl)) v (lN pl) (sq v pl)
theorem bst_b {b l pl : Nat} (hb : 2 ≤ b) (hb2 : b ≤ 32) (hl : l < 4) : bst l (bk b l pl) + 2 < 384 := by
  have := bk_lt (b := b) (l := l) (pl := pl) (by omega)
  unfold bst
  omega
theorem jn1_TH {F : Nat → Int64} {c : Nat} {v w : Int64} {q : Nat} (hF : TH F) : TH (jn1 F (c * 3) v w q) := fun l hl => by
  unfold jn1
  rw [if_neg (by omega), if_neg (by omega)]
  by_cases e : 3 * l + 2 = c * 3 + 2
  · rw [if_pos e]
    exact ⟨_, Nat.mod_lt _ (by omega), rfl⟩
  · rw [if_neg e]; exact hF l hl
theorem jn_TH {b pl : Nat} {v : Int64} {F : Nat → Int64} (hF : TH F) : ∀ l, TH (jn b pl v F l)
  | 0 => hF
  | l + 1 => jn1_TH (jn_TH hF l)
theorem jn1_congr {F F' : Nat → Int64} {s : Nat} {v w : Int64} {q : Nat} (hs : s + 2 < 384) (h : ∀ k, k < 384 → F k = F' k) : ∀ k, k < 384 → jn1 F s v w q k = jn1 F' s v w q k := fun k hk => by
  unfold jn1
  rw [h s (by omega), h (s + 1) (by omega), h (s + 2) (by omega), h k hk]
theorem jn_congr {b pl : Nat} {v : Int64} {F F' : Nat → Int64} (hb : 2 ≤ b) (hb2 : b ≤ 32) (h : ∀ k, k < 384 → F k = F' k) : ∀ l, l ≤ 4 → ∀ k, k < 384 → jn b pl v F l k = jn b pl v F' l k
  | 0, _ => h
  | l + 1, hl => jn1_congr (bst_b hb hb2 (by omega)) (jn_congr hb hb2 h l (by omega))
theorem th_ex {F : Nat → Int64} {c q : Nat} (hF : TH F) (hc : c < 128) (hq : q < 1000003) : ∃ z, z < 1000003 ∧ F (c * 3 + 2) = lN z ∧ fm (F (c * 3 + 2)) = z ∧ z + q < 2 ^ 63 := by
  obtain ⟨z, hz, e⟩ := hF c hc
  rw [Nat.mul_comm] at e
  refine ⟨z, hz, e, ?_, by omega⟩
  rw [e, fm_lN (by omega), Nat.mod_eq_of_lt hz]
theorem s_jnX_l {a d b pl : Nat} {v : Int64} {G : GS} {B : BS} {K : BS → Prop} (hla : ln a = 384) (hd : d ≤ 4) (hb : 2 ≤ b) (hb2 : b ≤ 32) (hp : pl < 1000000) (h0 : G 5 0 = nI d) (h1 : G 5 1 = nI b) (hF : TH (B a)) (hK : ∀ B1 : BS, (∀ c, c ≠ a → B1 c = B c) → (∀ k, B1 a k = jn b pl v (B a) d k) → K B1) : ∀ k l (B1 : BS), l + k = d → (∀ c, c ≠ a → B1 c = B c) → (∀ k, B1 a k = jn b pl v (B a) l k) → wlX3_join_11 K a (nI pl) v (lN (sq v pl)) G (k + 1) (nI l) B1 := by
  intro k
  induction k with
  | zero =>
    intro l B1 hl f1 f2
    have e : l = d := by omega
    subst e
    unfold wlX3_join_11
    rw [h0]
    exact ⟨fun _ => hK B1 f1 f2, fun h => absurd (Int32.le_refl _) h⟩
  | succ k ih =>
    intro l B1 hl f1 f2
    unfold wlX3_join_11
    rw [h0]
    refine ⟨fun h => absurd h (nI_ge (by omega) (by omega)), fun _ => s_bkX hb hb2 (by omega) hp h1 (s_stX ?_)⟩
    have hs := bst_b (pl := pl) hb hb2 (show l < 4 by omega)
    have hbs : bst l (bk b l pl) = (l * 32 + bk b l pl) * 3 := rfl
    have hTH : TH (B1 a) := fun l2 hl2 => by rw [f2]; exact jn_TH hF l l2 hl2
    obtain ⟨z, hz, ez, fz, zb⟩ := th_ex (c := l * 32 + bk b l pl) hTH (by omega) (sq_lt v pl)
    rw [← hbs] at ez fz
    generalize hg : bst l (bk b l pl) = s at *
    rw [hla]
    have s1 : nI s + (1 : Int32) = nI (s + 1) := z1 s
    have s2 : nI s + (2 : Int32) = nI (s + 2) := nI_add s 2
    rw [s1, s2]
    refine ⟨vp_in_nI (by omega) (by omega), vp_in_nI (by omega) (by omega), fun B2 e2 => ⟨vp_in_nI (by omega) (by omega), vp_in_nI (by omega) (by omega), fun B3 e3 => ⟨vp_in_nI (by omega) (by omega), vp_in_nI (by omega) (by omega), fun B4 e4 => ?_⟩⟩⟩
    rw [zc (by omega)] at e2 e3 e4
    have e32 : B3 a (s + 2) = lN z := by rw [e3, wrL_sn (by omega), e2, wrL_sn (by omega), ez]
    rw [e32, lN_add, lM, pk_lRem zb (by omega) (by omega)] at e4
    rw [nI_l (by omega)] at e3
    rw [z1]
    refine ih (l + 1) B4 (by omega) (fun c hc => by rw [e4, wrL_ne hc, e3, wrL_ne hc, e2, wrL_ne hc, f1 c hc]) (fun j => ?_)
    show B4 a j = jn1 (jn b pl v (B a) l) (bst l (bk b l pl)) v (lN pl) (sq v pl) j
    rw [hg]
    unfold jn1
    rw [← f2 s, ← f2 (s + 1), ← f2 (s + 2), ← f2 j]
    by_cases c1 : j = s
    · rw [if_pos c1, c1, e4, wrL_sn (by omega), e3, wrL_sn (by omega), e2, wrL_ss]
    · rw [if_neg c1]
      by_cases c2 : j = s + 1
      · rw [if_pos c2, c2, e4, wrL_sn (by omega), e3, wrL_ss, e2, wrL_sn (by omega)]
      · rw [if_neg c2]
        by_cases c3 : j = s + 2
        · rw [if_pos c3, c3, e4, wrL_ss, fz]
        · rw [if_neg c3, e4, wrL_sn c3, e3, wrL_sn c2, e2, wrL_sn c1]
theorem s_jnX {a d b pl : Nat} {v : Int64} {G : GS} {B : BS} {P : BS → Prop} (hla : ln a = 384) (hd : d ≤ 4) (hb : 2 ≤ b) (hb2 : b ≤ 32) (hp : pl < 1000000) (h0 : G 5 0 = nI d) (h1 : G 5 1 = nI b) (hF : TH (B a)) (hK : ∀ B1 : BS, (∀ c, c ≠ a → B1 c = B c) → (∀ k, B1 a k = jn b pl v (B a) d k) → P B1) : wX3_join a (nI pl) v G B P := by
  unfold wX3_join
  rw [nI_l (by omega)]
  exact s_sqX hp ⟨d + 1, s_jnX_l hla hd hb hb2 hp h0 h1 hF hK d 0 B (by omega) (fun _ _ => rfl) (fun _ => rfl)⟩
theorem s_jnM_l {o d b pl : Nat} {v : Int64} {G : GS} {B : BS} {K : BS → Prop} (ho : o ≤ 384) (hd : d ≤ 4) (hb : 2 ≤ b) (hb2 : b ≤ 32) (hp : pl < 1000000) (h0 : G 45 6 = nI d) (h1 : G 45 7 = nI b) (hF : TH (fun k => B 49 (o + k))) (hK : ∀ B1 : BS, (∀ c, c ≠ 49 → B1 c = B c) → (∀ k, B1 49 (o + k) = jn b pl v (fun k => B 49 (o + k)) d k) → (∀ k, k < o → B1 49 k = B 49 k) → K B1) : ∀ k l (B1 : BS), l + k = d → (∀ c, c ≠ 49 → B1 c = B c) → (∀ k, B1 49 (o + k) = jn b pl v (fun k => B 49 (o + k)) l k) → (∀ k, k < o → B1 49 k = B 49 k) → wlX6_adds_3 K (nI o) (nI pl) v G (k + 1) (nI l) B1 := by
  intro k
  induction k with
  | zero =>
    intro l B1 hl f1 f2 f3
    have e : l = d := by omega
    subst e
    unfold wlX6_adds_3
    rw [h0]
    exact ⟨fun _ => hK B1 f1 f2 f3, fun h => absurd (Int32.le_refl _) h⟩
  | succ k ih =>
    intro l B1 hl f1 f2 f3
    unfold wlX6_adds_3
    rw [h0]
    refine ⟨fun h => absurd h (nI_ge (by omega) (by omega)), fun _ => s_bkM hb hb2 (by omega) hp h1 ?_⟩
    have hs := bst_b (pl := pl) hb hb2 (show l < 4 by omega)
    have hbs : bst l (bk b l pl) = (l * 32 + bk b l pl) * 3 := rfl
    have hTH : TH (fun k => B1 49 (o + k)) := fun l2 hl2 => by
      show ∃ z, z < 1000003 ∧ B1 49 (o + (3 * l2 + 2)) = lN z
      rw [f2]; exact jn_TH hF l l2 hl2
    obtain ⟨z, hz, ez, fz, zb⟩ := th_ex (c := l * 32 + bk b l pl) hTH (by omega) (sq_lt v pl)
    rw [← hbs] at ez fz
    have hx : ((nI o + ((96 : Int32) * nI l)) + ((3 : Int32) * nI (bk b l pl))) = nI (o + bst l (bk b l pl)) := by
      rw [show (96 : Int32) = nI 96 from rfl, show (3 : Int32) = nI 3 from rfl, pk_mul, pk_mul, nI_add, nI_add, hbs]
      congr 1
      omega
    intro x ex
    rw [hx] at ex
    subst ex
    generalize hg : bst l (bk b l pl) = s at *
    have s1 : nI (o + s) + (1 : Int32) = nI (o + s + 1) := z1 (o + s)
    have s2 : nI (o + s) + (2 : Int32) = nI (o + s + 2) := nI_add (o + s) 2
    rw [s1, s2, nI_l (by omega)]
    refine ⟨vp_in_nI (by omega) (by omega), vp_in_nI (by omega) (by omega), fun B2 e2 => ⟨vp_in_nI (by omega) (by omega), vp_in_nI (by omega) (by omega), fun B3 e3 => ⟨vp_in_nI (by omega) (by omega), s_sqM hp (s_third ⟨vp_in_nI (by omega) (by omega), fun B4 e4 => ?_⟩)⟩⟩⟩
    rw [zc (by omega)] at e2 e3 e4
    have e32 : B3 49 (o + s + 2) = lN z := by rw [e3, wrL_sn (by omega), e2, wrL_sn (by omega)]; exact ez
    rw [e32, lN_add, fm_lN zb] at e4
    rw [z1]
    refine ih (l + 1) B4 (by omega) (fun c hc => by rw [e4, wrL_ne hc, e3, wrL_ne hc, e2, wrL_ne hc, f1 c hc]) (fun j => ?_) (fun j hj => by rw [e4, wrL_sn (by omega), e3, wrL_sn (by omega), e2, wrL_sn (by omega), f3 j hj])
    show B4 49 (o + j) = jn1 (jn b pl v (fun k => B 49 (o + k)) l) (bst l (bk b l pl)) v (lN pl) (sq v pl) j
    rw [hg]
    unfold jn1
    rw [← f2 s, ← f2 (s + 1), ← f2 (s + 2), ← f2 j]
    by_cases c1 : j = s
    · rw [if_pos c1, c1, e4, wrL_sn (by omega), e3, wrL_sn (by omega), e2, wrL_ss]
    · rw [if_neg c1]
      by_cases c2 : j = s + 1
      · rw [if_pos c2, c2, e4, wrL_sn (by omega), e3, ← Nat.add_assoc, wrL_ss, e2, wrL_sn (by omega)]
      · rw [if_neg c2]
        by_cases c3 : j = s + 2
        · rw [if_pos c3, c3, e4, ← Nat.add_assoc, wrL_ss]
          have : fm (B1 49 (o + s + 2)) = z := fz
          rw [this]
        · rw [if_neg c3, e4, wrL_sn (by omega), e3, wrL_sn (by omega), e2, wrL_sn (by omega)]
theorem s_jnM {o d b pl : Nat} {v1 : Int32} {v : Int64} {G : GS} {B : BS} {P : BS → Prop} (hv : v1 = nI o) (ho : o ≤ 384) (hd : d ≤ 4) (hb : 2 ≤ b) (hb2 : b ≤ 32) (hp : pl < 1000000) (h0 : G 45 6 = nI d) (h1 : G 45 7 = nI b) (hF : TH (fun k => B 49 (o + k))) (hK : ∀ B1 : BS, (∀ c, c ≠ 49 → B1 c = B c) → (∀ k, B1 49 (o + k) = jn b pl v (fun k => B 49 (o + k)) d k) → (∀ k, k < o → B1 49 k = B 49 k) → P B1) : wX6_adds v1 (nI pl) v G B P := by
  subst hv
  exact ⟨d + 1, s_jnM_l ho hd hb hb2 hp h0 h1 hF hK d 0 B (by omega) (fun _ _ => rfl) (fun _ => rfl) (fun _ _ => rfl)⟩
