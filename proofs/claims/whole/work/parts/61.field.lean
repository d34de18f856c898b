/-! PURE PART: remainders as a field; bits and sets -/
def fK (p : Nat) [NeZero p] (t : Nat) : Fin p := Fin.ofNat p t
theorem fK_ext {p : Nat} [NeZero p] {a b : Nat} (h : a % p = b % p) : fK p a = fK p b := by
  apply Fin.ext
  show a % p = b % p
  exact h
theorem fK_mod {p : Nat} [NeZero p] (a : Nat) : fK p (a % p) = fK p a := fK_ext (Nat.mod_mod a p)
theorem fK_add {p : Nat} [NeZero p] (a b : Nat) : fK p (a + b) = fK p a + fK p b := by
  apply Fin.ext
  show (a + b) % p = (a % p + b % p) % p
  rw [← Nat.add_mod]
theorem fK_mul {p : Nat} [NeZero p] (a b : Nat) : fK p (a * b) = fK p a * fK p b := by
  apply Fin.ext
  show (a * b) % p = (a % p * (b % p)) % p
  rw [← Nat.mul_mod]
theorem fK_0 {p : Nat} [NeZero p] : fK p 0 = 0 := rfl
theorem fK_p {p : Nat} [NeZero p] : fK p p = 0 := by
  apply Fin.ext
  show p % p = 0 % p
  rw [Nat.mod_self, Nat.zero_mod]
theorem fK_1 {p : Nat} [NeZero p] : fK p 1 = 1 := rfl
theorem fK_sub {p : Nat} [NeZero p] {a b : Nat} (h : b ≤ a) : fK p (a - b) = fK p a - fK p b := by
  have : fK p a = fK p (a - b) + fK p b := by rw [← fK_add]; congr 1; omega
  rw [this]; grind
theorem fK_inj {p : Nat} [NeZero p] {a b : Nat} (ha : a < p) (hb : b < p) (e : fK p a = fK p b) : a = b := by
  have : a % p = b % p := congrArg Fin.val e
  rw [Nat.mod_eq_of_lt ha, Nat.mod_eq_of_lt hb] at this
  exact this
theorem fK_z {p : Nat} [NeZero p] {a : Nat} (ha : a < p) : fK p a = 0 ↔ a = 0 := ⟨fun e => fK_inj ha (by omega) (e.trans fK_0.symm), fun e => by rw [e]; rfl⟩
theorem fK_val {p : Nat} [NeZero p] (x : Fin p) : ∃ a, a < p ∧ fK p a = x := ⟨x.val, x.isLt, Fin.ext (Nat.mod_eq_of_lt x.isLt)⟩
def hasInv (p : Nat) [NeZero p] : Prop := ∀ a : Fin p, a ≠ 0 → ∃ b : Fin p, a * b = 1
theorem TI_inv {G : GS} {p m n : Nat} [NeZero p] (hT : TI G p m n) : hasInv p := fun a ha => by
  have hp := isP_lt hT.1
  obtain ⟨x, hx, rfl⟩ := fK_val a
  have h0 : x ≠ 0 := fun e => ha ((fK_z hx).mpr e)
  obtain ⟨b, hb, -, e⟩ := hT.2.2.2.2.2.2 x (by omega) hx
  refine ⟨fK p b, ?_⟩
  rw [← fK_mul, ← fK_mod, e]; rfl
/-- a - x * c, as both sides reckon it -/
theorem fK_rmd {p a x c : Nat} [NeZero p] (hp : p ≤ 97) (ha : a < p) (hx : x < p) (hc : c < p) : rmd (nI a - nI x * nI c) p < p ∧ fK p (rmd (nI a - nI x * nI c) p) = fK p a - fK p x * fK p c := by
  have hxc : x * c ≤ 97 * 97 := Nat.mul_le_mul (by omega) (by omega)
  have h1 := rmd_lt (nI a - nI x * nI c) (p := p) (by omega)
  refine ⟨h1, ?_⟩
  have h2 : (rmd (nI a - nI x * nI c) p : Int) = ((a : Int) - (x * c : Nat)) % (p : Int) := by
    have := rmd_I (nI a - nI x * nI c) (p := p) (by omega) (by omega)
    rw [nI_toInt (by omega)] at this
    rw [this, pk_mul, pk_sub_toInt (by omega) (by omega)]
  generalize rmd (nI a - nI x * nI c) p = t at *
  have h3 : ∃ k : Int, (a : Int) - (x * c : Nat) = t + p * k := ⟨((a : Int) - (x * c : Nat)) / p, by
    have := Int.emod_add_mul_ediv ((a : Int) - (x * c : Nat)) p
    omega⟩
  obtain ⟨k, hk⟩ := h3
  have h4 : (t + x * c) % p = a % p := by
    have e : ((t + x * c : Nat) : Int) = (a : Int) + p * (-k) := by
      rw [Int.mul_neg]
      push_cast at hk ⊢
      omega
    have e2 : (((t + x * c) % p : Nat) : Int) = ((a % p : Nat) : Int) := by
      rw [Int.natCast_emod, Int.natCast_emod, e, Int.add_mul_emod_self_left]
    omega
  have h5 := fK_ext h4
  rw [fK_add, fK_mul] at h5
  grind
theorem bt_in {k : Nat} (h : k < 31) : ((nI k).toBitVec.smod 32).toNat = k := by
  revert k
  decide
/-- bit i of v -/
def bt (v i : Nat) : Nat := v / 2 ^ i % 2
theorem bt_lt (v i : Nat) : bt v i < 2 := Nat.mod_lt _ (by omega)
theorem bt_I {v i : Nat} (hv : v < 2 ^ 31) (hi : i < 31) : ((nI v >>> (nI i &&& (31 : Int32))) &&& (1 : Int32)) = nI (bt v i) := by
  rw [pk_andN (n := i) (by omega) 5 (by decide), Nat.mod_eq_of_lt (show i < 2 ^ 5 by omega), pk_shrN hv (nI i) i (bt_in hi), pk_andN (Nat.lt_of_le_of_lt (Nat.div_le_self _ _) (by omega)) 1 (by decide)]
  rfl
theorem sh_I {i : Nat} (hi : i < 31) : ((1 : Int32) <<< (nI i &&& (31 : Int32))) = nI (2 ^ i) := by
  have h2 : 2 ^ i < 2 ^ 31 := Nat.pow_lt_pow_right (by omega) hi
  rw [pk_andN (n := i) (by omega) 5 (by decide), Nat.mod_eq_of_lt (show i < 2 ^ 5 by omega)]
  have := pk_shlN (n := 1) (nI i) i (bt_in hi) (by omega)
  rw [Nat.one_mul] at this
  exact this
/-- the set bits of v from a on, k of them looked at -/
def cr (v : Nat) : Nat → Nat → List Nat
  | _, 0 => []
  | a, k + 1 => if bt v a = 1 then a :: cr v (a + 1) k else cr v (a + 1) k
theorem cr_add (v : Nat) : ∀ j a k, cr v a (j + k) = cr v a j ++ cr v (a + j) k
  | 0, a, k => by rw [Nat.zero_add]; rfl
  | j + 1, a, k => by
    rw [show j + 1 + k = (j + k) + 1 by omega]
    show (if bt v a = 1 then a :: cr v (a + 1) (j + k) else cr v (a + 1) (j + k)) = (if bt v a = 1 then a :: cr v (a + 1) j else cr v (a + 1) j) ++ cr v (a + (j + 1)) k
    rw [cr_add v j (a + 1) k, show a + 1 + j = a + (j + 1) by omega]
    by_cases e : bt v a = 1
    · rw [if_pos e, if_pos e]; rfl
    · rw [if_neg e, if_neg e]
theorem cr_congr {v w : Nat} : ∀ k a, (∀ i, a ≤ i → i < a + k → bt v i = bt w i) → cr v a k = cr w a k
  | 0, _, _ => rfl
  | k + 1, a, h => by
    show (if bt v a = 1 then a :: cr v (a + 1) k else cr v (a + 1) k) = (if bt w a = 1 then a :: cr w (a + 1) k else cr w (a + 1) k)
    rw [h a (Nat.le_refl _) (by omega), cr_congr k (a + 1) (fun i x y => h i (by omega) (by omega))]
theorem cr_no {v : Nat} : ∀ k a, (∀ i, a ≤ i → i < a + k → bt v i = 0) → cr v a k = []
  | 0, _, _ => rfl
  | k + 1, a, h => by
    show (if bt v a = 1 then a :: cr v (a + 1) k else cr v (a + 1) k) = []
    rw [if_neg (by rw [h a (Nat.le_refl _) (by omega)]; omega)]
    exact cr_no k (a + 1) (fun i x y => h i (by omega) (by omega))
theorem cr_mem {v : Nat} : ∀ k a c, c ∈ cr v a k ↔ a ≤ c ∧ c < a + k ∧ bt v c = 1
  | 0, a, c => ⟨fun h => absurd h (List.not_mem_nil), fun h => by omega⟩
  | k + 1, a, c => by
    show c ∈ (if bt v a = 1 then a :: cr v (a + 1) k else cr v (a + 1) k) ↔ _
    by_cases e : bt v a = 1
    · rw [if_pos e, List.mem_cons, cr_mem k (a + 1) c]
      constructor
      · rintro (q | q)
        · subst q; exact ⟨Nat.le_refl _, by omega, e⟩
        · exact ⟨by omega, by omega, q.2.2⟩
      · rintro ⟨q1, q2, q3⟩
        by_cases ec : c = a
        · exact Or.inl ec
        · exact Or.inr ⟨by omega, by omega, q3⟩
    · rw [if_neg e, cr_mem k (a + 1) c]
      constructor
      · rintro ⟨q1, q2, q3⟩; exact ⟨by omega, by omega, q3⟩
      · rintro ⟨q1, q2, q3⟩
        have : c ≠ a := fun ec => e (ec ▸ q3)
        exact ⟨by omega, by omega, q3⟩
theorem cr_nodup {v : Nat} : ∀ k a, (cr v a k).Nodup
  | 0, _ => List.nodup_nil
  | k + 1, a => by
    show (if bt v a = 1 then a :: cr v (a + 1) k else cr v (a + 1) k).Nodup
    by_cases e : bt v a = 1
    · rw [if_pos e]
      refine List.nodup_cons.mpr ⟨fun h => ?_, cr_nodup k (a + 1)⟩
      have := (cr_mem k (a + 1) a).mp h
      omega
    · rw [if_neg e]; exact cr_nodup k (a + 1)
theorem cr_len {v : Nat} : ∀ k a, (cr v a k).length ≤ k
  | 0, _ => Nat.le_refl _
  | k + 1, a => by
    show (if bt v a = 1 then a :: cr v (a + 1) k else cr v (a + 1) k).length ≤ k + 1
    have := cr_len (v := v) k (a + 1)
    by_cases e : bt v a = 1
    · rw [if_pos e]; simp only [List.length_cons]; omega
    · rw [if_neg e]; omega
theorem bt_lo {S1 w b i : Nat} (hi : i < b) : bt (2 ^ b * S1 + w) i = bt w i := by
  unfold bt
  obtain ⟨d, rfl⟩ : ∃ d, b = i + (d + 1) := ⟨b - i - 1, by omega⟩
  have e : 2 ^ (i + (d + 1)) * S1 + w = w + 2 ^ i * (2 * (2 ^ d * S1)) := by
    rw [Nat.pow_add, Nat.pow_succ, Nat.add_comm]
    congr 1
    rw [Nat.mul_assoc, Nat.mul_comm (2 ^ d) 2, Nat.mul_assoc]
  rw [e, Nat.add_mul_div_left _ _ (Nat.two_pow_pos i), Nat.add_mul_mod_self_left]
theorem bt_hi {S1 w b i : Nat} (hw : w < 2 ^ b) (hi : b ≤ i) : bt (2 ^ b * S1 + w) i = bt (2 ^ b * S1) i := by
  unfold bt
  obtain ⟨d, rfl⟩ : ∃ d, i = b + d := ⟨i - b, by omega⟩
  rw [Nat.pow_add, ← Nat.div_div_eq_div_mul, ← Nat.div_div_eq_div_mul, Nat.mul_add_div (Nat.two_pow_pos b), Nat.div_eq_of_lt hw, Nat.add_zero, Nat.mul_div_cancel_left _ (Nat.two_pow_pos b)]
theorem bt_big {w b i : Nat} (hw : w < 2 ^ b) (hi : b ≤ i) : bt w i = 0 := by
  unfold bt
  rw [Nat.div_eq_of_lt (Nat.lt_of_lt_of_le hw (Nat.pow_le_pow_right (by omega) hi))]
theorem bt_pow (c i : Nat) : bt (2 ^ c) i = if i = c then 1 else 0 := by
  rcases Nat.lt_trichotomy i c with h | h | h
  · rw [if_neg (by omega)]
    have := bt_lo (S1 := 1) (w := 0) (b := c) h
    rw [Nat.mul_one, Nat.add_zero] at this
    rw [this]; unfold bt; rw [Nat.zero_div]
  · rw [if_pos h, h]; unfold bt; rw [Nat.div_self (Nat.two_pow_pos c)]
  · rw [if_neg (by omega)]
    exact bt_big (b := c + 1) (Nat.pow_lt_pow_right (by omega) (by omega)) (by omega)
/-- S holds the bits from b on; w less than 2^b is put below it -/
theorem cr_low {S1 w b n : Nat} (hw : w < 2 ^ b) (hb : b ≤ n) : cr (2 ^ b * S1 + w) 0 n = cr w 0 b ++ cr (2 ^ b * S1) b (n - b) := by
  rw [show n = b + (n - b) by omega, cr_add, Nat.zero_add, show b + (n - b) - b = n - b by omega]
  rw [cr_congr b 0 (fun i _ h => bt_lo (S1 := S1) (w := w) (b := b) (by omega)), cr_congr (n - b) b (fun i h _ => bt_hi (S1 := S1) hw h)]
theorem cr_top {S1 b c n : Nat} (hc : c < b) (hb : b ≤ n) : cr (2 ^ b * S1 + 2 ^ c) c (n - c) = c :: cr (2 ^ b * S1) b (n - b) := by
  have hw : 2 ^ c < 2 ^ b := Nat.pow_lt_pow_right (by omega) hc
  rw [show n - c = (b - c) + (n - b) by omega, cr_add, show c + (b - c) = b by omega, show b - c = (b - c - 1) + 1 by omega]
  show (if bt (2 ^ b * S1 + 2 ^ c) c = 1 then c :: cr (2 ^ b * S1 + 2 ^ c) (c + 1) (b - c - 1) else cr (2 ^ b * S1 + 2 ^ c) (c + 1) (b - c - 1)) ++ _ = _
  rw [if_pos (by rw [bt_lo hc, bt_pow, if_pos rfl]), cr_no (b - c - 1) (c + 1) (fun i h1 h2 => by rw [bt_lo (by omega), bt_pow, if_neg (by omega)]), cr_congr (n - b) b (fun i h _ => bt_hi (S1 := S1) hw h)]
  rfl
theorem cr_w0 {w c : Nat} (hw : w < 2 ^ c) (h : cr w 0 c = []) : w = 0 := by
  induction c with
  | zero => simpa using hw
  | succ c ih =>
    rw [cr_add] at h
    have h1 := List.append_eq_nil_iff.mp h
    have hb : bt w c ≠ 1 := fun e => by
      have := h1.2
      rw [Nat.zero_add] at this
      have e2 : cr w c 1 = [c] := by
        show (if bt w c = 1 then c :: cr w (c + 1) 0 else cr w (c + 1) 0) = [c]
        rw [if_pos e]; rfl
      rw [e2] at this
      exact absurd this (by simp)
    refine ih ?_ h1.1
    unfold bt at hb
    rw [Nat.pow_succ] at hw
    have h2 : w / 2 ^ c < 2 := Nat.div_lt_of_lt_mul (by omega)
    have h3 : w / 2 ^ c = 0 := by
      generalize w / 2 ^ c = u at hb h2 ⊢
      omega
    rcases Nat.lt_or_ge w (2 ^ c) with q | q
    · exact q
    · have := Nat.div_pos q (Nat.two_pow_pos c)
      omega
/-- the greatest bit -/
theorem top_bit : ∀ b w, w < 2 ^ b → w ≠ 0 → ∃ c w2, c < b ∧ w2 < 2 ^ c ∧ w = 2 ^ c + w2
  | 0, w, h, h0 => absurd (by simpa using h) h0
  | b + 1, w, h, h0 => by
    rcases Nat.lt_or_ge w (2 ^ b) with q | q
    · obtain ⟨c, w2, h1, h2, h3⟩ := top_bit b w q h0
      exact ⟨c, w2, by omega, h2, h3⟩
    · refine ⟨b, w - 2 ^ b, by omega, ?_, by omega⟩
      rw [Nat.pow_succ] at h
      omega
theorem s_bits {v : Nat} {P : Int32 → Prop} (hv : v < 2 ^ 31) (h : P (nI (cr v 0 12).length)) : wX6_bits (nI v) P := by
  have key : ∀ f i, i + f = 12 → wlX6_bits_4 (fun x => P x) (nI v) (f + 1) (nI (cr v 0 i).length) (nI i) := by
    intro f
    induction f with
    | zero =>
      intro i hi
      have e : i = 12 := by omega
      subst e
      exact ⟨fun _ => h, fun h => absurd (Int32.le_refl _) h⟩
    | succ f ih =>
      intro i hi
      refine ⟨fun h => absurd h (nI_ge (b := 12) (by omega) (by omega)), fun _ x ex => ?_⟩
      rw [bt_I hv (by omega), nI_add] at ex
      have e2 : (cr v 0 i).length + bt v i = (cr v 0 (i + 1)).length := by
        rw [cr_add, List.length_append, Nat.zero_add]
        congr 1
        have := bt_lt v i
        show bt v i = (if bt v i = 1 then i :: cr v (i + 1) 0 else cr v (i + 1) 0).length
        by_cases q : bt v i = 1
        · rw [if_pos q, q]; rfl
        · rw [if_neg q]; show bt v i = 0; omega
      rw [ex, e2, z1]
      exact ih (i + 1) (by omega)
  exact ⟨13, key 12 0 (by omega)⟩
theorem cr_12 {v n : Nat} (hv : v < 2 ^ n) (hn : n ≤ 12) : cr v 0 12 = cr v 0 n := by
  rw [show (12 : Nat) = n + (12 - n) by omega, cr_add, cr_no (12 - n) (0 + n) (fun i h1 h2 => bt_big hv (by omega)), List.append_nil]
