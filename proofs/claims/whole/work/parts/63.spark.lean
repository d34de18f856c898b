/-! PURE PART: the class's rank and spark -/
def CI {p : Nat} [NeZero p] (G : GS) (d h bd : Nat) (C : Nat → Nat → Fin p) (T : List Nat) (f : (Nat → Fin p) → Nat → Fin p) : Prop := T.length = d ∧ Lin h f ∧ (∀ v, Sp h (T.map C) v ↔ ∀ i, i < h → f v i = 0) ∧ ∀ c, c < bd → LV G d c h (f (C c))
theorem CI_0 {p : Nat} [NeZero p] {G : GS} {h n : Nat} {C : Nat → Nat → Fin p} (h1 : ∀ c, c < n → LV G 0 c h (C c)) : CI G 0 h n C [] (fun v => v) := ⟨rfl, ⟨fun _ _ e => e, fun _ _ _ _ _ => rfl⟩, fun _ => Iff.rfl, h1⟩
def tkF {p : Nat} [NeZero p] (f : (Nat → Fin p) → Nat → Fin p) (t : Nat → Fin p) (r : Nat) (v : Nat → Fin p) (i : Nat) : Fin p := f v i * f t r - f t i * f v r
theorem CI_nz {p : Nat} [NeZero p] {G : GS} {d h bd c : Nat} {C : Nat → Nat → Fin p} {T : List Nat} {f : (Nat → Fin p) → Nat → Fin p} (hC : CI G d h bd C T f) : (∀ i, i < h → f (C c) i = 0) ↔ Sp h (T.map C) (C c) := (hC.2.2.1 _).symm
theorem s_take {p : Nat} [NeZero p] (inv : hasInv p) {G : GS} {d h bd c b2 : Nat} {C : Nat → Nat → Fin p} {T : List Nat} {f : (Nat → Fin p) → Nat → Fin p} {P : GS → Prop} (hp2 : 2 ≤ p) (hp : p ≤ 97) (hd : d < 6) (hc : c < bd) (hbd : bd ≤ 12) (hb2 : b2 ≤ bd) (hh : h ≤ 6) (h0 : G 1 0 = nI p) (h5 : G 2 5 = nI h) (hC : CI G d h bd C T f) (hne : ¬ ∀ i, i < h → f (C c) i = 0) (hK : ∀ (G1 : GS) (r : Nat), r < h → f (C c) r ≠ 0 → (∀ x, x ≠ 11 → x ≠ 12 → x ≠ 38 + (d + 1) → G1 x = G x) → G1 11 d = nI c → G1 12 d = nI r → (∀ j, j ≠ d → G1 11 j = G 11 j ∧ G1 12 j = G 12 j) → CI G1 (d + 1) h b2 C (c :: T) (tkF f (C c) r) → P G1) : wX2_takeOut (nI d) (nI c) (nI b2) G P := by
  obtain ⟨c1, c2, c3, c4⟩ := id hC
  refine s_to (p := p) (g := f (C c)) (F := fun x => f (C x)) hp2 hp hd (by omega) (by omega) hh h0 h5 (c4 c hc) hne (fun x hx => c4 x (by omega)) (fun G1 r hr hn k1 k2 k3 k4 k5 => hK G1 r hr hn k1 k2 k3 k4 ⟨?_, Lin_out c2 (C c) r hr, fun v => Sp_out inv c2 c3 (C c) r hr hn v, fun x hx => k5 x hx⟩)
  show T.length + 1 = d + 1
  rw [c1]
theorem m1_eq (x : Int32) : x + (-1) = x - 1 := by rw [Int32.sub_eq_add_neg]
/-- as many as there are rows: everything is bound -/
theorem full_Sp {p : Nat} [NeZero p] (inv : hasInv p) {h : Nat} {T : List (Nat → Fin p)} (hi : Ind h T) (hl : h ≤ T.length) (v : Nat → Fin p) : Sp h T v := by
  apply Classical.byContradiction
  intro q
  have := Ind_le inv (U := v :: T) ⟨hi, q⟩
  simp only [List.length_cons] at this
  omega
theorem s_rk {p : Nat} [NeZero p] (inv : hasInv p) {G : GS} {h n : Nat} {C : Nat → Nat → Fin p} {K : Int32 → GS → Prop} (hp2 : 2 ≤ p) (hp : p ≤ 97) (hn : n ≤ 12) (hh : h ≤ 6) (h0 : G 1 0 = nI p) (h5 : G 2 5 = nI h) (hK : ∀ (G1 : GS) (T : List Nat), (∀ x, x ≠ 11 → x ≠ 12 → ¬ (38 < x ∧ x < 45) → G1 x = G x) → Ind h (T.map C) → (∀ k, k < n → Sp h (T.map C) (C k)) → (∀ c, c ∈ T → c < n) → K (nI T.length) G1) : ∀ j d T f (G1 : GS), j ≤ n → (∀ x, x ≠ 11 → x ≠ 12 → ¬ (38 < x ∧ x < 45) → G1 x = G x) → CI G1 d h j C T f → Ind h (T.map C) → (∀ k, j ≤ k → k < n → Sp h (T.map C) (C k)) → (∀ c, c ∈ T → c < n) → wlX2_rank_17 K (j + 1) (nI d) (nI j - 1) G1 := by
  intro j
  induction j with
  | zero =>
    intro d T f G1 hj f1 f2 f3 f4 f5
    refine ⟨fun _ => ?_, fun q => absurd (by decide) q⟩
    rw [← f2.1]
    exact hK G1 T f1 f3 (fun k hk => f4 k (by omega) hk) f5
  | succ j ih =>
    intro d T f G1 hj f1 f2 f3 f4 f5
    rw [nI_pred]
    have hTh := Ind_le inv f3
    rw [List.length_map, f2.1] at hTh
    unfold wlX2_rank_17
    rw [m1_eq]
    refine ⟨fun q => absurd q (nI_pos (by omega)), fun _ => ⟨fun q => ?_, fun q => ?_⟩⟩
    · have hd6 : 6 ≤ d := by
        rcases Nat.lt_or_ge d 6 with z | z
        · exact absurd q (nI_ge (b := 6) z (by omega))
        · exact z
      rw [← f2.1]
      refine hK G1 T f1 f3 (fun k hk => full_Sp inv f3 ?_ _) f5
      rw [List.length_map, f2.1]; omega
    · have hd6 : d < 6 := by
        rcases Nat.lt_or_ge d 6 with z | z
        · exact z
        · exact absurd (nI_le (a := 6) z (by omega)) q
      refine s_iN hp (by omega) (by omega) hh (by rw [f1 2 (by omega) (by omega) (by omega), h5]) (f2.2.2.2 j (by omega)) (fun hnz => ⟨fun e => absurd rfl e, fun _ => ?_⟩) (fun hz => ⟨fun _ => ?_, fun e => absurd e (by decide)⟩)
      · refine s_take inv (bd := j + 1) (b2 := j) hp2 hp hd6 (by omega) (by omega) (by omega) hh (by rw [f1 1 (by omega) (by omega) (by omega), h0]) (by rw [f1 2 (by omega) (by omega) (by omega), h5]) f2 hnz (fun G2 r hr hn2 k1 k2 k3 k4 k5 => ?_)
        rw [z1]
        have hns : ¬ Sp h (T.map C) (C j) := fun q => hnz ((CI_nz f2).mpr q)
        refine ih (d + 1) (j :: T) _ G2 (by omega) (fun x a b c => by rw [k1 x a b (by omega), f1 x a b c]) k5 ⟨f3, hns⟩ (fun k hk1 hk2 => ?_) (fun c hc => ?_)
        · by_cases e : k = j
          · rw [e]; exact Sp_hd
          · exact Sp_up (f4 k (by omega) hk2)
        · rcases List.mem_cons.mp hc with e | e
          · rw [e]; omega
          · exact f5 c e
      · refine ih d T f G1 (by omega) f1 ⟨f2.1, f2.2.1, f2.2.2.1, fun c hc => f2.2.2.2 c (by omega)⟩ f3 (fun k hk1 hk2 => ?_) f5
        by_cases e : k = j
        · rw [e]; exact (CI_nz f2).mp hz
        · exact f4 k (by omega) hk2
/-- the columns that are looked at -/
def colK (p : Nat) [NeZero p] (G : GS) (dr m : Nat) (c k : Nat) : Fin p := fK p (cA G (rw_ dr m k) c)
theorem s_rank {p : Nat} [NeZero p] {G : GS} {m n : Nat} {P : Int32 → GS → Prop} (hT : TI G p m n) (hK : ∀ (G1 : GS) (T : List Nat), (∀ x, x ≠ 2 → x ≠ 11 → x ≠ 12 → ¬ (38 ≤ x ∧ x < 45) → G1 x = G x) → Ind m (T.map (colK p G 0 m)) → (∀ k, k < n → Sp m (T.map (colK p G 0 m)) (colK p G 0 m k)) → (∀ c, c ∈ T → c < n) → P (nI T.length) G1) : wX2_rank G P := by
  have hp := isP_lt hT.1
  obtain ⟨-, ⟨hm0, hm⟩, ⟨hn0, hn⟩, ⟨a0, a1, a2⟩, -, -, -⟩ := id hT
  refine s_ldC (dr := 0) hT (by omega) (fun G1 f1 f2 f3 f4 x ex => ?_)
  rw [kr_0] at f3 f4
  rw [f1 1 (by omega) (by omega), a2] at ex
  subst ex
  refine ⟨n + 1, s_rk (TI_inv hT) (G := G1) (h := m) (n := n) (C := colK p G 0 m) hp.1 hp.2 hn hm (by rw [f1 1 (by omega) (by omega), a0]) f3 (fun G2 T g1 g2 g3 g4 => hK G2 T (fun x a b c d => by rw [g1 x b c (by omega), f1 x a (by omega)]) g2 g3 g4) n 0 [] (fun v => v) G1 (Nat.le_refl _) (fun _ _ _ _ => rfl) (CI_0 (fun c hc i hi => ?_)) True.intro (fun k h1 h2 => by omega) (fun c hc => absurd hc (List.not_mem_nil))⟩
  have hr : rw_ 0 m i < m := rw_lt (by rw [kr_0]; exact hi)
  exact ⟨_, (TI_A hT (by omega) (by omega)).1, f4 c i hc hi, rfl⟩
/-- a set just above S: some columns more -/
theorem cr_more {S1 b n v : Nat} (hb : b ≤ n) (h1 : 2 ^ b * S1 < v) (h2 : v < 2 ^ b * S1 + 2 ^ b) : ∃ c w, c < b ∧ w < 2 ^ c ∧ v = 2 ^ b * S1 + (2 ^ c + w) ∧ cr v 0 n = cr w 0 c ++ (c :: cr (2 ^ b * S1) b (n - b)) := by
  obtain ⟨w0, rfl⟩ : ∃ w0, v = 2 ^ b * S1 + w0 := ⟨v - 2 ^ b * S1, by omega⟩
  obtain ⟨c, w, hc, hw, rfl⟩ := top_bit b w0 (by omega) (by omega)
  refine ⟨c, w, hc, hw, rfl, ?_⟩
  have e : 2 ^ b * S1 + (2 ^ c + w) = 2 ^ c * (2 ^ (b - c) * S1 + 1) + w := by
    rw [Nat.mul_add, ← Nat.mul_assoc, ← Nat.pow_add, show c + (b - c) = b by omega]; omega
  rw [e, cr_low hw (by omega)]
  congr 1
  have e2 : 2 ^ c * (2 ^ (b - c) * S1 + 1) = 2 ^ b * S1 + 2 ^ c := by
    rw [Nat.mul_add, ← Nat.mul_assoc, ← Nat.pow_add, show c + (b - c) = b by omega]; omega
  rw [e2, cr_top hc hb]
theorem pow_S {S1 b c : Nat} (hc : c < b) : 2 ^ c * (2 ^ (b - c) * S1 + 1) = 2 ^ b * S1 + 2 ^ c := by
  rw [Nat.mul_add, ← Nat.mul_assoc, ← Nat.pow_add, show c + (b - c) = b by omega]; omega
theorem pow_c {b c : Nat} (hc : c < b) : 2 ^ c + 2 ^ c ≤ 2 ^ b := by
  have : 2 ^ (c + 1) ≤ 2 ^ b := Nat.pow_le_pow_right (by omega) (by omega)
  rw [Nat.pow_succ] at this
  omega
theorem s_sb {p : Nat} [NeZero p] (inv : hasInv p) {h n : Nat} (hp2 : 2 ≤ p) (hp : p ≤ 97) (hh : h ≤ 6) (hn : n ≤ 12) (C : Nat → Nat → Fin p) : ∀ N d b S1 T f lb (G : GS) (P : GS → Prop), d + N = 8 → b ≤ n → CI G d h b C T f → Ind h (T.map C) → T = cr (2 ^ b * S1) b (n - b) → 2 ^ b * S1 + 2 ^ b ≤ 2 ^ n → lb ≤ 7 → G 1 0 = nI p → G 2 5 = nI h → G 2 10 = nI lb → (∀ (G1 : GS) lb2, (∀ x, x ≠ 2 → x ≠ 11 → x ≠ 12 → ¬ (38 + d < x ∧ x < 45) → G1 x = G x) → (∀ j, j ≠ 10 → G1 2 j = G 2 j) → G1 2 10 = nI lb2 → lb2 ≤ lb → (lb2 = lb ∨ ∃ v, v < 2 ^ n ∧ ¬ Ind h ((cr v 0 n).map C) ∧ (cr v 0 n).length = lb2) → (∀ v, 2 ^ b * S1 < v → v < 2 ^ b * S1 + 2 ^ b → ¬ Ind h ((cr v 0 n).map C) → lb2 ≤ (cr v 0 n).length) → P G1) → wX2_seekBound N (nI d) (nI b) G P := by
  intro N
  induction N with
  | zero =>
    intro d b S1 T f lb G P hd hb hC hI hTe hS hlb h0 h5 h10 hK
    exfalso
    have := Ind_le inv hI
    rw [List.length_map, hC.1] at this
    omega
  | succ N ih =>
    intro d b S1 T f lb G P hd hb hC hI hTe hS hlb h0 h5 h10 hK
    have hTh := Ind_le inv hI
    rw [List.length_map, hC.1] at hTh
    have one : ∀ v, 2 ^ b * S1 < v → v < 2 ^ b * S1 + 2 ^ b → d + 1 ≤ (cr v 0 n).length := fun v h1 h2 => by
      obtain ⟨c, w, -, -, -, e⟩ := cr_more hb h1 h2
      rw [e, ← hTe, List.length_append, List.length_cons, hC.1]
      omega
    show wX2_seekBoundB (wX2_seekBound N) (nI d) (nI b) G P
    unfold wX2_seekBoundB
    rw [h10, z1, nI_leI (by omega) (by omega)]
    have d6 : (6 : Int32) = nI 6 := rfl
    rw [d6, nI_ltI (by omega) (by omega)]
    refine ⟨fun q => hK G lb (fun _ _ _ _ _ => rfl) (fun _ _ => rfl) h10 (Nat.le_refl _) (Or.inl rfl) (fun v h1 h2 _ => ?_), fun q => ⟨fun q6 => ?_, fun q6 => by omega⟩⟩
    · have := one v h1 h2
      omega
    -- the first loop
    have noloop : (∀ c, c < b → ¬ Sp h (T.map C) (C c)) → ∃ z49 : Nat, wlX2_seekBound_49 (wX2_seekBound N) (fun G_76 => P G_76) (nI d) (nI b) z49 (1 : Int32) G := by
      intro hno
      have two : ∀ v, 2 ^ b * S1 < v → v < 2 ^ b * S1 + 2 ^ b → ¬ Ind h ((cr v 0 n).map C) → d + 2 ≤ (cr v 0 n).length := fun v h1 h2 h3 => by
        obtain ⟨c, w, hc, hw, -, e⟩ := cr_more hb h1 h2
        rw [e, ← hTe, List.length_append, List.length_cons, hC.1]
        rcases Nat.eq_zero_or_pos (cr w 0 c).length with z | z
        · have e2 := List.length_eq_zero_iff.mp z
          rw [e, ← hTe, e2, List.nil_append] at h3
          exact absurd ⟨hI, hno c hc⟩ h3
        · omega
      have loop : ∀ f2 c (G1 : GS) lb1, b ≤ c + f2 → 1 ≤ c → c ≤ 13 → lb1 ≤ lb → (∀ x, x ≠ 2 → x ≠ 11 → x ≠ 12 → ¬ (38 + d < x ∧ x < 45) → G1 x = G x) → (∀ j, j ≠ 10 → G1 2 j = G 2 j) → G1 2 10 = nI lb1 → (lb1 = lb ∨ ∃ v, v < 2 ^ n ∧ ¬ Ind h ((cr v 0 n).map C) ∧ (cr v 0 n).length = lb1) → (∀ v, 2 ^ b * S1 < v → v < 2 ^ b * S1 + 2 ^ b → v < 2 ^ b * S1 + 2 ^ c → ¬ Ind h ((cr v 0 n).map C) → lb1 ≤ (cr v 0 n).length) → wlX2_seekBound_49 (wX2_seekBound N) (fun G_76 => P G_76) (nI d) (nI b) (f2 + 1) (nI c) G1 := by
        intro f2
        induction f2 with
        | zero =>
          intro c G1 lb1 hbc hc1 hc13 hlb1 u1 u2 u3 u4 u5
          refine ⟨fun _ => hK G1 lb1 u1 u2 u3 hlb1 u4 (fun v h1 h2 h3 => u5 v h1 h2 ?_ h3), fun q => absurd (nI_le (show b ≤ c by omega) (by omega)) q⟩
          have := Nat.pow_le_pow_right (show 0 < 2 by omega) (show b ≤ c by omega)
          omega
        | succ f2 ihl =>
          intro c G1 lb1 hbc hc1 hc13 hlb1 u1 u2 u3 u4 u5
          have e2 : nI d + (2 : Int32) = nI (d + 2) := nI_add d 2
          unfold wlX2_seekBound_49
          rw [u3, e2, nI_leI (by omega) (by omega), nI_leI (by omega) (by omega), z1]
          refine ⟨fun q => hK G1 lb1 u1 u2 u3 hlb1 u4 (fun v h1 h2 h3 => u5 v h1 h2 ?_ h3), fun hbc2 => ⟨fun q => hK G1 lb1 u1 u2 u3 hlb1 u4 (fun v h1 h2 h3 => ?_), fun q => ?_⟩⟩
          · have := Nat.pow_le_pow_right (show 0 < 2 by omega) q
            omega
          · have := two v h1 h2 h3
            omega
          · have hC1 : CI G1 d h b C T f := ⟨hC.1, hC.2.1, hC.2.2.1, fun c2 hc2 i hi => by
              rw [u1 (38 + d) (by omega) (by omega) (by omega) (by omega)]
              exact hC.2.2.2 c2 hc2 i hi⟩
            have hnz : ¬ ∀ i, i < h → f (C c) i = 0 := fun z => hno c (by omega) ((CI_nz hC).mp z)
            refine s_take inv (bd := b) (b2 := c) hp2 hp (by omega) (by omega) (by omega) (by omega) hh (by rw [u1 1 (by omega) (by omega) (by omega) (by omega), h0]) (by rw [u2 5 (by omega), h5]) hC1 hnz (fun G2 r hr hn2 k1 k2 k3 k4 k5 => ?_)
            rw [z1]
            have ep := pow_S (S1 := S1) (show c < b by omega)
            have pc := pow_c (show c < b by omega)
            refine ih (d + 1) c (2 ^ (b - c) * S1 + 1) (c :: T) _ lb1 G2 _ (by omega) (by omega) k5 ⟨hI, hno c (by omega)⟩ (by rw [ep, cr_top (by omega) hb, hTe]) (by rw [ep]; omega) (by omega) (by rw [k1 1 (by omega) (by omega) (by omega), u1 1 (by omega) (by omega) (by omega) (by omega), h0]) (by rw [k1 2 (by omega) (by omega) (by omega), u2 5 (by omega), h5]) (by rw [k1 2 (by omega) (by omega) (by omega), u3]) (fun G3 lb3 w1 w2 w3 w4 w5 w6 => ?_)
            rw [ep] at w6
            refine ihl (c + 1) G3 lb3 (by omega) (by omega) (by omega) (by omega) (fun x a1 a2 a3 a4 => ?_) (fun j hj => ?_) w3 ?_ (fun v h1 h2 h3 h4 => ?_)
            · rw [w1 x a1 a2 a3 (by omega), k1 x a2 a3 (by omega), u1 x a1 a2 a3 a4]
            · rw [w2 j hj, k1 2 (by omega) (by omega) (by omega), u2 j hj]
            · rcases w5 with w5 | w5
              · rw [w5]; exact u4
              · exact Or.inr w5
            · rcases Nat.lt_trichotomy v (2 ^ b * S1 + 2 ^ c) with z | z | z
              · have := u5 v h1 h2 z h4
                omega
              · exfalso
                obtain ⟨c', w', hc', hw', ev, e⟩ := cr_more hb h1 h2
                have hww : cr v 0 n = c :: T := by
                  have := cr_low (S1 := 2 ^ (b - c) * S1 + 1) (w := 0) (b := c) (n := n) (Nat.two_pow_pos c) (by omega)
                  rw [ep, Nat.add_zero] at this
                  rw [z, this, cr_top (by omega) hb, ← hTe, cr_no c 0 (fun i _ _ => bt_0 i)]
                  rfl
                rw [hww] at h4
                exact h4 ⟨hI, hno c (by omega)⟩
              · rw [Nat.pow_succ] at h3
                exact w6 v z (by omega) h4
      refine ⟨b + 1, loop b 1 G lb (by omega) (by omega) (by omega) (Nat.le_refl _) (fun _ _ _ _ _ => rfl) (fun _ _ => rfl) h10 (Or.inl rfl) (fun v h1 h2 h3 h4 => ?_)⟩
      exfalso
      obtain ⟨c', w', hc', hw', ev, e⟩ := cr_more hb h1 h2
      have hv : v = 2 ^ b * S1 + 1 := by omega
      have p1 := Nat.two_pow_pos c'
      have hc0 : c' = 0 := by
        rcases Nat.eq_zero_or_pos c' with z | z
        · exact z
        · have := Nat.pow_le_pow_right (show 0 < 2 by omega) z
          omega
      subst hc0
      have : w' = 0 := by omega
      rw [e, this, ← hTe] at h4
      exact h4 ⟨hI, hno 0 hc'⟩
    have first : ∀ f2 c, c + f2 = b → (∀ c2, c2 < c → ¬ Sp h (T.map C) (C c2)) → wlX2_seekBound_19 ((∀ G37 : GS, G37 = wr G 2 10 (nI (d + 1)) → P G37)) (∃ z49 : Nat, wlX2_seekBound_49 (wX2_seekBound N) (fun G_76 => P G_76) (nI d) (nI b) z49 (1 : Int32) G) (nI d) (nI b) G (f2 + 1) (nI c) := by
      intro f2
      induction f2 with
      | zero =>
        intro c hc hz
        have e : c = b := by omega
        subst e
        exact ⟨fun _ => noloop hz, fun q => absurd (Int32.le_refl _) q⟩
      | succ f2 ihf =>
        intro c hc hz
        refine ⟨fun q => absurd q (nI_ge (by omega) (by omega)), fun _ => ?_⟩
        refine s_iN hp (by omega) (by omega) hh h5 (hC.2.2.2 c (by omega)) (fun hnz => ⟨fun _ => ?_, fun e => absurd rfl e⟩) (fun hz2 => ⟨fun e => absurd e (by decide), fun _ G1 e1 => ?_⟩)
        · rw [z1]
          refine ihf (c + 1) (by omega) (fun c2 hc2 => ?_)
          by_cases e : c2 = c
          · rw [e]; exact fun q => hnz ((CI_nz hC).mpr q)
          · exact hz c2 (by omega)
        · have pc := pow_c (show c < b by omega)
          have pp := Nat.two_pow_pos c
          refine hK G1 (d + 1) (fun x a1 a2 a3 a4 => by rw [e1, wr_ne a1]) (fun j hj => by rw [e1, wr_sn hj]) (by rw [e1, wr_ss]) (by omega) (Or.inr ⟨2 ^ b * S1 + 2 ^ c, by omega, ?_, ?_⟩) (fun v h1 h2 _ => one v h1 h2)
          · have := cr_low (S1 := 2 ^ (b - c) * S1 + 1) (w := 0) (b := c) (n := n) (Nat.two_pow_pos c) (by omega)
            rw [pow_S (by omega), Nat.add_zero, cr_top (by omega) hb, ← hTe, cr_no c 0 (fun i _ _ => bt_0 i), List.nil_append] at this
            rw [this]
            exact fun q => q.2 ((CI_nz hC).mp hz2)
          · have := cr_low (S1 := 2 ^ (b - c) * S1 + 1) (w := 0) (b := c) (n := n) (Nat.two_pow_pos c) (by omega)
            rw [pow_S (by omega), Nat.add_zero, cr_top (by omega) hb, ← hTe, cr_no c 0 (fun i _ _ => bt_0 i), List.nil_append] at this
            rw [this, List.length_cons, hC.1]
    exact ⟨b + 1, first b 0 (by omega) (fun c2 h => by omega)⟩
/-- the spark: least number of columns that are bound -/
def isSpark {p : Nat} [NeZero p] (h n : Nat) (C : Nat → Nat → Fin p) (s : Nat) : Prop := s ≤ n + 1 ∧ (s = n + 1 ∨ ∃ v, v < 2 ^ n ∧ ¬ Ind h ((cr v 0 n).map C) ∧ (cr v 0 n).length = s) ∧ ∀ v, v < 2 ^ n → ¬ Ind h ((cr v 0 n).map C) → s ≤ (cr v 0 n).length
theorem isSpark_uniq {p : Nat} [NeZero p] {h n : Nat} {C : Nat → Nat → Fin p} {s t : Nat} (h1 : isSpark h n C s) (h2 : isSpark h n C t) : s = t := by
  obtain ⟨a1, a2, a3⟩ := h1
  obtain ⟨b1, b2, b3⟩ := h2
  have x : s ≤ t := by
    rcases b2 with e | ⟨v, v1, v2, v3⟩
    · omega
    · have := a3 v v1 v2; omega
  have y : t ≤ s := by
    rcases a2 with e | ⟨v, v1, v2, v3⟩
    · omega
    · have := b3 v v1 v2; omega
  omega
theorem cr_full : ∀ k a v, (∀ i, a ≤ i → i < a + k → bt v i = 1) → (cr v a k).length = k
  | 0, _, _, _ => rfl
  | k + 1, a, v, h => by
    show (if bt v a = 1 then a :: cr v (a + 1) k else cr v (a + 1) k).length = k + 1
    rw [if_pos (h a (Nat.le_refl _) (by omega)), List.length_cons, cr_full k (a + 1) v (fun i x y => h i (by omega) (by omega))]
theorem bt_ones {k i : Nat} (h : i < k) : bt (2 ^ k - 1) i = 1 := by
  have e : 2 ^ k - 1 = 2 ^ (i + 1) * (2 ^ (k - i - 1) - 1) + (2 ^ (i + 1) - 1) := by
    have h1 : 2 ^ k = 2 ^ (i + 1) * 2 ^ (k - i - 1) := by rw [← Nat.pow_add]; congr 1; omega
    have h2 := Nat.two_pow_pos (k - i - 1)
    have h3 := Nat.two_pow_pos (i + 1)
    obtain ⟨z, hz⟩ : ∃ z, 2 ^ (k - i - 1) = z + 1 := ⟨2 ^ (k - i - 1) - 1, by omega⟩
    rw [h1, hz, Nat.mul_add, Nat.mul_one, Nat.add_sub_cancel]
    omega
  rw [e, bt_lo (by omega)]
  unfold bt
  have h3 := Nat.two_pow_pos i
  rw [Nat.pow_succ, show 2 ^ i * 2 - 1 = 2 ^ i * 1 + (2 ^ i - 1) by omega, Nat.mul_add_div h3, Nat.div_eq_of_lt (by omega)]
theorem s_spark {p : Nat} [NeZero p] {G : GS} {m n : Nat} {P : Int32 → GS → Prop} (hT : TI G p m n) (hK : ∀ (G1 : GS) (s : Nat), (∀ x, x ≠ 2 → x ≠ 11 → x ≠ 12 → ¬ (38 ≤ x ∧ x < 45) → G1 x = G x) → isSpark m n (colK p G 0 m) s → P (nI s) G1) : wX2_spark G P := by
  have hp := isP_lt hT.1
  obtain ⟨-, ⟨hm0, hm⟩, ⟨hn0, hn⟩, ⟨a0, a1, a2⟩, -, -, -⟩ := id hT
  refine s_ldC (dr := 0) hT (by omega) (fun G1 f1 f2 f3 f4 G2 e2 => ?_)
  rw [kr_0] at f3 f4
  have hmin : (if (G1 1 1) < (G1 1 2) then (G1 1 1) else (G1 1 2)) + (1 : Int32) = nI (min m n + 1) := by
    rw [f1 1 (by omega) (by omega), a1, a2]
    by_cases q : m < n
    · rw [if_pos (nI_lt q (by omega)), z1, Nat.min_eq_left (by omega)]
    · rw [if_neg (nI_nlt (by omega) (by omega)), z1, Nat.min_eq_right (by omega)]
  rw [hmin] at e2
  have g2 : ∀ x, x ≠ 2 → G2 x = G1 x := fun x hx => by rw [e2, wr_ne hx]
  have hn2 : G2 1 2 = nI n := by rw [g2 1 (by omega), f1 1 (by omega) (by omega), a2]
  rw [hn2]
  refine s_sb (TI_inv hT) (h := m) (n := n) hp.1 hp.2 hm hn (colK p G 0 m) 8 0 n 0 [] (fun v => v) (min m n + 1) G2 _ rfl (Nat.le_refl _) (CI_0 (fun c hc i hi => ?_)) True.intro (by rw [Nat.sub_self]; rfl) (by omega) (by omega) (by rw [g2 1 (by omega), f1 1 (by omega) (by omega), a0]) (by rw [e2, wr_sn (by omega), f3]) (by rw [e2, wr_ss]) (fun G3 lb w1 w2 w3 w4 w5 w6 => ?_)
  · rw [g2 38 (by omega)]
    have hr : rw_ 0 m i < m := rw_lt (by rw [kr_0]; exact hi)
    exact ⟨_, (TI_A hT (by omega) (by omega)).1, f4 c i hc hi, rfl⟩
  · rw [w3]
    refine hK G3 lb (fun x b1 b2 b3 b4 => by rw [w1 x b1 b2 b3 (by omega), g2 x b1, f1 x b1 (by omega)]) ⟨by omega, ?_, fun v hv hd => ?_⟩
    · rcases w5 with e | e
      · rcases Nat.lt_or_ge m n with q | q
        · right
          refine ⟨2 ^ (m + 1) - 1, ?_, fun hi => ?_, ?_⟩
          · have := Nat.pow_le_pow_right (show 0 < 2 by omega) (show m + 1 ≤ n by omega)
            have := Nat.two_pow_pos (m + 1)
            omega
          · have h1 := Ind_le (TI_inv hT) hi
            rw [List.length_map, show n = (m + 1) + (n - (m + 1)) by omega, cr_add, List.length_append, cr_full (m + 1) 0 _ (fun i _ h2 => bt_ones (by omega))] at h1
            omega
          · rw [show n = (m + 1) + (n - (m + 1)) by omega, cr_add, List.length_append, cr_full (m + 1) 0 _ (fun i _ h2 => bt_ones (by omega)), cr_no _ _ (fun i h1 h2 => bt_big (b := m + 1) (by have := Nat.two_pow_pos (m + 1); omega) (by omega)), e, Nat.min_eq_left (by omega)]
            rfl
        · left
          rw [e, Nat.min_eq_right q]
      · exact Or.inr e
    · rcases Nat.eq_zero_or_pos v with z | z
      · subst z
        exfalso
        rw [cr_no n 0 (fun i _ _ => bt_0 i)] at hd
        exact hd True.intro
      · exact w6 v (by omega) (by omega) hd
