/-! PURE PART: the model's solves -/
def Svh {p : Nat} [NeZero p] (h n : Nat) (C : Nat → Nat → Fin p) (Y : Nat → Fin p) (v : Nat) : Prop := Ind h ((cr v 0 n).map C) ∧ ∃ x : Nat → Fin p, Sol h C x (cr v 0 n) Y ∧ ∀ c, c ∈ cr v 0 n → x c ≠ 0
theorem cr_idx {v c n : Nat} (hb : bt v c = 1) (hc : c < n) : (cr v 0 c).length < (cr v 0 n).length ∧ gc v n (cr v 0 c).length = c := by
  have : ∀ j, c + 1 + j ≤ n → (cr v 0 c).length < (cr v 0 (c + 1 + j)).length ∧ gc v (c + 1 + j) (cr v 0 c).length = c := by
    intro j
    induction j with
    | zero =>
      intro _
      refine ⟨?_, gc_new hb⟩
      show (cr v 0 c).length < (cr v 0 (c + 1)).length
      rw [cr_s1 hb, List.length_append]
      simp only [List.length_cons, List.length_nil]
      omega
    | succ j ih =>
      intro hj
      obtain ⟨h1, h2⟩ := ih (by omega)
      refine ⟨?_, ?_⟩
      · show (cr v 0 c).length < (cr v 0 (c + 1 + j + 1)).length
        by_cases e : bt v (c + 1 + j) = 1
        · rw [cr_s1 e, List.length_append]; omega
        · rw [cr_s0 e]; exact h1
      · show gc v (c + 1 + j + 1) (cr v 0 c).length = c
        rw [gc_old h1]; exact h2
  have := this (n - (c + 1)) (by omega)
  rw [show c + 1 + (n - (c + 1)) = n by omega] at this
  exact this
theorem s_solves {p : Nat} [NeZero p] {G : GS} {m n v dr y : Nat} {P : Int32 → GS → Prop} (hT : TI G p m n) (hS : SI G p m) (hdr : dr < 2 ^ 31) (hv : v < 2 ^ n) (hy : y < 6) (hK1 : ∀ G1 : GS, (∀ c, c ≠ 52 → c ≠ 53 → G1 c = G c) → Svh (kr dr m).length n (colK p G dr m) (sumK p G dr m y) v → AnsR (G1 53) (kr dr m).length n (colK p G dr m) (sumK p G dr m y) v → P 1 G1) (hK0 : ∀ G1 : GS, (∀ c, c ≠ 52 → c ≠ 53 → G1 c = G c) → ¬ Svh (kr dr m).length n (colK p G dr m) (sumK p G dr m y) v → P 0 G1) : wX6_solves (nI v) (nI dr) (nI y) G P := by
  have hp := isP_lt hT.1
  obtain ⟨-, ⟨hm0, hm⟩, ⟨hn0, hn⟩, -, ⟨b0, b1, b2⟩, -, hv9⟩ := id hT
  have hpow : 2 ^ n ≤ 2 ^ 12 := Nat.pow_le_pow_right (by omega) hn
  have hl := kr_len (dr := dr) m
  have hcl := cr_len (v := v) n 0
  have inv := TI_inv hT
  have map_e : (List.range (cr v 0 n).length).map (fun k => colK p G dr m (gc v n k)) = (cr v 0 n).map (colK p G dr m) := map_cs (colK p G dr m) (cr v 0 n)
  refine s_bits (by omega) ?_
  rw [cr_12 hv hn]
  refine s_clears (yv := cS G y) hT hdr hv (Or.inl ⟨y, hy, rfl, fun i hi => (SI_A hp.2 hS hy (by omega)).2.2.1⟩) (fun i hi => (SI_A hp.2 hS hy (by omega)).1) (fun G1 r f f1 f2 f3 f4 => ?_) (fun G1 r f f1 f2 f3 => ?_)
  · have hr := f2.2.1
    rw [nI_eq (by omega) (by omega)]
    refine ⟨fun e => ?_, fun e => hK0 G1 (fun c a _ => f1 c a) (fun q => e ((Elm_mask inv f2).mpr q.1))⟩
    subst e
    have hInd := (Elm_mask inv f2).mp rfl
    have hSp : Sp (kr dr m).length ((cr v 0 n).map (colK p G dr m)) (sumK p G dr m y) := by
      rw [← map_e]
      exact (Elm_Sp f2 _).mpr f4
    obtain ⟨x, hx⟩ := Sp_Sol (cr_nodup n 0) hSp
    have hxf := Elm_Sol (cs := cr v 0 n) (cr_nodup n 0) f2 hx
    -- the value of a column
    have hval : ∀ c, c < n → bt v c = 1 → ∃ t, t < p ∧ G1 52 (13 * (cr v 0 c).length + 12) = nI t ∧ fK p t = x c := by
      intro c hc hb
      obtain ⟨i1, i2⟩ := cr_idx hb hc
      obtain ⟨t, t1, t2, t3⟩ := f3 (cr v 0 c).length (by have := f2.2.2.1; omega)
      refine ⟨t, t1, t2, ?_⟩
      rw [t3]
      exact (hxf _ i1).symm.trans (congrArg x i2)
    have key : ∀ k j fl (G2 : GS) (z : Nat → Nat), j + k = 12 → (fl = 0 ∨ fl = 1) → (∀ c, c ≠ 53 → G2 c = G1 c) → (∀ c, c < j → z c < p ∧ G2 53 c = nI (z c)) → (∀ c, c < j → c ∉ cr v 0 n → z c = 0) → (∀ c, c < j → c ∈ cr v 0 n → fK p (z c) = x c) → (fl = 1 → ∀ c, c < j → c ∈ cr v 0 n → x c ≠ 0) → (fl = 0 → ∃ c, c ∈ cr v 0 n ∧ x c = 0) → wlX6_solves_29 (fun x6 G1 => (vb x6 ∧ P x6 G1)) (nI v) (k + 1) (nI (cr v 0 j).length) (nI fl) (nI j) G2 := by
      intro k
      induction k with
      | zero =>
        intro j fl G2 z hj hfl g1 g2 g3 g4 g5 g6
        have e : j = 12 := by omega
        subst e
        have fr : ∀ c, c ≠ 52 → c ≠ 53 → G2 c = G c := fun c a b => by rw [g1 c b, f1 c a]
        refine ⟨fun _ => ?_, fun h => absurd (Int32.le_refl _) h⟩
        have m12 : ∀ c, c ∈ cr v 0 n → c < 12 := fun c hc => by have := (cr_mem n 0 c).mp hc; omega
        rcases hfl with e | e
        · subst e
          refine ⟨Or.inl rfl, hK0 G2 fr (fun q => ?_)⟩
          obtain ⟨c, c1, c2⟩ := g6 rfl
          obtain ⟨q1, x2, q2, q3⟩ := q
          exact q3 c c1 (by rw [← Sol_uniq inv hInd hx q2 c c1]; exact c2)
        · subst e
          refine ⟨Or.inr rfl, hK1 G2 fr ⟨hInd, x, hx, fun c hc => g5 rfl c (m12 c hc) hc⟩ ⟨z, g2, g3, ?_⟩⟩
          exact Sol_congr (fun _ _ => rfl) (fun c hc => (g4 c (m12 c hc) hc).symm) hx
      | succ k ih =>
        intro j fl G2 z hj hfl g1 g2 g3 g4 g5 g6
        have hcj := cr_len (v := v) j 0
        have e12 : (12 : Int32) = nI 12 := rfl
        have fl2 : fl < 2 := by omega
        unfold wlX6_solves_29
        rw [bt_I (by omega) (by omega), nI1 (by have := bt_lt v j; omega), z1, zc (by omega), z1]
        have hcl12 : (12 : Int32) ≤ nI j ↔ 12 ≤ j := nI_leI (a := 12) (by omega) (by omega)
        refine ⟨fun h => absurd (hcl12.mp h) (by omega), fun _ => ⟨vp_in_nI (by omega) (by omega), fun G3 e3 => ⟨fun hb => ?_, fun hb => ?_⟩⟩⟩
        · have hnin : j ∉ cr v 0 n := fun q => hb ((cr_mem n 0 j).mp q).2.2
          have := ih (j + 1) fl G3 (fun c => if c = j then 0 else z c) (by omega) hfl (fun c hc => by rw [e3, wr_ne hc, g1 c hc]) (fun c hc => ?_) (fun c hc hn2 => ?_) (fun c hc hm2 => ?_) (fun e c hc hm2 => ?_) g6
          · rw [cr_s0 hb] at this; exact this
          · try dsimp only
            by_cases e : c = j
            · rw [if_pos e, e, e3, wr_ss]; exact ⟨by omega, rfl⟩
            · rw [if_neg e, e3, wr_sn e]; exact g2 c (by omega)
          · try dsimp only
            by_cases e : c = j
            · rw [if_pos e]
            · rw [if_neg e]; exact g3 c (by omega) hn2
          · try dsimp only
            have e : c ≠ j := fun e => hnin (e ▸ hm2)
            rw [if_neg e]; exact g4 c (by omega) hm2
          · have e2 : c ≠ j := fun e => hnin (e ▸ hm2)
            exact g5 e c (by omega) hm2
        · have hjn : j < n := by
            rcases Nat.lt_or_ge j n with q | q
            · exact q
            · rw [bt_big hv q] at hb; omega
          have hin : j ∈ cr v 0 n := (cr_mem n 0 j).mpr ⟨by omega, by omega, hb⟩
          obtain ⟨t, t1, t2, t3⟩ := hval j hjn hb
          have hlen : (cr v 0 (j + 1)).length = (cr v 0 j).length + 1 := by rw [cr_s1 hb, List.length_append]; rfl
          obtain ⟨i1, -⟩ := cr_idx hb hjn
          have hh6 := f2.2.2.1
          rw [e12, i13, zc (by omega)]
          refine ⟨vp_in_nI (by omega) (by omega), vp_in_nI (by omega) (by omega), fun G4 e4 => ?_⟩
          have h52 : G3 52 = G1 52 := by rw [e3, wr_ne (by omega), g1 52 (by omega)]
          rw [h52, t2] at e4
          have h4j : G4 53 j = nI t := by rw [e4, wr_ss]
          have goto : ∀ fl2, (fl2 = 0 ∨ fl2 = 1) → (fl2 = 1 → (∀ c, c < j → c ∈ cr v 0 n → x c ≠ 0) ∧ x j ≠ 0) → (fl2 = 0 → ∃ c, c ∈ cr v 0 n ∧ x c = 0) → wlX6_solves_29 (fun x6 G1 => (vb x6 ∧ P x6 G1)) (nI v) (k + 1) (nI ((cr v 0 j).length + 1)) (nI fl2) (nI (j + 1)) G4 := by
            intro fl2 hf1 hf2 hf3
            have := ih (j + 1) fl2 G4 (fun c => if c = j then t else z c) (by omega) hf1 (fun c hc => by rw [e4, wr_ne hc, e3, wr_ne hc, g1 c hc]) (fun c hc => ?_) (fun c hc hn2 => ?_) (fun c hc hm2 => ?_) (fun e c hc hm2 => ?_) hf3
            · rw [hlen] at this; exact this
            · try dsimp only
              by_cases e : c = j
              · rw [if_pos e, e]; exact ⟨t1, h4j⟩
              · rw [if_neg e, e4, wr_sn e, e3, wr_sn e]; exact g2 c (by omega)
            · try dsimp only
              have e : c ≠ j := fun e => hn2 (e ▸ hin)
              rw [if_neg e]; exact g3 c (by omega) hn2
            · try dsimp only
              by_cases e : c = j
              · rw [if_pos e, e]; exact t3
              · rw [if_neg e]; exact g4 c (by omega) hm2
            · by_cases ec : c = j
              · rw [ec]; exact (hf2 e).2
              · exact (hf2 e).1 c (by omega) hm2
          rw [h4j, z_ne0 (by omega), z_ne0 (by omega)]
          refine ⟨fun e => goto 0 (Or.inl rfl) (fun q => by omega) (fun _ => g6 e), fun e => ⟨vp_in_nI (by omega) (by omega), fun et => goto 0 (Or.inl rfl) (fun q => by omega) (fun _ => ⟨j, hin, by rw [← t3, et]; rfl⟩), fun et => goto 1 (Or.inr rfl) (fun _ => ⟨g5 (by omega), fun q => et ((fK_z t1).mp (t3.trans q))⟩) (fun q => by omega)⟩⟩
    exact ⟨13, key 12 0 1 G1 (fun _ => 0) (by omega) (Or.inr rfl) (fun _ _ => rfl) (fun c hc => by omega) (fun c hc => by omega) (fun c hc => by omega) (fun _ c hc => by omega) (fun q => by omega)⟩
  · have hne : ¬ (-1 : Int32) = nI (cr v 0 n).length := fun e => by
      have := nI_pos' (n := (cr v 0 n).length) (by omega)
      rw [← e] at this
      exact absurd this (by decide)
    refine ⟨fun e => absurd e hne, fun _ => hK0 G1 (fun c a _ => f1 c a) (fun q => f3 ?_)⟩
    have hr := (Elm_mask inv f2).mpr q.1
    subst hr
    obtain ⟨q1, x, q2, q3⟩ := q
    have := Sol_Sp q2
    rw [← map_e] at this
    exact (Elm_Sp f2 _).mp this
/-- a column less -/
theorem bt_del {v c : Nat} (hb : bt v c = 1) : ∃ u, u < v ∧ bt u c = 0 ∧ ∀ i, i ≠ c → bt u i = bt v i := by
  have p1 := Nat.two_pow_pos c
  have e1 : v = 2 ^ (c + 1) * (v / 2 ^ (c + 1)) + (2 ^ c + v % 2 ^ c) := by
    have h1 := Nat.div_add_mod v (2 ^ c)
    have h2 := Nat.div_add_mod (v / 2 ^ c) 2
    unfold bt at hb
    rw [hb] at h2
    rw [Nat.div_div_eq_div_mul, ← Nat.pow_succ] at h2
    have h3 : 2 ^ c * (v / 2 ^ c) = 2 ^ (c + 1) * (v / 2 ^ (c + 1)) + 2 ^ c := by
      conv => lhs; rw [← h2]
      rw [Nat.mul_add, Nat.mul_one, ← Nat.mul_assoc, ← Nat.pow_succ]
    omega
  have hw : v % 2 ^ c < 2 ^ c := Nat.mod_lt _ p1
  have hw1 : 2 ^ c + v % 2 ^ c < 2 ^ (c + 1) := by rw [Nat.pow_succ]; omega
  have hw2 : v % 2 ^ c < 2 ^ (c + 1) := by omega
  refine ⟨2 ^ (c + 1) * (v / 2 ^ (c + 1)) + v % 2 ^ c, by omega, ?_, fun i hi => ?_⟩
  · rw [bt_lo (by omega), bt_big hw (Nat.le_refl _)]
  · rcases Nat.lt_or_ge i (c + 1) with q | q
    · have q2 : i < c := by omega
      rw [bt_lo (by omega)]
      conv => rhs; rw [e1]
      rw [bt_lo (by omega)]
      have := bt_lo (S1 := 1) (w := v % 2 ^ c) (b := c) q2
      rw [Nat.mul_one] at this
      exact this.symm
    · rw [bt_hi hw2 q]
      conv => rhs; rw [e1]
      rw [bt_hi hw1 q]
theorem cr_del {u v c : Nat} (hb : bt v c = 1) (h0 : bt u c = 0) (hi : ∀ i, i ≠ c → bt u i = bt v i) : ∀ k a, cr u a k = (cr v a k).erase c
  | 0, _ => rfl
  | k + 1, a => by
    show (if bt u a = 1 then a :: cr u (a + 1) k else cr u (a + 1) k) = (if bt v a = 1 then a :: cr v (a + 1) k else cr v (a + 1) k).erase c
    by_cases e : a = c
    · subst e
      rw [if_neg (by omega), if_pos hb, List.erase_cons_head]
      exact cr_congr k (a + 1) (fun i h1 _ => hi i (by omega))
    · rw [hi a e]
      by_cases e2 : bt v a = 1
      · rw [if_pos e2, if_pos e2, List.erase_cons_tail (by simpa using e), cr_del hb h0 hi k (a + 1)]
      · rw [if_neg e2, if_neg e2, cr_del hb h0 hi k (a + 1)]
/-- with no hit of lesser weight, no factor is nought -/
theorem hit_sv {p : Nat} [NeZero p] {h n size v : Nat} {C : Nat → Nat → Fin p} {Y : Nat → Fin p} (hno : ∀ s, s < size → ∀ u, u < 2 ^ n → ¬ Hit h n s C Y u) (hv : v < 2 ^ n) : Hit h n size C Y v ↔ ((cr v 0 n).length = size ∧ Svh h n C Y v) := by
  constructor
  · rintro ⟨h1, h2, h3⟩
    obtain ⟨x, hx⟩ := Sp_Sol (cr_nodup n 0) h3
    refine ⟨h1, h2, x, hx, fun c hc e => ?_⟩
    have hb := ((cr_mem n 0 c).mp hc).2.2
    obtain ⟨u, u1, u2, u3⟩ := bt_del hb
    have e2 := cr_del hb u2 u3 n 0
    have hlen : (cr u 0 n).length = size - 1 := by rw [e2, List.length_erase_of_mem hc, h1]
    have hpos : 0 < size := by rw [← h1]; exact List.length_pos_of_mem hc
    refine hno (size - 1) (by omega) u (by omega) ⟨hlen, ?_, ?_⟩
    · rw [e2]
      exact Ind_sub (List.Sublist.map C (List.erase_sublist)) h2
    · rw [e2]
      exact Sol_Sp (Sol_drop e hx)
  · rintro ⟨h1, h2, x, hx, -⟩
    exact ⟨h1, h2, Sol_Sp hx⟩
theorem scn_miss {H : Nat → Prop} {cap lo : Nat} {s : Nat × Nat} (q : ¬ (s.1 < cap ∧ H lo)) : scn H cap lo 1 s = s := (@scan_one H (fun v => Classical.propDecidable (H v)) cap lo s).trans (if_neg q)
theorem scn_ext {H H' : Nat → Prop} {cap : Nat} : ∀ k lo s, (∀ v, lo ≤ v → v < lo + k → (H v ↔ H' v)) → scn H cap lo k s = scn H' cap lo k s
  | 0, _, _, _ => rfl
  | k + 1, lo, s, h => by
    rw [show k + 1 = 1 + k by omega, scn_add, scn_add]
    have hl := h lo (Nat.le_refl _) (by omega)
    have e : scn H cap lo 1 s = scn H' cap lo 1 s := by
      by_cases q : s.1 < cap ∧ H lo
      · rw [scn_hit q.1 q.2, scn_hit q.1 (hl.mp q.2)]
      · rw [scn_miss q, scn_miss (fun q2 => q ⟨q2.1, hl.mpr q2.2⟩)]
    rw [e]
    exact scn_ext k (lo + 1) _ (fun v h1 h2 => h v (by omega) (by omega))
theorem scn_cap {H : Nat → Prop} {cap : Nat} (hcap : 2 ≤ cap) : ∀ k lo (s : Nat × Nat), s.1 + k ≤ cap → (scn H 2 lo k (min 2 s.1, s.2)).1 = min 2 (scn H cap lo k s).1 ∧ ((scn H cap lo k s).1 ≠ 0 → (scn H 2 lo k (min 2 s.1, s.2)).2 = (scn H cap lo k s).2)
  | 0, _, s, _ => ⟨rfl, fun _ => rfl⟩
  | k + 1, lo, s, h => by
    have a1 := scn_add H 2 1 lo k (min 2 s.1, s.2)
    have a2 := scn_add H cap 1 lo k s
    rw [show 1 + k = k + 1 by omega] at a1 a2
    rw [a1, a2]
    by_cases q : H lo
    · have b2 : scn H cap lo 1 s = (s.1 + 1, if s.1 = 0 then lo else s.2) := scn_hit (by omega) q
      rw [b2]
      have ih := scn_cap (H := H) hcap k (lo + 1) (s.1 + 1, if s.1 = 0 then lo else s.2) (by show s.1 + 1 + k ≤ cap; omega)
      by_cases q2 : s.1 < 2
      · have hm : min 2 s.1 = s.1 := by omega
        have hm2 : min 2 (s.1 + 1) = s.1 + 1 := by omega
        have b1 : scn H 2 lo 1 (min 2 s.1, s.2) = (s.1 + 1, if s.1 = 0 then lo else s.2) := by
          rw [hm]
          exact scn_hit (H := H) (cap := 2) (s := (s.1, s.2)) q2 q
        rw [b1]
        have ih2 := ih
        dsimp only at ih2
        rw [hm2] at ih2
        exact ih2
      · have b1 : scn H 2 lo 1 (min 2 s.1, s.2) = (min 2 s.1, s.2) := scn_miss (fun z => by have : min 2 s.1 < 2 := z.1; omega)
        rw [b1]
        have hm : min 2 s.1 = min 2 (s.1 + 1) := by omega
        have e0 : (if s.1 = 0 then lo else s.2) = s.2 := if_neg (by omega)
        rw [e0] at ih ⊢
        rw [hm]
        exact ih
    · rw [scn_miss (s := s) (fun z => q z.2), scn_miss (s := (min 2 s.1, s.2)) (fun z => q z.2)]
      exact scn_cap hcap k (lo + 1) s (by omega)
theorem scn_zero {H : Nat → Prop} {cap k : Nat} (hcap : 1 ≤ cap) (h : (scn H cap 0 k (0, 0)).1 = 0) : ∀ v, v < k → ¬ H v := by
  intro v hv hH
  have a1 := scn_add H cap v 0 (1 + (k - v - 1)) (0, 0)
  have a2 := scn_add H cap 1 (0 + v) (k - v - 1) (scn H cap 0 v (0, 0))
  rw [show v + (1 + (k - v - 1)) = k by omega] at a1
  rw [a1, a2] at h
  have h1 := scn_le H cap v 0 (0, 0) (Nat.zero_le _)
  have hH2 : H (0 + v) := by rw [Nat.zero_add]; exact hH
  generalize scn H cap 0 v (0, 0) = s at h h1
  by_cases q : s.1 < cap
  · rw [scn_hit q hH2] at h
    have := (scn_le H cap (k - v - 1) (0 + v + 1) (s.1 + 1, if s.1 = 0 then 0 + v else s.2) (by show s.1 + 1 ≤ cap; omega)).1
    have h3 : s.1 + 1 ≤ (scn H cap (0 + v + 1) (k - v - 1) (s.1 + 1, if s.1 = 0 then 0 + v else s.2)).1 := this
    omega
  · rw [scn_miss (fun z => q z.1)] at h
    have := (scn_le H cap (k - v - 1) (0 + v + 1) s h1.2).1
    omega
/-- the first hit is one -/
theorem scn_fst {H : Nat → Prop} {cap : Nat} : ∀ k lo (s : Nat × Nat), (s.1 ≠ 0 → H s.2) → (scn H cap lo k s).1 ≠ 0 → H (scn H cap lo k s).2
  | 0, _, _, h, h1 => h h1
  | k + 1, lo, s, h, h1 => by
    have a1 := scn_add H cap 1 lo k s
    rw [show 1 + k = k + 1 by omega] at a1
    rw [a1] at h1 ⊢
    refine scn_fst k (lo + 1) _ (fun q => ?_) h1
    by_cases z : s.1 < cap ∧ H lo
    · rw [scn_hit z.1 z.2]
      dsimp only
      by_cases e : s.1 = 0
      · rw [if_pos e]; exact z.2
      · rw [if_neg e]; exact h e
    · rw [scn_miss z] at q ⊢
      exact h q
