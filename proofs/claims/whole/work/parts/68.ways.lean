/-! PURE PART: the class's search, whole -/
theorem cr_S {S1 b n : Nat} (hb : b ≤ n) : cr (2 ^ b * S1) 0 n = cr (2 ^ b * S1) b (n - b) := by
  have := cr_low (S1 := S1) (w := 0) (b := b) (n := n) (Nat.two_pow_pos b) hb
  rw [Nat.add_zero, cr_no b 0 (fun i _ _ => bt_0 i), List.nil_append] at this
  exact this
theorem cr_wl {w c b : Nat} (hw : w < 2 ^ c) (hc : c ≤ b) : (cr w 0 b).length ≤ c := by
  rw [show b = c + (b - c) by omega, cr_add, List.length_append, cr_no (b - c) (0 + c) (fun i h1 h2 => bt_big hw (by omega))]
  have := cr_len (v := w) c 0
  simp only [List.length_nil]
  omega
theorem nI_orS {a k : Nat} (b : Nat) (h : a < 2 ^ k) : nI (2 ^ k * b) ||| nI a = nI (2 ^ k * b + a) := by
  rw [Nat.two_pow_add_eq_or_of_lt h]
  apply Int32.toBitVec_inj.mp
  rw [Int32.toBitVec_or]
  show BitVec.ofNat 32 (2 ^ k * b) ||| BitVec.ofNat 32 a = BitVec.ofNat 32 (2 ^ k * b ||| a)
  rw [BitVec.ofNat_or]
theorem s_st {p : Nat} [NeZero p] (inv : hasInv p) {m n h size cap : Nat} (C : Nat → Nat → Fin p) (Y : Nat → Fin p) (hh : h ≤ 6) (hn : n ≤ 12) (hsz : size ≤ 4) (hcap : cap ≤ 2) : ∀ N d b S1 f bd tk (s : Nat × Nat) (G : GS) (P : GS → Prop), d + N = 8 → d ≤ size → b ≤ n → bd ≤ 12 → (d < size → b ≤ bd) → TI G p m n → CI G d h bd C (lst tk d) f → LV G d 12 h (f Y) → STK G h n C Y d b tk → Ind h ((lst tk d).map C) → lst tk d = cr (2 ^ b * S1) b (n - b) → 2 ^ b * S1 + 2 ^ b ≤ 2 ^ n → G 2 5 = nI h → G 2 6 = nI size → G 2 7 = nI cap → G 2 8 = nI s.1 → s.1 < cap → (s.1 ≠ 0 → G 2 9 = nI s.2 ∧ AnsR (G 13) h n C Y s.2) → (∀ G1 : GS, (∀ x, x ≠ 2 → x ≠ 11 → x ≠ 12 → x ≠ 13 → ¬ (38 + d < x ∧ x < 45) → G1 x = G x) → (∀ j, j ≠ 8 → j ≠ 9 → G1 2 j = G 2 j) → (∀ j, j < d → G1 11 j = G 11 j ∧ G1 12 j = G 12 j) → G1 2 8 = nI (scn (Hit h n size C Y) cap (2 ^ b * S1) (2 ^ b) s).1 → ((scn (Hit h n size C Y) cap (2 ^ b * S1) (2 ^ b) s).1 ≠ 0 → G1 2 9 = nI (scn (Hit h n size C Y) cap (2 ^ b * S1) (2 ^ b) s).2 ∧ AnsR (G1 13) h n C Y (scn (Hit h n size C Y) cap (2 ^ b * S1) (2 ^ b) s).2) → P G1) → wX2_seekTelling N (nI d) (nI b) (nI (2 ^ b * S1)) G P := by
  intro N
  induction N with
  | zero => intro d b S1 f bd tk s G P hN hd; omega
  | succ N ih =>
    intro d b S1 f bd tk s G P hN hd hb hbd hbb hT hC hL hS hI hTe hSn h5 h6 h7 h8 hsc hs9 hK
    have hp := isP_lt hT.1
    have hpow : 2 ^ n ≤ 2 ^ 12 := Nat.pow_le_pow_right (by omega) hn
    have crS : cr (2 ^ b * S1) 0 n = lst tk d := by rw [cr_S hb, hTe]
    show wX2_seekTellingB (wX2_seekTelling N) (nI d) (nI b) (nI (2 ^ b * S1)) G P
    unfold wX2_seekTellingB
    have six : (6 : Int32) = nI 6 := rfl
    rw [h6, nI_ltI (by omega) (by omega), six, nI_ltI (by omega) (by omega)]
    refine ⟨fun hds => ⟨fun _ x ex => ?_, fun q => by omega⟩, fun hds => ?_⟩
    · rw [pk_sub (by omega), nI_m1 (by omega)] at ex
      subst ex
      have nohit : ∀ c v, c ≤ size - d - 1 → c ≤ b → 2 ^ b * S1 ≤ v → v < 2 ^ b * S1 + 2 ^ c → ¬ Hit h n size C Y v := by
        intro c v hc hcb h1 h2 hh
        obtain ⟨w, rfl⟩ : ∃ w, v = 2 ^ b * S1 + w := ⟨v - 2 ^ b * S1, by omega⟩
        have hpb := Nat.pow_le_pow_right (show 0 < 2 by omega) hcb
        have hl := hh.1
        rw [cr_low (show w < 2 ^ b by omega) hb, ← hTe, List.length_append, lst_len] at hl
        have := cr_wl (show w < 2 ^ c by omega) hcb
        omega
      have loop : ∀ f2 c (G1 : GS), c + f2 = b → (∀ x, x ≠ 2 → x ≠ 11 → x ≠ 12 → x ≠ 13 → ¬ (38 + d < x ∧ x < 45) → G1 x = G x) → (∀ j, j ≠ 8 → j ≠ 9 → G1 2 j = G 2 j) → (∀ j, j < d → G1 11 j = G 11 j ∧ G1 12 j = G 12 j) → G1 2 8 = nI (scn (Hit h n size C Y) cap (2 ^ b * S1) (2 ^ c) s).1 → ((scn (Hit h n size C Y) cap (2 ^ b * S1) (2 ^ c) s).1 ≠ 0 → G1 2 9 = nI (scn (Hit h n size C Y) cap (2 ^ b * S1) (2 ^ c) s).2 ∧ AnsR (G1 13) h n C Y (scn (Hit h n size C Y) cap (2 ^ b * S1) (2 ^ c) s).2) → wlX2_seekTelling_45 (wX2_seekTelling N) (fun G1 => P G1) (nI d) (nI b) (nI (2 ^ b * S1)) (f2 + 1) (nI c) G1 := by
        intro f2
        induction f2 with
        | zero =>
          intro c G1 hc u1 u2 u3 u4 u5
          have e : c = b := by omega
          subst e
          exact ⟨fun _ => hK G1 u1 u2 u3 u4 u5, fun h => absurd (Int32.le_refl _) h⟩
        | succ f2 ihl =>
          intro c G1 hc u1 u2 u3 u4 u5
          have hcb : c < b := by omega
          have p2c := pow_c hcb
          have p1c := Nat.two_pow_pos c
          have sc := scn_le (Hit h n size C Y) cap (2 ^ c) (2 ^ b * S1) s (by omega)
          have step : scn (Hit h n size C Y) cap (2 ^ b * S1) (2 ^ (c + 1)) s = scn (Hit h n size C Y) cap (2 ^ b * S1 + 2 ^ c) (2 ^ c) (scn (Hit h n size C Y) cap (2 ^ b * S1) (2 ^ c) s) := by
            rw [← scn_add, Nat.pow_succ]; congr 1; omega
          have C1 : CI G1 d h bd C (lst tk d) f := CI_fr (u1 _ (by omega) (by omega) (by omega) (by omega) (by omega)) hC
          have hbd2 := hbb hds
          unfold wlX2_seekTelling_45
          rw [u2 7 (by omega) (by omega), h7, u4, nI_leI (a := cap) (by omega) (by omega), z1]
          refine ⟨fun h => absurd h (nI_ge (by omega) (by omega)), fun _ => ⟨fun q => ?_, fun q => ?_⟩⟩
          · -- enough
            have stop : scn (Hit h n size C Y) cap (2 ^ b * S1) (2 ^ b) s = scn (Hit h n size C Y) cap (2 ^ b * S1) (2 ^ c) s := by
              have e : 2 ^ b = 2 ^ c + (2 ^ b - 2 ^ c) := by omega
              rw [show scn (Hit h n size C Y) cap (2 ^ b * S1) (2 ^ b) s = scn (Hit h n size C Y) cap (2 ^ b * S1) (2 ^ c + (2 ^ b - 2 ^ c)) s by rw [← e], scn_add]
              exact scn_no _ _ _ _ _ (fun v _ _ q2 => by omega)
            exact hK G1 u1 u2 u3 (by rw [stop]; exact u4) (by rw [stop]; exact u5)
          · refine s_iN hp.2 (by omega) (by omega) hh (by rw [u2 5 (by omega) (by omega), h5]) (C1.2.2.2 c (by omega)) (fun hnz => ⟨fun e => absurd rfl e, fun _ => ?_⟩) (fun hz => ⟨fun _ => ?_, fun e => absurd e (by decide)⟩)
            · have hns : ¬ Sp h ((lst tk d).map C) (C c) := fun q2 => hnz ((CI_nz C1).mpr q2)
              have ep := pow_S (S1 := S1) hcb
              have eor : nI (2 ^ b * S1) ||| ((1 : Int32) <<< (nI c &&& (31 : Int32))) = nI (2 ^ c * (2 ^ (b - c) * S1 + 1)) := by
                rw [sh_I (by omega), nI_orS S1 (show 2 ^ c < 2 ^ b by have := Nat.two_pow_pos c; omega), ep]
              have go : ∀ b2, b2 ≤ c → (d + 1 < size → b2 = c) → wX2_takeOut (nI d) (nI c) (nI b2) G1 (fun G30 => wX2_takeOutOf (nI 12) (nI d) (nI c) G30 (fun G38 => wX2_seekTelling N (nI (d + 1)) (nI c) (nI (2 ^ c * (2 ^ (b - c) * S1 + 1))) G38 (fun G77 => wlX2_seekTelling_45 (wX2_seekTelling N) (fun G1 => P G1) (nI d) (nI b) (nI (2 ^ b * S1)) (f2 + 1) (nI (c + 1)) G77))) := by
                intro b2 hb2 hb3
                refine s_take inv (bd := bd) (b2 := b2) hp.1 hp.2 (by omega) (by omega) hbd (by omega) hh (by rw [u1 1 (by omega) (by omega) (by omega) (by omega) (by omega)]; exact hT.2.2.2.1.1) (by rw [u2 5 (by omega) (by omega), h5]) C1 hnz (fun G2 r hr hn2 k1 k2 k3 k4 k5 => ?_)
                refine s_oo (p := p) (g := f (C c)) (g2 := f Y) (r := r) (h := h) hp.1 hp.2 (by omega) (by omega) (by omega) hh hr (by rw [k1 1 (by omega) (by omega) (by omega), u1 1 (by omega) (by omega) (by omega) (by omega) (by omega)]; exact hT.2.2.2.1.1) (by rw [k1 2 (by omega) (by omega) (by omega), u2 5 (by omega) (by omega), h5]) k3 (LV_fr (k1 _ (by omega) (by omega) (by omega)) (C1.2.2.2 c (by omega))) (LV_fr (by rw [k1 _ (by omega) (by omega) (by omega), u1 _ (by omega) (by omega) (by omega) (by omega) (by omega)]) hL) (fun G3 l1 l2 l3 => ?_)
                have fr3 : ∀ x, x ≠ 2 → x ≠ 11 → x ≠ 12 → x ≠ 13 → ¬ (38 + d < x ∧ x < 45) → G3 x = G x := fun x a1 a2 a3 a4 a5 => by rw [l1 x (by omega), k1 x a2 a3 (by omega), u1 x a1 a2 a3 a4 a5]
                have e32 : G3 2 = G1 2 := by rw [l1 2 (by omega), k1 2 (by omega) (by omega) (by omega)]
                have e313 : G3 13 = G1 13 := by rw [l1 13 (by omega), k1 13 (by omega) (by omega) (by omega)]
                have e311 : ∀ j, j ≠ d → G3 11 j = G1 11 j ∧ G3 12 j = G1 12 j := fun j hj => by rw [l1 11 (by omega), l1 12 (by omega)]; exact k4 j hj
                have elst : lst (fun k => if k = d then c else tk k) d = lst tk d := lst_congr d (fun e he => if_neg (by omega))
                have elst2 : lst (fun k => if k = d then c else tk k) (d + 1) = c :: lst tk d := by
                  show (if d = d then c else tk d) :: lst (fun k => if k = d then c else tk k) d = _
                  rw [if_pos rfl, elst]
                refine ih (d + 1) c (2 ^ (b - c) * S1 + 1) (tkF f (C c) r) b2 (fun k => if k = d then c else tk k) (scn (Hit h n size C Y) cap (2 ^ b * S1) (2 ^ c) s) G3 _ (by omega) (by omega) (by omega) (by omega) (fun z => by rw [hb3 z]; exact Nat.le_refl _) (TI_fr (fun x hx => fr3 x (by omega) (by omega) (by omega) (by omega) (by omega)) hT) (by rw [elst2]; exact ⟨k5.1, k5.2.1, k5.2.2.1, fun c2 hc2 i hi => by rw [l2 _ (by omega)]; exact k5.2.2.2 c2 hc2 i hi⟩) l3 (fun e he => ?_) (by rw [elst2]; exact ⟨hI, hns⟩) (by rw [elst2, ep, cr_top hcb hb, hTe]) (by rw [ep]; omega) (by rw [e32, u2 5 (by omega) (by omega), h5]) (by rw [e32, u2 6 (by omega) (by omega), h6]) (by rw [e32, u2 7 (by omega) (by omega), h7]) (by rw [e32, u4]) (by omega) (by rw [e32, e313]; exact u5) (fun G4 w1 w2 w3 w4 w5 => ?_)
                · by_cases ed : e = d
                  · subst ed
                    refine ⟨by dsimp only; rw [if_pos rfl]; exact Nat.le_refl _, f, b, r, ?_, LV_fr (fr3 _ (by omega) (by omega) (by omega) (by omega) (by omega)) hL, by dsimp only; rw [if_pos rfl]; exact hcb, hb, fun k h1 h2 => by omega, hr, by dsimp only; rw [if_pos rfl]; exact hn2, by dsimp only; rw [if_pos rfl, l1 11 (by omega)]; exact k2, by rw [l1 12 (by omega)]; exact k3⟩
                    rw [elst]
                    exact CI_fr (fr3 _ (by omega) (by omega) (by omega) (by omega) (by omega)) ⟨hC.1, hC.2.1, hC.2.2.1, fun c2 hc2 => hC.2.2.2 c2 (by omega)⟩
                  · have hed : e < d := by omega
                    obtain ⟨m1, f9, be, r9, m2, m3, m4, m5, m6, m7, m8, m9, m10⟩ := hS e hed
                    have ee := e311 e ed
                    have ee2 := u3 e hed
                    have te : (if e = d then c else tk e) = tk e := if_neg ed
                    refine ⟨by dsimp only; rw [te]; omega, f9, be, r9, ?_, LV_fr (fr3 _ (by omega) (by omega) (by omega) (by omega) (by omega)) m3, by dsimp only; rw [te]; exact m4, m5, fun k h1 h2 => ?_, m7, by dsimp only; rw [te]; exact m8, by dsimp only; rw [te, ee.1, ee2.1]; exact m9, by rw [ee.2, ee2.2]; exact m10⟩
                    · have : lst (fun k => if k = d then c else tk k) e = lst tk e := lst_congr e (fun e2 he2 => if_neg (by omega))
                      rw [this]
                      exact CI_fr (fr3 _ (by omega) (by omega) (by omega) (by omega) (by omega)) m2
                    · by_cases ek : k = d
                      · dsimp only
                        rw [if_pos ek]
                        omega
                      · dsimp only
                        rw [if_neg ek]
                        exact m6 k h1 (by omega)
                · rw [ep, ← step] at w4 w5
                  refine ihl (c + 1) G4 (by omega) (fun x a1 a2 a3 a4 a5 => by rw [w1 x a1 a2 a3 a4 (by omega), fr3 x a1 a2 a3 a4 a5]) (fun j a1 a2 => by rw [w2 j a1 a2, e32, u2 j a1 a2]) (fun j hj => ?_) w4 w5
                  have x1 := w3 j (by omega)
                  have x2 := e311 j (by omega)
                  have x3 := u3 j hj
                  exact ⟨by rw [x1.1, x2.1, x3.1], by rw [x1.2, x2.2, x3.2]⟩
              unfold wX2_seekTellingWith
              rw [u2 6 (by omega) (by omega), h6, z1, nI_ltI (by omega) (by omega), eor]
              refine ⟨fun z => ⟨fun _ => go c (Nat.le_refl _) (fun _ => rfl), fun z => absurd rfl z⟩, fun z => ⟨fun z => absurd z (by decide), fun _ => go 0 (Nat.zero_le _) (fun z2 => absurd z2 z)⟩⟩
            · -- a bound column: no hit with it
              have hsp := (CI_nz C1).mp hz
              have same : scn (Hit h n size C Y) cap (2 ^ b * S1) (2 ^ (c + 1)) s = scn (Hit h n size C Y) cap (2 ^ b * S1) (2 ^ c) s := by
                rw [step]
                refine scn_no _ _ _ _ _ (fun v h1 h2 _ hhit => ?_)
                obtain ⟨w, rfl⟩ : ∃ w, v = 2 ^ b * S1 + 2 ^ c + w := ⟨v - (2 ^ b * S1 + 2 ^ c), by omega⟩
                have hi2 := hhit.2.1
                rw [← pow_S hcb, cr_low (show w < 2 ^ c by omega) (by omega), pow_S hcb, cr_top hcb hb, ← hTe, List.map_append] at hi2
                exact (Ind_tail hi2).2 hsp
              exact ihl (c + 1) G1 (by omega) u1 u2 u3 (by rw [same]; exact u4) (by rw [same]; exact u5)
      rcases Nat.lt_or_ge (size - d - 1) b with q | q
      · have e0 : scn (Hit h n size C Y) cap (2 ^ b * S1) (2 ^ (size - d - 1)) s = s := scn_no _ _ _ _ _ (fun v h1 h2 _ => nohit (size - d - 1) v (Nat.le_refl _) (by omega) h1 h2)
        exact ⟨b - (size - d - 1) + 1, loop (b - (size - d - 1)) (size - d - 1) G (by omega) (fun _ _ _ _ _ _ => rfl) (fun _ _ _ => rfl) (fun _ _ => ⟨rfl, rfl⟩) (by rw [e0]; exact h8) (by rw [e0]; exact hs9)⟩
      · have e0 : scn (Hit h n size C Y) cap (2 ^ b * S1) (2 ^ b) s = s := scn_no _ _ _ _ _ (fun v h1 h2 _ => nohit b v q (Nat.le_refl _) h1 h2)
        exact ⟨1, fun _ => hK G (fun _ _ _ _ _ _ => rfl) (fun _ _ _ => rfl) (fun _ _ => ⟨rfl, rfl⟩) (by rw [e0]; exact h8) (by rw [e0]; exact hs9), fun z => absurd (nI_le q (by omega)) z⟩
    · -- the set is full
      have ed : d = size := by omega
      have p1 := Nat.two_pow_pos b
      have rest : ∀ s2 : Nat × Nat, scn (Hit h n size C Y) cap (2 ^ b * S1 + 1) (2 ^ b - 1) s2 = s2 := fun s2 => scn_no _ _ _ _ _ (fun v h1 h2 _ hhit => by
        obtain ⟨c, w, -, -, -, e⟩ := cr_more hb (show 2 ^ b * S1 < v by omega) (by omega)
        have hl := hhit.1
        rw [e, ← hTe, List.length_append, List.length_cons, lst_len] at hl
        omega)
      have split : scn (Hit h n size C Y) cap (2 ^ b * S1) (2 ^ b) s = scn (Hit h n size C Y) cap (2 ^ b * S1) 1 s := by
        have e : 2 ^ b = 1 + (2 ^ b - 1) := by omega
        rw [show scn (Hit h n size C Y) cap (2 ^ b * S1) (2 ^ b) s = scn (Hit h n size C Y) cap (2 ^ b * S1) (1 + (2 ^ b - 1)) s by rw [← e], scn_add, rest]
      have e12 : (12 : Int32) = nI 12 := rfl
      rw [e12]
      refine s_iN hp.2 (by omega) (by omega) hh h5 hL (fun hnz => ⟨fun _ => ?_, fun e => absurd rfl e⟩) (fun hz => ⟨fun e => absurd e (by decide), fun _ => ?_⟩)
      · have hno : scn (Hit h n size C Y) cap (2 ^ b * S1) (2 ^ b) s = s := by
          rw [split]
          refine scn_no _ _ _ _ _ (fun v h1 h2 _ hhit => hnz ((hC.2.2.1 _).mp ?_))
          have ev : v = 2 ^ b * S1 := by omega
          rw [ev] at hhit
          have := hhit.2.2
          rw [crS] at this
          exact this
        exact hK G (fun _ _ _ _ _ _ => rfl) (fun _ _ _ => rfl) (fun _ _ => ⟨rfl, rfl⟩) (by rw [hno]; exact h8) (by rw [hno]; exact hs9)
      · have hsp := (hC.2.2.1 _).mpr hz
        have hhit : Hit h n size C Y (2 ^ b * S1) := ⟨by rw [crS, lst_len, ed], by rw [crS]; exact hI, by rw [crS]; exact hsp⟩
        have hsc2 := scn_hit hsc hhit
        subst ed
        refine s_note hT hh hn hsz h6 h8 (by omega) hS crS hhit.2.2 (fun G1 g1 g2 g3 g4 g5 => ?_)
        refine hK G1 (fun x a1 a2 a3 a4 a5 => g1 x a1 a4) g2 (fun j hj => ⟨by rw [g1 11 (by omega) (by omega)], by rw [g1 12 (by omega) (by omega)]⟩) (by rw [split, hsc2]; exact g3) (fun _ => ?_)
        rw [split, hsc2]
        by_cases e0 : s.1 = 0
        · rw [if_pos e0]; exact g4 e0
        · rw [if_neg e0, (g5 e0).1, (g5 e0).2]
          exact hs9 e0
def sumK (p : Nat) [NeZero p] (G : GS) (dr m y : Nat) (k : Nat) : Fin p := fK p (cS G y (rw_ dr m k))
theorem s_ways {p : Nat} [NeZero p] {G : GS} {m n dr y size cap : Nat} {P : Int32 → GS → Prop} (hT : TI G p m n) (hS : SI G p m) (hdr : dr < 2 ^ 31) (hy : y < 6) (hsz : size ≤ 4) (hc0 : 1 ≤ cap) (hcap : cap ≤ 2) (hK : ∀ G1 : GS, (∀ x, x ≠ 2 → x ≠ 11 → x ≠ 12 → x ≠ 13 → ¬ (38 ≤ x ∧ x < 45) → G1 x = G x) → ((scn (Hit (kr dr m).length n size (colK p G dr m) (sumK p G dr m y)) cap 0 (2 ^ n) (0, 0)).1 ≠ 0 → G1 2 9 = nI (scn (Hit (kr dr m).length n size (colK p G dr m) (sumK p G dr m y)) cap 0 (2 ^ n) (0, 0)).2 ∧ AnsR (G1 13) (kr dr m).length n (colK p G dr m) (sumK p G dr m y) (scn (Hit (kr dr m).length n size (colK p G dr m) (sumK p G dr m y)) cap 0 (2 ^ n) (0, 0)).2) → P (nI (scn (Hit (kr dr m).length n size (colK p G dr m) (sumK p G dr m y)) cap 0 (2 ^ n) (0, 0)).1) G1) : wX2_waysToTell (26 + y) (nI dr) (nI size) (nI cap) G P := by
  have hp := isP_lt hT.1
  obtain ⟨-, ⟨hm0, hm⟩, ⟨hn0, hn⟩, ⟨a0, a1, a2⟩, -, -, -⟩ := id hT
  have hl := kr_len (dr := dr) m
  refine s_ldC hT hdr (fun G1 f1 f2 f3 f4 => ?_)
  have hcS : ∀ i, cS G1 y i = cS G y i := fun i => by unfold cS; rw [f1 _ (by omega) (by omega)]
  refine s_ldS (m := m) hm hdr hy (by rw [f1 1 (by omega) (by omega), a1]) (fun i hi => by rw [hcS, f1 _ (by omega) (by omega)]; exact (SI_A hp.2 hS hy (by omega)).2.1) (fun G2 g1 g2 g3 G3 e3 G4 e4 G5 e5 => ?_)
  have fr : ∀ x, x ≠ 2 → x ≠ 38 → G5 x = G x := fun x a b => by rw [e5, wr_ne a, e4, wr_ne a, e3, wr_ne a, g1 x b, f1 x a b]
  have e538 : G5 38 = G2 38 := by rw [e5, wr_ne (by omega), e4, wr_ne (by omega), e3, wr_ne (by omega)]
  have f25 : G5 2 5 = nI (kr dr m).length := by rw [e5, wr_sn (by omega), e4, wr_sn (by omega), e3, wr_sn (by omega), g1 2 (by omega), f3]
  have f26 : G5 2 6 = nI size := by rw [e5, wr_sn (by omega), e4, wr_sn (by omega), e3, wr_ss]
  have f27 : G5 2 7 = nI cap := by rw [e5, wr_sn (by omega), e4, wr_ss]
  have f28 : G5 2 8 = nI 0 := by rw [e5, wr_ss]; rfl
  have hT5 : TI G5 p m n := TI_fr (fun c hc => fr c (by omega) (by omega)) hT
  rw [fr 1 (by omega) (by omega), a2]
  refine s_st (TI_inv hT) (m := m) (n := n) (h := (kr dr m).length) (size := size) (cap := cap) (colK p G dr m) (sumK p G dr m y) (by omega) hn hsz hcap 8 0 n 0 (fun v => v) n (fun _ => 0) (0, 0) G5 _ rfl (Nat.zero_le _) (Nat.le_refl _) hn (fun _ => Nat.le_refl _) hT5 (CI_0 (fun c hc i hi => ?_)) (fun i hi => ?_) (fun e he => absurd he (Nat.not_lt_zero _)) True.intro (by rw [Nat.sub_self]; rfl) (by omega) f25 f26 f27 f28 (by omega) (fun q => absurd rfl q) (fun G6 w1 w2 w3 w4 w5 => ?_)
  · have hr : rw_ dr m i < m := rw_lt hi
    refine ⟨cA G (rw_ dr m i) c, (TI_A hT (by omega) (by omega)).1, ?_, rfl⟩
    rw [show 38 + 0 = 38 from rfl, e538, g3 _ (by omega), f4 c i hc hi]
  · have hr : rw_ dr m i < m := rw_lt hi
    refine ⟨cS G y (rw_ dr m i), (SI_A hp.2 hS hy (by omega)).1, ?_, rfl⟩
    rw [show 38 + 0 = 38 from rfl, e538, show 6 * 12 + i = 72 + i by omega, g2 i hi, hcS]
  · rw [Nat.mul_zero] at w4 w5
    rw [w4]
    exact hK G6 (fun x b1 b2 b3 b4 b5 => by rw [w1 x b1 b2 b3 b4 (by omega), fr x b1 (by omega)]) w5
