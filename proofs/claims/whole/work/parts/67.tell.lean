/-! PURE PART: the class's search for a row that tells -/
noncomputable def scn (H : Nat → Prop) (cap lo k : Nat) (s : Nat × Nat) : Nat × Nat := @scan H (fun v => Classical.propDecidable (H v)) cap lo k s
theorem scn_add (H : Nat → Prop) (cap a lo b : Nat) (s : Nat × Nat) : scn H cap lo (a + b) s = scn H cap (lo + a) b (scn H cap lo a s) := @scan_add H (fun v => Classical.propDecidable (H v)) cap a lo b s
theorem scn_no (H : Nat → Prop) (cap k lo : Nat) (s : Nat × Nat) (h : ∀ v, lo ≤ v → v < lo + k → s.1 < cap → ¬ H v) : scn H cap lo k s = s := @scan_no H (fun v => Classical.propDecidable (H v)) cap k lo s h
theorem scn_le (H : Nat → Prop) (cap k lo : Nat) (s : Nat × Nat) (h : s.1 ≤ cap) : s.1 ≤ (scn H cap lo k s).1 ∧ (scn H cap lo k s).1 ≤ cap := @scan_le H (fun v => Classical.propDecidable (H v)) cap k lo s h
theorem scn_hit {H : Nat → Prop} {cap lo : Nat} {s : Nat × Nat} (h1 : s.1 < cap) (h2 : H lo) : scn H cap lo 1 s = (s.1 + 1, if s.1 = 0 then lo else s.2) := by
  exact (@scan_one H (fun v => Classical.propDecidable (H v)) cap lo s).trans (if_pos ⟨h1, h2⟩)
def Hit {p : Nat} [NeZero p] (h n size : Nat) (C : Nat → Nat → Fin p) (Y : Nat → Fin p) (v : Nat) : Prop := (cr v 0 n).length = size ∧ Ind h ((cr v 0 n).map C) ∧ Sp h ((cr v 0 n).map C) Y
def AnsR {p : Nat} [NeZero p] (F : Nat → Int32) (h n : Nat) (C : Nat → Nat → Fin p) (Y : Nat → Fin p) (v : Nat) : Prop := ∃ x : Nat → Nat, (∀ c, c < 12 → x c < p ∧ F c = nI (x c)) ∧ (∀ c, c < 12 → c ∉ cr v 0 n → x c = 0) ∧ Sol h C (fun c => fK p (x c)) (cr v 0 n) Y
def lst (tk : Nat → Nat) : Nat → List Nat
  | 0 => []
  | k + 1 => tk k :: lst tk k
theorem lst_len (tk : Nat → Nat) : ∀ k, (lst tk k).length = k
  | 0 => rfl
  | k + 1 => by show (lst tk k).length + 1 = k + 1; rw [lst_len]
theorem lst_congr {tk tk' : Nat → Nat} : ∀ k, (∀ e, e < k → tk e = tk' e) → lst tk k = lst tk' k
  | 0, _ => rfl
  | k + 1, h => by
    show tk k :: lst tk k = tk' k :: lst tk' k
    rw [h k (by omega), lst_congr k (fun e he => h e (by omega))]
theorem lst_mem {tk : Nat → Nat} : ∀ k c, c ∈ lst tk k ↔ ∃ e, e < k ∧ c = tk e
  | 0, c => ⟨fun h => absurd h (List.not_mem_nil), fun ⟨e, he, _⟩ => absurd he (Nat.not_lt_zero _)⟩
  | k + 1, c => by
    show c ∈ tk k :: lst tk k ↔ _
    rw [List.mem_cons, lst_mem k c]
    constructor
    · rintro (h | ⟨e, he, h⟩)
      · exact ⟨k, by omega, h⟩
      · exact ⟨e, by omega, h⟩
    · rintro ⟨e, he, h⟩
      by_cases ek : e = k
      · exact Or.inl (ek ▸ h)
      · exact Or.inr ⟨e, by omega, h⟩
/-- what the depths above hold -/
def STK {p : Nat} [NeZero p] (G : GS) (h n : Nat) (C : Nat → Nat → Fin p) (Y : Nat → Fin p) (d b : Nat) (tk : Nat → Nat) : Prop := ∀ e, e < d → b ≤ tk e ∧ ∃ f be r, CI G e h be C (lst tk e) f ∧ LV G e 12 h (f Y) ∧ tk e < be ∧ be ≤ n ∧ (∀ k, e < k → k < d → tk k < be) ∧ r < h ∧ f (C (tk e)) r ≠ 0 ∧ G 11 e = nI (tk e) ∧ G 12 e = nI r
theorem LV_fr {p : Nat} [NeZero p] {G G' : GS} {d c h : Nat} {g : Nat → Fin p} (e : G' (38 + d) = G (38 + d)) (hL : LV G d c h g) : LV G' d c h g := fun i hi => by rw [e]; exact hL i hi
theorem CI_fr {p : Nat} [NeZero p] {G G' : GS} {d h bd : Nat} {C : Nat → Nat → Fin p} {T : List Nat} {f : (Nat → Fin p) → Nat → Fin p} (e : G' (38 + d) = G (38 + d)) (hC : CI G d h bd C T f) : CI G' d h bd C T f := ⟨hC.1, hC.2.1, hC.2.2.1, fun c hc => LV_fr e (hC.2.2.2 c hc)⟩
theorem STK_fr {p : Nat} [NeZero p] {G G' : GS} {h n d b : Nat} {C : Nat → Nat → Fin p} {Y : Nat → Fin p} {tk : Nat → Nat} (e : ∀ k, k < d → G' (38 + k) = G (38 + k) ∧ G' 11 k = G 11 k ∧ G' 12 k = G 12 k) (hS : STK G h n C Y d b tk) : STK G' h n C Y d b tk := fun k hk => by
  obtain ⟨h1, f, be, r, c1, c2, c3, c4, c5, c6, c7, c8, c9⟩ := hS k hk
  obtain ⟨e1, e2, e3⟩ := e k hk
  exact ⟨h1, f, be, r, CI_fr e1 c1, LV_fr e1 c2, c3, c4, c5, c6, c7, by rw [e2]; exact c8, by rw [e3]; exact c9⟩
/-- what the later columns take off -/
def smV {p : Nat} [NeZero p] (C : Nat → Nat → Fin p) (x : Nat → Fin p) (tk : Nat → Nat) (e : Nat) : Nat → Nat → Fin p
  | 0, _ => 0
  | j + 1, i => smV C x tk e j i + x (tk (e + 1 + j)) * C (tk (e + 1 + j)) i
theorem Sol_sm {p : Nat} [NeZero p] {h e : Nat} {C : Nat → Nat → Fin p} {x : Nat → Fin p} {tk : Nat → Nat} : ∀ j (v : Nat → Fin p), Sol h C x (lst tk (e + 1 + j)) v → Sol h C x (lst tk (e + 1)) (fun i => v i - smV C x tk e j i)
  | 0, v, hs => Sol_congr (fun i _ => by show v i = v i - 0; grind) (fun _ _ => rfl) hs
  | j + 1, v, hs => by
    have h1 : Sol h C x (lst tk (e + 1 + j)) (fun i => v i - x (tk (e + 1 + j)) * C (tk (e + 1 + j)) i) := hs
    exact Sol_congr (fun i _ => by show (v i - x (tk (e + 1 + j)) * C (tk (e + 1 + j)) i) - smV C x tk e j i = v i - (smV C x tk e j i + x (tk (e + 1 + j)) * C (tk (e + 1 + j)) i); grind) (fun _ _ => rfl) (Sol_sm j _ h1)
theorem Lin_sm {p : Nat} [NeZero p] {h e : Nat} {C : Nat → Nat → Fin p} {x : Nat → Fin p} {tk : Nat → Nat} {f : (Nat → Fin p) → Nat → Fin p} (hf : Lin h f) (v : Nat → Fin p) (r : Nat) (hr : r < h) (j : Nat) : f (fun i => v i - smV C x tk e (j + 1) i) r = f (fun i => v i - smV C x tk e j i) r - x (tk (e + 1 + j)) * f (C (tk (e + 1 + j))) r := by
  rw [← hf.2 (fun i => v i - smV C x tk e j i) (C (tk (e + 1 + j))) (x (tk (e + 1 + j))) r hr]
  exact hf.1 _ _ (fun i _ => by show v i - (smV C x tk e j i + x (tk (e + 1 + j)) * C (tk (e + 1 + j)) i) = (v i - smV C x tk e j i) - x (tk (e + 1 + j)) * C (tk (e + 1 + j)) i; grind) r hr
theorem s_fac {p : Nat} [NeZero p] {G : GS} {m n h size e b : Nat} {C : Nat → Nat → Fin p} {Y x : Nat → Fin p} {tk : Nat → Nat} {P : Int32 → Prop} (hT : TI G p m n) (hh : h ≤ 6) (hn : n ≤ 12) (hsz : size ≤ 4) (he : e < size) (h6 : G 2 6 = nI size) (hS : STK G h n C Y size b tk) (hx : Sol h C x (lst tk size) Y) (ha : ∀ k, e < k → k < size → ∃ t, t < p ∧ G 13 (tk k) = nI t ∧ fK p t = x (tk k)) (hK : ∀ t, t < p → fK p t = x (tk e) → P (nI t)) : wX2_factorAt (nI e) G P := by
  have hp := isP_lt hT.1
  obtain ⟨-, -, -, ⟨a0, a1, a2⟩, -, -, hv⟩ := id hT
  obtain ⟨-, f, be, r, c1, c2, c3, c4, c5, c6, c7, c8, c9⟩ := hS e he
  obtain ⟨ly, hly, ey1, ey2⟩ := c2 r c6
  obtain ⟨lc, hlc, ec1, ec2⟩ := c1.2.2.2 (tk e) c3 r c6
  have e72 : (72 : Int32) = nI 72 := rfl
  refine ⟨vp_in_nI (by omega) (by omega), fun z ez => ?_⟩
  rw [zc (by omega), c9] at ez
  subst ez
  rw [e72, nI_add, zc (by omega), zc (by omega), show 72 + r = 6 * 12 + r by omega, ey1, z1, c8, i6r, zc (by omega), ec1]
  refine ⟨vp_in_nI (by omega) (by omega), vp_in_nI (by omega) (by omega), fun z ez y ey => ?_⟩
  subst ez
  subst ey
  have tkn : ∀ k, e < k → k < size → tk k < 12 := fun k h1 h2 => by have := c5 k h1 h2; omega
  have key : ∀ q j rest, e + 1 + j + q = size → rest ≤ 97 + j * 9409 → fK p rest = f (fun i => Y i - smV C x tk e j i) r → wlX2_factorAt_24 (fun x3_82 => (¬ nI p = 0 ∧ (vp_in (nI e) 7 ∧ (vp_in (nI e) 7 ∧ (vp_in (nI (6 * tk e + r)) 78 ∧ (wX4_quotient (x3_82 - x3_82 / nI p * nI p) (nI lc) G (fun r113 => P r113))))))) (nI e) (nI r) G (q + 1) (nI rest) (nI (e + 1 + j)) := by
    intro q
    induction q with
    | zero =>
      intro j rest hj hr1 hr2
      unfold wlX2_factorAt_24
      rw [h6, nI_leI (by omega) (by omega)]
      refine ⟨fun _ => ⟨nI_ne0 (by omega) (by omega), vp_in_nI (by omega) (by omega), vp_in_nI (by omega) (by omega), vp_in_nI (by omega) (by omega), ?_⟩, fun h => absurd (by omega) h⟩
      have hj4 : j ≤ 4 := by omega
      have hrb : rest < 2 ^ 31 := by
        have : j * 9409 ≤ 4 * 9409 := Nat.mul_le_mul_right _ hj4
        omega
      rw [z_rem hrb (by omega) (by omega)]
      have hlc0 : lc ≠ 0 := fun q => c7 (by rw [← ec2, q]; rfl)
      refine s_quo hT (Nat.mod_lt _ (by omega)) hlc hlc0 (fun c hc hc1 => hK _ (Nat.mod_lt _ (by omega)) ?_)
      rw [fK_mod, fK_mul, fK_mod, hr2]
      have hsol := Sol_sm (e := e) j Y (by rw [show e + 1 + j = size by omega]; exact hx)
      have hsp := Sol_Sp (show Sol h C x (lst tk e) (fun i => (Y i - smV C x tk e j i) - x (tk e) * C (tk e) i) from hsol)
      have h0 := (c1.2.2.1 _).mp hsp r c6
      rw [c1.2.1.2 (fun i => Y i - smV C x tk e j i) (C (tk e)) (x (tk e)) r c6] at h0
      have hb : fK p lc * fK p c = 1 := by rw [← fK_mul, ← fK_mod, hc1]; rfl
      rw [ec2] at hb
      grind
    | succ q ih =>
      intro j rest hj hr1 hr2
      have hk1 : e < e + 1 + j := by omega
      have hk2 : e + 1 + j < size := by omega
      obtain ⟨t, ht, et1, et2⟩ := ha (e + 1 + j) hk1 hk2
      obtain ⟨u, hu, eu1, eu2⟩ := c1.2.2.2 (tk (e + 1 + j)) (c5 _ hk1 hk2) r c6
      have htk := tkn _ hk1 hk2
      obtain ⟨-, -, -, -, -, -, -, -, -, -, -, d8, -⟩ := hS (e + 1 + j) hk2
      have hb : t * (p - u) ≤ 97 * 97 := Nat.mul_le_mul (by omega) (by omega)
      unfold wlX2_factorAt_24
      rw [h6, a0, zc (by omega), d8, zc (by omega), et1, i6r, zc (by omega), zc (by omega), eu1, pk_sub (by omega), pk_mul, nI_add, z1]
      refine ⟨fun h => absurd h (nI_ge (by omega) (by omega)), fun _ => ⟨vp_in_nI (by omega) (by omega), vp_in_nI (by omega) (by omega), vp_in_nI (by omega) (by omega), vp_in_nI (by omega) (by omega), vp_in_nI (by omega) (by omega), fun y ey => ?_⟩⟩
      subst ey
      refine ih (j + 1) (rest + t * (p - u)) (by omega) ?_ ?_
      · have : (j + 1) * 9409 = j * 9409 + 9409 := by rw [Nat.add_mul, Nat.one_mul]
        omega
      · rw [Lin_sm c1.2.1 Y r c6 j, fK_add, fK_mul, fK_sub (by omega), fK_p, hr2, et2, eu2]
        grind
  rw [a0]
  exact ⟨size - (e + 1) + 1, key (size - (e + 1)) 0 ly (by omega) (by omega) (by rw [ey2]; exact c1.2.1.1 _ _ (fun i _ => by show Y i = Y i - 0; grind) r c6)⟩
theorem s_note {p : Nat} [NeZero p] {G : GS} {m n h size b ways S : Nat} {C : Nat → Nat → Fin p} {Y : Nat → Fin p} {tk : Nat → Nat} {P : GS → Prop} (hT : TI G p m n) (hh : h ≤ 6) (hn : n ≤ 12) (hsz : size ≤ 4) (h6 : G 2 6 = nI size) (h8 : G 2 8 = nI ways) (hw : ways ≤ 3) (hS : STK G h n C Y size b tk) (hcr : cr S 0 n = lst tk size) (hsp : Sp h ((cr S 0 n).map C) Y) (hK : ∀ G1 : GS, (∀ x, x ≠ 2 → x ≠ 13 → G1 x = G x) → (∀ j, j ≠ 8 → j ≠ 9 → G1 2 j = G 2 j) → G1 2 8 = nI (ways + 1) → (ways = 0 → G1 2 9 = nI S ∧ AnsR (G1 13) h n C Y S) → (ways ≠ 0 → G1 2 9 = G 2 9 ∧ G1 13 = G 13) → P G1) : wX2_noteTelling (nI S) G P := by
  have hp := isP_lt hT.1
  intro G1 e1
  rw [h8, z1] at e1
  have g8 : G1 2 8 = nI (ways + 1) := by rw [e1, wr_ss]
  rw [g8]
  have one : (1 : Int32) = nI 1 := rfl
  rw [one, nI_leI (by omega) (by omega)]
  refine ⟨fun q G2 e2 => ?_, fun q => hK G1 (fun x a b => by rw [e1, wr_ne a]) (fun j a b => by rw [e1, wr_sn a]) g8 (fun q2 => by omega) (fun _ => ⟨by rw [e1, wr_sn (by omega)], by rw [e1, wr_ne (by omega)]⟩)⟩
  refine s_clear (by decide) (fun G3 f3 f4 x ex => ?_)
  have l13 : ln 13 = 12 := rfl
  rw [l13] at f4
  have h36 : G3 2 6 = nI size := by rw [f3 2 (by omega), e2, wr_sn (by omega), e1, wr_sn (by omega), h6]
  rw [h36] at ex
  obtain ⟨xs, hxs⟩ := Sp_Sol (C := C) (cr_nodup n 0) hsp
  rw [hcr] at hxs
  have tkn : ∀ k, k < size → tk k < 12 := fun k hk => by
    obtain ⟨-, f, be, r, c1, c2, c3, c4, -⟩ := hS k hk
    omega
  have tki : ∀ k l, k < l → l < size → tk l ≠ tk k := fun k l h1 h2 q => by
    have hnd : (lst tk size).Nodup := by rw [← hcr]; exact cr_nodup n 0
    have : ∀ s, s ≤ size → (lst tk s).Nodup := by
      intro s hs
      obtain ⟨u, rfl⟩ : ∃ u, size = s + u := ⟨size - s, by omega⟩
      clear h6 hS hcr hxs tkn h2 h36 ex hsz hs
      induction u with
      | zero => exact hnd
      | succ u ih => exact ih (List.nodup_cons.mp hnd).2
    have h3 := (List.nodup_cons.mp (this (l + 1) (by omega))).1
    exact h3 ((lst_mem l _).mpr ⟨k, h1, q⟩)
  have key : ∀ j (G4 : GS) (y : Nat → Nat), j ≤ size → (∀ x, x ≠ 13 → G4 x = G3 x) → (∀ c, c < 12 → y c < p ∧ G4 13 c = nI (y c)) → (∀ c, c < 12 → (∀ k, j ≤ k → k < size → c ≠ tk k) → y c = 0) → (∀ k, j ≤ k → k < size → fK p (y (tk k)) = xs (tk k)) → wlX2_noteTelling_38 (fun G1 => P G1) (j + 1) (nI j - 1) G4 := by
    intro j
    induction j with
    | zero =>
      intro G4 y hj k1 k2 k3 k4
      refine ⟨fun _ => hK G4 (fun x a b => by rw [k1 x b, f3 x b, e2, wr_ne a, e1, wr_ne a]) (fun l a b => by rw [k1 2 (by omega), f3 2 (by omega), e2, wr_sn b, e1, wr_sn a]) (by rw [k1 2 (by omega), f3 2 (by omega), e2, wr_sn (by omega), g8]) (fun _ => ⟨by rw [k1 2 (by omega), f3 2 (by omega), e2, wr_ss], y, k2, fun c hc hnc => k3 c hc (fun k _ hk q2 => hnc ?_), ?_⟩) (fun q2 => by omega), fun q => absurd (by decide) q⟩
      · rw [hcr]; exact (lst_mem size c).mpr ⟨k, hk, q2⟩
      · rw [hcr]
        refine Sol_congr (fun _ _ => rfl) (fun c hc => ?_) hxs
        obtain ⟨k, hk, rfl⟩ := (lst_mem size c).mp hc
        exact (k4 k (Nat.zero_le _) hk).symm
    | succ j ih =>
      intro G4 y hj k1 k2 k3 k4
      have fr : ∀ x, x ≠ 2 → x ≠ 13 → G4 x = G x := fun x a b => by rw [k1 x b, f3 x b, e2, wr_ne a, e1, wr_ne a]
      have hT4 : TI G4 p m n := TI_fr (fun c hc => fr c (by omega) (by omega)) hT
      have hS4 : STK G4 h n C Y size b tk := STK_fr (fun k hk => ⟨fr _ (by omega) (by omega), by rw [fr 11 (by omega) (by omega)], by rw [fr 12 (by omega) (by omega)]⟩) hS
      have h11 : G4 11 j = nI (tk j) := by
        obtain ⟨-, f, be, r, -, -, -, -, -, -, -, c8, -⟩ := hS4 j (by omega)
        exact c8
      rw [nI_pred]
      unfold wlX2_noteTelling_38
      rw [m1_eq, zc (by omega), h11, zc (by have := tkn j (by omega); omega)]
      refine ⟨fun q => absurd q (nI_pos (by omega)), fun _ => ⟨vp_in_nI (by omega) (by omega), s_fac hT4 hh hn hsz (show j < size by omega) (by rw [k1 2 (by omega), h36]) hS4 hxs (fun k h1 h2 => ⟨y (tk k), (k2 _ (tkn k h2)).1, (k2 _ (tkn k h2)).2, k4 k (by omega) h2⟩) (fun t ht ht2 => ⟨vp_in_nI (tkn j (by omega)) (by omega), fun G5 e5 => ?_⟩)⟩⟩
      refine ih G5 (fun c => if c = tk j then t else y c) (by omega) (fun x hx => by rw [e5, wr_ne hx, k1 x hx]) (fun c hc => ?_) (fun c hc hno => ?_) (fun k h1 h2 => ?_)
      · by_cases e : c = tk j
        · rw [if_pos e, e, e5, wr_ss]; exact ⟨ht, rfl⟩
        · rw [if_neg e, e5, wr_sn e]; exact k2 c hc
      · have e : c ≠ tk j := hno j (Nat.le_refl _) (by omega)
        rw [if_neg e]
        exact k3 c hc (fun k h1 h2 => hno k (by omega) h2)
      · by_cases e : k = j
        · rw [e, if_pos rfl]; exact ht2
        · rw [if_neg (tki j k (by omega) h2)]
          exact k4 k (by omega) h2
  rw [ex]
  exact ⟨size + 1, key size G3 (fun _ => 0) (Nat.le_refl _) (fun _ _ => rfl) (fun c hc => ⟨by omega, by rw [f4 c hc]; rfl⟩) (fun _ _ _ => rfl) (fun k h1 h2 => by omega)⟩
