/-! PURE PART: rows told with misses -/
def lsm {K : Type} [Lean.Grind.CommRing K] (x : Nat → K) (C : Nat → Nat → K) (k : Nat) : List Nat → K
  | [] => 0
  | c :: T => x c * C c k + lsm x C k T
theorem lsm_app {K : Type} [Lean.Grind.CommRing K] {x : Nat → K} {C : Nat → Nat → K} {k : Nat} : ∀ T U : List Nat, lsm x C k (T ++ U) = lsm x C k T + lsm x C k U
  | [], U => by show lsm x C k U = 0 + lsm x C k U; grind
  | c :: T, U => by
    show x c * C c k + lsm x C k (T ++ U) = (x c * C c k + lsm x C k T) + lsm x C k U
    rw [lsm_app T U]; grind
theorem Sol_lsm {K : Type} [Lean.Grind.CommRing K] {h : Nat} {x : Nat → K} {C : Nat → Nat → K} : ∀ {T : List Nat} {Y : Nat → K}, Sol h C x T Y ↔ ∀ k, k < h → Y k = lsm x C k T
  | [], _ => Iff.rfl
  | c :: T, Y => by
    show Sol h C x T (fun i => Y i - x c * C c i) ↔ _
    rw [Sol_lsm (T := T)]
    constructor
    · intro q k hk
      have := q k hk
      show Y k = x c * C c k + lsm x C k T
      grind
    · intro q k hk
      have : Y k = x c * C c k + lsm x C k T := q k hk
      show Y k - x c * C c k = lsm x C k T
      grind
theorem lsm_dot {p : Nat} [NeZero p] {G : GS} {dr m v k : Nat} {x : Nat → Nat} : ∀ j, (∀ c, c < j → bt v c ≠ 1 → x c = 0) → lsm (fun c => fK p (x c)) (colK p G dr m) k (cr v 0 j) = fK p (dot (cA G (rw_ dr m k)) x j)
  | 0, _ => rfl
  | j + 1, h => by
    have ih := lsm_dot (p := p) (G := G) (dr := dr) (m := m) (v := v) (k := k) (x := x) j (fun c hc => h c (by omega))
    show _ = fK p (dot (cA G (rw_ dr m k)) x j + cA G (rw_ dr m k) j * x j)
    rw [fK_add, fK_mul, ← ih]
    by_cases e : bt v j = 1
    · rw [cr_s1 e, lsm_app]
      show _ + (fK p (x j) * colK p G dr m j k + 0) = _
      unfold colK
      grind
    · rw [cr_s0 e, h j (by omega) e, fK_0]
      grind
/-- the sums agree in place i -/
def ag (p n : Nat) (G : GS) (y : Nat) (x : Nat → Nat) (i : Nat) : Prop := dot (cA G i) x n % p = cS G y i
def Cand (p : Nat) [NeZero p] (m n : Nat) (G : GS) (y dr v : Nat) (x : Nat → Nat) : Prop := (∀ c, c < 12 → x c < p) ∧ (∀ c, c < 12 → c ∉ cr v 0 n → x c = 0) ∧ Ind (kr dr m).length ((cr v 0 n).map (colK p G dr m)) ∧ ∀ i, i < m → bt dr i = 0 → ag p n G y x i
theorem Sol_ag {p : Nat} [NeZero p] {m n : Nat} {G : GS} {y dr v : Nat} {x : Nat → Nat} (hp : 0 < p) (hn : n ≤ 12) (hS : ∀ i, i < m → cS G y i < p) (hx : ∀ c, c < 12 → c ∉ cr v 0 n → x c = 0) : Sol (kr dr m).length (colK p G dr m) (fun c => fK p (x c)) (cr v 0 n) (sumK p G dr m y) ↔ ∀ i, i < m → bt dr i = 0 → ag p n G y x i := by
  have hz : ∀ c, c < n → bt v c ≠ 1 → x c = 0 := fun c hc hb => hx c (by omega) (fun q => hb ((cr_mem n 0 c).mp q).2.2)
  rw [Sol_lsm]
  constructor
  · intro q i hi hb
    obtain ⟨k, hk, e⟩ := rw_onto hi hb
    have := q k hk
    rw [lsm_dot n hz, e] at this
    unfold sumK at this
    rw [e, ← fK_mod (dot _ _ _)] at this
    exact (fK_inj (hS i hi) (Nat.mod_lt _ hp) this).symm
  · intro q k hk
    have hm := (kr_mem m _).mp (rw_in hk)
    have := q _ hm.1 hm.2
    rw [lsm_dot n hz]
    unfold sumK
    unfold ag at this
    rw [← this, fK_mod]
theorem ans_cand {p : Nat} [NeZero p] {m n : Nat} {G : GS} {y dr v : Nat} {F : Nat → Int32} (hp : 0 < p) (hn : n ≤ 12) (hS : ∀ i, i < m → cS G y i < p) (hI : Ind (kr dr m).length ((cr v 0 n).map (colK p G dr m))) (h : AnsR F (kr dr m).length n (colK p G dr m) (sumK p G dr m y) v) : ∃ x, (∀ c, c < 12 → F c = nI (x c)) ∧ Cand p m n G y dr v x := by
  obtain ⟨x, h1, h2, h3⟩ := h
  exact ⟨x, fun c hc => (h1 c hc).2, fun c hc => (h1 c hc).1, h2, hI, (Sol_ag hp hn hS h2).mp h3⟩
theorem cand_Sol {p : Nat} [NeZero p] {m n : Nat} {G : GS} {y dr v : Nat} {x : Nat → Nat} (hp : 0 < p) (hn : n ≤ 12) (hS : ∀ i, i < m → cS G y i < p) (h : Cand p m n G y dr v x) : Sol (kr dr m).length (colK p G dr m) (fun c => fK p (x c)) (cr v 0 n) (sumK p G dr m y) := (Sol_ag hp hn hS h.2.1).mpr h.2.2.2
theorem cand_uniq {p : Nat} [NeZero p] (inv : hasInv p) {m n : Nat} {G : GS} {y dr v : Nat} {x x' : Nat → Nat} (hp : 0 < p) (hn : n ≤ 12) (hS : ∀ i, i < m → cS G y i < p) (h : Cand p m n G y dr v x) (h' : Cand p m n G y dr v x') (c : Nat) (hc : c < 12) : x c = x' c := by
  by_cases q : c ∈ cr v 0 n
  · exact fK_inj (h.1 c hc) (h'.1 c hc) (Sol_uniq inv h.2.2.1 (cand_Sol hp hn hS h) (cand_Sol hp hn hS h') c q)
  · rw [h.2.1 c hc q, h'.2.1 c hc q]
theorem cand_hit {p : Nat} [NeZero p] {m n : Nat} {G : GS} {y dr v w : Nat} {x : Nat → Nat} (hp : 0 < p) (hn : n ≤ 12) (hS : ∀ i, i < m → cS G y i < p) (hl : (cr v 0 n).length = w) (h : Cand p m n G y dr v x) : Hit (kr dr m).length n w (colK p G dr m) (sumK p G dr m y) v := ⟨hl, h.2.2.1, Sol_Sp (cand_Sol hp hn hS h)⟩
theorem hit_cand {p : Nat} [NeZero p] {m n : Nat} {G : GS} {y dr v w : Nat} (hp : 0 < p) (hn : n ≤ 12) (hS : ∀ i, i < m → cS G y i < p) (h : Hit (kr dr m).length n w (colK p G dr m) (sumK p G dr m y) v) : ∃ x, Cand p m n G y dr v x := by
  obtain ⟨ξ, hξ⟩ := Sp_Sol (cr_nodup n 0) h.2.2
  have hc : ∀ c, ∃ t, t < p ∧ fK p t = ξ c := fun c => fK_val (ξ c)
  let x : Nat → Nat := fun c => if bt v c = 1 ∧ c < n then (ξ c).val else 0
  have hx2 : ∀ c, c < 12 → c ∉ cr v 0 n → x c = 0 := fun c _ hnc => if_neg (fun q => hnc ((cr_mem n 0 c).mpr ⟨Nat.zero_le _, by omega, q.1⟩))
  refine ⟨x, fun c _ => ?_, hx2, h.2.1, (Sol_ag hp hn hS hx2).mp ?_⟩
  · show (if bt v c = 1 ∧ c < n then (ξ c).val else 0) < p
    by_cases q : bt v c = 1 ∧ c < n
    · rw [if_pos q]; exact (ξ c).isLt
    · rw [if_neg q]; exact hp
  · refine Sol_congr (fun _ _ => rfl) (fun c hc => ?_) hξ
    have hm := (cr_mem n 0 c).mp hc
    show ξ c = fK p (if bt v c = 1 ∧ c < n then (ξ c).val else 0)
    rw [if_pos ⟨hm.2.2, by omega⟩]
    exact (Fin.ext (Nat.mod_eq_of_lt (ξ c).isLt)).symm
/-- fewer rows left out: what was free stays free -/
theorem Sp_comp {K : Type} [Lean.Grind.CommRing K] {h h' : Nat} {ρ ρ' : Nat → Nat} (hr : ∀ k, k < h → ∃ k', k' < h' ∧ ρ k = ρ' k') {Fu : Nat → Nat → K} : ∀ {T : List Nat} {v : Nat → K}, Sp h' (T.map (fun c k => Fu c (ρ' k))) (fun k => v (ρ' k)) → Sp h (T.map (fun c k => Fu c (ρ k))) (fun k => v (ρ k))
  | [], v, hs => fun k hk => by
    obtain ⟨k', h1, h2⟩ := hr k hk
    show v (ρ k) = 0
    rw [h2]; exact hs k' h1
  | c :: T, v, ⟨x, hx⟩ => ⟨x, Sp_comp hr (T := T) (v := fun i => v i - x * Fu c i) hx⟩
theorem Ind_comp {K : Type} [Lean.Grind.CommRing K] {h h' : Nat} {ρ ρ' : Nat → Nat} (hr : ∀ k, k < h → ∃ k', k' < h' ∧ ρ k = ρ' k') {Fu : Nat → Nat → K} : ∀ {T : List Nat}, Ind h (T.map (fun c k => Fu c (ρ k))) → Ind h' (T.map (fun c k => Fu c (ρ' k)))
  | [], _ => True.intro
  | c :: T, hi => ⟨Ind_comp hr (T := T) hi.1, fun q => hi.2 (Sp_comp hr (T := T) (v := Fu c) q)⟩
theorem cand_less {p : Nat} [NeZero p] {m n : Nat} {G : GS} {y dr dx v : Nat} {x : Nat → Nat} (h : Cand p m n G y dr v x) (h1 : ∀ i, i < m → bt dr i = 0 → bt dx i = 0) (h2 : ∀ i, i < m → bt dx i = 0 → ag p n G y x i) : Cand p m n G y dx v x := by
  refine ⟨h.1, h.2.1, ?_, h2⟩
  exact Ind_comp (ρ := rw_ dr m) (ρ' := rw_ dx m) (fun k hk => by
    have hm := (kr_mem m _).mp (rw_in hk)
    obtain ⟨k', a, b⟩ := rw_onto hm.1 (h1 _ hm.1 hm.2)
    exact ⟨k', a, b.symm⟩) (Fu := fun c i => fK p (cA G i c)) h.2.2.1
/-- a mask with given bits -/
theorem mask_ex (Q : Nat → Bool) : ∀ m, ∃ u, u < 2 ^ m ∧ ∀ i, i < m → bt u i = if Q i = true then 1 else 0
  | 0 => ⟨0, by decide, fun i hi => by omega⟩
  | m + 1 => by
    obtain ⟨u, h1, h2⟩ := mask_ex Q m
    by_cases e : Q m = true
    · refine ⟨2 ^ m * 1 + u, by rw [Nat.pow_succ]; omega, fun i hi => ?_⟩
      by_cases ei : i = m
      · rw [ei, if_pos e, bt_hi h1 (Nat.le_refl _), Nat.mul_one, bt_pow, if_pos rfl]
      · rw [bt_lo (by omega)]; exact h2 i (by omega)
    · refine ⟨u, by rw [Nat.pow_succ]; omega, fun i hi => ?_⟩
      by_cases ei : i = m
      · rw [ei, if_neg e, bt_big h1 (Nat.le_refl _)]
      · exact h2 i (by omega)
def pc (u : Nat) : Nat := (cr u 0 12).length
theorem pc_ct {u m : Nat} (hu : u < 2 ^ m) (hm : m ≤ 12) : pc u = ctP (fun i => decide (bt u i = 1)) m := by
  unfold pc
  rw [cr_12 hu hm]
  have : ∀ j, (cr u 0 j).length = ctP (fun i => decide (bt u i = 1)) j := by
    intro j
    induction j with
    | zero => rfl
    | succ j ih =>
      show _ = ctP (fun i => decide (bt u i = 1)) j + (if decide (bt u j = 1) = true then 1 else 0)
      by_cases e : bt u j = 1
      · rw [cr_s1 e, List.length_append, ih, if_pos (decide_eq_true e)]; rfl
      · rw [cr_s0 e, ih, if_neg (by simp [e])]; rfl
  exact this m
/-- in how many places the sums differ -/
noncomputable def dfN (p m n : Nat) (G : GS) (y : Nat) (x : Nat → Nat) : Nat := ctP (fun i => decide (dot (cA G i) x n % p ≠ cS G y i)) m
theorem df_le {p : Nat} [NeZero p] {m n : Nat} {G : GS} {y dr v : Nat} {x : Nat → Nat} (hm : m ≤ 6) (hdr : dr < 2 ^ m) (h : Cand p m n G y dr v x) : dfN p m n G y x ≤ pc dr := by
  rw [pc_ct hdr (by omega)]
  refine ctP_mono m (fun i hi hq => ?_)
  have hq := of_decide_eq_true hq
  apply decide_eq_true
  have := bt_lt dr i
  rcases Nat.eq_zero_or_pos (bt dr i) with z | z
  · exact absurd (h.2.2.2 i hi z) hq
  · omega
theorem cand_df {p : Nat} [NeZero p] {m n : Nat} {G : GS} {y dr v : Nat} {x : Nat → Nat} (hm : m ≤ 6) (hdr : dr < 2 ^ m) (h : Cand p m n G y dr v x) : ∃ dx, dx < 2 ^ m ∧ pc dx = dfN p m n G y x ∧ Cand p m n G y dx v x := by
  obtain ⟨dx, h1, h2⟩ := mask_ex (fun i => decide (dot (cA G i) x n % p ≠ cS G y i)) m
  refine ⟨dx, h1, ?_, cand_less h (fun i hi hb => ?_) (fun i hi hb => ?_)⟩
  · rw [pc_ct h1 (by omega)]
    refine ctP_congr m (fun i hi => ?_)
    have := h2 i hi
    by_cases e : decide (dot (cA G i) x n % p ≠ cS G y i) = true
    · rw [if_pos e] at this
      rw [e]; exact decide_eq_true this
    · rw [if_neg e] at this
      have e2 : decide (dot (cA G i) x n % p ≠ cS G y i) = false := by simpa using e
      rw [e2]
      exact decide_eq_false (by omega)
  · rw [h2 i hi]
    have := h.2.2.2 i hi hb
    exact if_neg (fun q => (of_decide_eq_true q) this)
  · rw [h2 i hi] at hb
    apply Classical.byContradiction
    intro q
    have q2 : dot (cA G i) x n % p ≠ cS G y i := q
    rw [if_pos (decide_eq_true q2)] at hb
    omega
/-- which row comes first -/
def lx (x y : Nat → Nat) : Prop := ∃ j, j < 12 ∧ x j < y j ∧ ∀ i, i < j → x i = y i
theorem lx_irr {x : Nat → Nat} : ¬ lx x x := fun ⟨j, _, h, _⟩ => by omega
theorem lx_trans {x y z : Nat → Nat} (h1 : lx x y) (h2 : lx y z) : lx x z := by
  obtain ⟨j, a1, a2, a3⟩ := h1
  obtain ⟨k, b1, b2, b3⟩ := h2
  rcases Nat.lt_trichotomy j k with q | q | q
  · exact ⟨j, a1, by rw [← b3 j q]; exact a2, fun i hi => by rw [a3 i hi, b3 i (by omega)]⟩
  · subst q
    exact ⟨j, a1, by omega, fun i hi => by rw [a3 i hi, b3 i hi]⟩
  · exact ⟨k, b1, by rw [a3 k q]; exact b2, fun i hi => by rw [a3 i (by omega), b3 i hi]⟩
theorem lx_tri {x y : Nat → Nat} (h1 : ¬ lx x y) (h2 : ¬ lx y x) : ∀ c, c < 12 → x c = y c := by
  have : ∀ c, c ≤ 12 → ∀ i, i < c → x i = y i := by
    intro c
    induction c with
    | zero => intro _ i hi; omega
    | succ c ih =>
      intro hc i hi
      have h3 := ih (by omega)
      by_cases e : i = c
      · subst e
        rcases Nat.lt_trichotomy (x i) (y i) with q | q | q
        · exact absurd ⟨i, by omega, q, h3⟩ h1
        · exact q
        · exact absurd ⟨i, by omega, q, fun j hj => (h3 j hj).symm⟩ h2
      · exact h3 i (by omega)
  exact this 12 (Nat.le_refl _)
theorem lx_congr {x x' y y' : Nat → Nat} (h1 : ∀ c, c < 12 → x c = x' c) (h2 : ∀ c, c < 12 → y c = y' c) (h : lx x y) : lx x' y' := by
  obtain ⟨j, a1, a2, a3⟩ := h
  exact ⟨j, a1, by rw [← h1 j a1, ← h2 j a1]; exact a2, fun i hi => by rw [← h1 i (by omega), ← h2 i (by omega)]; exact a3 i hi⟩
def lsV (v : Nat) (x : Nat → Nat) (v' : Nat) (x' : Nat → Nat) : Prop := v < v' ∨ (v = v' ∧ lx x x')
theorem scn_least {H : Nat → Prop} {cap : Nat} : ∀ k lo (s : Nat × Nat), s.1 = 0 → 1 ≤ cap → (scn H cap lo k s).1 ≠ 0 → H (scn H cap lo k s).2 ∧ (scn H cap lo k s).2 < lo + k ∧ ∀ v, lo ≤ v → v < (scn H cap lo k s).2 → ¬ H v
  | 0, _, _, h0, _, h => absurd h0 h
  | k + 1, lo, s, h0, hc, h => by
    have a1 := scn_add H cap 1 lo k s
    rw [show 1 + k = k + 1 by omega] at a1
    rw [a1] at h ⊢
    by_cases q : H lo
    · have e : scn H cap lo 1 s = (s.1 + 1, if s.1 = 0 then lo else s.2) := scn_hit (by omega) q
      rw [if_pos h0] at e
      rw [e] at h ⊢
      have keep : ∀ k lo2 w, w ≠ 0 → (scn H cap lo2 k (w, lo)).2 = lo := by
        intro k
        induction k with
        | zero => intro _ _ _; rfl
        | succ k ih =>
          intro lo2 w hw
          have b1 := scn_add H cap 1 lo2 k (w, lo)
          rw [show 1 + k = k + 1 by omega] at b1
          rw [b1]
          by_cases z : (w, lo).1 < cap ∧ H lo2
          · rw [scn_hit z.1 z.2]
            have : (if (w, lo).1 = 0 then lo2 else (w, lo).2) = lo := if_neg hw
            rw [this]
            exact ih (lo2 + 1) _ (by show w + 1 ≠ 0; omega)
          · rw [scn_miss z]; exact ih (lo2 + 1) w hw
      rw [keep k (lo + 1) (s.1 + 1) (by omega)]
      exact ⟨q, by omega, fun v h1 h2 => by omega⟩
    · have e : scn H cap lo 1 s = s := scn_miss (fun z => q z.2)
      rw [e] at h ⊢
      obtain ⟨r1, r2, r3⟩ := scn_least k (lo + 1) s h0 hc h
      refine ⟨r1, by omega, fun v h1 h2 => ?_⟩
      by_cases ev : v = lo
      · rw [ev]; exact q
      · exact r3 v (by omega) h2
