/-! PURE PART: lines over a field -/
def Sp {K : Type} [Lean.Grind.CommRing K] (h : Nat) : List (Nat → K) → (Nat → K) → Prop
  | [], v => ∀ i, i < h → v i = 0
  | t :: T, v => ∃ x : K, Sp h T (fun i => v i - x * t i)
def Ind {K : Type} [Lean.Grind.CommRing K] (h : Nat) : List (Nat → K) → Prop
  | [] => True
  | t :: T => Ind h T ∧ ¬ Sp h T t
theorem Sp_congr {K : Type} [Lean.Grind.CommRing K] {h : Nat} : ∀ {T : List (Nat → K)} {v w : Nat → K}, (∀ i, i < h → v i = w i) → Sp h T v → Sp h T w
  | [], v, w, e, hv => fun i hi => by rw [← e i hi]; exact hv i hi
  | t :: T, v, w, e, ⟨x, hx⟩ => ⟨x, Sp_congr (fun i hi => by rw [e i hi]) hx⟩
theorem Sp_zero {K : Type} [Lean.Grind.CommRing K] {h : Nat} : ∀ {T : List (Nat → K)} {v : Nat → K}, (∀ i, i < h → v i = 0) → Sp h T v
  | [], v, e => e
  | t :: T, v, e => ⟨0, Sp_zero (fun i hi => by rw [e i hi]; grind)⟩
theorem Sp_lin {K : Type} [Lean.Grind.CommRing K] {h : Nat} : ∀ {T : List (Nat → K)} {v w : Nat → K} (a b : K), Sp h T v → Sp h T w → Sp h T (fun i => a * v i + b * w i)
  | [], v, w, a, b, hv, hw => fun i hi => by
    have h1 := hv i hi
    have h2 := hw i hi
    show a * v i + b * w i = 0
    rw [h1, h2]; grind
  | t :: T, v, w, a, b, ⟨x, hx⟩, ⟨y, hy⟩ => ⟨a * x + b * y, Sp_congr (fun i hi => by grind) (Sp_lin a b hx hy)⟩
theorem Sp_up {K : Type} [Lean.Grind.CommRing K] {h : Nat} {T : List (Nat → K)} {t v : Nat → K} (hv : Sp h T v) : Sp h (t :: T) v := ⟨0, Sp_congr (fun i hi => by grind) hv⟩
theorem Sp_hd {K : Type} [Lean.Grind.CommRing K] {h : Nat} {T : List (Nat → K)} {t : Nat → K} : Sp h (t :: T) t := ⟨1, Sp_zero (fun i hi => by grind)⟩
theorem Sp_mem {K : Type} [Lean.Grind.CommRing K] {h : Nat} : ∀ {T : List (Nat → K)} {t : Nat → K}, t ∈ T → Sp h T t
  | u :: T, t, hm => by
    rcases List.mem_cons.mp hm with e | e
    · rw [e]; exact Sp_hd
    · exact Sp_up (Sp_mem e)
theorem Sp_le {K : Type} [Lean.Grind.CommRing K] {h : Nat} : ∀ {T U : List (Nat → K)} {v : Nat → K}, (∀ t, t ∈ T → Sp h U t) → Sp h T v → Sp h U v
  | [], U, v, _, hv => Sp_zero hv
  | t :: T, U, v, hu, ⟨x, hx⟩ => by
    have h1 := Sp_le (U := U) (fun t ht => hu t (List.mem_cons_of_mem _ ht)) hx
    have h2 := hu t (List.mem_cons_self ..)
    exact Sp_congr (fun i hi => by grind) (Sp_lin 1 x h1 h2)
theorem Sp_sub {K : Type} [Lean.Grind.CommRing K] {h : Nat} {T U : List (Nat → K)} {v : Nat → K} (hs : ∀ t, t ∈ T → t ∈ U) (hv : Sp h T v) : Sp h U v := Sp_le (fun t ht => Sp_mem (hs t ht)) hv
/-- two at the head change places -/
theorem Ind_swap {K : Type} [Lean.Grind.CommRing K] (inv : ∀ a : K, a ≠ 0 → ∃ b : K, a * b = 1) {h : Nat} {T : List (Nat → K)} {u v : Nat → K} (hi : Ind h (u :: v :: T)) : Ind h (v :: u :: T) := by
  obtain ⟨⟨h1, h2⟩, h3⟩ := hi
  refine ⟨⟨h1, fun q => h3 (Sp_up q)⟩, ?_⟩
  rintro ⟨x, hx⟩
  by_cases e : x = 0
  · exact h2 (Sp_congr (fun i hi => by rw [e]; grind) hx)
  · obtain ⟨b, hb⟩ := inv x e
    refine h3 ⟨b, ?_⟩
    exact Sp_congr (fun i hi => by show (0 - b) * (v i - x * u i) + 0 * (v i - x * u i) = u i - b * v i; grind) (Sp_lin (0 - b) 0 hx hx)
theorem Ind_perm {K : Type} [Lean.Grind.CommRing K] (inv : ∀ a : K, a ≠ 0 → ∃ b : K, a * b = 1) {h : Nat} {T U : List (Nat → K)} (hp : T.Perm U) : Ind h T → Ind h U := by
  induction hp with
  | nil => exact id
  | cons x hp ih =>
    rintro ⟨h1, h2⟩
    exact ⟨ih h1, fun q => h2 (Sp_sub (fun t ht => hp.mem_iff.mpr ht) q)⟩
  | swap x y l => exact Ind_swap inv
  | trans _ _ ih1 ih2 => exact fun q => ih2 (ih1 q)
theorem Ind_tail {K : Type} [Lean.Grind.CommRing K] {h : Nat} {T : List (Nat → K)} : ∀ {U : List (Nat → K)}, Ind h (U ++ T) → Ind h T
  | [], hi => hi
  | _ :: U, hi => Ind_tail (U := U) hi.1
theorem Ind_sub {K : Type} [Lean.Grind.CommRing K] {h : Nat} {T U : List (Nat → K)} (hs : T.Sublist U) : Ind h U → Ind h T := by
  induction hs with
  | slnil => exact id
  | cons a _ ih => exact fun q => ih q.1
  | cons_cons a hs ih => exact fun q => ⟨ih q.1, fun r => q.2 (Sp_sub (fun t ht => hs.subset ht) r)⟩
/-- exchange, one step -/
theorem St_step {K : Type} [Lean.Grind.CommRing K] (inv : ∀ a : K, a ≠ 0 → ∃ b : K, a * b = 1) {h : Nat} {T : List (Nat → K)} {t : Nat → K} : ∀ (U : List (Nat → K)), (∀ u, u ∈ U → Sp h (t :: T) u) → Ind h U → (∀ u, u ∈ U → Sp h T u) ∨ ∃ (w : Nat → K) (x : K) (U2 : List (Nat → K)), x ≠ 0 ∧ Sp h T (fun i => w i - x * t i) ∧ (∀ u, u ∈ U2 → Sp h T u) ∧ Ind h (U2 ++ [w]) ∧ (∀ v, Sp h (U2 ++ [w]) v → Sp h U v) ∧ U.length = U2.length + 1
  | [], _, _ => Or.inl (fun u hu => absurd hu (List.not_mem_nil))
  | u :: U, hu, hi => by
    obtain ⟨x, hx⟩ := hu u (List.mem_cons_self ..)
    rcases St_step inv U (fun u hu2 => hu u (List.mem_cons_of_mem _ hu2)) hi.1 with h1 | ⟨w, z, U2, hz, hw, h2, h3, h4, h5⟩
    · by_cases e : x = 0
      · left
        intro v hv
        rcases List.mem_cons.mp hv with q | q
        · rw [q]; exact Sp_congr (fun i hi => by rw [e]; grind) hx
        · exact h1 v q
      · right
        have hp : (u :: U).Perm (U ++ [u]) := (List.perm_append_singleton u U).symm
        exact ⟨u, x, U, e, hx, h1, Ind_perm inv hp hi, fun v hv => Sp_sub (fun t ht => hp.mem_iff.mpr ht) hv, rfl⟩
    · right
      obtain ⟨b, hb⟩ := inv z hz
      have key : ∀ i, u i - (x * b) * w i = 1 * (u i - x * t i) + (0 - x * b) * (w i - z * t i) := fun i => by grind
      refine ⟨w, z, (fun i => u i - (x * b) * w i) :: U2, hz, hw, fun v hv => ?_, ⟨h3, fun q => hi.2 (h4 u ?_)⟩, fun v hv => ?_, by simp [h5]⟩
      · rcases List.mem_cons.mp hv with q | q
        · rw [q]
          exact Sp_congr (fun i hi => (key i).symm) (Sp_lin 1 (0 - x * b) hx hw)
        · exact h2 v q
      · have hw2 : Sp h (U2 ++ [w]) w := Sp_mem (List.mem_append_right _ (List.mem_cons_self ..))
        exact Sp_congr (fun i hi => by grind) (Sp_lin 1 (x * b) q hw2)
      · obtain ⟨y, hy⟩ := hv
        have hw3 : Sp h (u :: U) w := Sp_up (h4 w (Sp_mem (List.mem_append_right _ (List.mem_cons_self ..))))
        have hy2 : Sp h (u :: U) (fun i => v i - y * (u i - (x * b) * w i)) := Sp_up (h4 _ hy)
        have h9 := Sp_lin 1 (0 - y * (x * b)) (Sp_lin 1 y hy2 (Sp_hd (t := u))) hw3
        exact Sp_congr (fun i hi => by grind) h9
theorem St {K : Type} [Lean.Grind.CommRing K] (inv : ∀ a : K, a ≠ 0 → ∃ b : K, a * b = 1) {h : Nat} : ∀ (T U : List (Nat → K)), (∀ u, u ∈ U → Sp h T u) → Ind h U → U.length ≤ T.length
  | [], [], _, _ => Nat.le_refl _
  | [], u :: U, hu, hi => absurd (Sp_zero (hu u (List.mem_cons_self ..))) hi.2
  | t :: T, U, hu, hi => by
    rcases St_step inv U hu hi with h1 | ⟨w, z, U2, hz, hw, h2, h3, h4, h5⟩
    · have := St inv T U h1 hi
      simp only [List.length_cons]; omega
    · have := St inv T U2 h2 (Ind_sub (List.sublist_append_left U2 [w]) h3)
      simp only [List.length_cons]; omega
/-- unit vectors tell everything -/
def eV {K : Type} [Lean.Grind.CommRing K] (k : Nat) : Nat → K := fun i => if i = k then 1 else 0
def eL {K : Type} [Lean.Grind.CommRing K] : Nat → List (Nat → K)
  | 0 => []
  | k + 1 => eV k :: eL k
theorem eL_len {K : Type} [Lean.Grind.CommRing K] : ∀ k, (eL k : List (Nat → K)).length = k
  | 0 => rfl
  | k + 1 => by show (eL k : List (Nat → K)).length + 1 = k + 1; rw [eL_len k]
theorem eL_Sp {K : Type} [Lean.Grind.CommRing K] {h : Nat} : ∀ k (v : Nat → K), (∀ i, k ≤ i → i < h → v i = 0) → Sp h (eL k) v
  | 0, v, hv => fun i hi => hv i (Nat.zero_le _) hi
  | k + 1, v, hv => ⟨v k, eL_Sp k _ (fun i h1 h2 => by
      show v i - v k * (if i = k then 1 else 0) = 0
      by_cases e : i = k
      · rw [if_pos e, e]; grind
      · rw [if_neg e, hv i (by omega) h2]; grind)⟩
theorem eL_of {K : Type} [Lean.Grind.CommRing K] {h : Nat} : ∀ k (v : Nat → K), Sp h (eL k) v → ∀ i, k ≤ i → i < h → v i = 0
  | 0, v, hv, i, _, hi => hv i hi
  | k + 1, v, ⟨x, hx⟩, i, h1, h2 => by
    have := eL_of k _ hx i (by omega) h2
    have e : (eV k i : K) = 0 := if_neg (by omega)
    rw [e] at this
    grind
theorem Ind_le {K : Type} [Lean.Grind.CommRing K] (inv : ∀ a : K, a ≠ 0 → ∃ b : K, a * b = 1) {h : Nat} {U : List (Nat → K)} (hi : Ind h U) : U.length ≤ h := by
  have := St inv (h := h) (eL h) U (fun u _ => eL_Sp h u (fun i h1 h2 => by omega)) hi
  rw [eL_len] at this
  exact this
/-- the columns of a list, and a row that tells v by them -/
def Sol {K : Type} [Lean.Grind.CommRing K] (h : Nat) (C : Nat → Nat → K) (x : Nat → K) : List Nat → (Nat → K) → Prop
  | [], v => ∀ i, i < h → v i = 0
  | c :: T, v => Sol h C x T (fun i => v i - x c * C c i)
theorem Sol_congr {K : Type} [Lean.Grind.CommRing K] {h : Nat} {C : Nat → Nat → K} {x y : Nat → K} : ∀ {T : List Nat} {v w : Nat → K}, (∀ i, i < h → v i = w i) → (∀ c, c ∈ T → x c = y c) → Sol h C x T v → Sol h C y T w
  | [], v, w, e, _, hv => fun i hi => by rw [← e i hi]; exact hv i hi
  | c :: T, v, w, e, hx, hv => Sol_congr (T := T) (fun i hi => by rw [e i hi, hx c (List.mem_cons_self ..)]) (fun c hc => hx c (List.mem_cons_of_mem _ hc)) hv
theorem Sol_Sp {K : Type} [Lean.Grind.CommRing K] {h : Nat} {C : Nat → Nat → K} {x : Nat → K} : ∀ {T : List Nat} {v : Nat → K}, Sol h C x T v → Sp h (T.map C) v
  | [], v, hv => hv
  | c :: T, v, hv => ⟨x c, Sol_Sp (T := T) hv⟩
theorem Sp_Sol {K : Type} [Lean.Grind.CommRing K] {h : Nat} {C : Nat → Nat → K} : ∀ {T : List Nat} {v : Nat → K}, T.Nodup → Sp h (T.map C) v → ∃ x : Nat → K, Sol h C x T v
  | [], v, _, hv => ⟨fun _ => 0, hv⟩
  | c :: T, v, hn, ⟨z, hz⟩ => by
    obtain ⟨hn1, hn2⟩ := List.nodup_cons.mp hn
    obtain ⟨x, hx⟩ := Sp_Sol (C := C) hn2 hz
    refine ⟨fun k => if k = c then z else x k, ?_⟩
    show Sol h C _ T (fun i => v i - (if c = c then z else x c) * C c i)
    exact Sol_congr (fun i hi => by rw [if_pos rfl]) (fun k hk => by rw [if_neg (show ¬ k = c from fun q => hn1 (q ▸ hk))]) hx
theorem Sol_sub {K : Type} [Lean.Grind.CommRing K] {h : Nat} {C : Nat → Nat → K} {x y : Nat → K} : ∀ {T : List Nat} {v w : Nat → K}, Sol h C x T v → Sol h C y T w → Sol h C (fun c => x c - y c) T (fun i => v i - w i)
  | [], v, w, hv, hw => fun i hi => by
    have h1 := hv i hi
    have h2 := hw i hi
    show v i - w i = 0
    rw [h1, h2]; grind
  | c :: T, v, w, hv, hw => Sol_congr (T := T) (fun i hi => by grind) (fun _ _ => rfl) (Sol_sub (T := T) hv hw)
theorem Sol_uniq0 {K : Type} [Lean.Grind.CommRing K] (inv : ∀ a : K, a ≠ 0 → ∃ b : K, a * b = 1) {h : Nat} {C : Nat → Nat → K} {x : Nat → K} : ∀ {T : List Nat} {v : Nat → K}, Ind h (T.map C) → (∀ i, i < h → v i = 0) → Sol h C x T v → ∀ c, c ∈ T → x c = 0
  | c :: T, v, hi, hv, hs, d, hd => by
    have hx : x c = 0 := by
      apply Classical.byContradiction
      intro e
      obtain ⟨b, hb⟩ := inv _ e
      apply hi.2
      have h1 := Sol_Sp (T := T) hs
      exact Sp_congr (fun i hi => by
        have := hv i hi
        show (0 - b) * (v i - x c * C c i) + 0 * (v i - x c * C c i) = C c i
        rw [this]; grind) (Sp_lin (0 - b) 0 h1 h1)
    rcases List.mem_cons.mp hd with q | q
    · rw [q]; exact hx
    · refine Sol_uniq0 inv (T := T) hi.1 (v := fun i => v i - x c * C c i) (fun i hi => ?_) hs d q
      show v i - x c * C c i = 0
      rw [hv i hi, hx]; grind
theorem Sol_uniq {K : Type} [Lean.Grind.CommRing K] (inv : ∀ a : K, a ≠ 0 → ∃ b : K, a * b = 1) {h : Nat} {C : Nat → Nat → K} {x y : Nat → K} {T : List Nat} {v : Nat → K} (hi : Ind h (T.map C)) (h1 : Sol h C x T v) (h2 : Sol h C y T v) : ∀ c, c ∈ T → x c = y c := fun c hc => by
  have := Sol_uniq0 inv hi (v := fun i => v i - v i) (fun i _ => by grind) (Sol_sub h1 h2) c hc
  have e : x c - y c = 0 := this
  grind
/-- a column with factor nought may be left out -/
theorem Sol_drop {K : Type} [Lean.Grind.CommRing K] {h : Nat} {C : Nat → Nat → K} {x : Nat → K} {c : Nat} (hx : x c = 0) : ∀ {T : List Nat} {v : Nat → K}, Sol h C x T v → Sol h C x (T.erase c) v
  | [], v, hv => hv
  | d :: T, v, hv => by
    by_cases e : d = c
    · subst e
      rw [List.erase_cons_head]
      exact Sol_congr (T := T) (fun i hi => by rw [hx]; grind) (fun _ _ => rfl) hv
    · rw [List.erase_cons_tail (by simpa using e)]
      exact Sol_drop hx (T := T) hv
/-- linear maps -/
def Lin {K : Type} [Lean.Grind.CommRing K] (h : Nat) (f : (Nat → K) → Nat → K) : Prop := (∀ v w, (∀ i, i < h → v i = w i) → ∀ i, i < h → f v i = f w i) ∧ ∀ v w (a : K), ∀ i, i < h → f (fun j => v j - a * w j) i = f v i - a * f w i
theorem Lin_z {K : Type} [Lean.Grind.CommRing K] {h : Nat} {f : (Nat → K) → Nat → K} (hf : Lin h f) {v : Nat → K} (hv : ∀ i, i < h → v i = 0) : ∀ i, i < h → f v i = 0 := fun i hi => by
  have h1 := hf.2 v v 1 i hi
  have h2 := hf.1 (fun j => v j - 1 * v j) v (fun i hi => by rw [hv i hi]; grind) i hi
  grind
/-- taking a column out -/
theorem Lin_out {K : Type} [Lean.Grind.CommRing K] {h : Nat} {f : (Nat → K) → Nat → K} (hf : Lin h f) (t : Nat → K) (r : Nat) (hr : r < h) : Lin h (fun v i => f v i * f t r - f t i * f v r) := by
  refine ⟨fun v w e i hi => ?_, fun v w a i hi => ?_⟩
  · show f v i * f t r - f t i * f v r = f w i * f t r - f t i * f w r
    rw [hf.1 v w e i hi, hf.1 v w e r hr]
  · show f (fun j => v j - a * w j) i * f t r - f t i * f (fun j => v j - a * w j) r = _
    rw [hf.2 v w a i hi, hf.2 v w a r hr]
    grind
theorem Sp_out {K : Type} [Lean.Grind.CommRing K] (inv : ∀ a : K, a ≠ 0 → ∃ b : K, a * b = 1) {h : Nat} {f : (Nat → K) → Nat → K} (hf : Lin h f) {T : List (Nat → K)} (hT : ∀ v, Sp h T v ↔ ∀ i, i < h → f v i = 0) (t : Nat → K) (r : Nat) (hr : r < h) (hn : f t r ≠ 0) (v : Nat → K) : Sp h (t :: T) v ↔ ∀ i, i < h → f v i * f t r - f t i * f v r = 0 := by
  obtain ⟨b, hb⟩ := inv _ hn
  constructor
  · rintro ⟨x, hx⟩ i hi
    have h1 := (hT _).mp hx i hi
    have h2 := (hT _).mp hx r hr
    rw [hf.2 v t x i hi] at h1
    rw [hf.2 v t x r hr] at h2
    grind
  · intro hv
    refine ⟨f v r * b, (hT _).mpr (fun i hi => ?_)⟩
    rw [hf.2 v t _ i hi]
    have := hv i hi
    grind
/-- maps that lose nothing -/
def Inj {K : Type} [Lean.Grind.CommRing K] (h : Nat) (f : (Nat → K) → Nat → K) : Prop := Lin h f ∧ ∀ v, (∀ i, i < h → f v i = 0) → ∀ i, i < h → v i = 0
theorem Sp_inj {K : Type} [Lean.Grind.CommRing K] {h : Nat} {f : (Nat → K) → Nat → K} (hf : Inj h f) : ∀ {T : List (Nat → K)} {v : Nat → K}, Sp h (T.map f) (f v) ↔ Sp h T v
  | [], v => ⟨fun q => hf.2 v q, fun q => Lin_z hf.1 q⟩
  | t :: _, v => by
    constructor
    · rintro ⟨x, hx⟩
      refine ⟨x, (Sp_inj hf).mp (Sp_congr (fun i hi => ?_) hx)⟩
      rw [hf.1.2 v t x i hi]
    · rintro ⟨x, hx⟩
      refine ⟨x, Sp_congr (fun i hi => ?_) ((Sp_inj hf).mpr hx)⟩
      rw [hf.1.2 v t x i hi]
theorem Ind_inj {K : Type} [Lean.Grind.CommRing K] {h : Nat} {f : (Nat → K) → Nat → K} (hf : Inj h f) : ∀ {T : List (Nat → K)}, Ind h (T.map f) ↔ Ind h T
  | [] => Iff.rfl
  | t :: T => and_congr (Ind_inj hf) (not_congr (Sp_inj hf))

/-- what one pivot does to all: row r and row q change places, row r times b, row r taken off the others -/
def pvM {K : Type} [Lean.Grind.CommRing K] (f : (Nat → K) → Nat → K) (col : Nat → K) (r q : Nat) (b : K) (v : Nat → K) (i : Nat) : K := if i = r then f v q * b else (if i = q then f v r else f v i) - (if i = q then f col r else f col i) * (f v q * b)
theorem pvM_Inj {K : Type} [Lean.Grind.CommRing K] {h : Nat} {f : (Nat → K) → Nat → K} (hf : Inj h f) {col : Nat → K} {r q : Nat} {b : K} (hr : r < h) (hq : q < h) (hb : f col q * b = 1) : Inj h (pvM f col r q b) := by
  refine ⟨⟨fun v w e i hi => ?_, fun v w a i hi => ?_⟩, fun v hv => ?_⟩
  · show pvM f col r q b v i = pvM f col r q b w i
    unfold pvM
    rw [hf.1.1 v w e i hi, hf.1.1 v w e q hq, hf.1.1 v w e r hr]
  · show pvM f col r q b _ i = pvM f col r q b v i - a * pvM f col r q b w i
    unfold pvM
    rw [hf.1.2 v w a i hi, hf.1.2 v w a q hq, hf.1.2 v w a r hr]
    by_cases e : i = r
    · rw [if_pos e, if_pos e, if_pos e]; grind
    · rw [if_neg e, if_neg e, if_neg e]
      by_cases e2 : i = q
      · rw [if_pos e2, if_pos e2, if_pos e2, if_pos e2]; grind
      · rw [if_neg e2, if_neg e2, if_neg e2, if_neg e2]; grind
  · refine hf.2 v (fun i hi => ?_)
    have h0 : f v q * b = 0 := by
      have := hv r hr
      unfold pvM at this
      rw [if_pos rfl] at this
      exact this
    have h1 : f v q = 0 := by grind
    by_cases e2 : i = q
    · rw [e2]; exact h1
    · by_cases e : i = r
      · have := hv q hq
        unfold pvM at this
        rw [if_neg (by omega), if_pos rfl, if_pos rfl, h0] at this
        rw [e]; grind
      · have := hv i hi
        unfold pvM at this
        rw [if_neg e, if_neg e2, if_neg e2, h0] at this
        grind
/-- the model's elimination: j columns gone through, r of them pivots -/
def Elm {K : Type} [Lean.Grind.CommRing K] (h : Nat) (D : Nat → Nat → K) (j r : Nat) (f : (Nat → K) → Nat → K) : Prop := Inj h f ∧ r ≤ j ∧ r ≤ h ∧ (∀ k, r = j → k < j → ∀ i, i < h → f (D k) i = eV k i) ∧ ∃ P : List (Nat → K), P.length = r ∧ Ind h P ∧ (∀ u, u ∈ P → ∃ k, k < j ∧ u = D k) ∧ (∀ v, Sp h P v ↔ ∀ i, r ≤ i → i < h → f v i = 0) ∧ (∀ k, k < j → Sp h P (D k)) ∧ (r = j → P = ((List.range j).map D).reverse)
theorem Elm_0 {K : Type} [Lean.Grind.CommRing K] {h : Nat} {D : Nat → Nat → K} : Elm h D 0 0 (fun v => v) := by
  refine ⟨⟨⟨fun v w e => e, fun v w a i hi => rfl⟩, fun v hv => hv⟩, Nat.le_refl _, Nat.zero_le _, fun k _ hk => by omega, [], rfl, True.intro, fun u hu => absurd hu (List.not_mem_nil), fun v => ⟨fun q i _ hi => q i hi, fun q i hi => q i (Nat.zero_le _) hi⟩, fun k hk => by omega, fun _ => rfl⟩
theorem Elm_skip {K : Type} [Lean.Grind.CommRing K] {h : Nat} {D : Nat → Nat → K} {j r : Nat} {f : (Nat → K) → Nat → K} (he : Elm h D j r f) (hz : ∀ i, r ≤ i → i < h → f (D j) i = 0) : Elm h D (j + 1) r f := by
  obtain ⟨h1, h2, h3, h4, P, p1, p2, p3, p4, p5, p6⟩ := he
  refine ⟨h1, by omega, h3, fun k e => by omega, P, p1, p2, fun u hu => ?_, p4, fun k hk => ?_, fun e => by omega⟩
  · obtain ⟨k, a, b⟩ := p3 u hu
    exact ⟨k, by omega, b⟩
  · by_cases e : k = j
    · rw [e]; exact (p4 _).mpr hz
    · exact p5 k (by omega)
theorem Elm_piv {K : Type} [Lean.Grind.CommRing K] {h : Nat} {D : Nat → Nat → K} {j r : Nat} {f : (Nat → K) → Nat → K} (he : Elm h D j r f) {q : Nat} {b : K} (hq : q < h) (hrq : r ≤ q) (hn : f (D j) q ≠ 0) (hb : f (D j) q * b = 1) : Elm h D (j + 1) (r + 1) (pvM f (D j) r q b) := by
  obtain ⟨h1, h2, h3, h4, P, p1, p2, p3, p4, p5, p6⟩ := he
  have hr : r < h := by omega
  have key : ∀ v, Sp h (D j :: P) v ↔ ∀ i, r + 1 ≤ i → i < h → pvM f (D j) r q b v i = 0 := by
    intro v
    constructor
    · rintro ⟨x, hx⟩ i hi hih
      have hx2 : ∀ i, r ≤ i → i < h → f v i = x * f (D j) i := fun i a c => by
        have := (p4 _).mp hx i a c
        rw [h1.1.2 v (D j) x i c] at this
        grind
      have e1 := hx2 q hrq hq
      have e2 := hx2 r (Nat.le_refl _) hr
      have e3 := hx2 i (by omega) hih
      unfold pvM
      rw [if_neg (by omega)]
      by_cases e : i = q
      · rw [if_pos e, if_pos e]; grind
      · rw [if_neg e, if_neg e]; grind
    · intro hv
      refine ⟨f v q * b, (p4 _).mpr (fun i a c => ?_)⟩
      rw [h1.1.2 v (D j) _ i c]
      by_cases e : i = q
      · rw [e]; grind
      · by_cases e2 : i = r
        · have := hv q (by omega) hq
          unfold pvM at this
          rw [if_neg (by omega), if_pos rfl, if_pos rfl] at this
          rw [e2]; grind
        · have := hv i (by omega) c
          unfold pvM at this
          rw [if_neg e2, if_neg e, if_neg e] at this
          grind
  have hns : ¬ Sp h P (D j) := fun q2 => hn ((p4 _).mp q2 q hrq hq)
  refine ⟨pvM_Inj h1 hr hq hb, by omega, by omega, fun k e hk i hi => ?_, D j :: P, by simp [p1], ⟨p2, hns⟩, fun u hu => ?_, key, fun k hk => ?_, fun e => ?_⟩
  · have ej : r = j := by omega
    by_cases ek : k = j
    · subst ek
      unfold pvM eV
      by_cases e2 : i = r
      · rw [if_pos e2, if_pos (by omega), hb]
      · rw [if_neg e2, if_neg (show ¬ i = k by omega)]
        by_cases e3 : i = q
        · rw [if_pos e3]; grind
        · rw [if_neg e3]; grind
    · have e1 := h4 k ej (by omega)
      have z1 : f (D k) q = 0 := by rw [e1 q hq]; exact if_neg (by omega)
      have z2 : f (D k) r = 0 := by rw [e1 r hr]; exact if_neg (by omega)
      unfold pvM
      rw [z1, z2]
      by_cases e2 : i = r
      · rw [if_pos e2]
        have : (eV k i : K) = 0 := if_neg (by omega)
        rw [this]; grind
      · rw [if_neg e2]
        by_cases e3 : i = q
        · rw [if_pos e3]
          have : (eV k i : K) = 0 := if_neg (by omega)
          rw [this]; grind
        · rw [if_neg e3, e1 i hi]; grind
  · rcases List.mem_cons.mp hu with e | e
    · exact ⟨j, by omega, e⟩
    · obtain ⟨k, a, c⟩ := p3 u e
      exact ⟨k, by omega, c⟩
  · by_cases e : k = j
    · rw [e]; exact Sp_hd
    · exact Sp_up (p5 k (by omega))
  · rw [p6 (by omega), List.range_succ, List.map_append, List.reverse_append]
    rfl
theorem Sol_lin {K : Type} [Lean.Grind.CommRing K] {h : Nat} {f : (Nat → K) → Nat → K} (hf : Lin h f) {C : Nat → Nat → K} {x : Nat → K} : ∀ {T : List Nat} {v : Nat → K}, Sol h C x T v → Sol h (fun c => f (C c)) x T (f v)
  | [], _, hv => Lin_z hf hv
  | c :: T, v, hv => by
    have := Sol_lin hf (T := T) hv
    exact Sol_congr (T := T) (fun i hi => hf.2 v (C c) (x c) i hi) (fun _ _ => rfl) this
theorem Sol_c0 {K : Type} [Lean.Grind.CommRing K] {h : Nat} {D : Nat → Nat → K} {x : Nat → K} {i : Nat} (hi : i < h) : ∀ {T : List Nat} {v : Nat → K}, (∀ c, c ∈ T → D c i = 0) → Sol h D x T v → v i = 0
  | [], v, _, hv => hv i hi
  | c :: T, v, hz, hv => by
    have := Sol_c0 hi (T := T) (fun d hd => hz d (List.mem_cons_of_mem _ hd)) hv
    have e := hz c (List.mem_cons_self ..)
    have e2 : v i - x c * D c i = 0 := this
    rw [e] at e2
    grind
theorem Sol_c1 {K : Type} [Lean.Grind.CommRing K] {h : Nat} {D : Nat → Nat → K} {x : Nat → K} {i c0 : Nat} (hi : i < h) : ∀ {T : List Nat} {v : Nat → K}, T.Nodup → c0 ∈ T → (∀ c, c ∈ T → c ≠ c0 → D c i = 0) → D c0 i = 1 → Sol h D x T v → v i = x c0
  | c :: T, v, hn, hm, hz, h1, hv => by
    obtain ⟨n1, n2⟩ := List.nodup_cons.mp hn
    by_cases e : c = c0
    · subst e
      have := Sol_c0 hi (T := T) (fun d hd => hz d (List.mem_cons_of_mem _ hd) (fun q => n1 (q ▸ hd))) hv
      have e2 : v i - x c * D c i = 0 := this
      rw [h1] at e2
      grind
    · have hm2 : c0 ∈ T := by
        rcases List.mem_cons.mp hm with q | q
        · exact absurd q.symm e
        · exact q
      have := Sol_c1 hi (T := T) n2 hm2 (fun d hd => hz d (List.mem_cons_of_mem _ hd)) h1 hv
      have e2 : v i - x c * D c i = x c0 := this
      rw [hz c (List.mem_cons_self ..) e] at e2
      grind
theorem Elm_full {K : Type} [Lean.Grind.CommRing K] (inv : ∀ a : K, a ≠ 0 → ∃ b : K, a * b = 1) {h : Nat} {D : Nat → Nat → K} {s r : Nat} {f : (Nat → K) → Nat → K} (he : Elm h D s r f) : r = s ↔ Ind h ((List.range s).map D) := by
  obtain ⟨h1, h2, h3, h4, P, p1, p2, p3, p4, p5, p6⟩ := he
  constructor
  · intro e
    have := p6 e
    rw [this] at p2
    exact Ind_perm inv (List.reverse_perm _) p2
  · intro hi
    have := St inv P ((List.range s).map D) (fun u hu => by
      obtain ⟨k, hk, rfl⟩ := List.mem_map.mp hu
      exact p5 k (List.mem_range.mp hk)) hi
    rw [List.length_map, List.length_range, p1] at this
    omega
theorem Elm_Sp {K : Type} [Lean.Grind.CommRing K] {h : Nat} {D : Nat → Nat → K} {s : Nat} {f : (Nat → K) → Nat → K} (he : Elm h D s s f) (v : Nat → K) : Sp h ((List.range s).map D) v ↔ ∀ i, s ≤ i → i < h → f v i = 0 := by
  obtain ⟨h1, h2, h3, h4, P, p1, p2, p3, p4, p5, p6⟩ := he
  rw [← p4 v, p6 rfl]
  exact ⟨Sp_sub (fun t ht => List.mem_reverse.mpr ht), Sp_sub (fun t ht => List.mem_reverse.mp ht)⟩
theorem Elm_rank {K : Type} [Lean.Grind.CommRing K] (inv : ∀ a : K, a ≠ 0 → ∃ b : K, a * b = 1) {h : Nat} {D : Nat → Nat → K} {s r : Nat} {f : (Nat → K) → Nat → K} (he : Elm h D s r f) {T : List (Nat → K)} (hT : Ind h T) (h1 : ∀ k, k < s → Sp h T (D k)) (h2 : ∀ u, u ∈ T → ∃ k, k < s ∧ u = D k) : T.length = r := by
  obtain ⟨-, -, -, -, P, p1, p2, p3, p4, p5, p6⟩ := he
  have a := St inv P T (fun u hu => by
    obtain ⟨k, hk, e⟩ := h2 u hu
    rw [e]; exact p5 k hk) hT
  have b := St inv T P (fun u hu => by
    obtain ⟨k, hk, e⟩ := p3 u hu
    rw [e]; exact h1 k hk) p2
  omega
/-- a list of columns by number -/
theorem map_cs {K : Type} (C : Nat → Nat → K) : ∀ cs : List Nat, (List.range cs.length).map (fun k => C (cs.getD k 0)) = cs.map C := by
  intro cs
  apply List.ext_getElem
  · simp
  · intro i h1 h2
    simp at h1
    simp [h1]
theorem Elm_Sol {K : Type} [Lean.Grind.CommRing K] {h : Nat} {C : Nat → Nat → K} {cs : List Nat} (hn : cs.Nodup) {f : (Nat → K) → Nat → K} (he : Elm h (fun k => C (cs.getD k 0)) cs.length cs.length f) {x : Nat → K} {v : Nat → K} (hs : Sol h C x cs v) : ∀ k, k < cs.length → x (cs.getD k 0) = f v k := by
  intro k hk
  obtain ⟨h1, h2, h3, h4, -⟩ := he
  have h5 := Sol_lin h1.1 hs
  have hmem : cs.getD k 0 ∈ cs := by
    rw [List.getD_eq_getElem?_getD, List.getElem?_eq_getElem hk]
    exact List.getElem_mem hk
  refine (Sol_c1 (i := k) (c0 := cs.getD k 0) (by omega) hn hmem (fun c hc hne => ?_) ?_ h5).symm
  · obtain ⟨l, hl, rfl⟩ := List.mem_iff_getElem.mp hc
    have e : cs.getD l 0 = cs[l] := by rw [List.getD_eq_getElem?_getD, List.getElem?_eq_getElem hl]; rfl
    have := h4 l rfl hl k (by omega)
    show f (C cs[l]) k = 0
    rw [← e]
    refine this.trans (if_neg (fun q => hne ?_))
    rw [← e, q]
  · have := h4 k rfl hk k (by omega)
    exact this.trans (if_pos rfl)
/-- counting hits in a range of masks: how many so far (no more than cap), and the first -/
def scan (H : Nat → Prop) [DecidablePred H] (cap : Nat) : Nat → Nat → Nat × Nat → Nat × Nat
  | _, 0, s => s
  | lo, k + 1, s => scan H cap (lo + 1) k (if s.1 < cap ∧ H lo then (s.1 + 1, if s.1 = 0 then lo else s.2) else s)
theorem scan_add (H : Nat → Prop) [DecidablePred H] (cap : Nat) : ∀ a lo b s, scan H cap lo (a + b) s = scan H cap (lo + a) b (scan H cap lo a s)
  | 0, lo, b, s => by rw [Nat.zero_add]; rfl
  | a + 1, lo, b, s => by
    rw [show a + 1 + b = (a + b) + 1 by omega]
    show scan H cap (lo + 1) (a + b) _ = scan H cap (lo + (a + 1)) b (scan H cap (lo + 1) a _)
    rw [scan_add H cap a (lo + 1) b, show lo + 1 + a = lo + (a + 1) by omega]
theorem scan_no (H : Nat → Prop) [DecidablePred H] (cap : Nat) : ∀ k lo s, (∀ v, lo ≤ v → v < lo + k → s.1 < cap → ¬ H v) → scan H cap lo k s = s
  | 0, _, _, _ => rfl
  | k + 1, lo, s, h => by
    show scan H cap (lo + 1) k (if s.1 < cap ∧ H lo then _ else s) = s
    rw [if_neg (fun q => h lo (Nat.le_refl _) (by omega) q.1 q.2)]
    exact scan_no H cap k (lo + 1) s (fun v a b => h v (by omega) (by omega))
theorem scan_one (H : Nat → Prop) [DecidablePred H] (cap lo : Nat) (s : Nat × Nat) : scan H cap lo 1 s = if s.1 < cap ∧ H lo then (s.1 + 1, if s.1 = 0 then lo else s.2) else s := rfl
theorem scan_le (H : Nat → Prop) [DecidablePred H] (cap : Nat) : ∀ k lo s, s.1 ≤ cap → s.1 ≤ (scan H cap lo k s).1 ∧ (scan H cap lo k s).1 ≤ cap
  | 0, _, s, h => ⟨Nat.le_refl _, h⟩
  | k + 1, lo, s, h => by
    show s.1 ≤ (scan H cap (lo + 1) k (if s.1 < cap ∧ H lo then _ else s)).1 ∧ _
    by_cases q : s.1 < cap ∧ H lo
    · have := scan_le H cap k (lo + 1) (s.1 + 1, if s.1 = 0 then lo else s.2) (by show s.1 + 1 ≤ cap; omega)
      rw [if_pos q]
      refine ⟨?_, ?_⟩
      · have h2 : s.1 + 1 ≤ _ := this.1
        omega
      · show (scan H cap (lo + 1) k (if s.1 < cap ∧ H lo then _ else s)).1 ≤ cap
        rw [if_pos q]; exact this.2
    · have := scan_le H cap k (lo + 1) s h
      rw [if_neg q]
      refine ⟨this.1, ?_⟩
      show (scan H cap (lo + 1) k (if s.1 < cap ∧ H lo then _ else s)).1 ≤ cap
      rw [if_neg q]; exact this.2
