/-! PURE PART: add, decode -/
theorem TI_45 {G G' : GS} {p m n : Nat} (h : ∀ c, (c = 1 ∨ c = 9 ∨ c = 46 ∨ (32 ≤ c ∧ c < 38)) → G' c = G c) (h45 : ∀ j, j < 3 → G' 45 j = G 45 j) (hT : TI G p m n) : TI G' p m n := by
  obtain ⟨h1, h2, h3, h4, h5, h6, h7⟩ := hT
  refine ⟨h1, h2, h3, ?_, ?_, fun i j hi hj => ?_, fun a x y => ?_⟩
  · rw [h 1 (by omega)]; exact h4
  · rw [h45 0 (by omega), h45 1 (by omega), h45 2 (by omega)]; exact h5
  · rw [h (32 + i) (by omega), h 46 (by omega)]; exact h6 i j hi hj
  · rw [h 9 (by omega)]; exact h7 a x y
theorem op_add {G : GS} {B : BS} {v1 v2 : Int32} {P : Int32 → Int32 → GS → BS → Prop} (h : Inv G B) (k : ∀ r G2 B2, Inv G2 B2 → P r r G2 B2) : wX5_add v1 v2 G B (fun r G1 B1 => wX6_add v1 v2 G1 B1 (fun r2 G2 B2 => P r r2 G2 B2)) := by
  have hI := h
  obtain ⟨p, m, n, d, b, q, t, hT, hR, hS, hK⟩ := h
  obtain ⟨⟨hd0, hd⟩, ⟨hb0, hb⟩, hq, ht, ⟨c0, c1, c2, c3⟩, ⟨d0, d1, d2, d3⟩, h7, h8, h9⟩ := hK
  have bad : ¬ (inR v1 1000000 ∧ ((-1000 : Int32) ≤ v2 ∧ v2 ≤ 1000)) → wX6_add v1 v2 G B (fun r2 G2 B2 => P (-1) r2 G2 B2) := fun hb =>
    s_in0 (hi := 999999) 1000000 (by omega) (by omega) rfl (fun _ => ⟨fun _ => k _ _ _ hI, fun e => absurd rfl e⟩) (fun x => ⟨fun e => absurd e (by decide), fun _ => s_inI (lo := -1000) (hi := 1000) (fun _ => ⟨fun e => absurd rfl e, fun _ => k _ _ _ hI⟩) (fun z w => absurd ⟨x, z, w⟩ hb)⟩)
  have good : ∀ {G' : GS} {B' : BS} {Q : Int32 → GS → BS → Prop}, inR v1 1000000 → ((-1000 : Int32) ≤ v2 ∧ v2 ≤ 1000) → ((¬ (G' 45 8) = (100000 : Int32) → (wX6_adds (0 : Int32) v1 v2.toInt64 G' B' (fun B45 => (∀ G55 : GS, G55 = wr G' 45 8 ((G' 45 8) + (1 : Int32)) → Q (G55 45 8) G55 B45)))) ∧ ((G' 45 8) = (100000 : Int32) → Q (-3 : Int32) G' B')) → wX6_add v1 v2 G' B' Q := fun {G' B' Q} x y hq =>
    s_in0 (hi := 999999) 1000000 (by omega) (by omega) rfl (fun g => absurd x g) (fun _ => ⟨fun e => absurd e (by decide), fun _ => s_inI (lo := -1000) (hi := 1000) (fun g => absurd y g) (fun _ _ => ⟨fun _ => hq, fun e => absurd e (by decide)⟩)⟩)
  unfold wX5_add
  rw [c2]
  refine ⟨fun g => bad (fun x => inR_neg (by omega) g x.1), fun g1 => ⟨fun g => bad (fun x => ?_), fun g2 => ⟨fun g => bad (fun x => Int32.not_lt.mpr x.2.1 g), fun g3 => ⟨fun g4 => ?_, fun g => bad (fun x => g x.2.2)⟩⟩⟩⟩
  · exact Int32.not_lt.mpr ((inR_iff (n := 1000000) (by omega) (by omega)).mpr x.1).2 g
  have y1 : inR v1 1000000 := (inR_iff (n := 1000000) (by omega) (by omega)).mp ⟨Int32.not_lt.mp g1, Int32.not_lt.mp g2⟩
  have y2 : (-1000 : Int32) ≤ v2 ∧ v2 ≤ 1000 := ⟨Int32.not_lt.mp g3, g4⟩
  refine ⟨fun g5 => ?_, fun g5 => good y1 y2 ⟨fun e => absurd ?_ e, fun _ => k _ _ _ hI⟩⟩
  · have hq2 : q < 100000 := (nI_ltI (by omega) (by omega)).mp g5
    obtain ⟨pl, hpl, rfl⟩ := id y1
    refine s_jnX (a := 16) (d := d) (b := b) rfl hd hb0 hb hpl c0 c1 (fun l hl => h8 l hl) (fun B1 f1 f2 G1 e1 => ?_)
    have f3 : ∀ c, c ≠ 5 → G1 c = G c := fun c hc => by rw [e1, wr_ne hc]
    refine good y1 y2 ⟨fun _ => ?_, fun e => absurd e ?_⟩
    · refine s_jnM (o := 0) (d := d) (b := b) rfl (by omega) hd hb0 hb hpl (by rw [f3 45 (by omega), d0]) (by rw [f3 45 (by omega), d1]) (fun l hl => ?_) (fun B2 g1 g2 _ G2 e2 => ?_)
      · show ∃ z, z < 1000003 ∧ B1 49 (0 + (3 * l + 2)) = lN z
        rw [Nat.zero_add, f1 49 (by omega), ← h7 _ (by omega)]
        exact h8 l hl
      · have f4 : ∀ c, c ≠ 5 → c ≠ 45 → G2 c = G c := fun c a b => by rw [e2, wr_ne b, f3 c a]
        have f5 : G2 5 = G1 5 := by rw [e2, wr_ne (by omega)]
        have r1 : G1 5 2 = nI (q + 1) := by rw [e1, wr_ss, c2, z1]
        have r2 : G2 45 8 = nI (q + 1) := by rw [e2, wr_ss, f3 45 (by omega), d2, z1]
        rw [r1, r2]
        have f6 : ∀ j, j ≠ 8 → G2 45 j = G 45 j := fun j hj => by rw [e2, wr_sn hj, f3 45 (by omega)]
        have f7 : ∀ j, j ≠ 2 → G2 5 j = G 5 j := fun j hj => by rw [f5, e1, wr_sn hj]
        refine k _ _ _ ⟨p, m, n, d, b, q + 1, t, TI_45 (fun c hc => f4 c (by omega) (by omega)) (fun j hj => f6 j (by omega)) hT, RI_fr (fun c hc => f4 c (by omega) (by omega)) hR, SI_fr (fun c hc => f4 c (by omega) (by omega)) hS, ⟨hd0, hd⟩, ⟨hb0, hb⟩, by omega, ht, ?_, ?_, fun j hj => ?_, fun l hl => ?_, fun j x y => ?_⟩
        · rw [f7 0 (by omega), f7 1 (by omega), f7 3 (by omega), f5]; exact ⟨c0, c1, r1, c3⟩
        · rw [f6 6 (by omega), f6 7 (by omega), f6 10 (by omega)]; exact ⟨d0, d1, r2, d3⟩
        · have := g2 j
          rw [Nat.zero_add] at this
          rw [g1 16 (by omega), f2 j, this]
          refine jn_congr hb0 hb (fun i hi => ?_) d hd j hj
          show B 16 i = B1 49 (0 + i)
          rw [Nat.zero_add, f1 49 (by omega)]; exact h7 i hi
        · rw [g1 16 (by omega), f2]
          exact jn_TH (F := B 16) (fun l hl => h8 l hl) d l hl
        · rw [f4 18 (by omega) (by omega), f4 19 (by omega) (by omega), f4 50 (by omega) (by omega), f4 51 (by omega) (by omega)]; exact h9 j x y
    · rw [f3 45 (by omega), d2]
      intro e
      have := (nI_eq (a := q) (b := 100000) (by omega) (by omega)).mp e
      omega
  · rw [d2]
    have : q = 100000 := by
      rcases Nat.lt_or_ge q 100000 with z | z
      · exact absurd (nI_lt (b := 100000) z (by omega)) g5
      · omega
    rw [this]; rfl
