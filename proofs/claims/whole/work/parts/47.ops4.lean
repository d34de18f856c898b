/-! PURE PART: decoded, bucket -/
theorem op_decoded {G : GS} {B : BS} {v1 v2 : Int32} {P : Int32 → Int32 → Prop} (h : Inv G B) (k : ∀ r, P r r) : wX5_decoded v1 v2 G (fun r => wX6_decoded v1 v2 G (fun r2 => P r r2)) := by
  obtain ⟨p, m, n, d, b, q, t, hT, hR, hS, hK⟩ := h
  obtain ⟨-, -, -, ht, ⟨c0, c1, c2, c3⟩, ⟨d0, d1, d2, d3⟩, -, -, h9⟩ := hK
  unfold wX5_decoded
  rw [c3]
  have neg : v1 < 0 → wX6_decoded v1 v2 G (fun r2 => P (-1000000001) r2) := fun h => ⟨fun _ => k _, fun g => absurd h g⟩
  have bad2 : ¬ v1 < 0 → ¬ inR v2 2 → wX6_decoded v1 v2 G (fun r2 => P (-1000000001) r2) := fun h g => ⟨fun x => absurd x h, fun _ => s_in0 (hi := 1) 2 (by omega) (by omega) rfl (fun _ => ⟨fun e => absurd rfl e, fun _ => k _⟩) (fun x => absurd x g)⟩
  have ok2 : ∀ {Q : Int32 → Prop}, ¬ v1 < 0 → inR v2 2 → ((nI t ≤ v1 → Q (-1000000004 : Int32)) ∧ (¬ nI t ≤ v1 → ((v1 < (100 : Int32) → ((¬ v2 = 0 → (vp_in v1 100 ∧ Q (G 51 (cl v1)))) ∧ (v2 = 0 → (vp_in v1 100 ∧ Q (G 50 (cl v1)))))) ∧ (¬ v1 < (100 : Int32) → Q (-1000000004 : Int32))))) → wX6_decoded v1 v2 G Q := fun {Q} h g hq => ⟨fun x => absurd x h, fun _ => s_in0 (hi := 1) 2 (by omega) (by omega) rfl (fun x => absurd g x) (fun _ => ⟨fun _ => by rw [d3]; exact hq, fun e => absurd e (by decide)⟩)⟩
  refine ⟨neg, fun h1 => ⟨fun h2 => bad2 h1 (inR_neg (by omega) h2), fun h2 => ⟨fun h3 => ?_, fun h3 => bad2 h1 (fun x => h3 ((inR_iff (n := 2) (by omega) (by omega)).mpr x).2)⟩⟩⟩
  have hv2 : inR v2 2 := (inR_iff (n := 2) (by omega) (by omega)).mp ⟨Int32.not_lt.mp h2, h3⟩
  refine ⟨fun g => ok2 h1 hv2 ⟨fun _ => k _, fun x => absurd g x⟩, fun g => ⟨fun g2 => ⟨fun e => ?_, fun e => ?_⟩, fun g2 => ok2 h1 hv2 ⟨fun x => absurd x g, fun _ => ⟨fun x => absurd x g2, fun _ => k _⟩⟩⟩⟩
  · obtain ⟨j, hj, rfl⟩ := inR_of (n := 100) (by omega) h1 (Int32.not_le.mpr g2)
    refine ⟨vp_in_nI hj (by omega), ok2 h1 hv2 ⟨fun x => absurd x g, fun _ => ⟨fun _ => ⟨fun _ => ⟨vp_in_nI hj (by omega), ?_⟩, fun x => absurd x e⟩, fun x => absurd g2 x⟩⟩⟩
    rw [zc (by omega)]
    have hjt : j < t := by
      rcases Nat.lt_or_ge j t with z | z
      · exact z
      · exact absurd (nI_le z (by omega)) g
    rw [(h9 j hjt hj).2]
    exact k _
  · obtain ⟨j, hj, rfl⟩ := inR_of (n := 100) (by omega) h1 (Int32.not_le.mpr g2)
    refine ⟨vp_in_nI hj (by omega), ok2 h1 hv2 ⟨fun x => absurd x g, fun _ => ⟨fun _ => ⟨fun x => absurd e x, fun _ => ⟨vp_in_nI hj (by omega), ?_⟩⟩, fun x => absurd g2 x⟩⟩⟩
    rw [zc (by omega)]
    have hjt : j < t := by
      rcases Nat.lt_or_ge j t with z | z
      · exact z
      · exact absurd (nI_le z (by omega)) g
    rw [(h9 j hjt hj).1]
    exact k _
theorem op_bucket {G : GS} {B : BS} {v1 v2 v3 : Int32} {P : Int64 → Int64 → Prop} (h : Inv G B) (k : ∀ r, P r r) : wX5_bucket v1 v2 v3 G B (fun r => wX6_bucket v1 v2 v3 G B (fun r2 => P r r2)) := by
  obtain ⟨p, m, n, d, b, q, t, hT, hR, hS, hK⟩ := h
  obtain ⟨⟨hd0, hd⟩, ⟨hb0, hb⟩, -, -, ⟨c0, c1, c2, c3⟩, ⟨d0, d1, d2, d3⟩, h7, -, -⟩ := hK
  have bad : ¬ (inR v1 d ∧ inR v2 b ∧ inR v3 3) → wX6_bucket v1 v2 v3 G B (fun r2 => P (-1000000000000000000) r2) := fun hbad =>
    s_in0 d hd0 (by omega) (by rw [d0, nI_m1 hd0]) (fun _ => ⟨fun _ => k _, fun e => absurd rfl e⟩) (fun x => ⟨fun e => absurd e (by decide), fun _ => s_in0 b (by omega) (by omega) (by rw [d1, nI_m1 (by omega)]) (fun _ => ⟨fun _ => k _, fun e => absurd rfl e⟩) (fun y => ⟨fun e => absurd e (by decide), fun _ => s_in0 (hi := 2) 3 (by omega) (by omega) rfl (fun _ => ⟨fun _ => k _, fun e => absurd rfl e⟩) (fun z => absurd ⟨x, y, z⟩ hbad)⟩)⟩)
  unfold wX5_bucket
  rw [c0, c1]
  refine ⟨fun g => bad (fun x => inR_neg (by omega) g x.1), fun g1 => ⟨fun g => bad (fun x => inR_big (by omega) g x.1), fun g2 => ⟨fun g => bad (fun x => inR_neg (by omega) g x.2.1), fun g3 => ⟨fun g => bad (fun x => inR_big (by omega) g x.2.1), fun g4 => ⟨fun g => bad (fun x => inR_neg (by omega) g x.2.2), fun g5 => ⟨fun g6 => ?_, fun g => bad (fun x => inR_big (n := 3) (by omega) (Int32.not_lt.mp g) x.2.2)⟩⟩⟩⟩⟩⟩
  have k1 := inR_of (n := d) (by omega) g1 g2
  have k2 := inR_of (n := b) (by omega) g3 g4
  have k3 := inR_of (n := 3) (by omega) g5 (Int32.not_le.mpr g6)
  obtain ⟨i, hi, rfl⟩ := id k1
  obtain ⟨j, hj, rfl⟩ := id k2
  obtain ⟨l, hl, rfl⟩ := id k3
  have e1 : ((nI i * (32 : Int32)) + nI j) * (3 : Int32) + nI l = nI ((i * 32 + j) * 3 + l) := by
    rw [show (32 : Int32) = nI 32 from rfl, show (3 : Int32) = nI 3 from rfl, pk_mul, nI_add, pk_mul, nI_add]
  have e2 : (((96 : Int32) * nI i) + ((3 : Int32) * nI j)) + nI l = nI ((i * 32 + j) * 3 + l) := by
    rw [show (96 : Int32) = nI 96 from rfl, show (3 : Int32) = nI 3 from rfl, pk_mul, pk_mul, nI_add, nI_add]
    congr 1
    omega
  show vp_in (((nI i * (32 : Int32)) + nI j) * (3 : Int32) + nI l) 384 ∧ _
  rw [e1]
  refine ⟨vp_in_nI (by omega) (by omega), ?_⟩
  rw [zc (by omega)]
  refine s_in0 d hd0 (by omega) (by rw [d0, nI_m1 hd0]) (fun x => absurd k1 x) (fun _ => ⟨fun e => absurd e (by decide), fun _ => s_in0 b (by omega) (by omega) (by rw [d1, nI_m1 (by omega)]) (fun x => absurd k2 x) (fun _ => ⟨fun e => absurd e (by decide), fun _ => s_in0 (hi := 2) 3 (by omega) (by omega) rfl (fun x => absurd k3 x) (fun _ => ⟨fun e => absurd e (by decide), fun _ => ?_⟩)⟩)⟩)
  rw [e2]
  refine ⟨vp_in_nI (by omega) (by omega), ?_⟩
  rw [zc (by omega), h7 _ (by omega)]
  exact k _
