theorem lz_lit {u : SX} {v : SY} (I : lz_R u v) (v1 : Int32) : wpX_literal (fun r u' => wpY_literal (fun r' v' => r' = r ∧ lz_R u' v') v v1) u v1 := by
  obtain ⟨w, fi, m, b, hw, hm, h255, rfl, rfl⟩ := I
  have J : lz_R (nI w, fi, m, lz_lo b) (nI w, fi, m, b) := ⟨w, fi, m, b, hw, hm, h255, rfl, rfl⟩
  rcases lz_open (q := 1) (p := 1) (b := b) (by decide +kernel) (by decide) hw hm h255 with ⟨hX, hY⟩ | ⟨w', fi', m', b', hw', hf, hm', hX, hY⟩
  · unfold wpX_literal; dsimp only
    refine hX _ (br_t rfl ?_)
    unfold wpY_literal; dsimp only
    exact hY _ (br_t rfl ⟨rfl, J⟩)
  · have hcl : (nI w').toNatClampNeg = w' := nI_clamp (by omega)
    unfold wpX_literal; dsimp only
    refine hX _ (br_f (by decide) ⟨hf, hf, fun a ea => ?_⟩)
    have e : a = lz_lo (upd b' fi'.toNatClampNeg (vp_nar .byte (b' fi'.toNatClampNeg ||| m').toInt8.toInt32)) := ea.trans (lz_upd (lz_or hm').symm)
    rw [e]
    refine lz_app (by omega) (lz_nar2 v1).symm ?_
    intro mm emm
    dsimp only
    unfold wpY_literal; dsimp only
    refine hY _ (br_f (by decide) ⟨hf, hf, fun a2 ea2 y ey => ⟨vp_in_nI (by omega) (by decide), fun a3 ea3 m3 em3 => ?_⟩⟩)
    have ey' : y = nI (w' + 1) := by rw [ey, nI_1]
    rw [hcl] at ea3
    exact ⟨ey', w' + 1, fi', mm, _, by omega, Or.inr hf, by rw [emm, lz_and2], rfl, by rw [ey', em3, emm, ea3, ea2]⟩
theorem lz_pair {u : SX} {v : SY} (I : lz_R u v) (v1 v2 : Int32) : wpX_pair (fun r u' => wpY_pair (fun r' v' => r' = r ∧ lz_R u' v') v v1 v2) u v1 v2 := by
  obtain ⟨w, fi, m, b, hw, hm, h255, rfl, rfl⟩ := I
  have J : lz_R (nI w, fi, m, lz_lo b) (nI w, fi, m, b) := ⟨w, fi, m, b, hw, hm, h255, rfl, rfl⟩
  by_cases h1 : v1 < 0
  · exact br_t h1 (br_t h1 ⟨rfl, J⟩)
  by_cases h2 : v1 ≤ 4095
  · by_cases h3 : v2 < 3
    · exact br_f h1 (br_t h2 (br_t h3 (br_f h1 (br_t h2 (br_t h3 ⟨rfl, J⟩)))))
    by_cases h4 : v2 ≤ 18
    · refine br_f h1 (br_t h2 (br_f h3 (br_t h4 ?_)))
      rcases lz_open (q := 2) (p := 2) (b := b) (by decide +kernel) (by decide) hw hm h255 with ⟨hX, hY⟩ | ⟨w', fi', m', b', hw', hf, hm', hX, hY⟩
      · refine hX _ (br_t rfl ?_)
        refine br_f h1 (br_t h2 (br_f h3 (br_t h4 ?_)))
        exact hY _ (br_t rfl ⟨rfl, J⟩)
      · have hcl : (nI w').toNatClampNeg = w' := nI_clamp (by omega)
        have hcl1 : (nI (w' + 1)).toNatClampNeg = w' + 1 := nI_clamp (by omega)
        refine hX _ (br_f (by decide) ?_)
        refine lz_app (by omega) (lz_nar2 v1).symm ?_
        refine lz_app (by omega) (lz_nar2 _).symm ?_
        intro mm emm
        refine br_f h1 (br_t h2 (br_f h3 (br_t h4 ?_)))
        refine hY _ (br_f (by decide) (fun y ey => ⟨vp_in_nI (by omega) (by decide), fun a ea y2 ey2 => ?_⟩))
        have ey' : y = nI (w' + 1) := by rw [ey, nI_1]
        have ey2' : y2 = nI (w' + 1 + 1) := by rw [ey2, ey', nI_1]
        rw [hcl] at ea
        refine ⟨by rw [ey']; exact vp_in_nI (by omega) (by decide), fun a2 ea2 m3 em3 => ?_⟩
        rw [ey', hcl1, ea] at ea2
        exact ⟨ey2', w' + 1 + 1, fi', mm, _, by omega, Or.inr hf, by rw [emm, lz_and2], rfl, by rw [ey2', em3, emm, ea2]⟩
    · exact br_f h1 (br_t h2 (br_f h3 (br_f h4 (br_f h1 (br_t h2 (br_f h3 (br_f h4 ⟨rfl, J⟩)))))))
  · exact br_f h1 (br_f h2 (br_f h1 (br_f h2 ⟨rfl, J⟩)))
theorem lz_out {u : SX} {v : SY} (I : lz_R u v) (v1 : Int32) : wpX_out (fun r => wpY_out (fun r' => r' = r ∧ lz_R u v) v v1) u v1 := by
  obtain ⟨w, fi, m, b, hw, hm, h255, rfl, rfl⟩ := I
  have J : lz_R (nI w, fi, m, lz_lo b) (nI w, fi, m, b) := ⟨w, fi, m, b, hw, hm, h255, rfl, rfl⟩
  by_cases h1 : v1 < 0
  · exact br_t h1 (br_t h1 ⟨rfl, J⟩)
  by_cases h2 : v1 < nI w
  · have hi : vp_in v1 16 := by
      obtain ⟨j, hj, rfl⟩ := nI_of h1
      have hjw : j < w := (nI_ltI hj (by omega)).mp h2
      exact vp_in_nI (by omega) (by decide)
    exact br_f h1 (br_t h2 ⟨hi, br_f h1 (br_t h2 ⟨hi, rfl, J⟩)⟩)
  · exact br_f h1 (br_f h2 (br_f h1 (br_f h2 ⟨rfl, J⟩)))
