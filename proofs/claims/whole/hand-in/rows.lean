section
def bt (x : Int32) (i : Nat) : Bool := x.toBitVec.getLsbD i
theorem b_ext {x y : Int32} (h : ∀ i, i < 32 → bt x i = bt y i) : x = y := Int32.toBitVec_inj.mp (BitVec.eq_of_getLsbD_eq (fun i hi => h i hi))
theorem b_or (x y : Int32) (i : Nat) : bt (x ||| y) i = (bt x i || bt y i) := by unfold bt; rw [Int32.toBitVec_or, BitVec.getLsbD_or]
theorem b_and (x y : Int32) (i : Nat) : bt (x &&& y) i = (bt x i && bt y i) := by unfold bt; rw [Int32.toBitVec_and, BitVec.getLsbD_and]
theorem b_big {x : Int32} {i : Nat} (h : 32 ≤ i) : bt x i = false := BitVec.getLsbD_of_ge _ _ h
theorem b_255 (i : Nat) : bt 255 i = decide (i < 8) := by
  rcases Nat.lt_or_ge i 32 with h | h
  · exact (by decide +kernel : ∀ i, i < 32 → bt 255 i = decide (i < 8)) i h
  · rw [b_big h, decide_eq_false (by omega)]
theorem bp_b (x : Int32) : x.toInt8.toInt32 &&& 255 = x &&& 255 := by
  apply Int32.toBitVec_inj.mp
  rw [Int32.toBitVec_and, Int32.toBitVec_and, Int8.toBitVec_toInt32, Int32.toBitVec_toInt8]
  apply BitVec.eq_of_getLsbD_eq
  intro i hi
  rw [BitVec.getLsbD_and, BitVec.getLsbD_and]
  have hm : ∀ i < 32, 8 ≤ i → (255 : Int32).toBitVec.getLsbD i = false := by decide
  rcases Nat.lt_or_ge i 8 with z | z
  · rw [BitVec.getLsbD_signExtend, BitVec.getLsbD_signExtend, if_pos z, if_pos hi]
    simp only [z, hi, decide_true, Bool.true_and]
  · rw [hm i hi z]; simp
theorem lz_and2 (x : Int32) : (x &&& 255) &&& 255 = x &&& 255 := by
  apply b_ext; intro i _
  rw [b_and, b_and, b_255]
  cases bt x i <;> cases decide (i < 8) <;> rfl
theorem lz_orD (x m : Int32) : (x ||| m) &&& 255 = (x &&& 255) ||| (m &&& 255) := by
  apply b_ext; intro i _
  rw [b_and, b_or, b_or, b_and, b_and, b_255]
  cases bt x i <;> cases bt m i <;> cases decide (i < 8) <;> rfl
/-- a byte store of x reads back, by its low eight bits, as x -/
theorem lz_nar (x : Int32) : vp_nar .byte x &&& 255 = x &&& 255 := by rw [vp_nar_byte, bp_b]
theorem lz_nar2 (x : Int32) : vp_nar .byte x.toInt8.toInt32 &&& 255 = x &&& 255 := by rw [lz_nar, bp_b]
theorem lz_or {x m : Int32} (hm : m &&& 255 = m) : vp_nar .byte (x ||| m).toInt8.toInt32 &&& 255 = (x &&& 255) ||| m := by
  rw [lz_nar2, lz_orD, hm]
/-- the low bytes of an array -/
def lz_lo (b : Nat → Int32) : Nat → Int32 := fun j => b j &&& 255
theorem lz_upd {b : Nat → Int32} {k : Nat} {x y : Int32} (h : x = y &&& 255) : upd (lz_lo b) k x = lz_lo (upd b k y) := by
  funext j
  unfold lz_lo upd
  by_cases e : j = k
  · rw [if_pos e, if_pos e, h]
  · rw [if_neg e, if_neg e]
theorem lz_up0 : (fun _ => 0 : Nat → Int32) = lz_lo (fun _ => 0) := by
  funext j; exact (by decide : (0 : Int32) = 0 &&& 255)
end
section
/-- both sides hold the same count, flag index and mask, and the component's cells are the low bytes of the reference's -/
def lz_R (u : SX) (v : SY) : Prop :=
  ∃ (w : Nat) (fi m : Int32) (b : Nat → Int32), w ≤ 16 ∧ (m = 0 ∨ vp_in fi 16) ∧ m &&& 255 = m ∧ u = (nI w, fi, m, lz_lo b) ∧ v = (nI w, fi, m, b)
theorem lz_16 : (16 : Int32) = nI 16 := by decide +kernel
theorem lz_fit {w p : Nat} (h : w + p ≤ 16) : nI w + nI p ≤ 16 := by
  rw [nI_add, lz_16]; exact nI_le h (by decide)
theorem lz_nofit {w p : Nat} (h : 16 < w + p) (hp : w + p < 2 ^ 31) : ¬ nI w + nI p ≤ 16 := by
  rw [nI_add, lz_16]; exact nI_ge h hp
/-- opening on both sides: refused by both, or both stand with one more state in common, with room for the item -/
theorem lz_open {w p : Nat} {q fi m : Int32} {b : Nat → Int32} (hq : q = nI p) (hp : p ≤ 2) (hw : w ≤ 16) (hm : m = 0 ∨ vp_in fi 16) (h255 : m &&& 255 = m) :
    ((∀ post : Int32 → SX → Prop, post 0 (nI w, fi, m, lz_lo b) → wpX_openFor post (nI w, fi, m, lz_lo b) q) ∧
     (∀ post : Int32 → SY → Prop, post 0 (nI w, fi, m, b) → wpY_open post (nI w, fi, m, b) q)) ∨
    (∃ (w' : Nat) (fi' m' : Int32) (b' : Nat → Int32), w' + p ≤ 16 ∧ vp_in fi' 16 ∧ m' &&& 255 = m' ∧
     (∀ post : Int32 → SX → Prop, post 1 (nI w', fi', m', lz_lo b') → wpX_openFor post (nI w, fi, m, lz_lo b) q) ∧
     (∀ post : Int32 → SY → Prop, post 1 (nI w', fi', m', b') → wpY_open post (nI w, fi, m, b) q)) := by
  have hq1 : q + 1 = nI (p + 1) := by rw [hq, nI_1]
  by_cases hm0 : m = 0
  · by_cases h : w + (p + 1) ≤ 16
    · have hc : nI w + (q + 1) ≤ 16 := by rw [hq1]; exact lz_fit h
      have hi : vp_in (nI w) 16 := vp_in_nI (by omega) (by decide)
      have hcl : (nI w).toNatClampNeg = w := nI_clamp (by omega)
      refine Or.inr ⟨w + 1, nI w, 1, upd b w (vp_nar .byte 0), by omega, hi, by decide, ?_, ?_⟩
      · intro post hpost
        refine br_t hm0 (br_t hc (br_t hm0 ⟨hi, fun a ea y ey => ?_⟩))
        have e1 : a = lz_lo (upd b w (vp_nar .byte 0)) := by
          rw [ea, hcl]; exact lz_upd (lz_nar 0).symm
        have e2 : y = nI (w + 1) := by rw [ey, nI_1]
        show post 1 (y, nI w, 1, a)
        rw [e1, e2]; exact hpost
      · intro post hpost
        refine br_t hm0 (fun x ex => ?_)
        subst ex
        refine br_t hc (br_t hm0 (fun y ey => ⟨hi, fun a ea => ?_⟩))
        have e1 : a = upd b w (vp_nar .byte 0) := by rw [ea, hcl]
        have e2 : y = nI (w + 1) := by rw [ey, nI_1]
        rw [e1, e2]; exact hpost
    · have hc : ¬ nI w + (q + 1) ≤ 16 := by rw [hq1]; exact lz_nofit (by omega) (by omega)
      refine Or.inl ⟨fun post hpost => br_t hm0 (br_f hc hpost), fun post hpost => br_t hm0 (fun x ex => ?_)⟩
      subst ex
      exact br_f hc hpost
  · by_cases h : w + p ≤ 16
    · have hc : nI w + q ≤ 16 := by rw [hq]; exact lz_fit h
      exact Or.inr ⟨w, fi, m, b, h, hm.resolve_left hm0, h255, fun post hpost => br_f hm0 (br_t hc (br_f hm0 hpost)), fun post hpost => br_f hm0 (br_t hc (br_f hm0 hpost))⟩
    · have hc : ¬ nI w + q ≤ 16 := by rw [hq]; exact lz_nofit (by omega) (by omega)
      exact Or.inl ⟨fun post hpost => br_f hm0 (br_f hc hpost), fun post hpost => br_f hm0 (br_f hc hpost)⟩
/-- one byte appended by the component: the low byte of what the reference stores -/
theorem lz_app {post : SX → Prop} {w : Nat} {fi m p y : Int32} {b : Nat → Int32} (hw : w < 16) (h : p &&& 255 = y &&& 255) (hp : post (nI (w + 1), fi, m, lz_lo (upd b w y))) : wpX_append post (nI w, fi, m, lz_lo b) p := by
  refine ⟨vp_in_nI hw (by decide), fun a ea z ez => ?_⟩
  have e1 : a = lz_lo (upd b w y) := by
    rw [ea, nI_clamp (by omega)]; exact lz_upd h
  have e2 : z = nI (w + 1) := by rw [ez, nI_1]
  rw [e1, e2]; exact hp
end
section
theorem lz_lit {u : SX} {v : SY} (I : lz_R u v) (v1 : Int32) : wpX_literal (fun r u' => wpY_literal (fun r' v' => r' = r ∧ lz_R u' v') v v1) u v1 := by
  obtain ⟨w, fi, m, b, hw, hm, h255, rfl, rfl⟩ := I
  have J : lz_R (nI w, fi, m, lz_lo b) (nI w, fi, m, b) := ⟨w, fi, m, b, hw, hm, h255, rfl, rfl⟩
  rcases lz_open (q := 1) (p := 1) (b := b) (by decide +kernel) (by decide) hw hm h255 with ⟨hX, hY⟩ | ⟨w', fi', m', b', hw', hf, hm', hX, hY⟩
  · unfold wpX_literal; dsimp only
    refine hX _ (br_t rfl ?_)
    unfold wpY_literal; dsimp only
    exact hY _ (br_t rfl ⟨rfl, J⟩)
  · have hcl : (nI w').toNatClampNeg = w' := nI_clamp (by omega)
    unfold wpX_literal; dsimp only
    refine hX _ (br_f (by decide) ⟨hf, hf, fun a ea => ?_⟩)
    have e : a = lz_lo (upd b' fi'.toNatClampNeg (vp_nar .byte (b' fi'.toNatClampNeg ||| m').toInt8.toInt32)) := ea.trans (lz_upd (lz_or hm').symm)
    rw [e]
    refine lz_app (by omega) (lz_nar2 v1).symm ?_
    intro mm emm
    dsimp only
    unfold wpY_literal; dsimp only
    refine hY _ (br_f (by decide) ⟨hf, hf, fun a2 ea2 y ey => ⟨vp_in_nI (by omega) (by decide), fun a3 ea3 m3 em3 => ?_⟩⟩)
    have ey' : y = nI (w' + 1) := by rw [ey, nI_1]
    rw [hcl] at ea3
    exact ⟨ey', w' + 1, fi', mm, _, by omega, Or.inr hf, by rw [emm, lz_and2], rfl, by rw [ey', em3, emm, ea3, ea2]⟩
theorem lz_pair {u : SX} {v : SY} (I : lz_R u v) (v1 v2 : Int32) : wpX_pair (fun r u' => wpY_pair (fun r' v' => r' = r ∧ lz_R u' v') v v1 v2) u v1 v2 := by
  obtain ⟨w, fi, m, b, hw, hm, h255, rfl, rfl⟩ := I
  have J : lz_R (nI w, fi, m, lz_lo b) (nI w, fi, m, b) := ⟨w, fi, m, b, hw, hm, h255, rfl, rfl⟩
  by_cases h1 : v1 < 0
  · exact br_t h1 (br_t h1 ⟨rfl, J⟩)
  by_cases h2 : v1 ≤ 4095
  · by_cases h3 : v2 < 3
    · exact br_f h1 (br_t h2 (br_t h3 (br_f h1 (br_t h2 (br_t h3 ⟨rfl, J⟩)))))
    by_cases h4 : v2 ≤ 18
    · refine br_f h1 (br_t h2 (br_f h3 (br_t h4 ?_)))
      rcases lz_open (q := 2) (p := 2) (b := b) (by decide +kernel) (by decide) hw hm h255 with ⟨hX, hY⟩ | ⟨w', fi', m', b', hw', hf, hm', hX, hY⟩
      · refine hX _ (br_t rfl ?_)
        refine br_f h1 (br_t h2 (br_f h3 (br_t h4 ?_)))
        exact hY _ (br_t rfl ⟨rfl, J⟩)
      · have hcl : (nI w').toNatClampNeg = w' := nI_clamp (by omega)
        have hcl1 : (nI (w' + 1)).toNatClampNeg = w' + 1 := nI_clamp (by omega)
        refine hX _ (br_f (by decide) ?_)
        refine lz_app (by omega) (lz_nar2 v1).symm ?_
        refine lz_app (by omega) (lz_nar2 _).symm ?_
        intro mm emm
        refine br_f h1 (br_t h2 (br_f h3 (br_t h4 ?_)))
        refine hY _ (br_f (by decide) (fun y ey => ⟨vp_in_nI (by omega) (by decide), fun a ea y2 ey2 => ?_⟩))
        have ey' : y = nI (w' + 1) := by rw [ey, nI_1]
        have ey2' : y2 = nI (w' + 1 + 1) := by rw [ey2, ey', nI_1]
        rw [hcl] at ea
        refine ⟨by rw [ey']; exact vp_in_nI (by omega) (by decide), fun a2 ea2 m3 em3 => ?_⟩
        rw [ey', hcl1, ea] at ea2
        exact ⟨ey2', w' + 1 + 1, fi', mm, _, by omega, Or.inr hf, by rw [emm, lz_and2], rfl, by rw [ey2', em3, emm, ea2]⟩
    · exact br_f h1 (br_t h2 (br_f h3 (br_f h4 (br_f h1 (br_t h2 (br_f h3 (br_f h4 ⟨rfl, J⟩)))))))
  · exact br_f h1 (br_f h2 (br_f h1 (br_f h2 ⟨rfl, J⟩)))
theorem lz_out {u : SX} {v : SY} (I : lz_R u v) (v1 : Int32) : wpX_out (fun r => wpY_out (fun r' => r' = r ∧ lz_R u v) v v1) u v1 := by
  obtain ⟨w, fi, m, b, hw, hm, h255, rfl, rfl⟩ := I
  have J : lz_R (nI w, fi, m, lz_lo b) (nI w, fi, m, b) := ⟨w, fi, m, b, hw, hm, h255, rfl, rfl⟩
  by_cases h1 : v1 < 0
  · exact br_t h1 (br_t h1 ⟨rfl, J⟩)
  by_cases h2 : v1 < nI w
  · have hi : vp_in v1 16 := by
      obtain ⟨j, hj, rfl⟩ := nI_of h1
      have hjw : j < w := (nI_ltI hj (by omega)).mp h2
      exact vp_in_nI (by omega) (by decide)
    exact br_f h1 (br_t h2 ⟨hi, br_f h1 (br_t h2 ⟨hi, rfl, J⟩)⟩)
  · exact br_f h1 (br_f h2 (br_f h1 (br_f h2 ⟨rfl, J⟩)))
end
section
def i_Rel (_ : Nat) (u : SX) (v : SY) : Prop := lz_R u v
theorem i_up {k : Nat} {u : SX} {v : SY} (h : i_Rel k u v) : i_Rel (k + 3) u v := h
theorem i_vc0 : wpX_init (fun u => wpY_init (fun v => i_Rel 0 u v)) :=
  ⟨0, -1, 0, fun _ => 0, by decide, Or.inl rfl, by decide, by rw [nI_0, ← lz_up0], by rw [nI_0]⟩
theorem i_vc_literal {k : Nat} {u : SX} {v : SY} (I : i_Rel k u v) (hk : k + 3 ≤ 1536) (v1 : Int32) : wpX_literal (fun r u' => wpY_literal (fun r' v' => r' = r ∧ i_Rel (k + 3) u' v') v v1) u v1 := lz_lit I v1
theorem i_vc_pair {k : Nat} {u : SX} {v : SY} (I : i_Rel k u v) (hk : k + 3 ≤ 1536) (v1 : Int32) (v2 : Int32) : wpX_pair (fun r u' => wpY_pair (fun r' v' => r' = r ∧ i_Rel (k + 3) u' v') v v1 v2) u v1 v2 := lz_pair I v1 v2
theorem i_vc_out {k : Nat} {u : SX} {v : SY} (I : i_Rel k u v) (hk : k + 3 ≤ 1536) (v1 : Int32) : wpX_out (fun r => wpY_out (fun r' => r' = r ∧ i_Rel (k + 3) u v) v v1) u v1 := lz_out I v1
theorem i_vc_size {k : Nat} {u : SX} {v : SY} (I : i_Rel k u v) (hk : k + 3 ≤ 1536) : wpX_size (fun r => wpY_size (fun r' => r' = r ∧ i_Rel (k + 3) u v) v) u := by
  obtain ⟨w, fi, m, b, hw, hm, h255, rfl, rfl⟩ := I
  exact ⟨rfl, w, fi, m, b, hw, hm, h255, rfl, rfl⟩
theorem i_vc_flagAt {k : Nat} {u : SX} {v : SY} (I : i_Rel k u v) (hk : k + 3 ≤ 1536) : wpX_flagAt (fun r => wpY_flagAt (fun r' => r' = r ∧ i_Rel (k + 3) u v) v) u := by
  obtain ⟨w, fi, m, b, hw, hm, h255, rfl, rfl⟩ := I
  exact ⟨rfl, w, fi, m, b, hw, hm, h255, rfl, rfl⟩
end
