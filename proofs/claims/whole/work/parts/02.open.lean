/-- both sides hold the same count, flag index and mask, and the component's cells are the low bytes of the reference's -/
def lz_R (u : SX) (v : SY) : Prop :=
  ∃ (w : Nat) (fi m : Int32) (b : Nat → Int32), w ≤ 16 ∧ (m = 0 ∨ vp_in fi 16) ∧ m &&& 255 = m ∧ u = (nI w, fi, m, lz_lo b) ∧ v = (nI w, fi, m, b)
theorem lz_16 : (16 : Int32) = nI 16 := by decide +kernel
theorem lz_fit {w p : Nat} (h : w + p ≤ 16) : nI w + nI p ≤ 16 := by
  rw [nI_add, lz_16]; exact nI_le h (by decide)
theorem lz_nofit {w p : Nat} (h : 16 < w + p) (hp : w + p < 2 ^ 31) : ¬ nI w + nI p ≤ 16 := by
  rw [nI_add, lz_16]; exact nI_ge h hp
/-- opening on both sides: refused by both, or both stand with one more state in common, with room for the item -/
theorem lz_open {w p : Nat} {q fi m : Int32} {b : Nat → Int32} (hq : q = nI p) (hp : p ≤ 2) (hw : w ≤ 16) (hm : m = 0 ∨ vp_in fi 16) (h255 : m &&& 255 = m) :
    ((∀ post : Int32 → SX → Prop, post 0 (nI w, fi, m, lz_lo b) → wpX_openFor post (nI w, fi, m, lz_lo b) q) ∧
     (∀ post : Int32 → SY → Prop, post 0 (nI w, fi, m, b) → wpY_open post (nI w, fi, m, b) q)) ∨
    (∃ (w' : Nat) (fi' m' : Int32) (b' : Nat → Int32), w' + p ≤ 16 ∧ vp_in fi' 16 ∧ m' &&& 255 = m' ∧
     (∀ post : Int32 → SX → Prop, post 1 (nI w', fi', m', lz_lo b') → wpX_openFor post (nI w, fi, m, lz_lo b) q) ∧
     (∀ post : Int32 → SY → Prop, post 1 (nI w', fi', m', b') → wpY_open post (nI w, fi, m, b) q)) := by
  have hq1 : q + 1 = nI (p + 1) := by rw [hq, nI_1]
  by_cases hm0 : m = 0
  · by_cases h : w + (p + 1) ≤ 16
    · have hc : nI w + (q + 1) ≤ 16 := by rw [hq1]; exact lz_fit h
      have hi : vp_in (nI w) 16 := vp_in_nI (by omega) (by decide)
      have hcl : (nI w).toNatClampNeg = w := nI_clamp (by omega)
      refine Or.inr ⟨w + 1, nI w, 1, upd b w (vp_nar .byte 0), by omega, hi, by decide, ?_, ?_⟩
      · intro post hpost
        refine br_t hm0 (br_t hc (br_t hm0 ⟨hi, fun a ea y ey => ?_⟩))
        have e1 : a = lz_lo (upd b w (vp_nar .byte 0)) := by
          rw [ea, hcl]; exact lz_upd (lz_nar 0).symm
        have e2 : y = nI (w + 1) := by rw [ey, nI_1]
        show post 1 (y, nI w, 1, a)
        rw [e1, e2]; exact hpost
      · intro post hpost
        refine br_t hm0 (fun x ex => ?_)
        subst ex
        refine br_t hc (br_t hm0 (fun y ey => ⟨hi, fun a ea => ?_⟩))
        have e1 : a = upd b w (vp_nar .byte 0) := by rw [ea, hcl]
        have e2 : y = nI (w + 1) := by rw [ey, nI_1]
        rw [e1, e2]; exact hpost
    · have hc : ¬ nI w + (q + 1) ≤ 16 := by rw [hq1]; exact lz_nofit (by omega) (by omega)
      refine Or.inl ⟨fun post hpost => br_t hm0 (br_f hc hpost), fun post hpost => br_t hm0 (fun x ex => ?_)⟩
      subst ex
      exact br_f hc hpost
  · by_cases h : w + p ≤ 16
    · have hc : nI w + q ≤ 16 := by rw [hq]; exact lz_fit h
      exact Or.inr ⟨w, fi, m, b, h, hm.resolve_left hm0, h255, fun post hpost => br_f hm0 (br_t hc (br_f hm0 hpost)), fun post hpost => br_f hm0 (br_t hc (br_f hm0 hpost))⟩
    · have hc : ¬ nI w + q ≤ 16 := by rw [hq]; exact lz_nofit (by omega) (by omega)
      exact Or.inl ⟨fun post hpost => br_f hm0 (br_f hc hpost), fun post hpost => br_f hm0 (br_f hc hpost)⟩
/-- one byte appended by the component: the low byte of what the reference stores -/
theorem lz_app {post : SX → Prop} {w : Nat} {fi m p y : Int32} {b : Nat → Int32} (hw : w < 16) (h : p &&& 255 = y &&& 255) (hp : post (nI (w + 1), fi, m, lz_lo (upd b w y))) : wpX_append post (nI w, fi, m, lz_lo b) p := by
  refine ⟨vp_in_nI hw (by decide), fun a ea z ez => ?_⟩
  have e1 : a = lz_lo (upd b w y) := by
    rw [ea, nI_clamp (by omega)]; exact lz_upd h
  have e2 : z = nI (w + 1) := by rw [ez, nI_1]
  rw [e1, e2]; exact hp
