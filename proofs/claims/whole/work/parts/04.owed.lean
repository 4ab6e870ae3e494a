def i_Rel (_ : Nat) (u : SX) (v : SY) : Prop := lz_R u v
theorem i_up {k : Nat} {u : SX} {v : SY} (h : i_Rel k u v) : i_Rel (k + 3) u v := h
theorem i_vc0 : wpX_init (fun u => wpY_init (fun v => i_Rel 0 u v)) :=
  ⟨0, -1, 0, fun _ => 0, by decide, Or.inl rfl, by decide, by rw [nI_0, ← lz_up0], by rw [nI_0]⟩
theorem i_vc_literal {k : Nat} {u : SX} {v : SY} (I : i_Rel k u v) (hk : k + 3 ≤ 1536) (v1 : Int32) : wpX_literal (fun r u' => wpY_literal (fun r' v' => r' = r ∧ i_Rel (k + 3) u' v') v v1) u v1 := lz_lit I v1
theorem i_vc_pair {k : Nat} {u : SX} {v : SY} (I : i_Rel k u v) (hk : k + 3 ≤ 1536) (v1 : Int32) (v2 : Int32) : wpX_pair (fun r u' => wpY_pair (fun r' v' => r' = r ∧ i_Rel (k + 3) u' v') v v1 v2) u v1 v2 := lz_pair I v1 v2
theorem i_vc_out {k : Nat} {u : SX} {v : SY} (I : i_Rel k u v) (hk : k + 3 ≤ 1536) (v1 : Int32) : wpX_out (fun r => wpY_out (fun r' => r' = r ∧ i_Rel (k + 3) u v) v v1) u v1 := lz_out I v1
theorem i_vc_size {k : Nat} {u : SX} {v : SY} (I : i_Rel k u v) (hk : k + 3 ≤ 1536) : wpX_size (fun r => wpY_size (fun r' => r' = r ∧ i_Rel (k + 3) u v) v) u := by
  obtain ⟨w, fi, m, b, hw, hm, h255, rfl, rfl⟩ := I
  exact ⟨rfl, w, fi, m, b, hw, hm, h255, rfl, rfl⟩
theorem i_vc_flagAt {k : Nat} {u : SX} {v : SY} (I : i_Rel k u v) (hk : k + 3 ≤ 1536) : wpX_flagAt (fun r => wpY_flagAt (fun r' => r' = r ∧ i_Rel (k + 3) u v) v) u := by
  obtain ⟨w, fi, m, b, hw, hm, h255, rfl, rfl⟩ := I
  exact ⟨rfl, w, fi, m, b, hw, hm, h255, rfl, rfl⟩
