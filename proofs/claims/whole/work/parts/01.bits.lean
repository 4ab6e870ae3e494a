def bt (x : Int32) (i : Nat) : Bool := x.toBitVec.getLsbD i
theorem b_ext {x y : Int32} (h : ∀ i, i < 32 → bt x i = bt y i) : x = y := Int32.toBitVec_inj.mp (BitVec.eq_of_getLsbD_eq (fun i hi => h i hi))
theorem b_or (x y : Int32) (i : Nat) : bt (x ||| y) i = (bt x i || bt y i) := by unfold bt; rw [Int32.toBitVec_or, BitVec.getLsbD_or]
theorem b_and (x y : Int32) (i : Nat) : bt (x &&& y) i = (bt x i && bt y i) := by unfold bt; rw [Int32.toBitVec_and, BitVec.getLsbD_and]
theorem b_big {x : Int32} {i : Nat} (h : 32 ≤ i) : bt x i = false := BitVec.getLsbD_of_ge _ _ h
theorem b_255 (i : Nat) : bt 255 i = decide (i < 8) := by
  rcases Nat.lt_or_ge i 32 with h | h
  · exact (by decide +kernel : ∀ i, i < 32 → bt 255 i = decide (i < 8)) i h
  · rw [b_big h, decide_eq_false (by omega)]
theorem bp_b (x : Int32) : x.toInt8.toInt32 &&& 255 = x &&& 255 := by
  apply Int32.toBitVec_inj.mp
  rw [Int32.toBitVec_and, Int32.toBitVec_and, Int8.toBitVec_toInt32, Int32.toBitVec_toInt8]
  apply BitVec.eq_of_getLsbD_eq
  intro i hi
  rw [BitVec.getLsbD_and, BitVec.getLsbD_and]
  have hm : ∀ i < 32, 8 ≤ i → (255 : Int32).toBitVec.getLsbD i = false := by decide
  rcases Nat.lt_or_ge i 8 with z | z
  · rw [BitVec.getLsbD_signExtend, BitVec.getLsbD_signExtend, if_pos z, if_pos hi]
    simp only [z, hi, decide_true, Bool.true_and]
  · rw [hm i hi z]; simp
theorem lz_and2 (x : Int32) : (x &&& 255) &&& 255 = x &&& 255 := by
  apply b_ext; intro i _
  rw [b_and, b_and, b_255]
  cases bt x i <;> cases decide (i < 8) <;> rfl
theorem lz_orD (x m : Int32) : (x ||| m) &&& 255 = (x &&& 255) ||| (m &&& 255) := by
  apply b_ext; intro i _
  rw [b_and, b_or, b_or, b_and, b_and, b_255]
  cases bt x i <;> cases bt m i <;> cases decide (i < 8) <;> rfl
/-- a byte store of x reads back, by its low eight bits, as x -/
theorem lz_nar (x : Int32) : vp_nar .byte x &&& 255 = x &&& 255 := by rw [vp_nar_byte, bp_b]
theorem lz_nar2 (x : Int32) : vp_nar .byte x.toInt8.toInt32 &&& 255 = x &&& 255 := by rw [lz_nar, bp_b]
theorem lz_or {x m : Int32} (hm : m &&& 255 = m) : vp_nar .byte (x ||| m).toInt8.toInt32 &&& 255 = (x &&& 255) ||| m := by
  rw [lz_nar2, lz_orD, hm]
/-- the low bytes of an array -/
def lz_lo (b : Nat → Int32) : Nat → Int32 := fun j => b j &&& 255
theorem lz_upd {b : Nat → Int32} {k : Nat} {x y : Int32} (h : x = y &&& 255) : upd (lz_lo b) k x = lz_lo (upd b k y) := by
  funext j
  unfold lz_lo upd
  by_cases e : j = k
  · rw [if_pos e, if_pos e, h]
  · rw [if_neg e, if_neg e]
theorem lz_up0 : (fun _ => 0 : Nat → Int32) = lz_lo (fun _ => 0) := by
  funext j; exact (by decide : (0 : Int32) = 0 &&& 255)
