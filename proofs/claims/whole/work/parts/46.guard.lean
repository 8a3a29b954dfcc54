/-! ===== guards of both sides ===== -/
def z_in (v a b : Int32) : Prop := ¬ v < a ∧ ¬ b < v
theorem z_inD (v a b : Int32) : Decidable (z_in v a b) = Decidable (¬ v < a ∧ ¬ b < v) := rfl
def z_inq (v a b : Int32) : Int32 := if v < a then 0 else if b < v then 0 else 1
theorem z_inq0 {v a b : Int32} : z_inq v a b = 0 ↔ ¬ (a.toInt ≤ v.toInt ∧ v.toInt ≤ b.toInt) := by
  unfold z_inq
  have h1 := q_lt_iff v a
  have h2 := q_lt_iff b v
  by_cases c1 : v < a
  · rw [if_pos c1]; have := h1.mp c1; constructor
    · intro _ z; omega
    · intro _; rfl
  · rw [if_neg c1]
    have d1 : ¬ v.toInt < a.toInt := fun z => c1 (h1.mpr z)
    by_cases c2 : b < v
    · rw [if_pos c2]; have := h2.mp c2; constructor
      · intro _ z; omega
      · intro _; rfl
    · rw [if_neg c2]
      have d2 : ¬ b.toInt < v.toInt := fun z => c2 (h2.mpr z)
      constructor
      · intro z; exact absurd z (by decide)
      · intro z; exact absurd ⟨by omega, by omega⟩ z
theorem z_inq01 {v a b : Int32} : z_inq v a b = 0 ∨ z_inq v a b = 1 := by
  unfold z_inq
  split
  · exact Or.inl rfl
  · split
    · exact Or.inl rfl
    · exact Or.inr rfl
theorem z_inqB {v a b : Int32} : z_inq v a b = q_b (a.toInt ≤ v.toInt ∧ v.toInt ≤ b.toInt) := by
  unfold q_b
  by_cases h : a.toInt ≤ v.toInt ∧ v.toInt ≤ b.toInt
  · rw [if_pos h]
    exact z_inq01.resolve_left (fun z => z_inq0.mp z h)
  · rw [if_neg h]; exact z_inq0.mpr h
theorem z_c_within {M : q_Mem} {v a b : Int32} : f_X11_within M v a b = some (q_b (a.toInt ≤ v.toInt ∧ v.toInt ≤ b.toInt)) := by
  rw [← z_inqB]; unfold f_X11_within z_inq; split
  · rfl
  · split <;> rfl
theorem z_m_in {M : q_Mem} {v a b : Int32} : f_X12_in M v a b = some (q_b (a.toInt ≤ v.toInt ∧ v.toInt ≤ b.toInt)) := z_c_within (M := M)
theorem z_b01 {c : Prop} [Decidable c] {α : Type} {x y : α} : (if q_b c = 0 ∨ q_b c = 1 then x else y) = x := if_pos q_b01
theorem z_b0 {c : Prop} [Decidable c] {α : Type} {x y : α} : (if q_b c = 0 then x else y) = if c then y else x := by
  by_cases h : c
  · rw [if_neg (fun z => q_b0.mp z h), if_pos h]
  · rw [if_pos (q_b0.mpr h), if_neg h]
def z_dy (v : Int32) (n : Int) : Prop := 0 ≤ v.toInt ∧ v.toInt ≤ n
theorem z_c_isDay {M : q_Mem} {v : Int32} : f_X11_isDay M v = some (q_b ((0 : Int32).toInt ≤ v.toInt ∧ v.toInt ≤ (195 : Int32).toInt)) := by
  unfold f_X11_isDay; rw [z_c_within, Option.bind_some, z_b01]
theorem z_c_isWeek {M : q_Mem} {v : Int32} : f_X11_isWeek M v = some (q_b ((0 : Int32).toInt ≤ v.toInt ∧ v.toInt ≤ (27 : Int32).toInt)) := by
  unfold f_X11_isWeek; rw [z_c_within, Option.bind_some, z_b01]
theorem z_c_isHand {M : q_Mem} {v : Int32} : f_X11_isHand M v = some (q_b ((0 : Int32).toInt ≤ v.toInt ∧ v.toInt ≤ (3 : Int32).toInt)) := by
  unfold f_X11_isHand; rw [z_c_within, Option.bind_some, z_b01]
theorem z_m_isDay {M : q_Mem} {v : Int32} : f_X12_isDay M v = some (q_b ((0 : Int32).toInt ≤ v.toInt ∧ v.toInt ≤ (195 : Int32).toInt)) := by
  unfold f_X12_isDay; rw [z_m_in, Option.bind_some, z_b01]
theorem z_m_isWeek {M : q_Mem} {v : Int32} : f_X12_isWeek M v = some (q_b ((0 : Int32).toInt ≤ v.toInt ∧ v.toInt ≤ (27 : Int32).toInt)) := by
  unfold f_X12_isWeek; rw [z_m_in, Option.bind_some, z_b01]
theorem z_c_isPlace {M : q_Mem} {x y : Int32} : f_X11_isPlace M x y = some (q_b (((0 : Int32).toInt ≤ x.toInt ∧ x.toInt ≤ (200 : Int32).toInt) ∧ ((0 : Int32).toInt ≤ y.toInt ∧ y.toInt ≤ (200 : Int32).toInt))) := by
  unfold f_X11_isPlace
  rw [z_c_within, Option.bind_some, z_b0]
  by_cases h1 : (0 : Int32).toInt ≤ x.toInt ∧ x.toInt ≤ (200 : Int32).toInt
  · rw [if_pos h1, z_c_within, Option.bind_some, z_b0]
    by_cases h2 : (0 : Int32).toInt ≤ y.toInt ∧ y.toInt ≤ (200 : Int32).toInt
    · rw [if_pos h2]; unfold q_b; rw [if_pos ⟨h1, h2⟩]
    · rw [if_neg h2]; unfold q_b; rw [if_neg (fun z => h2 z.2)]
  · rw [if_neg h1]; unfold q_b; rw [if_neg (fun z => h1 z.1)]
theorem z_of {v : Int32} {n : Nat} (h : 0 ≤ v.toInt ∧ v.toInt < n) (hn : n < 2147483648) : ∃ j, j < n ∧ v = nI j := by
  refine ⟨v.toInt.toNat, by omega, Int32.toInt_inj.mp ?_⟩
  rw [nI_toInt (by omega)]; omega
theorem z_m_is {M : q_Mem} {t : Nat} {x : Int32} {j : Nat} (hL : z_Lay M) (hj : j < 4764) {m : Nat} (hm : q_I M 109 j = nI m) (hmm : m < 2147483647) : f_X12_is M 108 (nI j) x = some (q_b (0 ≤ x.toInt ∧ x.toInt < m)) := by
  unfold f_X12_is
  rw [zob_108 hL, (zo_108 hL).2.2.2.2.2.1, Option.bind_some, (za_109 hL).2.1 j hj, Option.bind_some, hm, z_m_in, Option.bind_some, z_b01]
  have e : (nI m - 1).toInt = (m : Int) - 1 := by
    have h1 : (nI m - nI 1).toInt = (m : Int) - 1 := by
      rw [Int32.toInt_sub, nI_toInt (by omega), nI_toInt (by decide)]
      rw [Int.bmod_eq_of_le_mul_two] <;> omega
    exact h1
  rw [e]
  have : (0 : Int32).toInt = 0 := rfl
  congr 1
  unfold q_b
  by_cases h : 0 ≤ x.toInt ∧ x.toInt < (m : Int)
  · rw [if_pos h, if_pos ⟨by omega, by omega⟩]
  · rw [if_neg h, if_neg (fun z => h ⟨by omega, by omega⟩)]
