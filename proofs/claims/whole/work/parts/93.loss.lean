/-! ===== what a heap loses: both sides ===== -/
theorem z_btN {v : Int32} {a b : Nat} (h : z_bt v a b) (hb : b < 2147483647) : v = nI v.toNatClampNeg ∧ a ≤ v.toNatClampNeg ∧ v.toNatClampNeg ≤ b := by
  obtain ⟨h1, h2⟩ := h
  obtain ⟨j, hj, rfl⟩ := z_of (v := v) (n := b + 1) ⟨by omega, by omega⟩ (by omega)
  rw [nI_toInt (by omega)] at h1
  rw [nI_clamp (by omega)]
  exact ⟨rfl, by omega, by omega⟩
/-- number j of CREAM c -/
def h_c (st : Nat → Int32) (c j : Nat) : Nat := (st (4526 + 3 * c + j)).toNatClampNeg
theorem h_cv {M : q_Mem} (hi : z_Inv M) {c : Nat} (hc : c < z_m (q_I M 109) 7) : (q_I M 109 (4526 + 3 * c) = nI (h_c (q_I M 109) c 0) ∧ 1 ≤ h_c (q_I M 109) c 0 ∧ h_c (q_I M 109) c 0 ≤ 1000000) ∧ (q_I M 109 (4526 + 3 * c + 1) = nI (h_c (q_I M 109) c 1) ∧ 40 ≤ h_c (q_I M 109) c 1 ∧ h_c (q_I M 109) c 1 ≤ 80) ∧ (q_I M 109 (4526 + 3 * c + 2) = nI (h_c (q_I M 109) c 2) ∧ h_c (q_I M 109) c 2 ≤ 9) := by
  have v := hi.2.2.2.2.1.2.2.2 7 (by decide) c hc
  have k0 := z_btN (a := 1) (b := 1000000) v.1 (by decide)
  have k1 := z_btN (a := 40) (b := 80) v.2.1 (by decide)
  have k2 := z_btN (a := 0) (b := 9) v.2.2 (by decide)
  exact ⟨k0, k1, k2.1, k2.2.2⟩
/-- of the CREAMS before c that s has: FAT, HEAT, how many, greatest AGE, least and greatest HEAT -/
def h_sx (st : Nat → Int32) (s z : Nat) : Nat → Nat × Nat × Nat × Nat × Nat × Nat
  | 0 => (0, 0, 0, 0, z, 0)
  | c + 1 => if Nat.testBit s c = true then ((h_sx st s z c).1 + h_c st c 0, (h_sx st s z c).2.1 + h_c st c 1, (h_sx st s z c).2.2.1 + 1, (if (h_sx st s z c).2.2.2.1 < h_c st c 2 then h_c st c 2 else (h_sx st s z c).2.2.2.1), (if h_c st c 1 < (h_sx st s z c).2.2.2.2.1 then h_c st c 1 else (h_sx st s z c).2.2.2.2.1), (if (h_sx st s z c).2.2.2.2.2 < h_c st c 1 then h_c st c 1 else (h_sx st s z c).2.2.2.2.2)) else h_sx st s z c
def h_xbd (z c : Nat) (x : Nat × Nat × Nat × Nat × Nat × Nat) : Prop := x.1 ≤ 1000000 * c ∧ x.2.1 ≤ 80 * c ∧ x.2.2.1 ≤ c ∧ x.2.2.2.1 ≤ 9 ∧ x.2.2.2.2.1 ≤ z ∧ x.2.2.2.2.2 ≤ 80 ∧ x.2.1 ≤ 80 * x.2.2.1 ∧ (0 < x.2.2.1 → x.2.2.2.2.1 ≤ x.2.2.2.2.2)
theorem h_sx_bd {M : q_Mem} (hi : z_Inv M) {s z : Nat} : ∀ c, c ≤ z_m (q_I M 109) 7 → h_xbd z c (h_sx (q_I M 109) s z c)
  | 0, _ => ⟨Nat.zero_le _, Nat.zero_le _, Nat.zero_le _, Nat.zero_le _, Nat.le_refl _, Nat.zero_le _, Nat.zero_le _, fun h => absurd h (Nat.lt_irrefl _)⟩
  | c + 1, hc => by
    have ih := h_sx_bd hi (s := s) (z := z) c (by omega)
    obtain ⟨⟨-, a1, a2⟩, ⟨-, b1, b2⟩, ⟨-, c2⟩⟩ := h_cv hi (show c < z_m (q_I M 109) 7 by omega)
    unfold h_sx
    generalize h_sx (q_I M 109) s z c = x at ih
    obtain ⟨i1, i2, i3, i4, i5, i6, i7, i8⟩ := ih
    by_cases t : Nat.testBit s c = true
    · rw [if_pos t]
      refine ⟨?_, ?_, ?_, ?_, ?_, ?_, ?_, fun _ => ?_⟩
      · show x.1 + h_c (q_I M 109) c 0 ≤ 1000000 * (c + 1); omega
      · show x.2.1 + h_c (q_I M 109) c 1 ≤ 80 * (c + 1); omega
      · show x.2.2.1 + 1 ≤ c + 1; omega
      · show (if x.2.2.2.1 < h_c (q_I M 109) c 2 then h_c (q_I M 109) c 2 else x.2.2.2.1) ≤ 9
        split <;> omega
      · show (if h_c (q_I M 109) c 1 < x.2.2.2.2.1 then h_c (q_I M 109) c 1 else x.2.2.2.2.1) ≤ z
        split <;> omega
      · show (if x.2.2.2.2.2 < h_c (q_I M 109) c 1 then h_c (q_I M 109) c 1 else x.2.2.2.2.2) ≤ 80
        split <;> omega
      · show x.2.1 + h_c (q_I M 109) c 1 ≤ 80 * (x.2.2.1 + 1); omega
      · show (if h_c (q_I M 109) c 1 < x.2.2.2.2.1 then h_c (q_I M 109) c 1 else x.2.2.2.2.1) ≤ (if x.2.2.2.2.2 < h_c (q_I M 109) c 1 then h_c (q_I M 109) c 1 else x.2.2.2.2.2)
        split <;> split <;> omega
    · rw [if_neg t]
      exact ⟨by omega, by omega, by omega, i4, i5, i6, i7, i8⟩
theorem h_sx_many {st : Nat → Int32} {s z k : Nat} (hk : Nat.testBit s k = true) : ∀ c, k < c → 0 < (h_sx st s z c).2.2.1
  | 0, h => absurd h (Nat.not_lt_zero _)
  | c + 1, h => by
    unfold h_sx
    by_cases t : Nat.testBit s c = true
    · rw [if_pos t]
      exact Nat.succ_pos _
    · rw [if_neg t]
      refine h_sx_many hk c ?_
      rcases Nat.lt_or_ge k c with y | y
      · exact y
      · obtain rfl : k = c := by omega
        exact absurd hk t
/-- where least HEAT begins makes no difference -/
theorem h_sx_z {M : q_Mem} (hi : z_Inv M) {s : Nat} : ∀ c, c ≤ z_m (q_I M 109) 7 → (h_sx (q_I M 109) s 1000 c).1 = (h_sx (q_I M 109) s 100 c).1 ∧ (h_sx (q_I M 109) s 1000 c).2.1 = (h_sx (q_I M 109) s 100 c).2.1 ∧ (h_sx (q_I M 109) s 1000 c).2.2.1 = (h_sx (q_I M 109) s 100 c).2.2.1 ∧ (h_sx (q_I M 109) s 1000 c).2.2.2.1 = (h_sx (q_I M 109) s 100 c).2.2.2.1 ∧ (h_sx (q_I M 109) s 1000 c).2.2.2.2.2 = (h_sx (q_I M 109) s 100 c).2.2.2.2.2 ∧ (0 < (h_sx (q_I M 109) s 1000 c).2.2.1 → (h_sx (q_I M 109) s 1000 c).2.2.2.2.1 = (h_sx (q_I M 109) s 100 c).2.2.2.2.1) ∧ ((h_sx (q_I M 109) s 1000 c).2.2.1 = 0 → (h_sx (q_I M 109) s 1000 c).2.2.2.2.1 = 1000 ∧ (h_sx (q_I M 109) s 100 c).2.2.2.2.1 = 100)
  | 0, _ => ⟨rfl, rfl, rfl, rfl, rfl, fun h => absurd h (Nat.lt_irrefl _), fun _ => ⟨rfl, rfl⟩⟩
  | c + 1, hc => by
    have ih := h_sx_z hi (s := s) c (by omega)
    obtain ⟨-, ⟨-, b1, b2⟩, -⟩ := h_cv hi (show c < z_m (q_I M 109) 7 by omega)
    unfold h_sx
    generalize h_sx (q_I M 109) s 1000 c = x at ih
    generalize h_sx (q_I M 109) s 100 c = y at ih
    obtain ⟨i1, i2, i3, i4, i5, i6, i7⟩ := ih
    by_cases t : Nat.testBit s c = true
    · rw [if_pos t, if_pos t]
      refine ⟨?_, ?_, ?_, ?_, ?_, fun _ => ?_, fun h => absurd h (Nat.succ_ne_zero _)⟩
      · show x.1 + _ = y.1 + _; rw [i1]
      · show x.2.1 + _ = y.2.1 + _; rw [i2]
      · show x.2.2.1 + _ = y.2.2.1 + _; rw [i3]
      · show (if x.2.2.2.1 < h_c (q_I M 109) c 2 then h_c (q_I M 109) c 2 else x.2.2.2.1) = (if y.2.2.2.1 < h_c (q_I M 109) c 2 then h_c (q_I M 109) c 2 else y.2.2.2.1)
        rw [i4]
      · show (if x.2.2.2.2.2 < h_c (q_I M 109) c 1 then h_c (q_I M 109) c 1 else x.2.2.2.2.2) = (if y.2.2.2.2.2 < h_c (q_I M 109) c 1 then h_c (q_I M 109) c 1 else y.2.2.2.2.2)
        rw [i5]
      · show (if h_c (q_I M 109) c 1 < x.2.2.2.2.1 then h_c (q_I M 109) c 1 else x.2.2.2.2.1) = (if h_c (q_I M 109) c 1 < y.2.2.2.2.1 then h_c (q_I M 109) c 1 else y.2.2.2.2.1)
        rcases Nat.eq_zero_or_pos x.2.2.1 with w | w
        · obtain ⟨j1, j2⟩ := i7 w
          rw [j1, j2, if_pos (by omega), if_pos (by omega)]
        · rw [i6 w]
    · rw [if_neg t, if_neg t]
      exact ⟨i1, i2, i3, i4, i5, i6, i7⟩
def h_ab (v : Nat) : Nat := if v < 55 then 55 - v else v - 55
def h_lv (x : Nat × Nat × Nat × Nat × Nat × Nat) : Nat := 5 + 2 * h_ab (x.2.1 / x.2.2.1) + 10 * x.2.2.2.1 + x.2.2.2.2.2 - x.2.2.2.2.1
def h_ls (x : Nat × Nat × Nat × Nat × Nat × Nat) : Nat := (if h_lv x < 1000 then h_lv x else 1000) * x.1 / 1000
/-- THE LOSS of a heap -/
def h_F (st : Nat → Int32) (n s : Nat) : Nat := h_ls (h_sx st s 1000 n)
theorem h_abI : ∀ v, v < 1000 → q_ab (nI v - (55 : Int32)) = nI (h_ab v) := by decide +kernel
theorem h_lvI {x : Nat × Nat × Nat × Nat × Nat × Nat} {z c : Nat} (hz : z ≤ 1000) (hc : c ≤ 10) (h : h_xbd z c x) (hm : 0 < x.2.2.1) : x.2.1 / x.2.2.1 ≤ 80 ∧ h_lv x ≤ 5000 ∧ (((((5 : Int32) + (2 : Int32) * nI (h_ab (x.2.1 / x.2.2.1))) + (10 : Int32) * nI x.2.2.2.1) + nI x.2.2.2.2.2) - nI x.2.2.2.2.1) = nI (h_lv x) := by
  obtain ⟨i1, i2, i3, i4, i5, i6, i7, i8⟩ := h
  have d : x.2.1 / x.2.2.1 ≤ 80 := by
    refine Nat.div_le_of_le_mul ?_
    rw [Nat.mul_comm]
    exact i7
  have ha : h_ab (x.2.1 / x.2.2.1) ≤ 55 := by
    have : ∀ v, v ≤ 80 → h_ab v ≤ 55 := fun v hv => by unfold h_ab; split <;> omega
    exact this _ d
  have i9 := i8 hm
  refine ⟨d, by unfold h_lv; omega, ?_⟩
  rw [show (5 : Int32) = nI 5 from rfl, show (2 : Int32) = nI 2 from rfl, show (10 : Int32) = nI 10 from rfl, pk_mul, pk_mul, nI_add, nI_add, nI_add, pk_sub (by omega)]
  rfl
theorem h_F_le {M : q_Mem} (hi : z_Inv M) (s : Nat) : h_F (q_I M 109) (z_m (q_I M 109) 7) s ≤ 10000000 := by
  have h1 := (h_sx_bd hi (s := s) (z := 1000) (z_m (q_I M 109) 7) (Nat.le_refl _)).1
  have h2 := (zt_7 hi).2.2.1
  unfold h_F h_ls
  generalize h_sx (q_I M 109) s 1000 (z_m (q_I M 109) 7) = x at h1
  have h3 : (if h_lv x < 1000 then h_lv x else 1000) ≤ 1000 := by split <;> omega
  have h4 : (if h_lv x < 1000 then h_lv x else 1000) * x.1 ≤ 1000 * x.1 := Nat.mul_le_mul_right _ h3
  omega
/-- the class' loss of a heap -/
theorem zb_loop {M Mx : q_Mem} (hi : z_Inv M) (hS : z_sm M Mx) {s : Nat} (hs : s < 1048576) : ∀ (d c fu : Nat), c + d = z_m (q_I M 109) 7 → d < fu →
    f_X2_lossAsHeap_b22 Mx 101 (nI s) fu (lN (h_sx (q_I M 109) s 1000 c).1) (nI (h_sx (q_I M 109) s 1000 c).2.1) (nI (h_sx (q_I M 109) s 1000 c).2.2.1) (nI (h_sx (q_I M 109) s 1000 c).2.2.2.1) (nI (h_sx (q_I M 109) s 1000 c).2.2.2.2.1) (nI (h_sx (q_I M 109) s 1000 c).2.2.2.2.2) (nI c) =
    f_X2_lossAsHeap_b123 Mx (lN (h_sx (q_I M 109) s 1000 (z_m (q_I M 109) 7)).1) (nI (h_sx (q_I M 109) s 1000 (z_m (q_I M 109) 7)).2.1) (nI (h_sx (q_I M 109) s 1000 (z_m (q_I M 109) 7)).2.2.1) (nI (h_sx (q_I M 109) s 1000 (z_m (q_I M 109) 7)).2.2.2.1) (nI (h_sx (q_I M 109) s 1000 (z_m (q_I M 109) 7)).2.2.2.2.1) (nI (h_sx (q_I M 109) s 1000 (z_m (q_I M 109) 7)).2.2.2.2.2) := by
  have hiX := hi.sm hS
  have hX := hiX.1
  have e9 := z_inv9 hS
  obtain ⟨RX, k3, km, kcn⟩ := zt_7 hiX
  rw [e9] at k3
  have h10 := (zt_7 hi).2.2.1
  intro d
  induction d with
  | zero =>
    intro c fu hd hf
    obtain ⟨g, rfl⟩ : ∃ g, fu = g + 1 := ⟨fu - 1, by omega⟩
    obtain rfl : c = z_m (q_I M 109) 7 := by omega
    have hn : (nI (z_m (q_I M 109) 7) < nI (z_m (q_I M 109) 7)) = False := eq_false (nI_nlt (Nat.le_refl _) (by omega))
    simp only [f_X2_lossAsHeap_b22.eq_2, zo_101 hX, zo_16 hX, k3, Option.bind_some, hn, if_false]
  | succ d ih =>
    intro c fu hd hf
    obtain ⟨g, rfl⟩ : ∃ g, fu = g + 1 := ⟨fu - 1, by omega⟩
    have hc : c < z_m (q_I M 109) 7 := by omega
    have hn : (nI c < nI (z_m (q_I M 109) 7)) = True := eq_true (nI_lt hc (by omega))
    have hh := z_holds (M := Mx) (s := s) (f := c) (by omega) (by omega)
    obtain ⟨⟨v0, a1, a2⟩, ⟨v1, b1, b2⟩, ⟨v2, c2⟩⟩ := h_cv hi hc
    have rr := zr_7 hiX (i := c) (by rw [e9]; exact hc)
    rw [e9, v0, v1, v2] at rr
    have ih1 := ih (c + 1) g (by omega) (by omega)
    obtain ⟨i1, i2, i3, i4, i5, i6, i7, i8⟩ := h_sx_bd hi (s := s) (z := 1000) c (by omega)
    by_cases t : Nat.testBit s c = true
    · rw [if_pos t] at hh
      have ex : h_sx (q_I M 109) s 1000 (c + 1) = ((h_sx (q_I M 109) s 1000 c).1 + h_c (q_I M 109) c 0, (h_sx (q_I M 109) s 1000 c).2.1 + h_c (q_I M 109) c 1, (h_sx (q_I M 109) s 1000 c).2.2.1 + 1, (if (h_sx (q_I M 109) s 1000 c).2.2.2.1 < h_c (q_I M 109) c 2 then h_c (q_I M 109) c 2 else (h_sx (q_I M 109) s 1000 c).2.2.2.1), (if h_c (q_I M 109) c 1 < (h_sx (q_I M 109) s 1000 c).2.2.2.2.1 then h_c (q_I M 109) c 1 else (h_sx (q_I M 109) s 1000 c).2.2.2.2.1), (if (h_sx (q_I M 109) s 1000 c).2.2.2.2.2 < h_c (q_I M 109) c 1 then h_c (q_I M 109) c 1 else (h_sx (q_I M 109) s 1000 c).2.2.2.2.2)) := if_pos t
      rw [ex] at ih1
      generalize h_sx (q_I M 109) s 1000 c = x at ih1 i1 i2 i3 i4 i5 i6 i7 i8
      have m1 : q_mx (nI x.2.2.2.1) (nI (h_c (q_I M 109) c 2)) = nI (if x.2.2.2.1 < h_c (q_I M 109) c 2 then h_c (q_I M 109) c 2 else x.2.2.2.1) := by
        unfold q_mx
        by_cases y : x.2.2.2.1 < h_c (q_I M 109) c 2
        · rw [if_pos y, if_pos (nI_lt y (by omega))]
        · rw [if_neg y, if_neg (nI_nlt (by omega) (by omega))]
      have m2 := r_mi_N (a := x.2.2.2.2.1) (b := h_c (q_I M 109) c 1) (by omega) (by omega)
      have m3 : q_mx (nI x.2.2.2.2.2) (nI (h_c (q_I M 109) c 1)) = nI (if x.2.2.2.2.2 < h_c (q_I M 109) c 1 then h_c (q_I M 109) c 1 else x.2.2.2.2.2) := by
        unfold q_mx
        by_cases y : x.2.2.2.2.2 < h_c (q_I M 109) c 1
        · rw [if_pos y, if_pos (nI_lt y (by omega))]
        · rw [if_neg y, if_neg (nI_nlt (by omega) (by omega))]
      have l1 : (nI (h_c (q_I M 109) c 0)).toInt64 = lN (h_c (q_I M 109) c 0) := nI_l (by omega)
      simp only [f_X2_lossAsHeap_b22.eq_2, zo_101 hX, zo_16 hX, k3, Option.bind_some, hn, if_true, hh, show ((1 : Int32) = 0) = False by decide, if_false, rr, m1, m2, m3, l1, lN_add, nI_add, nI_1]
      exact ih1
    · rw [if_neg t] at hh
      have ex : h_sx (q_I M 109) s 1000 (c + 1) = h_sx (q_I M 109) s 1000 c := if_neg t
      rw [ex] at ih1
      simp only [f_X2_lossAsHeap_b22.eq_2, zo_101 hX, zo_16 hX, k3, Option.bind_some, hn, if_true, hh, nI_1]
      exact ih1
theorem zb_loss {M Mx : q_Mem} (hi : z_Inv M) (hS : z_sm M Mx) {s k : Nat} (hs : s < 1048576) (hk : Nat.testBit s k = true) (hk2 : k < z_m (q_I M 109) 7) : f_X2_lossAsHeap Mx 101 (nI s) = some (lN (h_F (q_I M 109) (z_m (q_I M 109) 7) s)) := by
  have hX := (hi.sm hS).1
  have h10 := (zt_7 hi).2.2.1
  have lp := zb_loop hi hS hs (z_m (q_I M 109) 7) 0 q_fuel (by omega) (z_fu (by omega))
  have lp : f_X2_lossAsHeap_b22 Mx 101 (nI s) q_fuel (0 : Int64) (0 : Int32) (0 : Int32) (0 : Int32) (1000 : Int32) (0 : Int32) (0 : Int32) = _ := lp
  have hm := h_sx_many (st := q_I M 109) (z := 1000) hk (z_m (q_I M 109) 7) hk2
  have bd := h_sx_bd hi (s := s) (z := 1000) (z_m (q_I M 109) 7) (Nat.le_refl _)
  have hu : f_X2_lossAsHeap Mx 101 (nI s) = f_X2_lossAsHeap_b22 Mx 101 (nI s) q_fuel (0 : Int64) (0 : Int32) (0 : Int32) (0 : Int32) (1000 : Int32) (0 : Int32) (0 : Int32) := by
    unfold f_X2_lossAsHeap
    rw [zob_101 hX]
  rw [hu, lp]
  unfold h_F h_ls
  generalize h_sx (q_I M 109) s 1000 (z_m (q_I M 109) 7) = x at hm bd
  obtain ⟨d1, d2, d3⟩ := h_lvI (by decide) h10 bd hm
  obtain ⟨i1, i2, i3, i4, i5, i6, i7, i8⟩ := bd
  have l1 : (nI x.2.1).toInt64 = lN x.2.1 := nI_l (by omega)
  have l2 : (nI x.2.2.1).toInt64 = lN x.2.2.1 := nI_l (by omega)
  have z2 : (lN x.2.2.1 = (0 : Int64)) = False := eq_false (fun z => by
    have := (pk_lEQ (a := x.2.2.1) (b := 0) (by omega) (by decide)).mp z
    omega)
  have z3 : (lN 1000 = (0 : Int64)) = False := by decide
  have cutE : f_X11_cut Mx (lN x.2.1) (lN x.2.2.1) = some (lN (x.2.1 / x.2.2.1)) := by
    simp only [f_X11_cut, q_ldv, z2, if_false, Option.bind_some, pk_lDiv (a := x.2.1) (b := x.2.2.1) (by omega) hm (by omega)]
  have mi := r_mi_N (a := 1000) (b := h_lv x) (by decide) (by omega)
  have mi : q_mi (1000 : Int32) (nI (h_lv x)) = _ := mi
  have l3 : (nI (if h_lv x < 1000 then h_lv x else 1000)).toInt64 = lN (if h_lv x < 1000 then h_lv x else 1000) := nI_l (by split <;> omega)
  have b3 : (if h_lv x < 1000 then h_lv x else 1000) * x.1 < 2 ^ 63 := by
    have h3 : (if h_lv x < 1000 then h_lv x else 1000) ≤ 1000 := by split <;> omega
    have h4 : (if h_lv x < 1000 then h_lv x else 1000) * x.1 ≤ 1000 * x.1 := Nat.mul_le_mul_right _ h3
    omega
  have m1000 : (1000 : Int64) = lN 1000 := rfl
  simp only [f_X2_lossAsHeap_b123, l1, l2, cutE, Option.bind_some, lN_i, h_abI (x.2.1 / x.2.2.1) (by omega), d3, mi, l3, lN_mul, q_ldv, m1000, z3, if_false, pk_lDiv b3 (show 0 < 1000 by decide) (by decide)]
/-- the model's loss of a heap -/
theorem zh_loop {M Mx : q_Mem} (hi : z_Inv M) (hX : z_Lay Mx) (e9 : q_I Mx 109 = q_I M 109) {s : Nat} (hs : s < 1048576) : ∀ (d c fu : Nat), c + d = z_m (q_I M 109) 7 → d < fu →
    f_X12_lossOfHeap_b21 Mx 108 (nI s) fu (lN (h_sx (q_I M 109) s 100 c).1) (nI (h_sx (q_I M 109) s 100 c).2.1) (nI (h_sx (q_I M 109) s 100 c).2.2.1) (nI (h_sx (q_I M 109) s 100 c).2.2.2.1) (nI (h_sx (q_I M 109) s 100 c).2.2.2.2.1) (nI (h_sx (q_I M 109) s 100 c).2.2.2.2.2) (nI c) =
    f_X12_lossOfHeap_b177 Mx (lN (h_sx (q_I M 109) s 100 (z_m (q_I M 109) 7)).1) (nI (h_sx (q_I M 109) s 100 (z_m (q_I M 109) 7)).2.1) (nI (h_sx (q_I M 109) s 100 (z_m (q_I M 109) 7)).2.2.1) (nI (h_sx (q_I M 109) s 100 (z_m (q_I M 109) 7)).2.2.2.1) (nI (h_sx (q_I M 109) s 100 (z_m (q_I M 109) 7)).2.2.2.2.1) (nI (h_sx (q_I M 109) s 100 (z_m (q_I M 109) 7)).2.2.2.2.2) := by
  obtain ⟨R, h3, h10, hcn⟩ := zt_7 hi
  intro d
  induction d with
  | zero =>
    intro c fu hd hf
    obtain ⟨g, rfl⟩ : ∃ g, fu = g + 1 := ⟨fu - 1, by omega⟩
    obtain rfl : c = z_m (q_I M 109) 7 := by omega
    have hn : (nI (z_m (q_I M 109) 7) < nI (z_m (q_I M 109) 7)) = False := eq_false (nI_nlt (Nat.le_refl _) (by omega))
    simp only [f_X12_lossOfHeap_b21.eq_2, zo_108 hX, zl_ hX, e9, hcn, Option.bind_some, hn, if_false]
  | succ d ih =>
    intro c fu hd hf
    obtain ⟨g, rfl⟩ : ∃ g, fu = g + 1 := ⟨fu - 1, by omega⟩
    have hc : c < z_m (q_I M 109) 7 := by omega
    have hn : (nI c < nI (z_m (q_I M 109) 7)) = True := eq_true (nI_lt hc (by omega))
    have hh := z_tbit (s := s) (f := c) (by omega) (by omega)
    obtain ⟨⟨v0, a1, a2⟩, ⟨v1, b1, b2⟩, ⟨v2, c2⟩⟩ := h_cv hi hc
    have gg := zg_7 hX (i := c) (by omega)
    rw [e9, v0, v1, v2] at gg
    have ih1 := ih (c + 1) g (by omega) (by omega)
    obtain ⟨i1, i2, i3, i4, i5, i6, i7, i8⟩ := h_sx_bd hi (s := s) (z := 100) c (by omega)
    by_cases t : Nat.testBit s c = true
    · have ex : h_sx (q_I M 109) s 100 (c + 1) = ((h_sx (q_I M 109) s 100 c).1 + h_c (q_I M 109) c 0, (h_sx (q_I M 109) s 100 c).2.1 + h_c (q_I M 109) c 1, (h_sx (q_I M 109) s 100 c).2.2.1 + 1, (if (h_sx (q_I M 109) s 100 c).2.2.2.1 < h_c (q_I M 109) c 2 then h_c (q_I M 109) c 2 else (h_sx (q_I M 109) s 100 c).2.2.2.1), (if h_c (q_I M 109) c 1 < (h_sx (q_I M 109) s 100 c).2.2.2.2.1 then h_c (q_I M 109) c 1 else (h_sx (q_I M 109) s 100 c).2.2.2.2.1), (if (h_sx (q_I M 109) s 100 c).2.2.2.2.2 < h_c (q_I M 109) c 1 then h_c (q_I M 109) c 1 else (h_sx (q_I M 109) s 100 c).2.2.2.2.2)) := if_pos t
      rw [ex] at ih1
      generalize h_sx (q_I M 109) s 100 c = x at ih1 i1 i2 i3 i4 i5 i6 i7 i8
      have l1 : (nI (h_c (q_I M 109) c 0)).toInt64 = lN (h_c (q_I M 109) c 0) := nI_l (by omega)
      have m1 : (nI x.2.2.2.1 < nI (h_c (q_I M 109) c 2)) = (x.2.2.2.1 < h_c (q_I M 109) c 2) := propext (nI_ltI (by omega) (by omega))
      have m2 : (nI (h_c (q_I M 109) c 1) < nI x.2.2.2.2.1) = (h_c (q_I M 109) c 1 < x.2.2.2.2.1) := propext (nI_ltI (by omega) (by omega))
      have m3 : (nI x.2.2.2.2.2 < nI (h_c (q_I M 109) c 1)) = (x.2.2.2.2.2 < h_c (q_I M 109) c 1) := propext (nI_ltI (by omega) (by omega))
      simp only [f_X12_lossOfHeap_b21.eq_2, f_X12_lossOfHeap_b109, f_X12_lossOfHeap_b139, zo_108 hX, zl_ hX, e9, hcn, Option.bind_some, hn, if_true, hh, t, gg, m1, m2, m3, l1, lN_add, nI_add, nI_1]
      by_cases y1 : x.2.2.2.1 < h_c (q_I M 109) c 2
      · by_cases y2 : h_c (q_I M 109) c 1 < x.2.2.2.2.1
        · by_cases y3 : x.2.2.2.2.2 < h_c (q_I M 109) c 1
          · simp only [y1, y2, y3, if_true] at ih1 ⊢
            exact ih1
          · simp only [y1, y2, y3, if_true, if_false] at ih1 ⊢
            exact ih1
        · by_cases y3 : x.2.2.2.2.2 < h_c (q_I M 109) c 1
          · simp only [y1, y2, y3, if_true, if_false] at ih1 ⊢
            exact ih1
          · simp only [y1, y2, y3, if_true, if_false] at ih1 ⊢
            exact ih1
      · by_cases y2 : h_c (q_I M 109) c 1 < x.2.2.2.2.1
        · by_cases y3 : x.2.2.2.2.2 < h_c (q_I M 109) c 1
          · simp only [y1, y2, y3, if_true, if_false] at ih1 ⊢
            exact ih1
          · simp only [y1, y2, y3, if_true, if_false] at ih1 ⊢
            exact ih1
        · by_cases y3 : x.2.2.2.2.2 < h_c (q_I M 109) c 1
          · simp only [y1, y2, y3, if_true, if_false] at ih1 ⊢
            exact ih1
          · simp only [y1, y2, y3, if_false] at ih1 ⊢
            exact ih1
    · have ex : h_sx (q_I M 109) s 100 (c + 1) = h_sx (q_I M 109) s 100 c := if_neg t
      rw [ex] at ih1
      simp only [f_X12_lossOfHeap_b21.eq_2, zo_108 hX, zl_ hX, e9, hcn, Option.bind_some, hn, if_true, hh, t, if_false, nI_1]
      exact ih1
theorem zh_loss {M Mx : q_Mem} (hi : z_Inv M) (hX : z_Lay Mx) (e9 : q_I Mx 109 = q_I M 109) {s k : Nat} (hs : s < 1048576) (hk : Nat.testBit s k = true) (hk2 : k < z_m (q_I M 109) 7) : f_X12_lossOfHeap Mx 108 (nI s) = some (lN (h_F (q_I M 109) (z_m (q_I M 109) 7) s)) := by
  have h10 := (zt_7 hi).2.2.1
  have lp := zh_loop hi hX e9 hs (z_m (q_I M 109) 7) 0 q_fuel (by omega) (z_fu (by omega))
  have lp : f_X12_lossOfHeap_b21 Mx 108 (nI s) q_fuel (0 : Int64) (0 : Int32) (0 : Int32) (0 : Int32) (100 : Int32) (0 : Int32) (0 : Int32) = _ := lp
  have hm := h_sx_many (st := q_I M 109) (z := 100) hk (z_m (q_I M 109) 7) hk2
  have hm2 := h_sx_many (st := q_I M 109) (z := 1000) hk (z_m (q_I M 109) 7) hk2
  have bd := h_sx_bd hi (s := s) (z := 100) (z_m (q_I M 109) 7) (Nat.le_refl _)
  have zz := h_sx_z hi (s := s) (z_m (q_I M 109) 7) (Nat.le_refl _)
  have hu : f_X12_lossOfHeap Mx 108 (nI s) = f_X12_lossOfHeap_b21 Mx 108 (nI s) q_fuel (0 : Int64) (0 : Int32) (0 : Int32) (0 : Int32) (100 : Int32) (0 : Int32) (0 : Int32) := by
    unfold f_X12_lossOfHeap
    rw [zob_108 hX]
  rw [hu, lp]
  unfold h_F
  generalize h_sx (q_I M 109) s 100 (z_m (q_I M 109) 7) = x at hm bd zz
  generalize h_sx (q_I M 109) s 1000 (z_m (q_I M 109) 7) = y at hm2 zz
  obtain ⟨q1, q2, q3, q4, q5, q6, -⟩ := zz
  have exy : y = x := Prod.ext q1 (Prod.ext q2 (Prod.ext q3 (Prod.ext q4 (Prod.ext (q6 hm2) q5))))
  rw [exy]
  obtain ⟨d1, d2, d3⟩ := h_lvI (by decide) h10 bd hm
  obtain ⟨i1, i2, i3, i4, i5, i6, i7, i8⟩ := bd
  have z2 : (nI x.2.2.1 = (0 : Int32)) = False := eq_false (nI_ne0 hm (by omega))
  have z3 : (lN 1000 = (0 : Int64)) = False := by decide
  have dvE : q_dv (nI x.2.1) (nI x.2.2.1) = some (nI (x.2.1 / x.2.2.1)) := by
    simp only [q_dv, z2, if_false, pk_div (a := x.2.1) (d := x.2.2.1) (by omega) hm (by omega)]
  have m1000 : (1000 : Int64) = lN 1000 := rfl
  have l4 : (1000 : Int32).toInt64 = lN 1000 := rfl
  have l5 : (nI (h_lv x)).toInt64 = lN (h_lv x) := nI_l (by omega)
  have b3 : x.1 * 1000 < 2 ^ 63 := by omega
  have b4 : x.1 * h_lv x < 2 ^ 63 := by
    have h4 : x.1 * h_lv x ≤ x.1 * 5000 := Nat.mul_le_mul_left _ d2
    omega
  unfold h_ls
  by_cases y1 : 1000 < h_lv x
  · have c1 : ((1000 : Int32) < nI (h_lv x)) = True := eq_true (nI_lt (a := 1000) y1 (by omega))
    rw [if_neg (show ¬ h_lv x < 1000 by omega), Nat.mul_comm 1000 x.1]
    simp only [f_X12_lossOfHeap_b177, dvE, Option.bind_some, z_m_size, h_abI (x.2.1 / x.2.2.1) (by omega), d3, c1, if_true, l4, lN_mul, q_ldv, m1000, z3, if_false, pk_lDiv b3 (show 0 < 1000 by decide) (by decide)]
  · have c1 : ((1000 : Int32) < nI (h_lv x)) = False := eq_false (nI_nlt (a := 1000) (by omega) (by decide))
    have e4 : (if h_lv x < 1000 then h_lv x else 1000) = h_lv x := by split <;> omega
    rw [e4, Nat.mul_comm (h_lv x) x.1]
    simp only [f_X12_lossOfHeap_b177, dvE, Option.bind_some, z_m_size, h_abI (x.2.1 / x.2.2.1) (by omega), d3, c1, if_false, l5, lN_mul, q_ldv, m1000, z3, pk_lDiv b4 (show 0 < 1000 by decide) (by decide)]
