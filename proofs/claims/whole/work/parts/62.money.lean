/-! ===== the money of a week ===== -/
def z_S : Nat → (Nat → Int64) → Int64
  | 0, _ => 0
  | n + 1, f => z_S n f + f n
theorem z_S_add (n : Nat) (f g : Nat → Int64) : z_S n (fun k => f k + g k) = z_S n f + z_S n g := by
  induction n with
  | zero => rfl
  | succ n ih =>
    show z_S n (fun k => f k + g k) + (f n + g n) = (z_S n f + f n) + (z_S n g + g n)
    rw [ih]; ac_rfl
theorem z_S_zero (n : Nat) (f : Nat → Int64) (h : ∀ k, k < n → f k = 0) : z_S n f = 0 := by
  induction n with
  | zero => rfl
  | succ n ih =>
    show z_S n f + f n = 0
    rw [ih (fun k hk => h k (by omega)), h n (by omega)]; rfl
theorem z_S_cong (n : Nat) (f g : Nat → Int64) (h : ∀ k, k < n → f k = g k) : z_S n f = z_S n g := by
  induction n with
  | zero => rfl
  | succ n ih =>
    show z_S n f + f n = z_S n g + g n
    rw [ih (fun k hk => h k (by omega)), h n (by omega)]
theorem z_S_one (n j : Nat) (hj : j < n) (v : Int64) : z_S n (fun c => if c = j then v else 0) = v := by
  induction n with
  | zero => omega
  | succ n ih =>
    show z_S n (fun c => if c = j then v else 0) + (if n = j then v else 0) = v
    by_cases e : n = j
    · rw [if_pos e, z_S_zero n _ (fun k hk => if_neg (by omega)), Int64.zero_add]
    · rw [if_neg e, ih (by omega), Int64.add_zero]
theorem z_S_swap (m n : Nat) (F : Nat → Nat → Int64) : z_S m (fun c => z_S n (F c)) = z_S n (fun k => z_S m (fun c => F c k)) := by
  induction m with
  | zero => exact (z_S_zero n _ (fun _ _ => rfl)).symm
  | succ m ih =>
    show z_S m (fun c => z_S n (F c)) + z_S n (F m) = _
    rw [ih, ← z_S_add]; rfl
/-- what box k brought by day dd -/
def z_bv (st : Nat → Int32) (dd : Int32) (k : Nat) : Int64 := if st (2820 + 5 * k + 2) = -1 then 0 else if dd < st (2820 + 5 * k + 2) then 0 else (st (2820 + 5 * k + 1)).toInt64
def z_bc (st : Nat → Int32) (k : Nat) : Nat := (st (2820 + 5 * k)).toNatClampNeg
def z_mw (M : q_Mem) (wk dd : Int32) : Int64 := z_S (z_m (q_I M 109) 4) (fun k => if q_I M 109 (2700 + 3 * z_bc (q_I M 109) k) / 7 = wk then z_bv (q_I M 109) dd k else 0)
theorem zq_week {M : q_Mem} (hi : z_Inv M) (wk dd : Int32) : ∀ (d k fu : Nat), k + d = z_m (q_I M 109) 4 → d < fu → f_X7_penceOfWeek_b14 M 88 wk dd 10 fu (z_S k (fun k => if q_I M 109 (2700 + 3 * z_bc (q_I M 109) k) / 7 = wk then z_bv (q_I M 109) dd k else 0)) (nI k) = some (z_mw M wk dd) := by
  have hL := hi.1
  obtain ⟨R, h3, hm, hcn⟩ := zt_4 hi
  obtain ⟨R3, h33, hm3, hcn3⟩ := zt_3 hi
  intro d
  induction d with
  | zero =>
    intro k fu hd hf
    obtain ⟨g, rfl⟩ : ∃ g, fu = g + 1 := ⟨fu - 1, by omega⟩
    obtain rfl : k = z_m (q_I M 109) 4 := by omega
    have hn : (nI (z_m (q_I M 109) 4) < nI (z_m (q_I M 109) 4)) = False := eq_false (nI_nlt (Nat.le_refl _) (by omega))
    simp only [f_X7_penceOfWeek_b14.eq_2, zo_10 hL, h3, Option.bind_some, hn, if_false]
    rfl
  | succ d ih =>
    intro k fu hd hf
    obtain ⟨g, rfl⟩ : ∃ g, fu = g + 1 := ⟨fu - 1, by omega⟩
    have hk : k < z_m (q_I M 109) 4 := by omega
    have hn : (nI k < nI (z_m (q_I M 109) 4)) = True := eq_true (nI_lt hk (by omega))
    obtain ⟨c, hc, ec⟩ : z_id (q_I M 109 (2820 + 5 * k)) (z_m (q_I M 109) 3) := (hi.2.2.2.2.1.2.2.2 4 (by decide) k hk).1
    have ec2 : z_bc (q_I M 109) k = c := by unfold z_bc; rw [ec, nI_clamp (by omega)]
    have ih2 := ih (k + 1) g (by omega) (by omega)
    rw [show z_S (k + 1) (fun k => if q_I M 109 (2700 + 3 * z_bc (q_I M 109) k) / 7 = wk then z_bv (q_I M 109) dd k else 0) = z_S k (fun k => if q_I M 109 (2700 + 3 * z_bc (q_I M 109) k) / 7 = wk then z_bv (q_I M 109) dd k else 0) + (if q_I M 109 (2700 + 3 * z_bc (q_I M 109) k) / 7 = wk then z_bv (q_I M 109) dd k else 0) from rfl, ec2] at ih2
    generalize z_S k (fun k => if q_I M 109 (2700 + 3 * z_bc (q_I M 109) k) / 7 = wk then z_bv (q_I M 109) dd k else 0) = s at *
    simp only [z_bv] at ih2
    simp only [f_X7_penceOfWeek_b14.eq_2, zo_10 hL, zo_88 hL, zo_1 hL, h3, Option.bind_some, hn, if_true, zr_4 hi hk, ec, zr_3 hi hc, z_dv0 (show (7 : Int32) ≠ 0 by decide), ← nI_succ]
    rcases Classical.propComplete (q_I M 109 (2820 + 5 * k + 2) = -1) with c0 | c0
    · simp only [c0, if_true, ite_self, Int64.add_zero] at ih2 ⊢
      exact ih2
    · rcases Classical.propComplete (dd < q_I M 109 (2820 + 5 * k + 2)) with c1 | c1
      · simp only [c0, c1, if_true, if_false, ite_self, Int64.add_zero] at ih2 ⊢
        exact ih2
      · rcases Classical.propComplete (q_I M 109 (2700 + 3 * c) / 7 = wk) with c2 | c2
        · simp only [c0, c1, c2, if_true, if_false, Int64.add_zero] at ih2 ⊢
          exact ih2
        · simp only [c0, c1, c2, if_true, if_false, Int64.add_zero] at ih2 ⊢
          exact ih2
theorem zs_weekP {M : q_Mem} (hi : z_Inv M) (wk dd : Int32) : f_X7_penceOfWeek M 88 wk dd = some (z_mw M wk dd) := by
  have hL := hi.1
  obtain ⟨R, h3, hm, hcn⟩ := zt_4 hi
  have r : f_X7_penceOfWeek_b14 M 88 wk dd 10 q_fuel (0 : Int64) (0 : Int32) = some (z_mw M wk dd) := zq_week hi wk dd (z_m (q_I M 109) 4) 0 q_fuel (by omega) (z_fu (by omega))
  simp only [f_X7_penceOfWeek, zob_88 hL, zo_88 hL, zo_1 hL, Option.bind_some, r]
def z_pc (M : q_Mem) (dd : Int32) (c : Nat) : Int64 := z_S (z_m (q_I M 109) 4) (fun k => if z_bc (q_I M 109) k = c then z_bv (q_I M 109) dd k else 0)
theorem zq_pcM {M M2 : q_Mem} (hi : z_Inv M) (hL2 : z_Lay M2) (e9 : q_I M2 109 = q_I M 109) (dd : Int32) {c : Nat} (hc : c < z_m (q_I M 109) 3) : ∀ (d k fu : Nat), k + d = z_m (q_I M 109) 4 → d < fu → f_X12_penceOf_b5 M2 108 (nI c) dd fu (z_S k (fun k => if z_bc (q_I M 109) k = c then z_bv (q_I M 109) dd k else 0)) (nI k) = some (z_pc M dd c) := by
  obtain ⟨R, h3, hm, hcn⟩ := zt_4 hi
  obtain ⟨R3, h33, hm3, hcn3⟩ := zt_3 hi
  intro d
  induction d with
  | zero =>
    intro k fu hd hf
    obtain ⟨g, rfl⟩ : ∃ g, fu = g + 1 := ⟨fu - 1, by omega⟩
    obtain rfl : k = z_m (q_I M 109) 4 := by omega
    have hn : (nI (z_m (q_I M 109) 4) < nI (z_m (q_I M 109) 4)) = False := eq_false (nI_nlt (Nat.le_refl _) (by omega))
    simp only [f_X12_penceOf_b5.eq_2, zo_108 hL2, zl_ hL2, e9, hcn, Option.bind_some, hn, if_false]
    rfl
  | succ d ih =>
    intro k fu hd hf
    obtain ⟨g, rfl⟩ : ∃ g, fu = g + 1 := ⟨fu - 1, by omega⟩
    have hk : k < z_m (q_I M 109) 4 := by omega
    have hn : (nI k < nI (z_m (q_I M 109) 4)) = True := eq_true (nI_lt hk (by omega))
    have ov := hi.2.2.2.2.1.2.2.2 4 (by decide) k hk
    obtain ⟨j, hj, ec⟩ : z_id (q_I M 109 (2820 + 5 * k)) (z_m (q_I M 109) 3) := ov.1
    have ec2 : z_bc (q_I M 109) k = j := by unfold z_bc; rw [ec, nI_clamp (by omega)]
    have hs : (q_I M 109 (2820 + 5 * k + 1) = -1) = (q_I M 109 (2820 + 5 * k + 2) = -1) := by
      have hx : ∀ v : Int32, 0 ≤ v.toInt → ¬ v = -1 := fun v h z => by
        rw [z] at h; exact absurd h (by decide)
      rcases ov.2.1 with ⟨z1, z2⟩ | ⟨z1, z2⟩
      · exact propext ⟨fun _ => z2, fun _ => z1⟩
      · exact propext ⟨fun z => absurd z (hx _ z1.1), fun z => absurd z (hx _ z2.1)⟩
    have hcj : (nI j = nI c) = (j = c) := propext (nI_eq (by omega) (by omega))
    have ih2 := ih (k + 1) g (by omega) (by omega)
    rw [show z_S (k + 1) (fun k => if z_bc (q_I M 109) k = c then z_bv (q_I M 109) dd k else 0) = z_S k (fun k => if z_bc (q_I M 109) k = c then z_bv (q_I M 109) dd k else 0) + (if z_bc (q_I M 109) k = c then z_bv (q_I M 109) dd k else 0) from rfl, ec2] at ih2
    generalize z_S k (fun k => if z_bc (q_I M 109) k = c then z_bv (q_I M 109) dd k else 0) = s at *
    simp only [z_bv] at ih2
    simp only [f_X12_penceOf_b5.eq_2, f_X12_penceOf_b77, zo_108 hL2, zl_ hL2, e9, hcn, Option.bind_some, hn, if_true, zg_4 hL2 (show k < 100 by omega), ec, hcj, hs, ← nI_succ]
    rcases Classical.propComplete (j = c) with c2 | c2
    · rcases Classical.propComplete (q_I M 109 (2820 + 5 * k + 2) = -1) with c0 | c0
      · simp only [c2, c0, if_true, ite_self, Int64.add_zero] at ih2 ⊢
        exact ih2
      · rcases Classical.propComplete (dd < q_I M 109 (2820 + 5 * k + 2)) with c1 | c1
        · simp only [c2, c0, c1, if_true, if_false, ite_self, Int64.add_zero] at ih2 ⊢
          exact ih2
        · simp only [c2, c0, c1, if_true, if_false, Int64.add_zero] at ih2 ⊢
          exact ih2
    · simp only [c2, if_false, Int64.add_zero] at ih2 ⊢
      exact ih2
theorem zs_pcM {M M2 : q_Mem} (hi : z_Inv M) (hL2 : z_Lay M2) (e9 : q_I M2 109 = q_I M 109) (dd : Int32) {c : Nat} (hc : c < z_m (q_I M 109) 3) : f_X12_penceOf M2 108 (nI c) dd = some (z_pc M dd c) := by
  obtain ⟨R, h3, hm, hcn⟩ := zt_4 hi
  have r : f_X12_penceOf_b5 M2 108 (nI c) dd q_fuel (0 : Int64) (0 : Int32) = some (z_pc M dd c) := zq_pcM hi hL2 e9 dd hc (z_m (q_I M 109) 4) 0 q_fuel (by omega) (z_fu (by omega))
  simp only [f_X12_penceOf, zob_108 hL2, r]
theorem zq_moneyM {M M2 : q_Mem} (hi : z_Inv M) (hL2 : z_Lay M2) (e9 : q_I M2 109 = q_I M 109) (wk dd : Int32) : ∀ (d k fu : Nat), k + d = z_m (q_I M 109) 3 → d < fu → f_X12_moneyOf_b5 M2 108 wk dd fu (z_S k (fun c => if q_I M 109 (2700 + 3 * c) / 7 = wk then z_pc M dd c else 0)) (nI k) = some (z_S (z_m (q_I M 109) 3) (fun c => if q_I M 109 (2700 + 3 * c) / 7 = wk then z_pc M dd c else 0)) := by
  obtain ⟨R, h3, hm, hcn⟩ := zt_3 hi
  intro d
  induction d with
  | zero =>
    intro k fu hd hf
    obtain ⟨g, rfl⟩ : ∃ g, fu = g + 1 := ⟨fu - 1, by omega⟩
    obtain rfl : k = z_m (q_I M 109) 3 := by omega
    have hn : (nI (z_m (q_I M 109) 3) < nI (z_m (q_I M 109) 3)) = False := eq_false (nI_nlt (Nat.le_refl _) (by omega))
    simp only [f_X12_moneyOf_b5.eq_2, zo_108 hL2, zl_ hL2, e9, hcn, Option.bind_some, hn, if_false]
  | succ d ih =>
    intro k fu hd hf
    obtain ⟨g, rfl⟩ : ∃ g, fu = g + 1 := ⟨fu - 1, by omega⟩
    have hk : k < z_m (q_I M 109) 3 := by omega
    have hn : (nI k < nI (z_m (q_I M 109) 3)) = True := eq_true (nI_lt hk (by omega))
    have ih2 := ih (k + 1) g (by omega) (by omega)
    rw [show z_S (k + 1) (fun c => if q_I M 109 (2700 + 3 * c) / 7 = wk then z_pc M dd c else 0) = z_S k (fun c => if q_I M 109 (2700 + 3 * c) / 7 = wk then z_pc M dd c else 0) + (if q_I M 109 (2700 + 3 * k) / 7 = wk then z_pc M dd k else 0) from rfl] at ih2
    generalize z_S k (fun c => if q_I M 109 (2700 + 3 * c) / 7 = wk then z_pc M dd c else 0) = s at *
    simp only [f_X12_moneyOf_b5.eq_2, zo_108 hL2, zl_ hL2, e9, hcn, Option.bind_some, hn, if_true, zg_3 hL2 (show k < 40 by omega), z_dv0 (show (7 : Int32) ≠ 0 by decide), zs_pcM hi hL2 e9 dd hk, ← nI_succ]
    rcases Classical.propComplete (q_I M 109 (2700 + 3 * k) / 7 = wk) with c0 | c0
    · simp only [c0, if_true] at ih2 ⊢
      exact ih2
    · simp only [c0, if_false] at ih2 ⊢
      exact ih2
theorem z_money_eq {M : q_Mem} (hi : z_Inv M) (wk dd : Int32) : z_S (z_m (q_I M 109) 3) (fun c => if q_I M 109 (2700 + 3 * c) / 7 = wk then z_pc M dd c else 0) = z_mw M wk dd := by
  obtain ⟨R, h3, hm, hcn⟩ := zt_4 hi
  obtain ⟨R3, h33, hm3, hcn3⟩ := zt_3 hi
  have e1 : z_S (z_m (q_I M 109) 3) (fun c => if q_I M 109 (2700 + 3 * c) / 7 = wk then z_pc M dd c else 0) = z_S (z_m (q_I M 109) 3) (fun c => z_S (z_m (q_I M 109) 4) (fun k => if q_I M 109 (2700 + 3 * c) / 7 = wk then (if z_bc (q_I M 109) k = c then z_bv (q_I M 109) dd k else 0) else 0)) := by
    refine z_S_cong _ _ _ (fun c hc => ?_)
    by_cases h : q_I M 109 (2700 + 3 * c) / 7 = wk
    · rw [if_pos h]
      exact z_S_cong _ _ _ (fun k hk => (if_pos h).symm)
    · rw [if_neg h]
      exact (z_S_zero _ _ (fun k hk => if_neg h)).symm
  rw [e1, z_S_swap]
  refine z_S_cong _ _ _ (fun k hk => ?_)
  obtain ⟨j, hj, ec⟩ : z_id (q_I M 109 (2820 + 5 * k)) (z_m (q_I M 109) 3) := (hi.2.2.2.2.1.2.2.2 4 (by decide) k hk).1
  have ec2 : z_bc (q_I M 109) k = j := by unfold z_bc; rw [ec, nI_clamp (by omega)]
  rw [ec2]
  have e2 := z_S_one _ j hj (if q_I M 109 (2700 + 3 * j) / 7 = wk then z_bv (q_I M 109) dd k else 0)
  refine Eq.trans (z_S_cong _ _ _ (fun c hc => ?_)) e2
  by_cases h : c = j
  · subst h
    rw [if_pos rfl, if_pos rfl]
  · have hj2 : (j = c) = False := eq_false (fun z => h z.symm)
    simp only [hj2, h, if_false, ite_self]
theorem zs_moneyM {M M2 : q_Mem} (hi : z_Inv M) (hL2 : z_Lay M2) (e9 : q_I M2 109 = q_I M 109) (wk dd : Int32) : f_X12_moneyOf M2 108 wk dd = some (z_mw M wk dd) := by
  obtain ⟨R, h3, hm, hcn⟩ := zt_3 hi
  have r : f_X12_moneyOf_b5 M2 108 wk dd q_fuel (0 : Int64) (0 : Int32) = some _ := zq_moneyM hi hL2 e9 wk dd (z_m (q_I M 109) 3) 0 q_fuel (by omega) (z_fu (by omega))
  rw [z_money_eq hi] at r
  simp only [f_X12_moneyOf, zob_108 hL2, r]
theorem Z_money_ok : Z_money := by
  intro M p1 p2 hi
  have hL := hi.1
  simp only [f_X11_money, f_X12_money, zob_0 hL, zo_0 hL, zob_108 hL, z_c_isDay, z_m_isDay, z_c_isWeek, z_m_isWeek, z_b0, zs_weekP hi, zs_moneyM hi hL rfl, Option.bind_some]
  split
  · split
    · exact ⟨_, rfl, rfl, hi⟩
    · exact ⟨_, rfl, rfl, hi⟩
  · exact ⟨_, rfl, rfl, hi⟩
