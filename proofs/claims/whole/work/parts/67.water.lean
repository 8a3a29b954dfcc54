/-! ===== watered ===== -/
def z_rg (P : Int32 → Prop) (o : Option Int32) : Prop := ∀ v, o = some v → P v
theorem z_rg.non {P : Int32 → Prop} : z_rg P none := fun _ h => by cases h
theorem z_rg.som {P : Int32 → Prop} {v : Int32} (h : P v) : z_rg P (some v) := fun u e => by cases e; exact h
theorem z_rg.bnd {P : Int32 → Prop} {α : Type} {o : Option α} {f : α → Option Int32} (h : ∀ x, z_rg P (f x)) : z_rg P (o.bind f) := by
  cases o with
  | none => exact z_rg.non
  | some x => exact h x
theorem z_rg.ite {P : Int32 → Prop} {c : Prop} [Decidable c] {a b : Option Int32} (h1 : z_rg P a) (h2 : z_rg P b) : z_rg P (if c then a else b) := by
  split
  · exact h1
  · exact h2
theorem z_rg.ob {P : Int32 → Prop} {ci a : Nat} {M : q_Mem} {o : Option Int32} (h : z_rg P o) : z_rg P (q_ob ci M a o) := by
  unfold q_ob
  exact z_rg.ite h z_rg.non
def z_rr (v : Int32) : Prop := v = -1 ∨ z_bt v 0 1000
theorem z_rr_cut (x : Int32) : z_rr (q_mx (0 : Int32) (q_mi (1000 : Int32) x)) := by
  refine Or.inr ?_
  have e0 : (0 : Int32).toInt = 0 := rfl
  have e1 : (1000 : Int32).toInt = 1000 := rfl
  have h1 : (q_mi (1000 : Int32) x).toInt ≤ 1000 := by
    unfold q_mi
    by_cases c : x < 1000
    · rw [if_pos c]
      have := (q_lt_iff _ _).mp c
      omega
    · rw [if_neg c, e1]; exact Int.le_refl _
  generalize q_mi (1000 : Int32) x = y at h1
  unfold q_mx
  by_cases c : (0 : Int32) < y
  · rw [if_pos c]
    refine ⟨?_, h1⟩
    have := (q_lt_iff _ _).mp c
    omega
  · rw [if_neg c]; exact ⟨by decide, by decide⟩
theorem z_rr350 : z_rr 350 := Or.inr ⟨by decide, by decide⟩
theorem z_rr_b32 {M : q_Mem} {a0 : Nat} {a2 s0 : Int32} : z_rg z_rr (f_X6_rateAsKnown_b32 M a0 a2 s0) := by
  unfold f_X6_rateAsKnown_b32
  exact z_rg.ite (z_rg.som z_rr350) (z_rg.bnd fun _ => z_rg.bnd fun _ => z_rg.bnd fun _ => z_rg.bnd fun _ => z_rg.bnd fun _ => z_rg.som (z_rr_cut _))
theorem z_rr_known {M : q_Mem} {a0 : Nat} {a1 a2 : Int32} : z_rg z_rr (f_X6_rateAsKnown M a0 a1 a2) := by
  unfold f_X6_rateAsKnown
  exact z_rg.ob (z_rg.bnd fun _ => z_rg.ite (z_rg.som (Or.inl rfl)) (z_rg.bnd fun _ => z_rg.ite (z_rg.bnd fun _ => z_rr_b32) z_rr_b32))
theorem zs_ratesR {M : q_Mem} (hi : z_Inv M) (dd : Int32) : ∃ M1 M2, f_X6_learn M 78 dd = some M1 ∧ z_sm M M1 ∧ f_X12_findRates M1 108 dd = some M2 ∧ z_RT M1 M2 ∧ z_Inv M2 ∧ ∀ k, k < z_m (q_I M1 109) 2 → z_rr (q_I M2 112 k) := by
  obtain ⟨M1, M2, l1, s1, l2, s2, hr, _⟩ := zs_rates hi dd
  obtain ⟨rt, hi2⟩ := z_RT_of hi s1 s2 hr
  refine ⟨M1, M2, l1, s1, l2, rt, hi2, fun k hk => ?_⟩
  obtain ⟨M1', l1', _, h⟩ := zs_learn hi dd
  rw [l1] at l1'
  cases l1'
  have hk' : k < z_m (q_I M 109) 2 := by rw [← z_inv9 s1]; exact hk
  obtain ⟨r, r1, r2⟩ := zs_rate hi hi.1 rfl hk' dd
  rw [h k hk'] at r2
  rw [← hr k hk]
  have := z_rr_known _ r1
  cases r2
  exact this
/-- the mean of the tests before -/
theorem zq_mean {M M2 : q_Mem} (h : z_RT M M2) (hrr : ∀ k, k < z_m (q_I M 109) 2 → z_rr (q_I M2 112 k)) (f wk : Int32) : ∀ (d i fu : Nat) (s n : Nat), i + d = z_m (q_I M 109) 2 → d < fu → n ≤ i → s ≤ 1000 * n → ∃ s' n', n' ≤ 200 ∧ s' ≤ 1000 * n' ∧ f_X6_meanBefore_b8 M 78 f wk fu (nI s) (nI n) (nI i) = f_X6_meanBefore_b85 M (nI s') (nI n') ∧ f_X12_watered_b40 M2 108 f wk fu (nI s) (nI n) (nI i) = f_X12_watered_b124 M2 108 f wk (nI s') (nI n') := by
  have hi := h.1
  have hL := hi.1
  have hL2 := h.2.1
  have e9 := h.2.2.1
  obtain ⟨R, h3, hm, hcn⟩ := zt_2 hi
  intro d
  induction d with
  | zero =>
    intro i fu s n hd hf hn1 hs1
    obtain ⟨g, rfl⟩ : ∃ g, fu = g + 1 := ⟨fu - 1, by omega⟩
    obtain rfl : i = z_m (q_I M 109) 2 := by omega
    have hn : (nI (z_m (q_I M 109) 2) < nI (z_m (q_I M 109) 2)) = False := eq_false (nI_nlt (Nat.le_refl _) (by omega))
    simp only [f_X6_meanBefore_b8.eq_2, f_X12_watered_b40.eq_2, zo_78 hL, zo_6 hL, h3, zo_108 hL2, zl_ hL2, e9, hcn, Option.bind_some, hn, if_false]
    exact ⟨s, n, by omega, hs1, rfl, rfl⟩
  | succ d ih =>
    intro i fu s n hd hf hn1 hs1
    obtain ⟨g, rfl⟩ : ∃ g, fu = g + 1 := ⟨fu - 1, by omega⟩
    have hj : i < z_m (q_I M 109) 2 := by omega
    have hn : (nI i < nI (z_m (q_I M 109) 2)) = True := eq_true (nI_lt hj (by omega))
    have hr2 : q_lI M2 112 (nI i) = some (q_I M2 112 i) := (za_112 hL2).2.1 i (by omega)
    have hrr2 := hrr i hj
    simp only [f_X6_meanBefore_b8.eq_2, f_X12_watered_b40.eq_2, zo_78 hL, zo_6 hL, h3, zo_108 hL2, zl_ hL2, e9, hcn, Option.bind_some, hn, if_true, ← nI_succ, zs_learned h hj, zr_2 hi hj, zg_2 hL2 (show i < 200 by omega), hr2, z_dv0 (show (7 : Int32) ≠ 0 by decide)]
    generalize q_I M2 112 i = v at hrr2
    rcases Classical.propComplete (v = -1) with c0 | c0
    · simp only [c0, if_true, ite_self]
      exact ih _ _ _ _ (by omega) (by omega) (by omega) hs1
    · simp only [c0, if_false]
      rcases Classical.propComplete (q_I M 109 (1300 + 7 * i) = f) with c1 | c1
      · simp only [c1, if_true]
        rcases Classical.propComplete (q_I M 109 (1300 + 7 * i + 1) / 7 < wk) with c2 | c2
        · simp only [c2, if_true]
          have hv := hrr2.resolve_left (fun z => by rw [c0] at z; exact z)
          obtain ⟨x, hx, rfl⟩ : ∃ x, x < 1001 ∧ v = nI x := z_of (n := 1001) ⟨hv.1, by have := hv.2; omega⟩ (by decide)
          rw [nI_add]
          exact ih _ _ _ _ (by omega) (by omega) (by omega) (by omega)
        · simp only [c2, if_false]
          exact ih _ _ _ _ (by omega) (by omega) (by omega) hs1
      · simp only [c1, if_false]
        exact ih _ _ _ _ (by omega) (by omega) (by omega) hs1
theorem z_wlt {mean rate : Int32} (h1 : z_bt mean 0 1000) (h2 : z_bt rate 0 1000) : ((mean - rate) < (40 : Int32)) = ((mean - (40 : Int32)) < rate) := by
  have e : (40 : Int32).toInt = 40 := rfl
  obtain ⟨a1, a2⟩ := h1
  obtain ⟨b1, b2⟩ := h2
  have s1 : (mean - rate).toInt = mean.toInt - rate.toInt := by
    rw [Int32.toInt_sub, Int.bmod_eq_of_le_mul_two] <;> omega
  have s2 : (mean - (40 : Int32)).toInt = mean.toInt - 40 := by
    rw [Int32.toInt_sub, e, Int.bmod_eq_of_le_mul_two] <;> omega
  apply propext
  rw [q_lt_iff, q_lt_iff, s1, s2, e]
  omega
theorem zq_signs {M M2 : q_Mem} (h : z_RT M M2) (hrr : ∀ k, k < z_m (q_I M 109) 2 → z_rr (q_I M2 112 k)) (f wk mean : Int32) (hmean : z_bt mean 0 1000) : ∀ (d i fu : Nat) (t s : Nat) (cf ml u : Int32), i + d = z_m (q_I M 109) 2 → d < fu → s ≤ t → t ≤ i →
    ((cf = -1 ∧ ml = -1 ∧ u = 0) ∨ (¬ cf = -1 ∧ ¬ ml = -1 ∧ ((u = 0 ∧ cf = ml ∧ 1 ≤ s) ∨ (u = 1 ∧ 2 ≤ s)))) → ∃ r, f_X6_signsOfWater_b29 M 78 f wk mean fu (nI t) (nI s) cf u (nI i) = some r ∧ f_X12_watered_b154 M2 108 f wk mean fu (nI s) (nI t) ml u (nI i) = some (r, M2) := by
  have hi := h.1
  have hL := hi.1
  have hL2 := h.2.1
  have e9 := h.2.2.1
  obtain ⟨R, h3, hm, hcn⟩ := zt_2 hi
  have n10 : ((1 : Int32) = 0) = False := by decide
  intro d
  induction d with
  | zero =>
    intro i fu t s cf ml u hd hf hst hti hp
    obtain ⟨g, rfl⟩ : ∃ g, fu = g + 1 := ⟨fu - 1, by omega⟩
    obtain rfl : i = z_m (q_I M 109) 2 := by omega
    have hn : (nI (z_m (q_I M 109) 2) < nI (z_m (q_I M 109) 2)) = False := eq_false (nI_nlt (Nat.le_refl _) (by omega))
    simp only [f_X6_signsOfWater_b29.eq_2, f_X12_watered_b154.eq_2, f_X6_signsOfWater_b137, f_X12_watered_b277, zo_78 hL, zo_6 hL, h3, zo_108 hL2, zl_ hL2, e9, hcn, Option.bind_some, hn, if_false]
    have hu : u = 0 ∨ (u = 1 ∧ 2 ≤ s) := by
      rcases hp with ⟨_, _, z⟩ | ⟨_, _, ⟨z, _⟩ | z⟩
      · exact Or.inl z
      · exact Or.inl z
      · exact Or.inr z
    rcases hu with rfl | ⟨rfl, hs2⟩
    · simp only [if_true, ite_self]
      exact ⟨0, rfl, rfl⟩
    · have hs3 : (nI s < (2 : Int32)) = False := eq_false (nI_nlt (b := 2) hs2 (by omega))
      simp only [n10, hs3, if_false]
      by_cases c : (2 : Int32) * nI s < nI t
      · simp only [c, if_true]; exact ⟨0, rfl, rfl⟩
      · simp only [c, if_false]; exact ⟨nI s, rfl, rfl⟩
  | succ d ih =>
    intro i fu t s cf ml u hd hf hst hti hp
    obtain ⟨g, rfl⟩ : ∃ g, fu = g + 1 := ⟨fu - 1, by omega⟩
    have hj : i < z_m (q_I M 109) 2 := by omega
    have hn : (nI i < nI (z_m (q_I M 109) 2)) = True := eq_true (nI_lt hj (by omega))
    have hr2 : q_lI M2 112 (nI i) = some (q_I M2 112 i) := (za_112 hL2).2.1 i (by omega)
    have hrr2 := hrr i hj
    have hday : z_bt (q_I M 109 (1300 + 7 * i + 1)) 0 195 := (hi.2.2.2.2.1.2.2.2 2 (by decide) i hj).2.1
    have hd1 : ¬ q_I M 109 (1300 + 7 * i + 1) = -1 := fun z => by
      have := hday.1
      rw [z] at this
      exact absurd this (by decide)
    simp only [f_X6_signsOfWater_b29.eq_2, f_X12_watered_b154.eq_2, f_X6_signsOfWater_b121, f_X12_watered_b265, zo_78 hL, zo_6 hL, h3, zo_108 hL2, zl_ hL2, e9, hcn, Option.bind_some, hn, if_true, ← nI_succ, zs_learned h hj, zr_2 hi hj, zg_2 hL2 (show i < 200 by omega), hr2, z_dv0 (show (7 : Int32) ≠ 0 by decide)]
    generalize q_I M2 112 i = v at hrr2
    generalize q_I M 109 (1300 + 7 * i + 1) = day at hd1
    rcases Classical.propComplete (v = -1) with c0 | c0
    · simp only [c0, if_true, ite_self]
      exact ih _ _ _ _ _ _ _ (by omega) (by omega) hst (by omega) hp
    · simp only [c0, if_false]
      rcases Classical.propComplete (q_I M 109 (1300 + 7 * i) = f) with c1 | c1
      · simp only [c1, if_true]
        rcases Classical.propComplete (day / 7 = wk) with c2 | c2
        · simp only [c2, if_true]
          have hv := hrr2.resolve_left (fun z => by rw [c0] at z; exact z)
          simp only [z_wlt hmean hv]
          rcases Classical.propComplete ((mean - (40 : Int32)) < v) with c3 | c3
          · simp only [c3, if_true]
            exact ih _ _ _ _ _ _ _ (by omega) (by omega) (by omega) (by omega) hp
          · simp only [c3, if_false]
            rcases hp with ⟨z1, z2, z3⟩ | ⟨z1, z2, ⟨z3, z4, z5⟩ | ⟨z3, z4⟩⟩
            · simp only [z1, z2, z3, if_true]
              exact ih _ _ _ _ _ _ _ (by omega) (by omega) (by omega) (by omega) (Or.inr ⟨hd1, hd1, Or.inl ⟨rfl, rfl, by omega⟩⟩)
            · simp only [z1, z2, z3, if_true, if_false]
              subst z4
              by_cases c4 : day = cf
              · subst c4
                simp only [if_true]
                exact ih _ _ _ _ _ _ _ (by omega) (by omega) (by omega) (by omega) (Or.inr ⟨hd1, hd1, Or.inl ⟨rfl, rfl, by omega⟩⟩)
              · have c5 : (cf = day) = False := eq_false (fun z => c4 z.symm)
                simp only [c4, c5, if_false]
                exact ih _ _ _ _ _ _ _ (by omega) (by omega) (by omega) (by omega) (Or.inr ⟨z1, hd1, Or.inr ⟨rfl, by omega⟩⟩)
            · simp only [z1, z3, n10, if_false, ite_self]
              exact ih _ _ _ _ _ _ _ (by omega) (by omega) (by omega) (by omega) (Or.inr ⟨z1, hd1, Or.inr ⟨rfl, by omega⟩⟩)
        · simp only [c2, if_false]
          exact ih _ _ _ _ _ _ _ (by omega) (by omega) hst (by omega) hp
      · simp only [c1, if_false]
        exact ih _ _ _ _ _ _ _ (by omega) (by omega) hst (by omega) hp
theorem z_meanR {s n : Nat} (h1 : 3 ≤ n) (h2 : n ≤ 200) (h3 : s ≤ 1000 * n) : z_bt (nI s / nI n) 0 1000 := by
  have hn : (nI n).toInt = n := nI_toInt (by omega)
  have hs : (nI s).toInt = s := nI_toInt (by omega)
  have e : (nI s / nI n).toInt = (s : Int) / n := by
    rw [Int32.toInt_div_of_ne_right _ _ (by
      intro z
      have := congrArg Int32.toInt z
      rw [hn] at this
      have e1 : (-1 : Int32).toInt = -1 := rfl
      omega), hn, hs, Int.tdiv_eq_ediv_of_nonneg (by omega)]
  unfold z_bt
  rw [e]
  refine ⟨Int.ediv_nonneg (by omega) (by omega), ?_⟩
  exact Int.ediv_le_of_le_mul (by omega) (by omega)
theorem zs_signs {M M2 : q_Mem} (h : z_RT M M2) (hrr : ∀ k, k < z_m (q_I M 109) 2 → z_rr (q_I M2 112 k)) (f wk : Int32) : ∃ r, f_X6_signsOfWater M 78 f wk = some r ∧ f_X12_watered_b40 M2 108 f wk q_fuel (0 : Int32) (0 : Int32) (0 : Int32) = some (r, M2) := by
  have hi := h.1
  have hL := hi.1
  obtain ⟨R, h3, hm, hcn⟩ := zt_2 hi
  obtain ⟨s, n, hn, hs, r1, r2⟩ := zq_mean h hrr f wk (z_m (q_I M 109) 2) 0 q_fuel 0 0 (by omega) (z_fu (by omega)) (by omega) (by omega)
  have r1' : f_X6_meanBefore M 78 f wk = f_X6_meanBefore_b85 M (nI s) (nI n) := by
    unfold f_X6_meanBefore
    rw [zob_78 hL]; exact r1
  have r2' : f_X12_watered_b40 M2 108 f wk q_fuel (0 : Int32) (0 : Int32) (0 : Int32) = f_X12_watered_b124 M2 108 f wk (nI s) (nI n) := r2
  rw [r2']
  by_cases c : n < 3
  · have c' : (nI n < (3 : Int32)) = True := eq_true (nI_lt (b := 3) c (by decide))
    simp only [f_X6_signsOfWater, zob_78 hL, r1', f_X6_meanBefore_b85, f_X12_watered_b124, c', if_true, Option.bind_some]
    exact ⟨0, rfl, rfl⟩
  · have c' : (nI n < (3 : Int32)) = False := eq_false (nI_nlt (b := 3) (by omega) (by omega))
    have n0 : nI n ≠ 0 := fun z => by
      have := (nI_eq (a := n) (b := 0) (by omega) (by decide)).mp z
      omega
    have hb := z_meanR (s := s) (n := n) (by omega) hn hs
    have hne : (nI s / nI n = -1) = False := eq_false (fun z => by
      have := hb.1
      rw [z] at this
      exact absurd this (by decide))
    simp only [f_X6_signsOfWater, zob_78 hL, r1', f_X6_meanBefore_b85, f_X12_watered_b124, c', if_false, Option.bind_some, z_dv0 n0, hne]
    exact zq_signs h hrr f wk _ hb (z_m (q_I M 109) 2) 0 q_fuel 0 0 (-1) (-1) 0 (by omega) (z_fu (by omega)) (by omega) (by omega) (Or.inl ⟨rfl, rfl, rfl⟩)
theorem Z_watered_ok : Z_watered := by
  intro M p1 p2 p3 hi
  have hL := hi.1
  obtain ⟨R, h3, hm, hcn⟩ := zt_0 hi
  have hh := z_has (x := p1) R h3 hm
  have hs : ∀ M1, z_Lay M1 → q_I M1 109 = q_I M 109 → f_X12_is M1 108 (0 : Int32) p1 = some (q_b (0 ≤ p1.toInt ∧ p1.toInt < (z_m (q_I M 109) 0 : Int))) := fun M1 a b => z_m_is (t := 0) (j := 0) a (by decide) (by rw [b]; exact hcn) (by omega)
  by_cases g0 : 0 ≤ p1.toInt ∧ p1.toInt < (z_m (q_I M 109) 0 : Int)
  · by_cases g1 : (0 : Int32).toInt ≤ p2.toInt ∧ p2.toInt ≤ (27 : Int32).toInt
    · by_cases g2 : (0 : Int32).toInt ≤ p3.toInt ∧ p3.toInt ≤ (195 : Int32).toInt
      · obtain ⟨M1, M2, l1, s1, l2, rt, hi2, hrr⟩ := zs_ratesR hi p3
        have hL1 := rt.1.1
        obtain ⟨r, r1, r2⟩ := zs_signs rt hrr p1 p2
        refine ⟨r, M1, M2, ?_, ?_, hi2⟩
        · simp only [f_X11_watered, zob_0 hL, zo_0 hL, zo_1 hL, hh, z_c_isWeek, z_c_isDay, Option.bind_some, z_b0, g0, g1, g2, and_self, if_true, l1, zo_0 hL1, r1]
        · simp only [f_X12_watered, zob_108 hL1, hs M1 hL1 (z_inv9 s1), z_m_isWeek, z_m_isDay, Option.bind_some, z_b0, g0, g1, g2, and_self, if_true, l2, r2]
      · refine ⟨-2, M, M, ?_, ?_, hi⟩
        · simp only [f_X11_watered, zob_0 hL, zo_0 hL, zo_1 hL, hh, z_c_isWeek, z_c_isDay, Option.bind_some, z_b0, g0, g1, g2, and_self, if_true, if_false]
        · simp only [f_X12_watered, zob_108 hL, hs M hL rfl, z_m_isWeek, z_m_isDay, Option.bind_some, z_b0, g0, g1, g2, and_self, if_true, if_false]
    · refine ⟨-2, M, M, ?_, ?_, hi⟩
      · simp only [f_X11_watered, zob_0 hL, zo_0 hL, zo_1 hL, hh, z_c_isWeek, z_c_isDay, Option.bind_some, z_b0, g0, g1, and_self, if_true, if_false]
      · simp only [f_X12_watered, zob_108 hL, hs M hL rfl, z_m_isWeek, z_m_isDay, Option.bind_some, z_b0, g0, g1, and_self, if_true, if_false]
  · refine ⟨-2, M, M, ?_, ?_, hi⟩
    · simp only [f_X11_watered, zob_0 hL, zo_0 hL, zo_1 hL, hh, Option.bind_some, z_b0, g0, if_false]
    · simp only [f_X12_watered, zob_108 hL, hs M hL rfl, Option.bind_some, z_b0, g0, if_false]
