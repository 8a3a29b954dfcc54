/-! ===== the model's route ===== -/
def r_xy (a b : Int32) : Nat := min 200 (a.toInt - b.toInt).natAbs
def r_d (st : Nat → Int32) (a b : Nat) : Nat := r_xy (st (20 + 4 * a)) (st (20 + 4 * b)) + r_xy (st (20 + 4 * a + 1)) (st (20 + 4 * b + 1))
def r_h (st : Nat → Int32) (a : Nat) : Nat := r_xy (st (20 + 4 * a)) 100 + r_xy (st (20 + 4 * a + 1)) 100
theorem r_xy_le (a b : Int32) : r_xy a b ≤ 200 := Nat.min_le_left _ _
theorem r_d_le (st : Nat → Int32) (a b : Nat) : r_d st a b ≤ 400 := by
  have h1 := r_xy_le (st (20 + 4 * a)) (st (20 + 4 * b))
  have h2 := r_xy_le (st (20 + 4 * a + 1)) (st (20 + 4 * b + 1))
  unfold r_d
  omega
theorem r_h_le (st : Nat → Int32) (a : Nat) : r_h st a ≤ 400 := by
  have h1 := r_xy_le (st (20 + 4 * a)) 100
  have h2 := r_xy_le (st (20 + 4 * a + 1)) 100
  unfold r_h
  omega
theorem z_abN {u v : Int32} (hu : z_bt u 0 200) (hv : z_bt v 0 200) : q_ab (u - v) = nI (r_xy u v) := by
  obtain ⟨a, ha, rfl⟩ : ∃ a, a < 201 ∧ u = nI a := z_of (n := 201) ⟨hu.1, by have := hu.2; omega⟩ (by decide)
  obtain ⟨b, hb, rfl⟩ : ∃ b, b < 201 ∧ v = nI b := z_of (n := 201) ⟨hv.1, by have := hv.2; omega⟩ (by decide)
  unfold r_xy
  rw [nI_toInt (by omega), nI_toInt (by omega), z_ab]
  rcases Nat.lt_or_ge a b with c | c
  · rw [if_pos (pk_sneg (by omega) c), show min 200 ((a : Int) - (b : Int)).natAbs = b - a by omega]
    rw [q_eq_iff, nI_toInt (by omega)]
    have e : (-(nI a - nI b)) = nI b - nI a := by
      rw [Int32.neg_sub]
    rw [e, pk_sub_toInt (by omega) (by omega)]
    omega
  · rw [pk_sub c, if_neg (nI_pos (by omega)), show min 200 ((a : Int) - (b : Int)).natAbs = a - b by omega]
theorem z_rdN {M : q_Mem} (hi : z_Inv M) {a b : Nat} (ha : a < z_m (q_I M 109) 0) (hb : b < z_m (q_I M 109) 0) : q_ab (q_I M 109 (20 + 4 * a) - q_I M 109 (20 + 4 * b)) + q_ab (q_I M 109 (20 + 4 * a + 1) - q_I M 109 (20 + 4 * b + 1)) = nI (r_d (q_I M 109) a b) := by
  have va := hi.2.2.2.2.1.2.2.2 0 (by decide) a ha
  have vb := hi.2.2.2.2.1.2.2.2 0 (by decide) b hb
  rw [z_abN va.1 vb.1, z_abN va.2.1 vb.2.1, nI_add]
  rfl
theorem z_rhN {M : q_Mem} (hi : z_Inv M) {a : Nat} (ha : a < z_m (q_I M 109) 0) : q_ab (q_I M 109 (20 + 4 * a) - (100 : Int32)) + q_ab (q_I M 109 (20 + 4 * a + 1) - (100 : Int32)) = nI (r_h (q_I M 109) a) := by
  have va := hi.2.2.2.2.1.2.2.2 0 (by decide) a ha
  have vb : z_bt (100 : Int32) 0 200 := ⟨by decide, by decide⟩
  rw [z_abN va.1 vb, z_abN va.2.1 vb, nI_add]
  rfl
theorem r_xy_sym (a b : Int32) : r_xy a b = r_xy b a := by
  unfold r_xy
  omega
theorem r_d_sym (st : Nat → Int32) (a b : Nat) : r_d st a b = r_d st b a := by
  unfold r_d
  rw [r_xy_sym, r_xy_sym (st (20 + 4 * a + 1))]
theorem zm_fm {Mx : q_Mem} (hL : z_Lay Mx) {f : Nat} (hf : f < 20) (x y : Int32) : f_X12_farmMiles Mx 108 (nI f) x y = some (q_ab (q_I Mx 109 (20 + 4 * f) - x) + q_ab (q_I Mx 109 (20 + 4 * f + 1) - y)) := by
  simp only [f_X12_farmMiles, f_X12_miles, z_m_size, zob_108 hL, zo_108 hL, zg_0 hL hf, Option.bind_some]
/-- the stops, as the model takes them -/
theorem zm_stops {M : q_Mem} (hi : z_Inv M) {s : Nat} (hs : s < 1048576) (h8 : (r_A (Nat.testBit s) id (z_m (q_I M 109) 0)).length ≤ 8) : ∀ (d i fu : Nat) (Mx : q_Mem), i + d = z_m (q_I M 109) 0 → d < fu → z_sm M Mx → z_SA Mx (r_A (Nat.testBit s) id i) →
    ∃ My, f_X12_findRoute_b7 108 (nI s) fu (nI i) Mx = f_X12_findRoute_b52 My 108 ∧ z_sm M My ∧ z_SA My (r_A (Nat.testBit s) id (z_m (q_I M 109) 0)) := by
  obtain ⟨R, h3, hm, hcn⟩ := zt_0 hi
  intro d
  induction d with
  | zero =>
    intro i fu Mx hd hf hS hA
    obtain ⟨g, rfl⟩ : ∃ g, fu = g + 1 := ⟨fu - 1, by omega⟩
    have hX := hS.1.lay hi.1
    have e9 := z_inv9 hS
    obtain rfl : i = z_m (q_I M 109) 0 := by omega
    have hn : (nI (z_m (q_I M 109) 0) < nI (z_m (q_I M 109) 0)) = False := eq_false (nI_nlt (Nat.le_refl _) (by omega))
    refine ⟨Mx, ?_, hS, hA⟩
    simp only [f_X12_findRoute_b7.eq_2, zo_108 hX, zl_ hX, e9, hcn, Option.bind_some, hn, if_false]
  | succ d ih =>
    intro i fu Mx hd hf hS hA
    obtain ⟨g, rfl⟩ : ∃ g, fu = g + 1 := ⟨fu - 1, by omega⟩
    have hX := hS.1.lay hi.1
    have e9 := z_inv9 hS
    have hj : i < z_m (q_I M 109) 0 := by omega
    have hn : (nI i < nI (z_m (q_I M 109) 0)) = True := eq_true (nI_lt hj (by omega))
    have st : r_A (Nat.testBit s) id (i + 1) = r_A (Nat.testBit s) id i ++ (if Nat.testBit s i = true then [i] else []) := rfl
    have hmono := r_A_mono (c := Nat.testBit s) (g := id) (n := z_m (q_I M 109) 0) (k := i + 1) (by omega)
    by_cases z : Nat.testBit s i = true
    · rw [if_pos z] at st
      have hlen : (r_A (Nat.testBit s) id (i + 1)).length = (r_A (Nat.testBit s) id i).length + 1 := by rw [st, List.length_append]; rfl
      obtain ⟨a1, a2⟩ := hA
      have l8 : (r_A (Nat.testBit s) id i).length < 8 := by omega
      have X1 : z_Lay (q_sI Mx 124 (r_A (Nat.testBit s) id i).length (nI i)) := hX
      have e20 : q_I (q_sI Mx 124 (r_A (Nat.testBit s) id i).length (nI i)) 108 20 = nI (r_A (Nat.testBit s) id i).length := by rw [q_sI_ne (by decide)]; exact a1
      obtain ⟨My, r1, r2, r3⟩ := ih (i + 1) g (q_sI (q_sI Mx 124 (r_A (Nat.testBit s) id i).length (nI i)) 108 20 (nI ((r_A (Nat.testBit s) id i).length + 1))) (by omega) (by omega) ((hS.tr (z_sm.sI (by unfold z_core; omega))).tr (z_sm.sI (by unfold z_core; omega))) ⟨by rw [z_I_sI, if_pos ⟨rfl, rfl⟩, hlen], fun k hk => by
        rw [q_sI_ne (by decide), z_I_sI, st]
        by_cases e : k = (r_A (Nat.testBit s) id i).length
        · rw [if_pos ⟨rfl, e⟩, r_app2 (by omega), e, Nat.sub_self]; rfl
        · rw [if_neg (fun y => e y.2), r_app1 (by omega)]
          exact a2 k (by omega)⟩
      refine ⟨My, ?_, r2, r3⟩
      simp only [f_X12_findRoute_b7.eq_2, zo_108 hX, zl_ hX, e9, hcn, Option.bind_some, hn, if_true, z_tbit (s := s) (f := i) (by omega) (by omega), z, a1, (za_124 hX).2.2 _ _ l8, zo_108 X1, e20, nI_1]
      exact r1
    · rw [if_neg z, List.append_nil] at st
      obtain ⟨My, r1, r2, r3⟩ := ih (i + 1) g Mx (by omega) (by omega) hS (by rw [st]; exact hA)
      refine ⟨My, ?_, r2, r3⟩
      simp only [f_X12_findRoute_b7.eq_2, zo_108 hX, zl_ hX, e9, hcn, Option.bind_some, hn, if_true, z_tbit (s := s) (f := i) (by omega) (by omega), z, if_false, nI_1]
      exact r1
theorem zm_back2 {M Mx : q_Mem} (hi : z_Inv M) (hS : z_sm M Mx) {p : List Nat} (hA : z_SA Mx p) (h8 : p.length ≤ 8) (hp : ∀ x ∈ p, x < z_m (q_I M 109) 0) (H : Nat) (hH : H ≤ 400) : ∀ (d i fu : Nat), i + d + 1 = p.length → d < fu → f_X12_milesBack_b22 Mx 108 fu (nI (H + r_s (r_d (q_I M 109)) p i)) (nI (i + 1)) = some (nI (H + r_s (r_d (q_I M 109)) p (p.length - 1))) := by
  obtain ⟨R, h3, hm, hcn⟩ := zt_0 hi
  have hX := hS.1.lay hi.1
  have e9 := z_inv9 hS
  obtain ⟨a1, a2⟩ := hA
  intro d
  induction d with
  | zero =>
    intro i fu hd hf
    obtain ⟨g, rfl⟩ : ∃ g, fu = g + 1 := ⟨fu - 1, by omega⟩
    have hn : (nI (i + 1) < nI p.length) = False := eq_false (nI_nlt (by omega) (by omega))
    simp only [f_X12_milesBack_b22.eq_2, zo_108 hX, a1, Option.bind_some, hn, if_false]
    rw [show p.length - 1 = i by omega]
  | succ d ih =>
    intro i fu hd hf
    obtain ⟨g, rfl⟩ : ∃ g, fu = g + 1 := ⟨fu - 1, by omega⟩
    have hn : (nI (i + 1) < nI p.length) = True := eq_true (nI_lt (by omega) (by omega))
    have k0 : p.getD i 0 < z_m (q_I M 109) 0 := hp _ (r_mem (by omega))
    have k1 : p.getD (i + 1) 0 < z_m (q_I M 109) 0 := hp _ (r_mem (by omega))
    have key := z_rdN hi k1 k0
    have ih1 := ih (i + 1) g (by omega) (by omega)
    simp only [f_X12_milesBack_b22.eq_2, zo_108 hX, a1, Option.bind_some, hn, if_true, (za_124 hX).2.1 (i + 1) (by omega), a2 (i + 1) (by omega), nI_pred i, (za_124 hX).2.1 i (by omega), a2 i (by omega), zg_0 hX (show p.getD i 0 < 20 by omega), zm_fm hX (show p.getD (i + 1) 0 < 20 by omega), e9, key]
    rw [r_d_sym, nI_add, nI_1, Nat.add_assoc]
    exact ih1
theorem zm_back {M Mx : q_Mem} (hi : z_Inv M) (hS : z_sm M Mx) {p : List Nat} (hA : z_SA Mx p) (h0 : 0 < p.length) (h8 : p.length ≤ 8) (hp : ∀ x ∈ p, x < z_m (q_I M 109) 0) : f_X12_milesBack Mx 108 = some (nI (r_E (r_d (q_I M 109)) (r_h (q_I M 109)) p)) := by
  obtain ⟨R, h3, hm, hcn⟩ := zt_0 hi
  have hX := hS.1.lay hi.1
  have e9 := z_inv9 hS
  have hl : p.getD (p.length - 1) 0 < z_m (q_I M 109) 0 := hp _ (r_mem (by omega))
  have k := zm_back2 hi hS hA h8 hp (r_h (q_I M 109) (p.getD (p.length - 1) 0)) (r_h_le _ _) (p.length - 1) 0 q_fuel (by omega) (z_fu (by omega))
  have k : f_X12_milesBack_b22 Mx 108 q_fuel (nI (r_h (q_I M 109) (p.getD (p.length - 1) 0))) (1 : Int32) = _ := k
  have e1 : nI p.length - (1 : Int32) = nI (p.length - 1) := pk_sub (b := 1) (by omega)
  have eE : r_E (r_d (q_I M 109)) (r_h (q_I M 109)) p = r_h (q_I M 109) (p.getD (p.length - 1) 0) + r_s (r_d (q_I M 109)) p (p.length - 1) := by
    cases p with
    | nil => exact absurd h0 (by simp)
    | cons x q => exact r_bk_s q x
  simp only [f_X12_milesBack, zob_108 hX, zo_108 hX, hA.1, Option.bind_some, e1, (za_124 hX).2.1 (p.length - 1) (by omega), hA.2 (p.length - 1) (by omega), zm_fm hX (show p.getD (p.length - 1) 0 < 20 by omega), e9, z_rhN hi hl, k, eE]
theorem r_E_le {st : Nat → Int32} (p : List Nat) (h8 : p.length ≤ 8) : r_E (r_d st) (r_h st) p ≤ 4000 := by
  cases p with
  | nil => exact Nat.zero_le _
  | cons x q =>
    show r_bk (r_d st) (r_h st) x q ≤ 4000
    rw [r_bk_s q x]
    have h1 := r_h_le st ((x :: q).getD q.length 0)
    have h2 := r_s_le (r_d_le st) (x :: q) q.length
    rw [List.length_cons] at h8
    omega
/-- the best so far as the model's cells have it -/
def z_BS (n : Nat) (b : Option (Nat × List Nat)) (M : q_Mem) : Prop := match b with
  | none => q_I M 108 23 = -1
  | some w => q_I M 108 23 = nI w.1 ∧ w.1 < 10000 ∧ ∀ k, k < n → q_I M 125 k = nI (w.2.getD k 0)
theorem z_BS.cong {n : Nat} {b : Option (Nat × List Nat)} {M M' : q_Mem} (h : z_BS n b M) (h1 : q_I M' 108 = q_I M 108) (h2 : q_I M' 125 = q_I M 125) : z_BS n b M' := by
  cases b with
  | none => show q_I M' 108 23 = -1; rw [h1]; exact h
  | some w => exact ⟨by rw [h1]; exact h.1, h.2.1, fun k hk => by rw [h2]; exact h.2.2 k hk⟩
theorem zm_copy {n : Nat} (h8 : n ≤ 8) (kk : Int32 → q_Mem → Option q_Mem) : ∀ (d i fu : Nat) (Mx : q_Mem), i + d = n → d < fu → z_Lay Mx → q_I Mx 108 20 = nI n → ∃ My, f_X12_findRoute_b168 kk 108 fu (nI i) Mx = (f_X12_nextOrder My 108).bind (fun r => kk r.1 r.2) ∧ z_F1 125 Mx My ∧ (∀ k, k < i → q_I My 125 k = q_I Mx 125 k) ∧ ∀ k, i ≤ k → k < n → q_I My 125 k = q_I Mx 124 k := by
  intro d
  induction d with
  | zero =>
    intro i fu Mx hd hf hX h20
    obtain ⟨g, rfl⟩ : ∃ g, fu = g + 1 := ⟨fu - 1, by omega⟩
    have hn : (nI i < nI n) = False := eq_false (nI_nlt (by omega) (by omega))
    exact ⟨Mx, by simp only [f_X12_findRoute_b168.eq_2, zo_108 hX, h20, Option.bind_some, hn, if_false], z_F1.rf, fun _ _ => rfl, fun k h1 h2 => by omega⟩
  | succ d ih =>
    intro i fu Mx hd hf hX h20
    obtain ⟨g, rfl⟩ : ∃ g, fu = g + 1 := ⟨fu - 1, by omega⟩
    have hn : (nI i < nI n) = True := eq_true (nI_lt (by omega) (by omega))
    have X1 : z_Lay (q_sI Mx 125 i (q_I Mx 124 i)) := hX
    obtain ⟨My, r1, r2, r3, r4⟩ := ih (i + 1) g (q_sI Mx 125 i (q_I Mx 124 i)) (by omega) (by omega) X1 (by rw [q_sI_ne (by decide)]; exact h20)
    refine ⟨My, ?_, (z_F1.sI (by decide)).tr r2, fun k hk => ?_, fun k h1 h2 => ?_⟩
    · simp only [f_X12_findRoute_b168.eq_2, zo_108 hX, h20, Option.bind_some, hn, if_true, (za_124 hX).2.1 i (by omega), (za_125 hX).2.2 i _ (show i < 8 by omega), nI_1]
      exact r1
    · rw [r3 k (by omega), z_I_sI, if_neg (by omega)]
    · by_cases e : k = i
      · rw [r3 k (by omega), z_I_sI, if_pos ⟨rfl, e⟩, e]
      · rw [r4 k (by omega) h2, q_sI_ne (by decide)]
/-- one order tried -/
theorem zm_try {M Mx : q_Mem} (hi : z_Inv M) (hS : z_sm M Mx) {p : List Nat} {S : Nat} (hS11 : q_I M 109 11 = nI S) (hS2 : S ≤ 2000) (hA : z_SA Mx p) (h0 : 0 < p.length) (h8 : p.length ≤ 8) (hp : ∀ x ∈ p, x < z_m (q_I M 109) 0) {b : Option (Nat × List Nat)} (hB : z_BS p.length b Mx) (g : Nat) :
    ∃ My, f_X12_findRoute_b81 108 (g + 1) (1 : Int32) Mx = (f_X12_nextOrder My 108).bind (fun r => f_X12_findRoute_b81 108 g r.1 r.2) ∧ z_sm M My ∧ z_SA My p ∧ z_BS p.length (r_st (r_d (q_I M 109)) (r_h (q_I M 109)) (5 * (p.length - 1)) S b p) My := by
  obtain ⟨R, h3, hm, hcn⟩ := zt_0 hi
  have hX := hS.1.lay hi.1
  have e9 := z_inv9 hS
  have hl : p.getD 0 0 < z_m (q_I M 109) 0 := hp _ (r_mem h0)
  have kb := zm_back hi hS hA h0 h8 hp
  have e1 : nI p.length - (1 : Int32) = nI (p.length - 1) := pk_sub (b := 1) (by omega)
  have l0 : q_lI Mx 124 (0 : Int32) = some (q_I Mx 124 0) := (za_124 hX).2.1 0 (by decide)
  have hE := r_E_le (st := q_I M 109) p h8
  have hh := r_h_le (q_I M 109) (p.getD 0 0)
  have hd0 : p.headD 0 = p.getD 0 0 := by cases p <;> rfl
  have m3 : (3 : Int32) = nI 3 := rfl
  have m5 : (5 : Int32) = nI 5 := rfl
  have n10 : ((1 : Int32) = 0) = False := by decide
  unfold r_st
  rw [hd0]
  generalize hEE : r_E (r_d (q_I M 109)) (r_h (q_I M 109)) p = E at kb hE
  generalize hHH : r_h (q_I M 109) (p.getD 0 0) = H at hh
  have eT : (3 : Int32) * nI E + (5 : Int32) * nI (p.length - 1) = nI (3 * E + 5 * (p.length - 1)) := by rw [m3, m5, pk_mul, pk_mul, nI_add]
  have pre : f_X12_findRoute_b81 108 (g + 1) (1 : Int32) Mx = if nI S < nI (3 * E + 5 * (p.length - 1)) then f_X12_findRoute_b135 (f_X12_findRoute_b81 108 g) Mx 108 (nI (E + H)) (0 : Int32) else f_X12_findRoute_b135 (f_X12_findRoute_b81 108 g) Mx 108 (nI (E + H)) (1 : Int32) := by
    simp only [f_X12_findRoute_b81.eq_2, n10, if_false, kb, zo_108 hX, l0, hA.2 0 h0, zm_fm hX (show p.getD 0 0 < 20 by omega), e9, z_rhN hi hl, hHH, hA.1, e1, zl_ hX, hS11, Option.bind_some, eT, nI_add]
  -- the new best is put down
  have put : ∃ My, f_X12_findRoute_b159 (f_X12_findRoute_b81 108 g) Mx 108 (nI (E + H)) = (f_X12_nextOrder My 108).bind (fun r => f_X12_findRoute_b81 108 g r.1 r.2) ∧ z_sm M My ∧ z_SA My p ∧ z_BS p.length (some (E + H, p)) My := by
    have X1 : z_Lay (q_sI Mx 108 23 (nI (E + H))) := hX
    obtain ⟨My, r1, r2, r3, r4⟩ := zm_copy h8 (f_X12_findRoute_b81 108 g) p.length 0 q_fuel (q_sI Mx 108 23 (nI (E + H))) (by omega) (z_fu (by omega)) X1 (by rw [z_I_sI, if_neg (by omega)]; exact hA.1)
    have r1 : f_X12_findRoute_b168 (f_X12_findRoute_b81 108 g) 108 q_fuel (0 : Int32) (q_sI Mx 108 23 (nI (E + H))) = _ := r1
    refine ⟨My, ?_, (hS.tr (z_sm.sI (by unfold z_core; omega))).tr ⟨r2.1, fun a ha => r2.2.1 a (fun z => by rw [z] at ha; unfold z_core at ha; omega)⟩, ⟨?_, fun k hk => ?_⟩, ⟨?_, by omega, fun k hk => ?_⟩⟩
    · simp only [f_X12_findRoute_b159, zo_108 hX, Option.bind_some, r1]
    · rw [r2.2.1 108 (by decide), z_I_sI, if_neg (by omega)]; exact hA.1
    · rw [r2.2.1 124 (by decide), q_sI_ne (by decide)]; exact hA.2 k hk
    · rw [r2.2.1 108 (by decide), z_I_sI, if_pos ⟨rfl, rfl⟩]
    · rw [r4 k (Nat.zero_le _) hk, q_sI_ne (by decide)]; exact hA.2 k hk
  have stay : z_BS p.length b Mx → ∃ My, (f_X12_nextOrder Mx 108).bind (fun r => f_X12_findRoute_b81 108 g r.1 r.2) = (f_X12_nextOrder My 108).bind (fun r => f_X12_findRoute_b81 108 g r.1 r.2) ∧ z_sm M My ∧ z_SA My p ∧ z_BS p.length b My := fun h => ⟨Mx, rfl, hS, hA, h⟩
  by_cases c : 3 * E + 5 * (p.length - 1) ≤ S
  · have cc : ¬ nI S < nI (3 * E + 5 * (p.length - 1)) := nI_nlt c (by omega)
    rw [pre, if_neg cc]
    cases b with
    | none =>
      have hB : q_I Mx 108 23 = -1 := hB
      obtain ⟨My, r1, r2⟩ := put
      refine ⟨My, ?_, ?_⟩
      · simp only [f_X12_findRoute_b135, n10, if_false, zo_108 hX, hB, Option.bind_some, if_true]
        exact r1
      · show z_sm M My ∧ z_SA My p ∧ z_BS p.length (if 3 * E + 5 * (p.length - 1) ≤ S then some (E + H, p) else none) My
        rw [if_pos c]; exact r2
    | some w =>
      obtain ⟨w1, w2, w3⟩ := hB
      have nw : (nI w.1 = (-1 : Int32)) = False := eq_false (z_nI_ne (by omega))
      by_cases c2 : E + H < w.1
      · have c3 : (nI (E + H) < nI w.1) = True := eq_true (nI_lt c2 (by omega))
        obtain ⟨My, r1, r2⟩ := put
        refine ⟨My, ?_, ?_⟩
        · simp only [f_X12_findRoute_b135, n10, if_false, zo_108 hX, w1, Option.bind_some, nw, c3, if_true]
          exact r1
        · show z_sm M My ∧ z_SA My p ∧ z_BS p.length (if 3 * E + 5 * (p.length - 1) ≤ S ∧ E + H < w.1 then some (E + H, p) else some w) My
          rw [if_pos ⟨c, c2⟩]; exact r2
      · have c3 : (nI (E + H) < nI w.1) = False := eq_false (nI_nlt (by omega) (by omega))
        obtain ⟨My, r1, r2⟩ := stay ⟨w1, w2, w3⟩
        refine ⟨My, ?_, ?_⟩
        · simp only [f_X12_findRoute_b135, n10, if_false, zo_108 hX, w1, Option.bind_some, nw, c3]
          exact r1
        · show z_sm M My ∧ z_SA My p ∧ z_BS p.length (if 3 * E + 5 * (p.length - 1) ≤ S ∧ E + H < w.1 then some (E + H, p) else some w) My
          rw [if_neg (fun z => c2 z.2)]; exact r2
  · have cc : nI S < nI (3 * E + 5 * (p.length - 1)) := nI_lt (by omega) (by omega)
    rw [pre, if_pos cc]
    obtain ⟨My, r1, r2⟩ := stay hB
    refine ⟨My, ?_, ?_⟩
    · simp only [f_X12_findRoute_b135, if_true]
      exact r1
    · cases b with
      | none =>
        show z_sm M My ∧ z_SA My p ∧ z_BS p.length (if 3 * E + 5 * (p.length - 1) ≤ S then some (E + H, p) else none) My
        rw [if_neg c]; exact r2
      | some w =>
        show z_sm M My ∧ z_SA My p ∧ z_BS p.length (if 3 * E + 5 * (p.length - 1) ≤ S ∧ E + H < w.1 then some (E + H, p) else some w) My
        rw [if_neg (fun z => c z.1)]; exact r2
/-- all orders tried -/
theorem zm_orders {M : q_Mem} (hi : z_Inv M) {S n : Nat} (hS11 : q_I M 109 11 = nI S) (hS2 : S ≤ 2000) (h0 : 0 < n) (h8 : n ≤ 8) {z : List Nat} (hz : z.Pairwise (· > ·)) : ∀ (P : List (List Nat)) (a : List Nat) (b : Option (Nat × List Nat)) (fu : Nat) (Mx : q_Mem), r_ok P a z → (∀ p ∈ P, p.length = n ∧ ∀ x ∈ p, x < z_m (q_I M 109) 0) → P.length < fu → z_sm M Mx → z_SA Mx a → z_BS n b Mx →
    ∃ My, f_X12_findRoute_b81 108 fu (1 : Int32) Mx = some My ∧ z_sm M My ∧ q_I My 108 20 = nI n ∧ z_BS n (P.foldl (r_st (r_d (q_I M 109)) (r_h (q_I M 109)) (5 * (n - 1)) S) b) My := by
  obtain ⟨R, h3, hm, hcn⟩ := zt_0 hi
  intro P
  induction P with
  | nil => intro a b fu Mx h; exact absurd h (fun x => x)
  | cons p P ih =>
    intro a b fu Mx hok hP hf hS hA hB
    obtain ⟨g, rfl⟩ : ∃ g, fu = g + 1 := ⟨fu - 1, by omega⟩
    obtain ⟨k1, k2⟩ := hP p List.mem_cons_self
    obtain ⟨rfl, h2⟩ := hok
    subst k1
    obtain ⟨My, r1, r2, r3, r4⟩ := zm_try hi hS hS11 hS2 hA h0 h8 k2 hB g
    have hY := r2.1.lay hi.1
    have b2 : ∀ x ∈ p, x < 200 := fun x hx => by have := k2 x hx; omega
    have core124 : ∀ Mz, z_F1 124 My Mz → z_sm M Mz := fun Mz h => r2.tr ⟨h.1, fun a ha => h.2.1 a (fun z => by rw [z] at ha; unfold z_core at ha; omega)⟩
    rw [r1, List.foldl_cons]
    rcases h2 with ⟨rfl, rfl⟩ | ⟨b', h3, h4⟩
    · rw [zo_lastL hY hz h0 h8 r3 b2]
      obtain ⟨g', rfl⟩ : ∃ g', g = g' + 1 := ⟨g - 1, by simp only [List.length_cons, List.length_nil] at hf; omega⟩
      refine ⟨My, ?_, r2, r3.1, r4⟩
      simp only [Option.bind_some, f_X12_findRoute_b81.eq_2, if_true]
    · obtain ⟨Mz, s1, s2, s3⟩ := zo_nextL hY h3 h8 r3 b2
      rw [s1]
      exact ih b' _ g Mz h4 (fun q hq => hP q (List.mem_cons_of_mem _ hq)) (by simp only [List.length_cons] at hf; omega) (core124 Mz s2) s3 (r4.cong (s2.2.1 108 (by decide)) (s2.2.1 125 (by decide)))
theorem zs_sour {M : q_Mem} (hi : z_Inv M) : ∃ S, q_I M 109 11 = nI S ∧ S ≤ 2000 ∧ q_I M 1 14 = nI S := by
  obtain ⟨h1, h2⟩ := hi.2.2.2.2.1.2.1.2.2.1
  obtain ⟨S, hS, e⟩ : ∃ S, S < 2001 ∧ q_I M 109 11 = nI S := z_of (n := 2001) ⟨by have := h2.1; omega, by have := h2.2; omega⟩ (by decide)
  exact ⟨S, e, by omega, h1.trans e⟩
/-- what the model finds -/
theorem zs_routeM {M Mx : q_Mem} (hi : z_Inv M) (hS : z_sm M Mx) {s : Nat} (hs : s < 1048576) {l : List Nat} (hl : l = r_A (Nat.testBit s) id (z_m (q_I M 109) 0)) (h8 : l.length ≤ 8) {S : Nat} (hS11 : q_I M 109 11 = nI S) (hS2 : S ≤ 2000) :
    ∃ My, f_X12_findRoute Mx 108 (nI s) = some My ∧ z_sm M My ∧ q_I My 108 20 = nI l.length ∧ (l.length = 0 → q_I My 108 23 = 0) ∧ (∀ n, l.length = n + 1 → z_BS (n + 1) (r_T (r_d (q_I M 109)) (r_h (q_I M 109)) (5 * n) S n [] l none) My) := by
  obtain ⟨R, h3, hm, hcn⟩ := zt_0 hi
  have hX := hS.1.lay hi.1
  obtain ⟨My, r1, r2, r3⟩ := zm_stops hi hs (by rw [← hl]; exact h8) (z_m (q_I M 109) 0) 0 q_fuel (q_sI Mx 108 20 0) (by omega) (z_fu (by omega)) (hS.tr (z_sm.sI (by unfold z_core; omega))) ⟨by rw [z_I_sI, if_pos ⟨rfl, rfl⟩]; rfl, fun k hk => absurd hk (Nat.not_lt_zero _)⟩
  have r1 : f_X12_findRoute_b7 108 (nI s) q_fuel (0 : Int32) (q_sI Mx 108 20 0) = _ := r1
  have p0 : f_X12_findRoute Mx 108 (nI s) = f_X12_findRoute_b52 My 108 := by
    simp only [f_X12_findRoute, zob_108 hX, zo_108 hX, Option.bind_some, r1]
  rw [← hl] at r3
  have hY := r2.1.lay hi.1
  rw [p0]
  cases e : l.length with
  | zero =>
    have h20 : q_I My 108 20 = 0 := by rw [r3.1, e]; rfl
    have Y1 : z_Lay (q_sI My 108 23 0) := hY
    have g20 : q_I (q_sI My 108 23 0) 108 20 = 0 := by rw [z_I_sI, if_neg (by omega)]; exact h20
    refine ⟨q_sI My 108 23 0, ?_, r2.tr (z_sm.sI (by unfold z_core; omega)), by rw [g20]; rfl, fun _ => by rw [z_I_sI, if_pos ⟨rfl, rfl⟩], fun n hn => absurd hn (by omega)⟩
    simp only [f_X12_findRoute_b52, f_X12_findRoute_b65, zo_108 hY, zo_108 Y1, h20, g20, Option.bind_some, if_true, show ((0 : Int32) < 0) = False by decide, if_false]
    rw [show q_fuel = 4194303 + 1 from rfl, f_X12_findRoute_b81.eq_2, if_pos rfl]
  | succ n =>
    have Y1 : z_Lay (q_sI My 108 23 (-1)) := hY
    have g20 : q_I (q_sI My 108 23 (-1)) 108 20 = nI (n + 1) := by rw [z_I_sI, if_neg (by omega), ← e]; exact r3.1
    have n0 : (nI (n + 1) = 0) = False := eq_false (fun z => by
      have := (nI_eq (a := n + 1) (b := 0) (by omega) (by decide)).mp z
      omega)
    have n1 : ((0 : Int32) < nI (n + 1)) = True := eq_true (nI_lt (a := 0) (by omega) (by omega))
    have hsort : l.Pairwise (· < ·) := by rw [hl]; exact r_A_pw (fun a b h => h) _
    have hmem : ∀ x ∈ l, x < z_m (q_I M 109) 0 := fun x hx => by
      rw [hl] at hx
      obtain ⟨k, k1, _, rfl⟩ := r_A_mem _ hx
      exact k1
    have ch := r_chain (n + 1) l [] e hsort
    have mp : (r_P (n + 1) l).map (([] : List Nat) ++ ·) = r_P (n + 1) l := by
      have : (fun x : List Nat => [] ++ x) = id := by funext x; rfl
      rw [this, List.map_id]
    rw [mp, List.nil_append, List.nil_append] at ch
    have hzr : l.reverse.Pairwise (· > ·) := by rw [List.pairwise_reverse]; exact hsort
    obtain ⟨Mz, s1, s2, s3, s4⟩ := zm_orders hi (n := n + 1) hS11 hS2 (by omega) (by omega) hzr (r_P (n + 1) l) l none q_fuel (q_sI My 108 23 (-1)) ch (fun p hp => by
      obtain ⟨k1, k2⟩ := r_P_mem (n + 1) l e p hp
      exact ⟨k1, fun x hx => hmem x (k2 x hx)⟩) (by
      rw [r_P_len _ _ e]
      have := r_f_le (n := n + 1) (by omega)
      unfold q_fuel
      omega) (r2.tr (z_sm.sI (by unfold z_core; omega))) ⟨by rw [g20, e], fun k hk => by rw [q_sI_ne (by decide)]; exact r3.2 k hk⟩ (by show q_I (q_sI My 108 23 (-1)) 108 23 = -1; rw [z_I_sI, if_pos ⟨rfl, rfl⟩])
    refine ⟨Mz, ?_, s2, s3, fun z => absurd z (by omega), fun n' hn' => ?_⟩
    · simp only [f_X12_findRoute_b52, f_X12_findRoute_b65, zo_108 hY, zo_108 Y1, r3.1, e, g20, Option.bind_some, n0, n1, if_true, if_false, s1]
    · obtain rfl : n' = n := by omega
      have w := r_whole (d := r_d (q_I M 109)) (h := r_h (q_I M 109)) (K := 5 * (n' + 1 - 1)) (T := S) (n := n') (by omega) l e
      rw [w] at s4
      exact s4
