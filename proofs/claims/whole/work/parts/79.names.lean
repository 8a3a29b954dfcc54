/-! ===== the model finds the names; tells ===== -/
theorem z_add64 {a b : Int32} (h1 : -2147483648 ≤ a.toInt + b.toInt) (h2 : a.toInt + b.toInt < 2147483648) : (a + b).toInt64 = a.toInt64 + b.toInt64 := by
  apply Int64.toInt_inj.mp
  rw [Int32.toInt_toInt64, Int32.toInt_add, Int64.toInt_add, Int32.toInt_toInt64, Int32.toInt_toInt64, Int.bmod_eq_of_le_mul_two (by omega) (by omega), Int.bmod_eq_of_le (by omega) (by omega)]
theorem z_fl_bd {c : Nat → Bool} {v : Nat → Int32} : ∀ k, k ≤ 1000 → (∀ j, j < k → c j = true → -1000 ≤ (v j).toInt ∧ (v j).toInt ≤ 1000) → -1000 * (k : Int) ≤ (z_fl (· + ·) 0 c v k).toInt ∧ (z_fl (· + ·) 0 c v k).toInt ≤ 1000 * (k : Int)
  | 0, _, _ => by
    show -1000 * ((0 : Nat) : Int) ≤ (0 : Int32).toInt ∧ (0 : Int32).toInt ≤ 1000 * ((0 : Nat) : Int)
    have e : (0 : Int32).toInt = 0 := rfl
    rw [e]; omega
  | k + 1, hk, h => by
    obtain ⟨b1, b2⟩ := z_fl_bd (c := c) (v := v) k (by omega) (fun j hj => h j (by omega))
    show -1000 * ((k + 1 : Nat) : Int) ≤ (if c k = true then z_fl (· + ·) 0 c v k + v k else z_fl (· + ·) 0 c v k).toInt ∧ (if c k = true then z_fl (· + ·) 0 c v k + v k else z_fl (· + ·) 0 c v k).toInt ≤ 1000 * ((k + 1 : Nat) : Int)
    by_cases hc : c k = true
    · rw [if_pos hc]
      obtain ⟨d1, d2⟩ := h k (by omega) hc
      rw [Int32.toInt_add, Int.bmod_eq_of_le_mul_two (by omega) (by omega)]
      omega
    · rw [if_neg hc]; omega
theorem zm_isIn {M Y : q_Mem} (hi : z_Inv M) (hY : z_Lay Y) (e9 : q_I Y 109 = q_I M 109) {k f : Nat} (hk : k < z_m (q_I M 109) 1) (wk : Int32) : f_X12_isIn Y 108 (nI k) (nI f) wk = some (q_b (z_ci (q_I M 109) wk f k = true)) := by
  obtain ⟨R1, h31, hm1, _⟩ := zt_1 hi
  obtain ⟨R3, h33, hm3, _⟩ := zt_3 hi
  have hch : q_I M 109 (100 + 4 * k + 3) = -1 ∨ z_id (q_I M 109 (100 + 4 * k + 3)) (z_m (q_I M 109) 3) := (hi.2.2.2.2.1.2.2.2 1 (by decide) k hk).2.2.2
  have g1 := zg_1 hY (i := k) (by omega)
  simp only [e9] at g1
  unfold z_ci
  by_cases c0 : q_I M 109 (100 + 4 * k) = nI f
  · rw [if_pos c0]
    rcases hch with hn | ⟨ch, hc, ec⟩
    · rw [if_pos hn]
      simp only [f_X12_isIn, zob_108 hY, zo_108 hY, g1, Option.bind_some, c0, if_true, hn]
      rfl
    · have g3 := zg_3 hY (i := ch) (by omega)
      simp only [e9] at g3
      rw [ec, if_neg (z_nI_ne (by omega)), nI_clamp (by omega)]
      have n1 : (nI ch = (-1 : Int32)) = False := z_nI_n1 (by omega)
      simp only [f_X12_isIn, zob_108 hY, zo_108 hY, g1, Option.bind_some, c0, if_true, ec, n1, if_false, g3, z_dv0 (show (7 : Int32) ≠ 0 by decide)]
      by_cases cw : q_I M 109 (2700 + 3 * ch) / 7 = wk
      · simp only [cw, if_true]; rfl
      · simp only [cw, if_false]; rfl
  · rw [if_neg c0]
    simp only [f_X12_isIn, zob_108 hY, zo_108 hY, g1, Option.bind_some, c0, if_false]
    rfl
def z_nk (M0 M : q_Mem) : Prop := z_FR M0 M ∧ q_I M = q_I M0 ∧ ∀ a, a ≠ 119 → q_J M a = q_J M0 a
theorem z_nk.rf {M : q_Mem} : z_nk M M := ⟨z_FR.rf, rfl, fun _ _ => rfl⟩
theorem z_nk.st {M0 M : q_Mem} {k : Nat} {v : Int64} (h : z_nk M0 M) : z_nk M0 (q_sJ M 119 k v) := ⟨h.1.tr ⟨rfl, rfl, rfl⟩, h.2.1, fun a ha => by rw [z_sJ_ne ha]; exact h.2.2 a ha⟩
theorem z_J_eq {M : q_Mem} {a k j : Nat} {v : Int64} : q_J (q_sJ M a k v) a j = if j = k then v else q_J M a j := by
  show (if a = a ∧ j = k then v else q_J M a j) = _
  by_cases h : j = k
  · rw [if_pos ⟨rfl, h⟩, if_pos h]
  · rw [if_neg (fun z => h z.2), if_neg h]
section ZF
variable {M M2 : q_Mem} {rt : Nat → Int32} {fk : Nat → Int64} {wk : Int32} {f : Nat}
theorem zm_weight (hi : z_Inv M) (hY : z_Lay M2) (e9 : q_I M2 109 = q_I M 109) (g : Nat) : f_X12_weightOf M2 108 (nI g) wk = some (z_gW (q_I M 109) wk g (z_m (q_I M 109) 1)) := by
  obtain ⟨R1, h31, hm1, hcn⟩ := zt_1 hi
  have main : ∀ (d k fu : Nat), k + d = z_m (q_I M 109) 1 → d < fu → f_X12_weightOf_b5 M2 108 (nI g) wk fu (z_gW (q_I M 109) wk g k) (nI k) = some (z_gW (q_I M 109) wk g (z_m (q_I M 109) 1)) := by
    intro d
    induction d with
    | zero =>
      intro k fu hd hf
      obtain ⟨x, rfl⟩ : ∃ g, fu = g + 1 := ⟨fu - 1, by omega⟩
      obtain rfl : k = z_m (q_I M 109) 1 := by omega
      have hn : (nI (z_m (q_I M 109) 1) < nI (z_m (q_I M 109) 1)) = False := eq_false (nI_nlt (Nat.le_refl _) (by omega))
      simp only [f_X12_weightOf_b5.eq_2, zo_108 hY, zl_ hY, e9, hcn, Option.bind_some, hn, if_false]
    | succ d ih =>
      intro k fu hd hf
      obtain ⟨x, rfl⟩ : ∃ g, fu = g + 1 := ⟨fu - 1, by omega⟩
      have hk : k < z_m (q_I M 109) 1 := by omega
      have hn : (nI k < nI (z_m (q_I M 109) 1)) = True := eq_true (nI_lt hk (by omega))
      have ih2 := ih (k + 1) x (by omega) (by omega)
      have es : z_gW (q_I M 109) wk g (k + 1) = if z_ci (q_I M 109) wk g k = true then z_gW (q_I M 109) wk g k + q_I M 109 (100 + 4 * k + 2) else z_gW (q_I M 109) wk g k := rfl
      rw [es] at ih2
      simp only [f_X12_weightOf_b5.eq_2, zo_108 hY, zl_ hY, e9, hcn, Option.bind_some, hn, if_true, zm_isIn hi hY e9 hk, z_b0, zg_1 hY (show k < 300 by omega), Int32.add_zero, ← nI_succ]
      by_cases c : z_ci (q_I M 109) wk g k = true
      · rw [if_pos c] at ih2 ⊢; exact ih2
      · rw [if_neg c] at ih2 ⊢; exact ih2
  have q := main (z_m (q_I M 109) 1) 0 q_fuel (by omega) (z_fu (by omega))
  unfold f_X12_weightOf
  rw [zob_108 hY]; exact q
def z_N0 (st : Nat → Int32) (fk : Nat → Int64) (wk : Int32) (f k : Nat) (Y : q_Mem) : Prop := q_J Y 119 0 = (z_gW st wk f k).toInt64 ∧ q_J Y 119 1 = z_gF st fk wk f k ∧ q_J Y 119 2 = (z_gN st wk f k).toInt64 ∧ q_J Y 119 3 = (z_gO st wk f k).toInt64 ∧ ∀ j, 4 ≤ j → j < 8 → q_J Y 119 j = 0
theorem zq_fn0 (hY : z_Lay M2) (x : Int32) : ∀ (d k fu : Nat) (Y : q_Mem), k + d = 8 → d < fu → z_nk M2 Y → (∀ j, j < k → q_J Y 119 j = 0) → ∃ Y', f_X12_findNames_b2 108 x wk fu (nI k) Y = f_X12_findNames_b23 108 x wk q_fuel (0 : Int32) Y' ∧ z_nk M2 Y' ∧ ∀ j, j < 8 → q_J Y' 119 j = 0 := by
  intro d
  induction d with
  | zero =>
    intro k fu Y hd hf h hk
    obtain ⟨g, rfl⟩ : ∃ g, fu = g + 1 := ⟨fu - 1, by omega⟩
    obtain rfl : k = 8 := by omega
    simp only [f_X12_findNames_b2.eq_2, show (nI 8 < (8 : Int32)) = False by decide, if_false]
    exact ⟨Y, rfl, h, hk⟩
  | succ d ih =>
    intro k fu Y hd hf h hk
    obtain ⟨g, rfl⟩ : ∃ g, fu = g + 1 := ⟨fu - 1, by omega⟩
    have hn : (nI k < (8 : Int32)) = True := eq_true (nI_lt (b := 8) (by omega) (by decide))
    have hL := h.1.lay hY
    simp only [f_X12_findNames_b2.eq_2, hn, if_true, zo_108 hL, Option.bind_some, (za_119 hL).2.2 k _ (show k < 8 by omega), ← nI_succ]
    refine ih _ _ _ (by omega) (by omega) h.st (fun j hj => ?_)
    rw [z_J_eq]
    by_cases e : j = k
    · rw [if_pos e]
    · rw [if_neg e]; exact hk j (by omega)
theorem zq_fn1 (hi : z_Inv M) (hM2 : z_RM M M2 rt) (hfat : ∀ Y, z_RM M Y rt → ∀ c, c < z_m (q_I M 109) 1 → f_X12_fatOf Y 108 (nI c) = some (fk c)) : ∀ (d k fu : Nat) (Y : q_Mem), k + d = z_m (q_I M 109) 1 → d < fu → z_nk M2 Y → z_N0 (q_I M 109) fk wk f k Y → ∃ Y', f_X12_findNames_b23 108 (nI f) wk fu (nI k) Y = f_X12_findNames_b140 Y' 108 (nI f) wk ∧ z_nk M2 Y' ∧ z_N0 (q_I M 109) fk wk f (z_m (q_I M 109) 1) Y' := by
  obtain ⟨R1, h31, hm1, hcn⟩ := zt_1 hi
  obtain ⟨R3, h33, hm3, hcn3⟩ := zt_3 hi
  have lits : ∀ Y, z_Lay Y → (q_lJ Y 119 (0 : Int32) = some (q_J Y 119 0) ∧ q_lJ Y 119 (1 : Int32) = some (q_J Y 119 1) ∧ q_lJ Y 119 (2 : Int32) = some (q_J Y 119 2) ∧ q_lJ Y 119 (3 : Int32) = some (q_J Y 119 3)) ∧ (∀ v, q_tJ Y 119 (0 : Int32) v = some (q_sJ Y 119 0 v)) ∧ (∀ v, q_tJ Y 119 (1 : Int32) v = some (q_sJ Y 119 1 v)) ∧ (∀ v, q_tJ Y 119 (2 : Int32) v = some (q_sJ Y 119 2 v)) ∧ (∀ v, q_tJ Y 119 (3 : Int32) v = some (q_sJ Y 119 3 v)) := fun Y h => ⟨⟨(za_119 h).2.1 0 (by decide), (za_119 h).2.1 1 (by decide), (za_119 h).2.1 2 (by decide), (za_119 h).2.1 3 (by decide)⟩, fun v => (za_119 h).2.2 0 v (by decide), fun v => (za_119 h).2.2 1 v (by decide), fun v => (za_119 h).2.2 2 v (by decide), fun v => (za_119 h).2.2 3 v (by decide)⟩
  intro d
  induction d with
  | zero =>
    intro k fu Y hd hf h hN
    obtain ⟨g, rfl⟩ : ∃ g, fu = g + 1 := ⟨fu - 1, by omega⟩
    obtain rfl : k = z_m (q_I M 109) 1 := by omega
    have hL := h.1.lay hM2.1
    have e9 : q_I Y 109 = q_I M 109 := by rw [h.2.1]; exact hM2.2.1
    have hn : (nI (z_m (q_I M 109) 1) < nI (z_m (q_I M 109) 1)) = False := eq_false (nI_nlt (Nat.le_refl _) (by omega))
    simp only [f_X12_findNames_b23.eq_2, zo_108 hL, zl_ hL, e9, hcn, Option.bind_some, hn, if_false]
    exact ⟨Y, rfl, h, hN⟩
  | succ d ih =>
    intro k fu Y hd hf h hN
    obtain ⟨g, rfl⟩ : ∃ g, fu = g + 1 := ⟨fu - 1, by omega⟩
    have hk : k < z_m (q_I M 109) 1 := by omega
    have hL := h.1.lay hM2.1
    have e9 : q_I Y 109 = q_I M 109 := by rw [h.2.1]; exact hM2.2.1
    have hn : (nI k < nI (z_m (q_I M 109) 1)) = True := eq_true (nI_lt hk (by omega))
    have ov := hi.2.2.2.2.1.2.2.2 1 (by decide) k hk
    have bd1 : z_bt (q_I M 109 (100 + 4 * k + 1)) 0 195 := ov.2.1
    have bd2 : z_bt (q_I M 109 (100 + 4 * k + 2)) 1 1000 := ov.2.2.1
    obtain ⟨n0, n1, n2, n3, n4⟩ := hN
    by_cases c : z_ci (q_I M 109) wk f k = true
    · have hch : ∃ ch, ch < z_m (q_I M 109) 3 ∧ q_I M 109 (100 + 4 * k + 3) = nI ch := by
        have q : q_I M 109 (100 + 4 * k + 3) = -1 ∨ z_id (q_I M 109 (100 + 4 * k + 3)) (z_m (q_I M 109) 3) := ov.2.2.2
        rcases q with z | ⟨ch, a, b⟩
        · exfalso
          unfold z_ci at c
          rw [z, if_pos rfl, ite_self] at c
          cases c
        · exact ⟨ch, a, b⟩
      obtain ⟨ch, hc, ec⟩ := hch
      have ech : (q_I M 109 (100 + 4 * k + 3)).toNatClampNeg = ch := by rw [ec, nI_clamp (by omega)]
      have bd3 : z_bt (q_I M 109 (2700 + 3 * ch)) 0 195 := (hi.2.2.2.2.1.2.2.2 3 (by decide) ch hc).1
      -- sums that don't overflow
      have bW := z_fl_bd (c := z_ci (q_I M 109) wk f) (v := fun c => q_I M 109 (100 + 4 * c + 2)) k (by omega) (fun j hj _ => by
        have q : z_bt (q_I M 109 (100 + 4 * j + 2)) 1 1000 := (hi.2.2.2.2.1.2.2.2 1 (by decide) j (by omega)).2.2.1
        exact ⟨by have := q.1; omega, q.2⟩)
      have bN := z_fl_bd (c := z_ci (q_I M 109) wk f) (v := fun _ => (1 : Int32)) k (by omega) (fun j hj _ => by
        have e : (1 : Int32).toInt = 1 := rfl
        show -1000 ≤ (1 : Int32).toInt ∧ (1 : Int32).toInt ≤ 1000
        rw [e]; omega)
      have bO := z_fl_bd (c := z_ci (q_I M 109) wk f) (v := fun c => q_I M 109 (2700 + 3 * (q_I M 109 (100 + 4 * c + 3)).toNatClampNeg) - q_I M 109 (100 + 4 * c + 1)) k (by omega) (fun j hj cj => by
        have ovj := hi.2.2.2.2.1.2.2.2 1 (by decide) j (show j < z_m (q_I M 109) 1 by omega)
        have q1 : z_bt (q_I M 109 (100 + 4 * j + 1)) 0 195 := ovj.2.1
        have q : q_I M 109 (100 + 4 * j + 3) = -1 ∨ z_id (q_I M 109 (100 + 4 * j + 3)) (z_m (q_I M 109) 3) := ovj.2.2.2
        rcases q with z | ⟨cj2, a, b⟩
        · exfalso
          unfold z_ci at cj
          rw [z, if_pos rfl, ite_self] at cj
          cases cj
        · have q3 : z_bt (q_I M 109 (2700 + 3 * cj2)) 0 195 := (hi.2.2.2.2.1.2.2.2 3 (by decide) cj2 a).1
          show -1000 ≤ (q_I M 109 (2700 + 3 * (q_I M 109 (100 + 4 * j + 3)).toNatClampNeg) - q_I M 109 (100 + 4 * j + 1)).toInt ∧ (q_I M 109 (2700 + 3 * (q_I M 109 (100 + 4 * j + 3)).toNatClampNeg) - q_I M 109 (100 + 4 * j + 1)).toInt ≤ 1000
          rw [b, nI_clamp (by omega), Int32.toInt_sub]
          have a1 := q1.1
          have a2 := q1.2
          have a3 := q3.1
          have a4 := q3.2
          rw [Int.bmod_eq_of_le_mul_two (by omega) (by omega)]
          omega)
      have sW : z_gW (q_I M 109) wk f (k + 1) = z_gW (q_I M 109) wk f k + q_I M 109 (100 + 4 * k + 2) := if_pos c
      have sF : z_gF (q_I M 109) fk wk f (k + 1) = z_gF (q_I M 109) fk wk f k + fk k := if_pos c
      have sN : z_gN (q_I M 109) wk f (k + 1) = z_gN (q_I M 109) wk f k + 1 := if_pos c
      have sO : z_gO (q_I M 109) wk f (k + 1) = z_gO (q_I M 109) wk f k + (q_I M 109 (2700 + 3 * ch) - q_I M 109 (100 + 4 * k + 1)) := by
        have : z_gO (q_I M 109) wk f (k + 1) = z_gO (q_I M 109) wk f k + (q_I M 109 (2700 + 3 * (q_I M 109 (100 + 4 * k + 3)).toNatClampNeg) - q_I M 109 (100 + 4 * k + 1)) := if_pos c
        rw [this, ech]
      have e1 : (1 : Int32).toInt = 1 := rfl
      have tW : (z_gW (q_I M 109) wk f (k + 1)).toInt64 = (z_gW (q_I M 109) wk f k).toInt64 + (q_I M 109 (100 + 4 * k + 2)).toInt64 := by
        rw [sW]
        have a1 := bd2.1
        have a2 := bd2.2
        have bW1 : -1000 * (k : Int) ≤ (z_gW (q_I M 109) wk f k).toInt ∧ (z_gW (q_I M 109) wk f k).toInt ≤ 1000 * (k : Int) := bW
        exact z_add64 (by omega) (by omega)
      have tN : (z_gN (q_I M 109) wk f (k + 1)).toInt64 = (z_gN (q_I M 109) wk f k).toInt64 + 1 := by
        rw [sN]
        have bN1 : -1000 * (k : Int) ≤ (z_gN (q_I M 109) wk f k).toInt ∧ (z_gN (q_I M 109) wk f k).toInt ≤ 1000 * (k : Int) := bN
        exact z_add64 (b := 1) (by omega) (by omega)
      have bdd : (q_I M 109 (2700 + 3 * ch) - q_I M 109 (100 + 4 * k + 1)).toInt = (q_I M 109 (2700 + 3 * ch)).toInt - (q_I M 109 (100 + 4 * k + 1)).toInt := by
        have a1 := bd1.1
        have a2 := bd1.2
        have a3 := bd3.1
        have a4 := bd3.2
        rw [Int32.toInt_sub, Int.bmod_eq_of_le_mul_two (by omega) (by omega)]
      have tO : (z_gO (q_I M 109) wk f (k + 1)).toInt64 = (z_gO (q_I M 109) wk f k).toInt64 + (q_I M 109 (2700 + 3 * ch) - q_I M 109 (100 + 4 * k + 1)).toInt64 := by
        rw [sO]
        have a1 := bd1.1
        have a2 := bd1.2
        have a3 := bd3.1
        have a4 := bd3.2
        have bO1 : -1000 * (k : Int) ≤ (z_gO (q_I M 109) wk f k).toInt ∧ (z_gO (q_I M 109) wk f k).toInt ≤ 1000 * (k : Int) := bO
        exact z_add64 (by omega) (by omega)
      -- the four writes
      have k1 : z_nk M2 (q_sJ Y 119 0 (q_J Y 119 0 + (q_I M 109 (100 + 4 * k + 2)).toInt64)) := h.st
      have L1 := k1.1.lay hM2.1
      have m1 : z_RM M (q_sJ Y 119 0 (q_J Y 119 0 + (q_I M 109 (100 + 4 * k + 2)).toInt64)) rt := ⟨L1, by rw [k1.2.1]; exact hM2.2.1, fun j hj => by rw [k1.2.1]; exact hM2.2.2 j hj⟩
      obtain ⟨Y1, hY1⟩ : ∃ Z, Z = q_sJ Y 119 0 (q_J Y 119 0 + (q_I M 109 (100 + 4 * k + 2)).toInt64) := ⟨_, rfl⟩
      rw [← hY1] at k1 L1 m1
      have f1 := hfat Y1 m1 k hk
      obtain ⟨Y2, hY2⟩ : ∃ Z, Z = q_sJ Y1 119 1 (q_J Y1 119 1 + fk k) := ⟨_, rfl⟩
      have k2 : z_nk M2 Y2 := by rw [hY2]; exact k1.st
      have L2 := k2.1.lay hM2.1
      obtain ⟨Y3, hY3⟩ : ∃ Z, Z = q_sJ Y2 119 2 (q_J Y2 119 2 + 1) := ⟨_, rfl⟩
      have k3 : z_nk M2 Y3 := by rw [hY3]; exact k2.st
      have L3 := k3.1.lay hM2.1
      obtain ⟨Y4, hY4⟩ : ∃ Z, Z = q_sJ Y3 119 3 (q_J Y3 119 3 + (q_I M 109 (2700 + 3 * ch) - q_I M 109 (100 + 4 * k + 1)).toInt64) := ⟨_, rfl⟩
      have k4 : z_nk M2 Y4 := by rw [hY4]; exact k3.st
      have e93 : q_I Y3 109 = q_I M 109 := by rw [k3.2.1]; exact hM2.2.1
      have g1 := zg_1 hL (i := k) (by omega)
      have g13 := zg_1 L3 (i := k) (by omega)
      have g33 := zg_3 L3 (i := ch) (by omega)
      simp only [e9] at g1
      simp only [e93] at g13 g33
      have step : f_X12_findNames_b23 108 (nI f) wk (g + 1) (nI k) Y = f_X12_findNames_b23 108 (nI f) wk g (nI (k + 1)) Y4 := by
        have cq : (z_ci (q_I M 109) wk f k = true) = True := eq_true c
        simp only [f_X12_findNames_b23.eq_2, zo_108 hL, zl_ hL, e9, hcn, Option.bind_some, hn, if_true, zm_isIn hi hL e9 hk, z_b0, cq, (lits Y hL), g1, ← hY1, zo_108 L1, (lits Y1 L1), f1, ← hY2, zo_108 L2, (lits Y2 L2), ← hY3, zo_108 L3, (lits Y3 L3), g13, ec, g33, ← hY4, ← nI_succ]
      rw [step]
      refine ih (k + 1) g Y4 (by omega) (by omega) k4 ⟨?_, ?_, ?_, ?_, fun j h4 h8 => ?_⟩
      · rw [hY4, z_J_eq, if_neg (by decide), hY3, z_J_eq, if_neg (by decide), hY2, z_J_eq, if_neg (by decide), hY1, z_J_eq, if_pos rfl, n0, tW]
      · rw [hY4, z_J_eq, if_neg (by decide), hY3, z_J_eq, if_neg (by decide), hY2, z_J_eq, if_pos rfl, hY1, z_J_eq, if_neg (by decide), n1, sF]
      · rw [hY4, z_J_eq, if_neg (by decide), hY3, z_J_eq, if_pos rfl, hY2, z_J_eq, if_neg (by decide), hY1, z_J_eq, if_neg (by decide), n2, tN]
      · rw [hY4, z_J_eq, if_pos rfl, hY3, z_J_eq, if_neg (by decide), hY2, z_J_eq, if_neg (by decide), hY1, z_J_eq, if_neg (by decide), n3, tO]
      · rw [hY4, z_J_eq, if_neg (by omega), hY3, z_J_eq, if_neg (by omega), hY2, z_J_eq, if_neg (by omega), hY1, z_J_eq, if_neg (by omega)]
        exact n4 j h4 h8
    · have cq : (z_ci (q_I M 109) wk f k = true) = False := eq_false c
      have step : f_X12_findNames_b23 108 (nI f) wk (g + 1) (nI k) Y = f_X12_findNames_b23 108 (nI f) wk g (nI (k + 1)) Y := by
        simp only [f_X12_findNames_b23.eq_2, zo_108 hL, zl_ hL, e9, hcn, Option.bind_some, hn, if_true, zm_isIn hi hL e9 hk, z_b0, cq, if_false, ← nI_succ]
      rw [step]
      refine ih (k + 1) g Y (by omega) (by omega) h ⟨?_, ?_, ?_, ?_, n4⟩
      · have e : z_gW (q_I M 109) wk f (k + 1) = z_gW (q_I M 109) wk f k := if_neg c
        rw [e]; exact n0
      · have e : z_gF (q_I M 109) fk wk f (k + 1) = z_gF (q_I M 109) fk wk f k := if_neg c
        rw [e]; exact n1
      · have e : z_gN (q_I M 109) wk f (k + 1) = z_gN (q_I M 109) wk f k := if_neg c
        rw [e]; exact n2
      · have e : z_gO (q_I M 109) wk f (k + 1) = z_gO (q_I M 109) wk f k := if_neg c
        rw [e]; exact n3
theorem zq_fn2 (hi : z_Inv M) (hM2 : z_RM M M2 rt) : ∀ (d k fu : Nat) (Y : q_Mem), k + d = z_m (q_I M 109) 2 → d < fu → z_nk M2 Y → q_J Y 119 4 = (z_gT (q_I M 109) rt wk f k).toInt64 → ∃ Y', f_X12_findNames_b154 108 (nI f) wk fu (nI k) Y = f_X12_findNames_b233 Y' 108 (nI f) wk ∧ z_nk M2 Y' ∧ q_J Y' 119 4 = (z_gT (q_I M 109) rt wk f (z_m (q_I M 109) 2)).toInt64 ∧ ∀ j, j ≠ 4 → q_J Y' 119 j = q_J Y 119 j := by
  obtain ⟨R2, h32, hm2, hcn⟩ := zt_2 hi
  intro d
  induction d with
  | zero =>
    intro k fu Y hd hf h h4
    obtain ⟨g, rfl⟩ : ∃ g, fu = g + 1 := ⟨fu - 1, by omega⟩
    obtain rfl : k = z_m (q_I M 109) 2 := by omega
    have hL := h.1.lay hM2.1
    have e9 : q_I Y 109 = q_I M 109 := by rw [h.2.1]; exact hM2.2.1
    have hn : (nI (z_m (q_I M 109) 2) < nI (z_m (q_I M 109) 2)) = False := eq_false (nI_nlt (Nat.le_refl _) (by omega))
    simp only [f_X12_findNames_b154.eq_2, zo_108 hL, zl_ hL, e9, hcn, Option.bind_some, hn, if_false]
    exact ⟨Y, rfl, h, h4, fun _ _ => rfl⟩
  | succ d ih =>
    intro k fu Y hd hf h h4
    obtain ⟨g, rfl⟩ : ∃ g, fu = g + 1 := ⟨fu - 1, by omega⟩
    have hk : k < z_m (q_I M 109) 2 := by omega
    have hL := h.1.lay hM2.1
    have e9 : q_I Y 109 = q_I M 109 := by rw [h.2.1]; exact hM2.2.1
    have hn : (nI k < nI (z_m (q_I M 109) 2)) = True := eq_true (nI_lt hk (by omega))
    have l4 : q_lJ Y 119 (4 : Int32) = some (q_J Y 119 4) := (za_119 hL).2.1 4 (by decide)
    have t4 : ∀ v, q_tJ Y 119 (4 : Int32) v = some (q_sJ Y 119 4 v) := fun v => (za_119 hL).2.2 4 v (by decide)
    have rr : q_lI Y 112 (nI k) = some (rt k) := by
      rw [(za_112 hL).2.1 k (by omega), h.2.1, hM2.2.2 k hk]
    have g2 := zg_2 hL (i := k) (by omega)
    simp only [e9] at g2
    have key : ∃ v, f_X12_findNames_b154 108 (nI f) wk (g + 1) (nI k) Y = f_X12_findNames_b154 108 (nI f) wk g (nI (k + 1)) (q_sJ Y 119 4 v) ∧ v = (z_gT (q_I M 109) rt wk f (k + 1)).toInt64 := by
      have sT : z_gT (q_I M 109) rt wk f (k + 1) = if z_ti (q_I M 109) rt wk f k = true then z_gT (q_I M 109) rt wk f k + 1 else z_gT (q_I M 109) rt wk f k := rfl
      have no : z_ti (q_I M 109) rt wk f k = false → q_J Y 119 4 + 0 = (z_gT (q_I M 109) rt wk f (k + 1)).toInt64 := fun z => by
        rw [sT, z, if_neg (by decide), Int64.add_zero]; exact h4
      by_cases c0 : q_I M 109 (1300 + 7 * k) = nI f
      · by_cases c1 : q_I M 109 (1300 + 7 * k + 1) / 7 = wk
        · by_cases c2 : rt k = -1
          · refine ⟨q_J Y 119 4 + 0, ?_, no (by unfold z_ti; rw [if_pos c2, ite_self])⟩
            simp only [f_X12_findNames_b154.eq_2, f_X12_findNames_b224, zo_108 hL, zl_ hL, e9, hcn, Option.bind_some, hn, if_true, l4, g2, c0, z_dv0 (show (7 : Int32) ≠ 0 by decide), c1, rr, c2, t4, ← nI_succ]
          · refine ⟨q_J Y 119 4 + 1, ?_, ?_⟩
            · simp only [f_X12_findNames_b154.eq_2, f_X12_findNames_b224, zo_108 hL, zl_ hL, e9, hcn, Option.bind_some, hn, if_true, l4, g2, c0, z_dv0 (show (7 : Int32) ≠ 0 by decide), c1, rr, c2, if_false, t4, ← nI_succ]
            · have ti : z_ti (q_I M 109) rt wk f k = true := by unfold z_ti; rw [if_pos c0, if_neg c2, if_pos c1]
              rw [sT, if_pos ti, h4]
              have bT := z_fl_bd (c := z_ti (q_I M 109) rt wk f) (v := fun _ => (1 : Int32)) k (by omega) (fun j hj _ => by
                have e : (1 : Int32).toInt = 1 := rfl
                show -1000 ≤ (1 : Int32).toInt ∧ (1 : Int32).toInt ≤ 1000
                rw [e]; omega)
              have bT1 : -1000 * (k : Int) ≤ (z_gT (q_I M 109) rt wk f k).toInt ∧ (z_gT (q_I M 109) rt wk f k).toInt ≤ 1000 * (k : Int) := bT
              have e : (1 : Int32).toInt = 1 := rfl
              exact (z_add64 (b := 1) (by omega) (by omega)).symm
        · refine ⟨q_J Y 119 4 + 0, ?_, no (by unfold z_ti; rw [if_neg c1, ite_self, ite_self])⟩
          simp only [f_X12_findNames_b154.eq_2, f_X12_findNames_b224, zo_108 hL, zl_ hL, e9, hcn, Option.bind_some, hn, if_true, l4, g2, c0, z_dv0 (show (7 : Int32) ≠ 0 by decide), c1, if_false, t4, ← nI_succ]
      · refine ⟨q_J Y 119 4 + 0, ?_, no (by unfold z_ti; rw [if_neg c0])⟩
        simp only [f_X12_findNames_b154.eq_2, f_X12_findNames_b224, zo_108 hL, zl_ hL, e9, hcn, Option.bind_some, hn, if_true, l4, g2, c0, if_false, t4, ← nI_succ]
    obtain ⟨v, e1, e2⟩ := key
    rw [e1]
    obtain ⟨Y', r1, r2, r3, r4⟩ := ih (k + 1) g (q_sJ Y 119 4 v) (by omega) (by omega) h.st (by rw [z_J_eq, if_pos rfl]; exact e2)
    exact ⟨Y', r1, r2, r3, fun j hj => by rw [r4 j hj, z_J_eq, if_neg hj]⟩
theorem zq_fn3 (hi : z_Inv M) (hM2 : z_RM M M2 rt) : ∀ (d k fu : Nat) (Y : q_Mem), k + d = z_m (q_I M 109) 0 → d < fu → z_nk M2 Y → q_J Y 119 0 = (z_gW (q_I M 109) wk f (z_m (q_I M 109) 1)).toInt64 → q_J Y 119 7 = (z_gR (q_I M 109) wk (z_gW (q_I M 109) wk f (z_m (q_I M 109) 1)) (z_m (q_I M 109) 1) k).toInt64 → ∃ Y', f_X12_findNames_b267 108 wk fu (nI k) Y = some Y' ∧ z_nk M2 Y' ∧ q_J Y' 119 7 = (z_gR (q_I M 109) wk (z_gW (q_I M 109) wk f (z_m (q_I M 109) 1)) (z_m (q_I M 109) 1) (z_m (q_I M 109) 0)).toInt64 ∧ ∀ j, j ≠ 7 → q_J Y' 119 j = q_J Y 119 j := by
  obtain ⟨R0, h30, hm0, hcn⟩ := zt_0 hi
  intro d
  induction d with
  | zero =>
    intro k fu Y hd hf h h0 h7
    obtain ⟨g, rfl⟩ : ∃ g, fu = g + 1 := ⟨fu - 1, by omega⟩
    obtain rfl : k = z_m (q_I M 109) 0 := by omega
    have hL := h.1.lay hM2.1
    have e9 : q_I Y 109 = q_I M 109 := by rw [h.2.1]; exact hM2.2.1
    have hn : (nI (z_m (q_I M 109) 0) < nI (z_m (q_I M 109) 0)) = False := eq_false (nI_nlt (Nat.le_refl _) (by omega))
    simp only [f_X12_findNames_b267.eq_2, zo_108 hL, zl_ hL, e9, hcn, Option.bind_some, hn, if_false]
    exact ⟨Y, rfl, h, h7, fun _ _ => rfl⟩
  | succ d ih =>
    intro k fu Y hd hf h h0 h7
    obtain ⟨g, rfl⟩ : ∃ g, fu = g + 1 := ⟨fu - 1, by omega⟩
    have hk : k < z_m (q_I M 109) 0 := by omega
    have hL := h.1.lay hM2.1
    have e9 : q_I Y 109 = q_I M 109 := by rw [h.2.1]; exact hM2.2.1
    have hn : (nI k < nI (z_m (q_I M 109) 0)) = True := eq_true (nI_lt hk (by omega))
    have l7 : q_lJ Y 119 (7 : Int32) = some (q_J Y 119 7) := (za_119 hL).2.1 7 (by decide)
    have l0 : q_lJ Y 119 (0 : Int32) = some (q_J Y 119 0) := (za_119 hL).2.1 0 (by decide)
    have t7 : ∀ v, q_tJ Y 119 (7 : Int32) v = some (q_sJ Y 119 7 v) := fun v => (za_119 hL).2.2 7 v (by decide)
    have lt64 : ((z_gW (q_I M 109) wk f (z_m (q_I M 109) 1)).toInt64 < (z_gW (q_I M 109) wk k (z_m (q_I M 109) 1)).toInt64) = (z_gW (q_I M 109) wk f (z_m (q_I M 109) 1) < z_gW (q_I M 109) wk k (z_m (q_I M 109) 1)) := by
      apply propext
      rw [Int64.lt_iff_toInt_lt, q_lt_iff, Int32.toInt_toInt64, Int32.toInt_toInt64]
    have key : ∃ v, f_X12_findNames_b267 108 wk (g + 1) (nI k) Y = f_X12_findNames_b267 108 wk g (nI (k + 1)) (q_sJ Y 119 7 v) ∧ v = (z_gR (q_I M 109) wk (z_gW (q_I M 109) wk f (z_m (q_I M 109) 1)) (z_m (q_I M 109) 1) (k + 1)).toInt64 := by
      by_cases c : z_gW (q_I M 109) wk f (z_m (q_I M 109) 1) < z_gW (q_I M 109) wk k (z_m (q_I M 109) 1)
      · refine ⟨q_J Y 119 7 + 1, ?_, ?_⟩
        · simp only [f_X12_findNames_b267.eq_2, zo_108 hL, zl_ hL, e9, hcn, Option.bind_some, hn, if_true, l7, zm_weight hi hL e9, l0, h0, lt64, c, t7, ← nI_succ]
        · have sR : z_gR (q_I M 109) wk (z_gW (q_I M 109) wk f (z_m (q_I M 109) 1)) (z_m (q_I M 109) 1) (k + 1) = z_gR (q_I M 109) wk (z_gW (q_I M 109) wk f (z_m (q_I M 109) 1)) (z_m (q_I M 109) 1) k + 1 := by
            show (if (if z_gW (q_I M 109) wk f (z_m (q_I M 109) 1) < z_gW (q_I M 109) wk k (z_m (q_I M 109) 1) then true else false) = true then _ else _) = _
            rw [if_pos c, if_pos rfl]; rfl
          rw [sR, h7]
          have bR := z_fl_bd (c := fun g => if z_gW (q_I M 109) wk f (z_m (q_I M 109) 1) < z_gW (q_I M 109) wk g (z_m (q_I M 109) 1) then true else false) (v := fun _ => (1 : Int32)) k (by omega) (fun j hj _ => by
            have e : (1 : Int32).toInt = 1 := rfl
            show -1000 ≤ (1 : Int32).toInt ∧ (1 : Int32).toInt ≤ 1000
            rw [e]; omega)
          have bR1 : -1000 * (k : Int) ≤ (z_gR (q_I M 109) wk (z_gW (q_I M 109) wk f (z_m (q_I M 109) 1)) (z_m (q_I M 109) 1) k).toInt ∧ (z_gR (q_I M 109) wk (z_gW (q_I M 109) wk f (z_m (q_I M 109) 1)) (z_m (q_I M 109) 1) k).toInt ≤ 1000 * (k : Int) := bR
          have e : (1 : Int32).toInt = 1 := rfl
          exact (z_add64 (b := 1) (by omega) (by omega)).symm
      · refine ⟨q_J Y 119 7 + 0, ?_, ?_⟩
        · simp only [f_X12_findNames_b267.eq_2, zo_108 hL, zl_ hL, e9, hcn, Option.bind_some, hn, if_true, l7, zm_weight hi hL e9, l0, h0, lt64, c, if_false, t7, ← nI_succ]
        · have sR : z_gR (q_I M 109) wk (z_gW (q_I M 109) wk f (z_m (q_I M 109) 1)) (z_m (q_I M 109) 1) (k + 1) = z_gR (q_I M 109) wk (z_gW (q_I M 109) wk f (z_m (q_I M 109) 1)) (z_m (q_I M 109) 1) k := by
            show (if (if z_gW (q_I M 109) wk f (z_m (q_I M 109) 1) < z_gW (q_I M 109) wk k (z_m (q_I M 109) 1) then true else false) = true then _ else _) = _
            rw [if_neg c, if_neg (by decide)]; rfl
          rw [sR, h7, Int64.add_zero]
    obtain ⟨v, e1, e2⟩ := key
    rw [e1]
    obtain ⟨Y', r1, r2, r3, r4⟩ := ih (k + 1) g (q_sJ Y 119 7 v) (by omega) (by omega) h.st (by rw [z_J_eq, if_neg (by decide)]; exact h0) (by rw [z_J_eq, if_pos rfl]; exact e2)
    exact ⟨Y', r1, r2, r3, fun j hj => by rw [r4 j hj, z_J_eq, if_neg hj]⟩
theorem zs_findNames (hi : z_Inv M) (hM2 : z_RM M M2 rt) (hfat : ∀ Y, z_RM M Y rt → ∀ c, c < z_m (q_I M 109) 1 → f_X12_fatOf Y 108 (nI c) = some (fk c)) (hf : f < z_m (q_I M 109) 0) : ∃ Y, f_X12_findNames M2 108 (nI f) wk = some Y ∧ z_nk M2 Y ∧ ∀ k, k < 8 → q_J Y 119 k = z_nv (q_I M 109) fk rt wk f k := by
  obtain ⟨R0, h30, hm0, hcn0⟩ := zt_0 hi
  obtain ⟨R1, h31, hm1, hcn1⟩ := zt_1 hi
  obtain ⟨R2, h32, hm2, hcn2⟩ := zt_2 hi
  have hL2 := hM2.1
  obtain ⟨Ya, pa, ka, za⟩ := zq_fn0 (wk := wk) hL2 (nI f) 8 0 q_fuel M2 (by omega) (by unfold q_fuel; omega) z_nk.rf (fun j hj => absurd hj (Nat.not_lt_zero _))
  obtain ⟨Yb, pb, kb, zb⟩ := zq_fn1 (f := f) hi hM2 hfat (z_m (q_I M 109) 1) 0 q_fuel Ya (by omega) (z_fu (by omega)) ka ⟨za 0 (by decide), za 1 (by decide), za 2 (by decide), za 3 (by decide), fun j _ h => za j h⟩
  obtain ⟨b0, b1, b2, b3, b4⟩ := zb
  have Lb := kb.1.lay hL2
  have l1 : q_lJ Yb 119 (1 : Int32) = some (q_J Yb 119 1) := (za_119 Lb).2.1 1 (by decide)
  have t1 : ∀ v, q_tJ Yb 119 (1 : Int32) v = some (q_sJ Yb 119 1 v) := fun v => (za_119 Lb).2.2 1 v (by decide)
  obtain ⟨Yc, pc, kc, c4, cj⟩ := zq_fn2 (f := f) (wk := wk) hi hM2 (z_m (q_I M 109) 2) 0 q_fuel (q_sJ Yb 119 1 (q_J Yb 119 1 / 100)) (by omega) (z_fu (by omega)) kb.st (by rw [z_J_eq, if_neg (by decide)]; exact b4 4 (by decide) (by decide))
  have Lc := kc.1.lay hL2
  have e9c : q_I Yc 109 = q_I M 109 := by rw [kc.2.1]; exact hM2.2.1
  have h01 : q_I M 109 (20 + 4 * f + 3) = 0 ∨ q_I M 109 (20 + 4 * f + 3) = 1 := z_01 (hi.2.2.2.2.1.2.2.2 0 (by decide) f hf).2.2.2
  have mem := z_isMember Lc (f := f) (by omega)
  rw [e9c] at mem
  obtain ⟨Yd, hYd⟩ : ∃ Z, Z = q_sJ Yc 119 5 (q_I M 109 (20 + 4 * f + 3)).toInt64 := ⟨_, rfl⟩
  have kd : z_nk M2 Yd := by rw [hYd]; exact kc.st
  have Ld := kd.1.lay hL2
  have e9d : q_I Yd 109 = q_I M 109 := by rw [kd.2.1]; exact hM2.2.1
  obtain ⟨Ye, hYe⟩ : ∃ Z, Z = q_sJ Yd 119 6 (q_I M 109 (20 + 4 * f + 2)).toInt64 := ⟨_, rfl⟩
  have ke : z_nk M2 Ye := by rw [hYe]; exact kd.st
  have j0 : q_J Ye 119 0 = (z_gW (q_I M 109) wk f (z_m (q_I M 109) 1)).toInt64 := by
    rw [hYe, z_J_eq, if_neg (by decide), hYd, z_J_eq, if_neg (by decide), cj 0 (by decide), z_J_eq, if_neg (by decide)]; exact b0
  have j7 : q_J Ye 119 7 = (z_gR (q_I M 109) wk (z_gW (q_I M 109) wk f (z_m (q_I M 109) 1)) (z_m (q_I M 109) 1) 0).toInt64 := by
    rw [hYe, z_J_eq, if_neg (by decide), hYd, z_J_eq, if_neg (by decide), cj 7 (by decide), z_J_eq, if_neg (by decide)]; exact b4 7 (by decide) (by decide)
  obtain ⟨Yf, pf, kf, f7, fj⟩ := zq_fn3 (f := f) hi hM2 (z_m (q_I M 109) 0) 0 q_fuel Ye (by omega) (z_fu (by omega)) ke j0 j7
  have t5 : ∀ v, q_tJ Yc 119 (5 : Int32) v = some (q_sJ Yc 119 5 v) := fun v => (za_119 Lc).2.2 5 v (by decide)
  have t6 : ∀ v, q_tJ Yd 119 (6 : Int32) v = some (q_sJ Yd 119 6 v) := fun v => (za_119 Ld).2.2 6 v (by decide)
  have cw : f_X12_cows Yd 108 (nI f) = some (q_I M 109 (20 + 4 * f + 2)) := by
    have g0 := zg_0 Ld (i := f) (by omega)
    simp only [e9d] at g0
    simp only [f_X12_cows, zob_108 Ld, zo_108 Ld, g0, Option.bind_some]
  have pe : f_X12_findNames_b233 Yc 108 (nI f) wk = some Yf := by
    have pf' : f_X12_findNames_b267 108 wk q_fuel (0 : Int32) Ye = some Yf := pf
    rcases h01 with z | z
    · have hYd' : q_sJ Yc 119 5 (0 : Int64) = Yd := by rw [hYd, z]; rfl
      simp only [f_X12_findNames_b233, f_X12_findNames_b251, zo_108 Lc, mem, Option.bind_some, z_b0, z, show ((0 : Int32) = 1) = False by decide, if_false, t5, hYd', zo_108 Ld, cw, t6, ← hYe, pf']
    · have hYd' : q_sJ Yc 119 5 (1 : Int64) = Yd := by rw [hYd, z]; rfl
      simp only [f_X12_findNames_b233, f_X12_findNames_b251, zo_108 Lc, mem, Option.bind_some, z_b0, z, if_true, t5, hYd', zo_108 Ld, cw, t6, ← hYe, pf']
  have pc' : f_X12_findNames_b154 108 (nI f) wk q_fuel (0 : Int32) (q_sJ Yb 119 1 (q_J Yb 119 1 / 100)) = f_X12_findNames_b233 Yc 108 (nI f) wk := pc
  have pb' : f_X12_findNames_b23 108 (nI f) wk q_fuel (0 : Int32) Ya = f_X12_findNames_b140 Yb 108 (nI f) wk := pb
  have pa' : f_X12_findNames_b2 108 (nI f) wk q_fuel (0 : Int32) M2 = f_X12_findNames_b23 108 (nI f) wk q_fuel (0 : Int32) Ya := pa
  refine ⟨Yf, ?_, kf, fun k hk => ?_⟩
  · simp only [f_X12_findNames, zob_108 hL2, pa', pb', f_X12_findNames_b140, zo_108 Lb, l1, Option.bind_some, z_ldv0 (show (100 : Int64) ≠ 0 by decide), t1, pc', pe]
  · have ee : ∀ j, j ≠ 7 → j ≠ 6 → j ≠ 5 → q_J Yf 119 j = q_J Yc 119 j := fun j h7 h6 h5 => by
      rw [fj j h7, hYe, z_J_eq, if_neg h6, hYd, z_J_eq, if_neg h5]
    match k, hk with
    | 0, _ => rw [ee 0 (by decide) (by decide) (by decide), cj 0 (by decide), z_J_eq, if_neg (by decide), b0]; rfl
    | 1, _ => rw [ee 1 (by decide) (by decide) (by decide), cj 1 (by decide), z_J_eq, if_pos rfl, b1]; rfl
    | 2, _ => rw [ee 2 (by decide) (by decide) (by decide), cj 2 (by decide), z_J_eq, if_neg (by decide), b2]; rfl
    | 3, _ => rw [ee 3 (by decide) (by decide) (by decide), cj 3 (by decide), z_J_eq, if_neg (by decide), b3]; rfl
    | 4, _ => rw [ee 4 (by decide) (by decide) (by decide), c4]; rfl
    | 5, _ => rw [fj 5 (by decide), hYe, z_J_eq, if_neg (by decide), hYd, z_J_eq, if_pos rfl]; rfl
    | 6, _ => rw [fj 6 (by decide), hYe, z_J_eq, if_pos rfl]; rfl
    | 7, _ => rw [f7]; rfl
end ZF
