/-! ===== pay ===== -/
theorem z_S_bd {f : Nat → Int64} {b : Int} (hb : 0 ≤ b) (hb2 : b ≤ 1000000000) : ∀ n, n ≤ 1000 → (∀ k, k < n → 0 ≤ (f k).toInt ∧ (f k).toInt ≤ b) → 0 ≤ (z_S n f).toInt ∧ (z_S n f).toInt ≤ b * (n : Int)
  | 0, _, _ => by
    have e : (z_S 0 f).toInt = 0 := rfl
    rw [e]; omega
  | n + 1, hn, h => by
    obtain ⟨h1, h2⟩ := z_S_bd hb hb2 n (by omega) (fun k hk => h k (by omega))
    obtain ⟨h3, h4⟩ := h n (by omega)
    have hm : b * (n : Int) ≤ 1000000000 * 1000 := by
      have := Int.mul_le_mul hb2 (show (n : Int) ≤ 1000 by omega) (by omega) (by omega)
      omega
    show 0 ≤ (z_S n f + f n).toInt ∧ (z_S n f + f n).toInt ≤ b * ((n + 1 : Nat) : Int)
    have e2 : b * ((n + 1 : Nat) : Int) = b * (n : Int) + b := by
      rw [Int.natCast_add, Int.mul_add]
      show b * (n : Int) + b * 1 = _
      rw [Int.mul_one]
    rw [Int64.toInt_add, Int.bmod_eq_of_le (by omega) (by omega), e2]
    omega
theorem z_S_tail {f : Nat → Int64} {m : Nat} : ∀ d, (∀ k, m ≤ k → k < m + d → f k = 0) → z_S (m + d) f = z_S m f
  | 0, _ => rfl
  | d + 1, h => by
    show z_S (m + d) f + f (m + d) = _
    rw [h (m + d) (by omega) (by omega), Int64.add_zero]
    exact z_S_tail d (fun k h1 h2 => h k h1 (by omega))
/-- what is left of the money behind k farms -/
def z_lf (pence all : Int64) (A : Nat → Int64) : Nat → Int64
  | 0 => pence
  | k + 1 => z_lf pence all A k - pence * A k / all
def z_rm (x y : Int64) : Int64 := x - x / y * y
/-- how many are served ahead of farm f, of the first k -/
def z_sv (pence all cut : Int64) (A : Nat → Int64) (f : Nat) : Nat → Int32
  | 0 => 0
  | k + 1 => if cut < z_rm (pence * A k) all then z_sv pence all cut A f k + 1 else if z_rm (pence * A k) all = cut then (if k < f then z_sv pence all cut A f k + 1 else z_sv pence all cut A f k) else z_sv pence all cut A f k
theorem z_zdv {all : Int64} (h : all ≠ 0) : (0 : Int64) / all = 0 := by
  apply Int64.toInt_inj.mp
  by_cases c : all = -1
  · rw [c]; rfl
  · rw [Int64.toInt_div_of_ne_right _ _ c]
    exact Int.zero_tdiv _
theorem z_lf_tail {pence all : Int64} {A : Nat → Int64} (ha : all ≠ 0) {m : Nat} : ∀ d, (∀ k, m ≤ k → k < m + d → A k = 0) → z_lf pence all A (m + d) = z_lf pence all A m
  | 0, _ => rfl
  | d + 1, h => by
    show z_lf pence all A (m + d) - pence * A (m + d) / all = _
    rw [h (m + d) (by omega) (by omega), Int64.mul_zero, z_zdv ha, Int64.sub_zero]
    exact z_lf_tail ha d (fun k h1 h2 => h k h1 (by omega))
theorem z_sv_tail {pence all cut : Int64} {A : Nat → Int64} (ha : all ≠ 0) (hc : ¬ cut < 0) {f m : Nat} (hf : f < m) : ∀ d, (∀ k, m ≤ k → k < m + d → A k = 0) → z_sv pence all cut A f (m + d) = z_sv pence all cut A f m
  | 0, _ => rfl
  | d + 1, h => by
    have e : z_rm (pence * A (m + d)) all = 0 := by
      unfold z_rm
      rw [h (m + d) (by omega) (by omega), Int64.mul_zero, z_zdv ha, Int64.zero_mul, Int64.sub_zero]
    show (if cut < z_rm (pence * A (m + d)) all then z_sv pence all cut A f (m + d) + 1 else if z_rm (pence * A (m + d)) all = cut then (if m + d < f then z_sv pence all cut A f (m + d) + 1 else z_sv pence all cut A f (m + d)) else z_sv pence all cut A f (m + d)) = _
    rw [e, if_neg hc, if_neg (show ¬ m + d < f by omega), ite_self]
    exact z_sv_tail ha hc hf d (fun k h1 h2 => h k h1 (by omega))
theorem z_rm_nn {x y : Int64} (hx : 0 ≤ x.toInt) (hy : 0 < y.toInt) : ¬ z_rm x y < 0 := by
  have ny : y ≠ -1 := fun z => by
    rw [z] at hy
    exact absurd hy (by decide)
  have e1 : (x / y).toInt = x.toInt / y.toInt := by
    rw [Int64.toInt_div_of_ne_right _ _ ny, Int.tdiv_eq_ediv_of_nonneg hx]
  have hq := Int.ediv_nonneg hx (show 0 ≤ y.toInt by omega)
  have hm := Int.ediv_mul_le x.toInt (show y.toInt ≠ 0 by omega)
  have hm0 : 0 ≤ x.toInt / y.toInt * y.toInt := Int.mul_nonneg hq (by omega)
  have hx2 := Int64.toInt_lt x
  have e2 : (x / y * y).toInt = x.toInt / y.toInt * y.toInt := by
    rw [Int64.toInt_mul, e1]
    exact Int.bmod_eq_of_le (by omega) (by omega)
  have e3 : (z_rm x y).toInt = x.toInt - x.toInt / y.toInt * y.toInt := by
    unfold z_rm
    rw [Int64.toInt_sub, e2]
    exact Int.bmod_eq_of_le (by omega) (by omega)
  rw [Int64.lt_iff_toInt_lt, e3]
  have e0 : (0 : Int64).toInt = 0 := rfl
  omega
theorem z_mw_bd {M : q_Mem} (hi : z_Inv M) (wk dd : Int32) : 0 ≤ (z_mw M wk dd).toInt ∧ (z_mw M wk dd).toInt ≤ 100000000 := by
  obtain ⟨R4, h34, hm4, _⟩ := zt_4 hi
  have h := z_S_bd (f := fun k => if q_I M 109 (2700 + 3 * z_bc (q_I M 109) k) / 7 = wk then z_bv (q_I M 109) dd k else 0) (b := 1000000) (by decide) (by decide) (z_m (q_I M 109) 4) (by omega) (fun k hk => by
    have e0 : (0 : Int64).toInt = 0 := rfl
    show 0 ≤ (if q_I M 109 (2700 + 3 * z_bc (q_I M 109) k) / 7 = wk then z_bv (q_I M 109) dd k else 0).toInt ∧ (if q_I M 109 (2700 + 3 * z_bc (q_I M 109) k) / 7 = wk then z_bv (q_I M 109) dd k else 0).toInt ≤ 1000000
    by_cases c : q_I M 109 (2700 + 3 * z_bc (q_I M 109) k) / 7 = wk
    · rw [if_pos c]
      unfold z_bv
      by_cases c1 : q_I M 109 (2820 + 5 * k + 2) = -1
      · rw [if_pos c1, e0]; omega
      · rw [if_neg c1]
        by_cases c2 : dd < q_I M 109 (2820 + 5 * k + 2)
        · rw [if_pos c2, e0]; omega
        · rw [if_neg c2, Int32.toInt_toInt64]
          have ov : (q_I M 109 (2820 + 5 * k + 1) = -1 ∧ q_I M 109 (2820 + 5 * k + 2) = -1) ∨ (z_bt (q_I M 109 (2820 + 5 * k + 1)) 0 1000000 ∧ z_bt (q_I M 109 (2820 + 5 * k + 2)) 0 195) := (hi.2.2.2.2.1.2.2.2 4 (by decide) k hk).2.1
          rcases ov with ⟨_, z⟩ | ⟨z, _⟩
          · exact absurd z c1
          · exact z
    · rw [if_neg c, e0]; omega)
  have h' : 0 ≤ (z_mw M wk dd).toInt ∧ (z_mw M wk dd).toInt ≤ 1000000 * ((z_m (q_I M 109) 4 : Nat) : Int) := h
  omega
section ZG
variable {Mf : q_Mem}
theorem zq_p18 (hL : z_Lay Mf) (x : Int32) (pence : Int64) : ∀ (d k fu : Nat), k + d = 20 → d < fu → f_X7_partOf_b18 Mf 88 x pence fu (z_S k (q_J Mf 94)) (nI k) = f_X7_partOf_b43 Mf 88 x pence (z_S 20 (q_J Mf 94)) := by
  intro d
  induction d with
  | zero =>
    intro k fu hd hf
    obtain ⟨g, rfl⟩ : ∃ g, fu = g + 1 := ⟨fu - 1, by omega⟩
    obtain rfl : k = 20 := by omega
    simp only [f_X7_partOf_b18.eq_2, show (nI 20 < (20 : Int32)) = False by decide, if_false]
  | succ d ih =>
    intro k fu hd hf
    obtain ⟨g, rfl⟩ : ∃ g, fu = g + 1 := ⟨fu - 1, by omega⟩
    have hn : (nI k < (20 : Int32)) = True := eq_true (nI_lt (b := 20) (by omega) (by decide))
    simp only [f_X7_partOf_b18.eq_2, hn, if_true, zo_88 hL, Option.bind_some, (za_94 hL).2.1 k (show k < 20 by omega), ← nI_succ]
    exact ih (k + 1) g (by omega) (by omega)
theorem zq_p74 (hL : z_Lay Mf) {f : Nat} (hf20 : f < 20) (pence all cut : Int64) (ha : all ≠ 0) : ∀ (d k fu : Nat), k + d = 20 → d < fu → f_X7_partOf_b74 Mf 88 (nI f) pence all cut fu (z_lf pence all (q_J Mf 94) k) (z_sv pence all cut (q_J Mf 94) f k) (nI k) = f_X7_partOf_b140 Mf 88 (nI f) pence all (z_lf pence all (q_J Mf 94) 20) (z_sv pence all cut (q_J Mf 94) f 20) := by
  intro d
  induction d with
  | zero =>
    intro k fu hd hf
    obtain ⟨g, rfl⟩ : ∃ g, fu = g + 1 := ⟨fu - 1, by omega⟩
    obtain rfl : k = 20 := by omega
    simp only [f_X7_partOf_b74.eq_2, show (nI 20 < (20 : Int32)) = False by decide, if_false]
  | succ d ih =>
    intro k fu hd hf
    obtain ⟨g, rfl⟩ : ∃ g, fu = g + 1 := ⟨fu - 1, by omega⟩
    have hn : (nI k < (20 : Int32)) = True := eq_true (nI_lt (b := 20) (by omega) (by decide))
    have lr : ∀ x, q_lrm x all = some (z_rm x all) := fun x => if_neg ha
    have ih2 := ih (k + 1) g (by omega) (by omega)
    have e1 : z_lf pence all (q_J Mf 94) (k + 1) = z_lf pence all (q_J Mf 94) k - pence * q_J Mf 94 k / all := rfl
    have e2 : z_sv pence all cut (q_J Mf 94) f (k + 1) = if cut < z_rm (pence * q_J Mf 94 k) all then z_sv pence all cut (q_J Mf 94) f k + 1 else if z_rm (pence * q_J Mf 94 k) all = cut then (if k < f then z_sv pence all cut (q_J Mf 94) f k + 1 else z_sv pence all cut (q_J Mf 94) f k) else z_sv pence all cut (q_J Mf 94) f k := rfl
    rw [e1, e2] at ih2
    have q : (nI k < nI f) = (k < f) := propext ⟨fun z => by
      rcases Nat.lt_or_ge k f with y | y
      · exact y
      · exact absurd z (nI_nlt y (by omega)), fun z => nI_lt z (by omega)⟩
    simp only [f_X7_partOf_b74.eq_2, hn, if_true, zo_88 hL, Option.bind_some, (za_94 hL).2.1 k (show k < 20 by omega), z_ldv0 ha, lr, q, ← nI_succ]
    rcases Classical.propComplete (cut < z_rm (pence * q_J Mf 94 k) all) with c0 | c0
    · simp only [c0, if_true] at ih2 ⊢; exact ih2
    · rcases Classical.propComplete (z_rm (pence * q_J Mf 94 k) all = cut) with c1 | c1
      · rcases Classical.propComplete (k < f) with c2 | c2
        · simp only [c0, c1, c2, if_true, if_false] at ih2 ⊢; exact ih2
        · simp only [c0, c1, c2, if_true, if_false] at ih2 ⊢; exact ih2
      · simp only [c0, c1, if_false] at ih2 ⊢; exact ih2
/-- what farm f is paid of pence, by the shares A of m farms -/
def z_py (pence : Int64) (A : Nat → Int64) (m f : Nat) : Int64 :=
  if z_S m A = 0 then 0 else pence * A f / z_S m A + (if (z_sv pence (z_S m A) (z_rm (pence * A f) (z_S m A)) A f m).toInt64 < z_lf pence (z_S m A) A m then 1 else 0)
theorem zs_partOf (hL : z_Lay Mf) {m f : Nat} (hm : m ≤ 20) (hf : f < m) {pence : Int64} (hp : 0 ≤ pence.toInt ∧ pence.toInt ≤ 100000000) (hA : ∀ k, k < m → 0 ≤ (q_J Mf 94 k).toInt ∧ (q_J Mf 94 k).toInt ≤ 1000000000) (hz : ∀ k, k < 20 → m ≤ k → q_J Mf 94 k = 0) : f_X7_partOf Mf 88 (nI f) pence = some (z_py pence (q_J Mf 94) m f) := by
  have c0 : (nI f < 0) = False := eq_false (nI_pos (by omega))
  have c20 : (nI f < (20 : Int32)) = True := eq_true (nI_lt (b := 20) (by omega) (by decide))
  have p18 : f_X7_partOf_b18 Mf 88 (nI f) pence q_fuel (0 : Int64) (0 : Int32) = _ := zq_p18 hL (nI f) pence 20 0 q_fuel (by omega) (by unfold q_fuel; omega)
  have eS : z_S 20 (q_J Mf 94) = z_S m (q_J Mf 94) := by
    have := z_S_tail (f := q_J Mf 94) (m := m) (20 - m) (fun k h1 h2 => hz k (by omega) h1)
    rwa [show m + (20 - m) = 20 by omega] at this
  rw [eS] at p18
  unfold z_py
  by_cases ha : z_S m (q_J Mf 94) = 0
  · rw [if_pos ha]
    simp only [f_X7_partOf, zob_88 hL, c0, c20, if_false, if_true, p18, f_X7_partOf_b43, ha]
  · rw [if_neg ha]
    have ha' := eq_false ha
    obtain ⟨s1, s2⟩ := z_S_bd (f := q_J Mf 94) (b := 1000000000) (by decide) (by decide) m (by omega) hA
    have spos : 0 < (z_S m (q_J Mf 94)).toInt := by
      rcases Int.lt_or_le 0 (z_S m (q_J Mf 94)).toInt with z | z
      · exact z
      · exfalso
        apply ha
        apply Int64.toInt_inj.mp
        have e0 : (0 : Int64).toInt = 0 := rfl
        omega
    obtain ⟨a1, a2⟩ := hA f hf
    have xnn : 0 ≤ (pence * q_J Mf 94 f).toInt := by
      have h1 : 0 ≤ pence.toInt * (q_J Mf 94 f).toInt := Int.mul_nonneg hp.1 a1
      have h2 : pence.toInt * (q_J Mf 94 f).toInt ≤ 100000000 * 1000000000 := Int.mul_le_mul hp.2 a2 a1 (by decide)
      rw [Int64.toInt_mul, Int.bmod_eq_of_le (by omega) (by omega)]
      exact h1
    have cnn := z_rm_nn xnn spos
    have lr : ∀ x, q_lrm x (z_S m (q_J Mf 94)) = some (z_rm x (z_S m (q_J Mf 94))) := fun x => if_neg ha
    have p74 : f_X7_partOf_b74 Mf 88 (nI f) pence (z_S m (q_J Mf 94)) (z_rm (pence * q_J Mf 94 f) (z_S m (q_J Mf 94))) q_fuel pence (0 : Int32) (0 : Int32) = _ := zq_p74 hL (f := f) (by omega) pence (z_S m (q_J Mf 94)) (z_rm (pence * q_J Mf 94 f) (z_S m (q_J Mf 94))) ha 20 0 q_fuel (by omega) (by unfold q_fuel; omega)
    have hz' : ∀ k, m ≤ k → k < m + (20 - m) → q_J Mf 94 k = 0 := fun k h1 h2 => hz k (by omega) h1
    have eL := z_lf_tail (pence := pence) (A := q_J Mf 94) ha (m := m) (20 - m) hz'
    have eV := z_sv_tail (pence := pence) (A := q_J Mf 94) ha cnn hf (20 - m) hz'
    rw [show m + (20 - m) = 20 by omega] at eL eV
    rw [eL, eV] at p74
    simp only [f_X7_partOf, zob_88 hL, c0, c20, if_false, if_true, p18, f_X7_partOf_b43, ha', zo_88 hL, (za_94 hL).2.1 f (show f < 20 by omega), Option.bind_some, lr, p74, f_X7_partOf_b140, z_ldv0 ha]
    by_cases cc : (z_sv pence (z_S m (q_J Mf 94)) (z_rm (pence * q_J Mf 94 f) (z_S m (q_J Mf 94))) (q_J Mf 94) f m).toInt64 < z_lf pence (z_S m (q_J Mf 94)) (q_J Mf 94) m
    · simp only [cc, if_true, z_c_asNumber (Or.inr rfl), Option.bind_some]; rfl
    · simp only [cc, if_false, z_c_asNumber (Or.inl rfl), Option.bind_some]; rfl
end ZG
section ZH
variable {M Mm : q_Mem} {A : Nat → Int64}
theorem zq_y47 (hi : z_Inv M) (hL : z_Lay Mm) (e9 : q_I Mm 109 = q_I M 109) (hA : ∀ f, f < z_m (q_I M 109) 0 → q_J Mm 123 f = A f) (x : Int32) (pence : Int64) : ∀ (d k fu : Nat), k + d = z_m (q_I M 109) 0 → d < fu → f_X12_pay_b47 Mm 108 x pence fu (z_S k A) (nI k) = f_X12_pay_b76 Mm 108 x pence (z_S (z_m (q_I M 109) 0) A) := by
  obtain ⟨R0, h30, hm0, hcn⟩ := zt_0 hi
  intro d
  induction d with
  | zero =>
    intro k fu hd hf
    obtain ⟨g, rfl⟩ : ∃ g, fu = g + 1 := ⟨fu - 1, by omega⟩
    obtain rfl : k = z_m (q_I M 109) 0 := by omega
    have hn : (nI (z_m (q_I M 109) 0) < nI (z_m (q_I M 109) 0)) = False := eq_false (nI_nlt (Nat.le_refl _) (by omega))
    simp only [f_X12_pay_b47.eq_2, zo_108 hL, zl_ hL, e9, hcn, Option.bind_some, hn, if_false]
  | succ d ih =>
    intro k fu hd hf
    obtain ⟨g, rfl⟩ : ∃ g, fu = g + 1 := ⟨fu - 1, by omega⟩
    have hn : (nI k < nI (z_m (q_I M 109) 0)) = True := eq_true (nI_lt (by omega) (by omega))
    simp only [f_X12_pay_b47.eq_2, zo_108 hL, zl_ hL, e9, hcn, Option.bind_some, hn, if_true, (za_123 hL).2.1 k (show k < 20 by omega), hA k (by omega), ← nI_succ]
    exact ih (k + 1) g (by omega) (by omega)
theorem zq_y92 (hi : z_Inv M) (hL : z_Lay Mm) (e9 : q_I Mm 109 = q_I M 109) (hA : ∀ f, f < z_m (q_I M 109) 0 → q_J Mm 123 f = A f) (x : Int32) (pence all : Int64) (ha : all ≠ 0) : ∀ (d k fu : Nat), k + d = z_m (q_I M 109) 0 → d < fu → f_X12_pay_b92 Mm 108 x pence all fu (z_lf pence all A k) (nI k) = f_X12_pay_b127 Mm 108 x pence all (z_lf pence all A (z_m (q_I M 109) 0)) := by
  obtain ⟨R0, h30, hm0, hcn⟩ := zt_0 hi
  intro d
  induction d with
  | zero =>
    intro k fu hd hf
    obtain ⟨g, rfl⟩ : ∃ g, fu = g + 1 := ⟨fu - 1, by omega⟩
    obtain rfl : k = z_m (q_I M 109) 0 := by omega
    have hn : (nI (z_m (q_I M 109) 0) < nI (z_m (q_I M 109) 0)) = False := eq_false (nI_nlt (Nat.le_refl _) (by omega))
    simp only [f_X12_pay_b92.eq_2, zo_108 hL, zl_ hL, e9, hcn, Option.bind_some, hn, if_false]
  | succ d ih =>
    intro k fu hd hf
    obtain ⟨g, rfl⟩ : ∃ g, fu = g + 1 := ⟨fu - 1, by omega⟩
    have hn : (nI k < nI (z_m (q_I M 109) 0)) = True := eq_true (nI_lt (by omega) (by omega))
    simp only [f_X12_pay_b92.eq_2, zo_108 hL, zl_ hL, e9, hcn, Option.bind_some, hn, if_true, (za_123 hL).2.1 k (show k < 20 by omega), hA k (by omega), z_ldv0 ha, ← nI_succ]
    exact ih (k + 1) g (by omega) (by omega)
theorem zq_y147 (hi : z_Inv M) (hL : z_Lay Mm) (e9 : q_I Mm 109 = q_I M 109) (hA : ∀ f, f < z_m (q_I M 109) 0 → q_J Mm 123 f = A f) {f : Nat} (hf20 : f < 20) (pence all lf cut : Int64) (ha : all ≠ 0) : ∀ (d k fu : Nat), k + d = z_m (q_I M 109) 0 → d < fu → f_X12_pay_b147 Mm 108 (nI f) pence all lf cut fu (z_sv pence all cut A f k) (nI k) = f_X12_pay_b211 Mm 108 (nI f) pence all lf (z_sv pence all cut A f (z_m (q_I M 109) 0)) := by
  obtain ⟨R0, h30, hm0, hcn⟩ := zt_0 hi
  intro d
  induction d with
  | zero =>
    intro k fu hd hf
    obtain ⟨g, rfl⟩ : ∃ g, fu = g + 1 := ⟨fu - 1, by omega⟩
    obtain rfl : k = z_m (q_I M 109) 0 := by omega
    have hn : (nI (z_m (q_I M 109) 0) < nI (z_m (q_I M 109) 0)) = False := eq_false (nI_nlt (Nat.le_refl _) (by omega))
    simp only [f_X12_pay_b147.eq_2, zo_108 hL, zl_ hL, e9, hcn, Option.bind_some, hn, if_false]
  | succ d ih =>
    intro k fu hd hf
    obtain ⟨g, rfl⟩ : ∃ g, fu = g + 1 := ⟨fu - 1, by omega⟩
    have hn : (nI k < nI (z_m (q_I M 109) 0)) = True := eq_true (nI_lt (by omega) (by omega))
    have lr : ∀ x, q_lrm x all = some (z_rm x all) := fun x => if_neg ha
    have ih2 := ih (k + 1) g (by omega) (by omega)
    have e2 : z_sv pence all cut A f (k + 1) = if cut < z_rm (pence * A k) all then z_sv pence all cut A f k + 1 else if z_rm (pence * A k) all = cut then (if k < f then z_sv pence all cut A f k + 1 else z_sv pence all cut A f k) else z_sv pence all cut A f k := rfl
    rw [e2] at ih2
    have q : (nI k < nI f) = (k < f) := propext ⟨fun z => by
      rcases Nat.lt_or_ge k f with y | y
      · exact y
      · exact absurd z (nI_nlt y (by omega)), fun z => nI_lt z (by omega)⟩
    simp only [f_X12_pay_b147.eq_2, f_X12_pay_b197, f_X12_pay_b201, zo_108 hL, zl_ hL, e9, hcn, Option.bind_some, hn, if_true, (za_123 hL).2.1 k (show k < 20 by omega), hA k (by omega), lr, q, Int32.add_zero, ← nI_succ]
    rcases Classical.propComplete (cut < z_rm (pence * A k) all) with c0 | c0
    · simp only [c0, if_true] at ih2 ⊢; exact ih2
    · rcases Classical.propComplete (z_rm (pence * A k) all = cut) with c1 | c1
      · rcases Classical.propComplete (k < f) with c2 | c2
        · simp only [c0, c1, c2, if_true, if_false] at ih2 ⊢; exact ih2
        · simp only [c0, c1, c2, if_true, if_false] at ih2 ⊢; exact ih2
      · simp only [c0, c1, if_false] at ih2 ⊢; exact ih2
theorem zs_payM (hi : z_Inv M) (hL : z_Lay Mm) (e9 : q_I Mm 109 = q_I M 109) (hA : ∀ f, f < z_m (q_I M 109) 0 → q_J Mm 123 f = A f) {f : Nat} (hf : f < z_m (q_I M 109) 0) (pence : Int64) : f_X12_pay_b47 Mm 108 (nI f) pence q_fuel (0 : Int64) (0 : Int32) = some (z_py pence A (z_m (q_I M 109) 0) f, Mm) := by
  obtain ⟨R0, h30, hm0, hcn⟩ := zt_0 hi
  have y1 : f_X12_pay_b47 Mm 108 (nI f) pence q_fuel (0 : Int64) (0 : Int32) = _ := zq_y47 hi hL e9 hA (nI f) pence (z_m (q_I M 109) 0) 0 q_fuel (by omega) (z_fu (by omega))
  rw [y1]
  unfold z_py
  by_cases ha : z_S (z_m (q_I M 109) 0) A = 0
  · rw [if_pos ha]
    simp only [f_X12_pay_b76, ha, if_true]
  · rw [if_neg ha]
    have ha' := eq_false ha
    have lr : ∀ x, q_lrm x (z_S (z_m (q_I M 109) 0) A) = some (z_rm x (z_S (z_m (q_I M 109) 0) A)) := fun x => if_neg ha
    have y2 : f_X12_pay_b92 Mm 108 (nI f) pence (z_S (z_m (q_I M 109) 0) A) q_fuel pence (0 : Int32) = _ := zq_y92 hi hL e9 hA (nI f) pence (z_S (z_m (q_I M 109) 0) A) ha (z_m (q_I M 109) 0) 0 q_fuel (by omega) (z_fu (by omega))
    have y3 : f_X12_pay_b147 Mm 108 (nI f) pence (z_S (z_m (q_I M 109) 0) A) (z_lf pence (z_S (z_m (q_I M 109) 0) A) A (z_m (q_I M 109) 0)) (z_rm (pence * A f) (z_S (z_m (q_I M 109) 0) A)) q_fuel (0 : Int32) (0 : Int32) = _ := zq_y147 hi hL e9 hA (f := f) (by omega) pence (z_S (z_m (q_I M 109) 0) A) (z_lf pence (z_S (z_m (q_I M 109) 0) A) A (z_m (q_I M 109) 0)) (z_rm (pence * A f) (z_S (z_m (q_I M 109) 0) A)) ha (z_m (q_I M 109) 0) 0 q_fuel (by omega) (z_fu (by omega))
    simp only [f_X12_pay_b76, ha', if_false, y2, f_X12_pay_b127, zo_108 hL, (za_123 hL).2.1 f (show f < 20 by omega), hA f hf, Option.bind_some, lr, y3, f_X12_pay_b211, z_ldv0 ha]
    by_cases cc : (z_sv pence (z_S (z_m (q_I M 109) 0) A) (z_rm (pence * A f) (z_S (z_m (q_I M 109) 0) A)) A f (z_m (q_I M 109) 0)).toInt64 < z_lf pence (z_S (z_m (q_I M 109) 0) A) A (z_m (q_I M 109) 0)
    · simp only [cc, if_true]
    · simp only [cc, if_false]
end ZH
theorem z_mw_eq {M M' : q_Mem} (e9 : q_I M' 109 = q_I M 109) (wk dd : Int32) : z_mw M' wk dd = z_mw M wk dd := by
  unfold z_mw
  rw [e9]
theorem Z_pay_ok : Z_pay := by
  intro M p1 p2 p3 hi
  have hL := hi.1
  obtain ⟨R0, h30, hm0, hcn0⟩ := zt_0 hi
  have hh0 := z_has (x := p2) R0 h30 hm0
  have hs0 : ∀ M1, z_Lay M1 → q_I M1 109 = q_I M 109 → f_X12_is M1 108 (0 : Int32) p2 = some (q_b (0 ≤ p2.toInt ∧ p2.toInt < (z_m (q_I M 109) 0 : Int))) := fun M1 a b => z_m_is (t := 0) (j := 0) a (by decide) (by rw [b]; exact hcn0) (by omega)
  by_cases g1 : (0 : Int32).toInt ≤ p1.toInt ∧ p1.toInt ≤ (27 : Int32).toInt
  · by_cases g0 : 0 ≤ p2.toInt ∧ p2.toInt < (z_m (q_I M 109) 0 : Int)
    · by_cases g2 : (0 : Int32).toInt ≤ p3.toInt ∧ p3.toInt ≤ (195 : Int32).toInt
      · obtain ⟨f, hf, rfl⟩ := z_of g0 (by omega)
        obtain ⟨Mg, Mf, Mm, pg, Lg, pf, sf, pm, sm, he, hz⟩ := zs_shares hi p1 p3
        have hif := hi.sm sf
        have Lf := hif.1
        have him := hif.sm sm
        have Lm := him.1
        have e9f := z_inv9 sf
        have e9m : q_I Mm 109 = q_I M 109 := (z_inv9 sm).trans e9f
        have w1 := zs_weekP hif p1 p3
        have w2 := zs_moneyM him Lm rfl p1 p3
        rw [z_mw_eq e9f] at w1
        rw [z_mw_eq e9m] at w2
        have pc := zs_partOf Lf hm0 hf (z_mw_bd hi p1 p3) (fun k hk => (he k hk).2) hz
        have pM := zs_payM hi Lm e9m (A := q_J Mf 94) (fun k hk => (he k hk).1) hf (z_mw M p1 p3)
        refine ⟨z_py (z_mw M p1 p3) (q_J Mf 94) (z_m (q_I M 109) 0) f, Mf, Mm, ?_, ?_, him⟩
        · simp only [f_X11_pay, zob_0 hL, zo_0 hL, zo_1 hL, hh0, z_c_isWeek, z_c_isDay, Option.bind_some, z_b0, g0, g1, g2, and_self, if_true, pg, zo_0 Lg, pf, zo_0 Lf, w1, pc]
        · simp only [f_X12_pay, zob_108 Lf, hs0 Mf Lf e9f, z_m_isWeek, z_m_isDay, Option.bind_some, z_b0, g0, g1, g2, and_self, if_true, pm, w2, pM]
      · refine ⟨-2, M, M, ?_, ?_, hi⟩
        · simp only [f_X11_pay, zob_0 hL, zo_0 hL, zo_1 hL, hh0, z_c_isWeek, z_c_isDay, Option.bind_some, z_b0, g0, g1, g2, and_self, if_true, if_false]
        · simp only [f_X12_pay, zob_108 hL, hs0 M hL rfl, z_m_isWeek, z_m_isDay, Option.bind_some, z_b0, g0, g1, g2, and_self, if_true, if_false]
    · refine ⟨-2, M, M, ?_, ?_, hi⟩
      · simp only [f_X11_pay, zob_0 hL, zo_0 hL, zo_1 hL, hh0, z_c_isWeek, z_c_isDay, Option.bind_some, z_b0, g0, g1, and_self, if_true, if_false]
      · simp only [f_X12_pay, zob_108 hL, hs0 M hL rfl, z_m_isWeek, z_m_isDay, Option.bind_some, z_b0, g0, g1, and_self, if_true, if_false]
  · refine ⟨-2, M, M, ?_, ?_, hi⟩
    · simp only [f_X11_pay, zob_0 hL, z_c_isWeek, Option.bind_some, z_b0, g1, if_false]
    · simp only [f_X12_pay, zob_108 hL, z_m_isWeek, Option.bind_some, z_b0, g1, if_false]
