/-! ===== days kept: image, from ===== -/
theorem z_mi_le {a b : Nat} (h : a ≤ b) (hb : b < 2147483648) : q_mi (nI b) (nI a) = nI a := by
  unfold q_mi
  by_cases c : nI a < nI b
  · rw [if_pos c]
  · rw [if_neg c]
    have : ¬ a < b := fun z => c (nI_lt z hb)
    rw [show a = b by omega]
theorem z_become {M : q_Mem} {r c r' c' w mx m : Nat} (R : z_R M r c w mx) (R' : z_R M r' c' w mx) (h3 : q_I M r 3 = nI m) (hm : m ≤ mx) (hcr : r ≠ c') : f_X9_become M r' r = some (q_sI (q_sA M c' (va_cpy (q_I M c) (q_I M c') 0 0 (m * w))) r' 3 (nI m)) := by
  have hmx := z_mx_le R
  obtain ⟨R1, R2, R3, R4, R5, R6, R7, R8, R9, R10⟩ := R
  obtain ⟨S1, S2, S3, S4, S5, S6, S7, S8, S9, S10⟩ := R'
  have hc := q_isb_iff.mp R3
  have hc' := q_isb_iff.mp S3
  have hmw : m * w ≤ mx * w := Nat.mul_le_mul_right w hm
  have g1 : q_gI 8 3 M r = some (nI m) := by unfold q_gI; rw [if_pos R1, h3]
  have g2 : q_gI 8 1 M r = some (nI w) := by unfold q_gI; rw [if_pos R1, R6]
  have g3 : q_gR 8 2 M r = some c := by unfold q_gR; rw [if_pos R1, R2]
  have g3' : q_gR 8 2 M r' = some c' := by unfold q_gR; rw [if_pos S1, S2]
  have g4 : q_ln M c = some (nI (mx * w)) := by unfold q_ln; rw [hc.2, if_pos ⟨hc.1, by decide, by decide⟩, R4]; rfl
  have g4' : q_ln M c' = some (nI (mx * w)) := by unfold q_ln; rw [hc'.2, if_pos ⟨hc'.1, by decide, by decide⟩, S4]; rfl
  have g5 : q_mi (q_mi (nI (mx * w)) (nI (mx * w))) (nI m * nI w) = nI (m * w) := by
    rw [pk_mul, z_mi_le (Nat.le_refl _) (by omega), z_mi_le hmw (by omega)]
  have g6 : q_cI M c (0 : Int32) c' (0 : Int32) (nI (m * w)) = some (q_sA M c' (va_cpy (q_I M c) (q_I M c') 0 0 (m * w))) := by
    unfold q_cI
    have e0 : (0 : Int32).toNatClampNeg = 0 := rfl
    rw [e0, nI_clamp (by omega), R4, S4, if_pos ⟨R3, S3, by decide, by decide, nI_pos (by omega), by omega, by omega⟩]
  have g7 : q_gI 8 0 (q_sA M c' (va_cpy (q_I M c) (q_I M c') 0 0 (m * w))) r' = some (nI mx) := by
    unfold q_gI
    rw [if_pos (show q_isb 8 (q_sA M c' (va_cpy (q_I M c) (q_I M c') 0 0 (m * w))) r' = true from S1)]
    have : q_I (q_sA M c' (va_cpy (q_I M c) (q_I M c') 0 0 (m * w))) r' 0 = q_I M r' 0 := if_neg S9
    rw [this, S5]
  have g8 : q_gI 8 3 (q_sA M c' (va_cpy (q_I M c) (q_I M c') 0 0 (m * w))) r = some (nI m) := by
    unfold q_gI
    rw [if_pos (show q_isb 8 (q_sA M c' (va_cpy (q_I M c) (q_I M c') 0 0 (m * w))) r = true from R1)]
    have : q_I (q_sA M c' (va_cpy (q_I M c) (q_I M c') 0 0 (m * w))) r 3 = q_I M r 3 := if_neg hcr
    rw [this, h3]
  have g9 : ∀ v, q_pI 8 3 (q_sA M c' (va_cpy (q_I M c) (q_I M c') 0 0 (m * w))) r' v = some (q_sI (q_sA M c' (va_cpy (q_I M c) (q_I M c') 0 0 (m * w))) r' 3 v) := fun v => by
    unfold q_pI
    exact if_pos S1
  unfold f_X9_become q_ob
  rw [if_pos S1]
  simp only [g1, g2, g3, g3', g4, g4', g5, g6, g7, g8, g9, z_mi_le hm (show mx < 2147483648 by omega), Option.bind_some]
theorem z_sA_I {M : q_Mem} {a b k : Nat} {f : Nat → Int32} : q_I (q_sA M a f) b k = if b = a then f k else q_I M b k := rfl
theorem z_FR.sA {M : q_Mem} {a : Nat} {f : Nat → Int32} (h : a ≠ 104) : z_FR M (q_sA M a f) := ⟨rfl, rfl, by
  unfold z_zc
  have e : q_I (q_sA M a f) 104 0 = q_I M 104 0 := by rw [z_sA_I, if_neg (Ne.symm h)]
  rw [e]
  rfl⟩
/-- the first n tables of house s stand in house d -/
def z_bk (M0 M : q_Mem) (s d n : Nat) (st : Nat → Int32) : Prop := z_FR M0 M ∧ (∀ a, (a ≤ d ∨ d + 23 ≤ a) → q_I M a = q_I M0 a) ∧ z_RC d (q_I M) ∧ ∀ t, t < n → q_I M (d + 1 + 2 * t) 3 = nI (z_m st t) ∧ ∀ k, k < z_tw t * z_m st t → q_I M (d + 2 + 2 * t) k = q_I M0 (s + 2 + 2 * t) k
theorem z_bk.step {M0 M : q_Mem} {s d n : Nat} {st : Nat → Int32} (h : z_bk M0 M s d n st) (hn : n < 11) (hsd : s + 25 ≤ d ∨ d + 25 ≤ s) (hs : z_hs s (q_I M0) st) (hRs : z_R M (s + 1 + 2 * n) (s + 2 + 2 * n) (z_tw n) (z_tm n)) (hRd : z_R M (d + 1 + 2 * n) (d + 2 + 2 * n) (z_tw n) (z_tm n)) : ∃ M', f_X9_become M (d + 1 + 2 * n) (s + 1 + 2 * n) = some M' ∧ z_bk M0 M' s d (n + 1) st := by
  obtain ⟨h1, h2, h3, h4⟩ := h
  have hT := hs.1 n hn
  have es : ∀ a, s ≤ a → a < s + 25 → q_I M a = q_I M0 a := fun a x y => h2 a (by omega)
  have e3 : q_I M (s + 1 + 2 * n) 3 = nI (z_m st n) := by rw [es _ (by omega) (by omega)]; exact hT.1
  refine ⟨_, z_become hRs hRd e3 hT.2.1 (by omega), h1.tr ((z_FR.sA hRd.2.2.2.2.2.2.2.2.2.2).tr (z_FR.sI hRd.2.2.2.2.2.2.2.2.2.1)), fun a ha => ?_, fun t ht => ?_, fun t ht => ?_⟩
  · rw [q_sI_ne (by omega)]
    have : q_I (q_sA M (d + 2 + 2 * n) (va_cpy (q_I M (s + 2 + 2 * n)) (q_I M (d + 2 + 2 * n)) 0 0 (z_m st n * z_tw n))) a = q_I M a := by
      funext k
      rw [z_sA_I, if_neg (by omega)]
    rw [this]
    exact h2 a ha
  · rw [z_I_sI, if_neg (by omega), z_I_sI, if_neg (by omega), z_sA_I, if_neg (by omega), z_sA_I, if_neg (by omega)]
    exact h3 t ht
  · by_cases e : t = n
    · subst e
      refine ⟨by rw [z_I_sI, if_pos ⟨rfl, rfl⟩], fun k hk => ?_⟩
      rw [z_I_sI, if_neg (by omega), z_sA_I, if_pos rfl]
      unfold va_cpy
      rw [if_pos ⟨Nat.zero_le _, by rw [Nat.mul_comm (z_m st t)]; omega⟩, show 0 + (k - 0) = k by omega, es _ (by omega) (by omega)]
    · have h5 := h4 t (by omega)
      refine ⟨by rw [z_I_sI, if_neg (by omega), z_sA_I, if_neg (by omega)]; exact h5.1, fun k hk => ?_⟩
      rw [z_I_sI, if_neg (by omega), z_sA_I, if_neg (by omega)]
      exact h5.2 k hk
/-- house d is as house s was -/
def z_cp (M0 M : q_Mem) (s d : Nat) (st : Nat → Int32) : Prop := z_FR M0 M ∧ (∀ a, (a < d ∨ d + 25 ≤ a) → q_I M a = q_I M0 a) ∧ z_RC d (q_I M) ∧ (∀ t, t < 11 → q_I M (d + 1 + 2 * t) 3 = nI (z_m st t) ∧ ∀ k, k < z_tw t * z_m st t → q_I M (d + 2 + 2 * t) k = q_I M0 (s + 2 + 2 * t) k) ∧ (∀ k, k < 4 → q_I M (d + 23) k = q_I M0 (s + 23) k) ∧ (∀ k, k < 52 → q_I M (d + 24) k = q_I M0 (s + 24) k) ∧ q_I M d 13 = q_I M0 s 13 ∧ q_I M d 14 = q_I M0 s 14 ∧ q_I M d 15 = q_I M0 s 15
theorem z_VT_cp {st st' : Nat → Int32} (hm : ∀ t, t < 11 → z_m st' t = z_m st t) (hk : ∀ k, k < 4764 → st' k = st k) {t : Nat} (ht : t < 11) (hM : z_m st t ≤ z_tm t) (h : z_VT st t) : z_VT st' t := by
  intro i hi
  rw [hm t ht] at hi
  rw [hm 0 (by decide), hm 3 (by decide)]
  refine (h i hi).cong (fun j hj => hk _ ?_) (Nat.le_refl _) (Nat.le_refl _)
  have h1 := z_pos hi hM hj
  have h2 : ∀ t, t < 11 → z_to t + z_tm t * z_tw t ≤ 4764 := by decide
  have := h2 t ht
  omega
theorem z_hs_copy {s d : Nat} {I I' : Nat → Nat → Int32} {st st' : Nat → Int32} (h : z_hs s I st) (hk : ∀ k, k < 4764 → st' k = st k) (hT : ∀ t, t < 11 → I' (d + 1 + 2 * t) 3 = nI (z_m st t) ∧ ∀ k, k < z_tw t * z_m st t → I' (d + 2 + 2 * t) k = I (s + 2 + 2 * t) k)
    (hb : ∀ k, k < 4 → I' (d + 23) k = I (s + 23) k) (hy : ∀ k, k < 52 → I' (d + 24) k = I (s + 24) k) (h13 : I' d 13 = I s 13) (h14 : I' d 14 = I s 14) (h15 : I' d 15 = I s 15) : z_hs d I' st' := by
  have n3 : ∀ t, t < 11 → z_tn t < 20 := by decide
  have hm : ∀ t, t < 11 → z_m st' t = z_m st t := by
    intro t ht
    unfold z_m
    rw [hk _ (by have := n3 t ht; omega)]
  have h2 : ∀ t, t < 11 → z_to t + z_tm t * z_tw t ≤ 4764 := by decide
  refine ⟨fun t ht => ?_, ⟨fun j hj => ?_, ?_, ?_, ?_⟩, fun j hj => ?_, fun t ht => z_VT_cp hm hk ht (h.1 t ht).2.1 (h.2.2.2 t ht)⟩
  · have T := h.1 t ht
    refine ⟨by rw [hm t ht]; exact (hT t ht).1, by rw [hm t ht]; exact T.2.1, fun z => by rw [hm t ht, hk _ (by have := n3 t ht; omega)]; exact T.2.2.1 z, fun i j hi hj hl => ?_⟩
    rw [hm t ht] at hi
    have hp := z_pos hi T.2.1 hj
    have hp2 := z_pos hi T.2.1 (z_pm_lt hj)
    have h9 := h2 t ht
    have hin : z_tw t * i + j < z_tw t * z_m st t := by
      have h1 := Nat.mul_le_mul_left (z_tw t) (show i + 1 ≤ z_m st t from hi)
      rw [Nat.mul_add, Nat.mul_one] at h1
      omega
    rw [(hT t ht).2 _ hin, hk _ (by omega)]
    refine T.2.2.2 i j hi hj ⟨fun z => ?_, fun z a1 a2 => ?_⟩
    · have q := hl.1 z
      subst z
      have hi' : i < 6 := hi
      rwa [hk _ (by omega)] at q
    · have q := hl.2 z a1 a2
      subst z
      have hi' : i < 10 := Nat.lt_of_lt_of_le hi T.2.1
      rwa [hk _ (by omega)] at q
  · rw [hb j hj, hk _ (by omega)]; exact h.2.1.1 j hj
  · rw [h13, hk _ (by omega)]; exact h.2.1.2.1
  · rw [h14, hk _ (by omega)]; exact h.2.1.2.2.1
  · rw [h15, hk _ (by omega)]; exact h.2.1.2.2.2
  · rw [hy j hj, hk _ (by omega)]; exact h.2.2.1 j hj
theorem z_cp.hs {M0 M : q_Mem} {s d : Nat} {st st' : Nat → Int32} (h : z_cp M0 M s d st) (hs : z_hs s (q_I M0) st) (hk : ∀ k, k < 4764 → st' k = st k) : z_hs d (q_I M) st' :=
  z_hs_copy hs hk h.2.2.2.1 h.2.2.2.2.1 h.2.2.2.2.2.1 h.2.2.2.2.2.2.1 h.2.2.2.2.2.2.2.1 h.2.2.2.2.2.2.2.2
theorem zq_b123_1_27 : ∀ (dd i fu : Nat) (M : q_Mem), i + dd = 4 → dd < fu → z_Lay M → ∃ M', f_X5_become_b123 27 1 fu (nI i) M = f_X5_become_b161 27 1 q_fuel (0 : Int32) M' ∧ z_FR M M' ∧ (∀ a, a ≠ 50 → q_I M' a = q_I M a) ∧ (∀ k, k < i → q_I M' 50 k = q_I M 50 k) ∧ ∀ k, i ≤ k → k < 4 → q_I M' 50 k = q_I M 24 k := by
  intro dd
  induction dd with
  | zero =>
    intro i fu M hd hf hL
    obtain ⟨g, rfl⟩ : ∃ g, fu = g + 1 := ⟨fu - 1, by omega⟩
    obtain rfl : i = 4 := by omega
    simp only [f_X5_become_b123.eq_2, zo_27 hL, (za_50 hL).1, Option.bind_some, show (nI 4 < nI 4) = False by decide, if_false]
    exact ⟨M, rfl, z_FR.rf, fun _ _ => rfl, fun _ _ => rfl, fun k x y => by omega⟩
  | succ dd ih =>
    intro i fu M hd hf hL
    obtain ⟨g, rfl⟩ : ∃ g, fu = g + 1 := ⟨fu - 1, by omega⟩
    have hn : (nI i < nI 4) = True := eq_true (nI_lt (by omega) (by omega))
    simp only [f_X5_become_b123.eq_2, zo_27 hL, zo_1 hL, (za_50 hL).1, (za_24 hL).1, (za_24 hL).2.1 i (show i < 4 by omega), (za_50 hL).2.2 i _ (show i < 4 by omega), Option.bind_some, hn, if_true, ← nI_succ]
    have hL2 : z_Lay (q_sI M 50 i (q_I M 24 i)) := hL
    obtain ⟨M', r, f, o, k1, k2⟩ := ih (i + 1) g _ (by omega) (by omega) hL2
    refine ⟨M', r, (show z_FR M (q_sI M 50 i (q_I M 24 i)) from z_FR.sI).tr f, fun a ha => by rw [o a ha, q_sI_ne ha], fun k hk => by rw [k1 k (by omega), z_I_sI, if_neg (by omega)], fun k x y => ?_⟩
    by_cases e : k = i
    · subst e
      rw [k1 k (by omega), z_I_sI, if_pos ⟨rfl, rfl⟩]
    · rw [k2 k (by omega) y, z_I_sI, if_neg (by omega)]
theorem zq_b161_1_27 : ∀ (dd i fu : Nat) (M : q_Mem), i + dd = 52 → dd < fu → z_Lay M → ∃ M', f_X5_become_b161 27 1 fu (nI i) M = f_X5_become_b197 M' 27 1 ∧ z_FR M M' ∧ (∀ a, a ≠ 51 → q_I M' a = q_I M a) ∧ (∀ k, k < i → q_I M' 51 k = q_I M 51 k) ∧ ∀ k, i ≤ k → k < 52 → q_I M' 51 k = q_I M 25 k := by
  intro dd
  induction dd with
  | zero =>
    intro i fu M hd hf hL
    obtain ⟨g, rfl⟩ : ∃ g, fu = g + 1 := ⟨fu - 1, by omega⟩
    obtain rfl : i = 52 := by omega
    simp only [f_X5_become_b161.eq_2, zo_27 hL, (za_51 hL).1, Option.bind_some, show (nI 52 < nI 52) = False by decide, if_false]
    exact ⟨M, rfl, z_FR.rf, fun _ _ => rfl, fun _ _ => rfl, fun k x y => by omega⟩
  | succ dd ih =>
    intro i fu M hd hf hL
    obtain ⟨g, rfl⟩ : ∃ g, fu = g + 1 := ⟨fu - 1, by omega⟩
    have hn : (nI i < nI 52) = True := eq_true (nI_lt (by omega) (by omega))
    simp only [f_X5_become_b161.eq_2, zo_27 hL, zo_1 hL, (za_51 hL).1, (za_25 hL).1, (za_25 hL).2.1 i (show i < 52 by omega), (za_51 hL).2.2 i _ (show i < 52 by omega), Option.bind_some, hn, if_true, ← nI_succ]
    have hL2 : z_Lay (q_sI M 51 i (q_I M 25 i)) := hL
    obtain ⟨M', r, f, o, k1, k2⟩ := ih (i + 1) g _ (by omega) (by omega) hL2
    refine ⟨M', r, (show z_FR M (q_sI M 51 i (q_I M 25 i)) from z_FR.sI).tr f, fun a ha => by rw [o a ha, q_sI_ne ha], fun k hk => by rw [k1 k (by omega), z_I_sI, if_neg (by omega)], fun k x y => ?_⟩
    by_cases e : k = i
    · subst e
      rw [k1 k (by omega), z_I_sI, if_pos ⟨rfl, rfl⟩]
    · rw [k2 k (by omega) y, z_I_sI, if_neg (by omega)]
theorem zs_become_1_27 {M0 : q_Mem} {st : Nat → Int32} (hL : z_Lay M0) (hRs : z_RC 1 (q_I M0)) (hRd : z_RC 27 (q_I M0)) (hs : z_hs 1 (q_I M0) st) : ∃ M, f_X5_become M0 27 1 = some M ∧ z_cp M0 M 1 27 st := by
  have k0 : z_bk M0 M0 1 27 0 st := ⟨z_FR.rf, fun _ _ => rfl, hRd, fun t ht => absurd ht (Nat.not_lt_zero _)⟩
  have go : ∀ M n, n < 11 → z_bk M0 M 1 27 n st → ∃ M', f_X9_become M (27 + 1 + 2 * n) (1 + 1 + 2 * n) = some M' ∧ z_bk M0 M' 1 27 (n + 1) st := fun M n hn k =>
    k.step hn (by omega) hs (z_rows1 (k.1.lay hL) (hRs.cong (fun a x y => k.2.1 a (by omega))) n hn) (z_rows27 (k.1.lay hL) k.2.2.1 n hn)
  obtain ⟨M1, e1, k1⟩ := go M0 0 (by decide) k0
  have L1 : z_Lay M1 := k1.1.lay hL
  have e1 : f_X9_become M0 28 2 = some M1 := e1
  obtain ⟨M2, e2, k2⟩ := go M1 1 (by decide) k1
  have L2 : z_Lay M2 := k2.1.lay hL
  have e2 : f_X9_become M1 30 4 = some M2 := e2
  obtain ⟨M3, e3, k3⟩ := go M2 2 (by decide) k2
  have L3 : z_Lay M3 := k3.1.lay hL
  have e3 : f_X9_become M2 32 6 = some M3 := e3
  obtain ⟨M4, e4, k4⟩ := go M3 3 (by decide) k3
  have L4 : z_Lay M4 := k4.1.lay hL
  have e4 : f_X9_become M3 34 8 = some M4 := e4
  obtain ⟨M5, e5, k5⟩ := go M4 4 (by decide) k4
  have L5 : z_Lay M5 := k5.1.lay hL
  have e5 : f_X9_become M4 36 10 = some M5 := e5
  obtain ⟨M6, e6, k6⟩ := go M5 5 (by decide) k5
  have L6 : z_Lay M6 := k6.1.lay hL
  have e6 : f_X9_become M5 38 12 = some M6 := e6
  obtain ⟨M7, e7, k7⟩ := go M6 6 (by decide) k6
  have L7 : z_Lay M7 := k7.1.lay hL
  have e7 : f_X9_become M6 40 14 = some M7 := e7
  obtain ⟨M8, e8, k8⟩ := go M7 7 (by decide) k7
  have L8 : z_Lay M8 := k8.1.lay hL
  have e8 : f_X9_become M7 42 16 = some M8 := e8
  obtain ⟨M9, e9, k9⟩ := go M8 8 (by decide) k8
  have L9 : z_Lay M9 := k9.1.lay hL
  have e9 : f_X9_become M8 44 18 = some M9 := e9
  obtain ⟨M10, e10, k10⟩ := go M9 9 (by decide) k9
  have L10 : z_Lay M10 := k10.1.lay hL
  have e10 : f_X9_become M9 46 20 = some M10 := e10
  obtain ⟨M11, e11, k11⟩ := go M10 10 (by decide) k10
  have L11 : z_Lay M11 := k11.1.lay hL
  have e11 : f_X9_become M10 48 22 = some M11 := e11
  obtain ⟨M12, e12, f12, o12, _, v12⟩ := zq_b123_1_27 4 0 q_fuel M11 (by omega) (by unfold q_fuel; omega) L11
  have L12 : z_Lay M12 := f12.lay L11
  obtain ⟨M13, e13, f13, o13, _, v13⟩ := zq_b161_1_27 52 0 q_fuel M12 (by omega) (by unfold q_fuel; omega) L12
  have L13 : z_Lay M13 := f13.lay L12
  have e12 : f_X5_become_b123 27 1 q_fuel (0 : Int32) M11 = f_X5_become_b161 27 1 q_fuel (0 : Int32) M12 := e12
  have e13 : f_X5_become_b161 27 1 q_fuel (0 : Int32) M12 = f_X5_become_b197 M13 27 1 := e13
  have L14 : z_Lay (q_sI M13 27 13 (q_I M13 1 13)) := L13
  have L15 : z_Lay (q_sI (q_sI M13 27 13 (q_I M13 1 13)) 27 14 (q_I M13 1 14)) := L13
  have r14 : q_I (q_sI M13 27 13 (q_I M13 1 13)) 1 14 = q_I M13 1 14 := by rw [z_I_sI, if_neg (by omega)]
  have r15 : q_I (q_sI (q_sI M13 27 13 (q_I M13 1 13)) 27 14 (q_I M13 1 14)) 1 15 = q_I M13 1 15 := by rw [z_I_sI, if_neg (by omega), z_I_sI, if_neg (by omega)]
  refine ⟨q_sI (q_sI (q_sI M13 27 13 (q_I M13 1 13)) 27 14 (q_I M13 1 14)) 27 15 (q_I M13 1 15), ?_, ?_⟩
  · simp only [f_X5_become, f_X5_become_b197, zob_27 hL, zo_27 hL, zo_1 hL, zo_27 L1, zo_1 L1, zo_27 L2, zo_1 L2, zo_27 L3, zo_1 L3, zo_27 L4, zo_1 L4, zo_27 L5, zo_1 L5, zo_27 L6, zo_1 L6, zo_27 L7, zo_1 L7, zo_27 L8, zo_1 L8, zo_27 L9, zo_1 L9, zo_27 L10, zo_1 L10, e1, e2, e3, e4, e5, e6, e7, e8, e9, e10, e11, Option.bind_some, e12, e13, zo_27 L13, zo_1 L13, zo_27 L14, zo_1 L14, zo_27 L15, zo_1 L15, r14, r15]
  · have oa : ∀ a, a ≠ 27 → a ≠ 50 → a ≠ 51 → q_I (q_sI (q_sI (q_sI M13 27 13 (q_I M13 1 13)) 27 14 (q_I M13 1 14)) 27 15 (q_I M13 1 15)) a = q_I M11 a := fun a h1 h2 h3 => by
      rw [q_sI_ne h1, q_sI_ne h1, q_sI_ne h1, o13 a h3, o12 a h2]
    have os : ∀ a, 1 ≤ a → a < 26 → q_I M13 a = q_I M0 a := fun a h1 h2 => by
      rw [o13 a (by omega), o12 a (by omega), k11.2.1 a (by omega)]
    refine ⟨k11.1.tr (f12.tr (f13.tr ⟨rfl, rfl, rfl⟩)), fun a ha => ?_, fun t ht => ?_, fun t ht => ?_, fun k hk => ?_, fun k hk => ?_, ?_, ?_, ?_⟩
    · rw [oa a (by omega) (by omega) (by omega)]; exact k11.2.1 a (by omega)
    · rw [oa _ (by omega) (by omega) (by omega)]; exact k11.2.2.1 t ht
    · rw [oa _ (by omega) (by omega) (by omega), oa _ (by omega) (by omega) (by omega)]; exact k11.2.2.2 t ht
    · rw [q_sI_ne (by decide), q_sI_ne (by decide), q_sI_ne (by decide), o13 _ (by decide)]
      refine (v12 k (Nat.zero_le _) hk).trans ?_
      rw [k11.2.1 _ (by omega)]
    · rw [q_sI_ne (by decide), q_sI_ne (by decide), q_sI_ne (by decide)]
      refine (v13 k (Nat.zero_le _) hk).trans ?_
      rw [o12 _ (by decide), k11.2.1 _ (by omega)]
    · rw [z_I_sI, if_neg (by omega), z_I_sI, if_neg (by omega), z_I_sI, if_pos ⟨rfl, rfl⟩, os _ (by omega) (by omega)]
    · rw [z_I_sI, if_neg (by omega), z_I_sI, if_pos ⟨rfl, rfl⟩, os _ (by omega) (by omega)]
    · rw [z_I_sI, if_pos ⟨rfl, rfl⟩, os _ (by omega) (by omega)]
theorem zq_b123_1_52 : ∀ (dd i fu : Nat) (M : q_Mem), i + dd = 4 → dd < fu → z_Lay M → ∃ M', f_X5_become_b123 52 1 fu (nI i) M = f_X5_become_b161 52 1 q_fuel (0 : Int32) M' ∧ z_FR M M' ∧ (∀ a, a ≠ 75 → q_I M' a = q_I M a) ∧ (∀ k, k < i → q_I M' 75 k = q_I M 75 k) ∧ ∀ k, i ≤ k → k < 4 → q_I M' 75 k = q_I M 24 k := by
  intro dd
  induction dd with
  | zero =>
    intro i fu M hd hf hL
    obtain ⟨g, rfl⟩ : ∃ g, fu = g + 1 := ⟨fu - 1, by omega⟩
    obtain rfl : i = 4 := by omega
    simp only [f_X5_become_b123.eq_2, zo_52 hL, (za_75 hL).1, Option.bind_some, show (nI 4 < nI 4) = False by decide, if_false]
    exact ⟨M, rfl, z_FR.rf, fun _ _ => rfl, fun _ _ => rfl, fun k x y => by omega⟩
  | succ dd ih =>
    intro i fu M hd hf hL
    obtain ⟨g, rfl⟩ : ∃ g, fu = g + 1 := ⟨fu - 1, by omega⟩
    have hn : (nI i < nI 4) = True := eq_true (nI_lt (by omega) (by omega))
    simp only [f_X5_become_b123.eq_2, zo_52 hL, zo_1 hL, (za_75 hL).1, (za_24 hL).1, (za_24 hL).2.1 i (show i < 4 by omega), (za_75 hL).2.2 i _ (show i < 4 by omega), Option.bind_some, hn, if_true, ← nI_succ]
    have hL2 : z_Lay (q_sI M 75 i (q_I M 24 i)) := hL
    obtain ⟨M', r, f, o, k1, k2⟩ := ih (i + 1) g _ (by omega) (by omega) hL2
    refine ⟨M', r, (show z_FR M (q_sI M 75 i (q_I M 24 i)) from z_FR.sI).tr f, fun a ha => by rw [o a ha, q_sI_ne ha], fun k hk => by rw [k1 k (by omega), z_I_sI, if_neg (by omega)], fun k x y => ?_⟩
    by_cases e : k = i
    · subst e
      rw [k1 k (by omega), z_I_sI, if_pos ⟨rfl, rfl⟩]
    · rw [k2 k (by omega) y, z_I_sI, if_neg (by omega)]
theorem zq_b161_1_52 : ∀ (dd i fu : Nat) (M : q_Mem), i + dd = 52 → dd < fu → z_Lay M → ∃ M', f_X5_become_b161 52 1 fu (nI i) M = f_X5_become_b197 M' 52 1 ∧ z_FR M M' ∧ (∀ a, a ≠ 76 → q_I M' a = q_I M a) ∧ (∀ k, k < i → q_I M' 76 k = q_I M 76 k) ∧ ∀ k, i ≤ k → k < 52 → q_I M' 76 k = q_I M 25 k := by
  intro dd
  induction dd with
  | zero =>
    intro i fu M hd hf hL
    obtain ⟨g, rfl⟩ : ∃ g, fu = g + 1 := ⟨fu - 1, by omega⟩
    obtain rfl : i = 52 := by omega
    simp only [f_X5_become_b161.eq_2, zo_52 hL, (za_76 hL).1, Option.bind_some, show (nI 52 < nI 52) = False by decide, if_false]
    exact ⟨M, rfl, z_FR.rf, fun _ _ => rfl, fun _ _ => rfl, fun k x y => by omega⟩
  | succ dd ih =>
    intro i fu M hd hf hL
    obtain ⟨g, rfl⟩ : ∃ g, fu = g + 1 := ⟨fu - 1, by omega⟩
    have hn : (nI i < nI 52) = True := eq_true (nI_lt (by omega) (by omega))
    simp only [f_X5_become_b161.eq_2, zo_52 hL, zo_1 hL, (za_76 hL).1, (za_25 hL).1, (za_25 hL).2.1 i (show i < 52 by omega), (za_76 hL).2.2 i _ (show i < 52 by omega), Option.bind_some, hn, if_true, ← nI_succ]
    have hL2 : z_Lay (q_sI M 76 i (q_I M 25 i)) := hL
    obtain ⟨M', r, f, o, k1, k2⟩ := ih (i + 1) g _ (by omega) (by omega) hL2
    refine ⟨M', r, (show z_FR M (q_sI M 76 i (q_I M 25 i)) from z_FR.sI).tr f, fun a ha => by rw [o a ha, q_sI_ne ha], fun k hk => by rw [k1 k (by omega), z_I_sI, if_neg (by omega)], fun k x y => ?_⟩
    by_cases e : k = i
    · subst e
      rw [k1 k (by omega), z_I_sI, if_pos ⟨rfl, rfl⟩]
    · rw [k2 k (by omega) y, z_I_sI, if_neg (by omega)]
theorem zs_become_1_52 {M0 : q_Mem} {st : Nat → Int32} (hL : z_Lay M0) (hRs : z_RC 1 (q_I M0)) (hRd : z_RC 52 (q_I M0)) (hs : z_hs 1 (q_I M0) st) : ∃ M, f_X5_become M0 52 1 = some M ∧ z_cp M0 M 1 52 st := by
  have k0 : z_bk M0 M0 1 52 0 st := ⟨z_FR.rf, fun _ _ => rfl, hRd, fun t ht => absurd ht (Nat.not_lt_zero _)⟩
  have go : ∀ M n, n < 11 → z_bk M0 M 1 52 n st → ∃ M', f_X9_become M (52 + 1 + 2 * n) (1 + 1 + 2 * n) = some M' ∧ z_bk M0 M' 1 52 (n + 1) st := fun M n hn k =>
    k.step hn (by omega) hs (z_rows1 (k.1.lay hL) (hRs.cong (fun a x y => k.2.1 a (by omega))) n hn) (z_rows52 (k.1.lay hL) k.2.2.1 n hn)
  obtain ⟨M1, e1, k1⟩ := go M0 0 (by decide) k0
  have L1 : z_Lay M1 := k1.1.lay hL
  have e1 : f_X9_become M0 53 2 = some M1 := e1
  obtain ⟨M2, e2, k2⟩ := go M1 1 (by decide) k1
  have L2 : z_Lay M2 := k2.1.lay hL
  have e2 : f_X9_become M1 55 4 = some M2 := e2
  obtain ⟨M3, e3, k3⟩ := go M2 2 (by decide) k2
  have L3 : z_Lay M3 := k3.1.lay hL
  have e3 : f_X9_become M2 57 6 = some M3 := e3
  obtain ⟨M4, e4, k4⟩ := go M3 3 (by decide) k3
  have L4 : z_Lay M4 := k4.1.lay hL
  have e4 : f_X9_become M3 59 8 = some M4 := e4
  obtain ⟨M5, e5, k5⟩ := go M4 4 (by decide) k4
  have L5 : z_Lay M5 := k5.1.lay hL
  have e5 : f_X9_become M4 61 10 = some M5 := e5
  obtain ⟨M6, e6, k6⟩ := go M5 5 (by decide) k5
  have L6 : z_Lay M6 := k6.1.lay hL
  have e6 : f_X9_become M5 63 12 = some M6 := e6
  obtain ⟨M7, e7, k7⟩ := go M6 6 (by decide) k6
  have L7 : z_Lay M7 := k7.1.lay hL
  have e7 : f_X9_become M6 65 14 = some M7 := e7
  obtain ⟨M8, e8, k8⟩ := go M7 7 (by decide) k7
  have L8 : z_Lay M8 := k8.1.lay hL
  have e8 : f_X9_become M7 67 16 = some M8 := e8
  obtain ⟨M9, e9, k9⟩ := go M8 8 (by decide) k8
  have L9 : z_Lay M9 := k9.1.lay hL
  have e9 : f_X9_become M8 69 18 = some M9 := e9
  obtain ⟨M10, e10, k10⟩ := go M9 9 (by decide) k9
  have L10 : z_Lay M10 := k10.1.lay hL
  have e10 : f_X9_become M9 71 20 = some M10 := e10
  obtain ⟨M11, e11, k11⟩ := go M10 10 (by decide) k10
  have L11 : z_Lay M11 := k11.1.lay hL
  have e11 : f_X9_become M10 73 22 = some M11 := e11
  obtain ⟨M12, e12, f12, o12, _, v12⟩ := zq_b123_1_52 4 0 q_fuel M11 (by omega) (by unfold q_fuel; omega) L11
  have L12 : z_Lay M12 := f12.lay L11
  obtain ⟨M13, e13, f13, o13, _, v13⟩ := zq_b161_1_52 52 0 q_fuel M12 (by omega) (by unfold q_fuel; omega) L12
  have L13 : z_Lay M13 := f13.lay L12
  have e12 : f_X5_become_b123 52 1 q_fuel (0 : Int32) M11 = f_X5_become_b161 52 1 q_fuel (0 : Int32) M12 := e12
  have e13 : f_X5_become_b161 52 1 q_fuel (0 : Int32) M12 = f_X5_become_b197 M13 52 1 := e13
  have L14 : z_Lay (q_sI M13 52 13 (q_I M13 1 13)) := L13
  have L15 : z_Lay (q_sI (q_sI M13 52 13 (q_I M13 1 13)) 52 14 (q_I M13 1 14)) := L13
  have r14 : q_I (q_sI M13 52 13 (q_I M13 1 13)) 1 14 = q_I M13 1 14 := by rw [z_I_sI, if_neg (by omega)]
  have r15 : q_I (q_sI (q_sI M13 52 13 (q_I M13 1 13)) 52 14 (q_I M13 1 14)) 1 15 = q_I M13 1 15 := by rw [z_I_sI, if_neg (by omega), z_I_sI, if_neg (by omega)]
  refine ⟨q_sI (q_sI (q_sI M13 52 13 (q_I M13 1 13)) 52 14 (q_I M13 1 14)) 52 15 (q_I M13 1 15), ?_, ?_⟩
  · simp only [f_X5_become, f_X5_become_b197, zob_52 hL, zo_52 hL, zo_1 hL, zo_52 L1, zo_1 L1, zo_52 L2, zo_1 L2, zo_52 L3, zo_1 L3, zo_52 L4, zo_1 L4, zo_52 L5, zo_1 L5, zo_52 L6, zo_1 L6, zo_52 L7, zo_1 L7, zo_52 L8, zo_1 L8, zo_52 L9, zo_1 L9, zo_52 L10, zo_1 L10, e1, e2, e3, e4, e5, e6, e7, e8, e9, e10, e11, Option.bind_some, e12, e13, zo_52 L13, zo_1 L13, zo_52 L14, zo_1 L14, zo_52 L15, zo_1 L15, r14, r15]
  · have oa : ∀ a, a ≠ 52 → a ≠ 75 → a ≠ 76 → q_I (q_sI (q_sI (q_sI M13 52 13 (q_I M13 1 13)) 52 14 (q_I M13 1 14)) 52 15 (q_I M13 1 15)) a = q_I M11 a := fun a h1 h2 h3 => by
      rw [q_sI_ne h1, q_sI_ne h1, q_sI_ne h1, o13 a h3, o12 a h2]
    have os : ∀ a, 1 ≤ a → a < 26 → q_I M13 a = q_I M0 a := fun a h1 h2 => by
      rw [o13 a (by omega), o12 a (by omega), k11.2.1 a (by omega)]
    refine ⟨k11.1.tr (f12.tr (f13.tr ⟨rfl, rfl, rfl⟩)), fun a ha => ?_, fun t ht => ?_, fun t ht => ?_, fun k hk => ?_, fun k hk => ?_, ?_, ?_, ?_⟩
    · rw [oa a (by omega) (by omega) (by omega)]; exact k11.2.1 a (by omega)
    · rw [oa _ (by omega) (by omega) (by omega)]; exact k11.2.2.1 t ht
    · rw [oa _ (by omega) (by omega) (by omega), oa _ (by omega) (by omega) (by omega)]; exact k11.2.2.2 t ht
    · rw [q_sI_ne (by decide), q_sI_ne (by decide), q_sI_ne (by decide), o13 _ (by decide)]
      refine (v12 k (Nat.zero_le _) hk).trans ?_
      rw [k11.2.1 _ (by omega)]
    · rw [q_sI_ne (by decide), q_sI_ne (by decide), q_sI_ne (by decide)]
      refine (v13 k (Nat.zero_le _) hk).trans ?_
      rw [o12 _ (by decide), k11.2.1 _ (by omega)]
    · rw [z_I_sI, if_neg (by omega), z_I_sI, if_neg (by omega), z_I_sI, if_pos ⟨rfl, rfl⟩, os _ (by omega) (by omega)]
    · rw [z_I_sI, if_neg (by omega), z_I_sI, if_pos ⟨rfl, rfl⟩, os _ (by omega) (by omega)]
    · rw [z_I_sI, if_pos ⟨rfl, rfl⟩, os _ (by omega) (by omega)]
theorem zq_b123_27_1 : ∀ (dd i fu : Nat) (M : q_Mem), i + dd = 4 → dd < fu → z_Lay M → ∃ M', f_X5_become_b123 1 27 fu (nI i) M = f_X5_become_b161 1 27 q_fuel (0 : Int32) M' ∧ z_FR M M' ∧ (∀ a, a ≠ 24 → q_I M' a = q_I M a) ∧ (∀ k, k < i → q_I M' 24 k = q_I M 24 k) ∧ ∀ k, i ≤ k → k < 4 → q_I M' 24 k = q_I M 50 k := by
  intro dd
  induction dd with
  | zero =>
    intro i fu M hd hf hL
    obtain ⟨g, rfl⟩ : ∃ g, fu = g + 1 := ⟨fu - 1, by omega⟩
    obtain rfl : i = 4 := by omega
    simp only [f_X5_become_b123.eq_2, zo_1 hL, (za_24 hL).1, Option.bind_some, show (nI 4 < nI 4) = False by decide, if_false]
    exact ⟨M, rfl, z_FR.rf, fun _ _ => rfl, fun _ _ => rfl, fun k x y => by omega⟩
  | succ dd ih =>
    intro i fu M hd hf hL
    obtain ⟨g, rfl⟩ : ∃ g, fu = g + 1 := ⟨fu - 1, by omega⟩
    have hn : (nI i < nI 4) = True := eq_true (nI_lt (by omega) (by omega))
    simp only [f_X5_become_b123.eq_2, zo_1 hL, zo_27 hL, (za_24 hL).1, (za_50 hL).1, (za_50 hL).2.1 i (show i < 4 by omega), (za_24 hL).2.2 i _ (show i < 4 by omega), Option.bind_some, hn, if_true, ← nI_succ]
    have hL2 : z_Lay (q_sI M 24 i (q_I M 50 i)) := hL
    obtain ⟨M', r, f, o, k1, k2⟩ := ih (i + 1) g _ (by omega) (by omega) hL2
    refine ⟨M', r, (show z_FR M (q_sI M 24 i (q_I M 50 i)) from z_FR.sI).tr f, fun a ha => by rw [o a ha, q_sI_ne ha], fun k hk => by rw [k1 k (by omega), z_I_sI, if_neg (by omega)], fun k x y => ?_⟩
    by_cases e : k = i
    · subst e
      rw [k1 k (by omega), z_I_sI, if_pos ⟨rfl, rfl⟩]
    · rw [k2 k (by omega) y, z_I_sI, if_neg (by omega)]
theorem zq_b161_27_1 : ∀ (dd i fu : Nat) (M : q_Mem), i + dd = 52 → dd < fu → z_Lay M → ∃ M', f_X5_become_b161 1 27 fu (nI i) M = f_X5_become_b197 M' 1 27 ∧ z_FR M M' ∧ (∀ a, a ≠ 25 → q_I M' a = q_I M a) ∧ (∀ k, k < i → q_I M' 25 k = q_I M 25 k) ∧ ∀ k, i ≤ k → k < 52 → q_I M' 25 k = q_I M 51 k := by
  intro dd
  induction dd with
  | zero =>
    intro i fu M hd hf hL
    obtain ⟨g, rfl⟩ : ∃ g, fu = g + 1 := ⟨fu - 1, by omega⟩
    obtain rfl : i = 52 := by omega
    simp only [f_X5_become_b161.eq_2, zo_1 hL, (za_25 hL).1, Option.bind_some, show (nI 52 < nI 52) = False by decide, if_false]
    exact ⟨M, rfl, z_FR.rf, fun _ _ => rfl, fun _ _ => rfl, fun k x y => by omega⟩
  | succ dd ih =>
    intro i fu M hd hf hL
    obtain ⟨g, rfl⟩ : ∃ g, fu = g + 1 := ⟨fu - 1, by omega⟩
    have hn : (nI i < nI 52) = True := eq_true (nI_lt (by omega) (by omega))
    simp only [f_X5_become_b161.eq_2, zo_1 hL, zo_27 hL, (za_25 hL).1, (za_51 hL).1, (za_51 hL).2.1 i (show i < 52 by omega), (za_25 hL).2.2 i _ (show i < 52 by omega), Option.bind_some, hn, if_true, ← nI_succ]
    have hL2 : z_Lay (q_sI M 25 i (q_I M 51 i)) := hL
    obtain ⟨M', r, f, o, k1, k2⟩ := ih (i + 1) g _ (by omega) (by omega) hL2
    refine ⟨M', r, (show z_FR M (q_sI M 25 i (q_I M 51 i)) from z_FR.sI).tr f, fun a ha => by rw [o a ha, q_sI_ne ha], fun k hk => by rw [k1 k (by omega), z_I_sI, if_neg (by omega)], fun k x y => ?_⟩
    by_cases e : k = i
    · subst e
      rw [k1 k (by omega), z_I_sI, if_pos ⟨rfl, rfl⟩]
    · rw [k2 k (by omega) y, z_I_sI, if_neg (by omega)]
theorem zs_become_27_1 {M0 : q_Mem} {st : Nat → Int32} (hL : z_Lay M0) (hRs : z_RC 27 (q_I M0)) (hRd : z_RC 1 (q_I M0)) (hs : z_hs 27 (q_I M0) st) : ∃ M, f_X5_become M0 1 27 = some M ∧ z_cp M0 M 27 1 st := by
  have k0 : z_bk M0 M0 27 1 0 st := ⟨z_FR.rf, fun _ _ => rfl, hRd, fun t ht => absurd ht (Nat.not_lt_zero _)⟩
  have go : ∀ M n, n < 11 → z_bk M0 M 27 1 n st → ∃ M', f_X9_become M (1 + 1 + 2 * n) (27 + 1 + 2 * n) = some M' ∧ z_bk M0 M' 27 1 (n + 1) st := fun M n hn k =>
    k.step hn (by omega) hs (z_rows27 (k.1.lay hL) (hRs.cong (fun a x y => k.2.1 a (by omega))) n hn) (z_rows1 (k.1.lay hL) k.2.2.1 n hn)
  obtain ⟨M1, e1, k1⟩ := go M0 0 (by decide) k0
  have L1 : z_Lay M1 := k1.1.lay hL
  have e1 : f_X9_become M0 2 28 = some M1 := e1
  obtain ⟨M2, e2, k2⟩ := go M1 1 (by decide) k1
  have L2 : z_Lay M2 := k2.1.lay hL
  have e2 : f_X9_become M1 4 30 = some M2 := e2
  obtain ⟨M3, e3, k3⟩ := go M2 2 (by decide) k2
  have L3 : z_Lay M3 := k3.1.lay hL
  have e3 : f_X9_become M2 6 32 = some M3 := e3
  obtain ⟨M4, e4, k4⟩ := go M3 3 (by decide) k3
  have L4 : z_Lay M4 := k4.1.lay hL
  have e4 : f_X9_become M3 8 34 = some M4 := e4
  obtain ⟨M5, e5, k5⟩ := go M4 4 (by decide) k4
  have L5 : z_Lay M5 := k5.1.lay hL
  have e5 : f_X9_become M4 10 36 = some M5 := e5
  obtain ⟨M6, e6, k6⟩ := go M5 5 (by decide) k5
  have L6 : z_Lay M6 := k6.1.lay hL
  have e6 : f_X9_become M5 12 38 = some M6 := e6
  obtain ⟨M7, e7, k7⟩ := go M6 6 (by decide) k6
  have L7 : z_Lay M7 := k7.1.lay hL
  have e7 : f_X9_become M6 14 40 = some M7 := e7
  obtain ⟨M8, e8, k8⟩ := go M7 7 (by decide) k7
  have L8 : z_Lay M8 := k8.1.lay hL
  have e8 : f_X9_become M7 16 42 = some M8 := e8
  obtain ⟨M9, e9, k9⟩ := go M8 8 (by decide) k8
  have L9 : z_Lay M9 := k9.1.lay hL
  have e9 : f_X9_become M8 18 44 = some M9 := e9
  obtain ⟨M10, e10, k10⟩ := go M9 9 (by decide) k9
  have L10 : z_Lay M10 := k10.1.lay hL
  have e10 : f_X9_become M9 20 46 = some M10 := e10
  obtain ⟨M11, e11, k11⟩ := go M10 10 (by decide) k10
  have L11 : z_Lay M11 := k11.1.lay hL
  have e11 : f_X9_become M10 22 48 = some M11 := e11
  obtain ⟨M12, e12, f12, o12, _, v12⟩ := zq_b123_27_1 4 0 q_fuel M11 (by omega) (by unfold q_fuel; omega) L11
  have L12 : z_Lay M12 := f12.lay L11
  obtain ⟨M13, e13, f13, o13, _, v13⟩ := zq_b161_27_1 52 0 q_fuel M12 (by omega) (by unfold q_fuel; omega) L12
  have L13 : z_Lay M13 := f13.lay L12
  have e12 : f_X5_become_b123 1 27 q_fuel (0 : Int32) M11 = f_X5_become_b161 1 27 q_fuel (0 : Int32) M12 := e12
  have e13 : f_X5_become_b161 1 27 q_fuel (0 : Int32) M12 = f_X5_become_b197 M13 1 27 := e13
  have L14 : z_Lay (q_sI M13 1 13 (q_I M13 27 13)) := L13
  have L15 : z_Lay (q_sI (q_sI M13 1 13 (q_I M13 27 13)) 1 14 (q_I M13 27 14)) := L13
  have r14 : q_I (q_sI M13 1 13 (q_I M13 27 13)) 27 14 = q_I M13 27 14 := by rw [z_I_sI, if_neg (by omega)]
  have r15 : q_I (q_sI (q_sI M13 1 13 (q_I M13 27 13)) 1 14 (q_I M13 27 14)) 27 15 = q_I M13 27 15 := by rw [z_I_sI, if_neg (by omega), z_I_sI, if_neg (by omega)]
  refine ⟨q_sI (q_sI (q_sI M13 1 13 (q_I M13 27 13)) 1 14 (q_I M13 27 14)) 1 15 (q_I M13 27 15), ?_, ?_⟩
  · simp only [f_X5_become, f_X5_become_b197, zob_1 hL, zo_1 hL, zo_27 hL, zo_1 L1, zo_27 L1, zo_1 L2, zo_27 L2, zo_1 L3, zo_27 L3, zo_1 L4, zo_27 L4, zo_1 L5, zo_27 L5, zo_1 L6, zo_27 L6, zo_1 L7, zo_27 L7, zo_1 L8, zo_27 L8, zo_1 L9, zo_27 L9, zo_1 L10, zo_27 L10, e1, e2, e3, e4, e5, e6, e7, e8, e9, e10, e11, Option.bind_some, e12, e13, zo_1 L13, zo_27 L13, zo_1 L14, zo_27 L14, zo_1 L15, zo_27 L15, r14, r15]
  · have oa : ∀ a, a ≠ 1 → a ≠ 24 → a ≠ 25 → q_I (q_sI (q_sI (q_sI M13 1 13 (q_I M13 27 13)) 1 14 (q_I M13 27 14)) 1 15 (q_I M13 27 15)) a = q_I M11 a := fun a h1 h2 h3 => by
      rw [q_sI_ne h1, q_sI_ne h1, q_sI_ne h1, o13 a h3, o12 a h2]
    have os : ∀ a, 27 ≤ a → a < 52 → q_I M13 a = q_I M0 a := fun a h1 h2 => by
      rw [o13 a (by omega), o12 a (by omega), k11.2.1 a (by omega)]
    refine ⟨k11.1.tr (f12.tr (f13.tr ⟨rfl, rfl, rfl⟩)), fun a ha => ?_, fun t ht => ?_, fun t ht => ?_, fun k hk => ?_, fun k hk => ?_, ?_, ?_, ?_⟩
    · rw [oa a (by omega) (by omega) (by omega)]; exact k11.2.1 a (by omega)
    · rw [oa _ (by omega) (by omega) (by omega)]; exact k11.2.2.1 t ht
    · rw [oa _ (by omega) (by omega) (by omega), oa _ (by omega) (by omega) (by omega)]; exact k11.2.2.2 t ht
    · rw [q_sI_ne (by decide), q_sI_ne (by decide), q_sI_ne (by decide), o13 _ (by decide)]
      refine (v12 k (Nat.zero_le _) hk).trans ?_
      rw [k11.2.1 _ (by omega)]
    · rw [q_sI_ne (by decide), q_sI_ne (by decide), q_sI_ne (by decide)]
      refine (v13 k (Nat.zero_le _) hk).trans ?_
      rw [o12 _ (by decide), k11.2.1 _ (by omega)]
    · rw [z_I_sI, if_neg (by omega), z_I_sI, if_neg (by omega), z_I_sI, if_pos ⟨rfl, rfl⟩, os _ (by omega) (by omega)]
    · rw [z_I_sI, if_neg (by omega), z_I_sI, if_pos ⟨rfl, rfl⟩, os _ (by omega) (by omega)]
    · rw [z_I_sI, if_pos ⟨rfl, rfl⟩, os _ (by omega) (by omega)]
theorem zq_b123_52_1 : ∀ (dd i fu : Nat) (M : q_Mem), i + dd = 4 → dd < fu → z_Lay M → ∃ M', f_X5_become_b123 1 52 fu (nI i) M = f_X5_become_b161 1 52 q_fuel (0 : Int32) M' ∧ z_FR M M' ∧ (∀ a, a ≠ 24 → q_I M' a = q_I M a) ∧ (∀ k, k < i → q_I M' 24 k = q_I M 24 k) ∧ ∀ k, i ≤ k → k < 4 → q_I M' 24 k = q_I M 75 k := by
  intro dd
  induction dd with
  | zero =>
    intro i fu M hd hf hL
    obtain ⟨g, rfl⟩ : ∃ g, fu = g + 1 := ⟨fu - 1, by omega⟩
    obtain rfl : i = 4 := by omega
    simp only [f_X5_become_b123.eq_2, zo_1 hL, (za_24 hL).1, Option.bind_some, show (nI 4 < nI 4) = False by decide, if_false]
    exact ⟨M, rfl, z_FR.rf, fun _ _ => rfl, fun _ _ => rfl, fun k x y => by omega⟩
  | succ dd ih =>
    intro i fu M hd hf hL
    obtain ⟨g, rfl⟩ : ∃ g, fu = g + 1 := ⟨fu - 1, by omega⟩
    have hn : (nI i < nI 4) = True := eq_true (nI_lt (by omega) (by omega))
    simp only [f_X5_become_b123.eq_2, zo_1 hL, zo_52 hL, (za_24 hL).1, (za_75 hL).1, (za_75 hL).2.1 i (show i < 4 by omega), (za_24 hL).2.2 i _ (show i < 4 by omega), Option.bind_some, hn, if_true, ← nI_succ]
    have hL2 : z_Lay (q_sI M 24 i (q_I M 75 i)) := hL
    obtain ⟨M', r, f, o, k1, k2⟩ := ih (i + 1) g _ (by omega) (by omega) hL2
    refine ⟨M', r, (show z_FR M (q_sI M 24 i (q_I M 75 i)) from z_FR.sI).tr f, fun a ha => by rw [o a ha, q_sI_ne ha], fun k hk => by rw [k1 k (by omega), z_I_sI, if_neg (by omega)], fun k x y => ?_⟩
    by_cases e : k = i
    · subst e
      rw [k1 k (by omega), z_I_sI, if_pos ⟨rfl, rfl⟩]
    · rw [k2 k (by omega) y, z_I_sI, if_neg (by omega)]
theorem zq_b161_52_1 : ∀ (dd i fu : Nat) (M : q_Mem), i + dd = 52 → dd < fu → z_Lay M → ∃ M', f_X5_become_b161 1 52 fu (nI i) M = f_X5_become_b197 M' 1 52 ∧ z_FR M M' ∧ (∀ a, a ≠ 25 → q_I M' a = q_I M a) ∧ (∀ k, k < i → q_I M' 25 k = q_I M 25 k) ∧ ∀ k, i ≤ k → k < 52 → q_I M' 25 k = q_I M 76 k := by
  intro dd
  induction dd with
  | zero =>
    intro i fu M hd hf hL
    obtain ⟨g, rfl⟩ : ∃ g, fu = g + 1 := ⟨fu - 1, by omega⟩
    obtain rfl : i = 52 := by omega
    simp only [f_X5_become_b161.eq_2, zo_1 hL, (za_25 hL).1, Option.bind_some, show (nI 52 < nI 52) = False by decide, if_false]
    exact ⟨M, rfl, z_FR.rf, fun _ _ => rfl, fun _ _ => rfl, fun k x y => by omega⟩
  | succ dd ih =>
    intro i fu M hd hf hL
    obtain ⟨g, rfl⟩ : ∃ g, fu = g + 1 := ⟨fu - 1, by omega⟩
    have hn : (nI i < nI 52) = True := eq_true (nI_lt (by omega) (by omega))
    simp only [f_X5_become_b161.eq_2, zo_1 hL, zo_52 hL, (za_25 hL).1, (za_76 hL).1, (za_76 hL).2.1 i (show i < 52 by omega), (za_25 hL).2.2 i _ (show i < 52 by omega), Option.bind_some, hn, if_true, ← nI_succ]
    have hL2 : z_Lay (q_sI M 25 i (q_I M 76 i)) := hL
    obtain ⟨M', r, f, o, k1, k2⟩ := ih (i + 1) g _ (by omega) (by omega) hL2
    refine ⟨M', r, (show z_FR M (q_sI M 25 i (q_I M 76 i)) from z_FR.sI).tr f, fun a ha => by rw [o a ha, q_sI_ne ha], fun k hk => by rw [k1 k (by omega), z_I_sI, if_neg (by omega)], fun k x y => ?_⟩
    by_cases e : k = i
    · subst e
      rw [k1 k (by omega), z_I_sI, if_pos ⟨rfl, rfl⟩]
    · rw [k2 k (by omega) y, z_I_sI, if_neg (by omega)]
theorem zs_become_52_1 {M0 : q_Mem} {st : Nat → Int32} (hL : z_Lay M0) (hRs : z_RC 52 (q_I M0)) (hRd : z_RC 1 (q_I M0)) (hs : z_hs 52 (q_I M0) st) : ∃ M, f_X5_become M0 1 52 = some M ∧ z_cp M0 M 52 1 st := by
  have k0 : z_bk M0 M0 52 1 0 st := ⟨z_FR.rf, fun _ _ => rfl, hRd, fun t ht => absurd ht (Nat.not_lt_zero _)⟩
  have go : ∀ M n, n < 11 → z_bk M0 M 52 1 n st → ∃ M', f_X9_become M (1 + 1 + 2 * n) (52 + 1 + 2 * n) = some M' ∧ z_bk M0 M' 52 1 (n + 1) st := fun M n hn k =>
    k.step hn (by omega) hs (z_rows52 (k.1.lay hL) (hRs.cong (fun a x y => k.2.1 a (by omega))) n hn) (z_rows1 (k.1.lay hL) k.2.2.1 n hn)
  obtain ⟨M1, e1, k1⟩ := go M0 0 (by decide) k0
  have L1 : z_Lay M1 := k1.1.lay hL
  have e1 : f_X9_become M0 2 53 = some M1 := e1
  obtain ⟨M2, e2, k2⟩ := go M1 1 (by decide) k1
  have L2 : z_Lay M2 := k2.1.lay hL
  have e2 : f_X9_become M1 4 55 = some M2 := e2
  obtain ⟨M3, e3, k3⟩ := go M2 2 (by decide) k2
  have L3 : z_Lay M3 := k3.1.lay hL
  have e3 : f_X9_become M2 6 57 = some M3 := e3
  obtain ⟨M4, e4, k4⟩ := go M3 3 (by decide) k3
  have L4 : z_Lay M4 := k4.1.lay hL
  have e4 : f_X9_become M3 8 59 = some M4 := e4
  obtain ⟨M5, e5, k5⟩ := go M4 4 (by decide) k4
  have L5 : z_Lay M5 := k5.1.lay hL
  have e5 : f_X9_become M4 10 61 = some M5 := e5
  obtain ⟨M6, e6, k6⟩ := go M5 5 (by decide) k5
  have L6 : z_Lay M6 := k6.1.lay hL
  have e6 : f_X9_become M5 12 63 = some M6 := e6
  obtain ⟨M7, e7, k7⟩ := go M6 6 (by decide) k6
  have L7 : z_Lay M7 := k7.1.lay hL
  have e7 : f_X9_become M6 14 65 = some M7 := e7
  obtain ⟨M8, e8, k8⟩ := go M7 7 (by decide) k7
  have L8 : z_Lay M8 := k8.1.lay hL
  have e8 : f_X9_become M7 16 67 = some M8 := e8
  obtain ⟨M9, e9, k9⟩ := go M8 8 (by decide) k8
  have L9 : z_Lay M9 := k9.1.lay hL
  have e9 : f_X9_become M8 18 69 = some M9 := e9
  obtain ⟨M10, e10, k10⟩ := go M9 9 (by decide) k9
  have L10 : z_Lay M10 := k10.1.lay hL
  have e10 : f_X9_become M9 20 71 = some M10 := e10
  obtain ⟨M11, e11, k11⟩ := go M10 10 (by decide) k10
  have L11 : z_Lay M11 := k11.1.lay hL
  have e11 : f_X9_become M10 22 73 = some M11 := e11
  obtain ⟨M12, e12, f12, o12, _, v12⟩ := zq_b123_52_1 4 0 q_fuel M11 (by omega) (by unfold q_fuel; omega) L11
  have L12 : z_Lay M12 := f12.lay L11
  obtain ⟨M13, e13, f13, o13, _, v13⟩ := zq_b161_52_1 52 0 q_fuel M12 (by omega) (by unfold q_fuel; omega) L12
  have L13 : z_Lay M13 := f13.lay L12
  have e12 : f_X5_become_b123 1 52 q_fuel (0 : Int32) M11 = f_X5_become_b161 1 52 q_fuel (0 : Int32) M12 := e12
  have e13 : f_X5_become_b161 1 52 q_fuel (0 : Int32) M12 = f_X5_become_b197 M13 1 52 := e13
  have L14 : z_Lay (q_sI M13 1 13 (q_I M13 52 13)) := L13
  have L15 : z_Lay (q_sI (q_sI M13 1 13 (q_I M13 52 13)) 1 14 (q_I M13 52 14)) := L13
  have r14 : q_I (q_sI M13 1 13 (q_I M13 52 13)) 52 14 = q_I M13 52 14 := by rw [z_I_sI, if_neg (by omega)]
  have r15 : q_I (q_sI (q_sI M13 1 13 (q_I M13 52 13)) 1 14 (q_I M13 52 14)) 52 15 = q_I M13 52 15 := by rw [z_I_sI, if_neg (by omega), z_I_sI, if_neg (by omega)]
  refine ⟨q_sI (q_sI (q_sI M13 1 13 (q_I M13 52 13)) 1 14 (q_I M13 52 14)) 1 15 (q_I M13 52 15), ?_, ?_⟩
  · simp only [f_X5_become, f_X5_become_b197, zob_1 hL, zo_1 hL, zo_52 hL, zo_1 L1, zo_52 L1, zo_1 L2, zo_52 L2, zo_1 L3, zo_52 L3, zo_1 L4, zo_52 L4, zo_1 L5, zo_52 L5, zo_1 L6, zo_52 L6, zo_1 L7, zo_52 L7, zo_1 L8, zo_52 L8, zo_1 L9, zo_52 L9, zo_1 L10, zo_52 L10, e1, e2, e3, e4, e5, e6, e7, e8, e9, e10, e11, Option.bind_some, e12, e13, zo_1 L13, zo_52 L13, zo_1 L14, zo_52 L14, zo_1 L15, zo_52 L15, r14, r15]
  · have oa : ∀ a, a ≠ 1 → a ≠ 24 → a ≠ 25 → q_I (q_sI (q_sI (q_sI M13 1 13 (q_I M13 52 13)) 1 14 (q_I M13 52 14)) 1 15 (q_I M13 52 15)) a = q_I M11 a := fun a h1 h2 h3 => by
      rw [q_sI_ne h1, q_sI_ne h1, q_sI_ne h1, o13 a h3, o12 a h2]
    have os : ∀ a, 52 ≤ a → a < 77 → q_I M13 a = q_I M0 a := fun a h1 h2 => by
      rw [o13 a (by omega), o12 a (by omega), k11.2.1 a (by omega)]
    refine ⟨k11.1.tr (f12.tr (f13.tr ⟨rfl, rfl, rfl⟩)), fun a ha => ?_, fun t ht => ?_, fun t ht => ?_, fun k hk => ?_, fun k hk => ?_, ?_, ?_, ?_⟩
    · rw [oa a (by omega) (by omega) (by omega)]; exact k11.2.1 a (by omega)
    · rw [oa _ (by omega) (by omega) (by omega)]; exact k11.2.2.1 t ht
    · rw [oa _ (by omega) (by omega) (by omega), oa _ (by omega) (by omega) (by omega)]; exact k11.2.2.2 t ht
    · rw [q_sI_ne (by decide), q_sI_ne (by decide), q_sI_ne (by decide), o13 _ (by decide)]
      refine (v12 k (Nat.zero_le _) hk).trans ?_
      rw [k11.2.1 _ (by omega)]
    · rw [q_sI_ne (by decide), q_sI_ne (by decide), q_sI_ne (by decide)]
      refine (v13 k (Nat.zero_le _) hk).trans ?_
      rw [o12 _ (by decide), k11.2.1 _ (by omega)]
    · rw [z_I_sI, if_neg (by omega), z_I_sI, if_neg (by omega), z_I_sI, if_pos ⟨rfl, rfl⟩, os _ (by omega) (by omega)]
    · rw [z_I_sI, if_neg (by omega), z_I_sI, if_pos ⟨rfl, rfl⟩, os _ (by omega) (by omega)]
    · rw [z_I_sI, if_pos ⟨rfl, rfl⟩, os _ (by omega) (by omega)]
theorem zq_image {e : Nat} (he : e < 2) : ∀ (dd k fu : Nat) (M : q_Mem), k + dd = 4764 → dd < fu → z_Lay M → ∃ M', f_X12_image_b21 108 (nI e) fu (nI k) M = some ((1 : Int32), M') ∧ z_FR M M' ∧ (∀ a, a ≠ 110 → q_I M' a = q_I M a) ∧ ∀ j, q_I M' 110 j = if 4764 * e + k ≤ j ∧ j < 4764 * e + 4764 then q_I M 109 (j - 4764 * e) else q_I M 110 j := by
  intro dd
  induction dd with
  | zero =>
    intro k fu M hd hf hL
    obtain ⟨g, rfl⟩ : ∃ g, fu = g + 1 := ⟨fu - 1, by omega⟩
    obtain rfl : k = 4764 := by omega
    simp only [f_X12_image_b21.eq_2, show (nI 4764 < (4764 : Int32)) = False by decide, if_false]
    exact ⟨M, rfl, z_FR.rf, fun _ _ => rfl, fun j => by rw [if_neg (by omega)]⟩
  | succ dd ih =>
    intro k fu M hd hf hL
    obtain ⟨g, rfl⟩ : ∃ g, fu = g + 1 := ⟨fu - 1, by omega⟩
    have hn : (nI k < (4764 : Int32)) = True := eq_true (nI_lt (b := 4764) (by omega) (by omega))
    have ix : (4764 : Int32) * nI e + nI k = nI (4764 * e + k) := by rw [show (4764 : Int32) = nI 4764 from rfl, pk_mul, nI_add]
    simp only [f_X12_image_b21.eq_2, zo_108 hL, z_st_lit hL (show k < 4764 by omega), ix, (za_110 hL).2.2 (4764 * e + k) _ (show 4764 * e + k < 9528 by omega), Option.bind_some, hn, if_true, ← nI_succ]
    have hL2 : z_Lay (q_sI M 110 (4764 * e + k) (q_I M 109 k)) := hL
    obtain ⟨M', r, f, oo, v⟩ := ih (k + 1) g _ (by omega) (by omega) hL2
    refine ⟨M', r, (show z_FR M (q_sI M 110 (4764 * e + k) (q_I M 109 k)) from z_FR.sI).tr f, fun a ha => by rw [oo a ha, q_sI_ne ha], fun j => ?_⟩
    rw [v j, z_I_sI, z_I_sI]
    by_cases c : j = 4764 * e + k
    · subst c
      rw [if_neg (by omega), if_pos ⟨rfl, rfl⟩, if_pos (by omega), show 4764 * e + k - 4764 * e = k by omega]
    · rw [if_neg (show ¬ (109 = 110 ∧ j - 4764 * e = 4764 * e + k) by omega), if_neg (show ¬ (110 = 110 ∧ j = 4764 * e + k) by omega)]
      by_cases c2 : 4764 * e + (k + 1) ≤ j ∧ j < 4764 * e + 4764
      · rw [if_pos c2, if_pos (by omega)]
      · rw [if_neg c2, if_neg (by omega)]
theorem zq_from {e : Nat} (he : e < 2) : ∀ (dd k fu : Nat) (M : q_Mem), k + dd = 4764 → dd < fu → z_Lay M → ∃ M', f_X12_from_b26 108 (nI e) fu (nI k) M = some ((1 : Int32), M') ∧ z_FR M M' ∧ (∀ a, a ≠ 109 → q_I M' a = q_I M a) ∧ (∀ j, j < k → q_I M' 109 j = q_I M 109 j) ∧ ∀ j, k ≤ j → j < 4764 → q_I M' 109 j = q_I M 110 (4764 * e + j) := by
  intro dd
  induction dd with
  | zero =>
    intro k fu M hd hf hL
    obtain ⟨g, rfl⟩ : ∃ g, fu = g + 1 := ⟨fu - 1, by omega⟩
    obtain rfl : k = 4764 := by omega
    simp only [f_X12_from_b26.eq_2, show (nI 4764 < (4764 : Int32)) = False by decide, if_false]
    exact ⟨M, rfl, z_FR.rf, fun _ _ => rfl, fun _ _ => rfl, fun j x y => by omega⟩
  | succ dd ih =>
    intro k fu M hd hf hL
    obtain ⟨g, rfl⟩ : ∃ g, fu = g + 1 := ⟨fu - 1, by omega⟩
    have hn : (nI k < (4764 : Int32)) = True := eq_true (nI_lt (b := 4764) (by omega) (by omega))
    have ix : (4764 : Int32) * nI e + nI k = nI (4764 * e + k) := by rw [show (4764 : Int32) = nI 4764 from rfl, pk_mul, nI_add]
    simp only [f_X12_from_b26.eq_2, zo_108 hL, z_st_put hL (show k < 4764 by omega), ix, (za_110 hL).2.1 (4764 * e + k) (show 4764 * e + k < 9528 by omega), Option.bind_some, hn, if_true, ← nI_succ]
    have hL2 : z_Lay (q_sI M 109 k (q_I M 110 (4764 * e + k))) := hL
    obtain ⟨M', r, f, oo, k1, v⟩ := ih (k + 1) g _ (by omega) (by omega) hL2
    refine ⟨M', r, (show z_FR M (q_sI M 109 k (q_I M 110 (4764 * e + k))) from z_FR.sI).tr f, fun a ha => by rw [oo a ha, q_sI_ne ha], fun j hj => by rw [k1 j (by omega), z_I_sI, if_neg (by omega)], fun j x y => ?_⟩
    by_cases c : j = k
    · subst c
      rw [k1 j (by omega), z_I_sI, if_pos ⟨rfl, rfl⟩]
    · rw [v j (by omega) y, z_I_sI, if_neg (by omega)]
theorem z_img_same {M M' : q_Mem} {e : Nat} (he : e < 2) (h : z_hs (27 + 25 * e) (q_I M) (z_img M e)) (hI : ∀ a, 27 + 25 * e ≤ a → a < 27 + 25 * e + 25 → q_I M' a = q_I M a) (hk : ∀ k, k < 4764 → z_img M' e k = z_img M e k) : z_hs (27 + 25 * e) (q_I M') (z_img M' e) := by
  refine z_hs_copy h hk (fun t ht => ?_) (fun k hk => by rw [hI _ (by omega) (by omega)]) (fun k hk => by rw [hI _ (by omega) (by omega)]) (by rw [hI _ (by omega) (by omega)]) (by rw [hI _ (by omega) (by omega)]) (by rw [hI _ (by omega) (by omega)])
  rw [hI _ (by omega) (by omega), hI _ (by omega) (by omega)]
  exact ⟨(h.1 t ht).1, fun _ _ => rfl⟩
theorem zs_image {M : q_Mem} (hi : z_Inv M) {e : Nat} (he : e < 2) : ∃ M1, f_X5_become M (27 + 25 * e) 1 = some M1 ∧ z_cp M M1 1 (27 + 25 * e) (q_I M 109) := by
  have e2 : e = 0 ∨ e = 1 := by omega
  rcases e2 with rfl | rfl
  · exact zs_become_1_27 hi.1 hi.2.1 hi.2.2.1 hi.2.2.2.2.1
  · exact zs_become_1_52 hi.1 hi.2.1 hi.2.2.2.1 hi.2.2.2.2.1
theorem zs_from {M : q_Mem} (hi : z_Inv M) {e : Nat} (he : e < 2) (h : z_hs (27 + 25 * e) (q_I M) (z_img M e)) : ∃ M1, f_X5_become M 1 (27 + 25 * e) = some M1 ∧ z_cp M M1 (27 + 25 * e) 1 (z_img M e) := by
  have e2 : e = 0 ∨ e = 1 := by omega
  rcases e2 with rfl | rfl
  · exact zs_become_27_1 hi.1 hi.2.2.1 hi.2.1 h
  · exact zs_become_52_1 hi.1 hi.2.2.2.1 hi.2.1 h
theorem z_c_img {M : q_Mem} (hL : z_Lay M) {e : Nat} (he : e < 2) : q_lR M 26 (nI e) = some (27 + 25 * e) := by
  have e2 : e = 0 ∨ e = 1 := by omega
  rcases e2 with rfl | rfl
  · exact (za_26 hL).2.1
  · exact (za_26 hL).2.2
theorem Z_image_ok : Z_image := by
  intro M p1 hi
  have hL := hi.1
  by_cases g0 : (0 : Int32).toInt ≤ p1.toInt ∧ p1.toInt ≤ (1 : Int32).toInt
  · have e0 : (0 : Int32).toInt = 0 := rfl
    have e1 : (1 : Int32).toInt = 1 := rfl
    obtain ⟨e, he, rfl⟩ : ∃ e, e < 2 ∧ p1 = nI e := z_of (n := 2) ⟨by omega, by omega⟩ (by decide)
    have c0 : (nI e < 0) = False := eq_false (nI_pos (by omega))
    have c1 : (nI e < nI 2) = True := eq_true (nI_lt he (by decide))
    obtain ⟨Ma, ra, ca⟩ := zs_image hi he
    have La : z_Lay Ma := ca.1.lay hL
    have Lb : z_Lay (q_sI Ma 77 e 1) := La
    have Lc : z_Lay (q_sI (q_sI Ma 77 e 1) 111 e 1) := La
    obtain ⟨Md, rd, fd, od, vd⟩ := zq_image he 4764 0 q_fuel (q_sI (q_sI Ma 77 e 1) 111 e 1) (by omega) (by unfold q_fuel; omega) Lc
    have rd' : f_X12_image_b21 108 (nI e) q_fuel (0 : Int32) (q_sI (q_sI Ma 77 e 1) 111 e 1) = some ((1 : Int32), Md) := rd
    refine ⟨1, q_sI Ma 77 e 1, Md, ?_, ?_, ?_⟩
    · simp only [f_X11_image, zob_0 hL, zo_0 hL, (za_26 hL).1, (za_77 hL).1, c0, c1, if_false, if_true, Option.bind_some, z_c_img hL he, ra, zo_0 La, (za_77 La).2.2 e 1 he (Or.inr rfl)]
    · simp only [f_X12_image, zob_108 Lb, zo_108 Lb, z_m_in, Option.bind_some, z_b0, g0, and_self, if_true, (za_111 Lb).2.2 e 1 he (Or.inr rfl), rd']
    · have oo : ∀ a, a ≠ 77 → a ≠ 110 → a ≠ 111 → (a < 27 + 25 * e ∨ 27 + 25 * e + 25 ≤ a) → q_I Md a = q_I M a := fun a h1 h2 h3 h4 => by
        rw [od a h2, q_sI_ne h3, q_sI_ne h1, ca.2.1 a h4]
      have o9 : q_I Md 109 = q_I M 109 := oo 109 (by decide) (by decide) (by decide) (by omega)
      have oh : ∀ a, a ≠ 77 → a ≠ 110 → a ≠ 111 → q_I Md a = q_I Ma a := fun a h1 h2 h3 => by
        rw [od a h2, q_sI_ne h3, q_sI_ne h1]
      have c9 : q_I (q_sI (q_sI Ma 77 e 1) 111 e 1) 109 = q_I M 109 := by
        rw [q_sI_ne (by decide), q_sI_ne (by decide), ca.2.1 109 (by omega)]
      have c110 : q_I (q_sI (q_sI Ma 77 e 1) 111 e 1) 110 = q_I M 110 := by
        rw [q_sI_ne (by decide), q_sI_ne (by decide), ca.2.1 110 (by omega)]
      have o77 : ∀ k, q_I Md 77 k = if k = e then 1 else q_I M 77 k := fun k => by
        rw [od 77 (by decide), q_sI_ne (by decide), z_I_sI, ca.2.1 77 (by omega)]
        by_cases c : k = e
        · rw [if_pos ⟨rfl, c⟩, if_pos c]
        · rw [if_neg (fun z => c z.2), if_neg c]
      have o111 : ∀ k, q_I Md 111 k = if k = e then 1 else q_I M 111 k := fun k => by
        rw [od 111 (by decide), z_I_sI, q_sI_ne (by decide), ca.2.1 111 (by omega)]
        by_cases c : k = e
        · rw [if_pos ⟨rfl, c⟩, if_pos c]
        · rw [if_neg (fun z => c z.2), if_neg c]
      have rcN : z_RC (27 + 25 * e) (q_I Md) := ca.2.2.1.cong (fun a x y => oh a (by omega) (by omega) (by omega))
      have e2 : e = 0 ∨ e = 1 := by omega
      have zf : z_FR M Md := ((ca.1.tr (z_FR.sI (by decide))).tr (z_FR.sI (by decide))).tr fd
      refine ⟨fd.lay Lc, hi.2.1.cong (fun a x y => oo a (by omega) (by omega) (by omega) (by omega)), ?_, ?_, ?_, fun e' he' => ?_, zf.zc hi.2.2.2.2.2.2⟩
      · rcases e2 with rfl | rfl
        · exact rcN
        · exact hi.2.2.1.cong (fun a x y => oo a (by omega) (by omega) (by omega) (by omega))
      · rcases e2 with rfl | rfl
        · exact hi.2.2.2.1.cong (fun a x y => oo a (by omega) (by omega) (by omega) (by omega))
        · exact rcN
      · rw [o9]
        exact hi.2.2.2.2.1.cong (fun a x y => oo a (by omega) (by omega) (by omega) (by omega))
      · rw [o77, o111]
        by_cases c : e' = e
        · subst c
          rw [if_pos rfl, if_pos rfl]
          refine ⟨rfl, Or.inr ⟨rfl, ?_⟩⟩
          have hh : z_hs (27 + 25 * e') (q_I Ma) (z_img Md e') := ca.hs hi.2.2.2.2.1 (fun k hk => by
            show q_I Md 110 (4764 * e' + k) = q_I M 109 k
            rw [vd, if_pos (by omega), c9, show 4764 * e' + k - 4764 * e' = k by omega])
          exact hh.cong (fun a x y => oh a (by omega) (by omega) (by omega))
        · rw [if_neg c, if_neg c]
          obtain ⟨g1, g2⟩ := hi.2.2.2.2.2.1 e' he'
          refine ⟨g1, g2.imp id (fun g => ⟨g.1, ?_⟩)⟩
          refine z_img_same he' g.2 (fun a x y => oo a (by omega) (by omega) (by omega) (by omega)) (fun k hk => ?_)
          show q_I Md 110 (4764 * e' + k) = q_I M 110 (4764 * e' + k)
          rw [vd, if_neg (by omega), c110]
  · refine ⟨-2, M, M, ?_, ?_, hi⟩
    · have e0 : (0 : Int32).toInt = 0 := rfl
      have e1 : (1 : Int32).toInt = 1 := rfl
      by_cases c : p1 < 0
      · simp only [f_X11_image, zob_0 hL, c, if_true]
      · have c2 : (p1 < nI 2) = False := by
          refine eq_false (fun z => ?_)
          have h1 := (q_lt_iff _ _).mp z
          have h2 : ¬ p1.toInt < (0 : Int32).toInt := fun y => c ((q_lt_iff _ _).mpr y)
          rw [nI_toInt (by decide)] at h1
          omega
        simp only [f_X11_image, zob_0 hL, zo_0 hL, (za_26 hL).1, (za_77 hL).1, c, c2, if_false, Option.bind_some]
    · simp only [f_X12_image, zob_108 hL, zo_108 hL, z_m_in, Option.bind_some, z_b0, g0, if_false]
theorem Z_from_ok : Z_from := by
  intro M p1 hi
  have hL := hi.1
  by_cases g0 : (0 : Int32).toInt ≤ p1.toInt ∧ p1.toInt ≤ (1 : Int32).toInt
  · have e0 : (0 : Int32).toInt = 0 := rfl
    have e1 : (1 : Int32).toInt = 1 := rfl
    obtain ⟨e, he, rfl⟩ : ∃ e, e < 2 ∧ p1 = nI e := z_of (n := 2) ⟨by omega, by omega⟩ (by decide)
    have c0 : (nI e < 0) = False := eq_false (nI_pos (by omega))
    have c1 : (nI e < nI 2) = True := eq_true (nI_lt he (by decide))
    obtain ⟨g1, g2⟩ := hi.2.2.2.2.2.1 e he
    rcases g2 with g2 | ⟨g2, g3⟩
    · refine ⟨-3, M, M, ?_, ?_, hi⟩
      · simp only [f_X11_from, zob_0 hL, zo_0 hL, (za_26 hL).1, (za_77 hL).1, c0, c1, if_false, if_true, Option.bind_some, (za_77 hL).2.1 e he, g2]
      · simp only [f_X12_from, zob_108 hL, zo_108 hL, z_m_in, Option.bind_some, z_b0, g0, and_self, if_true, (za_111 hL).2.1 e he, ← g1, g2]
    · obtain ⟨Ma, ra, ca⟩ := zs_from hi he g3
      have La : z_Lay Ma := ca.1.lay hL
      obtain ⟨Md, rd, fd, od, _, vd⟩ := zq_from he 4764 0 q_fuel Ma (by omega) (by unfold q_fuel; omega) La
      have rd' : f_X12_from_b26 108 (nI e) q_fuel (0 : Int32) Ma = some ((1 : Int32), Md) := rd
      have h1 : q_I Ma 111 = q_I M 111 := ca.2.1 111 (by omega)
      have n10 : ((1 : Int32) = 0) = False := by decide
      refine ⟨1, Ma, Md, ?_, ?_, ?_⟩
      · simp only [f_X11_from, zob_0 hL, zo_0 hL, (za_26 hL).1, (za_77 hL).1, c0, c1, if_false, if_true, Option.bind_some, (za_77 hL).2.1 e he, g2, n10, z_c_img hL he, ra]
      · simp only [f_X12_from, zob_108 La, zo_108 La, z_m_in, Option.bind_some, z_b0, g0, and_self, if_true, (za_111 La).2.1 e he, h1, ← g1, g2, n10, if_false, rd']
      · have oo : ∀ a, a ≠ 109 → (a < 1 ∨ 26 ≤ a) → q_I Md a = q_I M a := fun a h1 h2 => by
          rw [od a h1, ca.2.1 a (by omega)]
        refine ⟨fd.lay La, ca.2.2.1.cong (fun a x y => od a (by omega)), hi.2.2.1.cong (fun a x y => oo a (by omega) (by omega)), hi.2.2.2.1.cong (fun a x y => oo a (by omega) (by omega)), ?_, fun e' he' => ?_, (ca.1.tr fd).zc hi.2.2.2.2.2.2⟩
        · have hh : z_hs 1 (q_I Ma) (q_I Md 109) := ca.hs g3 (fun k hk => by
            rw [vd k (Nat.zero_le _) hk, ca.2.1 110 (by omega)]; rfl)
          exact hh.cong (fun a x y => od a (by omega))
        · rw [oo 77 (by decide) (by omega), oo 111 (by decide) (by omega)]
          obtain ⟨k1, k2⟩ := hi.2.2.2.2.2.1 e' he'
          refine ⟨k1, k2.imp id (fun g => ⟨g.1, ?_⟩)⟩
          exact z_img_same he' g.2 (fun a x y => oo a (by omega) (by omega)) (fun k hk => by
            show q_I Md 110 (4764 * e' + k) = q_I M 110 (4764 * e' + k)
            rw [oo 110 (by decide) (by omega)])
  · refine ⟨-2, M, M, ?_, ?_, hi⟩
    · have e0 : (0 : Int32).toInt = 0 := rfl
      have e1 : (1 : Int32).toInt = 1 := rfl
      by_cases c : p1 < 0
      · simp only [f_X11_from, zob_0 hL, c, if_true]
      · have c2 : (p1 < nI 2) = False := by
          refine eq_false (fun z => ?_)
          have h1 := (q_lt_iff _ _).mp z
          have h2 : ¬ p1.toInt < (0 : Int32).toInt := fun y => c ((q_lt_iff _ _).mpr y)
          rw [nI_toInt (by decide)] at h1
          omega
        simp only [f_X11_from, zob_0 hL, zo_0 hL, (za_26 hL).1, (za_77 hL).1, c, c2, if_false, Option.bind_some]
    · simp only [f_X12_from, zob_108 hL, zo_108 hL, z_m_in, Option.bind_some, z_b0, g0, if_false]
