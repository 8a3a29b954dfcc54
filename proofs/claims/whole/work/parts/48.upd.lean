/-! ===== a row comes, a cell changes ===== -/
theorem z_disj : ∀ t, t < 11 → ∀ t', t' < 11 → t ≠ t' → z_to t + z_tm t * z_tw t ≤ z_to t' ∨ z_to t' + z_tm t' * z_tw t' ≤ z_to t := by decide
theorem z_tn_inj : ∀ t, t < 11 → ∀ t', t' < 11 → t ≠ t' → z_tn t ≠ z_tn t' := by decide
theorem z_tb : ∀ t, t < 11 → z_to t + z_tm t * z_tw t ≤ 4556 ∨ 4608 ≤ z_to t := by decide
theorem z_tb2 : ∀ t, t < 11 → z_to t + z_tm t * z_tw t ≤ 4764 := by decide
/-- only the part of table t changes: what is left to show of it -/
theorem z_hs_tab {I I' : Nat → Nat → Int32} {st st' : Nat → Int32} {t : Nat} (ht : t < 11) (h : z_hs 1 I st) (hr : ∀ a, 1 ≤ a → a < 26 → a ≠ 2 + 2 * t → a ≠ 3 + 2 * t → I' a = I a)
    (hst : ∀ k, k ≠ z_tn t → (k < z_to t ∨ z_to t + z_tm t * z_tw t ≤ k) → st' k = st k) (h0 : z_m st 0 ≤ z_m st' 0) (h3 : z_m st 3 ≤ z_m st' 3) (hT : z_T 1 I' st' t) (hV : z_VT st' t) : z_hs 1 I' st' := by
  have n20 : ∀ t, t < 11 → z_tn t < 10 ∨ z_tn t = 19 := by decide
  have hne : ∀ t', t' < 11 → t' ≠ t → st' (z_tn t') = st (z_tn t') := by
    intro t' ht' hn
    refine hst _ (fun e => z_tn_inj t' ht' t ht hn e) (Or.inl ?_)
    have := z_to_ge ht
    rcases n20 t' ht' with g | g <;> omega
  have hrg : ∀ t', t' < 11 → t' ≠ t → ∀ k, z_to t' ≤ k → k < z_to t' + z_tm t' * z_tw t' → st' k = st k := by
    intro t' ht' hn k h1 h2
    refine hst k (fun e => ?_) ?_
    · have := z_to_ge ht'
      rcases n20 t ht with g | g <;> omega
    · have := z_disj t ht t' ht' (Ne.symm hn)
      omega
  refine ⟨fun t' ht' => ?_, ?_, ?_, fun t' ht' => ?_⟩
  · by_cases hn : t' = t
    · subst hn; exact hT
    · exact (h.1 t' ht').cong (hr _ (by omega) (by omega) (by omega) (by omega)) (hr _ (by omega) (by omega) (by omega) (by omega)) (hne t' ht' hn) (hrg t' ht' hn)
  · refine h.2.1.cong (hr 1 (by omega) (by omega) (by omega) (by omega)) (hr 24 (by omega) (by omega) (by omega) (by omega)) (fun k h1 h2 => hst k ?_ (Or.inl ?_))
    · rcases n20 t ht with g | g <;> omega
    · have := z_to_ge ht; omega
  · refine h.2.2.1.cong (hr 25 (by omega) (by omega) (by omega) (by omega)) (fun k h1 h2 => hst k ?_ ?_)
    · rcases n20 t ht with g | g <;> omega
    · have := z_tb t ht; omega
  · by_cases hn : t' = t
    · subst hn; exact hV
    · exact (h.2.2.2 t' ht').cong (h.1 t' ht').2.1 (hne t' ht' hn) (hrg t' ht' hn) h0 h3
/-- a row comes behind the others -/
theorem z_hs_come {I I' : Nat → Nat → Int32} {st st' : Nat → Int32} {t : Nat} (row : Nat → Int32) (ht : t < 11) (h5 : t ≠ 5) (h6 : t ≠ 6) (h : z_hs 1 I st) (hm : z_m st t < z_tm t) (hr : ∀ a, 1 ≤ a → a < 26 → a ≠ 2 + 2 * t → a ≠ 3 + 2 * t → I' a = I a) (hr3 : I' (2 + 2 * t) 3 = nI (z_m st t + 1))
    (hc : ∀ k, I' (3 + 2 * t) k = if z_tw t * z_m st t ≤ k ∧ k < z_tw t * z_m st t + z_tw t then row (k - z_tw t * z_m st t) else I (3 + 2 * t) k)
    (hst : ∀ k, st' k = if k = z_tn t then nI (z_m st t + 1) else if z_to t + z_tw t * z_m st t ≤ k ∧ k < z_to t + z_tw t * z_m st t + z_tw t then row (k - (z_to t + z_tw t * z_m st t)) else st k)
    (hV : z_VR st' (z_m st' 0) (z_m st' 3) t (z_m st t)) : z_hs 1 I' st' ∧ z_m st' t = z_m st t + 1 := by
  have htm : z_tm t ≤ 300 := by
    have : ∀ t, t < 11 → z_tm t ≤ 300 := by decide
    exact this t ht
  have n20 : ∀ t, t < 11 → t ≠ 5 → z_tn t < 10 := fun t ht h5 => z_tn_lt ht h5
  have hn := n20 t ht h5
  have hto := z_to_ge ht
  have hend : z_tw t * z_m st t + z_tw t ≤ z_tm t * z_tw t := by
    have h1 := Nat.mul_le_mul_left (z_tw t) (show z_m st t + 1 ≤ z_tm t from hm)
    rw [Nat.mul_add, Nat.mul_one, Nat.mul_comm (z_tw t) (z_tm t)] at h1
    exact h1
  have hm' : z_m st' t = z_m st t + 1 := by
    have e : st' (z_tn t) = nI (z_m st t + 1) := by rw [hst, if_pos rfl]
    unfold z_m at e ⊢
    rw [if_neg h5] at e ⊢
    rw [e, if_neg h5, nI_clamp]
    unfold z_m at hm
    rw [if_neg h5] at hm
    omega
  have hold : ∀ k, k ≠ z_tn t → (k < z_to t ∨ z_to t + z_tm t * z_tw t ≤ k) → st' k = st k := by
    intro k h1 h2
    rw [hst, if_neg h1, if_neg (by omega)]
  have hmm : ∀ t', t' < 11 → z_m st t' ≤ z_m st' t' := by
    intro t' ht'
    by_cases e : t' = t
    · subst e; omega
    · have e2 : st' (z_tn t') = st (z_tn t') := by
        refine hold _ (fun z => z_tn_inj t' ht' t ht e z) (Or.inl ?_)
        have n3 : ∀ t, t < 11 → z_tn t < 20 := by decide
        have := n3 t' ht'
        omega
      unfold z_m
      rw [e2]
      exact Nat.le_refl _
  have hT0 := h.1 t ht
  have hrow : ∀ i j, i < z_m st t → j < z_tw t → st' (z_to t + z_tw t * i + j) = st (z_to t + z_tw t * i + j) := by
    intro i j hi hj
    have h1 : z_tw t * i + z_tw t ≤ z_tw t * z_m st t := by
      have h1 := Nat.mul_le_mul_left (z_tw t) (show i + 1 ≤ z_m st t from hi)
      rw [Nat.mul_add, Nat.mul_one] at h1
      exact h1
    rw [hst, if_neg (by omega), if_neg (by omega)]
  have hpm : ∀ j, z_pm t j = j := fun j => by unfold z_pm; rw [if_neg h6]
  refine ⟨z_hs_tab ht h hr hold (hmm 0 (by decide)) (hmm 3 (by decide)) ⟨?_, by rw [hm']; exact hm, fun _ => ?_, fun i j h1 h2 _ => ?_⟩ (fun i h1 => ?_), hm'⟩
  · rw [hm', show 1 + 1 + 2 * t = 2 + 2 * t by omega]; exact hr3
  · rw [hm', hst, if_pos rfl]
  · rw [hm'] at h1
    rw [hpm, show 1 + 2 + 2 * t = 3 + 2 * t by omega, hc]
    by_cases e : i = z_m st t
    · subst e
      rw [if_pos (by omega), hst, if_neg (by omega), if_pos (by omega)]
      congr 1
      omega
    · have h3 : z_tw t * i + z_tw t ≤ z_tw t * z_m st t := by
        have h3 := Nat.mul_le_mul_left (z_tw t) (show i + 1 ≤ z_m st t by omega)
        rw [Nat.mul_add, Nat.mul_one] at h3
        exact h3
      rw [if_neg (by omega), hrow i j (by omega) h2]
      have g := hT0.2.2.2 i j (by omega) h2 ⟨fun z => absurd z h5, fun z => absurd z h6⟩
      rw [hpm, show 1 + 2 + 2 * t = 3 + 2 * t by omega] at g
      exact g
  · rw [hm'] at h1
    by_cases e : i = z_m st t
    · subst e; exact hV
    · exact (h.2.2.2 t ht i (by omega)).cong (fun j hj => hrow i j (by omega) hj) (hmm 0 (by decide)) (hmm 3 (by decide))
/-- one cell of a table changes -/
theorem z_hs_set {I I' : Nat → Nat → Int32} {st st' : Nat → Int32} {t i j : Nat} (v : Int32) (ht : t < 11) (h5 : t ≠ 5) (h6 : t ≠ 6) (h : z_hs 1 I st) (hi : i < z_m st t) (hj : j < z_tw t) (hr : ∀ a, 1 ≤ a → a < 26 → a ≠ 3 + 2 * t → I' a = I a)
    (hc : ∀ k, I' (3 + 2 * t) k = if k = z_tw t * i + j then v else I (3 + 2 * t) k) (hst : ∀ k, st' k = if k = z_to t + z_tw t * i + j then v else st k)
    (hV : z_VR st' (z_m st 0) (z_m st 3) t i) : z_hs 1 I' st' ∧ ∀ t', t' < 11 → z_m st' t' = z_m st t' := by
  have hT0 := h.1 t ht
  have hto := z_to_ge ht
  have hp := z_pos hi hT0.2.1 hj
  have n3 : ∀ t, t < 11 → z_tn t < 20 := by decide
  have hmm : ∀ t', t' < 11 → z_m st' t' = z_m st t' := by
    intro t' ht'
    have e2 : st' (z_tn t') = st (z_tn t') := by
      rw [hst, if_neg]
      have := n3 t' ht'
      omega
    unfold z_m
    rw [e2]
  have hpm : ∀ j, z_pm t j = j := fun j => by unfold z_pm; rw [if_neg h6]
  have hoth : ∀ i2 j2, i2 < z_m st t → j2 < z_tw t → (i2 ≠ i ∨ j2 ≠ j) → z_tw t * i2 + j2 ≠ z_tw t * i + j := by
    intro i2 j2 h1 h2 h3 e
    have hw : 0 < z_tw t := by omega
    have e1 : (z_tw t * i2 + j2) / z_tw t = (z_tw t * i + j) / z_tw t := by rw [e]
    rw [Nat.mul_add_div hw, Nat.mul_add_div hw, Nat.div_eq_of_lt h2, Nat.div_eq_of_lt hj] at e1
    have e2 : i2 = i := by omega
    subst e2
    rcases h3 with h3 | h3
    · exact h3 rfl
    · omega
  refine ⟨z_hs_tab ht h (fun a h1 h2 h3 h4 => hr a h1 h2 h4) (fun k h1 h2 => ?_) (Nat.le_of_eq (hmm 0 (by decide)).symm) (Nat.le_of_eq (hmm 3 (by decide)).symm) ⟨?_, by rw [hmm t ht]; exact hT0.2.1, fun _ => ?_, fun i2 j2 h1 h2 _ => ?_⟩ (fun i2 h1 => ?_), hmm⟩
  · rw [hst, if_neg (by omega)]
  · rw [hmm t ht, hr _ (by omega) (by omega) (by omega)]; exact hT0.1
  · rw [hmm t ht, hst, if_neg (by have := n3 t ht; omega)]; exact hT0.2.2.1 h5
  · rw [hmm t ht] at h1
    have g := hT0.2.2.2 i2 j2 h1 h2 ⟨fun z => absurd z h5, fun z => absurd z h6⟩
    rw [hpm, show 1 + 2 + 2 * t = 3 + 2 * t by omega] at g ⊢
    rw [hc, hst]
    by_cases e : i2 = i ∧ j2 = j
    · obtain ⟨rfl, rfl⟩ := e
      rw [if_pos rfl, if_pos rfl]
    · have := hoth i2 j2 h1 h2 (by omega)
      rw [if_neg this, if_neg (by omega)]
      exact g
  · rw [hmm t ht] at h1
    rw [hmm 0 (by decide), hmm 3 (by decide)]
    by_cases e : i2 = i
    · subst e; exact hV
    · refine (h.2.2.2 t ht i2 h1).cong (fun j2 hj2 => ?_) (Nat.le_refl _) (Nat.le_refl _)
      have := hoth i2 j2 h1 hj2 (Or.inl e)
      rw [hst, if_neg (by omega)]
