/-! ===== one number of the house changes ===== -/
theorem z_Inv.upd {M M' : q_Mem} (hi : z_Inv M) (hf : z_FR M M') (h0 : ∀ a, (26 ≤ a ∧ a < 78) ∨ a = 110 ∨ a = 111 → q_I M' a = q_I M a) (hrc : z_RC 1 (q_I M')) (hs : z_hs 1 (q_I M') (q_I M' 109)) : z_Inv M' := by
  obtain ⟨h1, h2, h3, h4, h5, h6, h7⟩ := hi
  refine ⟨hf.lay h1, hrc, h3.cong (fun a x y => h0 a (by omega)), h4.cong (fun a x y => h0 a (by omega)), hs, fun e he => ?_, hf.zc h7⟩
  rw [h0 77 (by omega), h0 111 (by omega)]
  obtain ⟨g1, g2⟩ := h6 e he
  refine ⟨g1, g2.imp id (fun g => ⟨g.1, ?_⟩)⟩
  have ei : z_img M' e = z_img M e := by unfold z_img; rw [h0 110 (by omega)]
  rw [ei]
  exact g.2.cong (fun a x y => h0 a (by omega))
theorem z_m_low {st st' : Nat → Int32} (hst : ∀ k, k < 10 → st' k = st k) {t : Nat} (ht : t < 11) : z_m st' t = z_m st t := by
  unfold z_m
  split
  · rfl
  · rw [hst]
    match t, ht with
    | 0, _ => decide
    | 1, _ => decide
    | 2, _ => decide
    | 3, _ => decide
    | 4, _ => decide
    | 5, _ => contradiction
    | 6, _ => decide
    | 7, _ => decide
    | 8, _ => decide
    | 9, _ => decide
    | 10, _ => decide
    | t + 11, h => omega
theorem z_tn_lt {t : Nat} (ht : t < 11) (h5 : t ≠ 5) : z_tn t < 10 := by
  match t, ht, h5 with
  | 0, _, _ => decide
  | 1, _, _ => decide
  | 2, _, _ => decide
  | 3, _, _ => decide
  | 4, _, _ => decide
  | 5, _, h => exact absurd rfl h
  | 6, _, _ => decide
  | 7, _, _ => decide
  | 8, _, _ => decide
  | 9, _, _ => decide
  | 10, _, _ => decide
  | t + 11, h, _ => omega
theorem z_to_ge {t : Nat} (ht : t < 11) : 20 ≤ z_to t := by
  match t, ht with
  | 0, _ => decide
  | 1, _ => decide
  | 2, _ => decide
  | 3, _ => decide
  | 4, _ => decide
  | 5, _ => decide
  | 6, _ => decide
  | 7, _ => decide
  | 8, _ => decide
  | 9, _ => decide
  | 10, _ => decide
  | t + 11, h => omega
/-- a number that stands outside the tables changes; st 99 is none of theirs -/
theorem z_hs_lo {I I' : Nat → Nat → Int32} {st st' : Nat → Int32} (h : z_hs 1 I st) (hT : ∀ a, 2 ≤ a → a < 24 → I' a = I a) (hst : ∀ k, (k < 10 ∨ (20 ≤ k ∧ (k < 4556 ∨ 4608 ≤ k))) → st' k = st k) (hLo : z_Lo 1 I' st') (hY : z_Yl 1 I' st') : z_hs 1 I' st' := by
  have tb : ∀ t, t < 11 → z_to t + z_tm t * z_tw t ≤ 4556 ∨ 4608 ≤ z_to t := by
    intro t ht
    match t, ht with
    | 0, _ => decide
    | 1, _ => decide
    | 2, _ => decide
    | 3, _ => decide
    | 4, _ => decide
    | 5, _ => decide
    | 6, _ => decide
    | 7, _ => decide
    | 8, _ => decide
    | 9, _ => decide
    | 10, _ => decide
    | t + 11, h => omega
  have hn : ∀ t, t < 11 → t ≠ 5 → st' (z_tn t) = st (z_tn t) := fun t ht h5 => hst _ (Or.inl (z_tn_lt ht h5))
  have hr : ∀ t, t < 11 → ∀ k, z_to t ≤ k → k < z_to t + z_tm t * z_tw t → st' k = st k := fun t ht k h1 h2 => hst k (Or.inr ⟨by have := z_to_ge ht; omega, by have := tb t ht; omega⟩)
  have hm : ∀ t, t < 11 → z_m st' t = z_m st t := fun t ht => z_m_low (fun k hk => hst k (Or.inl hk)) ht
  refine ⟨fun t ht => ?_, hLo, hY, fun t ht => ?_⟩
  · have g := h.1 t ht
    refine ⟨?_, by rw [hm t ht]; exact g.2.1, fun h5 => by rw [hm t ht, hn t ht h5]; exact g.2.2.1 h5, fun i j h1 h2 h3 => ?_⟩
    · rw [hT _ (by omega) (by omega), hm t ht]; exact g.1
    · rw [hm t ht] at h1
      rw [hT _ (by omega) (by omega)]
      have hp : ∀ j, j < z_tw t → st' (z_to t + z_tw t * i + j) = st (z_to t + z_tw t * i + j) := fun j hj => hr t ht _ (by omega) (by have := z_pos h1 g.2.1 hj; omega)
      rw [hp _ (z_pm_lt h2)]
      refine g.2.2.2 i j h1 h2 ⟨fun e => ?_, fun e q1 q2 => ?_⟩
      · subst e
        have e5 := hst (3320 + 61 * i) (Or.inr ⟨by omega, Or.inl (by have h9 : i < 6 := Nat.lt_of_lt_of_le h1 g.2.1; omega)⟩)
        have := h3.1 rfl
        rwa [e5] at this
      · subst e
        have e5 := hst (3686 + 84 * i) (Or.inr ⟨by omega, Or.inl (by have h9 : i < 10 := Nat.lt_of_lt_of_le h1 g.2.1; omega)⟩)
        have := h3.2 rfl q1 q2
        rwa [e5] at this
  · intro i hi
    rw [hm t ht] at hi
    refine (h.2.2.2 t ht i hi).cong (fun j hj => hr t ht _ (by omega) ?_) (Nat.le_of_eq (hm 0 (by decide)).symm) (Nat.le_of_eq (hm 3 (by decide)).symm)
    have := z_pos hi (h.1 t ht).2.1 hj
    omega
section ZS
variable {M : q_Mem}
theorem z_st_lit {k : Nat} (hL : z_Lay M) (hk : k < 4764) : q_lI M 109 (nI k) = some (q_I M 109 k) := (za_109 hL).2.1 k hk
theorem z_st_put {k : Nat} {v : Int32} (hL : z_Lay M) (hk : k < 4764) : q_tI M 109 (nI k) v = some (q_sI M 109 k v) := (za_109 hL).2.2 k v hk
end ZS
theorem Z_sour_ok : Z_sour := by
  intro M v hi
  have hL := hi.1
  by_cases hg : (1 : Int32).toInt ≤ v.toInt ∧ v.toInt ≤ (2000 : Int32).toInt
  · refine ⟨q_I M 1 14, q_sI M 1 14 v, q_sI (q_sI M 1 14 v) 109 11 v, ?_, ?_, ?_⟩
    · unfold f_X11_sour
      rw [zob_0 hL, z_c_within, Option.bind_some, z_b0, if_pos hg, (zo_0 hL).2.2.2.2.2.1, Option.bind_some, (zo_1 hL).1, Option.bind_some, Option.bind_some, (zo_1 hL).2.2.1]
      rfl
    · have hL1 : z_Lay (q_sI M 1 14 v) := hL
      have e : (11 : Int32) = nI 11 := rfl
      unfold f_X12_sour
      rw [zob_108 hL1, z_m_in, Option.bind_some, z_b0, if_pos hg, (zo_108 hL1).2.2.2.2.2.1, Option.bind_some, e, z_st_lit hL1 (by decide), Option.bind_some, Option.bind_some, z_st_put hL1 (by decide), Option.bind_some, z_I_sI, if_neg (by decide), hi.2.2.2.2.1.2.1.2.2.1.1]
    · refine hi.upd ⟨rfl, rfl, rfl⟩ (fun a ha => ?_) (fun t ht => ?_) (z_hs_lo hi.2.2.2.2.1 (fun a h1 h2 => ?_) (fun k hk => ?_) ⟨fun j hj => ?_, ?_, ?_, ?_⟩ (fun j hj => ?_))
      · rw [q_sI_ne (by omega), q_sI_ne (by omega)]
      · rw [q_sI_ne (by omega), q_sI_ne (by omega)]; exact hi.2.1 t ht
      · rw [q_sI_ne (by omega), q_sI_ne (by omega)]
      · rw [z_I_sI, if_neg (by omega), z_I_sI, if_neg (by omega)]
      · rw [z_I_sI, if_neg (by omega), z_I_sI, if_neg (by omega), z_I_sI, if_neg (by omega), z_I_sI, if_neg (by omega)]; exact hi.2.2.2.2.1.2.1.1 j hj
      · rw [z_I_sI, if_neg (by omega), z_I_sI, if_neg (by omega), z_I_sI, if_neg (by omega), z_I_sI, if_neg (by omega)]; exact hi.2.2.2.2.1.2.1.2.1
      · rw [z_I_sI, if_neg (by omega), z_I_sI, if_pos (by omega), z_I_sI, if_pos (by omega)]; exact ⟨rfl, hg⟩
      · rw [z_I_sI, if_neg (by omega), z_I_sI, if_neg (by omega), z_I_sI, if_neg (by omega), z_I_sI, if_neg (by omega)]; exact hi.2.2.2.2.1.2.1.2.2.2
      · rw [z_I_sI, if_neg (by omega), z_I_sI, if_neg (by omega), z_I_sI, if_neg (by omega), z_I_sI, if_neg (by omega)]; exact hi.2.2.2.2.1.2.2.1 j hj
  · refine ⟨-2, M, M, ?_, ?_, hi⟩
    · unfold f_X11_sour
      rw [zob_0 hL, z_c_within, Option.bind_some, z_b0, if_neg hg]
    · unfold f_X12_sour
      rw [zob_108 hL, z_m_in, Option.bind_some, z_b0, if_neg hg]
