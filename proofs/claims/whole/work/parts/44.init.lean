theorem z_all_range {n : Nat} {p : Nat → Bool} (h : (List.range n).all p = true) : ∀ i, i < n → p i = true := fun i hi => List.all_eq_true.mp h i (List.mem_range.mpr hi)
theorem z_ini_get {β : Type} {f : q_Mem → β} {M : q_Mem} {b : β} (hM : z_ini = some M) (h : z_ini.map f = some b) : f M = b := by
  rw [hM] at h
  exact Option.some.inj h
theorem z_init : ∃ M : q_Mem, z_ini = some M ∧ z_Inv M := by
  obtain ⟨M, hM, hn⟩ := Option.map_eq_some_iff.mp z_ini2
  have k3 := z_all_range (z_ini_get hM z_ini3)
  have k6 := z_all_range (z_ini_get hM z_ini6)
  have k4 := z_ini_get hM z_ini4
  have k5 := z_ini_get hM z_ini5
  have k7 : z_Zc M := of_decide_eq_true (p := q_I M 104 0 = 0 ∧ q_J M 103 0 = 0 ∧ q_J M 105 0 = 0 ∧ q_J M 106 0 = 0) (z_ini_get hM z_ini7)
  unfold z_ck2 at k4
  unfold z_ck3 at k5
  simp only [Bool.and_eq_true, decide_eq_true_eq] at k4 k5
  obtain ⟨⟨⟨⟨⟨⟨⟨⟨⟨a1, a2⟩, a3⟩, a4⟩, a5⟩, a6⟩, a7⟩, a8⟩, a9⟩, a10⟩ := k4
  obtain ⟨⟨⟨⟨⟨⟨⟨⟨b1, b2⟩, b3⟩, b4⟩, b5⟩, b6⟩, b7⟩, b8⟩, b9⟩ := k5
  have hL : z_Lay M := ⟨hn, fun a ha => by simpa using k3 a ha, fun a i ha hi => by simpa using z_all_range (k6 a ha) i hi⟩
  have hrc : ∀ hb, hb ∈ [1, 27, 52] → z_RC hb (q_I M) := by
    intro hb hh t ht
    have := List.all_eq_true.mp (z_all_range a1 t ht) hb hh
    simpa using this
  have hst : ∀ t, t < 11 → t ≠ 5 → q_I M 109 (z_tn t) = 0 := by
    intro t ht h5
    have q : ∀ j, j < 10 → q_I M 109 j = 0 := fun j hj => by simpa using z_all_range b1 j hj
    match t, ht, h5 with
    | 0, _, _ => exact q 0 (by decide)
    | 1, _, _ => exact q 1 (by decide)
    | 2, _, _ => exact q 2 (by decide)
    | 3, _, _ => exact q 3 (by decide)
    | 4, _, _ => exact q 4 (by decide)
    | 5, _, h5 => exact absurd rfl h5
    | 6, _, _ => exact q 5 (by decide)
    | 7, _, _ => exact q 6 (by decide)
    | 8, _, _ => exact q 7 (by decide)
    | 9, _, _ => exact q 8 (by decide)
    | 10, _, _ => exact q 9 (by decide)
    | t + 11, ht, _ => omega
  have hm : ∀ t, t < 11 → t ≠ 5 → z_m (q_I M 109) t = 0 := by
    intro t ht h5
    unfold z_m
    rw [if_neg h5, hst t ht h5]
    rfl
  have hm5 : z_m (q_I M 109) 5 = 6 := rfl
  have tx : ∀ i, i < 6 → q_I M 109 (3320 + 61 * i) = 0 := fun i hi => by simpa using z_all_range b4 i hi
  have bt0 : ∀ {a b : Int}, a ≤ 0 → 0 ≤ b → z_bt (0 : Int32) a b := fun h1 h2 => ⟨h1, h2⟩
  refine ⟨M, hM, hL, hrc 1 (by simp), hrc 27 (by simp), hrc 52 (by simp), ⟨?_, ⟨?_, ⟨?_, ?_⟩, ⟨?_, ?_⟩, ⟨?_, ?_⟩⟩, ?_, ?_⟩, ?_, k7⟩
  · intro t ht
    refine ⟨?_, ?_, fun h5 => ?_, ?_⟩
    · have := z_all_range a2 t ht
      simp only [decide_eq_true_eq] at this
      rw [show 1 + 1 + 2 * t = 2 + 2 * t by omega, this]
      by_cases h5 : t = 5
      · subst h5; rfl
      · rw [if_neg h5, hm t ht h5]; rfl
    · by_cases h5 : t = 5
      · subst h5; exact Nat.le_refl _
      · rw [hm t ht h5]; exact Nat.zero_le _
    · rw [hm t ht h5, hst t ht h5]; rfl
    · intro i j hi hj hl
      by_cases h5 : t = 5
      · subst h5
        have hi6 : i < 6 := hi
        have h0 := hl.1 rfl
        rw [tx i hi6] at h0
        have hj0 : j = 0 := by
          have : (0 : Int32).toNatClampNeg = 0 := rfl
          omega
        subst hj0
        have e1 : q_I M 13 (61 * i) = 0 := by simpa using z_all_range a3 i hi6
        show q_I M 13 (61 * i + 0) = q_I M 109 (3320 + 61 * i + 0)
        rw [Nat.add_zero, Nat.add_zero, e1, tx i hi6]
      · rw [hm t ht h5] at hi; omega
  · intro j hj
    have e1 : q_I M 24 j = 0 := by simpa using z_all_range a4 j hj
    have e2 : q_I M 109 (13 + j) = 0 := by simpa using z_all_range b2 j hj
    rw [e2]
    exact ⟨e1, bt0 (by decide) (by decide)⟩
  · rw [a6, b5]
  · rw [b5]; exact ⟨by decide, by decide⟩
  · rw [a7, b6]
  · rw [b6]; exact ⟨by decide, by decide⟩
  · rw [a8, b7]
  · rw [b7]; exact ⟨by decide, by decide⟩
  · intro j hj
    have e1 : q_I M 25 j = 0 := by simpa using z_all_range a5 j hj
    have e2 : q_I M 109 (4556 + j) = 0 := by simpa using z_all_range b3 j hj
    rw [e2]
    exact ⟨e1, bt0 (by decide) (by decide)⟩
  · intro t ht i hi
    by_cases h5 : t = 5
    · subst h5
      have hi6 : i < 6 := hi
      refine ⟨⟨0, by decide, tx i hi6⟩, fun j hj => ?_⟩
      rw [tx i hi6] at hj
      exact absurd hj (Nat.not_lt_zero _)
    · rw [hm t ht h5] at hi; omega
  · intro e he
    rcases (show e = 0 ∨ e = 1 by omega) with rfl | rfl
    · exact ⟨by rw [a9, b8], Or.inl a9⟩
    · exact ⟨by rw [a10, b9], Or.inl a10⟩
