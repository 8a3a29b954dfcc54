theorem z_come_mono {st st' : Nat → Int32} {t : Nat} (ht : t < 11) (h5 : t ≠ 5) (hm : z_m st t < z_tm t) (hst : ∀ k, k < 20 → st' k = if k = z_tn t then nI (z_m st t + 1) else st k) : ∀ t', t' < 11 → z_m st t' ≤ z_m st' t' := by
  have htm : z_tm t ≤ 300 := by
    have : ∀ t, t < 11 → z_tm t ≤ 300 := by decide
    exact this t ht
  have hn := z_tn_lt ht h5
  intro t' ht'
  have n3 : ∀ t, t < 11 → z_tn t < 20 := by decide
  by_cases e : t' = t
  · subst e
    have e : st' (z_tn t') = nI (z_m st t' + 1) := by rw [hst _ (by omega), if_pos rfl]
    unfold z_m at hm e ⊢
    rw [if_neg h5] at hm e ⊢
    rw [e, if_neg h5, nI_clamp (by omega)]
    omega
  · have e2 : st' (z_tn t') = st (z_tn t') := by rw [hst _ (n3 t' ht'), if_neg (z_tn_inj t' ht' t ht e)]
    unfold z_m
    rw [e2]
    exact Nat.le_refl _
/-- a row came on both sides -/
theorem z_Inv_come {M M1 M2 : q_Mem} {t : Nat} (row : Nat → Int32) (ht : t < 11) (h5 : t ≠ 5) (h6 : t ≠ 6) (hi : z_Inv M) (hm : z_m (q_I M 109) t < z_tm t) (f1 : z_FR M M1)
    (c4 : ∀ b k, q_I M1 b k = if b = 2 + 2 * t ∧ k = 3 then nI (z_m (q_I M 109) t + 1) else if b = 3 + 2 * t ∧ z_tw t * z_m (q_I M 109) t ≤ k ∧ k < z_tw t * z_m (q_I M 109) t + z_tw t then row (k - z_tw t * z_m (q_I M 109) t) else q_I M b k)
    (f2 : z_FR M1 M2) (d4 : ∀ b, b ≠ 109 → q_I M2 b = q_I M1 b)
    (d5 : ∀ k, q_I M2 109 k = if k = z_tn t then nI (z_m (q_I M 109) t + 1) else if z_to t + z_tw t * z_m (q_I M 109) t ≤ k ∧ k < z_to t + z_tw t * z_m (q_I M 109) t + z_tw t then row (k - (z_to t + z_tw t * z_m (q_I M 109) t)) else q_I M 109 k)
    (hV : (∀ j, j < z_tw t → q_I M2 109 (z_to t + z_tw t * z_m (q_I M 109) t + j) = row j) → (∀ t', t' < 11 → z_m (q_I M 109) t' ≤ z_m (q_I M2 109) t') → z_VR (q_I M2 109) (z_m (q_I M2 109) 0) (z_m (q_I M2 109) 3) t (z_m (q_I M 109) t)) : z_Inv M2 := by
  have hto := z_to_ge ht
  have hn := z_tn_lt ht h5
  have e1 : ∀ a, 1 ≤ a → a < 26 → a ≠ 2 + 2 * t → a ≠ 3 + 2 * t → q_I M2 a = q_I M a := by
    intro a h1 h2 h3 h4
    rw [d4 a (by omega)]
    funext k
    rw [c4, if_neg (by omega), if_neg (by omega)]
  have hmo : ∀ t', t' < 11 → z_m (q_I M 109) t' ≤ z_m (q_I M2 109) t' := by
    refine z_come_mono ht h5 hm (fun k hk => ?_)
    rw [d5]
    by_cases e : k = z_tn t
    · rw [if_pos e, if_pos e]
    · rw [if_neg e, if_neg e, if_neg (by omega)]
  have hcs := z_hs_come (I := q_I M) (I' := q_I M2) (st := q_I M 109) (st' := q_I M2 109) row ht h5 h6 hi.2.2.2.2.1 hm e1 (by rw [d4 _ (by omega), c4, if_pos ⟨rfl, rfl⟩])
    (fun k => by
      rw [d4 _ (by omega), c4, if_neg (by omega)]
      by_cases h : z_tw t * z_m (q_I M 109) t ≤ k ∧ k < z_tw t * z_m (q_I M 109) t + z_tw t
      · rw [if_pos ⟨rfl, h⟩, if_pos h]
      · rw [if_neg (fun z => h z.2), if_neg h]) d5 (hV (fun j hj => by rw [d5, if_neg (by omega), if_pos (by omega)]; congr 1; omega) hmo)
  refine hi.upd (f1.tr f2) (fun a ha => ?_) (fun t' ht' => ?_) hcs.1
  · rw [d4 a (by omega)]
    funext k
    rw [c4, if_neg (by omega), if_neg (by omega)]
  · have hrow : ∀ k, k < 3 → ¬ (1 + 1 + 2 * t' = 3 + 2 * t ∧ z_tw t * z_m (q_I M 109) t ≤ k ∧ k < z_tw t * z_m (q_I M 109) t + z_tw t) := fun k _ z => by omega
    rw [d4 _ (by omega), c4, if_neg (by omega), if_neg (hrow 0 (by omega)), c4, if_neg (by omega), if_neg (hrow 1 (by omega))]
    exact hi.2.1 t' ht'
theorem z_w3' (M : q_Mem) (o n : Nat) (x a b d : Int32) (hn : n < o) (k : Nat) : q_I (q_sI (q_sI (q_sI (q_sI M 109 o a) 109 (o + 1) b) 109 (o + 2) d) 109 n x) 109 k = if k = n then x else if o ≤ k ∧ k < o + 3 then z_row a b d (k - o) else q_I M 109 k := z_w3 M o n x a b d hn k
theorem z_w4' (M : q_Mem) (o n : Nat) (x a b d : Int32) (hn : n < o) (k : Nat) : q_I (q_sI (q_sI (q_sI (q_sI (q_sI M 109 o a) 109 (o + 1) b) 109 (o + 2) d) 109 (o + 3) (-1)) 109 n x) 109 k = if k = n then x else if o ≤ k ∧ k < o + 4 then z_row a b d (k - o) else q_I M 109 k := by
  rw [z_w4 M o n x a b d (-1) hn k]
  unfold z_row
  repeat' split
  all_goals first | rfl | (exfalso; omega)
theorem z_id_of {v : Int32} {n : Nat} (h : 0 ≤ v.toInt ∧ v.toInt < n) (hn : n < 2147483648) : z_id v n := by
  obtain ⟨j, h1, h2⟩ := z_of h hn
  exact ⟨j, h1, h2⟩
theorem Z_can_ok : Z_can := by
  intro M p1 p2 p3 hi
  have hL := hi.1
  obtain ⟨R, h3, hm, hcn⟩ := zt_1 hi
  obtain ⟨R0, h30, hm0, hcn0⟩ := zt_0 hi
  have hh0 := z_has (x := p1) R0 h30 hm0
  have hs0 : f_X12_is M 108 (0 : Int32) p1 = some (q_b (0 ≤ p1.toInt ∧ p1.toInt < (z_m (q_I M 109) 0 : Int))) := z_m_is (t := 0) (j := 0) hL (by decide) hcn0 (by omega)
  by_cases hg : (0 ≤ p1.toInt ∧ p1.toInt < (z_m (q_I M 109) 0 : Int)) ∧ ((0 : Int32).toInt ≤ p2.toInt ∧ p2.toInt ≤ (195 : Int32).toInt) ∧ ((1 : Int32).toInt ≤ p3.toInt ∧ p3.toInt ≤ (1000 : Int32).toInt)
  · obtain ⟨g0, g1, g2⟩ := hg
    by_cases hf : z_m (q_I M 109) 1 = 300
    · have cf := fun a b d => z_come_full (a := a) (b := b) (d := d) R (by rw [h3, hf])
      have mf : q_lI M 109 (1 : Int32) = some (300 : Int32) := by rw [show (1 : Int32) = nI 1 from rfl, z_st_lit hL (by decide), hcn, hf]; rfl
      refine ⟨-4, M, M, ?_, ?_, hi⟩
      · simp only [f_X11_can, zob_0 hL, zo_0 hL, zo_1 hL, z_c_within, z_c_isDay, z_c_isPlace, Option.bind_some, z_b0, hh0, g0, g1, g2, and_self, if_true, cf]
      · simp only [f_X12_can, zob_108 hL, zo_108 hL, z_m_in, z_m_isDay, Option.bind_some, z_b0, hs0, g0, g1, g2, and_self, if_true, mf]
    · have hlt : z_m (q_I M 109) 1 < 300 := by omega
      obtain ⟨M1, c1, c2, c3, c4⟩ := z_come_in (a := p1) (b := p2) (d := p3) R h3 hlt
      have hL1 : z_Lay M1 := c2.lay hL
      have s9 : ∀ k, q_I M1 109 k = q_I M 109 k := fun k => by rw [c4, if_neg (by omega), if_neg (by omega)]
      have hs10 : f_X12_is M1 108 (0 : Int32) p1 = some (q_b (0 ≤ p1.toInt ∧ p1.toInt < (z_m (q_I M 109) 0 : Int))) := z_m_is (t := 0) (j := 0) hL1 (by decide) ((s9 _).trans hcn0) (by omega)
      refine ⟨nI (z_m (q_I M 109) 1), M1, (q_sI (q_sI (q_sI (q_sI (q_sI M1 109 (100 + 4 * (z_m (q_I M 109) 1)) p1) 109 (100 + 4 * (z_m (q_I M 109) 1) + 1) p2) 109 (100 + 4 * (z_m (q_I M 109) 1) + 2) p3) 109 (100 + 4 * (z_m (q_I M 109) 1) + 3) (-1 : Int32)) 109 1 (nI ((z_m (q_I M 109) 1) + 1))), ?_, ?_, ?_⟩
      · simp only [f_X11_can, zob_0 hL, zo_0 hL, zo_1 hL, z_c_within, z_c_isDay, z_c_isPlace, Option.bind_some, z_b0, hh0, g0, g1, g2, and_self, if_true, c1]
      · have e0 : (100 : Int32) + (4 : Int32) * nI (z_m (q_I M 109) 1) = nI (100 + 4 * (z_m (q_I M 109) 1)) := by rw [show (4 : Int32) = nI 4 from rfl, pk_mul, show (100 : Int32) = nI 100 from rfl, nI_add]
        have e1 : nI (100 + 4 * (z_m (q_I M 109) 1)) + (1 : Int32) = nI (100 + 4 * (z_m (q_I M 109) 1) + 1) := by rw [show (1 : Int32) = nI 1 from rfl, nI_add]
        have e2 : nI (100 + 4 * (z_m (q_I M 109) 1)) + (2 : Int32) = nI (100 + 4 * (z_m (q_I M 109) 1) + 2) := by rw [show (2 : Int32) = nI 2 from rfl, nI_add]
        have e3 : nI (100 + 4 * (z_m (q_I M 109) 1)) + (3 : Int32) = nI (100 + 4 * (z_m (q_I M 109) 1) + 3) := by rw [show (3 : Int32) = nI 3 from rfl, nI_add]
        have ne : (nI (z_m (q_I M 109) 1) = (300 : Int32)) = False := eq_false (fun z => hf ((z_full (n := 300) (by omega) (by decide)).mp z))
        have g : q_lI M1 109 (1 : Int32) = some (nI (z_m (q_I M 109) 1)) := by rw [show (1 : Int32) = nI 1 from rfl, z_st_lit hL1 (by decide), s9, hcn]
        have gr : ∀ M3 : q_Mem, z_Lay M3 → q_gR 11 0 M3 108 = some 109 := fun M3 h => (zo_108 h).2.2.2.2.2.1
        have pt : ∀ (M3 : q_Mem) (k : Nat) (v : Int32), z_Lay M3 → k < 4764 → q_tI M3 109 (nI k) v = some (q_sI M3 109 k v) := fun M3 k v h hk => z_st_put h hk
        have L1 : z_Lay (q_sI M1 109 (100 + 4 * (z_m (q_I M 109) 1)) p1) := hL1
        have L2 : z_Lay (q_sI (q_sI M1 109 (100 + 4 * (z_m (q_I M 109) 1)) p1) 109 (100 + 4 * (z_m (q_I M 109) 1) + 1) p2) := hL1
        have L3 : z_Lay (q_sI (q_sI (q_sI M1 109 (100 + 4 * (z_m (q_I M 109) 1)) p1) 109 (100 + 4 * (z_m (q_I M 109) 1) + 1) p2) 109 (100 + 4 * (z_m (q_I M 109) 1) + 2) p3) := hL1
        have L4 : z_Lay (q_sI (q_sI (q_sI (q_sI M1 109 (100 + 4 * (z_m (q_I M 109) 1)) p1) 109 (100 + 4 * (z_m (q_I M 109) 1) + 1) p2) 109 (100 + 4 * (z_m (q_I M 109) 1) + 2) p3) 109 (100 + 4 * (z_m (q_I M 109) 1) + 3) (-1 : Int32)) := hL1
        have k0 : 100 + 4 * (z_m (q_I M 109) 1) < 4764 := by omega
        have k1 : 100 + 4 * (z_m (q_I M 109) 1) + 1 < 4764 := by omega
        have k2 : 100 + 4 * (z_m (q_I M 109) 1) + 2 < 4764 := by omega
        have k3 : 100 + 4 * (z_m (q_I M 109) 1) + 3 < 4764 := by omega
        have hx : f_X12_more (q_sI (q_sI (q_sI (q_sI M1 109 (100 + 4 * (z_m (q_I M 109) 1)) p1) 109 (100 + 4 * (z_m (q_I M 109) 1) + 1) p2) 109 (100 + 4 * (z_m (q_I M 109) 1) + 2) p3) 109 (100 + 4 * (z_m (q_I M 109) 1) + 3) (-1 : Int32)) 108 (1 : Int32) = some (nI (z_m (q_I M 109) 1), (q_sI (q_sI (q_sI (q_sI (q_sI M1 109 (100 + 4 * (z_m (q_I M 109) 1)) p1) 109 (100 + 4 * (z_m (q_I M 109) 1) + 1) p2) 109 (100 + 4 * (z_m (q_I M 109) 1) + 2) p3) 109 (100 + 4 * (z_m (q_I M 109) 1) + 3) (-1 : Int32)) 109 1 (nI ((z_m (q_I M 109) 1) + 1)))) := z_more (j := 1) hL1 (by decide) (by rw [z_I_sI, if_neg (by omega), z_I_sI, if_neg (by omega), z_I_sI, if_neg (by omega), z_I_sI, if_neg (by omega), s9, hcn])
        simp only [f_X12_can, zob_108 hL1, z_m_in, z_m_isDay, Option.bind_some, z_b0, hs10, g0, g1, g2, and_self, if_true, gr, hL1, L1, L2, L3, L4, g, ne, if_false, e0, e1, e2, e3, pt, k0, k1, k2, k3, hx]
      · refine z_Inv_come (t := 1) (z_row p1 p2 p3) (by decide) (by decide) (by decide) hi hlt c2 c4 ⟨rfl, rfl, rfl⟩ (fun b hb => ?_) (fun k => ?_) (fun hr hmo => ?_)
        · rw [q_sI_ne hb, q_sI_ne hb, q_sI_ne hb, q_sI_ne hb, q_sI_ne hb]
        · rw [z_w4' _ _ _ _ _ _ _ (show 1 < 100 + 4 * (z_m (q_I M 109) 1) by omega), s9]
          rfl
        · have v0 : _ = p1 := hr 0 (by decide)
          have v1 : _ = p2 := hr 1 (by decide)
          have v2 : _ = p3 := hr 2 (by decide)
          have v3 : _ = z_row p1 p2 p3 3 := hr 3 (by decide)
          generalize q_I (q_sI (q_sI (q_sI (q_sI (q_sI M1 109 (100 + 4 * (z_m (q_I M 109) 1)) p1) 109 (100 + 4 * (z_m (q_I M 109) 1) + 1) p2) 109 (100 + 4 * (z_m (q_I M 109) 1) + 2) p3) 109 (100 + 4 * (z_m (q_I M 109) 1) + 3) (-1 : Int32)) 109 1 (nI ((z_m (q_I M 109) 1) + 1))) 109 = st at *
          have v0 : st (100 + 4 * (z_m (q_I M 109) 1)) = p1 := v0
          have v1 : st (100 + 4 * (z_m (q_I M 109) 1) + 1) = p2 := v1
          have v2 : st (100 + 4 * (z_m (q_I M 109) 1) + 2) = p3 := v2
          have v3 : st (100 + 4 * (z_m (q_I M 109) 1) + 3) = (-1 : Int32) := v3
          refine ⟨?_, ?_, ?_, ?_⟩
          · rw [v0]; exact (z_id_of g0 (by omega)).mono (hmo 0 (by decide))
          · rw [v1]; exact z_bt_of g1 rfl rfl
          · rw [v2]; exact z_bt_of g2 rfl rfl
          · exact Or.inl (v3.trans rfl)
  · refine ⟨-2, M, M, ?_, ?_, hi⟩
    · by_cases g0 : 0 ≤ p1.toInt ∧ p1.toInt < (z_m (q_I M 109) 0 : Int)
      rotate_left
      · simp only [f_X11_can, zob_0 hL, zo_0 hL, zo_1 hL, z_c_within, z_c_isDay, z_c_isPlace, Option.bind_some, z_b0, hh0, g0, and_self, if_true, if_false]
      · by_cases g1 : (0 : Int32).toInt ≤ p2.toInt ∧ p2.toInt ≤ (195 : Int32).toInt
        rotate_left
        · simp only [f_X11_can, zob_0 hL, zo_0 hL, zo_1 hL, z_c_within, z_c_isDay, z_c_isPlace, Option.bind_some, z_b0, hh0, g0, g1, and_self, if_true, if_false]
        · have g2 : ¬ ((1 : Int32).toInt ≤ p3.toInt ∧ p3.toInt ≤ (1000 : Int32).toInt) := (fun z => hg ⟨g0, g1, z⟩)
          simp only [f_X11_can, zob_0 hL, zo_0 hL, zo_1 hL, z_c_within, z_c_isDay, z_c_isPlace, Option.bind_some, z_b0, hh0, g0, g1, g2, and_self, if_true, if_false]
    · by_cases g0 : 0 ≤ p1.toInt ∧ p1.toInt < (z_m (q_I M 109) 0 : Int)
      rotate_left
      · simp only [f_X12_can, zob_108 hL, zo_108 hL, z_m_in, z_m_isDay, Option.bind_some, z_b0, hs0, g0, and_self, if_true, if_false]
      · by_cases g1 : (0 : Int32).toInt ≤ p2.toInt ∧ p2.toInt ≤ (195 : Int32).toInt
        rotate_left
        · simp only [f_X12_can, zob_108 hL, zo_108 hL, z_m_in, z_m_isDay, Option.bind_some, z_b0, hs0, g0, g1, and_self, if_true, if_false]
        · have g2 : ¬ ((1 : Int32).toInt ≤ p3.toInt ∧ p3.toInt ≤ (1000 : Int32).toInt) := (fun z => hg ⟨g0, g1, z⟩)
          simp only [f_X12_can, zob_108 hL, zo_108 hL, z_m_in, z_m_isDay, Option.bind_some, z_b0, hs0, g0, g1, g2, and_self, if_true, if_false]
theorem Z_churn_ok : Z_churn := by
  intro M p1 p2 hi
  have hL := hi.1
  obtain ⟨R, h3, hm, hcn⟩ := zt_3 hi
  by_cases hg : ((0 : Int32).toInt ≤ p1.toInt ∧ p1.toInt ≤ (195 : Int32).toInt) ∧ ((40 : Int32).toInt ≤ p2.toInt ∧ p2.toInt ≤ (80 : Int32).toInt)
  · obtain ⟨g0, g1⟩ := hg
    by_cases hf : z_m (q_I M 109) 3 = 40
    · have cf := fun a b d => z_come_full (a := a) (b := b) (d := d) R (by rw [h3, hf])
      have mf : q_lI M 109 (3 : Int32) = some (40 : Int32) := by rw [show (3 : Int32) = nI 3 from rfl, z_st_lit hL (by decide), hcn, hf]; rfl
      refine ⟨-4, M, M, ?_, ?_, hi⟩
      · simp only [f_X11_churn, zob_0 hL, zo_0 hL, zo_1 hL, z_c_within, z_c_isDay, z_c_isPlace, Option.bind_some, z_b0, g0, g1, and_self, if_true, cf]
      · simp only [f_X12_churn, zob_108 hL, zo_108 hL, z_m_in, z_m_isDay, Option.bind_some, z_b0, g0, g1, and_self, if_true, mf]
    · have hlt : z_m (q_I M 109) 3 < 40 := by omega
      obtain ⟨M1, c1, c2, c3, c4⟩ := z_come_in (a := p1) (b := p2) (d := (-1 : Int32)) R h3 hlt
      have hL1 : z_Lay M1 := c2.lay hL
      have s9 : ∀ k, q_I M1 109 k = q_I M 109 k := fun k => by rw [c4, if_neg (by omega), if_neg (by omega)]
      refine ⟨nI (z_m (q_I M 109) 3), M1, (q_sI (q_sI (q_sI (q_sI M1 109 (2700 + 3 * (z_m (q_I M 109) 3)) p1) 109 (2700 + 3 * (z_m (q_I M 109) 3) + 1) p2) 109 (2700 + 3 * (z_m (q_I M 109) 3) + 2) (-1 : Int32)) 109 3 (nI ((z_m (q_I M 109) 3) + 1))), ?_, ?_, ?_⟩
      · simp only [f_X11_churn, zob_0 hL, zo_0 hL, zo_1 hL, z_c_within, z_c_isDay, z_c_isPlace, Option.bind_some, z_b0, g0, g1, and_self, if_true, c1]
      · have e0 : (2700 : Int32) + (3 : Int32) * nI (z_m (q_I M 109) 3) = nI (2700 + 3 * (z_m (q_I M 109) 3)) := by rw [show (3 : Int32) = nI 3 from rfl, pk_mul, show (2700 : Int32) = nI 2700 from rfl, nI_add]
        have e1 : nI (2700 + 3 * (z_m (q_I M 109) 3)) + (1 : Int32) = nI (2700 + 3 * (z_m (q_I M 109) 3) + 1) := by rw [show (1 : Int32) = nI 1 from rfl, nI_add]
        have e2 : nI (2700 + 3 * (z_m (q_I M 109) 3)) + (2 : Int32) = nI (2700 + 3 * (z_m (q_I M 109) 3) + 2) := by rw [show (2 : Int32) = nI 2 from rfl, nI_add]
        have ne : (nI (z_m (q_I M 109) 3) = (40 : Int32)) = False := eq_false (fun z => hf ((z_full (n := 40) (by omega) (by decide)).mp z))
        have g : q_lI M1 109 (3 : Int32) = some (nI (z_m (q_I M 109) 3)) := by rw [show (3 : Int32) = nI 3 from rfl, z_st_lit hL1 (by decide), s9, hcn]
        have gr : ∀ M3 : q_Mem, z_Lay M3 → q_gR 11 0 M3 108 = some 109 := fun M3 h => (zo_108 h).2.2.2.2.2.1
        have pt : ∀ (M3 : q_Mem) (k : Nat) (v : Int32), z_Lay M3 → k < 4764 → q_tI M3 109 (nI k) v = some (q_sI M3 109 k v) := fun M3 k v h hk => z_st_put h hk
        have L1 : z_Lay (q_sI M1 109 (2700 + 3 * (z_m (q_I M 109) 3)) p1) := hL1
        have L2 : z_Lay (q_sI (q_sI M1 109 (2700 + 3 * (z_m (q_I M 109) 3)) p1) 109 (2700 + 3 * (z_m (q_I M 109) 3) + 1) p2) := hL1
        have L3 : z_Lay (q_sI (q_sI (q_sI M1 109 (2700 + 3 * (z_m (q_I M 109) 3)) p1) 109 (2700 + 3 * (z_m (q_I M 109) 3) + 1) p2) 109 (2700 + 3 * (z_m (q_I M 109) 3) + 2) (-1 : Int32)) := hL1
        have k0 : 2700 + 3 * (z_m (q_I M 109) 3) < 4764 := by omega
        have k1 : 2700 + 3 * (z_m (q_I M 109) 3) + 1 < 4764 := by omega
        have k2 : 2700 + 3 * (z_m (q_I M 109) 3) + 2 < 4764 := by omega
        have hx : f_X12_more (q_sI (q_sI (q_sI M1 109 (2700 + 3 * (z_m (q_I M 109) 3)) p1) 109 (2700 + 3 * (z_m (q_I M 109) 3) + 1) p2) 109 (2700 + 3 * (z_m (q_I M 109) 3) + 2) (-1 : Int32)) 108 (3 : Int32) = some (nI (z_m (q_I M 109) 3), (q_sI (q_sI (q_sI (q_sI M1 109 (2700 + 3 * (z_m (q_I M 109) 3)) p1) 109 (2700 + 3 * (z_m (q_I M 109) 3) + 1) p2) 109 (2700 + 3 * (z_m (q_I M 109) 3) + 2) (-1 : Int32)) 109 3 (nI ((z_m (q_I M 109) 3) + 1)))) := z_more (j := 3) hL1 (by decide) (by rw [z_I_sI, if_neg (by omega), z_I_sI, if_neg (by omega), z_I_sI, if_neg (by omega), s9, hcn])
        simp only [f_X12_churn, zob_108 hL1, z_m_in, z_m_isDay, Option.bind_some, z_b0, g0, g1, and_self, if_true, gr, hL1, L1, L2, L3, g, ne, if_false, e0, e1, e2, pt, k0, k1, k2, hx]
      · refine z_Inv_come (t := 3) (z_row p1 p2 (-1 : Int32)) (by decide) (by decide) (by decide) hi hlt c2 c4 ⟨rfl, rfl, rfl⟩ (fun b hb => ?_) (fun k => ?_) (fun hr hmo => ?_)
        · rw [q_sI_ne hb, q_sI_ne hb, q_sI_ne hb, q_sI_ne hb]
        · rw [z_w3' _ _ _ _ _ _ _ (show 3 < 2700 + 3 * (z_m (q_I M 109) 3) by omega), s9]
          rfl
        · have v0 : _ = p1 := hr 0 (by decide)
          have v1 : _ = p2 := hr 1 (by decide)
          have v2 : _ = (-1 : Int32) := hr 2 (by decide)
          generalize q_I (q_sI (q_sI (q_sI (q_sI M1 109 (2700 + 3 * (z_m (q_I M 109) 3)) p1) 109 (2700 + 3 * (z_m (q_I M 109) 3) + 1) p2) 109 (2700 + 3 * (z_m (q_I M 109) 3) + 2) (-1 : Int32)) 109 3 (nI ((z_m (q_I M 109) 3) + 1))) 109 = st at *
          have v0 : st (2700 + 3 * (z_m (q_I M 109) 3)) = p1 := v0
          have v1 : st (2700 + 3 * (z_m (q_I M 109) 3) + 1) = p2 := v1
          have v2 : st (2700 + 3 * (z_m (q_I M 109) 3) + 2) = (-1 : Int32) := v2
          refine ⟨?_, ?_, ?_⟩
          · rw [v0]; exact z_bt_of g0 rfl rfl
          · rw [v1]; exact z_bt_of g1 rfl rfl
          · rw [v2]; exact ⟨by decide, by decide⟩
  · refine ⟨-2, M, M, ?_, ?_, hi⟩
    · by_cases g0 : (0 : Int32).toInt ≤ p1.toInt ∧ p1.toInt ≤ (195 : Int32).toInt
      rotate_left
      · simp only [f_X11_churn, zob_0 hL, zo_0 hL, zo_1 hL, z_c_within, z_c_isDay, z_c_isPlace, Option.bind_some, z_b0, g0, and_self, if_true, if_false]
      · have g1 : ¬ ((40 : Int32).toInt ≤ p2.toInt ∧ p2.toInt ≤ (80 : Int32).toInt) := (fun z => hg ⟨g0, z⟩)
        simp only [f_X11_churn, zob_0 hL, zo_0 hL, zo_1 hL, z_c_within, z_c_isDay, z_c_isPlace, Option.bind_some, z_b0, g0, g1, and_self, if_true, if_false]
    · by_cases g0 : (0 : Int32).toInt ≤ p1.toInt ∧ p1.toInt ≤ (195 : Int32).toInt
      rotate_left
      · simp only [f_X12_churn, zob_108 hL, zo_108 hL, z_m_in, z_m_isDay, Option.bind_some, z_b0, g0, and_self, if_true, if_false]
      · have g1 : ¬ ((40 : Int32).toInt ≤ p2.toInt ∧ p2.toInt ≤ (80 : Int32).toInt) := (fun z => hg ⟨g0, z⟩)
        simp only [f_X12_churn, zob_108 hL, zo_108 hL, z_m_in, z_m_isDay, Option.bind_some, z_b0, g0, g1, and_self, if_true, if_false]
theorem Z_cream_ok : Z_cream := by
  intro M p1 p2 p3 hi
  have hL := hi.1
  obtain ⟨R, h3, hm, hcn⟩ := zt_7 hi
  by_cases hg : ((1 : Int32).toInt ≤ p1.toInt ∧ p1.toInt ≤ (1000000 : Int32).toInt) ∧ ((40 : Int32).toInt ≤ p2.toInt ∧ p2.toInt ≤ (80 : Int32).toInt) ∧ ((0 : Int32).toInt ≤ p3.toInt ∧ p3.toInt ≤ (9 : Int32).toInt)
  · obtain ⟨g0, g1, g2⟩ := hg
    by_cases hf : z_m (q_I M 109) 7 = 10
    · have cf := fun a b d => z_come_full (a := a) (b := b) (d := d) R (by rw [h3, hf])
      have mf : q_lI M 109 (6 : Int32) = some (10 : Int32) := by rw [show (6 : Int32) = nI 6 from rfl, z_st_lit hL (by decide), hcn, hf]; rfl
      refine ⟨-4, M, M, ?_, ?_, hi⟩
      · simp only [f_X11_cream, zob_0 hL, zo_0 hL, zo_1 hL, z_c_within, z_c_isDay, z_c_isPlace, Option.bind_some, z_b0, g0, g1, g2, and_self, if_true, cf]
      · simp only [f_X12_cream, zob_108 hL, zo_108 hL, z_m_in, z_m_isDay, Option.bind_some, z_b0, g0, g1, g2, and_self, if_true, mf]
    · have hlt : z_m (q_I M 109) 7 < 10 := by omega
      obtain ⟨M1, c1, c2, c3, c4⟩ := z_come_in (a := p1) (b := p2) (d := p3) R h3 hlt
      have hL1 : z_Lay M1 := c2.lay hL
      have s9 : ∀ k, q_I M1 109 k = q_I M 109 k := fun k => by rw [c4, if_neg (by omega), if_neg (by omega)]
      refine ⟨nI (z_m (q_I M 109) 7), M1, (q_sI (q_sI (q_sI (q_sI M1 109 (4526 + 3 * (z_m (q_I M 109) 7)) p1) 109 (4526 + 3 * (z_m (q_I M 109) 7) + 1) p2) 109 (4526 + 3 * (z_m (q_I M 109) 7) + 2) p3) 109 6 (nI ((z_m (q_I M 109) 7) + 1))), ?_, ?_, ?_⟩
      · simp only [f_X11_cream, zob_0 hL, zo_0 hL, zo_1 hL, z_c_within, z_c_isDay, z_c_isPlace, Option.bind_some, z_b0, g0, g1, g2, and_self, if_true, c1]
      · have e0 : (4526 : Int32) + (3 : Int32) * nI (z_m (q_I M 109) 7) = nI (4526 + 3 * (z_m (q_I M 109) 7)) := by rw [show (3 : Int32) = nI 3 from rfl, pk_mul, show (4526 : Int32) = nI 4526 from rfl, nI_add]
        have e1 : nI (4526 + 3 * (z_m (q_I M 109) 7)) + (1 : Int32) = nI (4526 + 3 * (z_m (q_I M 109) 7) + 1) := by rw [show (1 : Int32) = nI 1 from rfl, nI_add]
        have e2 : nI (4526 + 3 * (z_m (q_I M 109) 7)) + (2 : Int32) = nI (4526 + 3 * (z_m (q_I M 109) 7) + 2) := by rw [show (2 : Int32) = nI 2 from rfl, nI_add]
        have ne : (nI (z_m (q_I M 109) 7) = (10 : Int32)) = False := eq_false (fun z => hf ((z_full (n := 10) (by omega) (by decide)).mp z))
        have g : q_lI M1 109 (6 : Int32) = some (nI (z_m (q_I M 109) 7)) := by rw [show (6 : Int32) = nI 6 from rfl, z_st_lit hL1 (by decide), s9, hcn]
        have gr : ∀ M3 : q_Mem, z_Lay M3 → q_gR 11 0 M3 108 = some 109 := fun M3 h => (zo_108 h).2.2.2.2.2.1
        have pt : ∀ (M3 : q_Mem) (k : Nat) (v : Int32), z_Lay M3 → k < 4764 → q_tI M3 109 (nI k) v = some (q_sI M3 109 k v) := fun M3 k v h hk => z_st_put h hk
        have L1 : z_Lay (q_sI M1 109 (4526 + 3 * (z_m (q_I M 109) 7)) p1) := hL1
        have L2 : z_Lay (q_sI (q_sI M1 109 (4526 + 3 * (z_m (q_I M 109) 7)) p1) 109 (4526 + 3 * (z_m (q_I M 109) 7) + 1) p2) := hL1
        have L3 : z_Lay (q_sI (q_sI (q_sI M1 109 (4526 + 3 * (z_m (q_I M 109) 7)) p1) 109 (4526 + 3 * (z_m (q_I M 109) 7) + 1) p2) 109 (4526 + 3 * (z_m (q_I M 109) 7) + 2) p3) := hL1
        have k0 : 4526 + 3 * (z_m (q_I M 109) 7) < 4764 := by omega
        have k1 : 4526 + 3 * (z_m (q_I M 109) 7) + 1 < 4764 := by omega
        have k2 : 4526 + 3 * (z_m (q_I M 109) 7) + 2 < 4764 := by omega
        have hx : f_X12_more (q_sI (q_sI (q_sI M1 109 (4526 + 3 * (z_m (q_I M 109) 7)) p1) 109 (4526 + 3 * (z_m (q_I M 109) 7) + 1) p2) 109 (4526 + 3 * (z_m (q_I M 109) 7) + 2) p3) 108 (6 : Int32) = some (nI (z_m (q_I M 109) 7), (q_sI (q_sI (q_sI (q_sI M1 109 (4526 + 3 * (z_m (q_I M 109) 7)) p1) 109 (4526 + 3 * (z_m (q_I M 109) 7) + 1) p2) 109 (4526 + 3 * (z_m (q_I M 109) 7) + 2) p3) 109 6 (nI ((z_m (q_I M 109) 7) + 1)))) := z_more (j := 6) hL1 (by decide) (by rw [z_I_sI, if_neg (by omega), z_I_sI, if_neg (by omega), z_I_sI, if_neg (by omega), s9, hcn])
        simp only [f_X12_cream, zob_108 hL1, z_m_in, z_m_isDay, Option.bind_some, z_b0, g0, g1, g2, and_self, if_true, gr, hL1, L1, L2, L3, g, ne, if_false, e0, e1, e2, pt, k0, k1, k2, hx]
      · refine z_Inv_come (t := 7) (z_row p1 p2 p3) (by decide) (by decide) (by decide) hi hlt c2 c4 ⟨rfl, rfl, rfl⟩ (fun b hb => ?_) (fun k => ?_) (fun hr hmo => ?_)
        · rw [q_sI_ne hb, q_sI_ne hb, q_sI_ne hb, q_sI_ne hb]
        · rw [z_w3' _ _ _ _ _ _ _ (show 6 < 4526 + 3 * (z_m (q_I M 109) 7) by omega), s9]
          rfl
        · have v0 : _ = p1 := hr 0 (by decide)
          have v1 : _ = p2 := hr 1 (by decide)
          have v2 : _ = p3 := hr 2 (by decide)
          generalize q_I (q_sI (q_sI (q_sI (q_sI M1 109 (4526 + 3 * (z_m (q_I M 109) 7)) p1) 109 (4526 + 3 * (z_m (q_I M 109) 7) + 1) p2) 109 (4526 + 3 * (z_m (q_I M 109) 7) + 2) p3) 109 6 (nI ((z_m (q_I M 109) 7) + 1))) 109 = st at *
          have v0 : st (4526 + 3 * (z_m (q_I M 109) 7)) = p1 := v0
          have v1 : st (4526 + 3 * (z_m (q_I M 109) 7) + 1) = p2 := v1
          have v2 : st (4526 + 3 * (z_m (q_I M 109) 7) + 2) = p3 := v2
          refine ⟨?_, ?_, ?_⟩
          · rw [v0]; exact z_bt_of g0 rfl rfl
          · rw [v1]; exact z_bt_of g1 rfl rfl
          · rw [v2]; exact z_bt_of g2 rfl rfl
  · refine ⟨-2, M, M, ?_, ?_, hi⟩
    · by_cases g0 : (1 : Int32).toInt ≤ p1.toInt ∧ p1.toInt ≤ (1000000 : Int32).toInt
      rotate_left
      · simp only [f_X11_cream, zob_0 hL, zo_0 hL, zo_1 hL, z_c_within, z_c_isDay, z_c_isPlace, Option.bind_some, z_b0, g0, and_self, if_true, if_false]
      · by_cases g1 : (40 : Int32).toInt ≤ p2.toInt ∧ p2.toInt ≤ (80 : Int32).toInt
        rotate_left
        · simp only [f_X11_cream, zob_0 hL, zo_0 hL, zo_1 hL, z_c_within, z_c_isDay, z_c_isPlace, Option.bind_some, z_b0, g0, g1, and_self, if_true, if_false]
        · have g2 : ¬ ((0 : Int32).toInt ≤ p3.toInt ∧ p3.toInt ≤ (9 : Int32).toInt) := (fun z => hg ⟨g0, g1, z⟩)
          simp only [f_X11_cream, zob_0 hL, zo_0 hL, zo_1 hL, z_c_within, z_c_isDay, z_c_isPlace, Option.bind_some, z_b0, g0, g1, g2, and_self, if_true, if_false]
    · by_cases g0 : (1 : Int32).toInt ≤ p1.toInt ∧ p1.toInt ≤ (1000000 : Int32).toInt
      rotate_left
      · simp only [f_X12_cream, zob_108 hL, zo_108 hL, z_m_in, z_m_isDay, Option.bind_some, z_b0, g0, and_self, if_true, if_false]
      · by_cases g1 : (40 : Int32).toInt ≤ p2.toInt ∧ p2.toInt ≤ (80 : Int32).toInt
        rotate_left
        · simp only [f_X12_cream, zob_108 hL, zo_108 hL, z_m_in, z_m_isDay, Option.bind_some, z_b0, g0, g1, and_self, if_true, if_false]
        · have g2 : ¬ ((0 : Int32).toInt ≤ p3.toInt ∧ p3.toInt ≤ (9 : Int32).toInt) := (fun z => hg ⟨g0, g1, z⟩)
          simp only [f_X12_cream, zob_108 hL, zo_108 hL, z_m_in, z_m_isDay, Option.bind_some, z_b0, g0, g1, g2, and_self, if_true, if_false]
theorem Z_loan_ok : Z_loan := by
  intro M p1 p2 p3 hi
  have hL := hi.1
  obtain ⟨R, h3, hm, hcn⟩ := zt_10 hi
  by_cases hg : ((1 : Int32).toInt ≤ p1.toInt ∧ p1.toInt ≤ (1000000 : Int32).toInt) ∧ ((0 : Int32).toInt ≤ p2.toInt ∧ p2.toInt ≤ (100 : Int32).toInt) ∧ ((1 : Int32).toInt ≤ p3.toInt ∧ p3.toInt ≤ (100000 : Int32).toInt)
  · obtain ⟨g0, g1, g2⟩ := hg
    by_cases hf : z_m (q_I M 109) 10 = 6
    · have cf := fun a b d => z_come_full (a := a) (b := b) (d := d) R (by rw [h3, hf])
      have mf : q_lI M 109 (9 : Int32) = some (6 : Int32) := by rw [show (9 : Int32) = nI 9 from rfl, z_st_lit hL (by decide), hcn, hf]; rfl
      refine ⟨-4, M, M, ?_, ?_, hi⟩
      · simp only [f_X11_loan, zob_0 hL, zo_0 hL, zo_1 hL, z_c_within, z_c_isDay, z_c_isPlace, Option.bind_some, z_b0, g0, g1, g2, and_self, if_true, cf]
      · simp only [f_X12_loan, zob_108 hL, zo_108 hL, z_m_in, z_m_isDay, Option.bind_some, z_b0, g0, g1, g2, and_self, if_true, mf]
    · have hlt : z_m (q_I M 109) 10 < 6 := by omega
      obtain ⟨M1, c1, c2, c3, c4⟩ := z_come_in (a := p1) (b := p2) (d := p3) R h3 hlt
      have hL1 : z_Lay M1 := c2.lay hL
      have s9 : ∀ k, q_I M1 109 k = q_I M 109 k := fun k => by rw [c4, if_neg (by omega), if_neg (by omega)]
      refine ⟨nI (z_m (q_I M 109) 10), M1, (q_sI (q_sI (q_sI (q_sI M1 109 (4746 + 3 * (z_m (q_I M 109) 10)) p1) 109 (4746 + 3 * (z_m (q_I M 109) 10) + 1) p2) 109 (4746 + 3 * (z_m (q_I M 109) 10) + 2) p3) 109 9 (nI ((z_m (q_I M 109) 10) + 1))), ?_, ?_, ?_⟩
      · simp only [f_X11_loan, zob_0 hL, zo_0 hL, zo_1 hL, z_c_within, z_c_isDay, z_c_isPlace, Option.bind_some, z_b0, g0, g1, g2, and_self, if_true, c1]
      · have e0 : (4746 : Int32) + (3 : Int32) * nI (z_m (q_I M 109) 10) = nI (4746 + 3 * (z_m (q_I M 109) 10)) := by rw [show (3 : Int32) = nI 3 from rfl, pk_mul, show (4746 : Int32) = nI 4746 from rfl, nI_add]
        have e1 : nI (4746 + 3 * (z_m (q_I M 109) 10)) + (1 : Int32) = nI (4746 + 3 * (z_m (q_I M 109) 10) + 1) := by rw [show (1 : Int32) = nI 1 from rfl, nI_add]
        have e2 : nI (4746 + 3 * (z_m (q_I M 109) 10)) + (2 : Int32) = nI (4746 + 3 * (z_m (q_I M 109) 10) + 2) := by rw [show (2 : Int32) = nI 2 from rfl, nI_add]
        have ne : (nI (z_m (q_I M 109) 10) = (6 : Int32)) = False := eq_false (fun z => hf ((z_full (n := 6) (by omega) (by decide)).mp z))
        have g : q_lI M1 109 (9 : Int32) = some (nI (z_m (q_I M 109) 10)) := by rw [show (9 : Int32) = nI 9 from rfl, z_st_lit hL1 (by decide), s9, hcn]
        have gr : ∀ M3 : q_Mem, z_Lay M3 → q_gR 11 0 M3 108 = some 109 := fun M3 h => (zo_108 h).2.2.2.2.2.1
        have pt : ∀ (M3 : q_Mem) (k : Nat) (v : Int32), z_Lay M3 → k < 4764 → q_tI M3 109 (nI k) v = some (q_sI M3 109 k v) := fun M3 k v h hk => z_st_put h hk
        have L1 : z_Lay (q_sI M1 109 (4746 + 3 * (z_m (q_I M 109) 10)) p1) := hL1
        have L2 : z_Lay (q_sI (q_sI M1 109 (4746 + 3 * (z_m (q_I M 109) 10)) p1) 109 (4746 + 3 * (z_m (q_I M 109) 10) + 1) p2) := hL1
        have L3 : z_Lay (q_sI (q_sI (q_sI M1 109 (4746 + 3 * (z_m (q_I M 109) 10)) p1) 109 (4746 + 3 * (z_m (q_I M 109) 10) + 1) p2) 109 (4746 + 3 * (z_m (q_I M 109) 10) + 2) p3) := hL1
        have k0 : 4746 + 3 * (z_m (q_I M 109) 10) < 4764 := by omega
        have k1 : 4746 + 3 * (z_m (q_I M 109) 10) + 1 < 4764 := by omega
        have k2 : 4746 + 3 * (z_m (q_I M 109) 10) + 2 < 4764 := by omega
        have hx : f_X12_more (q_sI (q_sI (q_sI M1 109 (4746 + 3 * (z_m (q_I M 109) 10)) p1) 109 (4746 + 3 * (z_m (q_I M 109) 10) + 1) p2) 109 (4746 + 3 * (z_m (q_I M 109) 10) + 2) p3) 108 (9 : Int32) = some (nI (z_m (q_I M 109) 10), (q_sI (q_sI (q_sI (q_sI M1 109 (4746 + 3 * (z_m (q_I M 109) 10)) p1) 109 (4746 + 3 * (z_m (q_I M 109) 10) + 1) p2) 109 (4746 + 3 * (z_m (q_I M 109) 10) + 2) p3) 109 9 (nI ((z_m (q_I M 109) 10) + 1)))) := z_more (j := 9) hL1 (by decide) (by rw [z_I_sI, if_neg (by omega), z_I_sI, if_neg (by omega), z_I_sI, if_neg (by omega), s9, hcn])
        simp only [f_X12_loan, zob_108 hL1, z_m_in, z_m_isDay, Option.bind_some, z_b0, g0, g1, g2, and_self, if_true, gr, hL1, L1, L2, L3, g, ne, if_false, e0, e1, e2, pt, k0, k1, k2, hx]
      · refine z_Inv_come (t := 10) (z_row p1 p2 p3) (by decide) (by decide) (by decide) hi hlt c2 c4 ⟨rfl, rfl, rfl⟩ (fun b hb => ?_) (fun k => ?_) (fun hr hmo => ?_)
        · rw [q_sI_ne hb, q_sI_ne hb, q_sI_ne hb, q_sI_ne hb]
        · rw [z_w3' _ _ _ _ _ _ _ (show 9 < 4746 + 3 * (z_m (q_I M 109) 10) by omega), s9]
          rfl
        · have v0 : _ = p1 := hr 0 (by decide)
          have v1 : _ = p2 := hr 1 (by decide)
          have v2 : _ = p3 := hr 2 (by decide)
          generalize q_I (q_sI (q_sI (q_sI (q_sI M1 109 (4746 + 3 * (z_m (q_I M 109) 10)) p1) 109 (4746 + 3 * (z_m (q_I M 109) 10) + 1) p2) 109 (4746 + 3 * (z_m (q_I M 109) 10) + 2) p3) 109 9 (nI ((z_m (q_I M 109) 10) + 1))) 109 = st at *
          have v0 : st (4746 + 3 * (z_m (q_I M 109) 10)) = p1 := v0
          have v1 : st (4746 + 3 * (z_m (q_I M 109) 10) + 1) = p2 := v1
          have v2 : st (4746 + 3 * (z_m (q_I M 109) 10) + 2) = p3 := v2
          refine ⟨?_, ?_, ?_⟩
          · rw [v0]; exact z_bt_of g0 rfl rfl
          · rw [v1]; exact z_bt_of g1 rfl rfl
          · rw [v2]; exact z_bt_of g2 rfl rfl
  · refine ⟨-2, M, M, ?_, ?_, hi⟩
    · by_cases g0 : (1 : Int32).toInt ≤ p1.toInt ∧ p1.toInt ≤ (1000000 : Int32).toInt
      rotate_left
      · simp only [f_X11_loan, zob_0 hL, zo_0 hL, zo_1 hL, z_c_within, z_c_isDay, z_c_isPlace, Option.bind_some, z_b0, g0, and_self, if_true, if_false]
      · by_cases g1 : (0 : Int32).toInt ≤ p2.toInt ∧ p2.toInt ≤ (100 : Int32).toInt
        rotate_left
        · simp only [f_X11_loan, zob_0 hL, zo_0 hL, zo_1 hL, z_c_within, z_c_isDay, z_c_isPlace, Option.bind_some, z_b0, g0, g1, and_self, if_true, if_false]
        · have g2 : ¬ ((1 : Int32).toInt ≤ p3.toInt ∧ p3.toInt ≤ (100000 : Int32).toInt) := (fun z => hg ⟨g0, g1, z⟩)
          simp only [f_X11_loan, zob_0 hL, zo_0 hL, zo_1 hL, z_c_within, z_c_isDay, z_c_isPlace, Option.bind_some, z_b0, g0, g1, g2, and_self, if_true, if_false]
    · by_cases g0 : (1 : Int32).toInt ≤ p1.toInt ∧ p1.toInt ≤ (1000000 : Int32).toInt
      rotate_left
      · simp only [f_X12_loan, zob_108 hL, zo_108 hL, z_m_in, z_m_isDay, Option.bind_some, z_b0, g0, and_self, if_true, if_false]
      · by_cases g1 : (0 : Int32).toInt ≤ p2.toInt ∧ p2.toInt ≤ (100 : Int32).toInt
        rotate_left
        · simp only [f_X12_loan, zob_108 hL, zo_108 hL, z_m_in, z_m_isDay, Option.bind_some, z_b0, g0, g1, and_self, if_true, if_false]
        · have g2 : ¬ ((1 : Int32).toInt ≤ p3.toInt ∧ p3.toInt ≤ (100000 : Int32).toInt) := (fun z => hg ⟨g0, g1, z⟩)
          simp only [f_X12_loan, zob_108 hL, zo_108 hL, z_m_in, z_m_isDay, Option.bind_some, z_b0, g0, g1, g2, and_self, if_true, if_false]
