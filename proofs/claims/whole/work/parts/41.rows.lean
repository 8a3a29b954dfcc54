/-! ===== Rows: what its methods say, of any rows whose cells stand ===== -/
/-- what no call writes: the layout, and the cells of the empty set of CREAMS -/
def z_zc (M : q_Mem) : (Nat → Nat → Option Nat) × Int32 × Int64 × Int64 × Int64 := (q_G M, q_I M 104 0, q_J M 103 0, q_J M 105 0, q_J M 106 0)
def z_FR (M M' : q_Mem) : Prop := M'.1 = M.1 ∧ q_K M' = q_K M ∧ z_zc M' = z_zc M
theorem z_FR.g {M M' : q_Mem} (h : z_FR M M') : q_G M' = q_G M := by
  have e := h.2.2
  unfold z_zc at e
  exact (Prod.mk.inj e).1
theorem z_FR.rf {M : q_Mem} : z_FR M M := ⟨rfl, rfl, rfl⟩
theorem z_FR.tr {M M1 M2 : q_Mem} (h : z_FR M M1) (h2 : z_FR M1 M2) : z_FR M M2 := ⟨h2.1.trans h.1, h2.2.1.trans h.2.1, h2.2.2.trans h.2.2⟩
theorem z_FR.sI {M : q_Mem} {a k : Nat} {v : Int32} (h : a ≠ 104 := by first | decide | omega) : z_FR M (q_sI M a k v) := ⟨rfl, rfl, by
  unfold z_zc
  rw [q_sI_ne (Ne.symm h)]
  rfl⟩
theorem z_FR.sJ {M : q_Mem} {a k : Nat} {v : Int64} (h : a ≠ 103 ∧ a ≠ 105 ∧ a ≠ 106 := by first | decide | omega) : z_FR M (q_sJ M a k v) := ⟨rfl, rfl, by
  unfold z_zc
  rw [q_sJ_ne (Ne.symm h.1), q_sJ_ne (Ne.symm h.2.1), q_sJ_ne (Ne.symm h.2.2)]
  rfl⟩
theorem z_FR.lay {M M' : q_Mem} (h : z_FR M M') (hL : z_Lay M) : z_Lay M' := ⟨h.1.trans hL.1, fun a ha => by rw [h.2.1]; exact hL.2.1 a ha, fun a i ha hi => by rw [h.g]; exact hL.2.2 a i ha hi⟩
theorem z_FR.isb {M M' : q_Mem} (h : z_FR M M') (ci a : Nat) : q_isb ci M' a = q_isb ci M a := by unfold q_isb; rw [h.1, h.2.1]
/-- a Rows object r whose cells are the array c, mx rows of w columns -/
def z_R (M : q_Mem) (r c w mx : Nat) : Prop := q_isb 8 M r = true ∧ q_G M r 2 = some c ∧ q_isb 100 M c = true ∧ (q_K M c).2 = mx * w ∧ q_I M r 0 = nI mx ∧ q_I M r 1 = nI w ∧ mx * w < 1048576 ∧ 3 ≤ w ∧ r ≠ c ∧ r ≠ 104 ∧ c ≠ 104
theorem z_pos {i j w mx m : Nat} (hi : i < m) (hm : m ≤ mx) (hj : j < w) : w * i + j < mx * w := by
  have h1 : w * i + w ≤ w * mx := by
    have := Nat.mul_le_mul_left w (show i + 1 ≤ mx by omega)
    rwa [Nat.mul_add, Nat.mul_one] at this
  have h2 : mx * w = w * mx := Nat.mul_comm _ _
  omega
theorem z_w_le {M : q_Mem} {r c w mx : Nat} (R : z_R M r c w mx) (h : 0 < mx) : w < 1048576 := by
  have h1 := R.2.2.2.2.2.2.1
  have h2 : 1 * w ≤ mx * w := Nat.mul_le_mul_right w h
  omega
theorem z_mx_le {M : q_Mem} {r c w mx : Nat} (R : z_R M r c w mx) : mx < 1048576 := by
  have h1 := R.2.2.2.2.2.2.1
  have h2 : mx * 1 ≤ mx * w := Nat.mul_le_mul_left mx (by have := R.2.2.2.2.2.2.2.1; omega)
  omega
theorem z_ix {i j w : Nat} : nI i * nI w + nI j = nI (w * i + j) := by rw [pk_mul, nI_add, Nat.mul_comm]
theorem z_at_in {M : q_Mem} {r c w mx m i j : Nat} (R : z_R M r c w mx) (h3 : q_I M r 3 = nI m) (hm : m ≤ mx) (hi : i < m) (hj : j < w) : f_X9_at M r (nI i) (nI j) = some (q_I M c (w * i + j)) := by
  have hw := z_w_le R (by omega)
  have hmx := z_mx_le R
  have hp := z_pos hi hm hj
  obtain ⟨R1, R2, R3, R4, R5, R6, R7, R8, R9⟩ := R
  have hc := q_isb_iff.mp R3
  have g1 : q_gI 8 3 M r = some (nI m) := by unfold q_gI; rw [if_pos R1, h3]
  have g2 : q_gI 8 1 M r = some (nI w) := by unfold q_gI; rw [if_pos R1, R6]
  have g3 : q_gR 8 2 M r = some c := by unfold q_gR; rw [if_pos R1, R2]
  have g4 : q_ln M c = some (nI (mx * w)) := by unfold q_ln; rw [hc.2, if_pos ⟨hc.1, by decide, by decide⟩, R4]; rfl
  have g5 : q_lI M c (nI (w * i + j)) = some (q_I M c (w * i + j)) := by unfold q_lI; rw [if_pos ⟨R3, by rw [R4]; exact z_inbN hp (by omega)⟩, nI_clamp (by omega)]
  unfold f_X9_at q_ob
  rw [if_pos R1, if_neg (nI_pos (by omega)), g1, Option.bind_some, if_pos (nI_lt hi (by omega)), if_neg (nI_pos (by omega)), g2, Option.bind_some, if_pos (nI_lt hj (by omega)), Option.bind_some, g3, Option.bind_some, g4, Option.bind_some, z_ix, if_pos (nI_lt hp (by omega)), Option.bind_some, g5]
  rfl
theorem z_at_out {M : q_Mem} {r c w mx m : Nat} {x y : Int32} (R : z_R M r c w mx) (h3 : q_I M r 3 = nI m) (hx : x < 0 ∨ ¬ x < nI m) : f_X9_at M r x y = some (-1) := by
  obtain ⟨R1, R2, R3, R4, R5, R6, R7, R8, R9⟩ := R
  have g1 : q_gI 8 3 M r = some (nI m) := by unfold q_gI; rw [if_pos R1, h3]
  unfold f_X9_at q_ob
  rw [if_pos R1]
  by_cases h0 : x < 0
  · rw [if_pos h0]
  · rw [if_neg h0, g1, Option.bind_some, if_neg (hx.resolve_left h0)]
theorem z_put_in {M : q_Mem} {r c w mx m i j : Nat} {v : Int32} (R : z_R M r c w mx) (h3 : q_I M r 3 = nI m) (hm : m ≤ mx) (hi : i < m) (hj : j < w) : f_X9_put M r (nI i) (nI j) v = some (q_sI M c (w * i + j) v) := by
  have hw := z_w_le R (by omega)
  have hmx := z_mx_le R
  have hp := z_pos hi hm hj
  obtain ⟨R1, R2, R3, R4, R5, R6, R7, R8, R9⟩ := R
  have hc := q_isb_iff.mp R3
  have g1 : q_gI 8 3 M r = some (nI m) := by unfold q_gI; rw [if_pos R1, h3]
  have g2 : q_gI 8 1 M r = some (nI w) := by unfold q_gI; rw [if_pos R1, R6]
  have g3 : q_gR 8 2 M r = some c := by unfold q_gR; rw [if_pos R1, R2]
  have g4 : q_ln M c = some (nI (mx * w)) := by unfold q_ln; rw [hc.2, if_pos ⟨hc.1, by decide, by decide⟩, R4]; rfl
  have g5 : q_tI M c (nI (w * i + j)) v = some (q_sI M c (w * i + j) v) := by unfold q_tI; rw [if_pos ⟨R3, by rw [R4]; exact z_inbN hp (by omega)⟩, nI_clamp (by omega)]
  unfold f_X9_put q_ob
  rw [if_pos R1, if_neg (nI_pos (by omega)), g1, Option.bind_some, if_pos (nI_lt hi (by omega)), if_neg (nI_pos (by omega)), g2, Option.bind_some, if_pos (nI_lt hj (by omega)), Option.bind_some, g3, Option.bind_some, g4, Option.bind_some, z_ix, if_pos (nI_lt hp (by omega)), Option.bind_some, g5]
  rfl
theorem z_has {M : q_Mem} {r c w mx m : Nat} {x : Int32} (R : z_R M r c w mx) (h3 : q_I M r 3 = nI m) (hm : m ≤ mx) : f_X9_has M r x = some (q_b (0 ≤ x.toInt ∧ x.toInt < m)) := by
  have hmx := z_mx_le R
  have g1 : q_gI 8 3 M r = some (nI m) := by unfold q_gI; rw [if_pos R.1, h3]
  have e : (nI m).toInt = (m : Int) := nI_toInt (by omega)
  unfold f_X9_has q_ob
  rw [if_pos R.1, g1, Option.bind_some]
  unfold q_b
  by_cases h0 : x < 0
  · rw [if_pos h0, if_neg]
    intro z
    have := (q_lt_iff x 0).mp h0
    have e0 : (0 : Int32).toInt = 0 := rfl
    omega
  · rw [if_neg h0]
    have h1 : ¬ x.toInt < 0 := fun z => h0 ((q_lt_iff x 0).mpr z)
    by_cases h2 : x < nI m
    · have h3 := (q_lt_iff _ _).mp h2
      rw [if_pos h2, if_pos ⟨by omega, by omega⟩]
    · have h3 : ¬ x.toInt < (nI m).toInt := fun z => h2 ((q_lt_iff _ _).mpr z)
      rw [if_neg h2, if_neg (fun z => h3 (by rw [e]; exact z.2))]
/-- rows stay rows where no cell of theirs but the number of rows and the array's own are written -/
theorem z_R.keep {M M' : q_Mem} {r c w mx : Nat} (R : z_R M r c w mx) (h : z_FR M M') (h0 : q_I M' r 0 = q_I M r 0) (h1 : q_I M' r 1 = q_I M r 1) : z_R M' r c w mx :=
  ⟨by rw [h.isb]; exact R.1, by rw [h.g]; exact R.2.1, by rw [h.isb]; exact R.2.2.1, by rw [h.2.1]; exact R.2.2.2.1, h0.trans R.2.2.2.2.1, h1.trans R.2.2.2.2.2.1, R.2.2.2.2.2.2⟩
theorem z_come_full {M : q_Mem} {r c w mx : Nat} {a b d : Int32} (R : z_R M r c w mx) (h3 : q_I M r 3 = nI mx) : f_X9_come M r a b d = some (-4, M) := by
  have hmx := z_mx_le R
  have g1 : q_gI 8 3 M r = some (nI mx) := by unfold q_gI; rw [if_pos R.1, h3]
  have g0 : q_gI 8 0 M r = some (nI mx) := by unfold q_gI; rw [if_pos R.1, R.2.2.2.2.1]
  unfold f_X9_come q_ob
  rw [if_pos R.1, g1, Option.bind_some, g0, Option.bind_some, if_neg (nI_nlt (Nat.le_refl _) (by omega))]
def z_row (a b d : Int32) (j : Nat) : Int32 := if j = 0 then a else if j = 1 then b else if j = 2 then d else -1
theorem z_come_in {M : q_Mem} {r c w mx m : Nat} {a b d : Int32} (R : z_R M r c w mx) (h3 : q_I M r 3 = nI m) (hm : m < mx) :
    ∃ M' : q_Mem, f_X9_come M r a b d = some (nI m, M') ∧ z_FR M M' ∧ q_J M' = q_J M ∧ ∀ b' j', q_I M' b' j' = if b' = r ∧ j' = 3 then nI (m + 1) else if b' = c ∧ w * m ≤ j' ∧ j' < w * m + w then z_row a b d (j' - w * m) else q_I M b' j' := by
  have hw := z_w_le R (by omega)
  have hmx := z_mx_le R
  have hw3 := R.2.2.2.2.2.2.2.1
  have hrc := R.2.2.2.2.2.2.2.2.1
  have hr4 := R.2.2.2.2.2.2.2.2.2.1
  have hc4 := R.2.2.2.2.2.2.2.2.2.2
  have g1 : q_gI 8 3 M r = some (nI m) := by unfold q_gI; rw [if_pos R.1, h3]
  have g0 : q_gI 8 0 M r = some (nI mx) := by unfold q_gI; rw [if_pos R.1, R.2.2.2.2.1]
  have gp : q_pI 8 3 M r (nI m + 1) = some (q_sI M r 3 (nI (m + 1))) := by unfold q_pI; rw [if_pos R.1, ← nI_succ]
  -- what holds of every memory on the way
  let Pw : Nat → q_Mem → Prop := fun i M1 => z_FR M M1 ∧ q_J M1 = q_J M ∧ ∀ b' j', q_I M1 b' j' = if b' = r ∧ j' = 3 then nI (m + 1) else if b' = c ∧ w * m ≤ j' ∧ j' < w * m + i then -1 else q_I M b' j'
  have hR : ∀ i M1, Pw i M1 → z_R M1 r c w mx ∧ q_I M1 r 3 = nI (m + 1) := by
    intro i M1 h
    refine ⟨R.keep h.1 ?_ ?_, ?_⟩
    · rw [h.2.2, if_neg (by omega), if_neg (fun z => hrc z.1)]
    · rw [h.2.2, if_neg (by omega), if_neg (fun z => hrc z.1)]
    · rw [h.2.2, if_pos ⟨rfl, rfl⟩]
  have h0 : Pw 0 (q_sI M r 3 (nI (m + 1))) := by
    refine ⟨z_FR.sI hr4, rfl, fun b' j' => ?_⟩
    rw [z_I_sI]
    split
    · rfl
    · rw [if_neg (by omega)]
  have hstep : ∀ i M1, i < w → Pw i M1 → Pw (i + 1) (q_sI M1 c (w * m + i) (-1)) := by
    intro i M1 hi h
    refine ⟨h.1.tr (z_FR.sI hc4), h.2.1, fun b' j' => ?_⟩
    rw [z_I_sI, h.2.2]
    by_cases e1 : b' = c ∧ j' = w * m + i
    · rw [if_pos e1, if_neg (fun z => hrc (z.1.symm.trans e1.1)), if_pos ⟨e1.1, by omega, by omega⟩]
    · rw [if_neg e1]
      by_cases e2 : b' = r ∧ j' = 3
      · rw [if_pos e2, if_pos e2]
      · rw [if_neg e2, if_neg e2]
        by_cases e3 : b' = c ∧ w * m ≤ j' ∧ j' < w * m + i
        · rw [if_pos e3, if_pos ⟨e3.1, e3.2.1, by omega⟩]
        · rw [if_neg e3, if_neg (fun z => by
            rcases Nat.lt_or_ge j' (w * m + i) with h5 | h5
            · exact e3 ⟨z.1, z.2.1, h5⟩
            · exact e1 ⟨z.1, by omega⟩)]
  have loop : ∀ (n i fu : Nat) (M1 : q_Mem), i + n = w → n < fu → Pw i M1 → ∃ M2, Pw w M2 ∧ f_X9_come_b33 r a b d (nI m) fu (nI i) M1 = f_X9_come_b57 M2 r a b d (nI m) := by
    intro n
    induction n with
    | zero =>
      intro i fu M1 hi hf h
      obtain ⟨g, rfl⟩ : ∃ g, fu = g + 1 := ⟨fu - 1, by omega⟩
      obtain rfl : i = w := by omega
      have gw : q_gI 8 1 M1 r = some (nI i) := by unfold q_gI; rw [if_pos (hR _ _ h).1.1, (hR _ _ h).1.2.2.2.2.2.1]
      exact ⟨M1, h, by rw [f_X9_come_b33.eq_2, gw, Option.bind_some, if_neg (nI_nlt (Nat.le_refl _) (by omega))]⟩
    | succ n ih =>
      intro i fu M1 hi hf h
      obtain ⟨g, rfl⟩ : ∃ g, fu = g + 1 := ⟨fu - 1, by omega⟩
      have gw : q_gI 8 1 M1 r = some (nI w) := by unfold q_gI; rw [if_pos (hR _ _ h).1.1, (hR _ _ h).1.2.2.2.2.2.1]
      obtain ⟨M2, h1, h2⟩ := ih (i + 1) g (q_sI M1 c (w * m + i) (-1)) (by omega) (by omega) (hstep i M1 (by omega) h)
      refine ⟨M2, h1, ?_⟩
      rw [f_X9_come_b33.eq_2, gw, Option.bind_some, if_pos (nI_lt (show i < w by omega) (by omega)), z_put_in (hR _ _ h).1 (hR _ _ h).2 (by omega) (by omega) (by omega), Option.bind_some, ← nI_succ]
      exact h2
  obtain ⟨M2, h4, h5⟩ := loop w 0 q_fuel _ (by omega) (by unfold q_fuel; omega) h0
  have e0 := z_put_in (M := M2) (i := m) (j := 0) (v := a) (hR _ _ h4).1 (hR _ _ h4).2 (by omega) (by omega) (by omega)
  have k1 : z_R (q_sI M2 c (w * m + 0) a) r c w mx := (hR _ _ h4).1.keep (z_FR.sI hc4) (by rw [z_I_sI, if_neg (fun z => hrc z.1)]) (by rw [z_I_sI, if_neg (fun z => hrc z.1)])
  have t1 : q_I (q_sI M2 c (w * m + 0) a) r 3 = nI (m + 1) := by rw [z_I_sI, if_neg (fun z => hrc z.1)]; exact (hR _ _ h4).2
  have e1 := z_put_in (i := m) (j := 1) (v := b) k1 t1 (by omega) (by omega) (by omega)
  have k2 : z_R (q_sI (q_sI M2 c (w * m + 0) a) c (w * m + 1) b) r c w mx := k1.keep (z_FR.sI hc4) (by rw [z_I_sI, if_neg (fun z => hrc z.1)]) (by rw [z_I_sI, if_neg (fun z => hrc z.1)])
  have t2 : q_I (q_sI (q_sI M2 c (w * m + 0) a) c (w * m + 1) b) r 3 = nI (m + 1) := by rw [z_I_sI, if_neg (fun z => hrc z.1)]; exact t1
  have e2 := z_put_in (i := m) (j := 2) (v := d) k2 t2 (by omega) (by omega) (by omega)
  refine ⟨q_sI (q_sI (q_sI M2 c (w * m + 0) a) c (w * m + 1) b) c (w * m + 2) d, ?_, ((h4.1.tr (z_FR.sI hc4)).tr (z_FR.sI hc4)).tr (z_FR.sI hc4), h4.2.1, fun b' j' => ?_⟩
  · unfold f_X9_come q_ob
    rw [if_pos R.1, g1, Option.bind_some, g0, Option.bind_some, if_pos (nI_lt hm (by omega)), Option.bind_some, Option.bind_some, gp, Option.bind_some]
    refine Eq.trans h5 ?_
    unfold f_X9_come_b57
    rw [show (0 : Int32) = nI 0 from rfl, show (1 : Int32) = nI 1 from rfl, show (2 : Int32) = nI 2 from rfl, e0, Option.bind_some, e1, Option.bind_some, e2]
    rfl
  · rw [z_I_sI, z_I_sI, z_I_sI, h4.2.2]
    unfold z_row
    by_cases q1 : b' = r ∧ j' = 3
    · rw [if_pos q1, if_neg (fun z => hrc (q1.1.symm.trans z.1)), if_neg (fun z => hrc (q1.1.symm.trans z.1)), if_neg (fun z => hrc (q1.1.symm.trans z.1)), if_pos q1]
    · rw [if_neg q1, if_neg q1]
      by_cases q2 : b' = c ∧ w * m ≤ j' ∧ j' < w * m + w
      · rw [if_pos q2, if_pos q2]
        obtain ⟨q3, q4, q5⟩ := q2
        by_cases p2 : j' = w * m + 2
        · rw [if_pos ⟨q3, p2⟩, if_neg (by omega), if_neg (by omega), if_pos (by omega)]
        · rw [if_neg (fun z => p2 z.2)]
          by_cases p1 : j' = w * m + 1
          · rw [if_pos ⟨q3, p1⟩, if_neg (by omega), if_pos (by omega)]
          · rw [if_neg (fun z => p1 z.2)]
            by_cases p0 : j' = w * m + 0
            · rw [if_pos ⟨q3, p0⟩, if_pos (by omega)]
            · rw [if_neg (fun z => p0 z.2), if_neg (by omega), if_neg (by omega), if_neg (by omega)]
      · rw [if_neg q2, if_neg q2, if_neg (fun z => q2 ⟨z.1, by omega, by omega⟩), if_neg (fun z => q2 ⟨z.1, by omega, by omega⟩), if_neg (fun z => q2 ⟨z.1, by omega, by omega⟩)]
