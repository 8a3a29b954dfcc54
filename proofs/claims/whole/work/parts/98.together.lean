/-! ===== together, heap ===== -/
theorem h_sh64 : ∀ c, c < 10 → ((nI (4 * (9 - c))).toInt64 &&& 63).toBitVec.smod 64#64 = BitVec.ofNat 64 (4 * (9 - c)) := by decide +kernel
theorem h_shrL {R c : Nat} (hR : R < 2 ^ 62) (hc : c < 10) : lN R >>> ((nI (4 * (9 - c))).toInt64 &&& 63) = lN (R / 2 ^ (4 * (9 - c))) := by
  apply Int64.toInt_inj.mp
  have e : (lN R >>> ((nI (4 * (9 - c))).toInt64 &&& 63)).toInt = ((lN R).toBitVec.sshiftRight' (((nI (4 * (9 - c))).toInt64 &&& 63).toBitVec.smod 64#64)).toInt := rfl
  have hq : R / 2 ^ (4 * (9 - c)) ≤ R := Nat.div_le_self _ _
  rw [e, h_sh64 c hc, BitVec.toInt_sshiftRight', Int.shiftRight_eq_div_pow, BitVec.toNat_ofNat, Nat.mod_eq_of_lt (by omega), pk_lT (by omega)]
  have e2 : (lN R).toBitVec.toInt = (R : Int) := pk_lT (by omega)
  rw [e2]
  norm_cast
theorem zb_least {M My : q_Mem} (hi : z_Inv M) (hS : z_sm M My) {w : Nat × Nat × Nat} (hV : z_V3 w My (2 ^ z_m (q_I M 109) 7 - 1)) (hb : h_vb (2 ^ z_m (q_I M 109) 7 - 1) w) {c : Nat} (hc : c < 10) : f_X2_leastOfHeap My 101 (nI c) = some (nI (w.2.2 / 2 ^ (4 * (9 - c)) % 16)) := by
  have hX := (hi.sm hS).1
  have h10 := (zt_7 hi).2.2.1
  have h1024 : 2 ^ z_m (q_I M 109) 7 ≤ 1024 := Nat.pow_le_pow_right (n := 2) (by decide) h10
  have hpos : 0 < 2 ^ z_m (q_I M 109) 7 := Nat.pow_pos (by decide)
  obtain ⟨b1, b2, b3⟩ := hb
  have q1 : (nI (2 ^ z_m (q_I M 109) 7 - 1) < 0) = False := eq_false (nI_pos (by omega))
  have q2 : (nI (2 ^ z_m (q_I M 109) 7 - 1) < (1024 : Int32)) = True := eq_true (nI_lt (b := 1024) (by omega) (by decide))
  have m15 : (15 : Int32) = nI 15 := rfl
  have an : ∀ x : Nat, x &&& 15 = x % 16 := fun x => Nat.and_two_pow_sub_one_eq_mod x 4
  have sh := h_shrL (R := w.2.2) (c := c) (by omega) hc
  have rd := (za_105 hX).2.1 (2 ^ z_m (q_I M 109) 7 - 1) (by omega)
  rw [hV.2.2] at rd
  have g4 : q_gR 1 4 My 101 = some 105 := by simp only [zo_101 hX]
  unfold f_X2_leastOfHeap
  rw [zob_101 hX, zb_all hi hS, Option.bind_some, if_neg (by rw [q1]; exact fun z => z), if_pos (by rw [q2]; trivial), g4, Option.bind_some, rd, Option.bind_some, zb_shift My c hc, Option.bind_some, sh, lN_i, m15, r_nand, an]
theorem zb_lost {M My : q_Mem} (hi : z_Inv M) (hS : z_sm M My) {w : Nat × Nat × Nat} (hV : z_V3 w My (2 ^ z_m (q_I M 109) 7 - 1)) : f_X2_lost My 101 = some (if 0 < z_m (q_I M 109) 7 then lN w.1 else 0) := by
  have hX := (hi.sm hS).1
  have h10 := (zt_7 hi).2.2.1
  have h1024 : 2 ^ z_m (q_I M 109) 7 ≤ 1024 := Nat.pow_le_pow_right (n := 2) (by decide) h10
  have g2 : q_gR 1 2 My 101 = some 103 := by simp only [zo_101 hX]
  unfold f_X2_lost
  rw [zob_101 hX, zb_all hi hS, Option.bind_some]
  rcases Nat.eq_zero_or_pos (z_m (q_I M 109) 7) with z | z
  · have e0 : 2 ^ z_m (q_I M 109) 7 - 1 = 0 := by rw [z]
    rw [if_neg (show ¬ (0 : Int32) < nI (2 ^ z_m (q_I M 109) 7 - 1) from nI_nlt (a := 0) (by omega) (by decide)), if_neg (by omega)]
  · have e1 : 2 ^ 1 ≤ 2 ^ z_m (q_I M 109) 7 := Nat.pow_le_pow_right (by decide) z
    have rd := (za_103 hX).2.1 (2 ^ z_m (q_I M 109) 7 - 1) (by omega)
    rw [hV.1] at rd
    rw [if_pos (show (0 : Int32) < nI (2 ^ z_m (q_I M 109) 7 - 1) from nI_lt (a := 0) (by omega) (by omega)), if_pos (show nI (2 ^ z_m (q_I M 109) 7 - 1) < (1024 : Int32) from nI_lt (b := 1024) (by omega) (by decide)), g2, Option.bind_some, rd, Option.bind_some, if_pos z]
theorem z_k15 {p1 : Int32} (g0 : (1 : Int32).toInt ≤ p1.toInt ∧ p1.toInt ≤ (5 : Int32).toInt) : ∃ k, 0 < k ∧ k ≤ 5 ∧ p1 = nI k := by
  have h1 : (1 : Int32).toInt = 1 := rfl
  have h5 : (5 : Int32).toInt = 5 := rfl
  obtain ⟨k, hk, rfl⟩ := z_of (v := p1) (n := 6) ⟨by omega, by omega⟩ (by decide)
  rw [nI_toInt (by omega)] at g0
  exact ⟨k, by omega, by omega, rfl⟩
theorem Z_together_ok : Z_together := by
  intro M p1 hi
  have hL := hi.1
  by_cases g0 : (1 : Int32).toInt ≤ p1.toInt ∧ p1.toInt ≤ (5 : Int32).toInt
  · obtain ⟨k, k0, k5, rfl⟩ := z_k15 g0
    have h10 := (zt_7 hi).2.2.1
    obtain ⟨V, My, r1, r2, r3, r4, r5⟩ := zb_plan hi k0 k5
    obtain ⟨Mz, s1, s2, s3, s4⟩ := zh_find hi r2.sm k5
    have hY := (hi.sm r2.sm).1
    have hZ := (hi.sm s2).1
    have ls := zb_lost hi r2.sm r4
    refine ⟨if 0 < z_m (q_I M 109) 7 then lN (V (2 ^ z_m (q_I M 109) 7 - 1)).1 else 0, My, Mz, ?_, ?_, hi.sm s2⟩
    · simp only [f_X11_together, zob_0 hL, zo_0 hL, z_c_within, Option.bind_some, z_b0, g0, and_self, if_true, r1, zo_0 hY, ls]
    · have mdl : f_X12_together My 108 (nI k) = if q_J Mz 108 29 < (0 : Int64) then some ((0 : Int64), Mz) else some (q_J Mz 108 29, Mz) := by
        simp only [f_X12_together, zob_108 hY, z_m_in, Option.bind_some, z_b0, g0, and_self, if_true, s1, zo_108 hZ]
      rw [mdl]
      rcases Nat.eq_zero_or_pos (z_m (q_I M 109) 7) with z | z
      · rw [s3 z, if_pos (show (-1 : Int64) < 0 by decide), if_neg (by omega)]
      · obtain ⟨p, p1, p2, p3, p4⟩ := h_main r3 h10
        have b := s4 z
        rw [p1] at b
        obtain ⟨b1, b2, b3, b4, b5⟩ := b
        have n1 : ¬ lN (h_val (h_F (q_I M 109) (z_m (q_I M 109) 7)) p).1 < (0 : Int64) := fun y => by
          have := (pk_lLT (a := (h_val (h_F (q_I M 109) (z_m (q_I M 109) 7)) p).1) (b := 0) (by omega) (by decide)).mp y
          omega
        rw [b1, if_neg n1, if_pos z, p2]
  · refine ⟨-2, M, M, ?_, ?_, hi⟩
    · simp only [f_X11_together, zob_0 hL, z_c_within, Option.bind_some, z_b0, g0, if_false]
    · simp only [f_X12_together, zob_108 hL, z_m_in, Option.bind_some, z_b0, g0, if_false]
theorem zh_look {Mz : q_Mem} (hZ : z_Lay Mz) {p : List Nat} (hr : h_rg p) (h10 : p.length ≤ 10) (hB : ∀ c, c < p.length → q_I Mz 129 c = nI (p.getD c 0)) {c : Nat} (hc : c < p.length) : ∀ (d i fu : Nat), i + d = h_di p c → d < fu → f_X12_heap_b29 Mz 108 (nI c) fu (nI i) = some (nI (h_di p c), Mz) := by
  have dl := h_di_le hc
  have vb : ∀ j, j < p.length → p.getD j 0 < 100 := fun j hj => by have := h_rg_le hr j j (Nat.le_refl _) hj; omega
  have r2 := (za_129 hZ).2.1 c (by omega)
  rw [hB c hc] at r2
  intro d
  induction d with
  | zero =>
    intro i fu hd hf
    obtain ⟨g, rfl⟩ : ∃ g, fu = g + 1 := ⟨fu - 1, by omega⟩
    obtain rfl : i = h_di p c := by omega
    have r1 := (za_129 hZ).2.1 (h_di p c) (by omega)
    rw [hB _ (by omega)] at r1
    have e : p.getD (h_di p c) 0 = p.getD c 0 := (h_ix_at p c hc rfl).2
    rw [e] at r1
    simp only [f_X12_heap_b29.eq_2, zo_108 hZ, r1, r2, Option.bind_some, if_true]
  | succ d ih =>
    intro i fu hd hf
    obtain ⟨g, rfl⟩ : ∃ g, fu = g + 1 := ⟨fu - 1, by omega⟩
    have r1 := (za_129 hZ).2.1 i (by omega)
    rw [hB i (by omega)] at r1
    have ne : (nI (p.getD i 0) = nI (p.getD c 0)) = False := eq_false (fun z => by
      have v1 := vb i (by omega)
      have v2 := vb c hc
      have z := (nI_eq (by omega) (by omega)).mp z
      have := h_ix_le p i (by omega) z
      have e : h_di p c = h_ix (p.getD c 0) p := rfl
      omega)
    simp only [f_X12_heap_b29.eq_2, zo_108 hZ, r1, r2, Option.bind_some, ne, if_false, nI_1]
    exact ih (i + 1) g (by omega) (by omega)
theorem Z_heap_ok : Z_heap := by
  intro M p1 p2 hi
  have hL := hi.1
  obtain ⟨R, h3, h10, hcn⟩ := zt_7 hi
  have hh := z_has (x := p2) R h3 h10
  have hs := fun M2 (hL2 : z_Lay M2) (e9 : q_I M2 109 = q_I M 109) => z_m_is (t := 7) (x := p2) (j := 6) hL2 (by decide) (m := z_m (q_I M 109) 7) (by rw [e9]; exact hcn) (by omega)
  have hs : ∀ M2, z_Lay M2 → q_I M2 109 = q_I M 109 → f_X12_is M2 108 (6 : Int32) p2 = _ := hs
  by_cases g0 : (1 : Int32).toInt ≤ p1.toInt ∧ p1.toInt ≤ (5 : Int32).toInt
  · by_cases g1 : 0 ≤ p2.toInt ∧ p2.toInt < (z_m (q_I M 109) 7 : Int)
    · obtain ⟨k, k0, k5, rfl⟩ := z_k15 g0
      obtain ⟨c, hc, rfl⟩ := z_of g1 (by omega)
      obtain ⟨V, My, r1, r2, r3, r4, r5⟩ := zb_plan hi k0 k5
      obtain ⟨Mz, s1, s2, s3, s4⟩ := zh_find hi r2.sm k5
      have hY := (hi.sm r2.sm).1
      have hZ := (hi.sm s2).1
      obtain ⟨p, p1, p2, p3, p4⟩ := h_main r3 h10
      have b := s4 (by omega)
      rw [p1] at b
      obtain ⟨b1, b2, b3, b4, b5⟩ := b
      have ls := zb_least hi r2.sm r4 r5 (c := c) (by omega)
      rw [p2] at ls
      have dg := h_row_dig (p := p) (by omega) (c := c) (by omega)
      have ls : f_X2_leastOfHeap My 101 (nI c) = some (nI (h_row p / 2 ^ (4 * (9 - c)) % 16)) := ls
      rw [dg] at ls
      have dl := h_di_le (p := p) (c := c) (by omega)
      have lk := zh_look hZ p4 (by omega) (fun c hc => b5 c (by omega)) (c := c) (by omega) (h_di p c) 0 q_fuel (by omega) (z_fu (by omega))
      have lk : f_X12_heap_b29 Mz 108 (nI c) q_fuel (0 : Int32) = _ := lk
      refine ⟨nI (h_di p c), My, Mz, ?_, ?_, hi.sm s2⟩
      · simp only [f_X11_heap, zob_0 hL, zo_0 hL, zo_1 hL, z_c_within, hh, Option.bind_some, z_b0, g0, g1, and_self, if_true, r1, zo_0 hY, ls]
      · simp only [f_X12_heap, zob_108 hY, z_m_in, hs My hY (z_inv9 r2.sm), Option.bind_some, z_b0, g0, g1, and_self, if_true, s1, lk]
    · refine ⟨-2, M, M, ?_, ?_, hi⟩
      · simp only [f_X11_heap, zob_0 hL, zo_0 hL, zo_1 hL, z_c_within, hh, Option.bind_some, z_b0, g0, g1, and_self, if_true, if_false]
      · simp only [f_X12_heap, zob_108 hL, z_m_in, hs M hL rfl, Option.bind_some, z_b0, g0, g1, and_self, if_true, if_false]
  · refine ⟨-2, M, M, ?_, ?_, hi⟩
    · simp only [f_X11_heap, zob_0 hL, z_c_within, Option.bind_some, z_b0, g0, if_false]
    · simp only [f_X12_heap, zob_108 hL, z_m_in, Option.bind_some, z_b0, g0, if_false]
