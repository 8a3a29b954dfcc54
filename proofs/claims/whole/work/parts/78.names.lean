/-! ===== gathered by the class, found by the model ===== -/
theorem z_sJ_ne {M : q_Mem} {a k b : Nat} {v : Int64} (h : b ≠ a) : q_J (q_sJ M a k v) b = q_J M b := by
  funext j
  show (if b = a ∧ j = k then v else q_J M b j) = q_J M b j
  rw [if_neg (fun z => h z.1)]
theorem zs_learnedC {M : q_Mem} (hL : z_Lay M) {i : Nat} (h : i < 200) : f_X6_rateLearned M 78 (nI i) = some (q_I M 79 i) := by
  have n1 : (nI i < 0) = False := eq_false (nI_pos (by omega))
  have hn2 : (nI i < nI 200) = True := eq_true (nI_lt (by omega) (by decide))
  simp only [f_X6_rateLearned, zob_78 hL, n1, if_false, zo_78 hL, za_79 hL, Option.bind_some, hn2, if_true, (za_79 hL).2.1 i h]
def z_PH (Mb M : q_Mem) (fk : Nat → Int64) (rt : Nat → Int32) (wk : Int32) (k : Nat) : Prop := z_FR Mb M ∧ (∀ a, ¬ z_ga a → q_I M a = q_I Mb a) ∧ (∀ a, a ≠ 90 → q_J M a = q_J Mb a) ∧ (∀ f, f < 20 → q_I M 89 f = z_gW (q_I Mb 109) wk f (z_m (q_I Mb 109) 1) ∧ q_J M 90 f = z_gF (q_I Mb 109) fk wk f (z_m (q_I Mb 109) 1) ∧ q_I M 91 f = z_gN (q_I Mb 109) wk f (z_m (q_I Mb 109) 1) ∧ q_I M 92 f = z_gO (q_I Mb 109) wk f (z_m (q_I Mb 109) 1)) ∧ ∀ f, f < 20 → q_I M 93 f = z_gT (q_I Mb 109) rt wk f k
theorem zq_gT {Mb : q_Mem} {fk : Nat → Int64} {rt : Nat → Int32} {wk : Int32} (hi : z_Inv Mb) (hrt : ∀ k, k < z_m (q_I Mb 109) 2 → q_I Mb 79 k = rt k) : ∀ (d k fu : Nat) (M : q_Mem), k + d = z_m (q_I Mb 109) 2 → d < fu → z_PH Mb M fk rt wk k → ∃ M', f_X7_gather_b78 88 wk fu (nI k) M = some M' ∧ z_PH Mb M' fk rt wk (z_m (q_I Mb 109) 2) := by
  obtain ⟨R0, h30, hm0, _⟩ := zt_0 hi
  obtain ⟨R, h3, hm, hcn⟩ := zt_2 hi
  intro d
  induction d with
  | zero =>
    intro k fu M hd hf h
    obtain ⟨g, rfl⟩ : ∃ g, fu = g + 1 := ⟨fu - 1, by omega⟩
    obtain rfl : k = z_m (q_I Mb 109) 2 := by omega
    have hM := h.1.lay hi.1
    have e3 : q_I M 6 3 = nI (z_m (q_I Mb 109) 2) := by rw [h.2.1 6 (by unfold z_ga; omega)]; exact h3
    have hn : (nI (z_m (q_I Mb 109) 2) < nI (z_m (q_I Mb 109) 2)) = False := eq_false (nI_nlt (Nat.le_refl _) (by omega))
    simp only [f_X7_gather_b78.eq_2, zo_88 hM, zo_1 hM, zo_6 hM, e3, Option.bind_some, hn, if_false]
    exact ⟨M, rfl, h⟩
  | succ d ih =>
    intro k fu M hd hf h
    obtain ⟨g, rfl⟩ : ∃ g, fu = g + 1 := ⟨fu - 1, by omega⟩
    have hk : k < z_m (q_I Mb 109) 2 := by omega
    have hM := h.1.lay hi.1
    have hs : z_sm Mb M := ⟨h.1, fun a ha => h.2.1 a (fun z => by unfold z_ga at z; unfold z_core at ha; omega)⟩
    have hiM := hi.sm hs
    have e9 := z_inv9 hs
    have e3 : q_I M 6 3 = nI (z_m (q_I Mb 109) 2) := by rw [h.2.1 6 (by unfold z_ga; omega)]; exact h3
    have hn : (nI k < nI (z_m (q_I Mb 109) 2)) = True := eq_true (nI_lt hk (by omega))
    obtain ⟨fa, hfa, efa⟩ : z_id (q_I Mb 109 (1300 + 7 * k)) (z_m (q_I Mb 109) 0) := (hi.2.2.2.2.1.2.2.2 2 (by decide) k hk).1
    have h20 : fa < 20 := by omega
    have c0 : (nI fa < 0) = False := eq_false (nI_pos (by omega))
    have c20 : (nI fa < (20 : Int32)) = True := eq_true (nI_lt (b := 20) h20 (by decide))
    have r2 := zr_2 hiM (i := k) (by rw [e9]; exact hk)
    simp only [e9, efa] at r2
    have rl : f_X6_rateLearned M 78 (nI k) = some (rt k) := by
      rw [zs_learnedC hM (by omega), h.2.1 79 (by unfold z_ga; omega), hrt k hk]
    obtain ⟨a1, a2, a3, a4, a5⟩ := h
    have stay : (∀ f, f < 20 → z_ti (q_I Mb 109) rt wk f k = false) → z_PH Mb M fk rt wk (k + 1) := fun hn => by
      refine ⟨a1, a2, a3, a4, fun f hf => (a5 f hf).trans ?_⟩
      show _ = (if z_ti (q_I Mb 109) rt wk f k = true then _ else _)
      rw [hn f hf, if_neg (by decide)]; rfl
    by_cases cr : rt k = -1
    · simp only [f_X7_gather_b78.eq_2, zo_88 hM, zo_1 hM, zo_6 hM, e3, Option.bind_some, hn, if_true, r2, c0, c20, if_false, rl, cr, ← nI_succ]
      exact ih _ _ _ (by omega) (by omega) (stay (fun f _ => by unfold z_ti; rw [if_pos cr, ite_self]))
    · by_cases cw : q_I Mb 109 (1300 + 7 * k + 1) / 7 = wk
      · simp only [f_X7_gather_b78.eq_2, zo_88 hM, zo_1 hM, zo_6 hM, e3, Option.bind_some, hn, if_true, r2, c0, c20, if_false, rl, cr, z_dv0 (show (7 : Int32) ≠ 0 by decide), cw, (za_93 hM).2.1 fa h20, (za_93 hM).2.2 fa _ h20, ← nI_succ]
        refine ih _ _ _ (by omega) (by omega) ⟨a1.tr ⟨rfl, rfl, rfl⟩, fun a ha => ?_, a3, fun f hf => ?_, fun f hf => ?_⟩
        · rw [q_sI_ne (fun z => ha (by unfold z_ga; omega))]; exact a2 a ha
        · obtain ⟨b1, b2, b3, b4⟩ := a4 f hf
          exact ⟨by rw [z_I_sI, if_neg (by omega)]; exact b1, b2, by rw [z_I_sI, if_neg (by omega)]; exact b3, by rw [z_I_sI, if_neg (by omega)]; exact b4⟩
        · have ti : z_ti (q_I Mb 109) rt wk f k = if fa = f then true else false := by
            unfold z_ti
            rw [efa, if_neg cr, if_pos cw]
            have e : (nI fa = nI f) = (fa = f) := z_nI_in (by omega) (by omega)
            by_cases z : fa = f
            · rw [if_pos z, if_pos (by rw [e]; exact z)]
            · rw [if_neg z, if_neg (by rw [e]; exact z)]
          by_cases z : fa = f
          · subst z
            rw [if_pos rfl] at ti
            rw [z_I_sI, if_pos ⟨rfl, rfl⟩, a5 fa hf]
            show _ = (if z_ti (q_I Mb 109) rt wk fa k = true then _ else _)
            rw [ti, if_pos rfl]; rfl
          · rw [if_neg z] at ti
            rw [z_I_sI, if_neg (by omega), a5 f hf]
            show _ = (if z_ti (q_I Mb 109) rt wk f k = true then _ else _)
            rw [ti, if_neg (by decide)]; rfl
      · simp only [f_X7_gather_b78.eq_2, zo_88 hM, zo_1 hM, zo_6 hM, e3, Option.bind_some, hn, if_true, r2, c0, c20, if_false, rl, cr, z_dv0 (show (7 : Int32) ≠ 0 by decide), cw, ← nI_succ]
        exact ih _ _ _ (by omega) (by omega) (stay (fun f _ => by unfold z_ti; rw [if_neg cw, ite_self, ite_self]))
theorem zq_gC {Mb : q_Mem} {fk : Nat → Int64} {wk : Int32} (hi : z_Inv Mb) (hfat : ∀ M', z_sm Mb M' → q_I M' 79 = q_I Mb 79 → ∀ c, c < z_m (q_I Mb 109) 1 → f_X6_fatOfCan M' 78 (nI c) = some (fk c)) : ∀ (d k fu : Nat) (M : q_Mem), k + d = z_m (q_I Mb 109) 1 → d < fu → z_PG Mb M fk wk k → ∃ M', f_X7_gather_b50 88 wk fu (nI k) M = f_X7_gather_b78 88 wk q_fuel (0 : Int32) M' ∧ z_PG Mb M' fk wk (z_m (q_I Mb 109) 1) := by
  obtain ⟨R, h3, hm, hcn⟩ := zt_1 hi
  intro d
  induction d with
  | zero =>
    intro k fu M hd hf h
    obtain ⟨g, rfl⟩ : ∃ g, fu = g + 1 := ⟨fu - 1, by omega⟩
    obtain rfl : k = z_m (q_I Mb 109) 1 := by omega
    have hM := h.1.lay hi.1
    have e3 : q_I M 4 3 = nI (z_m (q_I Mb 109) 1) := by rw [h.2.1 4 (by unfold z_ga; omega)]; exact h3
    have hn : (nI (z_m (q_I Mb 109) 1) < nI (z_m (q_I Mb 109) 1)) = False := eq_false (nI_nlt (Nat.le_refl _) (by omega))
    simp only [f_X7_gather_b50.eq_2, zo_88 hM, zo_1 hM, zo_4 hM, e3, Option.bind_some, hn, if_false]
    exact ⟨M, rfl, h⟩
  | succ d ih =>
    intro k fu M hd hf h
    obtain ⟨g, rfl⟩ : ∃ g, fu = g + 1 := ⟨fu - 1, by omega⟩
    have hk : k < z_m (q_I Mb 109) 1 := by omega
    have hM := h.1.lay hi.1
    have e3 : q_I M 4 3 = nI (z_m (q_I Mb 109) 1) := by rw [h.2.1 4 (by unfold z_ga; omega)]; exact h3
    have hn : (nI k < nI (z_m (q_I Mb 109) 1)) = True := eq_true (nI_lt hk (by omega))
    obtain ⟨M1, p1, h1⟩ := zs_gatherCan hi hfat hk h
    simp only [f_X7_gather_b50.eq_2, zo_88 hM, zo_1 hM, zo_4 hM, e3, Option.bind_some, hn, if_true, p1, ← nI_succ]
    exact ih _ _ _ (by omega) (by omega) h1
/-- what the class has gathered -/
def z_G (M Mg : q_Mem) (fk : Nat → Int64) (rt : Nat → Int32) (wk : Int32) : Prop := z_FR M Mg ∧ (∀ a, ¬ z_ga a → a ≠ 79 → q_I Mg a = q_I M a) ∧ (∀ a, a ≠ 90 → q_J Mg a = q_J M a) ∧ (∀ k, k < z_m (q_I M 109) 2 → q_I Mg 79 k = rt k) ∧ ∀ f, f < 20 → q_I Mg 89 f = z_gW (q_I M 109) wk f (z_m (q_I M 109) 1) ∧ q_J Mg 90 f = z_gF (q_I M 109) fk wk f (z_m (q_I M 109) 1) ∧ q_I Mg 91 f = z_gN (q_I M 109) wk f (z_m (q_I M 109) 1) ∧ q_I Mg 92 f = z_gO (q_I M 109) wk f (z_m (q_I M 109) 1) ∧ q_I Mg 93 f = z_gT (q_I M 109) rt wk f (z_m (q_I M 109) 2)
/-- a model's memory in which the rates are found -/
def z_RM (M M2 : q_Mem) (rt : Nat → Int32) : Prop := z_Lay M2 ∧ q_I M2 109 = q_I M 109 ∧ ∀ k, k < z_m (q_I M 109) 2 → q_I M2 112 k = rt k
theorem zs_gather {M : q_Mem} (hi : z_Inv M) (wk dd : Int32) : ∃ Mg fk, f_X7_gather M 88 wk dd = some Mg ∧ z_G M Mg fk (z_rt M dd) wk ∧ ∀ M2, z_RM M M2 (z_rt M dd) → ∀ c, c < z_m (q_I M 109) 1 → f_X12_fatOf M2 108 (nI c) = some (fk c) := by
  have hL := hi.1
  obtain ⟨Ra, h3a, hma, _⟩ := zt_1 hi
  obtain ⟨Rb, h3b, hmb, _⟩ := zt_2 hi
  obtain ⟨M1, p1, F1, I1, J1, k1⟩ := zs_learn2 hi dd
  have s1 : z_sm M M1 := ⟨F1, fun a ha => I1 a (fun z => by rw [z] at ha; exact z_nc79 ha)⟩
  have hi1 := hi.sm s1
  have L1 := hi1.1
  have e91 := z_inv9 s1
  -- fat, told once for all
  obtain ⟨Ms, q1, Fs, Is, Js, ks⟩ := zs_find2 hi L1 e91 dd
  have Ls := Fs.lay L1
  have es : q_I Ms 109 = q_I M 109 := (Is 109 (by decide)).trans e91
  have hfat : ∀ M', z_sm M1 M' → q_I M' 79 = q_I M1 79 → ∀ c, c < z_m (q_I M1 109) 1 → f_X6_fatOfCan M' 78 (nI c) = some ((f_X12_fatOf Ms 108 (nI c)).getD 0) := fun M' hs h79 c hc => by
    have hi' := hi1.sm hs
    have e9' := z_inv9 hs
    have rt : z_RT M' Ms := ⟨hi', Ls, by rw [es, e9', e91], fun k hk => by
      rw [e9', e91] at hk
      rw [h79, k1 k hk, ks k hk]⟩
    obtain ⟨x, x1, x2⟩ := zs_fatOfCan rt (c := c) (by rw [e9']; exact hc)
    rw [x1, x2]; rfl
  have hfatM : ∀ M2, z_RM M M2 (z_rt M dd) → ∀ c, c < z_m (q_I M 109) 1 → f_X12_fatOf M2 108 (nI c) = some ((f_X12_fatOf Ms 108 (nI c)).getD 0) := fun M2 h2 c hc => by
    have rt : z_RT M1 M2 := ⟨hi1, h2.1, h2.2.1.trans e91.symm, fun k hk => by
      rw [e91] at hk
      rw [k1 k hk, h2.2.2 k hk]⟩
    obtain ⟨x, x1, x2⟩ := zs_fatOfCan rt (c := c) (by rw [e91]; exact hc)
    have := hfat M1 z_sm.rf rfl c (by rw [e91]; exact hc)
    rw [x1] at this
    rw [x2]; exact this
  obtain ⟨M2, p2, F2, I2, J2, k2⟩ := zs_fill (a := 89) (fun M h => ⟨(za_89 h).1, (za_89 h).2.2⟩) L1 0
  obtain ⟨M3, p3, F3, I3, J3, k3⟩ := zs_fillJ (F2.lay L1)
  have L3 := F3.lay (F2.lay L1)
  obtain ⟨M4, p4, F4, I4, J4, k4⟩ := zs_fill (a := 91) (fun M h => ⟨(za_91 h).1, (za_91 h).2.2⟩) L3 0
  obtain ⟨M5, p5, F5, I5, J5, k5⟩ := zs_fill (a := 92) (fun M h => ⟨(za_92 h).1, (za_92 h).2.2⟩) (F4.lay L3) 0
  have L5 := F5.lay (F4.lay L3)
  obtain ⟨M6, p6, F6, I6, J6, k6⟩ := zs_fill (a := 93) (fun M h => ⟨(za_93 h).1, (za_93 h).2.2⟩) L5 0
  have L6 := F6.lay L5
  have hPG : z_PG M1 M6 (fun c => (f_X12_fatOf Ms 108 (nI c)).getD 0) wk 0 := by
    refine ⟨F2.tr (F3.tr (F4.tr (F5.tr F6))), fun a ha => ?_, fun a ha => ?_, fun f hf => ⟨?_, ?_, ?_, ?_⟩, fun f hf => k6 f hf⟩
    · unfold z_ga at ha
      rw [I6 a (by omega), I5 a (by omega), I4 a (by omega), I3, I2 a (by omega)]
    · rw [J6, J5, J4, J3 a ha, J2]
    · rw [I6 89 (by decide), I5 89 (by decide), I4 89 (by decide), I3]; exact k2 f hf
    · rw [J6, J5, J4]; exact k3 f hf
    · rw [I6 91 (by decide), I5 91 (by decide)]; exact k4 f hf
    · rw [I6 92 (by decide)]; exact k5 f hf
  obtain ⟨M7, p7, h7⟩ := zq_gC hi1 hfat (z_m (q_I M1 109) 1) 0 q_fuel M6 (by omega) (by rw [e91]; unfold q_fuel; omega) hPG
  have h7' : z_PH M1 M7 (fun c => (f_X12_fatOf Ms 108 (nI c)).getD 0) (z_rt M dd) wk 0 := ⟨h7.1, h7.2.1, h7.2.2.1, h7.2.2.2.1, fun f hf => h7.2.2.2.2 f hf⟩
  obtain ⟨M8, p8, h8⟩ := zq_gT hi1 (fun k hk => k1 k (by rw [e91] at hk; exact hk)) (z_m (q_I M1 109) 2) 0 q_fuel M7 (by omega) (by rw [e91]; unfold q_fuel; omega) h7'
  have p7' : f_X7_gather_b50 88 wk q_fuel (0 : Int32) M6 = f_X7_gather_b78 88 wk q_fuel (0 : Int32) M7 := p7
  have p8' : f_X7_gather_b78 88 wk q_fuel (0 : Int32) M7 = some M8 := p8
  refine ⟨M8, fun c => (f_X12_fatOf Ms 108 (nI c)).getD 0, ?_, ⟨F1.tr h8.1, fun a ha h79 => ?_, fun a ha => ?_, fun k hk => ?_, fun f hf => ?_⟩, hfatM⟩
  · simp only [f_X7_gather, zob_88 hL, zo_88 hL, p1, Option.bind_some, zo_88 L1, p2, zo_88 (F2.lay L1), p3, zo_88 L3, p4, zo_88 (F4.lay L3), p5, zo_88 L5, p6, p7', p8']
  · rw [h8.2.1 a ha, I1 a h79]
  · rw [h8.2.2.1 a ha, J1]
  · rw [h8.2.1 79 (by unfold z_ga; omega), k1 k hk]
  · obtain ⟨b1, b2, b3, b4⟩ := h8.2.2.2.1 f hf
    have b5 := h8.2.2.2.2 f hf
    rw [e91] at b1 b2 b3 b4 b5
    exact ⟨b1, b2, b3, b4, b5⟩
def z_gR (st : Nat → Int32) (wk : Int32) (x : Int32) (n1 k : Nat) : Int32 := z_fl (· + ·) 0 (fun g => if x < z_gW st wk g n1 then true else false) (fun _ => 1) k
/-- the numbers that a text's names stand for -/
def z_nv (st : Nat → Int32) (fk : Nat → Int64) (rt : Nat → Int32) (wk : Int32) (f : Nat) : Nat → Int64 := fun k =>
  if k = 0 then (z_gW st wk f (z_m st 1)).toInt64 else if k = 1 then z_gF st fk wk f (z_m st 1) / 100 else if k = 2 then (z_gN st wk f (z_m st 1)).toInt64 else if k = 3 then (z_gO st wk f (z_m st 1)).toInt64 else if k = 4 then (z_gT st rt wk f (z_m st 2)).toInt64 else if k = 5 then (st (20 + 4 * f + 3)).toInt64 else if k = 6 then (st (20 + 4 * f + 2)).toInt64 else (z_gR st wk (z_gW st wk f (z_m st 1)) (z_m st 1) (z_m st 0)).toInt64
theorem zk_tell {M : q_Mem} (hL : z_Lay M) {k : Nat} (hk : k < 8) (v : Int64) : f_X8_tellName M 81 (nI k) v = some (q_sJ M 83 k v) := by
  have c0 : (nI k < 0) = False := eq_false (nI_pos (by omega))
  have c8 : (nI k < nI 8) = True := eq_true (nI_lt hk (by decide))
  simp only [f_X8_tellName, zob_81 hL, c0, if_false, zo_81 hL, (za_83 hL).1, c8, if_true, (za_83 hL).2.2 k v hk, Option.bind_some]
theorem zq_rank {M0 M : q_Mem} (hi : z_Inv M0) {wk : Int32} (hM : z_Lay M) (h23 : q_I M 2 3 = nI (z_m (q_I M0 109) 0)) (h89 : ∀ f, f < 20 → q_I M 89 f = z_gW (q_I M0 109) wk f (z_m (q_I M0 109) 1)) (x : Int32) : ∀ (d k fu : Nat), k + d = z_m (q_I M0 109) 0 → d < fu → f_X7_rankOfWeight_b4 M 88 x fu (z_gR (q_I M0 109) wk x (z_m (q_I M0 109) 1) k) (nI k) = some (z_gR (q_I M0 109) wk x (z_m (q_I M0 109) 1) (z_m (q_I M0 109) 0)) := by
  obtain ⟨R0, h30, hm0, _⟩ := zt_0 hi
  intro d
  induction d with
  | zero =>
    intro k fu hd hf
    obtain ⟨g, rfl⟩ : ∃ g, fu = g + 1 := ⟨fu - 1, by omega⟩
    obtain rfl : k = z_m (q_I M0 109) 0 := by omega
    have hn : (nI (z_m (q_I M0 109) 0) < nI (z_m (q_I M0 109) 0)) = False := eq_false (nI_nlt (Nat.le_refl _) (by omega))
    simp only [f_X7_rankOfWeight_b4.eq_2, zo_88 hM, zo_1 hM, zo_2 hM, h23, Option.bind_some, hn, if_false]
  | succ d ih =>
    intro k fu hd hf
    obtain ⟨g, rfl⟩ : ∃ g, fu = g + 1 := ⟨fu - 1, by omega⟩
    have hn : (nI k < nI (z_m (q_I M0 109) 0)) = True := eq_true (nI_lt (by omega) (by omega))
    have h20 : (nI k < (20 : Int32)) = True := eq_true (nI_lt (b := 20) (by omega) (by decide))
    have ih2 := ih (k + 1) g (by omega) (by omega)
    have es : z_gR (q_I M0 109) wk x (z_m (q_I M0 109) 1) (k + 1) = if x < z_gW (q_I M0 109) wk k (z_m (q_I M0 109) 1) then z_gR (q_I M0 109) wk x (z_m (q_I M0 109) 1) k + 1 else z_gR (q_I M0 109) wk x (z_m (q_I M0 109) 1) k := by
      show (if (if x < z_gW (q_I M0 109) wk k (z_m (q_I M0 109) 1) then true else false) = true then _ else _) = _
      by_cases c : x < z_gW (q_I M0 109) wk k (z_m (q_I M0 109) 1)
      · rw [if_pos c, if_pos rfl, if_pos c]; rfl
      · rw [if_neg c, if_neg (by decide), if_neg c]; rfl
    rw [es] at ih2
    simp only [f_X7_rankOfWeight_b4.eq_2, zo_88 hM, zo_1 hM, zo_2 hM, h23, Option.bind_some, hn, h20, if_true, (za_89 hM).2.1 k (by omega), h89 k (by omega), ← nI_succ]
    by_cases c : x < z_gW (q_I M0 109) wk k (z_m (q_I M0 109) 1)
    · rw [if_pos c] at ih2 ⊢
      exact ih2
    · rw [if_neg c] at ih2 ⊢
      exact ih2
/-- the names are told to the reader -/
theorem zs_nameFor {M Mg : q_Mem} (hi : z_Inv M) {fk : Nat → Int64} {rt : Nat → Int32} {wk : Int32} (hG : z_G M Mg fk rt wk) {f : Nat} (hf : f < z_m (q_I M 109) 0) {Mx : q_Mem} (hs : z_sm M Mx) (hx : ∀ a, z_ga a → q_I Mx a = q_I Mg a) (hxJ : q_J Mx 90 = q_J Mg 90) : ∃ M', f_X7_nameFor Mx 88 (nI f) = some M' ∧ z_FR Mx M' ∧ q_I M' = q_I Mx ∧ (∀ a, a ≠ 83 → q_J M' a = q_J Mx a) ∧ ∀ k, k < 8 → q_J M' 83 k = z_nv (q_I M 109) fk rt wk f k := by
  have hiX := hi.sm hs
  have hX := hiX.1
  have e9 := z_inv9 hs
  obtain ⟨R0, h30, hm0, _⟩ := zt_0 hi
  obtain ⟨S0, k30, km0, _⟩ := zt_0 hiX
  rw [e9] at k30
  have h20 : f < 20 := by omega
  have c0 : (nI f < 0) = False := eq_false (nI_pos (by omega))
  have c20 : (nI f < (20 : Int32)) = True := eq_true (nI_lt (b := 20) h20 (by decide))
  obtain ⟨b1, b2, b3, b4, b5⟩ := hG.2.2.2.2 f h20
  have x89 : ∀ g, g < 20 → q_I Mx 89 g = z_gW (q_I M 109) wk g (z_m (q_I M 109) 1) := fun g hg => by
    rw [hx 89 (Or.inl rfl)]; exact (hG.2.2.2.2 g hg).1
  have x90 : q_J Mx 90 f = z_gF (q_I M 109) fk wk f (z_m (q_I M 109) 1) := by rw [hxJ]; exact b2
  have x91 : q_I Mx 91 f = z_gN (q_I M 109) wk f (z_m (q_I M 109) 1) := by rw [hx 91 (by unfold z_ga; omega)]; exact b3
  have x92 : q_I Mx 92 f = z_gO (q_I M 109) wk f (z_m (q_I M 109) 1) := by rw [hx 92 (by unfold z_ga; omega)]; exact b4
  have x93 : q_I Mx 93 f = z_gT (q_I M 109) rt wk f (z_m (q_I M 109) 2) := by rw [hx 93 (by unfold z_ga; omega)]; exact b5
  -- a memory that differs from Mx in 83's numbers alone
  have T : ∀ k, k < 8 → ∀ Y, z_Lay Y → ∀ v, f_X8_tellName Y 81 (nI k) v = some (q_sJ Y 83 k v) := fun k hk Y hY v => zk_tell hY hk v
  obtain ⟨Y1, hY1⟩ : ∃ Y, Y = q_sJ Mx 83 0 (q_I Mx 89 f).toInt64 := ⟨_, rfl⟩
  obtain ⟨Y2, hY2⟩ : ∃ Y, Y = q_sJ Y1 83 1 (q_J Mx 90 f / 100) := ⟨_, rfl⟩
  obtain ⟨Y3, hY3⟩ : ∃ Y, Y = q_sJ Y2 83 2 (q_I Mx 91 f).toInt64 := ⟨_, rfl⟩
  obtain ⟨Y4, hY4⟩ : ∃ Y, Y = q_sJ Y3 83 3 (q_I Mx 92 f).toInt64 := ⟨_, rfl⟩
  obtain ⟨Y5, hY5⟩ : ∃ Y, Y = q_sJ Y4 83 4 (q_I Mx 93 f).toInt64 := ⟨_, rfl⟩
  obtain ⟨Y6, hY6⟩ : ∃ Y, Y = q_sJ Y5 83 5 (q_I M 109 (20 + 4 * f + 3)).toInt64 := ⟨_, rfl⟩
  obtain ⟨Y7, hY7⟩ : ∃ Y, Y = q_sJ Y6 83 6 (q_I M 109 (20 + 4 * f + 2)).toInt64 := ⟨_, rfl⟩
  have F1 : z_sm Mx Y1 ∧ q_I Y1 = q_I Mx := by rw [hY1]; exact ⟨z_sm.sJ, rfl⟩
  have F2 : z_sm Mx Y2 ∧ q_I Y2 = q_I Mx := by rw [hY2]; exact ⟨F1.1.tr z_sm.sJ, F1.2⟩
  have F3 : z_sm Mx Y3 ∧ q_I Y3 = q_I Mx := by rw [hY3]; exact ⟨F2.1.tr z_sm.sJ, F2.2⟩
  have F4 : z_sm Mx Y4 ∧ q_I Y4 = q_I Mx := by rw [hY4]; exact ⟨F3.1.tr z_sm.sJ, F3.2⟩
  have F5 : z_sm Mx Y5 ∧ q_I Y5 = q_I Mx := by rw [hY5]; exact ⟨F4.1.tr z_sm.sJ, F4.2⟩
  have F6 : z_sm Mx Y6 ∧ q_I Y6 = q_I Mx := by rw [hY6]; exact ⟨F5.1.tr z_sm.sJ, F5.2⟩
  have F7 : z_sm Mx Y7 ∧ q_I Y7 = q_I Mx := by rw [hY7]; exact ⟨F6.1.tr z_sm.sJ, F6.2⟩
  have L1 := F1.1.1.lay hX
  have L2 := F2.1.1.lay hX
  have L3 := F3.1.1.lay hX
  have L4 := F4.1.1.lay hX
  have L5 := F5.1.1.lay hX
  have L6 := F6.1.1.lay hX
  have L7 := F7.1.1.lay hX
  have i5 := hiX.sm F5.1
  have i6 := hiX.sm F6.1
  have e95 : q_I Y5 109 = q_I M 109 := by rw [F5.2]; exact e9
  have e96 : q_I Y6 109 = q_I M 109 := by rw [F6.2]; exact e9
  have r5 := zr_0 i5 (i := f) (by rw [e95]; exact hf)
  have r6 := zr_0 i6 (i := f) (by rw [e96]; exact hf)
  simp only [e95] at r5
  simp only [e96] at r6
  have y90 : q_J Y1 90 = q_J Mx 90 := by
    rw [hY1]
    exact z_sJ_ne (by decide)
  have rk : f_X7_rankOfWeight Y7 88 (q_I Mx 89 f) = some (z_gR (q_I M 109) wk (z_gW (q_I M 109) wk f (z_m (q_I M 109) 1)) (z_m (q_I M 109) 1) (z_m (q_I M 109) 0)) := by
    have q := zq_rank hi (wk := wk) L7 (by rw [F7.2]; exact k30) (fun g hg => by rw [F7.2]; exact x89 g hg) (q_I Mx 89 f) (z_m (q_I M 109) 0) 0 q_fuel (by omega) (z_fu (by omega))
    unfold f_X7_rankOfWeight
    rw [zob_88 L7, ← x89 f h20]
    exact q
  refine ⟨q_sJ Y7 83 7 (z_gR (q_I M 109) wk (z_gW (q_I M 109) wk f (z_m (q_I M 109) 1)) (z_m (q_I M 109) 1) (z_m (q_I M 109) 0)).toInt64, ?_, F7.1.1.tr ⟨rfl, rfl, rfl⟩, F7.2, fun a ha => ?_, fun k hk => ?_⟩
  · have t0 : ∀ Y, z_Lay Y → ∀ v, f_X8_tellName Y 81 (0 : Int32) v = some (q_sJ Y 83 0 v) := T 0 (by decide)
    have t1 : ∀ Y, z_Lay Y → ∀ v, f_X8_tellName Y 81 (1 : Int32) v = some (q_sJ Y 83 1 v) := T 1 (by decide)
    have t2 : ∀ Y, z_Lay Y → ∀ v, f_X8_tellName Y 81 (2 : Int32) v = some (q_sJ Y 83 2 v) := T 2 (by decide)
    have t3 : ∀ Y, z_Lay Y → ∀ v, f_X8_tellName Y 81 (3 : Int32) v = some (q_sJ Y 83 3 v) := T 3 (by decide)
    have t4 : ∀ Y, z_Lay Y → ∀ v, f_X8_tellName Y 81 (4 : Int32) v = some (q_sJ Y 83 4 v) := T 4 (by decide)
    have t5 : ∀ Y, z_Lay Y → ∀ v, f_X8_tellName Y 81 (5 : Int32) v = some (q_sJ Y 83 5 v) := T 5 (by decide)
    have t6 : ∀ Y, z_Lay Y → ∀ v, f_X8_tellName Y 81 (6 : Int32) v = some (q_sJ Y 83 6 v) := T 6 (by decide)
    have t7 : ∀ Y, z_Lay Y → ∀ v, f_X8_tellName Y 81 (7 : Int32) v = some (q_sJ Y 83 7 v) := T 7 (by decide)
    simp only [f_X7_nameFor, zob_88 hX, c0, c20, if_true, if_false, zo_88 hX, (za_89 hX).2.1 f h20, Option.bind_some, t0 _ hX, ← hY1, zo_88 L1, (za_90 L1).2.1 f h20, y90, z_ldv0 (show (100 : Int64) ≠ 0 by decide), t1 _ L1, ← hY2, zo_88 L2, (za_91 L2).2.1 f h20, F2.2, t2 _ L2, ← hY3, zo_88 L3, (za_92 L3).2.1 f h20, F3.2, t3 _ L3, ← hY4, zo_88 L4, (za_93 L4).2.1 f h20, F4.2, t4 _ L4, ← hY5, zo_88 L5, zo_1 L5, r5, t5 _ L5, ← hY6, zo_88 L6, zo_1 L6, r6, t6 _ L6, ← hY7, zo_88 L7, (za_89 L7).2.1 f h20, F7.2, rk, t7 _ L7]
  · funext j
    rw [hY7, hY6, hY5, hY4, hY3, hY2, hY1]
    show (if a = 83 ∧ j = 7 then _ else if a = 83 ∧ j = 6 then _ else if a = 83 ∧ j = 5 then _ else if a = 83 ∧ j = 4 then _ else if a = 83 ∧ j = 3 then _ else if a = 83 ∧ j = 2 then _ else if a = 83 ∧ j = 1 then _ else if a = 83 ∧ j = 0 then _ else q_J Mx a j) = _
    rw [if_neg (fun z => ha z.1), if_neg (fun z => ha z.1), if_neg (fun z => ha z.1), if_neg (fun z => ha z.1), if_neg (fun z => ha z.1), if_neg (fun z => ha z.1), if_neg (fun z => ha z.1), if_neg (fun z => ha z.1)]
  · rw [hY7, hY6, hY5, hY4, hY3, hY2, hY1, x89 f h20, x90, x91, x92, x93]
    match k, hk with
    | 0, _ => rfl
    | 1, _ => rfl
    | 2, _ => rfl
    | 3, _ => rfl
    | 4, _ => rfl
    | 5, _ => rfl
    | 6, _ => rfl
    | 7, _ => rfl
