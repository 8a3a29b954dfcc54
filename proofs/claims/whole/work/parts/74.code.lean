/-! ===== the model reads ===== -/
def z_mfin (Mb M' : q_Mem) : Prop := z_FR Mb M' ∧ (∀ a, ¬ z_ma a → q_I M' a = q_I Mb a) ∧ (∀ f, f ≠ 4 → f ≠ 8 → f ≠ 12 → q_I M' 108 f = q_I Mb 108 f) ∧ q_J M' = q_J Mb
def z_mres (Mb M' : q_Mem) (g : Int32 × z_Sem) : Prop := z_mfin Mb M' ∧ (g.1 = -1 → ∃ S, q_I M' 108 4 = nI S ∧ S ≤ 125 ∧ z_Run (q_I M' 113) (q_I M' 114) (q_I M' 115) 0 S g.2)
def z_txM (Mb : q_Mem) (o0 len : Nat) (c : Nat → Nat) : Prop := z_Lay Mb ∧ len ≤ 60 ∧ o0 + 61 ≤ 4764 ∧ q_I Mb 109 o0 = nI len ∧ ∀ j, j < len → q_I Mb 109 (o0 + 1 + j) = nI (c j) ∧ c j < 128
theorem z_rk_lt (k : Nat) : z_rk k < 6 := by
  unfold z_rk
  repeat' split
  all_goals omega
theorem z_hd_lt (k : Nat) : z_hd k < 8 := by
  have := z_rk_lt k
  unfold z_hd
  repeat' split
  all_goals omega
section ZD
variable {Mb M : q_Mem} {o B o0 len : Nat} {c : Nat → Nat} {fr : List z_Fr} {s : z_Sem}
theorem z_MT.fin (h : z_MT Mb M fr s o B) : z_mfin Mb M := by
  obtain ⟨sp, wi, ot, w0, w1, w2, p, S, h1, h2, h3, h4⟩ := h
  exact ⟨h1.1, h1.2.1, h1.2.2.1, h1.2.2.2.1⟩
theorem z_MN.fin (h : z_MN Mb M fr o B) : z_mfin Mb M := by
  obtain ⟨sp, wi, ot, w0, w1, w2, S, h1, h2, h4⟩ := h
  exact ⟨h1.1, h1.2.1, h1.2.2.1, h1.2.2.2.1⟩
theorem z_MN.lay (hL : z_Lay Mb) (h : z_MN Mb M fr o B) : z_Lay M := h.fin.1.lay hL
theorem z_MN.f12 (h : z_MN Mb M fr o B) : q_I M 108 12 = nI o := by
  obtain ⟨sp, wi, ot, w0, w1, w2, S, h1, h2, h4⟩ := h
  exact h1.2.2.2.2.2.2.2.2.2.2.2.2
theorem z_MT.f12 (h : z_MT Mb M fr s o B) : q_I M 108 12 = nI o := by
  obtain ⟨sp, wi, ot, w0, w1, w2, p, S, h1, h2, h3, h4⟩ := h
  exact h1.2.2.2.2.2.2.2.2.2.2.2.2
theorem zm_sign (hT : z_txM Mb o0 len c) (hf : z_mfin Mb M) {i : Nat} (hi : i < len) : q_lI M 109 (nI o0 + (1 : Int32) + nI i) = some (nI (c i)) := by
  have hM := hf.1.lay hT.1
  have e : nI o0 + (1 : Int32) + nI i = nI (o0 + 1 + i) := by rw [show (1 : Int32) = nI 1 from rfl, nI_add, nI_add]
  have h60 := hT.2.1
  have h61 := hT.2.2.1
  rw [e, z_st_lit hM (by omega), hf.2.1 109 (by unfold z_ma; omega)]
  exact congrArg some (hT.2.2.2.2 i hi).1
/-- a unit that stands: one step more -/
theorem zm_unit (hL : z_Lay Mb) (a v : Int32) (h : z_MN Mb M fr o B) (hB : B ≤ 124) (hR : ∀ sp wi ot : Nat → Int32, ∀ S : Nat, sp S = a → wi S = v → z_Run sp wi ot S (S + 1) s) : ∃ r M1, f_X12_emits M 108 a v = some (r, M1) ∧ z_MT Mb M1 fr s o (B + 1) := by
  obtain ⟨sp, wi, ot, w0, w1, w2, S, h1, h2, h4⟩ := h
  obtain ⟨M2, p2, u2⟩ := zm_emits a v hL h1 (by omega)
  exact ⟨_, M2, p2, ⟨_, _, _, _, _, _, S, S + 1, u2, h2.cong _ _ (fun j hj => ⟨z_up_ne (by omega), z_up_ne (by omega), z_up_ne (by omega)⟩) (fun j hj => ⟨rfl, rfl, rfl⟩), hR _ _ _ S z_up_eq z_up_eq, by omega⟩⟩
theorem zm_mark {k : Nat} (hk : k = 33 ∨ k = 128 ∨ k = 40) (hL : z_Lay Mb) (h : z_MN Mb M fr o B) (hB : B ≤ 124) : ∃ M1, f_X12_waitsWith M 108 (nI (z_wk k)) (0 : Int32) (0 : Int32) = some M1 ∧ z_MN Mb M1 ((k, z_no2, z_no2) :: fr) o (B + 1) := by
  obtain ⟨sp, wi, ot, w0, w1, w2, S, h1, h2, h4⟩ := h
  obtain ⟨M2, p2, u2⟩ := zm_waits (nI (z_wk k)) 0 0 hL h1 (by omega)
  refine ⟨M2, p2, ⟨_, _, _, _, _, _, S, u2, ⟨z_up_eq, ?_⟩, by rw [List.length_cons]; omega⟩⟩
  rw [if_pos hk]
  exact h2.cong _ _ (fun j hj => ⟨rfl, rfl, rfl⟩) (fun j hj => ⟨z_up_ne (by omega), z_up_ne (by omega), z_up_ne (by omega)⟩)
theorem zm_open (h : z_MN Mb M fr o B) (o' : Nat) : z_MN Mb (q_sI M 108 12 (nI o')) fr o' B := by
  obtain ⟨sp, wi, ot, w0, w1, w2, S, h1, h2, h4⟩ := h
  exact ⟨sp, wi, ot, w0, w1, w2, S, (h1.f 0 o').2, h2, h4⟩
/-- a step and a mark that waits for it: ? & | -/
theorem zm_wait {k : Nat} {a : Int32} (hk : (k = 63 ∧ a = 14) ∨ (k = 38 ∧ a = nI 12) ∨ (k = 124 ∧ a = nI 13)) (hL : z_Lay Mb) (h : z_MT Mb M fr s o B) (hB : B ≤ 122) : ∃ r M1 M2, f_X12_emits M 108 a (0 : Int32) = some (r, M1) ∧ f_X12_waitsWith M1 108 (nI k) r (0 : Int32) = some M2 ∧ z_MN Mb M2 ((k, s, z_no2) :: fr) o (B + 2) := by
  obtain ⟨sp, wi, ot, w0, w1, w2, p, S, h1, h2, h3, h4⟩ := h
  obtain ⟨M1, p1, u1⟩ := zm_emits a 0 hL h1 (by omega)
  obtain ⟨M2, p2, u2⟩ := zm_waits (nI k) (nI S) 0 hL u1 (by omega)
  have hpS := h3.1
  have ewk : z_wk k = k := by unfold z_wk; rw [if_neg (by omega)]
  refine ⟨_, M1, M2, p1, p2, ⟨_, _, _, _, _, _, S + 1, u2, ⟨by rw [z_up_eq, ewk], ?_⟩, by rw [List.length_cons]; omega⟩⟩
  have hc := h2.cong (sp' := z_up sp S a) (wi' := z_up wi S 0) (ot' := z_up ot S 0) (w0' := z_up w0 fr.length (nI k)) (w1' := z_up w1 fr.length (nI S)) (w2' := z_up w2 fr.length 0) _ _ (fun j hj => ⟨z_up_ne (by omega), z_up_ne (by omega), z_up_ne (by omega)⟩) (fun j hj => ⟨z_up_ne (by omega), z_up_ne (by omega), z_up_ne (by omega)⟩)
  have hr := h3.cong (sp' := z_up sp S a) (wi' := z_up wi S 0) (ot' := z_up ot S 0) (fun j x y => ⟨z_up_ne (by omega), z_up_ne (by omega), z_up_ne (by omega)⟩)
  rw [if_neg (by omega)]
  rcases hk with ⟨rfl, rfl⟩ | ⟨rfl, rfl⟩ | ⟨rfl, rfl⟩
  · rw [if_neg (show ¬ ((63 : Nat) = 38 ∨ (63 : Nat) = 124) by decide), if_pos rfl]
    exact ⟨p, S, hc, hr, rfl, z_up_eq, z_up_eq⟩
  · rw [if_pos (Or.inl rfl)]
    exact ⟨p, S, hc, hr, rfl, z_up_eq.trans (if_pos rfl).symm, z_up_eq⟩
  · rw [if_pos (Or.inr rfl)]
    exact ⟨p, S, hc, hr, rfl, z_up_eq.trans (if_neg (show ¬ (124 : Nat) = 38 by decide)).symm, z_up_eq⟩
/-- an operation that waits -/
theorem zm_oper {k : Nat} (hk : k = 42 ∨ k = 43 ∨ k = 45 ∨ k = 47 ∨ k = 60 ∨ k = 61 ∨ k = 62) (hL : z_Lay Mb) (h : z_MT Mb M fr s o B) (hB : B ≤ 122) : ∃ M2, f_X12_waitsWith M 108 (nI k) (0 : Int32) (0 : Int32) = some M2 ∧ z_MN Mb M2 ((k, s, z_no2) :: fr) o (B + 2) := by
  obtain ⟨sp, wi, ot, w0, w1, w2, p, S, h1, h2, h3, h4⟩ := h
  obtain ⟨M2, p2, u2⟩ := zm_waits (nI k) 0 0 hL h1 (by omega)
  have ewk : z_wk k = k := by unfold z_wk; rw [if_neg (by omega)]
  refine ⟨M2, p2, ⟨_, _, _, _, _, _, S, u2, ⟨by rw [z_up_eq, ewk], ?_⟩, by rw [List.length_cons]; omega⟩⟩
  rw [if_neg (by omega), if_neg (by omega), if_neg (by omega), if_neg (by omega)]
  exact ⟨p, h2.cong _ _ (fun j hj => ⟨rfl, rfl, rfl⟩) (fun j hj => ⟨z_up_ne (by omega), z_up_ne (by omega), z_up_ne (by omega)⟩), h3⟩
theorem z_wk_eq {fr : List z_Fr} {j : Nat} (hk : z_kx fr) (hj : j < 126) : (nI (z_wk (z_tk fr)) = nI j) = (z_tk fr = j) := by
  have h1 : z_tk fr < 129 ∧ z_tk fr ≠ 126 := by
    match fr, hk with
    | [], _ => exact ⟨(by decide : 0 < 129), (by decide : 0 ≠ 126)⟩
    | f :: t, h => exact ⟨(z_kx_lt h.1).1, (z_kx_lt h.1).2.1⟩
  have h2 : z_wk (z_tk fr) < 200 := by
    unfold z_wk
    split <;> omega
  rw [z_nI_in h2 (by omega)]
  unfold z_wk
  by_cases z : z_tk fr = 128
  · rw [if_pos z]; exact propext ⟨fun y => by omega, fun y => by omega⟩
  · rw [if_neg z]
theorem zm_close (hL : z_Lay Mb) (hB : B ≤ 122) (hk : z_kx fr) (hwf : z_wf fr) (hnu : z_nu fr) (h : z_MT Mb M fr s (z_opn fr) B) :
    (z_tk (z_gE fr s).1 = 40 → ∃ M', f_X12_goesOn M 108 (nI 41) = some ((1 : Int32), M') ∧ z_MT Mb M' (z_gU (z_gE fr s).1.tail (z_gE fr s).2).1 (z_gU (z_gE fr s).1.tail (z_gE fr s).2).2 (z_opn (z_gE fr s).1.tail) B) ∧
    (¬ z_tk (z_gE fr s).1 = 40 → ∃ M', f_X12_goesOn M 108 (nI 41) = some ((0 : Int32), M') ∧ z_mfin Mb M') := by
  have hM := z_MT_lay hL h
  obtain ⟨M1, p1, h1⟩ := zs_chosen hL (by omega) hk hwf hnu h
  have hkE := z_kx_gE fr s hk
  have hoE := z_opn_gE fr s
  have tp := zs_top hL (by omega) hkE h1
  rw [← hoE] at h1
  generalize (z_gE fr s).1 = f1 at *
  generalize (z_gE fr s).2 = s1 at *
  have q40 : (nI (z_wk (z_tk f1)) = (40 : Int32)) = (z_tk f1 = 40) := z_wk_eq (j := 40) hkE (by decide)
  have hld : f_X12_holds M (nI 41) = some (nI (z_hd 41)) := zm_holds (by decide)
  have hM1 := z_MT_lay hL h1
  constructor
  · intro ht
    obtain ⟨a, b, t, rfl⟩ := z_tk_ne ht (by decide)
    obtain ⟨sp, wi, ot, w0, w1, w2, p, S, g1, g2, g3, g4⟩ := h1
    have q1 : (nI (z_wk (z_tk ((40, a, b) :: t))) = (40 : Int32)) = True := by rw [q40]; exact eq_true ht
    have e8 : q_I M1 108 8 = nI (t.length + 1) := g1.2.2.2.2.2.2.2.2.2.2.2.1
    have e12 : q_I M1 108 12 = nI (z_opn t + 1) := by
      rw [g1.2.2.2.2.2.2.2.2.2.2.2.2]
      show nI (1 + z_opn t) = _
      rw [Nat.add_comm]
    have u1 := (g1.f t.length 0).1
    have u2 := (u1.f 0 (z_opn t)).2
    have L1 := u1.lay hL
    have f12 : q_I (q_sI M1 108 8 (nI t.length)) 108 12 = nI (z_opn t + 1) := by rw [z_I_sI, if_neg (by omega)]; exact e12
    have g2' := g2.2
    rw [if_pos (Or.inr (Or.inr rfl))] at g2'
    rw [List.length_cons] at g4
    have h5 : z_MT Mb (q_sI (q_sI M1 108 8 (nI t.length)) 108 12 (nI (z_opn t))) t s1 (z_opn t) B := ⟨sp, wi, ot, w0, w1, w2, p, S, u2, g2', g3, by omega⟩
    obtain ⟨M', r1, r2⟩ := zs_settlesU hL (by omega) hkE.2 h5
    refine ⟨M', ?_, r2⟩
    simp only [f_X12_goesOn, zob_108 hM, hld, Option.bind_some, show (nI 41 = (41 : Int32)) = True by decide, if_true, p1, tp, q1, zo_108 hM1, e8, nI_pred, zo_108 L1, f12, r1]
  · intro ht
    have q1 : (nI (z_wk (z_tk f1)) = (40 : Int32)) = False := by rw [q40]; exact eq_false ht
    refine ⟨M1, ?_, h1.fin⟩
    simp only [f_X12_goesOn, zob_108 hM, hld, Option.bind_some, show (nI 41 = (41 : Int32)) = True by decide, if_true, p1, tp, q1, if_false]
theorem zm_else (hL : z_Lay Mb) (hB : B ≤ 122) (hk : z_kx fr) (hwf : z_wf fr) (hnu : z_nu fr) (h : z_MT Mb M fr s (z_opn fr) B) :
    (z_tk (z_gE fr s).1 = 63 → ∃ M', f_X12_goesOn M 108 (nI 58) = some ((1 : Int32), M') ∧ z_MN Mb M' ((58, ((z_gE fr s).1.headD (0, z_no2, z_no2)).2.1, (z_gE fr s).2) :: (z_gE fr s).1.tail) (z_opn fr) (B + 2)) ∧
    (¬ z_tk (z_gE fr s).1 = 63 → ∃ M', f_X12_goesOn M 108 (nI 58) = some ((0 : Int32), M') ∧ z_mfin Mb M') := by
  have hM := z_MT_lay hL h
  obtain ⟨M1, p1, h1⟩ := zs_chosen hL (by omega) hk hwf hnu h
  have hkE := z_kx_gE fr s hk
  have tp := zs_top hL (by omega) hkE h1
  generalize (z_gE fr s).1 = f1 at *
  generalize (z_gE fr s).2 = s1 at *
  have q63 : (nI (z_wk (z_tk f1)) = (63 : Int32)) = (z_tk f1 = 63) := z_wk_eq (j := 63) hkE (by decide)
  have hld : f_X12_holds M (nI 58) = some (nI (z_hd 58)) := zm_holds (by decide)
  have hM1 := z_MT_lay hL h1
  constructor
  · intro ht
    obtain ⟨a, b, t, rfl⟩ := z_tk_ne ht (by decide)
    obtain ⟨sp, wi, ot, w0, w1, w2, p, S, g1, g2, g3, g4⟩ := h1
    have q1 : (nI (z_wk (z_tk ((63, a, b) :: t))) = (63 : Int32)) = True := by rw [q63]; exact eq_true ht
    rw [List.length_cons] at g4
    have e8 : q_I M1 108 8 = nI (t.length + 1) := g1.2.2.2.2.2.2.2.2.2.2.2.1
    have g2' := g2.2
    rw [if_neg (show ¬ ((63 : Nat) = 33 ∨ (63 : Nat) = 128 ∨ (63 : Nat) = 40) by decide), if_neg (show ¬ ((63 : Nat) = 38 ∨ (63 : Nat) = 124) by decide), if_pos rfl] at g2'
    obtain ⟨p0, m, a1, a2, a3, a4, a5⟩ := g2'
    have hpm := a2.1
    have hmS := g3.1
    have gw : q_lI M1 117 (nI t.length) = some (nI m) := by
      rw [(za_117 hM1).2.1 t.length (by omega), g1.2.2.2.2.2.2.2.2.1]
      exact congrArg some a5
    have u1 := (g1.f t.length 0).1
    obtain ⟨M2, p2, u2⟩ := zm_emits (15 : Int32) 0 hL u1 (by omega)
    have L2 := u2.lay hL
    have e4 : q_I M2 108 4 = nI (S + 1) := u2.2.2.2.2.2.2.2.2.2.2.1
    have u3 := u2.pwi m (nI (S + 1))
    obtain ⟨M4, p4, u4⟩ := zm_waits (58 : Int32) (nI S) (nI m) hL u3 (by omega)
    refine ⟨M4, ?_, ⟨_, _, _, _, _, _, S + 1, u4, ⟨z_up_eq, ?_⟩, by rw [List.length_cons]; show S + 1 + (t.length + 1) ≤ B + 2; omega⟩⟩
    · simp only [f_X12_goesOn, zob_108 hM, hld, Option.bind_some, show (nI 58 = (41 : Int32)) = False by decide, if_false, show (nI 58 = (58 : Int32)) = True by decide, if_true, p1, tp, q1, zo_108 hM1, e8, nI_pred, gw, p2, zo_108 L2, e4, (za_114 L2).2.2 m (nI (S + 1)) (by omega), p4]
    · rw [if_neg (show ¬ ((58 : Nat) = 33 ∨ (58 : Nat) = 128 ∨ (58 : Nat) = 40) by decide), if_neg (show ¬ ((58 : Nat) = 38 ∨ (58 : Nat) = 124) by decide), if_neg (show ¬ (58 : Nat) = 63 by decide), if_pos rfl]
      refine ⟨p0, m, S, a1.cong _ _ (fun j hj => ⟨z_up_ne (by omega), by rw [z_up_ne (by omega), z_up_ne (by omega)], z_up_ne (by omega)⟩) (fun j hj => ?_), a2.cong (fun j x y => ⟨z_up_ne (by omega), by rw [z_up_ne (by omega), z_up_ne (by omega)], z_up_ne (by omega)⟩), ?_, z_up_eq, z_Run.cong (by rw [← a3]; exact g3) (fun j x y => ⟨z_up_ne (by omega), by rw [z_up_ne (by omega), z_up_ne (by omega)], z_up_ne (by omega)⟩), z_up_eq, rfl, z_up_eq, z_up_eq⟩
      · have hj' : j < t.length := hj
        exact ⟨z_up_ne (by show j ≠ t.length; omega), z_up_ne (by show j ≠ t.length; omega), z_up_ne (by show j ≠ t.length; omega)⟩
      · rw [z_up_ne (by omega)]; exact a4
  · intro ht
    have q1 : (nI (z_wk (z_tk f1)) = (63 : Int32)) = False := by rw [q63]; exact eq_false ht
    refine ⟨M1, ?_, h1.fin⟩
    simp only [f_X12_goesOn, zob_108 hM, hld, Option.bind_some, show (nI 58 = (41 : Int32)) = False by decide, if_false, show (nI 58 = (58 : Int32)) = True by decide, if_true, p1, tp, q1]
theorem zm_question (hL : z_Lay Mb) (hB : B ≤ 122) (hk : z_kx fr) (hwf : z_wf fr) (hnu : z_nu fr) (h : z_MT Mb M fr s o B) : ∃ M', f_X12_goesOn M 108 (nI 63) = some ((1 : Int32), M') ∧ z_MN Mb M' ((63, (z_gS 1 fr s).2, z_no2) :: (z_gS 1 fr s).1) o (B + 2) := by
  have hM := z_MT_lay hL h
  obtain ⟨M1, p1, h1⟩ := zs_settlesM hL (by omega) (r := 1) (by decide) (by decide) hk hwf hnu h
  have p1' : f_X12_settles M 108 (2 : Int32) = some M1 := p1
  obtain ⟨r, M2, M3, p2, p3, h3⟩ := zm_wait (k := 63) (a := 14) (Or.inl ⟨rfl, rfl⟩) hL h1 hB
  have p3' : f_X12_waitsWith M2 108 (63 : Int32) r (0 : Int32) = some M3 := p3
  have hld : f_X12_holds M (nI 63) = some (nI (z_hd 63)) := zm_holds (by decide)
  refine ⟨M3, ?_, h3⟩
  simp only [f_X12_goesOn, zob_108 hM, hld, Option.bind_some, show (nI 63 = (41 : Int32)) = False by decide, show (nI 63 = (58 : Int32)) = False by decide, if_false, show (nI 63 = (63 : Int32)) = True by decide, if_true, p1', p2, p3']
theorem zm_b190 {k : Nat} (hk0 : 0 < z_rk k) (hL : z_Lay Mb) (hB : B ≤ 122) (hk : z_kx fr) (hwf : z_wf fr) (hnu : z_nu fr) (h : z_MT Mb M fr s o B) : ∃ M', f_X12_goesOn_b190 M 108 (nI k) (nI (z_rk k + 1)) = some ((1 : Int32), M') ∧ z_MN Mb M' ((k, (z_gS (z_rk k) fr s).2, z_no2) :: (z_gS (z_rk k) fr s).1) o (B + 2) := by
  have hrk : z_rk k < 6 := by
    unfold z_rk
    repeat' split
    all_goals omega
  have ek : k < 200 := by
    rcases z_rk_pos hk0 with z | z | z | z | z | z | z | z | z <;> omega
  obtain ⟨M1, p1, h1⟩ := zs_settlesM hL (by omega) (r := z_rk k) hk0 hrk hk hwf hnu h
  have q38 : (nI k = (38 : Int32)) = (k = 38) := z_nI_in (b := 38) ek (by decide)
  have q124 : (nI k = (124 : Int32)) = (k = 124) := z_nI_in (b := 124) ek (by decide)
  by_cases c1 : k = 38
  · obtain ⟨r, M2, M3, p2, p3, h3⟩ := zm_wait (k := k) (a := nI 12) (Or.inr (Or.inl ⟨c1, rfl⟩)) hL h1 hB
    have p2' : f_X12_emits M1 108 (12 : Int32) (0 : Int32) = some (r, M2) := p2
    have c1' := eq_true c1
    refine ⟨M3, ?_, h3⟩
    simp only [f_X12_goesOn_b190, p1, Option.bind_some, q38, c1', if_true, p2', p3]
  · have c1' := eq_false c1
    by_cases c2 : k = 124
    · obtain ⟨r, M2, M3, p2, p3, h3⟩ := zm_wait (k := k) (a := nI 13) (Or.inr (Or.inr ⟨c2, rfl⟩)) hL h1 hB
      have p2' : f_X12_emits M1 108 (13 : Int32) (0 : Int32) = some (r, M2) := p2
      have c2' := eq_true c2
      refine ⟨M3, ?_, h3⟩
      simp only [f_X12_goesOn_b190, p1, Option.bind_some, q38, c1', if_false, q124, c2', if_true, p2', p3]
    · have c2' := eq_false c2
      obtain ⟨M3, p3, h3⟩ := zm_oper (k := k) (by rcases z_rk_pos hk0 with z | z | z | z | z | z | z | z | z <;> omega) hL h1 hB
      refine ⟨M3, ?_, h3⟩
      simp only [f_X12_goesOn_b190, p1, Option.bind_some, q38, c1', if_false, q124, c2', p3]
theorem z_gS_gS (r : Nat) : ∀ (fr : List z_Fr) (s : z_Sem), z_rk (z_tk (z_gS (r + 1) fr s).1) ≠ r → 0 < r → z_gS r (z_gS (r + 1) fr s).1 (z_gS (r + 1) fr s).2 = z_gS (r + 1) fr s
  | [], s, h, hr => rfl
  | f :: t, s, h, hr => by
    by_cases c : z_rk f.1 < r + 1
    · have e : z_gS (r + 1) (f :: t) s = (f :: t, s) := if_pos c
      rw [e] at h ⊢
      have h' : z_rk f.1 ≠ r := h
      exact if_pos (by omega)
    · have e : z_gS (r + 1) (f :: t) s = z_gS (r + 1) t (z_sBin f.1 f.2.1 s) := if_neg c
      rw [e] at h ⊢
      exact z_gS_gS r t _ h hr
theorem zm_join {k : Nat} (hk2 : k < 128) (h41 : k ≠ 41) (h58 : k ≠ 58) (h63 : k ≠ 63) (hL : z_Lay Mb) (hB : B ≤ 122) (hk : z_kx fr) (hwf : z_wf fr) (hnu : z_nu fr) (h : z_MT Mb M fr s o B) :
    (z_rk k = 0 → ∃ M', f_X12_goesOn M 108 (nI k) = some ((0 : Int32), M') ∧ z_mfin Mb M') ∧
    (z_rk k = 3 → z_rk (z_tk (z_gS 4 fr s).1) = 3 → ∃ M', f_X12_goesOn M 108 (nI k) = some ((0 : Int32), M') ∧ z_mfin Mb M') ∧
    (z_rk k = 3 → ¬ z_rk (z_tk (z_gS 4 fr s).1) = 3 → ∃ M', f_X12_goesOn M 108 (nI k) = some ((1 : Int32), M') ∧ z_MN Mb M' ((k, (z_gS 4 fr s).2, z_no2) :: (z_gS 4 fr s).1) o (B + 2)) ∧
    (z_rk k ≠ 0 → z_rk k ≠ 3 → ∃ M', f_X12_goesOn M 108 (nI k) = some ((1 : Int32), M') ∧ z_MN Mb M' ((k, (z_gS (z_rk k) fr s).2, z_no2) :: (z_gS (z_rk k) fr s).1) o (B + 2)) := by
  have hM := z_MT_lay hL h
  have hld : f_X12_holds M (nI k) = some (nI (z_hd k)) := zm_holds hk2
  have q41 : (nI k = (41 : Int32)) = False := by rw [show (41 : Int32) = nI 41 from rfl, z_nI_in (by omega) (by decide)]; exact eq_false h41
  have q58 : (nI k = (58 : Int32)) = False := by rw [show (58 : Int32) = nI 58 from rfl, z_nI_in (by omega) (by decide)]; exact eq_false h58
  have q63 : (nI k = (63 : Int32)) = False := by rw [show (63 : Int32) = nI 63 from rfl, z_nI_in (by omega) (by decide)]; exact eq_false h63
  have hrk : z_rk k < 6 := by
    unfold z_rk
    repeat' split
    all_goals omega
  have ehd : 0 < z_rk k → z_hd k = z_rk k + 1 := fun hp => by
    unfold z_hd
    rw [if_neg (fun z => by rw [z] at hp; exact absurd hp (by decide)), if_neg (fun z => by rw [z] at hp; exact absurd hp (by decide)), if_pos hp]
  refine ⟨fun h0 => ?_, fun h3 ht => ?_, fun h3 ht => ?_, fun h0 h3 => ?_⟩
  · refine ⟨M, ?_, h.fin⟩
    have e : z_hd k = 0 ∨ z_hd k = 7 := by
      unfold z_hd
      split
      · exact Or.inr rfl
      · split
        · exact Or.inr rfl
        · exact Or.inl (if_neg (by omega))
    rcases e with e | e
    · simp only [f_X12_goesOn, zob_108 hM, hld, e, Option.bind_some, q41, q58, q63, if_false, show (nI 0 < (2 : Int32)) = True by decide, if_true]
    · simp only [f_X12_goesOn, zob_108 hM, hld, e, Option.bind_some, q41, q58, q63, if_false, show (nI 7 < (2 : Int32)) = False by decide, show (nI 7 = (7 : Int32)) = True by decide, if_true]
  · obtain ⟨M1, p1, h1⟩ := zs_settlesM hL (by omega) (r := 4) (by decide) (by decide) hk hwf hnu h
    have p1' : f_X12_settles M 108 (5 : Int32) = some M1 := p1
    have hk1 := z_kx_gS 4 fr s hk
    have tp := zs_top hL (by omega) hk1 h1
    have tl : z_wk (z_tk (z_gS 4 fr s).1) = z_tk (z_gS 4 fr s).1 := by
      unfold z_wk
      rw [if_neg (fun z => by rw [z] at ht; exact absurd ht (by decide))]
    have th : z_hd (z_tk (z_gS 4 fr s).1) = 4 := by
      rcases z_rk_pos (show 0 < z_rk (z_tk (z_gS 4 fr s).1) by omega) with z | z | z | z | z | z | z | z | z <;> rw [z] at ht ⊢ <;> first | rfl | exact absurd ht (by decide)
    have hl1 : f_X12_holds M1 (nI (z_wk (z_tk (z_gS 4 fr s).1))) = some (nI 4) := by
      rw [tl, zm_holds (by rcases z_rk_pos (show 0 < z_rk (z_tk (z_gS 4 fr s).1) by omega) with z | z | z | z | z | z | z | z | z <;> omega), th]
    refine ⟨M1, ?_, h1.fin⟩
    simp only [f_X12_goesOn, zob_108 hM, hld, ehd (by omega), h3, Option.bind_some, q41, q58, q63, if_false, show (nI (3 + 1) < (2 : Int32)) = False by decide, show (nI (3 + 1) = (7 : Int32)) = False by decide, show (nI (3 + 1) = (4 : Int32)) = True by decide, if_true, p1', tp, hl1, show (nI 4 = (4 : Int32)) = True by decide]
  · obtain ⟨M1, p1, h1⟩ := zs_settlesM hL (by omega) (r := 4) (by decide) (by decide) hk hwf hnu h
    have p1' : f_X12_settles M 108 (5 : Int32) = some M1 := p1
    have hk1 := z_kx_gS 4 fr s hk
    obtain ⟨hwf1, hnu1⟩ := z_wf_gS 4 (by decide) fr s hwf hnu
    have tp := zs_top hL (by omega) hk1 h1
    have tw : z_wk (z_tk (z_gS 4 fr s).1) < 128 := by
      have h1 : z_tk (z_gS 4 fr s).1 < 129 ∧ z_tk (z_gS 4 fr s).1 ≠ 128 := by
        refine ⟨?_, hnu1.2⟩
        match (z_gS 4 fr s).1, hk1 with
        | [], _ => exact (by decide : 0 < 129)
        | f :: t, h => exact (z_kx_lt h.1).1
      unfold z_wk
      split <;> omega
    have th : z_hd (z_wk (z_tk (z_gS 4 fr s).1)) ≠ 4 := by
      have tl : z_wk (z_tk (z_gS 4 fr s).1) = z_tk (z_gS 4 fr s).1 := by
        unfold z_wk
        rw [if_neg hnu1.2]
      rw [tl]
      unfold z_hd
      split
      · decide
      · split
        · decide
        · split
          · omega
          · decide
    have th2 : z_hd (z_wk (z_tk (z_gS 4 fr s).1)) < 200 := by have := z_hd_lt (z_wk (z_tk (z_gS 4 fr s).1)); omega
    have hl1 : f_X12_holds M1 (nI (z_wk (z_tk (z_gS 4 fr s).1))) = some (nI (z_hd (z_wk (z_tk (z_gS 4 fr s).1)))) := zm_holds tw
    have n4 : (nI (z_hd (z_wk (z_tk (z_gS 4 fr s).1))) = (4 : Int32)) = False := by
      rw [show (4 : Int32) = nI 4 from rfl, z_nI_in th2 (by decide)]
      exact eq_false th
    obtain ⟨M2, p2, h2⟩ := zm_b190 (k := k) (by omega) hL hB hk1 hwf1 hnu1 h1
    rw [h3, z_gS_gS 3 fr s ht (by decide)] at h2
    rw [h3] at p2
    refine ⟨M2, ?_, h2⟩
    simp only [f_X12_goesOn, zob_108 hM, hld, ehd (by omega), h3, Option.bind_some, q41, q58, q63, if_false, show (nI (3 + 1) < (2 : Int32)) = False by decide, show (nI (3 + 1) = (7 : Int32)) = False by decide, show (nI (3 + 1) = (4 : Int32)) = True by decide, if_true, p1', tp, hl1, n4, p2]
  · obtain ⟨M2, p2, h2⟩ := zm_b190 (k := k) (by omega) hL hB hk hwf hnu h
    have n2 : (nI (z_rk k + 1) < (2 : Int32)) = False := eq_false (nI_nlt (b := 2) (by omega) (by omega))
    have n7 : (nI (z_rk k + 1) = (7 : Int32)) = False := by
      rw [show (7 : Int32) = nI 7 from rfl, z_nI_in (by omega) (by decide)]; exact eq_false (by omega)
    have n4 : (nI (z_rk k + 1) = (4 : Int32)) = False := by
      rw [show (4 : Int32) = nI 4 from rfl, z_nI_in (by omega) (by decide)]; exact eq_false (by omega)
    refine ⟨M2, ?_, h2⟩
    simp only [f_X12_goesOn, zob_108 hM, hld, ehd (by omega), Option.bind_some, q41, q58, q63, if_false, n2, n7, n4, p2]
end ZD
