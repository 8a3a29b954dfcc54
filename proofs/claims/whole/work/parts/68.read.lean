/-! ===== texts: what they mean, apart from both sides ===== -/
/-! ===== the cells of a stack ===== -/
def z_cl {α : Type} (f : Nat → α) : List α → Prop
  | [] => True
  | x :: t => f t.length = x ∧ z_cl f t
theorem z_cl.cong {α : Type} {f g : Nat → α} : ∀ {l : List α}, z_cl f l → (∀ j, j < l.length → g j = f j) → z_cl g l
  | [], _, _ => trivial
  | x :: t, h, e => ⟨(e _ (Nat.lt_succ_self _)).trans h.1, z_cl.cong h.2 (fun j hj => e j (Nat.lt_succ_of_lt hj))⟩
def z_rf (f : Nat) : Prop := f = 4 ∨ f = 7 ∨ f = 9 ∨ f = 12
/-- the reader's two stacks -/
def z_RS (M0 M : q_Mem) (vs : List Int64) (ms : List (Int32 × Int32)) (nn : Nat) (no : Int32) : Prop :=
  z_FR M0 M ∧ (∀ a, a ≠ 81 → a ≠ 85 → a ≠ 86 → q_I M a = q_I M0 a) ∧ (∀ f, ¬ z_rf f → q_I M 81 f = q_I M0 81 f) ∧ (∀ a, a ≠ 84 → q_J M a = q_J M0 a) ∧
  q_I M 81 4 = nI vs.length ∧ vs.length ≤ 60 ∧ z_cl (q_J M 84) vs ∧ q_I M 81 7 = nI ms.length ∧ ms.length ≤ 60 ∧ z_cl (fun j => (q_I M 85 j, q_I M 86 j)) ms ∧ q_I M 81 9 = nI nn ∧ q_I M 81 12 = no
theorem z_RS.lay {M0 M : q_Mem} {vs : List Int64} {ms : List (Int32 × Int32)} {nn : Nat} {no : Int32} (h : z_RS M0 M vs ms nn no) (hL : z_Lay M0) : z_Lay M := h.1.lay hL
theorem z_L1 {M : q_Mem} {a k : Nat} {v : Int32} (h : z_Lay M) : z_Lay (q_sI M a k v) := h
theorem z_L2 {M : q_Mem} {a k : Nat} {v : Int64} (h : z_Lay M) : z_Lay (q_sJ M a k v) := h
section ZR
variable {M0 M : q_Mem} {vs : List Int64} {ms : List (Int32 × Int32)} {nn : Nat} {no : Int32}
theorem z_RS.fld {f : Nat} {v : Int32} (h : z_RS M0 M vs ms nn no) (hf : ¬ z_rf f) : z_RS (q_sI M0 81 f v) (q_sI M 81 f v) vs ms nn no := by
  obtain ⟨a1, a2, a3, a4, a5, a6, a7, a8, a9, b1, b2, b3⟩ := h
  have hf' := hf
  unfold z_rf at hf'
  refine ⟨⟨a1.1, a1.2.1, a1.2.2⟩, fun a h1 h2 h3 => by rw [q_sI_ne h1, q_sI_ne h1]; exact a2 a h1 h2 h3, fun g hg => ?_, a4, ?_, a6, a7, ?_, a9, ?_, ?_, ?_⟩
  · rw [z_I_sI, z_I_sI]
    split
    · rfl
    · exact a3 g hg
  · rw [z_I_sI, if_neg (by omega)]; exact a5
  · rw [z_I_sI, if_neg (by omega)]; exact a8
  · exact b1.cong (fun j _ => by rw [z_I_sI, if_neg (by omega), z_I_sI, if_neg (by omega)])
  · rw [z_I_sI, if_neg (by omega)]; exact b2
  · rw [z_I_sI, if_neg (by omega)]; exact b3
theorem zk_topValue {v : Int64} (hL : z_Lay M0) (h : z_RS M0 M (v :: vs) ms nn no) : f_X8_topValue M 81 = some v := by
  have hM := h.lay hL
  obtain ⟨a1, a2, a3, a4, a5, a6, a7, a8, a9, b1, b2, b3⟩ := h
  rw [List.length_cons] at a5 a6
  have c1 : ((0 : Int32) < nI (vs.length + 1)) = True := eq_true (nI_lt (a := 0) (by omega) (by omega))
  have c2 : (nI 60 < nI (vs.length + 1)) = False := eq_false (nI_nlt (by omega) (by omega))
  simp only [f_X8_topValue, zob_81 hM, zo_81 hM, a5, Option.bind_some, c1, c2, if_true, if_false, (za_84 hM).1, nI_pred, (za_84 hM).2.1 vs.length (by omega), a7.1]
theorem zk_popValue {v : Int64} (hL : z_Lay M0) (h : z_RS M0 M (v :: vs) ms nn no) : ∃ M', f_X8_popValue M 81 = some (v, M') ∧ z_RS M0 M' vs ms nn no := by
  have hM := h.lay hL
  obtain ⟨a1, a2, a3, a4, a5, a6, a7, a8, a9, b1, b2, b3⟩ := h
  rw [List.length_cons] at a5 a6
  have c1 : ((0 : Int32) < nI (vs.length + 1)) = True := eq_true (nI_lt (a := 0) (by omega) (by omega))
  have c2 : (nI 60 < nI (vs.length + 1)) = False := eq_false (nI_nlt (by omega) (by omega))
  have hM2 : z_Lay (q_sI M 81 4 (nI vs.length)) := hM
  have e4 : q_I (q_sI M 81 4 (nI vs.length)) 81 4 = nI vs.length := by rw [z_I_sI, if_pos ⟨rfl, rfl⟩]
  have eJ : q_J (q_sI M 81 4 (nI vs.length)) = q_J M := rfl
  refine ⟨q_sI M 81 4 (nI vs.length), ?_, ?_⟩
  · simp only [f_X8_popValue, zob_81 hM, zo_81 hM, a5, Option.bind_some, c1, c2, if_true, if_false, (za_84 hM).1, nI_pred, zo_81 hM2, e4, (za_84 hM2).2.1 vs.length (by omega), eJ, a7.1]
  · refine ⟨⟨a1.1, a1.2.1, a1.2.2⟩, fun a h1 h2 h3 => by rw [q_sI_ne h1]; exact a2 a h1 h2 h3, fun g hg => ?_, a4, e4, by omega, a7.2, ?_, a9, ?_, ?_, ?_⟩
    · unfold z_rf at hg
      rw [z_I_sI, if_neg (by omega)]
      exact a3 g hg
    · rw [z_I_sI, if_neg (by omega)]; exact a8
    · exact b1.cong (fun j _ => by rw [z_I_sI, if_neg (by omega), z_I_sI, if_neg (by omega)])
    · rw [z_I_sI, if_neg (by omega)]; exact b2
    · rw [z_I_sI, if_neg (by omega)]; exact b3
theorem zk_pushValue (v : Int64) (hL : z_Lay M0) (h : z_RS M0 M vs ms nn no) (hv : vs.length < 60) : ∃ M', f_X8_pushValue M 81 v = some M' ∧ z_RS M0 M' (v :: vs) ms nn no := by
  have hM := h.lay hL
  obtain ⟨a1, a2, a3, a4, a5, a6, a7, a8, a9, b1, b2, b3⟩ := h
  have c1 : (nI vs.length < nI 60) = True := eq_true (nI_lt hv (by omega))
  have hM2 : z_Lay (q_sJ M 84 vs.length v) := hM
  refine ⟨q_sI (q_sJ M 84 vs.length v) 81 4 (nI (vs.length + 1)), ?_, ?_⟩
  · simp only [f_X8_pushValue, zob_81 hM, zo_81 hM, a5, Option.bind_some, c1, if_true, (za_84 hM).1, (za_84 hM).2.2 vs.length _ hv, zo_81 hM2, z_I_sJ, ← nI_succ]
  · refine ⟨⟨a1.1, a1.2.1, a1.2.2⟩, fun a h1 h2 h3 => by rw [q_sI_ne h1]; exact a2 a h1 h2 h3, fun g hg => ?_, fun a ha => ?_, ?_, ?_, ⟨?_, ?_⟩, ?_, a9, ?_, ?_, ?_⟩
    · unfold z_rf at hg
      rw [z_I_sI, if_neg (by omega)]
      exact a3 g hg
    · have e : q_J (q_sI (q_sJ M 84 vs.length v) 81 4 (nI (vs.length + 1))) a = q_J M a := by
        funext j
        show (if a = 84 ∧ j = vs.length then v else q_J M a j) = _
        rw [if_neg (fun z => ha z.1)]
      rw [e]; exact a4 a ha
    · rw [z_I_sI, if_pos ⟨rfl, rfl⟩]; rfl
    · rw [List.length_cons]; omega
    · exact z_J_sJ2
    · refine a7.cong (fun j hj => ?_)
      show (if 84 = 84 ∧ j = vs.length then v else q_J M 84 j) = _
      rw [if_neg (by omega)]
    · rw [z_I_sI, if_neg (by omega)]; exact a8
    · exact b1.cong (fun j _ => by rw [z_I_sI, if_neg (by omega), z_I_sI, if_neg (by omega)]; rfl)
    · rw [z_I_sI, if_neg (by omega)]; exact b2
    · rw [z_I_sI, if_neg (by omega)]; exact b3
theorem zk_topMark0 (hL : z_Lay M0) (h : z_RS M0 M vs [] nn no) : f_X8_topMark M 81 = some 0 := by
  have hM := h.lay hL
  have a8 : q_I M 81 7 = nI 0 := h.2.2.2.2.2.2.2.1
  simp only [f_X8_topMark, zob_81 hM, zo_81 hM, a8, Option.bind_some, show ((0 : Int32) < nI 0) = False by decide, if_false]
theorem zk_topMark {m : Int32 × Int32} (hL : z_Lay M0) (h : z_RS M0 M vs (m :: ms) nn no) : f_X8_topMark M 81 = some m.1 := by
  have hM := h.lay hL
  obtain ⟨a1, a2, a3, a4, a5, a6, a7, a8, a9, b1, b2, b3⟩ := h
  rw [List.length_cons] at a8 a9
  have c1 : ((0 : Int32) < nI (ms.length + 1)) = True := eq_true (nI_lt (a := 0) (by omega) (by omega))
  have c2 : (nI 60 < nI (ms.length + 1)) = False := eq_false (nI_nlt (by omega) (by omega))
  have e := congrArg Prod.fst b1.1
  simp only [f_X8_topMark, zob_81 hM, zo_81 hM, a8, Option.bind_some, c1, c2, if_true, if_false, (za_85 hM).1, nI_pred, (za_85 hM).2.1 ms.length (by omega)]
  exact congrArg some e
theorem zk_pm1 (k d : Int32) (hL : z_Lay M0) (h : z_RS M0 M vs ms nn no) (hv : ms.length < 60) (hd : d = 0 ∨ d = 1) : f_X8_pushMark M 81 k d = if d = 0 then some (q_sI (q_sI (q_sI M 85 ms.length k) 86 ms.length d) 81 7 (nI (ms.length + 1))) else some (q_sI (q_sI (q_sI (q_sI M 85 ms.length k) 86 ms.length d) 81 7 (nI (ms.length + 1))) 81 9 (nI (nn + 1))) := by
  have hM := h.lay hL
  obtain ⟨a1, a2, a3, a4, a5, a6, a7, a8, a9, b1, b2, b3⟩ := h
  have c1 : (nI ms.length < nI 60) = True := eq_true (nI_lt hv (by omega))
  have hM2 : z_Lay (q_sI M 85 ms.length k) := hM
  have hM3 : z_Lay (q_sI (q_sI M 85 ms.length k) 86 ms.length d) := z_L1 hM2
  have r1 : q_I (q_sI M 85 ms.length k) 81 7 = nI ms.length := by rw [z_I_sI, if_neg (by omega)]; exact a8
  have r2 : q_I (q_sI (q_sI M 85 ms.length k) 86 ms.length d) 81 7 = nI ms.length := by rw [z_I_sI, if_neg (by omega)]; exact r1
  have hM4 : z_Lay (q_sI (q_sI (q_sI M 85 ms.length k) 86 ms.length d) 81 7 (nI (ms.length + 1))) := z_L1 hM3
  have r3 : q_I (q_sI (q_sI (q_sI M 85 ms.length k) 86 ms.length d) 81 7 (nI (ms.length + 1))) 81 9 = nI nn := by
    rw [z_I_sI, if_neg (by omega), z_I_sI, if_neg (by omega), z_I_sI, if_neg (by omega)]; exact b2
  have tz : q_tZ (q_sI M 85 ms.length k) 86 (nI ms.length) d = some (q_sI (q_sI M 85 ms.length k) 86 ms.length d) := (za_86 hM2).2.2 ms.length d hv hd
  have ev : f_X8_pushMark M 81 k d = if d = 0 then some (q_sI (q_sI (q_sI M 85 ms.length k) 86 ms.length d) 81 7 (nI (ms.length + 1))) else some (q_sI (q_sI (q_sI (q_sI M 85 ms.length k) 86 ms.length d) 81 7 (nI (ms.length + 1))) 81 9 (nI (nn + 1))) := by
    simp only [f_X8_pushMark, zob_81 hM, zo_81 hM, a8, Option.bind_some, c1, if_true, (za_85 hM).1, (za_86 hM).1, (za_85 hM).2.2 ms.length _ hv, zo_81 hM2, r1, tz, zo_81 hM3, r2, ← nI_succ, zo_81 hM4, r3]
  exact ev
theorem zk_pm2 (k d : Int32) (hL : z_Lay M0) (h : z_RS M0 M vs ms nn no) (hv : ms.length < 60) (hd : d = 0 ∨ d = 1) : z_RS M0 (q_sI (q_sI (q_sI M 85 ms.length k) 86 ms.length d) 81 7 (nI (ms.length + 1))) vs ((k, d) :: ms) nn no := by
  have hM := h.lay hL
  obtain ⟨a1, a2, a3, a4, a5, a6, a7, a8, a9, b1, b2, b3⟩ := h
  have c1 : (nI ms.length < nI 60) = True := eq_true (nI_lt hv (by omega))
  have hM2 : z_Lay (q_sI M 85 ms.length k) := hM
  have hM3 : z_Lay (q_sI (q_sI M 85 ms.length k) 86 ms.length d) := z_L1 hM2
  have r1 : q_I (q_sI M 85 ms.length k) 81 7 = nI ms.length := by rw [z_I_sI, if_neg (by omega)]; exact a8
  have r2 : q_I (q_sI (q_sI M 85 ms.length k) 86 ms.length d) 81 7 = nI ms.length := by rw [z_I_sI, if_neg (by omega)]; exact r1
  have hM4 : z_Lay (q_sI (q_sI (q_sI M 85 ms.length k) 86 ms.length d) 81 7 (nI (ms.length + 1))) := z_L1 hM3
  have r3 : q_I (q_sI (q_sI (q_sI M 85 ms.length k) 86 ms.length d) 81 7 (nI (ms.length + 1))) 81 9 = nI nn := by
    rw [z_I_sI, if_neg (by omega), z_I_sI, if_neg (by omega), z_I_sI, if_neg (by omega)]; exact b2
  have key : z_RS M0 (q_sI (q_sI (q_sI M 85 ms.length k) 86 ms.length d) 81 7 (nI (ms.length + 1))) vs ((k, d) :: ms) nn no := by
    refine ⟨⟨a1.1, a1.2.1, a1.2.2⟩, fun a h1 h2 h3 => by rw [q_sI_ne h1, q_sI_ne h3, q_sI_ne h2]; exact a2 a h1 h2 h3, fun g hg => ?_, a4, ?_, a6, a7, ?_, ?_, ⟨?_, ?_⟩, r3, ?_⟩
    · unfold z_rf at hg
      rw [z_I_sI, if_neg (by omega), z_I_sI, if_neg (by omega), z_I_sI, if_neg (by omega)]
      exact a3 g hg
    · rw [z_I_sI, if_neg (by omega), z_I_sI, if_neg (by omega), z_I_sI, if_neg (by omega)]; exact a5
    · rw [z_I_sI, if_pos ⟨rfl, rfl⟩]; rfl
    · rw [List.length_cons]; omega
    · show (q_I (q_sI (q_sI (q_sI M 85 ms.length k) 86 ms.length d) 81 7 (nI (ms.length + 1))) 85 ms.length, q_I (q_sI (q_sI (q_sI M 85 ms.length k) 86 ms.length d) 81 7 (nI (ms.length + 1))) 86 ms.length) = (k, d)
      rw [z_I_sI, if_neg (by omega), z_I_sI, if_neg (by omega), z_I_sI, if_pos ⟨rfl, rfl⟩, z_I_sI, if_neg (by omega), z_I_sI, if_pos ⟨rfl, rfl⟩]
    · refine b1.cong (fun j hj => ?_)
      show (q_I (q_sI (q_sI (q_sI M 85 ms.length k) 86 ms.length d) 81 7 (nI (ms.length + 1))) 85 j, q_I (q_sI (q_sI (q_sI M 85 ms.length k) 86 ms.length d) 81 7 (nI (ms.length + 1))) 86 j) = _
      rw [z_I_sI, if_neg (by omega), z_I_sI, if_neg (by omega), z_I_sI, if_neg (by omega), z_I_sI, if_neg (by omega), z_I_sI, if_neg (by omega), z_I_sI, if_neg (by omega)]
    · rw [z_I_sI, if_neg (by omega), z_I_sI, if_neg (by omega), z_I_sI, if_neg (by omega)]; exact b3
  exact key
theorem z_RS.nn9 (n : Nat) (h : z_RS M0 M vs ms nn no) : z_RS M0 (q_sI M 81 9 (nI n)) vs ms n no := by
  obtain ⟨a1, a2, a3, a4, a5, a6, a7, a8, a9, b1, b2, b3⟩ := h
  refine ⟨⟨a1.1, a1.2.1, a1.2.2⟩, fun a h1 h2 h3 => by rw [q_sI_ne h1]; exact a2 a h1 h2 h3, fun g hg => ?_, a4, ?_, a6, a7, ?_, a9, ?_, ?_, ?_⟩
  · have hg' := hg
    unfold z_rf at hg'
    rw [z_I_sI, if_neg (by omega)]
    exact a3 g hg
  · rw [z_I_sI, if_neg (by omega)]; exact a5
  · rw [z_I_sI, if_neg (by omega)]; exact a8
  · exact b1.cong (fun j _ => by rw [z_I_sI, if_neg (by omega), z_I_sI, if_neg (by omega)])
  · rw [z_I_sI, if_pos ⟨rfl, rfl⟩]
  · rw [z_I_sI, if_neg (by omega)]; exact b3
theorem zk_pushMark (k d : Int32) (hL : z_Lay M0) (h : z_RS M0 M vs ms nn no) (hv : ms.length < 60) (hd : d = 0 ∨ d = 1) : ∃ M', f_X8_pushMark M 81 k d = some M' ∧ z_RS M0 M' vs ((k, d) :: ms) ((if d = 0 then 0 else 1) + nn) no := by
  have key := zk_pm2 k d hL h hv hd
  have ev := zk_pm1 k d hL h hv hd
  generalize q_sI (q_sI (q_sI M 85 ms.length k) 86 ms.length d) 81 7 (nI (ms.length + 1)) = Mk at key ev
  by_cases c : d = 0
  · rw [if_pos c] at ev
    refine ⟨Mk, ev, ?_⟩
    rw [if_pos c, Nat.zero_add]; exact key
  · rw [if_neg c] at ev
    refine ⟨_, ev, ?_⟩
    rw [if_neg c, Nat.add_comm 1 nn]
    exact key.nn9 (nn + 1)
theorem zk_popMark {k d : Int32} (hL : z_Lay M0) (h : z_RS M0 M vs ((k, d) :: ms) ((if d = 0 then 0 else 1) + nn) no) (hd : d = 0 ∨ d = 1) : ∃ M', f_X8_popMark M 81 = some (d, M') ∧ z_RS M0 M' vs ms nn no := by
  have hM := h.lay hL
  obtain ⟨a1, a2, a3, a4, a5, a6, a7, a8, a9, b1, b2, b3⟩ := h
  rw [List.length_cons] at a8 a9
  have c1 : ((0 : Int32) < nI (ms.length + 1)) = True := eq_true (nI_lt (a := 0) (by omega) (by omega))
  have c2 : (nI 60 < nI (ms.length + 1)) = False := eq_false (nI_nlt (by omega) (by omega))
  have hM2 : z_Lay (q_sI M 81 7 (nI ms.length)) := hM
  have e7 : q_I (q_sI M 81 7 (nI ms.length)) 81 7 = nI ms.length := by rw [z_I_sI, if_pos ⟨rfl, rfl⟩]
  have e9 : q_I (q_sI M 81 7 (nI ms.length)) 81 9 = nI ((if d = 0 then 0 else 1) + nn) := by rw [z_I_sI, if_neg (by omega)]; exact b2
  have ed : q_I M 86 ms.length = d := congrArg Prod.snd b1.1
  have e86 : q_I (q_sI M 81 7 (nI ms.length)) 86 ms.length = d := by rw [z_I_sI, if_neg (by omega)]; exact ed
  have key : ∀ v, v = nI nn → z_RS M0 (q_sI (q_sI M 81 7 (nI ms.length)) 81 9 v) vs ms nn no := by
    intro v hv
    refine ⟨⟨a1.1, a1.2.1, a1.2.2⟩, fun a h1 h2 h3 => by rw [q_sI_ne h1, q_sI_ne h1]; exact a2 a h1 h2 h3, fun g hg => ?_, a4, ?_, a6, a7, ?_, by omega, ?_, ?_, ?_⟩
    · have hg' := hg
      unfold z_rf at hg'
      rw [z_I_sI, if_neg (by omega), z_I_sI, if_neg (by omega)]
      exact a3 g hg
    · rw [z_I_sI, if_neg (by omega), z_I_sI, if_neg (by omega)]; exact a5
    · rw [z_I_sI, if_neg (by omega), z_I_sI, if_pos ⟨rfl, rfl⟩]
    · exact b1.2.cong (fun j _ => by rw [z_I_sI, if_neg (by omega), z_I_sI, if_neg (by omega), z_I_sI, if_neg (by omega), z_I_sI, if_neg (by omega)])
    · rw [z_I_sI, if_pos ⟨rfl, rfl⟩, hv]
    · rw [z_I_sI, if_neg (by omega), z_I_sI, if_neg (by omega)]; exact b3
  rcases hd with rfl | rfl
  · refine ⟨q_sI M 81 7 (nI ms.length), ?_, ?_⟩
    · simp only [f_X8_popMark, f_X8_popMark_b53, zob_81 hM, zo_81 hM, a8, Option.bind_some, c1, c2, if_true, if_false, (za_86 hM).1, nI_pred, zo_81 hM2, e7, (za_86 hM2).2.1 ms.length (by omega), e86, true_or]
    · rw [if_pos rfl, Nat.zero_add] at b2
      refine ⟨⟨a1.1, a1.2.1, a1.2.2⟩, fun a h1 h2 h3 => by rw [q_sI_ne h1]; exact a2 a h1 h2 h3, fun g hg => ?_, a4, ?_, a6, a7, e7, by omega, ?_, ?_, ?_⟩
      · have hg' := hg
        unfold z_rf at hg'
        rw [z_I_sI, if_neg (by omega)]
        exact a3 g hg
      · rw [z_I_sI, if_neg (by omega)]; exact a5
      · exact b1.2.cong (fun j _ => by rw [z_I_sI, if_neg (by omega), z_I_sI, if_neg (by omega)])
      · rw [z_I_sI, if_neg (by omega)]; exact b2
      · rw [z_I_sI, if_neg (by omega)]; exact b3
  · have n10 : ((1 : Int32) = 0) = False := by decide
    rw [if_neg (by decide), Nat.add_comm 1 nn] at e9
    have hM3 : z_Lay (q_sI (q_sI M 81 7 (nI ms.length)) 81 9 (nI nn)) := z_L1 hM2
    have f7 : q_I (q_sI (q_sI M 81 7 (nI ms.length)) 81 9 (nI nn)) 81 7 = nI ms.length := by rw [z_I_sI, if_neg (by omega)]; exact e7
    have f86 : q_I (q_sI (q_sI M 81 7 (nI ms.length)) 81 9 (nI nn)) 86 ms.length = 1 := by rw [z_I_sI, if_neg (by omega)]; exact e86
    refine ⟨q_sI (q_sI M 81 7 (nI ms.length)) 81 9 (nI nn), ?_, key _ rfl⟩
    simp only [f_X8_popMark, f_X8_popMark_b53, zob_81 hM, zo_81 hM, a8, Option.bind_some, c1, c2, if_true, if_false, (za_86 hM).1, nI_pred, zo_81 hM2, e7, (za_86 hM2).2.1 ms.length (by omega), e86, n10, e9, zo_81 hM3, f7, (za_86 hM3).2.1 ms.length (by omega), f86, or_true]
theorem zk_rankOf {k : Nat} (hk : k < 200) : f_X8_rankOf M (nI k) = some (nI (z_rk k)) := by
  have e : ∀ j, j < 200 → (nI k = nI j) = (k = j) := fun j hj => propext (nI_eq (by omega) (by omega))
  unfold f_X8_rankOf z_rk
  have q : ∀ (j : Nat) (x : Int32), j < 200 → x = nI j → ((nI k = x) = (k = j)) := fun j x hj hx => by rw [hx]; exact e j hj
  simp only [q 38 38 (by decide) rfl, q 42 42 (by decide) rfl, q 43 43 (by decide) rfl, q 45 45 (by decide) rfl, q 47 47 (by decide) rfl, q 60 60 (by decide) rfl, q 61 61 (by decide) rfl, q 62 62 (by decide) rfl, q 124 124 (by decide) rfl]
  repeat' split
  all_goals rfl
end ZR
