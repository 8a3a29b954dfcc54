/-! ===== the reader: operations done ===== -/
def z_bi (b : Bool) : Int32 := if b = true then 1 else 0
theorem z_bi01 (b : Bool) : z_bi b = 0 ∨ z_bi b = 1 := by cases b <;> decide
theorem z_bi0 (b : Bool) : (z_bi b = 0) = (b = false) := by cases b <;> simp [z_bi]
def z_zd (ν : Nat → Int64) (f : z_Fr) : Bool := if f.1 = 63 then (if (f.2.1 ν).1 = 0 then true else false) else if f.1 = 58 then (if (f.2.1 ν).1 = 0 then false else true) else z_dc f.1 (f.2.1 ν).1
def z_fv (ν : Nat → Int64) (f : z_Fr) : List Int64 := if 0 < z_rk f.1 then [(f.2.1 ν).1] else if f.1 = 58 then (if (f.2.1 ν).1 = 0 then [] else [(f.2.2 ν).1]) else []
def z_vs (ν : Nat → Int64) : List z_Fr → List Int64
  | [] => []
  | f :: t => z_fv ν f ++ z_vs ν t
def z_ms (ν : Nat → Int64) : List z_Fr → List (Int32 × Int32)
  | [] => []
  | f :: t => (nI f.1, z_bi (z_zd ν f)) :: z_ms ν t
def z_nn (ν : Nat → Int64) : List z_Fr → Nat
  | [] => 0
  | f :: t => (if z_bi (z_zd ν f) = 0 then 0 else 1) + z_nn ν t
def z_fn (ν : Nat → Int64) (f : z_Fr) : Bool := (f.2.1 ν).2 || (if f.1 = 58 then (if (f.2.1 ν).1 = 0 then false else (f.2.2 ν).2) else false)
def z_nz (ν : Nat → Int64) : List z_Fr → Bool
  | [] => false
  | f :: t => z_nz ν t || (if z_nn ν t = 0 then z_fn ν f else false)
def z_kk : List z_Fr → Prop
  | [] => True
  | f :: t => (f.1 < 129 ∧ f.1 ≠ 0 ∧ (z_rk f.1 = 0 → f.1 ≠ 58 → f.1 ≠ 63 → f.2.1 = z_no2)) ∧ z_kk t
theorem z_ms_len (ν : Nat → Int64) : ∀ fr, (z_ms ν fr).length = fr.length
  | [] => rfl
  | f :: t => congrArg (· + 1) (z_ms_len ν t)
theorem z_nn_le (ν : Nat → Int64) : ∀ fr, z_nn ν fr ≤ fr.length
  | [] => Nat.le_refl _
  | f :: t => by
    have := z_nn_le ν t
    unfold z_nn
    rw [List.length_cons]
    split <;> omega
theorem z_fv_len (ν : Nat → Int64) (f : z_Fr) : (z_fv ν f).length ≤ (if 0 < z_rk f.1 then 1 else if f.1 = 58 then 1 else 0) := by
  unfold z_fv
  split
  · exact Nat.le_refl _
  · split
    · split
      · exact Nat.zero_le _
      · exact Nat.le_refl _
    · exact Nat.le_refl _
theorem z_room (ν : Nat → Int64) : ∀ fr, (z_vs ν fr).length + fr.length ≤ z_wt fr
  | [] => Nat.le_refl _
  | f :: t => by
    have h1 := z_room ν t
    have h2 := z_fv_len ν f
    unfold z_vs z_wt
    rw [List.length_append, List.length_cons]
    split at h2
    · rw [if_pos (by assumption)]; omega
    · rw [if_neg (by assumption)]
      split at h2
      · rw [if_pos (by assumption)]; omega
      · rw [if_neg (by assumption)]; omega
def z_CR (ν : Nat → Int64) (M0 M : q_Mem) (fr : List z_Fr) : Prop := z_RS M0 M (z_vs ν fr) (z_ms ν fr) (z_nn ν fr) (z_bi (z_nz ν fr))
def z_CU (ν : Nat → Int64) (M0 M : q_Mem) (fr : List z_Fr) (s : z_Sem) : Prop := z_RS M0 M (z_vs ν fr) (z_ms ν fr) (z_nn ν fr) (z_bi (z_nz ν fr || (if z_nn ν fr = 0 then (s ν).2 else false)))
def z_CT (ν : Nat → Int64) (M0 M : q_Mem) (fr : List z_Fr) (s : z_Sem) : Prop := z_RS M0 M ((s ν).1 :: z_vs ν fr) (z_ms ν fr) (z_nn ν fr) (z_bi (z_nz ν fr || (if z_nn ν fr = 0 then (s ν).2 else false)))
theorem z_dec1 (n : Nat) : nI (n + 1) + (-1 : Int32) = nI n := by
  rw [← nI_pred (n := n), Int32.sub_eq_add_neg]
theorem z_RS.no12 {M0 M : q_Mem} {vs : List Int64} {ms : List (Int32 × Int32)} {nn : Nat} {no : Int32} (v : Int32) (h : z_RS M0 M vs ms nn no) : z_RS M0 (q_sI M 81 12 v) vs ms nn v := by
  obtain ⟨a1, a2, a3, a4, a5, a6, a7, a8, a9, b1, b2, b3⟩ := h
  refine ⟨⟨a1.1, a1.2.1, a1.2.2⟩, fun a h1 h2 h3 => by rw [q_sI_ne h1]; exact a2 a h1 h2 h3, fun g hg => ?_, a4, ?_, a6, a7, ?_, a9, ?_, ?_, ?_⟩
  · have hg' := hg
    unfold z_rf at hg'
    rw [z_I_sI, if_neg (by omega)]
    exact a3 g hg
  · rw [z_I_sI, if_neg (by omega)]; exact a5
  · rw [z_I_sI, if_neg (by omega)]; exact a8
  · exact b1.cong (fun j _ => by rw [z_I_sI, if_neg (by omega), z_I_sI, if_neg (by omega)])
  · rw [z_I_sI, if_neg (by omega)]; exact b2
  · rw [z_I_sI, if_pos ⟨rfl, rfl⟩]
theorem zk_made {M0 M : q_Mem} {vs : List Int64} {ms : List (Int32 × Int32)} {nn : Nat} {no : Int32} {k : Nat} (x y : Int64) (hL : z_Lay M0) (h : z_RS M0 M vs ms nn no) (hk : 0 < z_rk k) (hn : nn < 100) : ∃ M', f_X8_made M 81 (nI k) x y = some (z_op k x y, M') ∧ z_RS M0 M' vs ms nn (if k = 47 ∧ y = 0 ∧ nn = 0 then 1 else no) := by
  have hM := h.lay hL
  have b2 : q_I M 81 9 = nI nn := h.2.2.2.2.2.2.2.2.2.2.1
  rcases z_rk_pos hk with rfl | rfl | rfl | rfl | rfl | rfl | rfl | rfl | rfl
  · refine ⟨M, ?_, by rw [if_neg (by omega)]; exact h⟩
    simp only [f_X8_made, zob_81 hM, show ((nI 38 : Int32) = 38) = True by decide, if_true, if_false, z_op, show ((38 : Nat) = 38) = True by decide]
    split <;> rfl
  · refine ⟨M, ?_, by rw [if_neg (by omega)]; exact h⟩
    simp only [f_X8_made, zob_81 hM, show ((nI 42 : Int32) = 38) = False by decide, show ((nI 42 : Int32) = 42) = True by decide, if_true, if_false, z_op, show ((42 : Nat) = 38) = False by decide, show ((42 : Nat) = 42) = True by decide]
  · refine ⟨M, ?_, by rw [if_neg (by omega)]; exact h⟩
    simp only [f_X8_made, zob_81 hM, show ((nI 43 : Int32) = 38) = False by decide, show ((nI 43 : Int32) = 42) = False by decide, show ((nI 43 : Int32) = 43) = True by decide, if_true, if_false, z_op, show ((43 : Nat) = 38) = False by decide, show ((43 : Nat) = 42) = False by decide, show ((43 : Nat) = 43) = True by decide]
  · refine ⟨M, ?_, by rw [if_neg (by omega)]; exact h⟩
    simp only [f_X8_made, zob_81 hM, show ((nI 45 : Int32) = 38) = False by decide, show ((nI 45 : Int32) = 42) = False by decide, show ((nI 45 : Int32) = 43) = False by decide, show ((nI 45 : Int32) = 45) = True by decide, if_true, if_false, z_op, show ((45 : Nat) = 38) = False by decide, show ((45 : Nat) = 42) = False by decide, show ((45 : Nat) = 43) = False by decide, show ((45 : Nat) = 45) = True by decide]
  · have e : f_X8_made M 81 (nI 47) x y = if y = 0 then (if nn = 0 then f_X8_made_b162 (q_sI M 81 12 1) x y else f_X8_made_b162 M x y) else f_X8_made_b162 M x y := by
      have q : (nI nn = 0) = (nn = 0) := propext (nI_eq (b := 0) (by omega) (by decide))
      simp only [f_X8_made, zob_81 hM, show ((nI 47 : Int32) = 38) = False by decide, show ((nI 47 : Int32) = 42) = False by decide, show ((nI 47 : Int32) = 43) = False by decide, show ((nI 47 : Int32) = 45) = False by decide, show ((nI 47 : Int32) = 60) = False by decide, show ((nI 47 : Int32) = 61) = False by decide, show ((nI 47 : Int32) = 62) = False by decide, show ((nI 47 : Int32) = 124) = False by decide, if_false, zo_81 hM, b2, Option.bind_some, q, or_true, if_true]
    have eo : z_op 47 x y = if y = 0 then 0 else x / y := by
      simp only [z_op, show ((47 : Nat) = 38) = False by decide, show ((47 : Nat) = 42) = False by decide, show ((47 : Nat) = 43) = False by decide, show ((47 : Nat) = 45) = False by decide, show ((47 : Nat) = 60) = False by decide, show ((47 : Nat) = 61) = False by decide, show ((47 : Nat) = 62) = False by decide, show ((47 : Nat) = 124) = False by decide, if_false]
    rw [e, eo]
    by_cases c : y = 0
    · rw [if_pos c, if_pos c]
      by_cases c2 : nn = 0
      · rw [if_pos c2, if_pos ⟨rfl, c, c2⟩]
        exact ⟨_, if_pos c, h.no12 1⟩
      · rw [if_neg c2, if_neg (fun z => c2 z.2.2)]
        exact ⟨M, if_pos c, h⟩
    · rw [if_neg c, if_neg c, if_neg (fun z => c z.2.1)]
      refine ⟨M, ?_, h⟩
      unfold f_X8_made_b162
      rw [if_neg c, show q_ldv x y = some (x / y) from if_neg c]; rfl
  · refine ⟨M, ?_, by rw [if_neg (by omega)]; exact h⟩
    simp only [f_X8_made, zob_81 hM, show ((nI 60 : Int32) = 38) = False by decide, show ((nI 60 : Int32) = 42) = False by decide, show ((nI 60 : Int32) = 43) = False by decide, show ((nI 60 : Int32) = 45) = False by decide, show ((nI 60 : Int32) = 60) = True by decide, if_true, if_false, z_op, show ((60 : Nat) = 38) = False by decide, show ((60 : Nat) = 42) = False by decide, show ((60 : Nat) = 43) = False by decide, show ((60 : Nat) = 45) = False by decide, show ((60 : Nat) = 60) = True by decide]
    split <;> rfl
  · refine ⟨M, ?_, by rw [if_neg (by omega)]; exact h⟩
    simp only [f_X8_made, zob_81 hM, show ((nI 61 : Int32) = 38) = False by decide, show ((nI 61 : Int32) = 42) = False by decide, show ((nI 61 : Int32) = 43) = False by decide, show ((nI 61 : Int32) = 45) = False by decide, show ((nI 61 : Int32) = 60) = False by decide, show ((nI 61 : Int32) = 61) = True by decide, if_true, if_false, z_op, show ((61 : Nat) = 38) = False by decide, show ((61 : Nat) = 42) = False by decide, show ((61 : Nat) = 43) = False by decide, show ((61 : Nat) = 45) = False by decide, show ((61 : Nat) = 60) = False by decide, show ((61 : Nat) = 61) = True by decide]
    split <;> rfl
  · refine ⟨M, ?_, by rw [if_neg (by omega)]; exact h⟩
    simp only [f_X8_made, zob_81 hM, show ((nI 62 : Int32) = 38) = False by decide, show ((nI 62 : Int32) = 42) = False by decide, show ((nI 62 : Int32) = 43) = False by decide, show ((nI 62 : Int32) = 45) = False by decide, show ((nI 62 : Int32) = 60) = False by decide, show ((nI 62 : Int32) = 61) = False by decide, show ((nI 62 : Int32) = 62) = True by decide, if_true, if_false, z_op, show ((62 : Nat) = 38) = False by decide, show ((62 : Nat) = 42) = False by decide, show ((62 : Nat) = 43) = False by decide, show ((62 : Nat) = 45) = False by decide, show ((62 : Nat) = 60) = False by decide, show ((62 : Nat) = 61) = False by decide, show ((62 : Nat) = 62) = True by decide]
    split <;> rfl
  · refine ⟨M, ?_, by rw [if_neg (by omega)]; exact h⟩
    simp only [f_X8_made, zob_81 hM, show ((nI 124 : Int32) = 38) = False by decide, show ((nI 124 : Int32) = 42) = False by decide, show ((nI 124 : Int32) = 43) = False by decide, show ((nI 124 : Int32) = 45) = False by decide, show ((nI 124 : Int32) = 60) = False by decide, show ((nI 124 : Int32) = 61) = False by decide, show ((nI 124 : Int32) = 62) = False by decide, show ((nI 124 : Int32) = 124) = True by decide, if_true, if_false, z_op, show ((124 : Nat) = 38) = False by decide, show ((124 : Nat) = 42) = False by decide, show ((124 : Nat) = 43) = False by decide, show ((124 : Nat) = 45) = False by decide, show ((124 : Nat) = 60) = False by decide, show ((124 : Nat) = 61) = False by decide, show ((124 : Nat) = 62) = False by decide, show ((124 : Nat) = 124) = True by decide]
    split <;> rfl
theorem z_nI_in {a b : Nat} (ha : a < 200) (hb : b < 200) : (nI a = nI b) = (a = b) := propext (nI_eq (by omega) (by omega))
/-- two truths or a division's, told together -/
theorem z_nz_bin {ν : Nat → Int64} {f : z_Fr} {t : List z_Fr} {s : z_Sem} (hk : 0 < z_rk f.1) : (z_nz ν t || (if z_nn ν t = 0 then (z_sBin f.1 f.2.1 s ν).2 else false)) = (if z_bi (z_zd ν f) = 0 then (if f.1 = 47 ∧ (s ν).1 = 0 ∧ z_nn ν t = 0 then true else (z_nz ν (f :: t) || (if z_nn ν (f :: t) = 0 then (s ν).2 else false))) else (z_nz ν (f :: t) || (if z_nn ν (f :: t) = 0 then (s ν).2 else false))) := by
  have h63 : f.1 ≠ 63 := fun z => by rw [z] at hk; exact absurd hk (by decide)
  have h58 : f.1 ≠ 58 := fun z => by rw [z] at hk; exact absurd hk (by decide)
  have ed : z_zd ν f = z_dc f.1 (f.2.1 ν).1 := by unfold z_zd; rw [if_neg h63, if_neg h58]
  have ef : z_fn ν f = (f.2.1 ν).2 := by unfold z_fn; rw [if_neg h58, Bool.or_false]
  have e1 : z_nz ν (f :: t) = (z_nz ν t || (if z_nn ν t = 0 then (f.2.1 ν).2 else false)) := by rw [← ef]; rfl
  have e2 : z_nn ν (f :: t) = (if z_bi (z_dc f.1 (f.2.1 ν).1) = 0 then 0 else 1) + z_nn ν t := by rw [← ed]; rfl
  have e3 : (z_sBin f.1 f.2.1 s ν).2 = ((f.2.1 ν).2 || (if z_dc f.1 (f.2.1 ν).1 = true then false else ((s ν).2 || (if f.1 = 47 then (if (s ν).1 = 0 then true else false) else false)))) := rfl
  rw [e1, e2, e3, ed]
  generalize z_dc f.1 (f.2.1 ν).1 = d
  generalize (f.2.1 ν).2 = a2
  generalize (s ν).2 = s2
  generalize z_nz ν t = n
  by_cases c : z_nn ν t = 0
  · rw [c]
    by_cases c1 : f.1 = 47
    · by_cases c2 : (s ν).1 = 0
      · simp only [c1, c2, if_true, and_self]
        cases d <;> cases a2 <;> cases s2 <;> cases n <;> decide
      · simp only [c1, c2, if_true, if_false, and_false, and_true, false_and]
        cases d <;> cases a2 <;> cases s2 <;> cases n <;> decide
    · simp only [c1, if_true, if_false, false_and]
      cases d <;> cases a2 <;> cases s2 <;> cases n <;> decide
  · have c3 : ∀ m, (m + z_nn ν t = 0) = False := fun m => eq_false (by omega)
    simp only [c, c3, if_false, and_false, Bool.or_false, ite_self]
theorem zq_settle {ν : Nat → Int64} {M0 : q_Mem} (hL : z_Lay M0) {r : Nat} (hr : 0 < r) (hr2 : r < 10) : ∀ (fr : List z_Fr) (s : z_Sem) (M : q_Mem) (fu : Nat), z_kk fr → z_CT ν M0 M fr s → fr.length < fu → ∃ M', f_X8_settle_b5 81 (nI r) fu (nI fr.length) M = some M' ∧ z_CT ν M0 M' (z_gS r fr s).1 (z_gS r fr s).2
  | [], s, M, fu, hk, h, hf => by
    obtain ⟨g, rfl⟩ : ∃ g, fu = g + 1 := ⟨fu - 1, by omega⟩
    refine ⟨M, ?_, h⟩
    simp only [f_X8_settle_b5.eq_2, List.length_nil, show ((0 : Int32) < nI 0) = False by decide, if_false]
  | f :: t, s, M, fu, hk, h, hf => by
    obtain ⟨g, rfl⟩ : ∃ g, fu = g + 1 := ⟨fu - 1, by omega⟩
    have hlen : t.length + 1 ≤ 60 := by
      have := h.2.2.2.2.2.2.2.2.1
      rw [z_ms_len] at this
      exact this
    have c1 : ((0 : Int32) < nI (t.length + 1)) = True := eq_true (nI_lt (a := 0) (by omega) (by omega))
    have tm : f_X8_topMark M 81 = some (nI f.1) := zk_topMark hL h
    have hrk : z_rk f.1 < 10 := by
      unfold z_rk
      repeat' split
      all_goals omega
    by_cases c : z_rk f.1 < r
    · have e : z_gS r (f :: t) s = (f :: t, s) := if_pos c
      rw [e]
      refine ⟨M, ?_, h⟩
      have c2 : (nI (z_rk f.1) < nI r) = True := eq_true (nI_lt c (by omega))
      simp only [f_X8_settle_b5.eq_2, List.length_cons, c1, if_true, tm, Option.bind_some, zk_rankOf (show f.1 < 200 by have := hk.1.1; omega), c2]
    · have e : z_gS r (f :: t) s = z_gS r t (z_sBin f.1 f.2.1 s) := if_neg c
      have hpos : 0 < z_rk f.1 := by omega
      have c2 : (nI (z_rk f.1) < nI r) = False := eq_false (nI_nlt (by omega) (by omega))
      have ev : z_vs ν (f :: t) = (f.2.1 ν).1 :: z_vs ν t := by
        show z_fv ν f ++ z_vs ν t = _
        unfold z_fv
        rw [if_pos hpos]; rfl
      have h' := h
      unfold z_CT at h'
      rw [ev] at h'
      obtain ⟨M1, p1, h1⟩ := zk_popMark hL h' (z_bi01 _)
      obtain ⟨M2, p2, h2⟩ := zk_popValue hL h1
      obtain ⟨M3, p3, h3⟩ := zk_popValue hL h2
      have hv : (z_vs ν t).length < 60 := by
        have := h1.2.2.2.2.2.1
        rw [List.length_cons, List.length_cons] at this
        omega
      have hnn : z_nn ν t < 100 := by have := z_nn_le ν t; omega
      have hz := z_nz_bin (ν := ν) (f := f) (t := t) (s := s) hpos
      have h63 : f.1 ≠ 63 := fun z => by rw [z] at hpos; exact absurd hpos (by decide)
      have h58 : f.1 ≠ 58 := fun z => by rw [z] at hpos; exact absurd hpos (by decide)
      have ed : z_zd ν f = z_dc f.1 (f.2.1 ν).1 := by unfold z_zd; rw [if_neg h63, if_neg h58]
      have eb : (z_sBin f.1 f.2.1 s ν).1 = if z_dc f.1 (f.2.1 ν).1 = true then (if f.1 = 124 then 1 else 0) else z_op f.1 (f.2.1 ν).1 (s ν).1 := rfl
      have main : ∃ M5, (∀ x, x = f_X8_settle_b5 81 (nI r) (g + 1) (nI (f :: t).length) M → x = f_X8_settle_b5 81 (nI r) g (nI t.length) M5) ∧ z_CT ν M0 M5 t (z_sBin f.1 f.2.1 s) := by
        by_cases d : z_bi (z_zd ν f) = 0
        · obtain ⟨M4, p4, h4⟩ := zk_made (f.2.1 ν).1 (s ν).1 hL h3 hpos hnn
          obtain ⟨M5, p5, h5⟩ := zk_pushValue (z_op f.1 (f.2.1 ν).1 (s ν).1) hL h4 hv
          refine ⟨M5, fun x hx => ?_, ?_⟩
          · rw [hx]
            simp only [f_X8_settle_b5.eq_2, List.length_cons, c1, if_true, tm, Option.bind_some, zk_rankOf (show f.1 < 200 by have := hk.1.1; omega), c2, if_false, p1, p2, p3, d, p4, p5, z_dec1]
          · rw [if_pos d] at hz
            rw [z_bi0, ed] at d
            unfold z_CT
            rw [hz, eb, d, if_neg (by decide)]
            have e6 : z_bi (if f.1 = 47 ∧ (s ν).1 = 0 ∧ z_nn ν t = 0 then true else (z_nz ν (f :: t) || (if z_nn ν (f :: t) = 0 then (s ν).2 else false))) = (if f.1 = 47 ∧ (s ν).1 = 0 ∧ z_nn ν t = 0 then 1 else z_bi (z_nz ν (f :: t) || (if z_nn ν (f :: t) = 0 then (s ν).2 else false))) := by
              split <;> rfl
            rw [e6]
            exact h5
        · have d1 : z_bi (z_zd ν f) = 1 := (z_bi01 _).resolve_left d
          obtain ⟨M5, p5, h5⟩ := zk_pushValue (if f.1 = 124 then 1 else 0) hL h3 hv
          refine ⟨M5, fun x hx => ?_, ?_⟩
          · rw [hx]
            have q : (nI f.1 = (124 : Int32)) = (f.1 = 124) := z_nI_in (b := 124) (by have := hk.1.1; omega) (by decide)
            by_cases c4 : f.1 = 124
            · rw [if_pos c4] at p5
              have p5' : f_X8_pushValue M3 81 ((1 : Int32).toInt64) = some M5 := p5
              have q1 : (nI f.1 = (124 : Int32)) = True := by rw [q]; exact eq_true c4
              simp only [f_X8_settle_b5.eq_2, f_X8_settle_b60, List.length_cons, c1, if_true, tm, Option.bind_some, zk_rankOf (show f.1 < 200 by have := hk.1.1; omega), c2, if_false, p1, p2, p3, d, q1, z_c_asNumber (Or.inr rfl), p5', z_dec1]
            · rw [if_neg c4] at p5
              have p5' : f_X8_pushValue M3 81 ((0 : Int32).toInt64) = some M5 := p5
              have q1 : (nI f.1 = (124 : Int32)) = False := by rw [q]; exact eq_false c4
              simp only [f_X8_settle_b5.eq_2, f_X8_settle_b60, List.length_cons, c1, if_true, tm, Option.bind_some, zk_rankOf (show f.1 < 200 by have := hk.1.1; omega), c2, if_false, p1, p2, p3, d, q1, z_c_asNumber (Or.inl rfl), p5', z_dec1]
          · rw [if_neg d] at hz
            have d2 : z_dc f.1 (f.2.1 ν).1 = true := by
              rw [ed] at d1
              cases hd : z_dc f.1 (f.2.1 ν).1 with
              | true => rfl
              | false => rw [hd] at d1; exact absurd d1 (by decide)
            unfold z_CT
            rw [hz, eb, if_pos d2]
            exact h5
      obtain ⟨M5, q5, h5⟩ := main
      obtain ⟨M', r1, r2⟩ := zq_settle hL hr hr2 t (z_sBin f.1 f.2.1 s) M5 g hk.2 h5 (by rw [List.length_cons] at hf; omega)
      rw [e]
      exact ⟨M', (q5 _ rfl).trans r1, r2⟩
theorem zs_settle {ν : Nat → Int64} {M0 M : q_Mem} (hL : z_Lay M0) {r : Nat} (hr : 0 < r) (hr2 : r < 10) {fr : List z_Fr} {s : z_Sem} (hk : z_kk fr) (h : z_CT ν M0 M fr s) : ∃ M', f_X8_settle M 81 (nI r) = some M' ∧ z_CT ν M0 M' (z_gS r fr s).1 (z_gS r fr s).2 := by
  have hM := h.lay hL
  have a8 : q_I M 81 7 = nI (z_ms ν fr).length := h.2.2.2.2.2.2.2.1
  rw [z_ms_len] at a8
  have hlen : fr.length ≤ 60 := by
    have := h.2.2.2.2.2.2.2.2.1
    rw [z_ms_len] at this
    exact this
  obtain ⟨M', r1, r2⟩ := zq_settle hL hr hr2 fr s M q_fuel hk h (z_fu (by omega))
  refine ⟨M', ?_, r2⟩
  simp only [f_X8_settle, zob_81 hM, zo_81 hM, a8, Option.bind_some, r1]
theorem z_kk_gS (r : Nat) : ∀ (fr : List z_Fr) (s : z_Sem), z_kk fr → z_kk (z_gS r fr s).1
  | [], s, h => h
  | f :: t, s, h => by
    unfold z_gS
    split
    · exact h
    · exact z_kk_gS r t _ h.2
theorem z_kk_gC : ∀ (fr : List z_Fr) (s : z_Sem), z_kk fr → z_kk (z_gC fr s).1
  | [], s, h => h
  | f :: t, s, h => by
    unfold z_gC
    split
    · exact z_kk_gC t _ h.2
    · exact h
theorem z_kk_gE (fr : List z_Fr) (s : z_Sem) (h : z_kk fr) : z_kk (z_gE fr s).1 := z_kk_gC _ _ (z_kk_gS 1 fr s h)
theorem z_kk_gU : ∀ (fr : List z_Fr) (s : z_Sem), z_kk fr → z_kk (z_gU fr s).1
  | [], s, h => h
  | f :: t, s, h => by
    unfold z_gU
    split
    · exact z_kk_gU t _ h.2
    · split
      · exact z_kk_gU t _ h.2
      · exact h
theorem z_nz_if {ν : Nat → Int64} {f : z_Fr} {t : List z_Fr} {s : z_Sem} (hk : f.1 = 58) : (z_nz ν (f :: t) || (if z_nn ν (f :: t) = 0 then (s ν).2 else false)) = (z_nz ν t || (if z_nn ν t = 0 then (z_sIf f.2.1 f.2.2 s ν).2 else false)) := by
  have ed : z_zd ν f = (if (f.2.1 ν).1 = 0 then false else true) := by unfold z_zd; rw [if_neg (by omega), if_pos hk]
  have ef : z_fn ν f = ((f.2.1 ν).2 || (if (f.2.1 ν).1 = 0 then false else (f.2.2 ν).2)) := by unfold z_fn; rw [if_pos hk]
  have e1 : z_nz ν (f :: t) = (z_nz ν t || (if z_nn ν t = 0 then ((f.2.1 ν).2 || (if (f.2.1 ν).1 = 0 then false else (f.2.2 ν).2)) else false)) := by rw [← ef]; rfl
  have e2 : z_nn ν (f :: t) = (if z_bi (if (f.2.1 ν).1 = 0 then false else true) = 0 then 0 else 1) + z_nn ν t := by rw [← ed]; rfl
  have e3 : (z_sIf f.2.1 f.2.2 s ν).2 = ((f.2.1 ν).2 || (if (f.2.1 ν).1 = 0 then (s ν).2 else (f.2.2 ν).2)) := rfl
  rw [e1, e2, e3]
  generalize (f.2.1 ν).2 = a2
  generalize (f.2.2 ν).2 = b2
  generalize (s ν).2 = s2
  generalize z_nz ν t = n
  by_cases c : z_nn ν t = 0
  · rw [c]
    by_cases c1 : (f.2.1 ν).1 = 0
    · simp only [c1, if_true]
      cases a2 <;> cases b2 <;> cases s2 <;> cases n <;> decide
    · simp only [c1, if_true, if_false]
      cases a2 <;> cases b2 <;> cases s2 <;> cases n <;> decide
  · have c3 : ∀ m, (m + z_nn ν t = 0) = False := fun m => eq_false (by omega)
    simp only [c, c3, if_false, Bool.or_false]
theorem zq_ends2 {ν : Nat → Int64} {M0 : q_Mem} (hL : z_Lay M0) : ∀ (fr : List z_Fr) (s : z_Sem) (M : q_Mem) (fu : Nat), z_kk fr → z_CT ν M0 M fr s → fr.length < fu → ∃ M', f_X8_endChoices_b10 81 fu (nI fr.length) M = some M' ∧ z_CT ν M0 M' (z_gC fr s).1 (z_gC fr s).2
  | [], s, M, fu, hk, h, hf => by
    obtain ⟨g, rfl⟩ : ∃ g, fu = g + 1 := ⟨fu - 1, by omega⟩
    refine ⟨M, ?_, h⟩
    simp only [f_X8_endChoices_b10.eq_2, List.length_nil, show ((0 : Int32) < nI 0) = False by decide, if_false]
  | f :: t, s, M, fu, hk, h, hf => by
    obtain ⟨g, rfl⟩ : ∃ g, fu = g + 1 := ⟨fu - 1, by omega⟩
    have hlen : t.length + 1 ≤ 60 := by
      have := h.2.2.2.2.2.2.2.2.1
      rw [z_ms_len] at this
      exact this
    have c1 : ((0 : Int32) < nI (t.length + 1)) = True := eq_true (nI_lt (a := 0) (by omega) (by omega))
    have tm : f_X8_topMark M 81 = some (nI f.1) := zk_topMark hL h
    have q : (nI f.1 = (58 : Int32)) = (f.1 = 58) := z_nI_in (b := 58) (by have := hk.1.1; omega) (by decide)
    by_cases c : f.1 = 58
    · have e : z_gC (f :: t) s = z_gC t (z_sIf f.2.1 f.2.2 s) := if_pos c
      have q1 : (nI f.1 = (58 : Int32)) = True := by rw [q]; exact eq_true c
      have ed : z_zd ν f = (if (f.2.1 ν).1 = 0 then false else true) := by unfold z_zd; rw [if_neg (by omega), if_pos c]
      have efv : z_fv ν f = (if (f.2.1 ν).1 = 0 then [] else [(f.2.2 ν).1]) := by
        unfold z_fv
        rw [if_neg (by rw [c]; decide), if_pos c]
      obtain ⟨M1, p1, h1⟩ := zk_popMark hL h (z_bi01 _)
      rw [z_nz_if c] at h1
      have main : ∃ M5, (∀ x, x = f_X8_endChoices_b10 81 (g + 1) (nI (f :: t).length) M → x = f_X8_endChoices_b10 81 g (nI t.length) M5) ∧ z_CT ν M0 M5 t (z_sIf f.2.1 f.2.2 s) := by
        by_cases d : (f.2.1 ν).1 = 0
        · have ed1 : z_bi (z_zd ν f) = 0 := by rw [ed, if_pos d]; rfl
          refine ⟨M1, fun x hx => ?_, ?_⟩
          · rw [hx]
            simp only [f_X8_endChoices_b10.eq_2, List.length_cons, c1, if_true, tm, Option.bind_some, q1, p1, ed1, z_dec1]
          · have ev : z_vs ν (f :: t) = z_vs ν t := by
              show z_fv ν f ++ z_vs ν t = _
              rw [efv, if_pos d]; rfl
            rw [ev] at h1
            have e5 : (z_sIf f.2.1 f.2.2 s ν).1 = (s ν).1 := if_pos d
            unfold z_CT
            rw [e5]; exact h1
        · have ed1 : (z_bi (z_zd ν f) = 0) = False := by rw [ed, if_neg d]; decide
          obtain ⟨M2, p2, h2⟩ := zk_popValue hL h1
          refine ⟨M2, fun x hx => ?_, ?_⟩
          · rw [hx]
            simp only [f_X8_endChoices_b10.eq_2, List.length_cons, c1, if_true, tm, Option.bind_some, q1, p1, ed1, if_false, p2, z_dec1]
          · have ev : z_vs ν (f :: t) = (f.2.2 ν).1 :: z_vs ν t := by
              show z_fv ν f ++ z_vs ν t = _
              rw [efv, if_neg d]; rfl
            rw [ev] at h2
            have e5 : (z_sIf f.2.1 f.2.2 s ν).1 = (f.2.2 ν).1 := if_neg d
            unfold z_CT
            rw [e5]; exact h2
      obtain ⟨M5, q5, h5⟩ := main
      obtain ⟨M', r1, r2⟩ := zq_ends2 hL t (z_sIf f.2.1 f.2.2 s) M5 g hk.2 h5 (by rw [List.length_cons] at hf; omega)
      rw [e]
      exact ⟨M', (q5 _ rfl).trans r1, r2⟩
    · have e : z_gC (f :: t) s = (f :: t, s) := if_neg c
      have q1 : (nI f.1 = (58 : Int32)) = False := by rw [q]; exact eq_false c
      rw [e]
      refine ⟨M, ?_, h⟩
      simp only [f_X8_endChoices_b10.eq_2, List.length_cons, c1, if_true, tm, Option.bind_some, q1, if_false]
theorem zs_endChoices {ν : Nat → Int64} {M0 M : q_Mem} (hL : z_Lay M0) {fr : List z_Fr} {s : z_Sem} (hk : z_kk fr) (h : z_CT ν M0 M fr s) : ∃ M', f_X8_endChoices M 81 = some M' ∧ z_CT ν M0 M' (z_gE fr s).1 (z_gE fr s).2 := by
  have hM := h.lay hL
  obtain ⟨M1, p1, h1⟩ := zs_settle hL (r := 1) (by decide) (by decide) hk h
  have p1' : f_X8_settle M 81 (1 : Int32) = some M1 := p1
  have hM1 := h1.lay hL
  have a8 : q_I M1 81 7 = nI (z_ms ν (z_gS 1 fr s).1).length := h1.2.2.2.2.2.2.2.1
  rw [z_ms_len] at a8
  have hlen : (z_gS 1 fr s).1.length ≤ 60 := by
    have := h1.2.2.2.2.2.2.2.2.1
    rw [z_ms_len] at this
    exact this
  obtain ⟨M', r1, r2⟩ := zq_ends2 hL (z_gS 1 fr s).1 (z_gS 1 fr s).2 M1 q_fuel (z_kk_gS 1 fr s hk) h1 (z_fu (by omega))
  refine ⟨M', ?_, r2⟩
  simp only [f_X8_endChoices, zob_81 hM, p1', zo_81 hM1, a8, Option.bind_some, r1]
theorem z_nz_un {ν : Nat → Int64} {f : z_Fr} {t : List z_Fr} (hk : f.1 = 33 ∨ f.1 = 128 ∨ f.1 = 40) (h2 : f.2.1 = z_no2) : z_nz ν (f :: t) = z_nz ν t ∧ z_nn ν (f :: t) = z_nn ν t ∧ z_vs ν (f :: t) = z_vs ν t ∧ z_bi (z_zd ν f) = 0 := by
  have e1 : z_fn ν f = false := by
    unfold z_fn
    rw [if_neg (by omega), h2]; rfl
  have e2 : z_zd ν f = false := by
    unfold z_zd z_dc
    rw [if_neg (by omega), if_neg (by omega), if_neg (by omega), if_neg (by omega)]
  have e3 : z_fv ν f = [] := by
    unfold z_fv
    rw [if_neg (by rcases hk with z | z | z <;> rw [z] <;> decide), if_neg (by omega)]
  refine ⟨?_, ?_, ?_, by rw [e2]; rfl⟩
  · show (z_nz ν t || (if z_nn ν t = 0 then z_fn ν f else false)) = _
    rw [e1, ite_self, Bool.or_false]
  · show (if z_bi (z_zd ν f) = 0 then 0 else 1) + z_nn ν t = _
    rw [e2, if_pos (show z_bi false = 0 from rfl), Nat.zero_add]
  · show z_fv ν f ++ z_vs ν t = _
    rw [e3]; rfl
theorem zq_unit {ν : Nat → Int64} {M0 : q_Mem} (hL : z_Lay M0) : ∀ (fr : List z_Fr) (s : z_Sem) (M : q_Mem) (fu : Nat), z_kk fr → z_CU ν M0 M fr s → (z_vs ν fr).length < 60 → fr.length < fu → ∃ M', f_X8_endUnit_b8 81 fu (s ν).1 (nI fr.length) M = some M' ∧ z_CT ν (q_sI M0 81 10 0) M' (z_gU fr s).1 (z_gU fr s).2
  | [], s, M, fu, hk, h, hv, hf => by
    obtain ⟨g, rfl⟩ : ∃ g, fu = g + 1 := ⟨fu - 1, by omega⟩
    obtain ⟨M1, p1, h1⟩ := zk_pushValue (s ν).1 hL h hv
    have hM1 := h1.lay hL
    refine ⟨_, ?_, h1.fld (f := 10) (v := 0) (by unfold z_rf; omega)⟩
    simp only [f_X8_endUnit_b8.eq_2, f_X8_endUnit_b74, List.length_nil, show ((0 : Int32) < nI 0) = False by decide, if_false, p1, Option.bind_some, zo_81 hM1, true_or, if_true]
  | f :: t, s, M, fu, hk, h, hv, hf => by
    obtain ⟨g, rfl⟩ : ∃ g, fu = g + 1 := ⟨fu - 1, by omega⟩
    have hlen : t.length + 1 ≤ 60 := by
      have := h.2.2.2.2.2.2.2.2.1
      rw [z_ms_len] at this
      exact this
    have c1 : ((0 : Int32) < nI (t.length + 1)) = True := eq_true (nI_lt (a := 0) (by omega) (by omega))
    have tm : f_X8_topMark M 81 = some (nI f.1) := zk_topMark hL h
    have q33 : (nI f.1 = (33 : Int32)) = (f.1 = 33) := z_nI_in (b := 33) (by have := hk.1.1; omega) (by decide)
    have q128 : (nI f.1 = (128 : Int32)) = (f.1 = 128) := z_nI_in (b := 128) (by have := hk.1.1; omega) (by decide)
    by_cases c : f.1 = 33 ∨ f.1 = 128
    · have hno : f.2.1 = z_no2 := hk.1.2.2 (by rcases c with z | z <;> rw [z] <;> decide) (by omega) (by omega)
      obtain ⟨u1, u2, u3, u4⟩ := z_nz_un (ν := ν) (f := f) (t := t) (by omega) hno
      obtain ⟨M1, p1, h1⟩ := zk_popMark hL h (z_bi01 _)
      rw [u1, u2, u3] at h1
      rw [u3] at hv
      by_cases c33 : f.1 = 33
      · have e : z_gU (f :: t) s = z_gU t (z_sNot s) := if_pos c33
        obtain ⟨M', r1, r2⟩ := zq_unit hL t (z_sNot s) M1 g hk.2 h1 hv (by rw [List.length_cons] at hf; omega)
        rw [e]
        refine ⟨M', ?_, r2⟩
        have q1 : (nI f.1 = (33 : Int32)) = True := by rw [q33]; exact eq_true c33
        have q2 : (nI f.1 = (128 : Int32)) = False := by rw [q128]; exact eq_false (by omega)
        by_cases z : (s ν).1 = 0
        · have e6 : (z_sNot s ν).1 = (1 : Int32).toInt64 := if_pos z
          rw [e6] at r1
          simp only [f_X8_endUnit_b8.eq_2, f_X8_endUnit_b32, f_X8_endUnit_b62, List.length_cons, c1, if_true, tm, Option.bind_some, q1, q2, if_false, z, z_c_asNumber (Or.inr rfl), p1, z_dec1, r1]
        · have e6 : (z_sNot s ν).1 = (0 : Int32).toInt64 := if_neg z
          rw [e6] at r1
          simp only [f_X8_endUnit_b8.eq_2, f_X8_endUnit_b32, f_X8_endUnit_b62, List.length_cons, c1, if_true, tm, Option.bind_some, q1, q2, if_false, z, z_c_asNumber (Or.inl rfl), p1, z_dec1, r1]
      · have c128 : f.1 = 128 := c.resolve_left c33
        have e : z_gU (f :: t) s = z_gU t (z_sNeg s) := by
          show (if f.1 = 33 then _ else if f.1 = 128 then _ else _) = _
          rw [if_neg c33, if_pos c128]
        obtain ⟨M', r1, r2⟩ := zq_unit hL t (z_sNeg s) M1 g hk.2 h1 hv (by rw [List.length_cons] at hf; omega)
        rw [e]
        refine ⟨M', ?_, r2⟩
        have q1 : (nI f.1 = (33 : Int32)) = False := by rw [q33]; exact eq_false c33
        have q2 : (nI f.1 = (128 : Int32)) = True := by rw [q128]; exact eq_true c128
        have r1' : f_X8_endUnit_b8 81 g (-(s ν).1) (nI t.length) M1 = some M' := r1
        simp only [f_X8_endUnit_b8.eq_2, f_X8_endUnit_b32, f_X8_endUnit_b62, List.length_cons, c1, if_true, tm, Option.bind_some, q1, q2, if_false, p1, z_dec1, r1']
    · have e : z_gU (f :: t) s = (f :: t, s) := by
        show (if f.1 = 33 then _ else if f.1 = 128 then _ else _) = _
        rw [if_neg (by omega), if_neg (by omega)]
      have q1 : (nI f.1 = (33 : Int32)) = False := by rw [q33]; exact eq_false (by omega)
      have q2 : (nI f.1 = (128 : Int32)) = False := by rw [q128]; exact eq_false (by omega)
      obtain ⟨M1, p1, h1⟩ := zk_pushValue (s ν).1 hL h hv
      have hM1 := h1.lay hL
      rw [e]
      refine ⟨_, ?_, h1.fld (f := 10) (v := 0) (by unfold z_rf; omega)⟩
      simp only [f_X8_endUnit_b8.eq_2, f_X8_endUnit_b74, List.length_cons, c1, if_true, tm, Option.bind_some, q1, q2, if_false, p1, zo_81 hM1, true_or]
theorem zs_endUnit {ν : Nat → Int64} {M0 M : q_Mem} (hL : z_Lay M0) {fr : List z_Fr} {s : z_Sem} (hk : z_kk fr) (h : z_CU ν M0 M fr s) (hv : (z_vs ν fr).length < 60) : ∃ M', f_X8_endUnit M 81 (s ν).1 = some M' ∧ z_CT ν (q_sI M0 81 10 0) M' (z_gU fr s).1 (z_gU fr s).2 := by
  have hM := h.lay hL
  have a8 : q_I M 81 7 = nI (z_ms ν fr).length := h.2.2.2.2.2.2.2.1
  rw [z_ms_len] at a8
  have hlen : fr.length ≤ 60 := by
    have := h.2.2.2.2.2.2.2.2.1
    rw [z_ms_len] at this
    exact this
  obtain ⟨M', r1, r2⟩ := zq_unit hL fr s M q_fuel hk h hv (z_fu (by omega))
  refine ⟨M', ?_, r2⟩
  simp only [f_X8_endUnit, zob_81 hM, zo_81 hM, a8, Option.bind_some, r1]
