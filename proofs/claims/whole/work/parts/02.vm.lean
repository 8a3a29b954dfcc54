/-! ===== the small machine: a memory of relative addresses, and what the rows of the machine say of it ===== -/
def q_tbl : List Cond := lw_tbl.filter goodWord
theorem q_in {w : Cond} (i : Nat) (h : lw_tbl[i]? = some w) (hg : goodWord w = true) : w ∈ q_tbl := List.mem_filter.mpr ⟨List.mem_of_getElem? h, hg⟩
theorem q_tbl_all : q_tbl.all goodWord = true := by
  rw [List.all_eq_true]; intro w hw; exact (List.mem_filter.mp hw).2
theorem q_tbl_sub : ∀ w ∈ q_tbl, w ∈ lw_tbl := fun w hw => (List.mem_filter.mp hw).1
abbrev q_Mem : Type := Nat × (Nat → Nat × Nat) × (Nat → Nat → Option Nat) × (Nat → Nat → Int32) × (Nat → Nat → Int64)
def q_K (M : q_Mem) : Nat → Nat × Nat := M.2.1
def q_G (M : q_Mem) : Nat → Nat → Option Nat := M.2.2.1
def q_I (M : q_Mem) : Nat → Nat → Int32 := M.2.2.2.1
def q_J (M : q_Mem) : Nat → Nat → Int64 := M.2.2.2.2
def q_ty : Nat → Nat → FieldType := fun ci => match ci with
  | 0 => tyX0 | 1 => tyX2 | 2 => tyX3 | 3 => tyX4 | 4 => tyX5 | 5 => tyX6 | 6 => tyX7 | 7 => tyX8 | 8 => tyX9 | 9 => tyX10 | 10 => tyX11 | _ => tyX12
def q_N : Nat → Nat := fun ci => match ci with
  | 0 => 2 | 1 => 6 | 2 => 8 | 3 => 2 | 4 => 16 | 5 => 3 | 6 => 10 | 7 => 14 | 8 => 4 | 9 => 3 | 10 => 11 | 11 => 31 | _ => 0
def q_fv (lo : Nat) (M : q_Mem) (a : Nat) (t : FieldType) (k : Nat) : Value := match t with
  | .int => .int (q_I M a k)
  | .boolean => .int (q_I M a k)
  | .long => .long (q_J M a k)
  | _ => va_rf ((q_G M a k).map (lo + ·))
def q_fs (lo : Nat) (M : q_Mem) (a ci : Nat) : List Value := (List.range (q_N ci)).map (fun k => q_fv lo M a (q_ty ci k) k)
def q_ce (E : Nat → ClassId) (lo : Nat) (M : q_Mem) (a : Nat) : va_E :=
  if (q_K M a).1 = 100 then .inl (E 0, (q_K M a).2, .inl (q_I M a))
  else if (q_K M a).1 = 101 then .inl (E 1, (q_K M a).2, .inr (.inl (q_J M a)))
  else if (q_K M a).1 = 102 then .inl (E 2, (q_K M a).2, .inl (q_I M a))
  else if (q_K M a).1 = 103 then .inl (E 3, (q_K M a).2, .inr (.inr (.inr (.inr (fun i => (q_G M a i).map (lo + ·))))))
  else .inr ((q_K M a).1, q_fs lo M a (q_K M a).1)
def q_ws (E : Nat → ClassId) (lo : Nat) (M : q_Mem) : va_W := (List.range M.1).map (fun a => (lo + a, q_ce E lo M a))
def q_tys (E : Nat → ClassId) : List (ClassId × FieldType) := [(E 0, .int), (E 1, .long), (E 2, .boolean), (E 3, .object "CountyCream$House")]
theorem q_ws_at {E : Nat → ClassId} {lo : Nat} {M : q_Mem} {a : Nat} (h : a < M.1) : (q_ws E lo M)[a]? = some (lo + a, q_ce E lo M a) := by
  simp [q_ws, h]
theorem q_ws_len {E : Nat → ClassId} {lo : Nat} {M : q_Mem} : (q_ws E lo M).length = M.1 := by simp [q_ws]
theorem q_ws_get {E : Nat → ClassId} {lo : Nat} {M : q_Mem} {a : Nat} {q : Nat × va_E} (h : (q_ws E lo M)[a]? = some q) : a < M.1 ∧ q = (lo + a, q_ce E lo M a) := by
  have hl : a < M.1 := by
    have := (List.getElem?_eq_some_iff.mp h).1
    rwa [q_ws_len] at this
  rw [q_ws_at hl] at h
  exact ⟨hl, (Option.some.inj h).symm⟩
theorem q_ws_set {E : Nat → ClassId} {lo : Nat} {M M' : q_Mem} {a : Nat} (hn : M'.1 = M.1) (h : a < M.1) (ho : ∀ b, b ≠ a → q_ce E lo M' b = q_ce E lo M b) :
    (q_ws E lo M).set a (lo + a, q_ce E lo M' a) = q_ws E lo M' := by
  apply List.ext_getElem?
  intro j
  by_cases hj : j < M.1
  · rw [q_ws_at (M := M') (by rw [hn]; exact hj)]
    by_cases e : a = j
    · subst e
      rw [List.getElem?_set_self (by rw [q_ws_len]; exact h)]
    · rw [List.getElem?_set_ne e, q_ws_at hj, ho j (Ne.symm e)]
  · rw [List.getElem?_eq_none (by rw [List.length_set, q_ws_len]; omega), List.getElem?_eq_none (by rw [q_ws_len, hn]; omega)]
theorem q_ws_push {E : Nat → ClassId} {lo : Nat} {M M' : q_Mem} (hn : M'.1 = M.1 + 1) (ho : ∀ b, b < M.1 → q_ce E lo M' b = q_ce E lo M b) :
    q_ws E lo M ++ [(lo + M.1, q_ce E lo M' M.1)] = q_ws E lo M' := by
  apply List.ext_getElem?
  intro j
  by_cases hj : j < M.1
  · rw [List.getElem?_append_left (by rw [q_ws_len]; exact hj), q_ws_at hj, q_ws_at (M := M') (by omega), ho j hj]
  · rw [List.getElem?_append_right (by rw [q_ws_len]; omega), q_ws_len]
    by_cases e : j = M.1
    · subst e
      rw [Nat.sub_self, q_ws_at (M := M') (by omega)]
      rfl
    · rw [List.getElem?_eq_none (by simp; omega), List.getElem?_eq_none (by rw [q_ws_len]; omega)]
theorem q_ws_D {E : Nat → ClassId} {lo : Nat} {M : q_Mem} : va_D (fun q => lo ≤ q) (q_ws E lo M) := by
  refine ⟨fun i j x y hi hj hxy => ?_, fun k q hk => ?_⟩
  · obtain ⟨-, rfl⟩ := q_ws_get hi
    obtain ⟨-, rfl⟩ := q_ws_get hj
    have : lo + i = lo + j := hxy
    omega
  · obtain ⟨-, rfl⟩ := q_ws_get hk
    exact Nat.le_add_right _ _
/-! what the small machine does -/
def q_is (ci : Nat) (M : q_Mem) (a : Nat) : Prop := a < M.1 ∧ (q_K M a).1 = ci
def q_isb (ci : Nat) (M : q_Mem) (a : Nat) : Bool := decide (a < M.1) && decide ((q_K M a).1 = ci)
theorem q_isb_iff {ci : Nat} {M : q_Mem} {a : Nat} : q_isb ci M a = true ↔ q_is ci M a := by simp [q_isb, q_is]
def q_ob {α : Type} (ci : Nat) (M : q_Mem) (a : Nat) (r : Option α) : Option α := if q_isb ci M a = true then r else none
def q_inb (i : Int32) (n : Nat) : Bool := decide (¬ i < 0) && decide (i.toNatClampNeg < n)
theorem q_inb_vp {i : Int32} {n : Nat} (h : q_inb i n = true) : vp_in i n := by
  simp only [q_inb, Bool.and_eq_true, decide_eq_true_eq] at h
  rintro (z | z)
  · exact h.1 z
  · omega
def q_gI (ci k : Nat) (M : q_Mem) (a : Nat) : Option Int32 := if q_isb ci M a = true then some (q_I M a k) else none
def q_gJ (ci k : Nat) (M : q_Mem) (a : Nat) : Option Int64 := if q_isb ci M a = true then some (q_J M a k) else none
def q_gR (ci k : Nat) (M : q_Mem) (a : Nat) : Option Nat := if q_isb ci M a = true then q_G M a k else none
def q_sI (M : q_Mem) (a k : Nat) (v : Int32) : q_Mem := (M.1, M.2.1, M.2.2.1, fun b j => if b = a ∧ j = k then v else q_I M b j, M.2.2.2.2)
def q_sJ (M : q_Mem) (a k : Nat) (v : Int64) : q_Mem := (M.1, M.2.1, M.2.2.1, M.2.2.2.1, fun b j => if b = a ∧ j = k then v else q_J M b j)
def q_sR (M : q_Mem) (a k : Nat) (v : Nat) : q_Mem := (M.1, M.2.1, fun b j => if b = a ∧ j = k then some v else q_G M b j, M.2.2.2)
def q_sA (M : q_Mem) (a : Nat) (f : Nat → Int32) : q_Mem := (M.1, M.2.1, M.2.2.1, fun b j => if b = a then f j else q_I M b j, M.2.2.2.2)
def q_nw (M : q_Mem) (kd len : Nat) : q_Mem := (M.1 + 1, fun b => if b = M.1 then (kd, len) else q_K M b, fun b j => if b = M.1 then none else q_G M b j, fun b j => if b = M.1 then 0 else q_I M b j, fun b j => if b = M.1 then 0 else q_J M b j)
def q_pI (ci k : Nat) (M : q_Mem) (a : Nat) (v : Int32) : Option q_Mem := if q_isb ci M a = true then some (q_sI M a k v) else none
def q_pZ (ci k : Nat) (M : q_Mem) (a : Nat) (v : Int32) : Option q_Mem := if q_isb ci M a = true ∧ (v = 0 ∨ v = 1) then some (q_sI M a k v) else none
def q_pJ (ci k : Nat) (M : q_Mem) (a : Nat) (v : Int64) : Option q_Mem := if q_isb ci M a = true then some (q_sJ M a k v) else none
def q_pR (ci k : Nat) (M : q_Mem) (a : Nat) (v : Nat) : Option q_Mem := if q_isb ci M a = true then some (q_sR M a k v) else none
def q_ln (M : q_Mem) (a : Nat) : Option Int32 := if a < M.1 ∧ 100 ≤ (q_K M a).1 ∧ (q_K M a).1 ≤ 103 then some (Int32.ofNat (q_K M a).2) else none
def q_lI (M : q_Mem) (a : Nat) (i : Int32) : Option Int32 := if q_isb 100 M a = true ∧ q_inb i (q_K M a).2 = true then some (q_I M a i.toNatClampNeg) else none
def q_lZ (M : q_Mem) (a : Nat) (i : Int32) : Option Int32 := if q_isb 102 M a = true ∧ q_inb i (q_K M a).2 = true then some (q_I M a i.toNatClampNeg) else none
def q_lJ (M : q_Mem) (a : Nat) (i : Int32) : Option Int64 := if q_isb 101 M a = true ∧ q_inb i (q_K M a).2 = true then some (q_J M a i.toNatClampNeg) else none
def q_lR (M : q_Mem) (a : Nat) (i : Int32) : Option Nat := if q_isb 103 M a = true ∧ q_inb i (q_K M a).2 = true then q_G M a i.toNatClampNeg else none
def q_tI (M : q_Mem) (a : Nat) (i v : Int32) : Option q_Mem := if q_isb 100 M a = true ∧ q_inb i (q_K M a).2 = true then some (q_sI M a i.toNatClampNeg v) else none
def q_tZ (M : q_Mem) (a : Nat) (i v : Int32) : Option q_Mem := if q_isb 102 M a = true ∧ q_inb i (q_K M a).2 = true ∧ (v = 0 ∨ v = 1) then some (q_sI M a i.toNatClampNeg v) else none
def q_tJ (M : q_Mem) (a : Nat) (i : Int32) (v : Int64) : Option q_Mem := if q_isb 101 M a = true ∧ q_inb i (q_K M a).2 = true then some (q_sJ M a i.toNatClampNeg v) else none
def q_tR (M : q_Mem) (a : Nat) (i : Int32) (v : Nat) : Option q_Mem := if q_isb 103 M a = true ∧ q_inb i (q_K M a).2 = true ∧ q_isb 4 M v = true then some (q_sR M a i.toNatClampNeg v) else none
def q_cI (M : q_Mem) (a : Nat) (sp : Int32) (b : Nat) (dp n : Int32) : Option q_Mem :=
  if q_isb 100 M a = true ∧ q_isb 100 M b = true ∧ ¬ sp < 0 ∧ ¬ dp < 0 ∧ ¬ n < 0 ∧ sp.toNatClampNeg + n.toNatClampNeg ≤ (q_K M a).2 ∧ dp.toNatClampNeg + n.toNatClampNeg ≤ (q_K M b).2 then
    some (q_sA M b (va_cpy (q_I M a) (q_I M b) sp.toNatClampNeg dp.toNatClampNeg n.toNatClampNeg)) else none
def q_na (M : q_Mem) (kd : Nat) (n : Int32) : Option q_Mem := if n < 0 then none else some (q_nw M kd n.toNatClampNeg)
def q_dv (x y : Int32) : Option Int32 := if y = 0 then none else some (x / y)
def q_ldv (x y : Int64) : Option Int64 := if y = 0 then none else some (x / y)
def q_lrm (x y : Int64) : Option Int64 := if y = 0 then none else some (x - x / y * y)
/-! how the cells change -/
theorem q_ce_ob {E : Nat → ClassId} {lo : Nat} {M : q_Mem} {a ci : Nat} (h : (q_K M a).1 = ci) (hc : ci < 100) : q_ce E lo M a = .inr (ci, q_fs lo M a ci) := by
  subst h
  unfold q_ce
  rw [if_neg (by omega), if_neg (by omega), if_neg (by omega), if_neg (by omega)]
theorem q_ce_I {E : Nat → ClassId} {lo : Nat} {M : q_Mem} {a : Nat} (h : (q_K M a).1 = 100) : q_ce E lo M a = .inl (E 0, (q_K M a).2, .inl (q_I M a)) := by
  unfold q_ce; rw [if_pos h]
theorem q_ce_J {E : Nat → ClassId} {lo : Nat} {M : q_Mem} {a : Nat} (h : (q_K M a).1 = 101) : q_ce E lo M a = .inl (E 1, (q_K M a).2, .inr (.inl (q_J M a))) := by
  unfold q_ce; rw [if_neg (by omega), if_pos h]
theorem q_ce_Z {E : Nat → ClassId} {lo : Nat} {M : q_Mem} {a : Nat} (h : (q_K M a).1 = 102) : q_ce E lo M a = .inl (E 2, (q_K M a).2, .inl (q_I M a)) := by
  unfold q_ce; rw [if_neg (by omega), if_neg (by omega), if_pos h]
theorem q_ce_R {E : Nat → ClassId} {lo : Nat} {M : q_Mem} {a : Nat} (h : (q_K M a).1 = 103) : q_ce E lo M a = .inl (E 3, (q_K M a).2, .inr (.inr (.inr (.inr (fun i => (q_G M a i).map (lo + ·)))))) := by
  unfold q_ce; rw [if_neg (by omega), if_neg (by omega), if_neg (by omega), if_pos h]
/-- a cell is told by its kind and its own part of the three maps -/
theorem q_ce_eq {E : Nat → ClassId} {lo : Nat} {M M' : q_Mem} {b : Nat} (hK : q_K M' b = q_K M b) (hG : q_G M' b = q_G M b) (hI : q_I M' b = q_I M b) (hJ : q_J M' b = q_J M b) : q_ce E lo M' b = q_ce E lo M b := by
  have hf : ∀ ci, q_fs lo M' b ci = q_fs lo M b ci := by
    intro ci
    unfold q_fs
    refine List.map_congr_left fun k _ => ?_
    unfold q_fv
    cases q_ty ci k <;> simp only [hI, hJ, hG]
  unfold q_ce
  rw [hK, hG, hI, hJ, hf]
theorem q_sI_ne {M : q_Mem} {a k : Nat} {v : Int32} {b : Nat} (h : b ≠ a) : q_I (q_sI M a k v) b = q_I M b := by
  funext j; show (if b = a ∧ j = k then v else _) = _; rw [if_neg (fun z => h z.1)]
theorem q_sI_self {M : q_Mem} {a k : Nat} {v : Int32} : q_I (q_sI M a k v) a = upd (q_I M a) k v := by
  funext j; show (if a = a ∧ j = k then v else _) = (if j = k then v else _)
  by_cases h : j = k
  · rw [if_pos ⟨rfl, h⟩, if_pos h]
  · rw [if_neg (fun z => h z.2), if_neg h]
theorem q_sJ_ne {M : q_Mem} {a k : Nat} {v : Int64} {b : Nat} (h : b ≠ a) : q_J (q_sJ M a k v) b = q_J M b := by
  funext j; show (if b = a ∧ j = k then v else _) = _; rw [if_neg (fun z => h z.1)]
theorem q_sJ_self {M : q_Mem} {a k : Nat} {v : Int64} : q_J (q_sJ M a k v) a = vp_updL (q_J M a) k v := by
  funext j; show (if a = a ∧ j = k then v else _) = (if j = k then v else _)
  by_cases h : j = k
  · rw [if_pos ⟨rfl, h⟩, if_pos h]
  · rw [if_neg (fun z => h z.2), if_neg h]
theorem q_sR_ne {M : q_Mem} {a k v : Nat} {b : Nat} (h : b ≠ a) : q_G (q_sR M a k v) b = q_G M b := by
  funext j; show (if b = a ∧ j = k then some v else _) = _; rw [if_neg (fun z => h z.1)]
theorem q_ce_sI {E : Nat → ClassId} {lo : Nat} {M : q_Mem} {a k : Nat} {v : Int32} {b : Nat} (h : b ≠ a) : q_ce E lo (q_sI M a k v) b = q_ce E lo M b := q_ce_eq rfl rfl (q_sI_ne h) rfl
theorem q_ce_sJ {E : Nat → ClassId} {lo : Nat} {M : q_Mem} {a k : Nat} {v : Int64} {b : Nat} (h : b ≠ a) : q_ce E lo (q_sJ M a k v) b = q_ce E lo M b := q_ce_eq rfl rfl rfl (q_sJ_ne h)
theorem q_ce_sR {E : Nat → ClassId} {lo : Nat} {M : q_Mem} {a k v : Nat} {b : Nat} (h : b ≠ a) : q_ce E lo (q_sR M a k v) b = q_ce E lo M b := q_ce_eq rfl (q_sR_ne h) rfl rfl
theorem q_ce_sA {E : Nat → ClassId} {lo : Nat} {M : q_Mem} {a : Nat} {f : Nat → Int32} {b : Nat} (h : b ≠ a) : q_ce E lo (q_sA M a f) b = q_ce E lo M b := q_ce_eq rfl rfl (by funext j; show (if b = a then f j else _) = _; rw [if_neg h]) rfl
theorem q_fs_len {lo : Nat} {M : q_Mem} {a ci : Nat} : (q_fs lo M a ci).length = q_N ci := by simp [q_fs]
theorem q_fs_at {lo : Nat} {M : q_Mem} {a ci k : Nat} (hk : k < q_N ci) : (q_fs lo M a ci)[k]? = some (q_fv lo M a (q_ty ci k) k) := by simp [q_fs, hk]
theorem q_fs_set {lo : Nat} {M M' : q_Mem} {a ci k : Nat} (hk : k < q_N ci) (ho : ∀ j, j ≠ k → ∀ t, q_fv lo M' a t j = q_fv lo M a t j) : (q_fs lo M a ci).set k (q_fv lo M' a (q_ty ci k) k) = q_fs lo M' a ci := by
  apply List.ext_getElem?
  intro j
  by_cases hj : j < q_N ci
  · rw [q_fs_at hj]
    by_cases e : k = j
    · subst e
      rw [List.getElem?_set_self (by rw [q_fs_len]; exact hk)]
    · rw [List.getElem?_set_ne e, q_fs_at hj, ho j (Ne.symm e)]
  · rw [List.getElem?_eq_none (by rw [List.length_set, q_fs_len]; omega), List.getElem?_eq_none (by rw [q_fs_len]; omega)]
theorem q_fv_sI {lo : Nat} {M : q_Mem} {a k : Nat} {v : Int32} (j : Nat) (h : j ≠ k) (t : FieldType) : q_fv lo (q_sI M a k v) a t j = q_fv lo M a t j := by
  have e : q_I (q_sI M a k v) a j = q_I M a j := by rw [q_sI_self]; exact if_neg h
  unfold q_fv
  cases t <;> first | rfl | exact congrArg Value.int e
theorem q_fv_sJ {lo : Nat} {M : q_Mem} {a k : Nat} {v : Int64} (j : Nat) (h : j ≠ k) (t : FieldType) : q_fv lo (q_sJ M a k v) a t j = q_fv lo M a t j := by
  have e : q_J (q_sJ M a k v) a j = q_J M a j := by rw [q_sJ_self]; exact if_neg h
  unfold q_fv
  cases t <;> first | rfl | exact congrArg Value.long e
theorem q_fv_sR {lo : Nat} {M : q_Mem} {a k v : Nat} (j : Nat) (h : j ≠ k) (t : FieldType) : q_fv lo (q_sR M a k v) a t j = q_fv lo M a t j := by
  have e : q_G (q_sR M a k v) a j = q_G M a j := by show (if a = a ∧ j = k then some v else _) = _; rw [if_neg (fun z => h z.2)]
  unfold q_fv
  cases t <;> first | rfl | exact congrArg (fun z => va_rf (Option.map (lo + ·) z)) e
theorem q_ce_nw {E : Nat → ClassId} {lo : Nat} {M : q_Mem} {kd len b : Nat} (h : b < M.1) : q_ce E lo (q_nw M kd len) b = q_ce E lo M b := by
  have hb : b ≠ M.1 := Nat.ne_of_lt h
  refine q_ce_eq ?_ ?_ ?_ ?_
  · show (if b = M.1 then _ else _) = _; rw [if_neg hb]
  · funext j; show (if b = M.1 then _ else _) = _; rw [if_neg hb]
  · funext j; show (if b = M.1 then _ else _) = _; rw [if_neg hb]
  · funext j; show (if b = M.1 then _ else _) = _; rw [if_neg hb]
theorem q_K_nw {M : q_Mem} {kd len : Nat} : q_K (q_nw M kd len) M.1 = (kd, len) := by show (if M.1 = M.1 then _ else _) = _; rw [if_pos rfl]
theorem q_I_nw {M : q_Mem} {kd len : Nat} : q_I (q_nw M kd len) M.1 = fun _ => 0 := by funext j; show (if M.1 = M.1 then _ else _) = _; rw [if_pos rfl]
theorem q_J_nw {M : q_Mem} {kd len : Nat} : q_J (q_nw M kd len) M.1 = fun _ => 0 := by funext j; show (if M.1 = M.1 then _ else _) = _; rw [if_pos rfl]
theorem q_G_nw {M : q_Mem} {kd len : Nat} : q_G (q_nw M kd len) M.1 = fun _ => none := by funext j; show (if M.1 = M.1 then _ else _) = _; rw [if_pos rfl]
