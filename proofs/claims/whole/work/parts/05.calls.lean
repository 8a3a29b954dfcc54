/-! ===== new cells, calls, contracts ===== -/
section QN
variable {Y : q_Y} {sc : Option (Nat × (Nat → Int32))} {v : Option Value} {M' M : q_Mem} {k n pc : Nat} {ls : List (Nat × Value)} {st : List Value} {α : Type} {φ : α → Option Value × q_Mem} {r : Option α}
theorem q_fs_nw {lo : Nat} {M : q_Mem} {ci len : Nat} : q_fs lo (q_nw M ci len) M.1 ci = (List.range (q_N ci)).map (fun k => q_fv lo (q_nw M ci len) M.1 (q_ty ci k) k) := rfl
theorem q_new {ci N idx : Nat} {Cn : String} {T : u_T} (cl : q_Cl ci Cn T N) (hw1 : Cond.classLink (q_nm Y).cls idx Cn ∈ q_tbl) (hw2 : Cond.instantiable Cn N ∈ q_tbl) (hw3 : Cond.initialized Cn ∈ q_tbl) (hty : ∀ j, j < N → defaultValue (q_ty ci j) = q_fv 0 (q_nw M ci 0) M.1 (q_ty ci j) j)
    (hk : k + 1 ≤ q_mc Y) (hn : n + N ≤ q_ms Y) (hd : decode (q_cd Y) pc = .ok (.new idx, 3)) (h : q_V Y sc φ (k + 1) (n + N) (pc + 3) ls (.ref M.1 :: st) (q_nw M ci 0) r) : q_V Y sc φ k n pc ls st M r := by
  intro x0 hx0 p l e s m args below meth c lo sb D E Q C X H locs la S
  have hh := h x0 hx0 p l e s m args below meth c lo sb D E Q C X
  have hK := C.2.2.2.2.2.2.2.1
  have hKn := hK.1 ci _ cl.2.1
  have hlo := C.2.2.2.2.2.2.2.2.1
  refine q_size (fun hz => ?_)
  have hsz := q_top S.1 S.2.1 hlo S.2.2.1 hz
  refine W.newcK C.1 C.2.1 C.2.2.2.1 (C.2.2.2.2.2.1 _ hw1) (C.2.2.2.2.2.1 _ hw2) (C.2.2.2.2.2.1 _ hw3) rfl hd hk hn hKn.2.1 hsz fun H1 kC hkC e1 z1 o1 => ?_
  have hkp : ∀ (j : Nat) (x : Nat × va_E), (q_ws E lo M)[j]? = some x → H1[x.1]? = H[x.1]? := fun j x hx => o1 x.1 (by rw [← hsz]; exact (S.1 j x hx).lt)
  have hS1 : va_S (fun q => lo ≤ q) s.heap H1 locs := ⟨Nat.le_trans S.2.1.1 (by omega), fun x h1 h2 => (o1 x (by have := S.2.1.1; omega)).trans (S.2.1.2.1 x h1 h2), S.2.1.2.2⟩
  have hce : q_ce E lo (q_nw M ci 0) M.1 = .inr (ci, q_fs lo (q_nw M ci 0) M.1 ci) := q_ce_ob (by rw [q_K_nw]) cl.1
  have hP1 : va_P D vwCl (q_ws E lo (q_nw M ci 0)) H1 := by
    rw [← q_ws_push (M := M) (M' := q_nw M ci 0) rfl (fun b hb => q_ce_nw hb), hce]
    refine (S.1.kept hkp).app (fun j x hx => ?_)
    have hz : j < 1 := (List.getElem?_eq_some_iff.mp hx).1
    rw [show j = 0 by omega] at hx
    cases hx
    refine ⟨_, cl.2.1, (u_born (q_ty ci) C.2.2.2.2.2.1 cl.2.2.1 hKn hkC e1 cl.2.2.2.1).to (fun j hj => ?_)⟩
    unfold vp_V
    rw [List.getD_eq_getElem?_getD, q_fs_at (by rw [cl.2.2.2.2.2]; exact hj), hty j hj]
    unfold q_fv
    rw [q_I_nw, q_J_nw, q_G_nw]
    cases q_ty ci j <;> rfl
  exact hh H1 locs la ⟨hP1, hS1, by show lo + (M.1 + 1) = _; have := S.2.2.1; omega, S.2.2.2⟩
theorem q_newarr {kd j : Nat} {at_ : ArrayType} {ty : FieldType} {i : Int32} {F : q_Mem → Option α} (hat : newarray.typeOf at_ = ty) (hw : Cond.arrayClass (newarray.typeOf at_) ∈ q_tbl) (hkd : (kd = 100 ∧ j = 0 ∧ ty = .int) ∨ (kd = 101 ∧ j = 1 ∧ ty = .long) ∨ (kd = 102 ∧ j = 2 ∧ ty = .boolean)) {len : Nat} (hi : ¬ i < 0) (hlen : i.toNatClampNeg = len) (hb : len * componentBytes (newarray.typeOf at_) ≤ 536870912)
    (hk : k + 1 ≤ q_mc Y) (hn : n + len ≤ q_ms Y) (hd : decode (q_cd Y) pc = .ok (.newarray at_, 2)) (h : q_V Y sc φ (k + 1) (n + len) (pc + 2) ls (.ref M.1 :: st) (q_nw M kd len) (F (q_nw M kd len))) : q_V Y sc φ k n pc ls (.int i :: st) M (Option.bind (q_na M kd i) F) := by
  intro x0 hx0 p l e s m args below meth c lo sb D E Q C X H locs la S
  obtain ⟨z, hz, hF⟩ := Option.bind_eq_some_iff.mp hx0
  have hz' := hz
  unfold q_na at hz
  rw [if_neg hi, hlen] at hz
  cases hz
  have hh := h x0 hF p l e s m args below meth c lo sb D E Q C X
  have hK := C.2.2.2.2.2.2.2.1
  have hlo := C.2.2.2.2.2.2.2.2.1
  refine q_size (fun hz => ?_)
  have hsz := q_top S.1 S.2.1 hlo S.2.2.1 hz
  refine va_newaK C.1 C.2.1 (C.2.2.2.2.2.1 _ hw) rfl hd rfl hi hlen hb hk hn hsz fun H1 cA e1 z1 o1 hAr hNm => ?_
  have hkp : ∀ (j : Nat) (x : Nat × va_E), (q_ws E lo M)[j]? = some x → H1[x.1]? = H[x.1]? := fun j x hx => o1 x.1 (by rw [← hsz]; exact (S.1 j x hx).lt)
  have hS1 : va_S (fun q => lo ≤ q) s.heap H1 locs := ⟨Nat.le_trans S.2.1.1 (by omega), fun x h1 h2 => (o1 x (by have := S.2.1.1; omega)).trans (S.2.1.2.1 x h1 h2), S.2.1.2.2⟩
  have hP1 : va_P D vwCl (q_ws E lo (q_nw M kd len)) H1 := by
    rw [← q_ws_push (M := M) (M' := q_nw M kd len) rfl (fun b hb => q_ce_nw hb)]
    refine (S.1.kept hkp).app (fun j2 x hx => ?_)
    have hz : j2 < 1 := (List.getElem?_eq_some_iff.mp hx).1
    rw [show j2 = 0 by omega] at hx
    cases hx
    rw [hat] at e1 hNm
    rcases hkd with ⟨rfl, rfl, rfl⟩ | ⟨rfl, rfl, rfl⟩ | ⟨rfl, rfl, rfl⟩
    · have hc : E 0 = cA := Option.some.inj ((hK.2 0 _ rfl).2.symm.trans hNm)
      rw [q_ce_I (by rw [q_K_nw]), q_K_nw, q_I_nw, hc]
      exact e1
    · have hc : E 1 = cA := Option.some.inj ((hK.2 1 _ rfl).2.symm.trans hNm)
      rw [q_ce_J (by rw [q_K_nw]), q_K_nw, q_J_nw, hc]
      exact e1
    · have hc : E 2 = cA := Option.some.inj ((hK.2 2 _ rfl).2.symm.trans hNm)
      rw [q_ce_Z (by rw [q_K_nw]), q_K_nw, q_I_nw, hc]
      exact e1
  exact hh H1 locs la ⟨hP1, hS1, by show lo + (M.1 + 1) = _; have := S.2.2.1; omega, S.2.2.2⟩
theorem q_anew {idx : Nat} {i : Int32} {F : q_Mem → Option α} (hw : Cond.classLink (q_nm Y).cls idx "CountyCream$House" ∈ q_tbl) {len : Nat} (hi : ¬ i < 0) (hlen : i.toNatClampNeg = len) (hb : len * 4 ≤ 536870912)
    (hk : k + 1 ≤ q_mc Y) (hn : n + len ≤ q_ms Y) (hd : decode (q_cd Y) pc = .ok (.anewarray idx, 3)) (h : q_V Y sc φ (k + 1) (n + len) (pc + 3) ls (.ref M.1 :: st) (q_nw M 103 len) (F (q_nw M 103 len))) : q_V Y sc φ k n pc ls (.int i :: st) M (Option.bind (q_na M 103 i) F) := by
  intro x0 hx0 p l e s m args below meth c lo sb D E Q C X H locs la S
  obtain ⟨z, hz, hF⟩ := Option.bind_eq_some_iff.mp hx0
  have hz' := hz
  unfold q_na at hz
  rw [if_neg hi, hlen] at hz
  cases hz
  have hh := h x0 hF p l e s m args below meth c lo sb D E Q C X
  have hK := C.2.2.2.2.2.2.2.1
  have hlo := C.2.2.2.2.2.2.2.2.1
  refine q_size (fun hz => ?_)
  have hsz := q_top S.1 S.2.1 hlo S.2.2.1 hz
  subst hlen
  refine W.anew C.1 C.2.1 C.2.2.2.1 (C.2.2.2.2.2.1 _ hw) (va_AO.use C.2.2.2.2.2.2.1.2) rfl hd rfl hi hb hk hn fun cA kA comp f1 f2 f3 f4 => ?_
  generalize hH1 : H.push ({ cls := cA, slots := Array.replicate i.toNatClampNeg .null, vm := .none } : Cell) = H1
  have z1 : H1.size = H.size + 1 := by rw [← hH1, Array.size_push]
  have e1 : H1[H.size]? = some (arrV cA i.toNatClampNeg (fun _ => .null)) := by rw [← hH1, Array.getElem?_push_size, ← arrV_new]
  have o1 : ∀ q : Nat, q < H.size → H1[q]? = H[q]? := fun q hq => by rw [← hH1, Array.getElem?_push, if_neg (Nat.ne_of_lt hq)]
  have hkp : ∀ (j : Nat) (x : Nat × va_E), (q_ws E lo M)[j]? = some x → H1[x.1]? = H[x.1]? := fun j x hx => o1 x.1 (S.1 j x hx).lt
  have hS1 : va_S (fun q => lo ≤ q) s.heap H1 locs := ⟨Nat.le_trans S.2.1.1 (by omega), fun x h1 h2 => (o1 x (by have := S.2.1.1; omega)).trans (S.2.1.2.1 x h1 h2), S.2.1.2.2⟩
  have hP1 : va_P D vwCl (q_ws E lo (q_nw M 103 i.toNatClampNeg)) H1 := by
    rw [← q_ws_push (M := M) (M' := q_nw M 103 i.toNatClampNeg) rfl (fun b hb => q_ce_nw hb)]
    refine (S.1.kept hkp).app (fun j2 x hx => ?_)
    have hz : j2 < 1 := (List.getElem?_eq_some_iff.mp hx).1
    rw [show j2 = 0 by omega] at hx
    cases hx
    obtain ⟨kA', comp', g1, g2, g3, g4⟩ := (hK.2 3 _ rfl).2
    have hc : E 3 = cA := Option.some.inj (g4.symm.trans f1)
    rw [q_ce_R (by rw [q_K_nw]), q_K_nw, q_G_nw, hc, ← hsz]
    exact e1
  rw [hsz]
  exact hh H1 locs la ⟨hP1, hS1, by show lo + (M.1 + 1) = _; have := S.2.2.1; omega, S.2.2.2⟩
theorem q_objInit {a idx : Nat} (hw1 : Cond.methodLink (q_nm Y).cls idx Lib.objectInit ∈ q_tbl) (hw2 : Cond.instanceMethod Lib.objectInit ∈ q_tbl) (hw3 : Cond.code Lib.objectInit ⟨#[0xb1]⟩ 1 none ∈ q_tbl) (hd : decode (q_cd Y) pc = .ok (.invokespecial idx, 3)) (hfr : 1 ≤ (q_rm Y).frames) (hst : (st.map fun v => v.category).sum ≤ 8) (hlo : 20 ≤ (q_rm Y).locals)
    (h : q_V Y sc φ k n (pc + 3) ls st M r) : q_V Y sc φ k n pc ls (.ref a :: st) M r := by
  intro x0 hx0 p l e s m args below meth c lo sb D E Q C X H locs la S
  have hcat : ((st.map (q_sh lo sb)).map fun v => v.category) = st.map fun v => v.category := by rw [List.map_map]; exact List.map_congr_left fun v _ => q_sh_cat lo sb v
  exact W.objInit (g := F0 m pc la ((Value.ref a :: st).map (q_sh lo sb))) C.1 C.2.1 C.2.2.2.1 (C.2.2.2.2.2.1 _ hw1) (C.2.2.2.2.2.1 _ hw2) (C.2.2.2.2.2.1 _ hw3) rfl (by rw [C.2.2.1]; exact S.2.2.2.1) (a := lo + a) (rest := st.map (q_sh lo sb)) rfl hd hfr (by rw [hcat]; show 2 * 0 + _ + 12 ≤ _; omega) (h x0 hx0 p l e s m args below meth c lo sb D E Q C X H locs la S)
end QN
/-! contracts -/
def q_Pw (D : va_G) (E : Nat → ClassId) (lo : Nat) (M : q_Mem) : State → Prop := fun U => va_P D vwCl (q_ws E lo M) U.heap ∧ va_K D vwCl (q_tys E) U ∧ U.heap.size = lo + M.1 ∧ q_NW U
def q_Q (mc : Nat) (v : Option Value) (M' : q_Mem) (D : va_G) (E : Nat → ClassId) (lo : Nat) : Array Value → State → Outcome → State → Prop := fun _ st oc t => oc = .returned (v.map (q_sh lo 0)) ∧ va_P D vwCl (q_ws E lo M') t.heap ∧ va_F (fun q => lo ≤ q) st t ∧ t.heap.size = lo + M'.1 ∧ t.heap.size = st.heap.size + mc
def q_C (Y : q_Y) (As : List Value) (M : q_Mem) (v : Option Value) (M' : q_Mem) : Prop :=
  (∀ sb lo, v.map (q_sh lo sb) = v.map (q_sh lo 0)) ∧ ∀ (l : Launch) (D : va_G) (E : Nat → ClassId) (lo : Nat), Met l (q_nm Y) (q_wsY Y) (q_rm Y) (va_Pc (As.map (q_sh lo 0)) (q_Pw D E lo M)) (q_Q (q_mc Y) v M' D E lo) (q_mc Y) (q_ms Y) (fun q => lo ≤ q)
theorem q_blind {As : List Value} {D : va_G} {E : Nat → ClassId} {lo : Nat} {M : q_Mem} : FrameBlind (va_Pc As (q_Pw D E lo M)) := by
  intro a U g mk q
  obtain ⟨h0, h1, h2, h3, h4⟩ := q
  exact ⟨h0, h1, va_K.moved (u := U) (U := U.calling g mk a) (Vm.Alike.refl U.vm) h2, h3, q_NW.same (u := U) (U := U.calling g mk a) rfl h4⟩
theorem q_args (lo sb : Nat) : ∀ (vs : List Value) (i : Nat), lv_args i (vs.map (q_sh lo sb)) = (lv_args i vs).map (q_shp lo sb)
  | [], _ => rfl
  | v :: vs, i => by
    rw [List.map_cons]
    unfold lv_args
    rw [q_sh_cat, q_args lo sb vs, List.map_cons]
    rfl
theorem q_sl_len (lo sb : Nat) : ∀ vs : List Value, (lg_sl (vs.map (q_sh lo sb))).length = (lg_sl vs).length
  | [] => rfl
  | v :: vs => by
    have ih := q_sl_len lo sb vs
    unfold lg_sl at ih ⊢
    rw [List.map_cons, List.flatMap_cons, List.flatMap_cons, List.length_append, List.length_append, ih, q_sh_cat]
    split <;> rfl
theorem q_met {α : Type} {Y : q_Y} {φ : α → Option Value × q_Mem} {As : List Value} {M : q_Mem} {r : Option α} {x : α} (hpl : plainName (q_nm Y).cls = true) (hlen : (lg_sl As).length ≤ q_ml Y) (h : q_V Y none φ 0 0 0 (lv_args 0 As) [] M r) (hr : r = some x) (hv : ∀ sb lo, (φ x).1.map (q_sh lo sb) = (φ x).1.map (q_sh lo 0)) :
    q_C Y As M (φ x).1 (φ x).2 := by
  refine ⟨hv, fun l D E lo => ?_⟩
  refine Met.ofW (cc := q_cd Y) (maxL := q_ml Y) (ret := q_rt Y) hpl rfl ?_
  intro p e s m args below meth c s₁ B hml hpc
  obtain ⟨rfl, hP, hK, hsz, hNW⟩ := hpc
  have hts := atoms_spec (ws := q_wsY Y) B.pre
  have hl := lv_entry (As.map (q_sh lo 0)) (n := q_ml Y) (by rw [q_sl_len]; exact hlen)
  rw [lg_entry_eq]
  generalize (lg_sl (As.map (q_sh lo 0)) ++ List.replicate (q_ml Y - (lg_sl (As.map (q_sh lo 0))).length) Slot.unset).toArray = la at hl ⊢
  rw [q_args] at hl
  refine h x hr p l e s m _ below meth c lo 0 D E _ ⟨B.exec, B.bytes, hml, findClass_of_methodNamed B.named, fun hin => (name_of_methodNamed B.named B.method).1.trans hin, fun w hw => hts w (List.mem_cons_of_mem _ hw), hNW, hK, by rw [hsz]; exact Nat.le_add_right _ _, fun L xs hh => by cases hh⟩ ?_ s.heap [] la ⟨hP, va_S.rf, hsz.symm, hl⟩
  intro H locs k n ls pc hP2 hS2 hsz2 hsz3 hk hn hok hd
  refine W.widen hk hn ?_
  have hq : ∀ t : State, t.heap = H → s.WarmedH t.vm → q_Q (q_mc Y) (φ x).1 (φ x).2 D E lo (List.map (q_sh lo 0) As).toArray s (.returned ((φ x).1.map (q_sh lo 0))) t := fun t ht hW => ⟨rfl, by rw [ht]; exact hP2, hS2.F ht, by rw [ht]; exact hsz2, by rw [ht]; exact hsz3⟩
  have hr2 := B.returns
  cases hvx : (φ x).1 with
  | none =>
    rw [hvx] at hd hok hq
    exact W.vret B.exec B.bytes (hr2.trans hok) hq hS2.2.2 hd B.notSynchronized
  | some w =>
    rw [hvx] at hd hok hq
    cases w with
    | int z =>
      rcases hok with hok | ⟨hok, hz⟩
      · exact W.iret B.exec B.bytes (hr2.trans hok) hq hS2.2.2 hd B.notSynchronized
      · exact W.zret B.exec B.bytes (hr2.trans hok) (by rcases hz with rfl | rfl <;> rfl) hq hS2.2.2 hd B.notSynchronized
    | long z => exact W.lret B.exec B.bytes (hr2.trans hok) hq hS2.2.2 hd B.notSynchronized
    | _ => exact absurd hok id
theorem q_good {Y2 : q_Y} (hc : Cond.code (q_nm Y2) (q_cd Y2) (q_ml Y2) (q_rt Y2) ∈ q_tbl) : GoodIn q_tbl (q_wsY Y2) := by
  intro w hw
  rcases List.mem_cons.mp hw with rfl | hw
  · exact ⟨hc, good_of_word (List.all_eq_true.mp q_tbl_all _ hc)⟩
  · exact ⟨hw, good_of_word (List.all_eq_true.mp q_tbl_all _ hw)⟩
/-- what a call needs of the two methods' numbers -/
def q_fit (Y Y2 : q_Y) (n : Nat) : Prop := (q_rm Y2).frames + 1 ≤ (q_rm Y).frames ∧ 8 + (q_ml Y2 + 11) + (q_rm Y2).locals ≤ (q_rm Y).locals ∧ (q_nm Y2).cls ≠ "java/lang/invoke/MethodHandle" ∧ (q_nm Y2).cls ≠ "java/lang/invoke/VarHandle" ∧ (parseMethodDescriptor (q_nm Y2).desc).map (fun d => d.parameters.length) = some n
section QC
variable {Y : q_Y} {sc : Option (Nat × (Nat → Int32))} {v : Option Value} {M' M : q_Mem} {k n pc : Nat} {ls : List (Nat × Value)} {st : List Value} {α : Type} {φ : α → Option Value × q_Mem} {r : Option α}
/-- behind a call -/
theorem q_back {p : Program} {l : Launch} {e : Env} {s : State} {m : MethodId} {args : Array Value} {below : List Frame} {meth : Method} {c : Code} {lo sb : Nat} {D : va_G} {E : Nat → ClassId} {Q : State → Prop} {Y2 : q_Y} {M1 : q_Mem} {v1 : Option Value} {H : Heap} {locs : List Loc} {la : Array Slot} {g0 : List Value} {a : Array Value}
    (hr : va_Run p l e (q_rm Y) s m args below meth c H locs k n (q_mc Y2) (q_ms Y2) (F0 m pc la g0) (st.map (q_sh lo sb)) (q_Q (q_mc Y2) v1 M1 D E lo a) (fun q => lo ≤ q)) (hS : va_S (fun q => lo ≤ q) s.heap H locs) (hlo : lo ≤ s.heap.size) (hk0 : lo + M.1 = s.heap.size + k) (hszH : H.size = lo + M.1)
    (hv1 : ∀ sb lo, v1.map (q_sh lo sb) = v1.map (q_sh lo 0)) (hl : lv_has la (q_ml Y) (ls.map (q_shp lo sb)))
    (kk : ∀ (H : Heap) (locs : List Loc) (la : Array Slot), q_St Y s lo sb D E (k + q_mc Y2) ls M1 H locs la → W p l e (q_rm Y) s m args below meth c H locs (k + q_mc Y2) (n + q_ms Y2) Q (F0 m (pc + 3) la ((v1.toList ++ st).map (q_sh lo sb)))) :
    W p l e (q_rm Y) s m args below meth c H locs k n Q (F0 m pc la g0) := by
  intro T hT X
  obtain ⟨w, st₀, t, T', L, h0, X', hL, e1, e2, ⟨hoc, hP1, ⟨hz, hkp⟩, hsz1, hsz2⟩, hst⟩ := hr T hT X
  have hw : w = v1.map (q_sh lo 0) := Option.some.inj (by injection hoc with h; exact congrArg some h)
  subst hw
  rw [h0] at hz hkp
  have hS1 : va_S (fun q => lo ≤ q) s.heap T'.heap (locs ++ L) := ⟨Nat.le_trans hS.1 (by rw [e1]; exact hz), fun q h1 h2 => by rw [e1, hkp q (Nat.lt_of_lt_of_le h1 hS.1) h2]; exact hS.2.1 q h1 h2, fun q hq => by
    rcases List.mem_append.mp hq with h | h
    · exact hS.2.2 q h
    · exact hL q h⟩
  have hnew : lo + M1.1 = s.heap.size + (k + q_mc Y2) := by
    rw [h0] at hsz2
    omega
  obtain ⟨t2, a1, b1⟩ := kk T'.heap (locs ++ L) la ⟨by rw [e1]; exact hP1, hS1, hnew, hl⟩ T' rfl X'
  refine ⟨t2, hst t2 ?_, b1⟩
  have e3 : (v1.toList ++ st).map (q_sh lo sb) = (v1.map (q_sh lo 0)).toList ++ st.map (q_sh lo sb) := by
    rw [List.map_append, ← hv1 sb lo]
    cases v1 <;> rfl
  rw [e3] at a1
  exact a1
theorem q_callV0 {Y2 : q_Y} {As : List Value} {b ci N idx nA : Nat} {Cn : String} {T : u_T} {v1 : Option Value} {M1 : q_Mem} {v : Option Value} (cl : q_Cl ci Cn T N) (hcls : (q_nm Y2).cls = Cn) (hd : decode (q_cd Y) pc = .ok (.invokevirtual idx, 3)) (w1 : Cond.methodLink (q_nm Y).cls idx (q_nm Y2) ∈ q_tbl) (w2 : Cond.instanceMethod (q_nm Y2) ∈ q_tbl) (w3 : Cond.selects Cn (q_nm Y2) (q_nm Y2) ∈ q_tbl) (w4 : Cond.initialized Cn ∈ q_tbl) (w5 : Cond.code (q_nm Y2) (q_cd Y2) (q_ml Y2) (q_rt Y2) ∈ q_tbl)
    (hf : q_fit Y Y2 nA) (hA : As.length = nA) (hAs : ∀ lo sb, As.map (q_sh lo sb) = As.map (q_sh lo 0)) (hst : (st.map fun v => v.category).sum ≤ 8) (hk : k + q_mc Y2 ≤ q_mc Y) (hn : n + q_ms Y2 ≤ q_ms Y) (hb : q_is ci M b) (hC : q_C Y2 (.ref b :: As) M v1 M1)
    (h : q_V0 Y sc v M' (k + q_mc Y2) (n + q_ms Y2) (pc + 3) ls (v1.toList ++ st) M1) : q_V0 Y sc v M' k n pc ls (As.reverse ++ .ref b :: st) M := by
  intro p l e s m args below meth c lo sb D E Q C X H locs la S
  have hh := h p l e s m args below meth c lo sb D E Q C X
  have hcat : ((st.map (q_sh lo sb)).map fun v => v.category) = st.map fun v => v.category := by rw [List.map_map]; exact List.map_congr_left fun v _ => q_sh_cat lo sb v
  have hK := C.2.2.2.2.2.2.2.1
  have hlo := C.2.2.2.2.2.2.2.2.1
  refine q_size (fun hz => ?_)
  have hsz := q_top S.1 S.2.1 hlo S.2.2.1 hz
  have hpre : PreV s H Cn (lo + b) (va_Pc ((Value.ref b :: As).map (q_sh lo 0)) (q_Pw D E lo M)) (As.map (q_sh lo 0)) :=
    ⟨q_blind, va_recv hK S.1 (ci := ci) (q0 := b) cl.2.1 (by rw [q_ws_at hb.1, q_ce_ob hb.2 cl.1]), fun U hU hW => ⟨rfl, by rw [hU]; exact S.1, va_K.moved hW.alike hK, by rw [hU]; exact hsz, q_NW.warm hW C.2.2.2.2.2.2.1⟩⟩
  have hG : GoodIn q_tbl (wsV (q_nm Y).cls idx Cn (q_nm Y2) (q_wsY Y2)) := by
    intro w hw
    unfold wsV at hw
    rcases List.mem_append.mp hw with hw | hw
    · have hm : w ∈ q_tbl := by
        simp only [List.mem_cons, List.not_mem_nil, or_false] at hw
        rcases hw with rfl | rfl | rfl | rfl
        · exact w1
        · exact w2
        · exact w3
        · exact w4
      exact ⟨hm, good_of_word (List.all_eq_true.mp q_tbl_all _ hm)⟩
    · exact q_good w5 w hw
  have hrun : va_Run p l e (q_rm Y) s m args below meth c H locs k n (q_mc Y2) (q_ms Y2) (F0 m pc la ((As.reverse ++ Value.ref b :: st).map (q_sh lo sb))) (st.map (q_sh lo sb)) (q_Q (q_mc Y2) v1 M1 D E lo _) (fun q => lo ≤ q) := va_runV (As := As.map (q_sh lo 0)) (rest := st.map (q_sh lo sb)) ⟨C.1, C.2.1, C.2.2.1, C.2.2.2.1, C.2.2.2.2.2.1⟩ (hC.2 l D E lo) (cwV nA C.2.2.2.2.2.1 hG rfl rfl rfl ⟨hcls, hf.2.2.1, hf.2.2.2.1, hf.2.2.2.2⟩ ⟨hf.1, hf.2.1⟩) hpre rfl (by rw [List.length_map]; exact hA) S.2.2.2.1 (by show List.map _ _ = _; rw [List.map_append, List.map_reverse, hAs lo sb]; rfl) (lv_room (by rw [hcat]; exact hst)) hd ⟨hk, hn⟩
  exact q_back (M := M) (M1 := M1) (v1 := v1) (ls := ls) hrun S.2.1 hlo S.2.2.1 hsz hC.1 S.2.2.2 hh
theorem q_callS0 {Y2 : q_Y} {As : List Value} {idx nA : Nat} {v1 : Option Value} {M1 : q_Mem} {v : Option Value} (hd : decode (q_cd Y) pc = .ok (.invokestatic idx, 3)) (w1 : Cond.methodLink (q_nm Y).cls idx (q_nm Y2) ∈ q_tbl) (w2 : Cond.static (q_nm Y2) ∈ q_tbl) (w4 : Cond.initialized (q_nm Y2).cls ∈ q_tbl) (w5 : Cond.code (q_nm Y2) (q_cd Y2) (q_ml Y2) (q_rt Y2) ∈ q_tbl)
    (hf : q_fit Y Y2 nA) (hA : As.length = nA) (hAs : ∀ lo sb, As.map (q_sh lo sb) = As.map (q_sh lo 0)) (hst : (st.map fun v => v.category).sum ≤ 8) (hk : k + q_mc Y2 ≤ q_mc Y) (hn : n + q_ms Y2 ≤ q_ms Y) (hC : q_C Y2 As M v1 M1)
    (h : q_V0 Y sc v M' (k + q_mc Y2) (n + q_ms Y2) (pc + 3) ls (v1.toList ++ st) M1) : q_V0 Y sc v M' k n pc ls (As.reverse ++ st) M := by
  intro p l e s m args below meth c lo sb D E Q C X H locs la S
  have hh := h p l e s m args below meth c lo sb D E Q C X
  have hcat : ((st.map (q_sh lo sb)).map fun v => v.category) = st.map fun v => v.category := by rw [List.map_map]; exact List.map_congr_left fun v _ => q_sh_cat lo sb v
  have hK := C.2.2.2.2.2.2.2.1
  have hlo := C.2.2.2.2.2.2.2.2.1
  refine q_size (fun hz => ?_)
  have hsz := q_top S.1 S.2.1 hlo S.2.2.1 hz
  have hpre : PreS s H (va_Pc (As.map (q_sh lo 0)) (q_Pw D E lo M)) (As.map (q_sh lo 0)) :=
    ⟨q_blind, fun U hU hW => ⟨rfl, by rw [hU]; exact S.1, va_K.moved hW.alike hK, by rw [hU]; exact hsz, q_NW.warm hW C.2.2.2.2.2.2.1⟩⟩
  have hrun : va_Run p l e (q_rm Y) s m args below meth c H locs k n (q_mc Y2) (q_ms Y2) (F0 m pc la ((As.reverse ++ st).map (q_sh lo sb))) (st.map (q_sh lo sb)) (q_Q (q_mc Y2) v1 M1 D E lo _) (fun q => lo ≤ q) := va_runS (As := As.map (q_sh lo 0)) (rest := st.map (q_sh lo sb)) ⟨C.1, C.2.1, C.2.2.1, C.2.2.2.1, C.2.2.2.2.2.1⟩ (hC.2 l D E lo) ⟨callB_of nA C.2.2.2.2.2.1 (q_good w5) rfl rfl rfl (C.2.2.2.2.2.1 _ w4) (C.2.2.2.2.2.1 _ w1) ⟨hf.2.2.1, hf.2.2.2.1, hf.2.2.2.2⟩ ⟨hf.1, hf.2.1⟩, C.2.2.2.2.2.1 _ w2⟩ hpre rfl (by rw [List.length_map]; exact hA) S.2.2.2.1 (by show List.map _ _ = _; rw [List.map_append, List.map_reverse, hAs lo sb]) (lv_room (by rw [hcat]; exact hst)) hd ⟨hk, hn⟩
  exact q_back (M := M) (M1 := M1) (v1 := v1) (ls := ls) hrun S.2.1 hlo S.2.2.1 hsz hC.1 S.2.2.2 hh
theorem q_callN0 {Y2 : q_Y} {As : List Value} {idx nA : Nat} {host : String} {v1 : Option Value} {M1 : q_Mem} {v : Option Value} (hd : decode (q_cd Y) pc = .ok (.invokestatic idx, 3)) (w1 : ((q_nm Y).cls, idx, q_nm Y2, host) ∈ q_nx) (w2 : Cond.static (q_nm Y2) ∈ q_tbl) (w4 : Cond.initialized (q_nm Y2).cls ∈ q_tbl) (w5 : Cond.code (q_nm Y2) (q_cd Y2) (q_ml Y2) (q_rt Y2) ∈ q_tbl)
    (hf : q_fit Y Y2 nA) (hA : As.length = nA) (hAs : ∀ lo sb, As.map (q_sh lo sb) = As.map (q_sh lo 0)) (hst : (st.map fun v => v.category).sum ≤ 8) (hk : k + q_mc Y2 ≤ q_mc Y) (hn : n + q_ms Y2 ≤ q_ms Y) (hC : q_C Y2 As M v1 M1)
    (h : q_V0 Y sc v M' (k + q_mc Y2) (n + q_ms Y2) (pc + 3) ls (v1.toList ++ st) M1) : q_V0 Y sc v M' k n pc ls (As.reverse ++ st) M := by
  intro p l e s m args below meth c lo sb D E Q C X H locs la S
  have hh := h p l e s m args below meth c lo sb D E Q C X
  have hcat : ((st.map (q_sh lo sb)).map fun v => v.category) = st.map fun v => v.category := by rw [List.map_map]; exact List.map_congr_left fun v _ => q_sh_cat lo sb v
  have hK := C.2.2.2.2.2.2.2.1
  have hlo := C.2.2.2.2.2.2.2.2.1
  refine q_size (fun hz => ?_)
  have hsz := q_top S.1 S.2.1 hlo S.2.2.1 hz
  have hpre : PreS s H (va_Pc (As.map (q_sh lo 0)) (q_Pw D E lo M)) (As.map (q_sh lo 0)) :=
    ⟨q_blind, fun U hU hW => ⟨rfl, by rw [hU]; exact S.1, va_K.moved hW.alike hK, by rw [hU]; exact hsz, q_NW.warm hW C.2.2.2.2.2.2.1⟩⟩
  have hrun : va_Run p l e (q_rm Y) s m args below meth c H locs k n (q_mc Y2) (q_ms Y2) (F0 m pc la ((As.reverse ++ st).map (q_sh lo sb))) (st.map (q_sh lo sb)) (q_Q (q_mc Y2) v1 M1 D E lo _) (fun q => lo ≤ q) := va_runSN (As := As.map (q_sh lo 0)) (rest := st.map (q_sh lo sb)) ⟨C.1, C.2.1, C.2.2.1, C.2.2.2.1, C.2.2.2.2.2.1⟩ (hC.2 l D E lo) ⟨va_cnB nA C.2.2.2.2.2.1 (q_good w5) rfl rfl rfl (C.2.2.2.2.2.2.1.1 _ w1) (C.2.2.2.2.2.1 _ w4) ⟨hf.2.2.1, hf.2.2.2.1, hf.2.2.2.2⟩ ⟨hf.1, hf.2.1⟩, C.2.2.2.2.2.1 _ w2, trivial⟩ hpre rfl (by rw [List.length_map]; exact hA) S.2.2.2.1 (by show List.map _ _ = _; rw [List.map_append, List.map_reverse, hAs lo sb]) (lv_room (by rw [hcat]; exact hst)) hd ⟨hk, hn⟩
  exact q_back (M := M) (M1 := M1) (v1 := v1) (ls := ls) hrun S.2.1 hlo S.2.2.1 hsz hC.1 S.2.2.2 hh
theorem q_callI0 {Y2 : q_Y} {As : List Value} {b idx nA : Nat} {M1 : q_Mem} {v : Option Value} (hd : decode (q_cd Y) pc = .ok (.invokespecial idx, 3)) (w1 : Cond.methodLink (q_nm Y).cls idx (q_nm Y2) ∈ q_tbl) (w2 : Cond.instanceMethod (q_nm Y2) ∈ q_tbl) (w4 : Cond.initialized (q_nm Y2).cls ∈ q_tbl) (w5 : Cond.code (q_nm Y2) (q_cd Y2) (q_ml Y2) (q_rt Y2) ∈ q_tbl) (hi : (q_nm Y2).name = "<init>") (hrt : q_rt Y2 = none)
    (hf : q_fit Y Y2 nA) (hA : As.length = nA) (hAs : ∀ lo sb, As.map (q_sh lo sb) = As.map (q_sh lo 0)) (hst : (st.map fun v => v.category).sum ≤ 8) (hk : k + q_mc Y2 ≤ q_mc Y) (hn : n + q_ms Y2 ≤ q_ms Y) (hC : q_C Y2 (.ref b :: As) M none M1)
    (h : q_V0 Y sc v M' (k + q_mc Y2) (n + q_ms Y2) (pc + 3) ls st M1) : q_V0 Y sc v M' k n pc ls (As.reverse ++ .ref b :: st) M := by
  intro p l e s m args below meth c lo sb D E Q C X H locs la S
  have hh := h p l e s m args below meth c lo sb D E Q C X
  have hcat : ((st.map (q_sh lo sb)).map fun v => v.category) = st.map fun v => v.category := by rw [List.map_map]; exact List.map_congr_left fun v _ => q_sh_cat lo sb v
  have hK := C.2.2.2.2.2.2.2.1
  have hlo := C.2.2.2.2.2.2.2.2.1
  refine q_size (fun hz => ?_)
  have hsz := q_top S.1 S.2.1 hlo S.2.2.1 hz
  have hpre : PreS s H (va_Pc ((Value.ref b :: As).map (q_sh lo 0)) (q_Pw D E lo M)) (.ref (lo + b) :: As.map (q_sh lo 0)) :=
    ⟨q_blind, fun U hU hW => ⟨rfl, by rw [hU]; exact S.1, va_K.moved hW.alike hK, by rw [hU]; exact hsz, q_NW.warm hW C.2.2.2.2.2.2.1⟩⟩
  have hrun : va_Run p l e (q_rm Y) s m args below meth c H locs k n (q_mc Y2) (q_ms Y2) (F0 m pc la ((As.reverse ++ Value.ref b :: st).map (q_sh lo sb))) (st.map (q_sh lo sb)) (q_Q (q_mc Y2) none M1 D E lo _) (fun q => lo ≤ q) := va_runI (As := As.map (q_sh lo 0)) (rest := st.map (q_sh lo sb)) ⟨C.1, C.2.1, C.2.2.1, C.2.2.2.1, C.2.2.2.2.2.1⟩ (hC.2 l D E lo) (cwI nA C.2.2.2.2.2.1 (q_good w5) (by unfold q_wsY; rw [hrt]) rfl rfl (C.2.2.2.2.2.1 _ w4) (C.2.2.2.2.2.1 _ w1) (C.2.2.2.2.2.1 _ w2) hi ⟨hf.2.2.1, hf.2.2.2.1, hf.2.2.2.2⟩ ⟨hf.1, hf.2.1⟩) hpre rfl (by rw [List.length_map]; exact hA) S.2.2.2.1 (by show List.map _ _ = _; rw [List.map_append, List.map_reverse, hAs lo sb]; rfl) (lv_room (by rw [hcat]; exact hst)) hd ⟨hk, hn⟩
  exact q_back (M := M) (M1 := M1) (v1 := none) (ls := ls) hrun S.2.1 hlo S.2.2.1 hsz hC.1 S.2.2.2 hh
theorem q_callIN0 {Y2 : q_Y} {As : List Value} {b idx nA : Nat} {host : String} {M1 : q_Mem} {v : Option Value} (hd : decode (q_cd Y) pc = .ok (.invokespecial idx, 3)) (w1 : ((q_nm Y).cls, idx, q_nm Y2, host) ∈ q_nx) (w2 : Cond.instanceMethod (q_nm Y2) ∈ q_tbl) (w4 : Cond.initialized (q_nm Y2).cls ∈ q_tbl) (w5 : Cond.code (q_nm Y2) (q_cd Y2) (q_ml Y2) (q_rt Y2) ∈ q_tbl) (hi : (q_nm Y2).name = "<init>") (hrt : q_rt Y2 = none)
    (hf : q_fit Y Y2 nA) (hA : As.length = nA) (hAs : ∀ lo sb, As.map (q_sh lo sb) = As.map (q_sh lo 0)) (hst : (st.map fun v => v.category).sum ≤ 8) (hk : k + q_mc Y2 ≤ q_mc Y) (hn : n + q_ms Y2 ≤ q_ms Y) (hC : q_C Y2 (.ref b :: As) M none M1)
    (h : q_V0 Y sc v M' (k + q_mc Y2) (n + q_ms Y2) (pc + 3) ls st M1) : q_V0 Y sc v M' k n pc ls (As.reverse ++ .ref b :: st) M := by
  intro p l e s m args below meth c lo sb D E Q C X H locs la S
  have hh := h p l e s m args below meth c lo sb D E Q C X
  have hcat : ((st.map (q_sh lo sb)).map fun v => v.category) = st.map fun v => v.category := by rw [List.map_map]; exact List.map_congr_left fun v _ => q_sh_cat lo sb v
  have hK := C.2.2.2.2.2.2.2.1
  have hlo := C.2.2.2.2.2.2.2.2.1
  refine q_size (fun hz => ?_)
  have hsz := q_top S.1 S.2.1 hlo S.2.2.1 hz
  have hpre : PreS s H (va_Pc ((Value.ref b :: As).map (q_sh lo 0)) (q_Pw D E lo M)) (.ref (lo + b) :: As.map (q_sh lo 0)) :=
    ⟨q_blind, fun U hU hW => ⟨rfl, by rw [hU]; exact S.1, va_K.moved hW.alike hK, by rw [hU]; exact hsz, q_NW.warm hW C.2.2.2.2.2.2.1⟩⟩
  have hrun : va_Run p l e (q_rm Y) s m args below meth c H locs k n (q_mc Y2) (q_ms Y2) (F0 m pc la ((As.reverse ++ Value.ref b :: st).map (q_sh lo sb))) (st.map (q_sh lo sb)) (q_Q (q_mc Y2) none M1 D E lo _) (fun q => lo ≤ q) := va_runIN (As := As.map (q_sh lo 0)) (rest := st.map (q_sh lo sb)) ⟨C.1, C.2.1, C.2.2.1, C.2.2.2.1, C.2.2.2.2.2.1⟩ (hC.2 l D E lo) ⟨va_cnB nA C.2.2.2.2.2.1 (q_good w5) (by unfold q_wsY; rw [hrt]) rfl rfl (C.2.2.2.2.2.2.1.1 _ w1) (C.2.2.2.2.2.1 _ w4) ⟨hf.2.2.1, hf.2.2.2.1, hf.2.2.2.2⟩ ⟨hf.1, hf.2.1⟩, hi, C.2.2.2.2.2.1 _ w2⟩ hpre rfl (by rw [List.length_map]; exact hA) S.2.2.2.1 (by show List.map _ _ = _; rw [List.map_append, List.map_reverse, hAs lo sb]; rfl) (lv_room (by rw [hcat]; exact hst)) hd ⟨hk, hn⟩
  exact q_back (M := M) (M1 := M1) (v1 := none) (ls := ls) hrun S.2.1 hlo S.2.2.1 hsz hC.1 S.2.2.2 hh
end QC
