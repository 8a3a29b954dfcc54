/-! ===== rows of the memory ===== -/
def q_Cl (ci : Nat) (C : String) (T : u_T) (N : Nat) : Prop :=
  ci < 100 ∧ vwCl[ci]? = some (C, T, N) ∧ (∀ w ∈ u_ws C T N, w ∈ q_tbl) ∧ (∀ k, k < N → parseFieldDescriptor (T k).2.2.1 = some (q_ty ci k)) ∧ (∀ a, a < N → ∀ b, b < N → a ≠ b → (T a).2.1 ≠ (T b).2.1) ∧ q_N ci = N
section QM
variable {Y : q_Y} {sc : Option (Nat × (Nat → Int32))} {v : Option Value} {M' M : q_Mem} {k n pc : Nat} {ls : List (Nat × Value)} {st : List Value} {α : Type} {φ : α → Option Value × q_Mem} {r : Option α}
theorem q_get {ci N f a idx : Nat} {Cn : String} {T : u_T} {val : Value} (cl : q_Cl ci Cn T N) (hf : f < N) (hw : Cond.fieldLink (q_nm Y).cls idx Cn (T f).2.1 (T f).2.2.1 ∈ q_tbl) (hC : (T f).1 = Cn) (hd : decode (q_cd Y) pc = .ok (.getfield idx, 3)) (ha : q_is ci M a)
    (hv : ∀ lo sb, q_fv lo M a (q_ty ci f) f = q_sh lo sb val) (h : q_V Y sc φ k n (pc + 3) ls (val :: st) M r) : q_V Y sc φ k n pc ls (.ref a :: st) M r := by
  intro x0 hx0 p l e s m args below meth c lo sb D E Q C X H locs la S
  have hh := h x0 hx0 p l e s m args below meth c lo sb D E Q C X H locs la S
  refine va_get C.1 C.2.1 (cl := vwCl) (ci := ci) (C := Cn) (T := T) (N := N) (ref := Cn) (Ts := q_tbl) C.2.2.2.2.2.1 cl.2.2.1 C.2.2.2.1 C.2.2.2.2.2.2.2.1 S.1 a (fs := q_fs lo M a ci) (by rw [q_ws_at ha.1, q_ce_ob ha.2 cl.1]) cl.2.1 f hf (C.2.2.2.2.2.1 _ hw) (fun x hx => by rw [hC] at hx; exact hx) (v := q_sh lo sb val) (by rw [q_fs_at (by rw [cl.2.2.2.2.2]; exact hf), hv lo sb]) hd hh
theorem q_getI {ci N f a idx : Nat} {Cn : String} {T : u_T} {F : Int32 → Option α} (cl : q_Cl ci Cn T N) (hf : f < N) (hw : Cond.fieldLink (q_nm Y).cls idx Cn (T f).2.1 (T f).2.2.1 ∈ q_tbl) (hC : (T f).1 = Cn) (hd : decode (q_cd Y) pc = .ok (.getfield idx, 3)) (ht : q_ty ci f = .int ∨ q_ty ci f = .boolean)
    (h : ∀ z, q_gI ci f M a = some z → q_V Y sc φ k n (pc + 3) ls (.int z :: st) M (F z)) : q_V Y sc φ k n pc ls (.ref a :: st) M (Option.bind (q_gI ci f M a) F) := by
  intro x0 hx0
  obtain ⟨z, hz, hF⟩ := Option.bind_eq_some_iff.mp hx0
  have hz' := hz
  unfold q_gI at hz
  split at hz
  case isFalse => cases hz
  case isTrue hb =>
  cases hz
  exact q_get cl hf hw hC hd (q_isb_iff.mp hb) (fun lo sb => by rcases ht with t | t <;> rw [t] <;> rfl) (h _ hz') x0 hF
theorem q_getJ {ci N f a idx : Nat} {Cn : String} {T : u_T} {F : Int64 → Option α} (cl : q_Cl ci Cn T N) (hf : f < N) (hw : Cond.fieldLink (q_nm Y).cls idx Cn (T f).2.1 (T f).2.2.1 ∈ q_tbl) (hC : (T f).1 = Cn) (hd : decode (q_cd Y) pc = .ok (.getfield idx, 3)) (ht : q_ty ci f = .long)
    (h : ∀ z, q_gJ ci f M a = some z → q_V Y sc φ k n (pc + 3) ls (.long z :: st) M (F z)) : q_V Y sc φ k n pc ls (.ref a :: st) M (Option.bind (q_gJ ci f M a) F) := by
  intro x0 hx0
  obtain ⟨z, hz, hF⟩ := Option.bind_eq_some_iff.mp hx0
  have hz' := hz
  unfold q_gJ at hz
  split at hz
  case isFalse => cases hz
  case isTrue hb =>
  cases hz
  exact q_get cl hf hw hC hd (q_isb_iff.mp hb) (fun lo sb => by rw [ht]; rfl) (h _ hz') x0 hF
theorem q_getR {ci N f a idx : Nat} {Cn : String} {T : u_T} {F : Nat → Option α} (cl : q_Cl ci Cn T N) (hf : f < N) (hw : Cond.fieldLink (q_nm Y).cls idx Cn (T f).2.1 (T f).2.2.1 ∈ q_tbl) (hC : (T f).1 = Cn) (hd : decode (q_cd Y) pc = .ok (.getfield idx, 3)) (ht : ∀ (lo : Nat) (M : q_Mem) (a : Nat), q_fv lo M a (q_ty ci f) f = va_rf ((q_G M a f).map (lo + ·)))
    (h : ∀ z, q_gR ci f M a = some z → q_V Y sc φ k n (pc + 3) ls (.ref z :: st) M (F z)) : q_V Y sc φ k n pc ls (.ref a :: st) M (Option.bind (q_gR ci f M a) F) := by
  intro x0 hx0
  obtain ⟨z, hz, hF⟩ := Option.bind_eq_some_iff.mp hx0
  have hz' := hz
  unfold q_gR at hz
  split at hz
  case isFalse => cases hz
  case isTrue hb =>
  exact q_get cl hf hw hC hd (q_isb_iff.mp hb) (fun lo sb => by rw [ht, hz]; rfl) (h _ hz') x0 hF
theorem q_put {ci N f a idx : Nat} {Cn : String} {T : u_T} {val : Value} {M1 : q_Mem} (cl : q_Cl ci Cn T N) (hf : f < N) (hw : Cond.fieldLink (q_nm Y).cls idx Cn (T f).2.1 (T f).2.2.1 ∈ q_tbl) (hC : (T f).1 = Cn) (hfin : (T f).2.2.2 = false ∨ ((T f).2.2.2 = true ∧ (q_nm Y).name = "<init>" ∧ (T f).1 = (q_nm Y).cls)) (hd : decode (q_cd Y) pc = .ok (.putfield idx, 3)) (ha : q_is ci M a)
    (hn : M1.1 = M.1) (hK : q_K M1 = q_K M) (hne : ∀ E lo b, b ≠ a → q_ce E lo M1 b = q_ce E lo M b) (hfs : ∀ lo j, j ≠ f → ∀ t, q_fv lo M1 a t j = q_fv lo M a t j) (hv : ∀ lo sb, q_fv lo M1 a (q_ty ci f) f = q_sh lo sb val)
    (hnar : ∀ lo sb, narrow (q_ty ci f) (q_sh lo sb val) = q_sh lo sb val) (hfit : ∀ lo sb, fits (q_ty ci f) (q_sh lo sb val) = true) (h : q_V Y sc φ k n (pc + 3) ls st M1 r) : q_V Y sc φ k n pc ls (val :: .ref a :: st) M r := by
  intro x0 hx0 p l e s m args below meth c lo sb D E Q C X H locs la S
  have hN : f < q_N ci := by rw [cl.2.2.2.2.2]; exact hf
  have he : (q_ws E lo M)[a]? = some (lo + a, .inr (ci, q_fs lo M a ci)) := by rw [q_ws_at ha.1, q_ce_ob ha.2 cl.1]
  have hset : (q_ws E lo M).set a (lo + a, .inr (ci, (q_fs lo M a ci).set f (q_sh lo sb val))) = q_ws E lo M1 := by
    rw [← hv lo sb, q_fs_set hN (hfs lo), ← q_ce_ob (E := E) (by rw [hK]; exact ha.2) cl.1]
    exact q_ws_set hn ha.1 (hne E lo)
  have kk : ∀ (H1 : Heap) (locs1 : List Loc), va_P D vwCl ((q_ws E lo M).set a (lo + a, .inr (ci, (q_fs lo M a ci).set f (q_sh lo sb val)))) H1 → va_D (fun q => lo ≤ q) ((q_ws E lo M).set a (lo + a, .inr (ci, (q_fs lo M a ci).set f (q_sh lo sb val)))) → va_S (fun q => lo ≤ q) s.heap H1 locs1 → W p l e (q_rm Y) s m args below meth c H1 locs1 k n Q (F0 m (pc + 3) la (st.map (q_sh lo sb))) := by
    intro H1 locs1 hP1 _ hS1
    rw [hset] at hP1
    exact h x0 hx0 p l e s m args below meth c lo sb D E Q C X H1 locs1 la ⟨hP1, hS1, by rw [hn]; exact S.2.2.1, S.2.2.2⟩
  rcases hfin with hfin | ⟨hfin, h2, h3⟩
  · exact va_put C.1 C.2.1 (cl := vwCl) (ci := ci) (C := Cn) (T := T) (N := N) (ref := Cn) (Ts := q_tbl) C.2.2.2.2.2.1 cl.2.2.1 (q_ty ci) cl.2.2.2.1 cl.2.2.2.2.1 C.2.2.2.1 C.2.2.2.2.2.2.2.1 S.1 q_ws_D S.2.1 a he cl.2.1 f hf (C.2.2.2.2.2.1 _ hw) (fun x hx => by rw [hC] at hx; exact hx) hfin (cl.2.2.2.1 f hf) (hnar lo sb) (hfit lo sb) (by rw [q_fs_len]; exact hN) hd kk
  · exact va_putF C.1 C.2.1 (cl := vwCl) (ci := ci) (C := Cn) (T := T) (N := N) (ref := Cn) (Ts := q_tbl) C.2.2.2.2.2.1 cl.2.2.1 (q_ty ci) cl.2.2.2.1 cl.2.2.2.2.1 C.2.2.2.1 C.2.2.2.2.2.2.2.1 S.1 q_ws_D S.2.1 a he cl.2.1 f hf (C.2.2.2.2.2.1 _ hw) (fun x hx => by rw [hC] at hx; exact hx) hfin (C.2.2.2.2.1 h2) h3 (cl.2.2.2.1 f hf) (hnar lo sb) (hfit lo sb) (by rw [q_fs_len]; exact hN) hd kk
theorem q_putI {ci N f a idx : Nat} {Cn : String} {T : u_T} {y : Int32} {F : q_Mem → Option α} (cl : q_Cl ci Cn T N) (hf : f < N) (hw : Cond.fieldLink (q_nm Y).cls idx Cn (T f).2.1 (T f).2.2.1 ∈ q_tbl) (hC : (T f).1 = Cn) (hfin : (T f).2.2.2 = false ∨ ((T f).2.2.2 = true ∧ (q_nm Y).name = "<init>" ∧ (T f).1 = (q_nm Y).cls)) (hd : decode (q_cd Y) pc = .ok (.putfield idx, 3)) (ht : q_ty ci f = .int)
    (h : ∀ z, q_pI ci f M a y = some z → q_V Y sc φ k n (pc + 3) ls st z (F z)) : q_V Y sc φ k n pc ls (.int y :: .ref a :: st) M (Option.bind (q_pI ci f M a y) F) := by
  intro x0 hx0
  obtain ⟨z, hz, hF⟩ := Option.bind_eq_some_iff.mp hx0
  have hz' := hz
  unfold q_pI at hz
  split at hz
  case isFalse => cases hz
  case isTrue hb =>
  cases hz
  exact q_put (M1 := q_sI M a f y) cl hf hw hC hfin hd (q_isb_iff.mp hb) rfl rfl (fun E lo b hb => q_ce_sI hb) (fun lo j hj t => q_fv_sI j hj t) (fun lo sb => by rw [ht]; show Value.int (q_I (q_sI M a f y) a f) = .int y; rw [q_sI_self]; exact congrArg Value.int (if_pos rfl)) (fun lo sb => by rw [ht]; rfl) (fun lo sb => by rw [ht]; rfl) (h _ hz') x0 hF
theorem q_putZ {ci N f a idx : Nat} {Cn : String} {T : u_T} {y : Int32} {F : q_Mem → Option α} (cl : q_Cl ci Cn T N) (hf : f < N) (hw : Cond.fieldLink (q_nm Y).cls idx Cn (T f).2.1 (T f).2.2.1 ∈ q_tbl) (hC : (T f).1 = Cn) (hfin : (T f).2.2.2 = false ∨ ((T f).2.2.2 = true ∧ (q_nm Y).name = "<init>" ∧ (T f).1 = (q_nm Y).cls)) (hd : decode (q_cd Y) pc = .ok (.putfield idx, 3)) (ht : q_ty ci f = .boolean)
    (h : ∀ z, q_pZ ci f M a y = some z → q_V Y sc φ k n (pc + 3) ls st z (F z)) : q_V Y sc φ k n pc ls (.int y :: .ref a :: st) M (Option.bind (q_pZ ci f M a y) F) := by
  intro x0 hx0
  obtain ⟨z, hz, hF⟩ := Option.bind_eq_some_iff.mp hx0
  have hz' := hz
  unfold q_pZ at hz
  split at hz
  case isFalse => cases hz
  case isTrue hb =>
  cases hz
  exact q_put (M1 := q_sI M a f y) cl hf hw hC hfin hd (q_isb_iff.mp hb.1) rfl rfl (fun E lo b hb => q_ce_sI hb) (fun lo j hj t => q_fv_sI j hj t) (fun lo sb => by rw [ht]; show Value.int (q_I (q_sI M a f y) a f) = .int y; rw [q_sI_self]; exact congrArg Value.int (if_pos rfl)) (fun lo sb => by rw [ht]; rcases hb.2 with rfl | rfl <;> rfl) (fun lo sb => by rw [ht]; rcases hb.2 with rfl | rfl <;> rfl) (h _ hz') x0 hF
theorem q_putJ {ci N f a idx : Nat} {Cn : String} {T : u_T} {y : Int64} {F : q_Mem → Option α} (cl : q_Cl ci Cn T N) (hf : f < N) (hw : Cond.fieldLink (q_nm Y).cls idx Cn (T f).2.1 (T f).2.2.1 ∈ q_tbl) (hC : (T f).1 = Cn) (hfin : (T f).2.2.2 = false ∨ ((T f).2.2.2 = true ∧ (q_nm Y).name = "<init>" ∧ (T f).1 = (q_nm Y).cls)) (hd : decode (q_cd Y) pc = .ok (.putfield idx, 3)) (ht : q_ty ci f = .long)
    (h : ∀ z, q_pJ ci f M a y = some z → q_V Y sc φ k n (pc + 3) ls st z (F z)) : q_V Y sc φ k n pc ls (.long y :: .ref a :: st) M (Option.bind (q_pJ ci f M a y) F) := by
  intro x0 hx0
  obtain ⟨z, hz, hF⟩ := Option.bind_eq_some_iff.mp hx0
  have hz' := hz
  unfold q_pJ at hz
  split at hz
  case isFalse => cases hz
  case isTrue hb =>
  cases hz
  exact q_put (M1 := q_sJ M a f y) cl hf hw hC hfin hd (q_isb_iff.mp hb) rfl rfl (fun E lo b hb => q_ce_sJ hb) (fun lo j hj t => q_fv_sJ j hj t) (fun lo sb => by rw [ht]; show Value.long (q_J (q_sJ M a f y) a f) = .long y; rw [q_sJ_self]; exact congrArg Value.long (if_pos rfl)) (fun lo sb => by rw [ht]; rfl) (fun lo sb => by rw [ht]; rfl) (h _ hz') x0 hF
theorem q_putR {ci N f a idx y : Nat} {Cn : String} {T : u_T} {F : q_Mem → Option α} (cl : q_Cl ci Cn T N) (hf : f < N) (hw : Cond.fieldLink (q_nm Y).cls idx Cn (T f).2.1 (T f).2.2.1 ∈ q_tbl) (hC : (T f).1 = Cn) (hfin : (T f).2.2.2 = false ∨ ((T f).2.2.2 = true ∧ (q_nm Y).name = "<init>" ∧ (T f).1 = (q_nm Y).cls)) (hd : decode (q_cd Y) pc = .ok (.putfield idx, 3)) (ht : ∀ (lo : Nat) (M : q_Mem) (a : Nat), q_fv lo M a (q_ty ci f) f = va_rf ((q_G M a f).map (lo + ·)))
    (hnar : ∀ z : Nat, narrow (q_ty ci f) (.ref z) = .ref z) (hfit : ∀ z : Nat, fits (q_ty ci f) (.ref z) = true)
    (h : ∀ z, q_pR ci f M a y = some z → q_V Y sc φ k n (pc + 3) ls st z (F z)) : q_V Y sc φ k n pc ls (.ref y :: .ref a :: st) M (Option.bind (q_pR ci f M a y) F) := by
  intro x0 hx0
  obtain ⟨z, hz, hF⟩ := Option.bind_eq_some_iff.mp hx0
  have hz' := hz
  unfold q_pR at hz
  split at hz
  case isFalse => cases hz
  case isTrue hb =>
  cases hz
  exact q_put (M1 := q_sR M a f y) (val := .ref y) cl hf hw hC hfin hd (q_isb_iff.mp hb) rfl rfl (fun E lo b hb => q_ce_sR hb) (fun lo j hj t => q_fv_sR j hj t) (fun lo sb => by rw [ht, show q_G (q_sR M a f y) a f = some y from if_pos ⟨rfl, rfl⟩]; rfl) (fun lo sb => hnar _) (fun lo sb => hfit _) (h _ hz') x0 hF
theorem q_alen {a : Nat} {F : Int32 → Option α} (hd : decode (q_cd Y) pc = .ok (.arraylength, 1)) (h : ∀ z, q_ln M a = some z → q_V Y sc φ k n (pc + 1) ls (.int z :: st) M (F z)) : q_V Y sc φ k n pc ls (.ref a :: st) M (Option.bind (q_ln M a) F) := by
  intro x0 hx0 p l e s m args below meth c lo sb D E Q C X H locs la S
  obtain ⟨z, hz, hF⟩ := Option.bind_eq_some_iff.mp hx0
  have hh := h z hz x0 hF p l e s m args below meth c lo sb D E Q C X H locs la S
  unfold q_ln at hz
  split at hz
  case isFalse => cases hz
  case isTrue hb =>
  obtain ⟨h1, h2, h3⟩ := hb
  have hz := Option.some.inj hz
  rcases (show (q_K M a).1 = 100 ∨ (q_K M a).1 = 101 ∨ (q_K M a).1 = 102 ∨ (q_K M a).1 = 103 by omega) with h4 | h4 | h4 | h4
  · exact va_alen (cl := vwCl) C.1 C.2.1 C.2.2.2.2.2.2.2.1 S.1 a 0 (by rw [q_ws_at h1, q_ce_I h4]) rfl hz hd hh
  · exact va_alen (cl := vwCl) C.1 C.2.1 C.2.2.2.2.2.2.2.1 S.1 a 1 (by rw [q_ws_at h1, q_ce_J h4]) rfl hz hd hh
  · exact va_alen (cl := vwCl) C.1 C.2.1 C.2.2.2.2.2.2.2.1 S.1 a 2 (by rw [q_ws_at h1, q_ce_Z h4]) rfl hz hd hh
  · exact va_alen (cl := vwCl) C.1 C.2.1 C.2.2.2.2.2.2.2.1 S.1 a 3 (by rw [q_ws_at h1, q_ce_R h4]) rfl hz hd hh
theorem q_slen {b0 : UInt32} {L : Nat} {xs : Nat → Int32} (hs : sc = some (L, xs)) (hd : decode (q_cd Y) pc = .ok (.arraylength, 1)) (h : q_V Y sc φ k n (pc + 1) ls (.int (Int32.ofNat L) :: st) M r) : q_V Y sc φ k n pc ls (.float b0 :: st) M r := by
  intro x0 hx0 p l e s m args below meth c lo sb D E Q C X H locs la S
  have hX := C.2.2.2.2.2.2.2.2.2 L xs hs
  exact va_slen C.1 C.2.1 hX.1 (Nat.lt_of_lt_of_le hX.2 C.2.2.2.2.2.2.2.2.1) (Nat.not_le.mpr hX.2) S.2.1 hd (h x0 hx0 p l e s m args below meth c lo sb D E Q C X H locs la S)
theorem q_sld {b0 : UInt32} {L : Nat} {xs : Nat → Int32} {i : Int32} (hs : sc = some (L, xs)) (hd : decode (q_cd Y) pc = .ok (.iaload, 1)) (h : q_inb i L = true → q_V Y sc φ k n (pc + 1) ls (.int (xs i.toNatClampNeg) :: st) M r) : q_V Y sc φ k n pc ls (.int i :: .float b0 :: st) M (if q_inb i L = true then r else none) := by
  intro x0 hx0 p l e s m args below meth c lo sb D E Q C X H locs la S
  have hX := C.2.2.2.2.2.2.2.2.2 L xs hs
  split at hx0
  case isFalse => cases hx0
  case isTrue hb =>
  exact va_sld C.1 C.2.1 hX.1 (Nat.lt_of_lt_of_le hX.2 C.2.2.2.2.2.2.2.2.1) (Nat.not_le.mpr hX.2) S.2.1 (q_inb_vp hb) hd (h hb x0 hx0 p l e s m args below meth c lo sb D E Q C X H locs la S)
theorem q_iald {a : Nat} {i : Int32} {F : Int32 → Option α} (hd : decode (q_cd Y) pc = .ok (.iaload, 1)) (h : ∀ z, q_lI M a i = some z → q_V Y sc φ k n (pc + 1) ls (.int z :: st) M (F z)) : q_V Y sc φ k n pc ls (.int i :: .ref a :: st) M (Option.bind (q_lI M a i) F) := by
  intro x0 hx0 p l e s m args below meth c lo sb D E Q C X H locs la S
  obtain ⟨z, hz, hF⟩ := Option.bind_eq_some_iff.mp hx0
  have hh := h z hz x0 hF p l e s m args below meth c lo sb D E Q C X H locs la S
  unfold q_lI at hz
  split at hz
  case isFalse => cases hz
  case isTrue hb =>
  have ha := q_isb_iff.mp hb.1
  cases hz
  exact va_iald (cl := vwCl) C.1 C.2.1 C.2.2.2.2.2.2.2.1 S.1 a 0 (by rw [q_ws_at ha.1, q_ce_I ha.2]) rfl (q_inb_vp hb.2) hd hh
theorem q_zald {a : Nat} {i : Int32} {F : Int32 → Option α} (hd : decode (q_cd Y) pc = .ok (.baload, 1)) (h : ∀ z, q_lZ M a i = some z → q_V Y sc φ k n (pc + 1) ls (.int z :: st) M (F z)) : q_V Y sc φ k n pc ls (.int i :: .ref a :: st) M (Option.bind (q_lZ M a i) F) := by
  intro x0 hx0 p l e s m args below meth c lo sb D E Q C X H locs la S
  obtain ⟨z, hz, hF⟩ := Option.bind_eq_some_iff.mp hx0
  have hh := h z hz x0 hF p l e s m args below meth c lo sb D E Q C X H locs la S
  unfold q_lZ at hz
  split at hz
  case isFalse => cases hz
  case isTrue hb =>
  have ha := q_isb_iff.mp hb.1
  cases hz
  exact va_zald (cl := vwCl) C.1 C.2.1 C.2.2.2.2.2.2.2.1 S.1 a 2 (by rw [q_ws_at ha.1, q_ce_Z ha.2]) rfl (q_inb_vp hb.2) hd hh
theorem q_lald {a : Nat} {i : Int32} {F : Int64 → Option α} (hd : decode (q_cd Y) pc = .ok (.laload, 1)) (h : ∀ z, q_lJ M a i = some z → q_V Y sc φ k n (pc + 1) ls (.long z :: st) M (F z)) : q_V Y sc φ k n pc ls (.int i :: .ref a :: st) M (Option.bind (q_lJ M a i) F) := by
  intro x0 hx0 p l e s m args below meth c lo sb D E Q C X H locs la S
  obtain ⟨z, hz, hF⟩ := Option.bind_eq_some_iff.mp hx0
  have hh := h z hz x0 hF p l e s m args below meth c lo sb D E Q C X H locs la S
  unfold q_lJ at hz
  split at hz
  case isFalse => cases hz
  case isTrue hb =>
  have ha := q_isb_iff.mp hb.1
  cases hz
  exact va_lald (cl := vwCl) C.1 C.2.1 C.2.2.2.2.2.2.2.1 S.1 a 1 (by rw [q_ws_at ha.1, q_ce_J ha.2]) rfl (q_inb_vp hb.2) hd hh
theorem q_rald {a : Nat} {i : Int32} {F : Nat → Option α} (hd : decode (q_cd Y) pc = .ok (.aaload, 1)) (h : ∀ z, q_lR M a i = some z → q_V Y sc φ k n (pc + 1) ls (.ref z :: st) M (F z)) : q_V Y sc φ k n pc ls (.int i :: .ref a :: st) M (Option.bind (q_lR M a i) F) := by
  intro x0 hx0 p l e s m args below meth c lo sb D E Q C X H locs la S
  obtain ⟨z, hz, hF⟩ := Option.bind_eq_some_iff.mp hx0
  have hh := h z hz x0 hF p l e s m args below meth c lo sb D E Q C X H locs la S
  unfold q_lR at hz
  split at hz
  case isFalse => cases hz
  case isTrue hb =>
  have ha := q_isb_iff.mp hb.1
  refine va_aldq (cl := vwCl) C.1 C.2.1 C.2.2.2.2.2.2.2.1 S.1 a 3 (by rw [q_ws_at ha.1, q_ce_R ha.2]) rfl (q_inb_vp hb.2) hd ?_
  rw [hz]
  exact hh
theorem q_iast {a : Nat} {i : Int32} {y : Int32} {F : q_Mem → Option α} (hd : decode (q_cd Y) pc = .ok (.iastore, 1)) (h : ∀ z, q_tI M a i y = some z → q_V Y sc φ k n (pc + 1) ls st z (F z)) : q_V Y sc φ k n pc ls (.int y :: .int i :: .ref a :: st) M (Option.bind (q_tI M a i y) F) := by
  intro x0 hx0 p l e s m args below meth c lo sb D E Q C X H locs la S
  obtain ⟨z, hz, hF⟩ := Option.bind_eq_some_iff.mp hx0
  have hh := h z hz x0 hF p l e s m args below meth c lo sb D E Q C X
  unfold q_tI at hz
  split at hz
  case isFalse => cases hz
  case isTrue hb =>
  have ha := q_isb_iff.mp hb.1
  cases hz
  refine va_iast (cl := vwCl) C.1 C.2.1 C.2.2.2.2.2.2.2.1 S.1 q_ws_D S.2.1 a 0 (by rw [q_ws_at ha.1, q_ce_I ha.2]) rfl (q_inb_vp hb.2) hd (fun H1 locs1 hP1 hD1 hS1 => hh H1 locs1 la ⟨?_, hS1, S.2.2.1, S.2.2.2⟩)
  have e : q_ce E lo (q_sI M a i.toNatClampNeg y) a = .inl (E 0, (q_K M a).2, .inl (upd (q_I M a) i.toNatClampNeg y)) := by
    rw [q_ce_I (M := q_sI M a i.toNatClampNeg y) ha.2, q_sI_self]
    rfl
  rw [← q_ws_set (M := M) (M' := q_sI M a i.toNatClampNeg y) rfl ha.1 (fun b hb => q_ce_sI hb), e]
  exact hP1
theorem q_last {a : Nat} {i : Int32} {y : Int64} {F : q_Mem → Option α} (hd : decode (q_cd Y) pc = .ok (.lastore, 1)) (h : ∀ z, q_tJ M a i y = some z → q_V Y sc φ k n (pc + 1) ls st z (F z)) : q_V Y sc φ k n pc ls (.long y :: .int i :: .ref a :: st) M (Option.bind (q_tJ M a i y) F) := by
  intro x0 hx0 p l e s m args below meth c lo sb D E Q C X H locs la S
  obtain ⟨z, hz, hF⟩ := Option.bind_eq_some_iff.mp hx0
  have hh := h z hz x0 hF p l e s m args below meth c lo sb D E Q C X
  unfold q_tJ at hz
  split at hz
  case isFalse => cases hz
  case isTrue hb =>
  have ha := q_isb_iff.mp hb.1
  cases hz
  refine va_last (cl := vwCl) C.1 C.2.1 C.2.2.2.2.2.2.2.1 S.1 q_ws_D S.2.1 a 1 (by rw [q_ws_at ha.1, q_ce_J ha.2]) rfl (q_inb_vp hb.2) hd (fun H1 locs1 hP1 hD1 hS1 => hh H1 locs1 la ⟨?_, hS1, S.2.2.1, S.2.2.2⟩)
  have e : q_ce E lo (q_sJ M a i.toNatClampNeg y) a = .inl (E 1, (q_K M a).2, .inr (.inl (vp_updL (q_J M a) i.toNatClampNeg y))) := by
    rw [q_ce_J (M := q_sJ M a i.toNatClampNeg y) ha.2, q_sJ_self]
    rfl
  rw [← q_ws_set (M := M) (M' := q_sJ M a i.toNatClampNeg y) rfl ha.1 (fun b hb => q_ce_sJ hb), e]
  exact hP1
theorem q_zast {a : Nat} {i : Int32} {y : Int32} {F : q_Mem → Option α} (hd : decode (q_cd Y) pc = .ok (.bastore, 1)) (h : ∀ z, q_tZ M a i y = some z → q_V Y sc φ k n (pc + 1) ls st z (F z)) : q_V Y sc φ k n pc ls (.int y :: .int i :: .ref a :: st) M (Option.bind (q_tZ M a i y) F) := by
  intro x0 hx0 p l e s m args below meth c lo sb D E Q C X H locs la S
  obtain ⟨z, hz, hF⟩ := Option.bind_eq_some_iff.mp hx0
  have hh := h z hz x0 hF p l e s m args below meth c lo sb D E Q C X
  unfold q_tZ at hz
  split at hz
  case isFalse => cases hz
  case isTrue hb =>
  have ha := q_isb_iff.mp hb.1
  cases hz
  refine va_zast (cl := vwCl) C.1 C.2.1 C.2.2.2.2.2.2.2.1 S.1 q_ws_D S.2.1 a 2 (by rw [q_ws_at ha.1, q_ce_Z ha.2]) rfl (q_inb_vp hb.2.1) hd (fun H1 locs1 hP1 hD1 hS1 => hh H1 locs1 la ⟨?_, hS1, S.2.2.1, S.2.2.2⟩)
  have e : q_ce E lo (q_sI M a i.toNatClampNeg y) a = .inl (E 2, (q_K M a).2, .inl (upd (q_I M a) i.toNatClampNeg y)) := by
    rw [q_ce_Z (M := q_sI M a i.toNatClampNeg y) ha.2, q_sI_self]
    rfl
  rw [← q_ws_set (M := M) (M' := q_sI M a i.toNatClampNeg y) rfl ha.1 (fun b hb => q_ce_sI hb), e]
  exact (by rcases hb.2.2 with rfl | rfl <;> exact hP1)
theorem q_rast {a y : Nat} {i : Int32} {F : q_Mem → Option α} (hd : decode (q_cd Y) pc = .ok (.aastore, 1)) (h : ∀ z, q_tR M a i y = some z → q_V Y sc φ k n (pc + 1) ls st z (F z)) : q_V Y sc φ k n pc ls (.ref y :: .int i :: .ref a :: st) M (Option.bind (q_tR M a i y) F) := by
  intro x0 hx0 p l e s m args below meth c lo sb D E Q C X H locs la S
  obtain ⟨z, hz, hF⟩ := Option.bind_eq_some_iff.mp hx0
  have hh := h z hz x0 hF p l e s m args below meth c lo sb D E Q C X
  unfold q_tR at hz
  split at hz
  case isFalse => cases hz
  case isTrue hb =>
  have ha := q_isb_iff.mp hb.1
  have hy := q_isb_iff.mp hb.2.2
  cases hz
  refine va_astq (cl := vwCl) (r := (RX5, TX5, 16)) C.1 C.2.1 C.2.2.2.2.2.2.2.1 S.1 q_ws_D S.2.1 a 3 y 4 (by rw [q_ws_at ha.1, q_ce_R ha.2]) rfl (by rw [q_ws_at hy.1, q_ce_ob hy.2 (by decide)]) rfl (q_inb_vp hb.2.1) hd (fun H1 locs1 hP1 hD1 hS1 => hh H1 locs1 la ⟨?_, hS1, S.2.2.1, S.2.2.2⟩)
  have e : q_ce E lo (q_sR M a i.toNatClampNeg y) a = .inl (E 3, (q_K M a).2, .inr (.inr (.inr (.inr (va_up (fun j => (q_G M a j).map (lo + ·)) i.toNatClampNeg (some (lo + y))))))) := by
    have hf : (fun j => Option.map (lo + ·) (q_G (q_sR M a i.toNatClampNeg y) a j)) = va_up (fun j => (q_G M a j).map (lo + ·)) i.toNatClampNeg (some (lo + y)) := by
      funext j
      show Option.map _ (if a = a ∧ j = i.toNatClampNeg then some y else _) = (if j = i.toNatClampNeg then _ else _)
      by_cases hj : j = i.toNatClampNeg
      · rw [if_pos ⟨rfl, hj⟩, if_pos hj]; rfl
      · rw [if_neg (fun z => hj z.2), if_neg hj]
    rw [q_ce_R (M := q_sR M a i.toNatClampNeg y) ha.2, hf]
    rfl
  rw [← q_ws_set (M := M) (M' := q_sR M a i.toNatClampNeg y) rfl ha.1 (fun b hb => q_ce_sR hb), e]
  exact hP1
theorem q_acopy {a b idx : Nat} {sp dp cnt : Int32} {F : q_Mem → Option α} (hd : decode (q_cd Y) pc = .ok (.invokestatic idx, 3)) (hw1 : Cond.methodLink (q_nm Y).cls idx arraycopyName ∈ q_tbl) (hw2 : Cond.native arraycopyName ∈ q_tbl) (hw3 : Cond.static arraycopyName ∈ q_tbl) (hw4 : Cond.initialized "java/lang/System" ∈ q_tbl)
    (hst : (st.map fun v => v.category).sum ≤ 8) (hfr : 1 ≤ (q_rm Y).frames) (hlo : 8 + (nativeFrameWords "java/lang/System" "arraycopy" 5 + 11) ≤ (q_rm Y).locals)
    (h : ∀ z, q_cI M a sp b dp cnt = some z → q_V Y sc φ k n (pc + 3) ls st z (F z)) : q_V Y sc φ k n pc ls (.int cnt :: .int dp :: .ref b :: .int sp :: .ref a :: st) M (Option.bind (q_cI M a sp b dp cnt) F) := by
  intro x0 hx0 p l e s m args below meth c lo sb D E Q C X H locs la S
  obtain ⟨z, hz, hF⟩ := Option.bind_eq_some_iff.mp hx0
  have hh := h z hz x0 hF p l e s m args below meth c lo sb D E Q C X
  unfold q_cI at hz
  split at hz
  case isFalse => cases hz
  case isTrue hb =>
  obtain ⟨h1, h2, h3, h4, h5, h6, h7⟩ := hb
  have ha := q_isb_iff.mp h1
  have hbb := q_isb_iff.mp h2
  cases hz
  have hcat : ((st.map (q_sh lo sb)).map fun v => v.category) = st.map fun v => v.category := by rw [List.map_map]; exact List.map_congr_left fun v _ => q_sh_cat lo sb v
  refine va_copyi (cl := vwCl) C.1 C.2.1 (C.2.2.1.trans S.2.2.2.1.symm) C.2.2.2.1 (C.2.2.2.2.2.1 _ hw1) (C.2.2.2.2.2.1 _ hw2) (C.2.2.2.2.2.1 _ hw3) (C.2.2.2.2.2.1 _ hw4) C.2.2.2.2.2.2.2.1 S.1 q_ws_D S.2.1 a b 0 0 (by rw [q_ws_at ha.1, q_ce_I ha.2]) (by rw [q_ws_at hbb.1, q_ce_I hbb.2]) rfl rfl rfl h3 h4 h5 h6 h7 (fun _ _ => rfl) hfr (by rw [hcat]; omega) hd (fun H1 locs1 hP1 hD1 hS1 => hh H1 locs1 la ⟨?_, hS1, S.2.2.1, S.2.2.2⟩)
  have e : q_ce E lo (q_sA M b (va_cpy (q_I M a) (q_I M b) sp.toNatClampNeg dp.toNatClampNeg cnt.toNatClampNeg)) b = .inl (E 0, (q_K M b).2, .inl (va_cpy (q_I M a) (q_I M b) sp.toNatClampNeg dp.toNatClampNeg cnt.toNatClampNeg)) := by
    rw [q_ce_I (M := q_sA M b _) hbb.2]
    congr 4
    funext j
    show (if b = b then _ else _) = _
    rw [if_pos rfl]
  rw [← q_ws_set (M := M) (M' := q_sA M b _) rfl hbb.1 (fun b hb => q_ce_sA hb), e]
  exact hP1
end QM
