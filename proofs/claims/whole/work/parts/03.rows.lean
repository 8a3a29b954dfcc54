/-! ===== the judgement, and a row an instruction ===== -/
def q_sh (lo sb : Nat) : Value → Value
  | .ref a => .ref (lo + a)
  | .float _ => .ref sb
  | v => v
theorem q_sh_cat (lo sb : Nat) (v : Value) : (q_sh lo sb v).category = v.category := by cases v <;> rfl
def q_shp (lo sb : Nat) (q : Nat × Value) : Nat × Value := (q.1, q_sh lo sb q.2)
abbrev q_Y : Type := MethodName × ByteArray × Nat × Option FieldType × (Nat × Nat) × (Nat × Nat)
abbrev q_nm (Y : q_Y) : MethodName := Y.1
abbrev q_cd (Y : q_Y) : ByteArray := Y.2.1
abbrev q_ml (Y : q_Y) : Nat := Y.2.2.1
abbrev q_rt (Y : q_Y) : Option FieldType := Y.2.2.2.1
abbrev q_mc (Y : q_Y) : Nat := Y.2.2.2.2.2.1
abbrev q_ms (Y : q_Y) : Nat := Y.2.2.2.2.2.2
abbrev q_rm (Y : q_Y) : Room := { frames := Y.2.2.2.2.1.1, cells := Y.2.2.2.2.2.1, slots := Y.2.2.2.2.2.2, locals := Y.2.2.2.2.1.2 }
abbrev q_wsY (Y : q_Y) : List Cond := .code (q_nm Y) (q_cd Y) (q_ml Y) (q_rt Y) :: q_tbl
def q_nx : List (String × Nat × MethodName × String) := [("CountyCream", 44, ⟨"CountyCream$Reader", "<init>", "()V"⟩, "CountyCream"), ("CountyCream$Lab", 70, ⟨"CountyCream", "cut", "(JJ)J"⟩, "CountyCream"), ("CountyCream$Dairy", 70, ⟨"CountyCream", "asNumber", "(Z)I"⟩, "CountyCream"), ("CountyCream$Reader", 133, ⟨"CountyCream", "asNumber", "(Z)I"⟩, "CountyCream"), ("CountyCream$Ballot", 46, ⟨"CountyCream", "asNumber", "(Z)I"⟩, "CountyCream"), ("CountyCream$Payday", 149, ⟨"CountyCream", "asNumber", "(Z)I"⟩, "CountyCream"), ("CountyCream$Cart", 72, ⟨"CountyCream", "holds", "(II)Z"⟩, "CountyCream"), ("CountyCream$Cart", 84, ⟨"CountyCream", "milesBetween", "(LCountyCream$Rows;ILCountyCream$Rows;I)I"⟩, "CountyCream"), ("CountyCream$Blend", 68, ⟨"CountyCream", "holds", "(II)Z"⟩, "CountyCream"), ("CountyCream$Blend", 78, ⟨"CountyCream", "cut", "(JJ)J"⟩, "CountyCream"), ("CountyCream$Yard", 38, ⟨"CountyCream", "holds", "(II)Z"⟩, "CountyCream"), ("CountyCream$Yard", 52, ⟨"CountyCream", "milesBetween", "(LCountyCream$Rows;ILCountyCream$Rows;I)I"⟩, "CountyCream")]
def q_NW (U : State) : Prop := (∀ t ∈ q_nx, va_Nw (.methodLinkNest t.1 t.2.1 t.2.2.1 t.2.2.2) U) ∧ va_AO "CountyCream$House" U
theorem q_NW.warm {s U : State} (hW : s.WarmedH U.vm) (h : q_NW s) : q_NW U := ⟨fun t ht => va_Nw.warmM hW (h.1 t ht), h.2.moved hW.alike⟩
theorem q_NW.same {u U : State} (hv : u.vm = U.vm) (h : q_NW u) : q_NW U := ⟨fun t ht => va_Nw.same rfl hv (h.1 t ht), h.2.moved (by rw [← hv]; exact Vm.Alike.refl _)⟩
def q_Cx (Y : q_Y) (sc : Option (Nat × (Nat → Int32))) (p : Program) (l : Launch) (e : Env) (s : State) (m : MethodId) (args : Array Value) (below : List Frame) (meth : Method) (c : Code) (lo sb : Nat) (D : va_G) (E : Nat → ClassId) : Prop :=
  p.tables.exec = Jvm.exec ∧ c.code = q_cd Y ∧ c.maxLocals = q_ml Y ∧ s.vm.findClass (q_nm Y).cls = some m.cls ∧ ((q_nm Y).name = "<init>" → meth.name = "<init>") ∧ (∀ w ∈ q_tbl, w.before args s = true) ∧ q_NW s ∧ va_K D vwCl (q_tys E) s ∧ lo ≤ s.heap.size ∧
    (∀ (L : Nat) (xs : Nat → Int32), sc = some (L, xs) → va_X sb L xs s s.heap ∧ sb < lo)
def q_ri : Option Value → Instr
  | none => .return_
  | some (.int _) => .ireturn
  | some (.long _) => .lreturn
  | _ => .areturn
def q_okr (rt : Option FieldType) : Option Value → Prop
  | none => rt = none
  | some (.int z) => rt = some .int ∨ (rt = some .boolean ∧ (z = 0 ∨ z = 1))
  | some (.long _) => rt = some .long
  | _ => False
def q_En (Y : q_Y) (v : Option Value) (M' : q_Mem) (p : Program) (l : Launch) (e : Env) (s : State) (m : MethodId) (args : Array Value) (below : List Frame) (meth : Method) (c : Code) (lo sb : Nat) (D : va_G) (E : Nat → ClassId) (Q : State → Prop) : Prop :=
  ∀ (H : Heap) (locs : List Loc) (k n : Nat) (ls : Array Slot) (pc : Nat), va_P D vwCl (q_ws E lo M') H → va_S (fun q => lo ≤ q) s.heap H locs → H.size = lo + M'.1 → H.size = s.heap.size + q_mc Y → k ≤ q_mc Y → n ≤ q_ms Y → q_okr (q_rt Y) v → decode (q_cd Y) pc = .ok (q_ri v, 1) →
    W p l e (q_rm Y) s m args below meth c H locs k n Q (F0 m pc ls (v.toList.map (q_sh lo sb)))
def q_St (Y : q_Y) (s : State) (lo sb : Nat) (D : va_G) (E : Nat → ClassId) (k : Nat) (ls : List (Nat × Value)) (M : q_Mem) (H : Heap) (locs : List Loc) (la : Array Slot) : Prop :=
  va_P D vwCl (q_ws E lo M) H ∧ va_S (fun q => lo ≤ q) s.heap H locs ∧ lo + M.1 = s.heap.size + k ∧ lv_has la (q_ml Y) (ls.map (q_shp lo sb))
def q_V0 (Y : q_Y) (sc : Option (Nat × (Nat → Int32))) (v : Option Value) (M' : q_Mem) (k n pc : Nat) (ls : List (Nat × Value)) (st : List Value) (M : q_Mem) : Prop :=
  ∀ (p : Program) (l : Launch) (e : Env) (s : State) (m : MethodId) (args : Array Value) (below : List Frame) (meth : Method) (c : Code) (lo sb : Nat) (D : va_G) (E : Nat → ClassId) (Q : State → Prop),
    q_Cx Y sc p l e s m args below meth c lo sb D E → q_En Y v M' p l e s m args below meth c lo sb D E Q →
    ∀ (H : Heap) (locs : List Loc) (la : Array Slot), q_St Y s lo sb D E k ls M H locs la → W p l e (q_rm Y) s m args below meth c H locs k n Q (F0 m pc la (st.map (q_sh lo sb)))
def q_V {α : Type} (Y : q_Y) (sc : Option (Nat × (Nat → Int32))) (φ : α → Option Value × q_Mem) (k n pc : Nat) (ls : List (Nat × Value)) (st : List Value) (M : q_Mem) (r : Option α) : Prop :=
  ∀ x : α, r = some x → q_V0 Y sc (φ x).1 (φ x).2 k n pc ls st M
section QR
variable {p : Program} {l : Launch} {e : Env} {R : Room} {s : State} {m : MethodId} {args : Array Value} {below : List Frame} {meth : Method} {c : Code} {H : Heap} {locs : List Loc} {cells slots : Nat} {Q : State → Prop}
/-- the heap's size is told by the book of new cells -/
theorem q_size {g : JFrame} (h : H.size ≤ s.heap.size + cells → W p l e R s m args below meth c H locs cells slots Q g) : W p l e R s m args below meth c H locs cells slots Q g := by
  intro T hT X
  refine h ?_ T hT X
  rw [← hT]
  exact X.same.2.2.1
theorem q_top {D : va_G} {E : Nat → ClassId} {lo k : Nat} {M : q_Mem} {H0 : Heap} {A : Nat → Prop} (hP : va_P D vwCl (q_ws E lo M) H) (hS : va_S A H0 H locs) (hlo : lo ≤ H0.size) (hk : lo + M.1 = H0.size + k) (hz : H.size ≤ H0.size + k) : H.size = lo + M.1 := by
  have h1 : lo + M.1 ≤ H.size := by
    by_cases h0 : M.1 = 0
    · have := hS.1; omega
    · have h2 := (hP (M.1 - 1) _ (q_ws_at (by omega))).lt
      have h3 : lo + (M.1 - 1) < H.size := h2
      omega
  omega
end QR
section QV
variable {Y : q_Y} {sc : Option (Nat × (Nat → Int32))} {v : Option Value} {M' M : q_Mem} {k n pc : Nat} {ls : List (Nat × Value)} {st : List Value} {α : Type} {φ : α → Option Value × q_Mem} {r : Option α}
theorem q_none {α : Type} {φ : α → Option Value × q_Mem} : q_V Y sc φ k n pc ls st M none := fun x h => by cases h
theorem q_pick (ls : List (Nat × Value)) (lo sb : Nat) : ∀ ks : List Nat, lv_pick (ls.map (q_shp lo sb)) ks = (lv_pick ls ks).map (q_shp lo sb)
  | [] => rfl
  | j :: js => by
    have ih := q_pick ls lo sb js
    unfold lv_pick at ih ⊢
    rw [List.filterMap_cons, List.filterMap_cons, List.getElem?_map]
    cases hj : ls[j]? with
    | none => simpa [hj] using ih
    | some q => simpa [hj] using ih
theorem q_sub {ls' : List (Nat × Value)} (ks : List Nat) (hl : lv_pick ls ks = ls') (h : q_V Y sc φ k n pc ls' st M r) : q_V Y sc φ k n pc ls st M r := by
  intro x hx p l e s m args below meth c lo sb D E Q C N H locs la S
  refine h x hx p l e s m args below meth c lo sb D E Q C N H locs la ⟨S.1, S.2.1, S.2.2.1, lv_sub S.2.2.2 ks ?_⟩
  rw [← hl]
  exact q_pick ls lo sb ks

theorem q_iconst {i : Int} {x : Int32} (hd : decode (q_cd Y) pc = .ok (.iconst i, 1)) (hv : Int32.ofInt i = x) (h : q_V Y sc φ k n (pc + 1) ls (.int x :: st) M r) : q_V Y sc φ k n pc ls st M r := by
  intro x0 hx0 p l e s m args below meth c lo sb D E Q C N H locs la S
  exact lv_iconst C.1 C.2.1 hd hv (h x0 hx0 p l e s m args below meth c lo sb D E Q C N H locs la S)
theorem q_bipush {i : Int} {x : Int32} (hd : decode (q_cd Y) pc = .ok (.bipush i, 2)) (hv : (Int8.ofInt i).toInt32 = x) (h : q_V Y sc φ k n (pc + 2) ls (.int x :: st) M r) : q_V Y sc φ k n pc ls st M r := by
  intro x0 hx0 p l e s m args below meth c lo sb D E Q C N H locs la S
  exact lv_bipush C.1 C.2.1 hd hv (h x0 hx0 p l e s m args below meth c lo sb D E Q C N H locs la S)
theorem q_sipush {i : Int} {x : Int32} (hd : decode (q_cd Y) pc = .ok (.sipush i, 3)) (hv : (Int16.ofInt i).toInt32 = x) (h : q_V Y sc φ k n (pc + 3) ls (.int x :: st) M r) : q_V Y sc φ k n pc ls st M r := by
  intro x0 hx0 p l e s m args below meth c lo sb D E Q C N H locs la S
  exact lv_sipush C.1 C.2.1 hd hv (h x0 hx0 p l e s m args below meth c lo sb D E Q C N H locs la S)
theorem q_lconst {i : Fin 2} {x : Int64} (hd : decode (q_cd Y) pc = .ok (.lconst i, 1)) (hv : Int64.ofNat (i : Nat) = x) (h : q_V Y sc φ k n (pc + 1) ls (.long x :: st) M r) : q_V Y sc φ k n pc ls st M r := by
  intro x0 hx0 p l e s m args below meth c lo sb D E Q C N H locs la S
  exact lv_lconst C.1 C.2.1 hd hv (h x0 hx0 p l e s m args below meth c lo sb D E Q C N H locs la S)
theorem q_ldc {i : Nat} {x : Int32} (hw : Cond.constant (q_nm Y).cls i x ∈ q_tbl) (hd : decode (q_cd Y) pc = .ok (.ldc i, 2)) (h : q_V Y sc φ k n (pc + 2) ls (.int x :: st) M r) : q_V Y sc φ k n pc ls st M r := by
  intro x0 hx0 p l e s m args below meth c lo sb D E Q C N H locs la S
  exact lv_ldc C.1 C.2.1 C.2.2.2.1 (C.2.2.2.2.2.1 _ hw) hd (h x0 hx0 p l e s m args below meth c lo sb D E Q C N H locs la S)
theorem q_ldcw {i : Nat} {x : Int32} (hw : Cond.constant (q_nm Y).cls i x ∈ q_tbl) (hd : decode (q_cd Y) pc = .ok (.ldc_w i, 3)) (h : q_V Y sc φ k n (pc + 3) ls (.int x :: st) M r) : q_V Y sc φ k n pc ls st M r := by
  intro x0 hx0 p l e s m args below meth c lo sb D E Q C N H locs la S
  exact lv_ldcw C.1 C.2.1 C.2.2.2.1 (C.2.2.2.2.2.1 _ hw) hd (h x0 hx0 p l e s m args below meth c lo sb D E Q C N H locs la S)
theorem q_ldc2 {i : Nat} {x : Int64} (hw : Cond.constantLong (q_nm Y).cls i x ∈ q_tbl) (hd : decode (q_cd Y) pc = .ok (.ldc2_w i, 3)) (h : q_V Y sc φ k n (pc + 3) ls (.long x :: st) M r) : q_V Y sc φ k n pc ls st M r := by
  intro x0 hx0 p l e s m args below meth c lo sb D E Q C N H locs la S
  exact lv_ldc2 C.1 C.2.1 C.2.2.2.1 (C.2.2.2.2.2.1 _ hw) hd (h x0 hx0 p l e s m args below meth c lo sb D E Q C N H locs la S)
theorem q_iload_n {i : Fin 4} (j : Nat) {x : Int32} (hd : decode (q_cd Y) pc = .ok (.iload_n i, 1)) (hk : ls[j]? = some ((i : Nat), .int x)) (h : q_V Y sc φ k n (pc + 1) ls (.int x :: st) M r) : q_V Y sc φ k n pc ls st M r := by
  intro x0 hx0 p l e s m args below meth c lo sb D E Q C N H locs la S
  exact lv_iload_n C.1 C.2.1 hd rfl (by have := congrArg (Option.map (q_shp lo sb)) hk; rw [← List.getElem?_map] at this; exact lv_at S.2.2.2 j this) (h x0 hx0 p l e s m args below meth c lo sb D E Q C N H locs la S)
theorem q_iload {i : Nat} (j : Nat) {x : Int32} (hd : decode (q_cd Y) pc = .ok (.iload i, 2)) (hk : ls[j]? = some (i, .int x)) (h : q_V Y sc φ k n (pc + 2) ls (.int x :: st) M r) : q_V Y sc φ k n pc ls st M r := by
  intro x0 hx0 p l e s m args below meth c lo sb D E Q C N H locs la S
  exact lv_iload C.1 C.2.1 hd (by have := congrArg (Option.map (q_shp lo sb)) hk; rw [← List.getElem?_map] at this; exact lv_at S.2.2.2 j this) (h x0 hx0 p l e s m args below meth c lo sb D E Q C N H locs la S)
theorem q_lload_n {i : Fin 4} (j : Nat) {x : Int64} (hd : decode (q_cd Y) pc = .ok (.lload_n i, 1)) (hk : ls[j]? = some ((i : Nat), .long x)) (h : q_V Y sc φ k n (pc + 1) ls (.long x :: st) M r) : q_V Y sc φ k n pc ls st M r := by
  intro x0 hx0 p l e s m args below meth c lo sb D E Q C N H locs la S
  exact lv_lload_n C.1 C.2.1 hd rfl (by have := congrArg (Option.map (q_shp lo sb)) hk; rw [← List.getElem?_map] at this; exact lv_at S.2.2.2 j this) (h x0 hx0 p l e s m args below meth c lo sb D E Q C N H locs la S)
theorem q_lload {i : Nat} (j : Nat) {x : Int64} (hd : decode (q_cd Y) pc = .ok (.lload i, 2)) (hk : ls[j]? = some (i, .long x)) (h : q_V Y sc φ k n (pc + 2) ls (.long x :: st) M r) : q_V Y sc φ k n pc ls st M r := by
  intro x0 hx0 p l e s m args below meth c lo sb D E Q C N H locs la S
  exact lv_lload C.1 C.2.1 hd (by have := congrArg (Option.map (q_shp lo sb)) hk; rw [← List.getElem?_map] at this; exact lv_at S.2.2.2 j this) (h x0 hx0 p l e s m args below meth c lo sb D E Q C N H locs la S)
theorem q_aload_n {i : Fin 4} (j : Nat) {x : Nat} (hd : decode (q_cd Y) pc = .ok (.aload_n i, 1)) (hk : ls[j]? = some ((i : Nat), .ref x)) (h : q_V Y sc φ k n (pc + 1) ls (.ref x :: st) M r) : q_V Y sc φ k n pc ls st M r := by
  intro x0 hx0 p l e s m args below meth c lo sb D E Q C N H locs la S
  exact lv_aload_n C.1 C.2.1 hd rfl (by have := congrArg (Option.map (q_shp lo sb)) hk; rw [← List.getElem?_map] at this; exact lv_at S.2.2.2 j this) (h x0 hx0 p l e s m args below meth c lo sb D E Q C N H locs la S)
theorem q_aload {i : Nat} (j : Nat) {x : Nat} (hd : decode (q_cd Y) pc = .ok (.aload i, 2)) (hk : ls[j]? = some (i, .ref x)) (h : q_V Y sc φ k n (pc + 2) ls (.ref x :: st) M r) : q_V Y sc φ k n pc ls st M r := by
  intro x0 hx0 p l e s m args below meth c lo sb D E Q C N H locs la S
  exact lv_aload C.1 C.2.1 hd (by have := congrArg (Option.map (q_shp lo sb)) hk; rw [← List.getElem?_map] at this; exact lv_at S.2.2.2 j this) (h x0 hx0 p l e s m args below meth c lo sb D E Q C N H locs la S)
theorem q_aload_s {i : Fin 4} (j : Nat) {x : UInt32} (hd : decode (q_cd Y) pc = .ok (.aload_n i, 1)) (hk : ls[j]? = some ((i : Nat), .float x)) (h : q_V Y sc φ k n (pc + 1) ls (.float x :: st) M r) : q_V Y sc φ k n pc ls st M r := by
  intro x0 hx0 p l e s m args below meth c lo sb D E Q C N H locs la S
  exact lv_aload_n C.1 C.2.1 hd rfl (by have := congrArg (Option.map (q_shp lo sb)) hk; rw [← List.getElem?_map] at this; exact lv_at S.2.2.2 j this) (h x0 hx0 p l e s m args below meth c lo sb D E Q C N H locs la S)
theorem q_filt {lo sb : Nat} (f : Nat → Nat → Bool) (ls : List (Nat × Value)) : ((ls.map (q_shp lo sb)).filter fun q => f q.1 q.2.category) = (ls.filter fun q => f q.1 q.2.category).map (q_shp lo sb) := by
  induction ls with
  | nil => rfl
  | cons q l ih =>
    have e : f (q_shp lo sb q).1 (q_shp lo sb q).2.category = f q.1 q.2.category := by show f q.1 (q_sh lo sb q.2).category = _; rw [q_sh_cat]
    rw [List.map_cons, List.filter_cons, List.filter_cons, e, ih]
    split <;> rfl
theorem q_istore_n {i : Fin 4} {x : Int32} {ls' : List (Nat × Value)} (hd : decode (q_cd Y) pc = .ok (.istore_n i, 1)) (hn : (i : Nat) < q_ml Y) (hl : ((i : Nat), Value.int x) :: (ls.filter (fun q => !(q.1 == (i : Nat)) && !(q.1 + 1 == (i : Nat) && q.2.category == 2))) = ls') (h : q_V Y sc φ k n (pc + 1) ls' st M r) : q_V Y sc φ k n pc ls (.int x :: st) M r := by
  intro x0 hx0 p l e s m args below meth c lo sb D E Q C N H locs la S
  refine lv_istore_n C.1 C.2.1 hd rfl S.2.2.2 hn rfl (fun la' hl' => h x0 hx0 p l e s m args below meth c lo sb D E Q C N H locs la' ⟨S.1, S.2.1, S.2.2.1, ?_⟩)
  rw [← hl, List.map_cons, ← q_filt (fun a b => !(a == (i : Nat)) && !(a + 1 == (i : Nat) && b == 2))]
  exact hl'
theorem q_istore {i : Nat} {x : Int32} {ls' : List (Nat × Value)} (hd : decode (q_cd Y) pc = .ok (.istore i, 2)) (hn : i < q_ml Y) (hl : (i, Value.int x) :: (ls.filter (fun q => !(q.1 == i) && !(q.1 + 1 == i && q.2.category == 2))) = ls') (h : q_V Y sc φ k n (pc + 2) ls' st M r) : q_V Y sc φ k n pc ls (.int x :: st) M r := by
  intro x0 hx0 p l e s m args below meth c lo sb D E Q C N H locs la S
  refine lv_istore C.1 C.2.1 hd S.2.2.2 hn rfl (fun la' hl' => h x0 hx0 p l e s m args below meth c lo sb D E Q C N H locs la' ⟨S.1, S.2.1, S.2.2.1, ?_⟩)
  rw [← hl, List.map_cons, ← q_filt (fun a b => !(a == i) && !(a + 1 == i && b == 2))]
  exact hl'
theorem q_lstore_n {i : Fin 4} {x : Int64} {ls' : List (Nat × Value)} (hd : decode (q_cd Y) pc = .ok (.lstore_n i, 1)) (hn : (i : Nat) + 1 < q_ml Y) (hl : ((i : Nat), Value.long x) :: (ls.filter (fun q => !(q.1 == (i : Nat)) && (!(q.1 == (i : Nat) + 1) && !(q.1 + 1 == (i : Nat) && q.2.category == 2)))) = ls') (h : q_V Y sc φ k n (pc + 1) ls' st M r) : q_V Y sc φ k n pc ls (.long x :: st) M r := by
  intro x0 hx0 p l e s m args below meth c lo sb D E Q C N H locs la S
  refine lv_lstore_n C.1 C.2.1 hd rfl S.2.2.2 hn rfl (fun la' hl' => h x0 hx0 p l e s m args below meth c lo sb D E Q C N H locs la' ⟨S.1, S.2.1, S.2.2.1, ?_⟩)
  rw [← hl, List.map_cons, ← q_filt (fun a b => !(a == (i : Nat)) && (!(a == (i : Nat) + 1) && !(a + 1 == (i : Nat) && b == 2)))]
  exact hl'
theorem q_lstore {i : Nat} {x : Int64} {ls' : List (Nat × Value)} (hd : decode (q_cd Y) pc = .ok (.lstore i, 2)) (hn : i + 1 < q_ml Y) (hl : (i, Value.long x) :: (ls.filter (fun q => !(q.1 == i) && (!(q.1 == i + 1) && !(q.1 + 1 == i && q.2.category == 2)))) = ls') (h : q_V Y sc φ k n (pc + 2) ls' st M r) : q_V Y sc φ k n pc ls (.long x :: st) M r := by
  intro x0 hx0 p l e s m args below meth c lo sb D E Q C N H locs la S
  refine lv_lstore C.1 C.2.1 hd S.2.2.2 hn rfl (fun la' hl' => h x0 hx0 p l e s m args below meth c lo sb D E Q C N H locs la' ⟨S.1, S.2.1, S.2.2.1, ?_⟩)
  rw [← hl, List.map_cons, ← q_filt (fun a b => !(a == i) && (!(a == i + 1) && !(a + 1 == i && b == 2)))]
  exact hl'
theorem q_astore_n {i : Fin 4} {x : Nat} {ls' : List (Nat × Value)} (hd : decode (q_cd Y) pc = .ok (.astore_n i, 1)) (hn : (i : Nat) < q_ml Y) (hl : ((i : Nat), Value.ref x) :: (ls.filter (fun q => !(q.1 == (i : Nat)) && !(q.1 + 1 == (i : Nat) && q.2.category == 2))) = ls') (h : q_V Y sc φ k n (pc + 1) ls' st M r) : q_V Y sc φ k n pc ls (.ref x :: st) M r := by
  intro x0 hx0 p l e s m args below meth c lo sb D E Q C N H locs la S
  refine lv_astore_n C.1 C.2.1 hd rfl S.2.2.2 hn rfl (fun la' hl' => h x0 hx0 p l e s m args below meth c lo sb D E Q C N H locs la' ⟨S.1, S.2.1, S.2.2.1, ?_⟩)
  rw [← hl, List.map_cons, ← q_filt (fun a b => !(a == (i : Nat)) && !(a + 1 == (i : Nat) && b == 2))]
  exact hl'
theorem q_astore {i : Nat} {x : Nat} {ls' : List (Nat × Value)} (hd : decode (q_cd Y) pc = .ok (.astore i, 2)) (hn : i < q_ml Y) (hl : (i, Value.ref x) :: (ls.filter (fun q => !(q.1 == i) && !(q.1 + 1 == i && q.2.category == 2))) = ls') (h : q_V Y sc φ k n (pc + 2) ls' st M r) : q_V Y sc φ k n pc ls (.ref x :: st) M r := by
  intro x0 hx0 p l e s m args below meth c lo sb D E Q C N H locs la S
  refine lv_astore C.1 C.2.1 hd S.2.2.2 hn rfl (fun la' hl' => h x0 hx0 p l e s m args below meth c lo sb D E Q C N H locs la' ⟨S.1, S.2.1, S.2.2.1, ?_⟩)
  rw [← hl, List.map_cons, ← q_filt (fun a b => !(a == i) && !(a + 1 == i && b == 2))]
  exact hl'
theorem q_iinc {i : Nat} (j : Nat) {d : Int} {x y : Int32} {ls' : List (Nat × Value)} (hd : decode (q_cd Y) pc = .ok (.iinc i d, 3)) (hk : ls[j]? = some (i, .int x)) (hv : x + Int32.ofInt d = y) (hn : i < q_ml Y) (hl : (i, Value.int y) :: (ls.filter (fun q => !(q.1 == i) && !(q.1 + 1 == i && q.2.category == 2))) = ls') (h : q_V Y sc φ k n (pc + 3) ls' st M r) : q_V Y sc φ k n pc ls st M r := by
  intro x0 hx0 p l e s m args below meth c lo sb D E Q C N H locs la S
  refine lv_iinc (k := j) C.1 C.2.1 hd S.2.2.2 (by rw [List.getElem?_map, hk]; rfl) hv hn rfl (fun la' hl' => h x0 hx0 p l e s m args below meth c lo sb D E Q C N H locs la' ⟨S.1, S.2.1, S.2.2.1, ?_⟩)
  rw [← hl, List.map_cons, ← q_filt (fun a b => !(a == i) && !(a + 1 == i && b == 2))]
  exact hl'
theorem q_iadd {x y : Int32} (hd : decode (q_cd Y) pc = .ok (.iadd, 1)) (h : q_V Y sc φ k n (pc + 1) ls (.int (x + y) :: st) M r) : q_V Y sc φ k n pc ls (.int y :: .int x :: st) M r := by
  intro x0 hx0 p l e s m args below meth c lo sb D E Q C N H locs la S
  exact lv_iadd C.1 C.2.1 hd (h x0 hx0 p l e s m args below meth c lo sb D E Q C N H locs la S)
theorem q_isub {x y : Int32} (hd : decode (q_cd Y) pc = .ok (.isub, 1)) (h : q_V Y sc φ k n (pc + 1) ls (.int (x - y) :: st) M r) : q_V Y sc φ k n pc ls (.int y :: .int x :: st) M r := by
  intro x0 hx0 p l e s m args below meth c lo sb D E Q C N H locs la S
  exact lv_isub C.1 C.2.1 hd (h x0 hx0 p l e s m args below meth c lo sb D E Q C N H locs la S)
theorem q_imul {x y : Int32} (hd : decode (q_cd Y) pc = .ok (.imul, 1)) (h : q_V Y sc φ k n (pc + 1) ls (.int (x * y) :: st) M r) : q_V Y sc φ k n pc ls (.int y :: .int x :: st) M r := by
  intro x0 hx0 p l e s m args below meth c lo sb D E Q C N H locs la S
  exact lv_imul C.1 C.2.1 hd (h x0 hx0 p l e s m args below meth c lo sb D E Q C N H locs la S)
theorem q_iand {x y : Int32} (hd : decode (q_cd Y) pc = .ok (.iand, 1)) (h : q_V Y sc φ k n (pc + 1) ls (.int (x &&& y) :: st) M r) : q_V Y sc φ k n pc ls (.int y :: .int x :: st) M r := by
  intro x0 hx0 p l e s m args below meth c lo sb D E Q C N H locs la S
  exact lv_iand C.1 C.2.1 hd (h x0 hx0 p l e s m args below meth c lo sb D E Q C N H locs la S)
theorem q_ior {x y : Int32} (hd : decode (q_cd Y) pc = .ok (.ior, 1)) (h : q_V Y sc φ k n (pc + 1) ls (.int (x ||| y) :: st) M r) : q_V Y sc φ k n pc ls (.int y :: .int x :: st) M r := by
  intro x0 hx0 p l e s m args below meth c lo sb D E Q C N H locs la S
  exact lv_ior C.1 C.2.1 hd (h x0 hx0 p l e s m args below meth c lo sb D E Q C N H locs la S)
theorem q_ixor {x y : Int32} (hd : decode (q_cd Y) pc = .ok (.ixor, 1)) (h : q_V Y sc φ k n (pc + 1) ls (.int (x ^^^ y) :: st) M r) : q_V Y sc φ k n pc ls (.int y :: .int x :: st) M r := by
  intro x0 hx0 p l e s m args below meth c lo sb D E Q C N H locs la S
  exact lv_ixor C.1 C.2.1 hd (h x0 hx0 p l e s m args below meth c lo sb D E Q C N H locs la S)
theorem q_ishl {x y : Int32} (hd : decode (q_cd Y) pc = .ok (.ishl, 1)) (h : q_V Y sc φ k n (pc + 1) ls (.int (x <<< (y &&& 31)) :: st) M r) : q_V Y sc φ k n pc ls (.int y :: .int x :: st) M r := by
  intro x0 hx0 p l e s m args below meth c lo sb D E Q C N H locs la S
  exact lv_ishl C.1 C.2.1 hd (h x0 hx0 p l e s m args below meth c lo sb D E Q C N H locs la S)
theorem q_ishr {x y : Int32} (hd : decode (q_cd Y) pc = .ok (.ishr, 1)) (h : q_V Y sc φ k n (pc + 1) ls (.int (x >>> (y &&& 31)) :: st) M r) : q_V Y sc φ k n pc ls (.int y :: .int x :: st) M r := by
  intro x0 hx0 p l e s m args below meth c lo sb D E Q C N H locs la S
  exact lv_ishr C.1 C.2.1 hd (h x0 hx0 p l e s m args below meth c lo sb D E Q C N H locs la S)
theorem q_ladd {x y : Int64} (hd : decode (q_cd Y) pc = .ok (.ladd, 1)) (h : q_V Y sc φ k n (pc + 1) ls (.long (x + y) :: st) M r) : q_V Y sc φ k n pc ls (.long y :: .long x :: st) M r := by
  intro x0 hx0 p l e s m args below meth c lo sb D E Q C N H locs la S
  exact lv_ladd C.1 C.2.1 hd (h x0 hx0 p l e s m args below meth c lo sb D E Q C N H locs la S)
theorem q_lsub {x y : Int64} (hd : decode (q_cd Y) pc = .ok (.lsub, 1)) (h : q_V Y sc φ k n (pc + 1) ls (.long (x - y) :: st) M r) : q_V Y sc φ k n pc ls (.long y :: .long x :: st) M r := by
  intro x0 hx0 p l e s m args below meth c lo sb D E Q C N H locs la S
  exact lv_lsub C.1 C.2.1 hd (h x0 hx0 p l e s m args below meth c lo sb D E Q C N H locs la S)
theorem q_lmul {x y : Int64} (hd : decode (q_cd Y) pc = .ok (.lmul, 1)) (h : q_V Y sc φ k n (pc + 1) ls (.long (x * y) :: st) M r) : q_V Y sc φ k n pc ls (.long y :: .long x :: st) M r := by
  intro x0 hx0 p l e s m args below meth c lo sb D E Q C N H locs la S
  exact lv_lmul C.1 C.2.1 hd (h x0 hx0 p l e s m args below meth c lo sb D E Q C N H locs la S)
theorem q_ineg {x : Int32} (hd : decode (q_cd Y) pc = .ok (.ineg, 1)) (h : q_V Y sc φ k n (pc + 1) ls (.int (-x) :: st) M r) : q_V Y sc φ k n pc ls (.int x :: st) M r := by
  intro x0 hx0 p l e s m args below meth c lo sb D E Q C N H locs la S
  exact lv_ineg C.1 C.2.1 hd (h x0 hx0 p l e s m args below meth c lo sb D E Q C N H locs la S)
theorem q_lneg {x : Int64} (hd : decode (q_cd Y) pc = .ok (.lneg, 1)) (h : q_V Y sc φ k n (pc + 1) ls (.long (-x) :: st) M r) : q_V Y sc φ k n pc ls (.long x :: st) M r := by
  intro x0 hx0 p l e s m args below meth c lo sb D E Q C N H locs la S
  exact lv_lneg C.1 C.2.1 hd (h x0 hx0 p l e s m args below meth c lo sb D E Q C N H locs la S)
theorem q_i2l {x : Int32} (hd : decode (q_cd Y) pc = .ok (.i2l, 1)) (h : q_V Y sc φ k n (pc + 1) ls (.long x.toInt64 :: st) M r) : q_V Y sc φ k n pc ls (.int x :: st) M r := by
  intro x0 hx0 p l e s m args below meth c lo sb D E Q C N H locs la S
  exact lv_i2l C.1 C.2.1 hd rfl (h x0 hx0 p l e s m args below meth c lo sb D E Q C N H locs la S)
theorem q_l2i {x : Int64} (hd : decode (q_cd Y) pc = .ok (.l2i, 1)) (h : q_V Y sc φ k n (pc + 1) ls (.int x.toInt32 :: st) M r) : q_V Y sc φ k n pc ls (.long x :: st) M r := by
  intro x0 hx0 p l e s m args below meth c lo sb D E Q C N H locs la S
  exact lv_l2i C.1 C.2.1 hd rfl (h x0 hx0 p l e s m args below meth c lo sb D E Q C N H locs la S)
theorem q_iushr {x y : Int32} (hd : decode (q_cd Y) pc = .ok (.iushr, 1)) (h : q_V Y sc φ k n (pc + 1) ls (.int (x.toUInt32 >>> (y.toUInt32 &&& Int32.toUInt32 31)).toInt32 :: st) M r) : q_V Y sc φ k n pc ls (.int y :: .int x :: st) M r := by
  intro x0 hx0 p l e s m args below meth c lo sb D E Q C N H locs la S
  exact lv_iushr C.1 C.2.1 hd rfl (h x0 hx0 p l e s m args below meth c lo sb D E Q C N H locs la S)
theorem q_lshl {x : Int64} {y : Int32} (hd : decode (q_cd Y) pc = .ok (.lshl, 1)) (h : q_V Y sc φ k n (pc + 1) ls (.long (x <<< (y.toInt64 &&& 63)) :: st) M r) : q_V Y sc φ k n pc ls (.int y :: .long x :: st) M r := by
  intro x0 hx0 p l e s m args below meth c lo sb D E Q C N H locs la S
  exact lv_lshl C.1 C.2.1 hd rfl (h x0 hx0 p l e s m args below meth c lo sb D E Q C N H locs la S)
theorem q_lshr {x : Int64} {y : Int32} (hd : decode (q_cd Y) pc = .ok (.lshr, 1)) (h : q_V Y sc φ k n (pc + 1) ls (.long (x >>> (y.toInt64 &&& 63)) :: st) M r) : q_V Y sc φ k n pc ls (.int y :: .long x :: st) M r := by
  intro x0 hx0 p l e s m args below meth c lo sb D E Q C N H locs la S
  exact lv_lshr C.1 C.2.1 hd rfl (h x0 hx0 p l e s m args below meth c lo sb D E Q C N H locs la S)
theorem q_idiv {F : Int32 → Option α} {x y : Int32} (hd : decode (q_cd Y) pc = .ok (.idiv, 1)) (h : ∀ z, q_dv x y = some z → q_V Y sc φ k n (pc + 1) ls (.int z :: st) M (F z)) : q_V Y sc φ k n pc ls (.int y :: .int x :: st) M (Option.bind (q_dv x y) F) := by
  intro x0 hx0 p l e s m args below meth c lo sb D E Q C N H locs la S
  obtain ⟨z, hz, hF⟩ := Option.bind_eq_some_iff.mp hx0
  have h1 := h z hz x0 hF p l e s m args below meth c lo sb D E Q C N H locs la S
  unfold q_dv at hz
  split at hz
  · cases hz
  · cases hz
    exact lv_idiv C.1 C.2.1 hd (by assumption) h1
theorem q_ldiv {F : Int64 → Option α} {x y : Int64} (hd : decode (q_cd Y) pc = .ok (.ldiv, 1)) (h : ∀ z, q_ldv x y = some z → q_V Y sc φ k n (pc + 1) ls (.long z :: st) M (F z)) : q_V Y sc φ k n pc ls (.long y :: .long x :: st) M (Option.bind (q_ldv x y) F) := by
  intro x0 hx0 p l e s m args below meth c lo sb D E Q C N H locs la S
  obtain ⟨z, hz, hF⟩ := Option.bind_eq_some_iff.mp hx0
  have h1 := h z hz x0 hF p l e s m args below meth c lo sb D E Q C N H locs la S
  unfold q_ldv at hz
  split at hz
  · cases hz
  · cases hz
    exact lv_ldiv C.1 C.2.1 hd (by assumption) h1
theorem q_lrem {F : Int64 → Option α} {x y : Int64} (hd : decode (q_cd Y) pc = .ok (.lrem, 1)) (h : ∀ z, q_lrm x y = some z → q_V Y sc φ k n (pc + 1) ls (.long z :: st) M (F z)) : q_V Y sc φ k n pc ls (.long y :: .long x :: st) M (Option.bind (q_lrm x y) F) := by
  intro x0 hx0 p l e s m args below meth c lo sb D E Q C N H locs la S
  obtain ⟨z, hz, hF⟩ := Option.bind_eq_some_iff.mp hx0
  have h1 := h z hz x0 hF p l e s m args below meth c lo sb D E Q C N H locs la S
  unfold q_lrm at hz
  split at hz
  · cases hz
  · cases hz
    exact lv_lrem C.1 C.2.1 hd (by assumption) h1
theorem q_cat {lo sb : Nat} {a : Value} {d : Nat} (h : a.category = d) : (q_sh lo sb a).category = d := by rw [q_sh_cat]; exact h
theorem q_dup {a : Value} (hd : decode (q_cd Y) pc = .ok (.dup, 1)) (ha : a.category = 1) (h : q_V Y sc φ k n (pc + 1) ls (a :: a :: st) M r) : q_V Y sc φ k n pc ls (a :: st) M r := by
  intro x0 hx0 p l e s m args below meth c lo sb D E Q C N H locs la S
  exact lv_dup C.1 C.2.1 hd (q_cat ha) (h x0 hx0 p l e s m args below meth c lo sb D E Q C N H locs la S)
theorem q_pop {a : Value} (hd : decode (q_cd Y) pc = .ok (.pop, 1)) (ha : a.category = 1) (h : q_V Y sc φ k n (pc + 1) ls st M r) : q_V Y sc φ k n pc ls (a :: st) M r := by
  intro x0 hx0 p l e s m args below meth c lo sb D E Q C N H locs la S
  exact lv_pop C.1 C.2.1 hd (q_cat ha) (h x0 hx0 p l e s m args below meth c lo sb D E Q C N H locs la S)
theorem q_pop2 {a : Value} (hd : decode (q_cd Y) pc = .ok (.pop2, 1)) (ha : a.category = 2) (h : q_V Y sc φ k n (pc + 1) ls st M r) : q_V Y sc φ k n pc ls (a :: st) M r := by
  intro x0 hx0 p l e s m args below meth c lo sb D E Q C N H locs la S
  exact lv_pop2_2 C.1 C.2.1 hd (q_cat ha) (h x0 hx0 p l e s m args below meth c lo sb D E Q C N H locs la S)
theorem q_dup2 {a d : Value} (hd : decode (q_cd Y) pc = .ok (.dup2, 1)) (ha : a.category = 1) (hb : d.category = 1) (h : q_V Y sc φ k n (pc + 1) ls (a :: d :: a :: d :: st) M r) : q_V Y sc φ k n pc ls (a :: d :: st) M r := by
  intro x0 hx0 p l e s m args below meth c lo sb D E Q C N H locs la S
  exact lv_dup2_11 C.1 C.2.1 hd (q_cat ha) (q_cat hb) (h x0 hx0 p l e s m args below meth c lo sb D E Q C N H locs la S)
theorem q_dup2L {a : Value} (hd : decode (q_cd Y) pc = .ok (.dup2, 1)) (ha : a.category = 2) (h : q_V Y sc φ k n (pc + 1) ls (a :: a :: st) M r) : q_V Y sc φ k n pc ls (a :: st) M r := by
  intro x0 hx0 p l e s m args below meth c lo sb D E Q C N H locs la S
  exact lv_dup2_2 C.1 C.2.1 hd (q_cat ha) (h x0 hx0 p l e s m args below meth c lo sb D E Q C N H locs la S)
theorem q_goto {off : Int} {tgt : Nat} (hd : decode (q_cd Y) pc = .ok (.goto off, 3)) (ht : (pc : Int) + off = (tgt : Int)) (h : q_V Y sc φ k n tgt ls st M r) : q_V Y sc φ k n pc ls st M r := by
  intro x0 hx0 p l e s m args below meth c lo sb D E Q C N H locs la S
  exact lv_goto C.1 C.2.1 hd ht (h x0 hx0 p l e s m args below meth c lo sb D E Q C N H locs la S)
theorem q_icmp_eq {x y : Int32} {off : Int} {tgt : Nat} {r2 : Option α} (hd : decode (q_cd Y) pc = .ok (.if_icmp .eq off, 3)) (ht : (pc : Int) + off = (tgt : Int)) (h1 : x = y → q_V Y sc φ k n tgt ls st M r) (h2 : ¬ x = y → q_V Y sc φ k n (pc + 3) ls st M r2) : q_V Y sc φ k n pc ls (.int y :: .int x :: st) M (if x = y then r else r2) := by
  intro x0 hx0 p l e s m args below meth c lo sb D E Q C N H locs la S
  have g1 : x = y → W p l e (q_rm Y) s m args below meth c H locs k n Q (F0 m tgt la (st.map (q_sh lo sb))) := fun z => h1 z x0 (by rw [if_pos z] at hx0; exact hx0) p l e s m args below meth c lo sb D E Q C N H locs la S
  have g2 : ¬ x = y → W p l e (q_rm Y) s m args below meth c H locs k n Q (F0 m (pc + 3) la (st.map (q_sh lo sb))) := fun z => h2 z x0 (by rw [if_neg z] at hx0; exact hx0) p l e s m args below meth c lo sb D E Q C N H locs la S
  exact lv_icmp_eq C.1 C.2.1 hd ht g1 g2
theorem q_if_eq {x : Int32} {off : Int} {tgt : Nat} {r2 : Option α} (hd : decode (q_cd Y) pc = .ok (.ifCond .eq off, 3)) (ht : (pc : Int) + off = (tgt : Int)) (h1 : x = 0 → q_V Y sc φ k n tgt ls st M r) (h2 : ¬ x = 0 → q_V Y sc φ k n (pc + 3) ls st M r2) : q_V Y sc φ k n pc ls (.int x :: st) M (if x = 0 then r else r2) := by
  intro x0 hx0 p l e s m args below meth c lo sb D E Q C N H locs la S
  have g1 : x = 0 → W p l e (q_rm Y) s m args below meth c H locs k n Q (F0 m tgt la (st.map (q_sh lo sb))) := fun z => h1 z x0 (by rw [if_pos z] at hx0; exact hx0) p l e s m args below meth c lo sb D E Q C N H locs la S
  have g2 : ¬ x = 0 → W p l e (q_rm Y) s m args below meth c H locs k n Q (F0 m (pc + 3) la (st.map (q_sh lo sb))) := fun z => h2 z x0 (by rw [if_neg z] at hx0; exact hx0) p l e s m args below meth c lo sb D E Q C N H locs la S
  exact lv_if_eq C.1 C.2.1 hd ht g1 g2
theorem q_lcmp_eq {x y : Int64} {off : Int} {tgt : Nat} {r2 : Option α} (hd : decode (q_cd Y) pc = .ok (.lcmp, 1)) (hd2 : decode (q_cd Y) (pc + 1) = .ok (.ifCond .eq off, 3)) (ht : ((pc + 1 : Nat) : Int) + off = (tgt : Int)) (h1 : x = y → q_V Y sc φ k n tgt ls st M r) (h2 : ¬ x = y → q_V Y sc φ k n (pc + 4) ls st M r2) : q_V Y sc φ k n pc ls (.long y :: .long x :: st) M (if x = y then r else r2) := by
  intro x0 hx0 p l e s m args below meth c lo sb D E Q C N H locs la S
  have g1 : x = y → W p l e (q_rm Y) s m args below meth c H locs k n Q (F0 m tgt la (st.map (q_sh lo sb))) := fun z => h1 z x0 (by rw [if_pos z] at hx0; exact hx0) p l e s m args below meth c lo sb D E Q C N H locs la S
  have g2 : ¬ x = y → W p l e (q_rm Y) s m args below meth c H locs k n Q (F0 m (pc + 4) la (st.map (q_sh lo sb))) := fun z => h2 z x0 (by rw [if_neg z] at hx0; exact hx0) p l e s m args below meth c lo sb D E Q C N H locs la S
  refine W.lcmp C.1 C.2.1 hd ?_
  exact lv_if_eq C.1 C.2.1 hd2 ht (fun z => g1 ((lg_cmp_eq x y).mp z)) (fun z => g2 (fun y' => z ((lg_cmp_eq x y).mpr y')))
theorem q_icmp_ne {x y : Int32} {off : Int} {tgt : Nat} {r2 : Option α} (hd : decode (q_cd Y) pc = .ok (.if_icmp .ne off, 3)) (ht : (pc : Int) + off = (tgt : Int)) (h1 : x = y → q_V Y sc φ k n (pc + 3) ls st M r) (h2 : ¬ x = y → q_V Y sc φ k n tgt ls st M r2) : q_V Y sc φ k n pc ls (.int y :: .int x :: st) M (if x = y then r else r2) := by
  intro x0 hx0 p l e s m args below meth c lo sb D E Q C N H locs la S
  have g1 : x = y → W p l e (q_rm Y) s m args below meth c H locs k n Q (F0 m (pc + 3) la (st.map (q_sh lo sb))) := fun z => h1 z x0 (by rw [if_pos z] at hx0; exact hx0) p l e s m args below meth c lo sb D E Q C N H locs la S
  have g2 : ¬ x = y → W p l e (q_rm Y) s m args below meth c H locs k n Q (F0 m tgt la (st.map (q_sh lo sb))) := fun z => h2 z x0 (by rw [if_neg z] at hx0; exact hx0) p l e s m args below meth c lo sb D E Q C N H locs la S
  exact lv_icmp_ne C.1 C.2.1 hd ht g2 g1
theorem q_if_ne {x : Int32} {off : Int} {tgt : Nat} {r2 : Option α} (hd : decode (q_cd Y) pc = .ok (.ifCond .ne off, 3)) (ht : (pc : Int) + off = (tgt : Int)) (h1 : x = 0 → q_V Y sc φ k n (pc + 3) ls st M r) (h2 : ¬ x = 0 → q_V Y sc φ k n tgt ls st M r2) : q_V Y sc φ k n pc ls (.int x :: st) M (if x = 0 then r else r2) := by
  intro x0 hx0 p l e s m args below meth c lo sb D E Q C N H locs la S
  have g1 : x = 0 → W p l e (q_rm Y) s m args below meth c H locs k n Q (F0 m (pc + 3) la (st.map (q_sh lo sb))) := fun z => h1 z x0 (by rw [if_pos z] at hx0; exact hx0) p l e s m args below meth c lo sb D E Q C N H locs la S
  have g2 : ¬ x = 0 → W p l e (q_rm Y) s m args below meth c H locs k n Q (F0 m tgt la (st.map (q_sh lo sb))) := fun z => h2 z x0 (by rw [if_neg z] at hx0; exact hx0) p l e s m args below meth c lo sb D E Q C N H locs la S
  exact lv_if_ne C.1 C.2.1 hd ht g2 g1
theorem q_lcmp_ne {x y : Int64} {off : Int} {tgt : Nat} {r2 : Option α} (hd : decode (q_cd Y) pc = .ok (.lcmp, 1)) (hd2 : decode (q_cd Y) (pc + 1) = .ok (.ifCond .ne off, 3)) (ht : ((pc + 1 : Nat) : Int) + off = (tgt : Int)) (h1 : x = y → q_V Y sc φ k n (pc + 4) ls st M r) (h2 : ¬ x = y → q_V Y sc φ k n tgt ls st M r2) : q_V Y sc φ k n pc ls (.long y :: .long x :: st) M (if x = y then r else r2) := by
  intro x0 hx0 p l e s m args below meth c lo sb D E Q C N H locs la S
  have g1 : x = y → W p l e (q_rm Y) s m args below meth c H locs k n Q (F0 m (pc + 4) la (st.map (q_sh lo sb))) := fun z => h1 z x0 (by rw [if_pos z] at hx0; exact hx0) p l e s m args below meth c lo sb D E Q C N H locs la S
  have g2 : ¬ x = y → W p l e (q_rm Y) s m args below meth c H locs k n Q (F0 m tgt la (st.map (q_sh lo sb))) := fun z => h2 z x0 (by rw [if_neg z] at hx0; exact hx0) p l e s m args below meth c lo sb D E Q C N H locs la S
  refine W.lcmp C.1 C.2.1 hd ?_
  exact lv_if_ne C.1 C.2.1 hd2 ht (fun z => g2 (fun y' => z ((lg_cmp_eq x y).mpr y'))) (fun z => g1 ((lg_cmp_eq x y).mp z))
theorem q_icmp_lt {x y : Int32} {off : Int} {tgt : Nat} {r2 : Option α} (hd : decode (q_cd Y) pc = .ok (.if_icmp .lt off, 3)) (ht : (pc : Int) + off = (tgt : Int)) (h1 : x < y → q_V Y sc φ k n tgt ls st M r) (h2 : ¬ x < y → q_V Y sc φ k n (pc + 3) ls st M r2) : q_V Y sc φ k n pc ls (.int y :: .int x :: st) M (if x < y then r else r2) := by
  intro x0 hx0 p l e s m args below meth c lo sb D E Q C N H locs la S
  have g1 : x < y → W p l e (q_rm Y) s m args below meth c H locs k n Q (F0 m tgt la (st.map (q_sh lo sb))) := fun z => h1 z x0 (by rw [if_pos z] at hx0; exact hx0) p l e s m args below meth c lo sb D E Q C N H locs la S
  have g2 : ¬ x < y → W p l e (q_rm Y) s m args below meth c H locs k n Q (F0 m (pc + 3) la (st.map (q_sh lo sb))) := fun z => h2 z x0 (by rw [if_neg z] at hx0; exact hx0) p l e s m args below meth c lo sb D E Q C N H locs la S
  exact lv_icmp_lt C.1 C.2.1 hd ht g1 g2
theorem q_if_lt {x : Int32} {off : Int} {tgt : Nat} {r2 : Option α} (hd : decode (q_cd Y) pc = .ok (.ifCond .lt off, 3)) (ht : (pc : Int) + off = (tgt : Int)) (h1 : x < 0 → q_V Y sc φ k n tgt ls st M r) (h2 : ¬ x < 0 → q_V Y sc φ k n (pc + 3) ls st M r2) : q_V Y sc φ k n pc ls (.int x :: st) M (if x < 0 then r else r2) := by
  intro x0 hx0 p l e s m args below meth c lo sb D E Q C N H locs la S
  have g1 : x < 0 → W p l e (q_rm Y) s m args below meth c H locs k n Q (F0 m tgt la (st.map (q_sh lo sb))) := fun z => h1 z x0 (by rw [if_pos z] at hx0; exact hx0) p l e s m args below meth c lo sb D E Q C N H locs la S
  have g2 : ¬ x < 0 → W p l e (q_rm Y) s m args below meth c H locs k n Q (F0 m (pc + 3) la (st.map (q_sh lo sb))) := fun z => h2 z x0 (by rw [if_neg z] at hx0; exact hx0) p l e s m args below meth c lo sb D E Q C N H locs la S
  exact lv_if_lt C.1 C.2.1 hd ht g1 g2
theorem q_lcmp_lt {x y : Int64} {off : Int} {tgt : Nat} {r2 : Option α} (hd : decode (q_cd Y) pc = .ok (.lcmp, 1)) (hd2 : decode (q_cd Y) (pc + 1) = .ok (.ifCond .lt off, 3)) (ht : ((pc + 1 : Nat) : Int) + off = (tgt : Int)) (h1 : x < y → q_V Y sc φ k n tgt ls st M r) (h2 : ¬ x < y → q_V Y sc φ k n (pc + 4) ls st M r2) : q_V Y sc φ k n pc ls (.long y :: .long x :: st) M (if x < y then r else r2) := by
  intro x0 hx0 p l e s m args below meth c lo sb D E Q C N H locs la S
  have g1 : x < y → W p l e (q_rm Y) s m args below meth c H locs k n Q (F0 m tgt la (st.map (q_sh lo sb))) := fun z => h1 z x0 (by rw [if_pos z] at hx0; exact hx0) p l e s m args below meth c lo sb D E Q C N H locs la S
  have g2 : ¬ x < y → W p l e (q_rm Y) s m args below meth c H locs k n Q (F0 m (pc + 4) la (st.map (q_sh lo sb))) := fun z => h2 z x0 (by rw [if_neg z] at hx0; exact hx0) p l e s m args below meth c lo sb D E Q C N H locs la S
  refine W.lcmp C.1 C.2.1 hd ?_
  exact lv_if_lt C.1 C.2.1 hd2 ht (fun z => g1 ((lg_cmp_lt x y).mp z)) (fun z => g2 (fun y' => z ((lg_cmp_lt x y).mpr y')))
theorem q_icmp_ge {x y : Int32} {off : Int} {tgt : Nat} {r2 : Option α} (hd : decode (q_cd Y) pc = .ok (.if_icmp .ge off, 3)) (ht : (pc : Int) + off = (tgt : Int)) (h1 : x < y → q_V Y sc φ k n (pc + 3) ls st M r) (h2 : ¬ x < y → q_V Y sc φ k n tgt ls st M r2) : q_V Y sc φ k n pc ls (.int y :: .int x :: st) M (if x < y then r else r2) := by
  intro x0 hx0 p l e s m args below meth c lo sb D E Q C N H locs la S
  have g1 : x < y → W p l e (q_rm Y) s m args below meth c H locs k n Q (F0 m (pc + 3) la (st.map (q_sh lo sb))) := fun z => h1 z x0 (by rw [if_pos z] at hx0; exact hx0) p l e s m args below meth c lo sb D E Q C N H locs la S
  have g2 : ¬ x < y → W p l e (q_rm Y) s m args below meth c H locs k n Q (F0 m tgt la (st.map (q_sh lo sb))) := fun z => h2 z x0 (by rw [if_neg z] at hx0; exact hx0) p l e s m args below meth c lo sb D E Q C N H locs la S
  exact lv_icmp_ge C.1 C.2.1 hd ht (fun z => g2 (Int32.not_lt.mpr z)) (fun z => g1 (Int32.not_le.mp z))
theorem q_if_ge {x : Int32} {off : Int} {tgt : Nat} {r2 : Option α} (hd : decode (q_cd Y) pc = .ok (.ifCond .ge off, 3)) (ht : (pc : Int) + off = (tgt : Int)) (h1 : x < 0 → q_V Y sc φ k n (pc + 3) ls st M r) (h2 : ¬ x < 0 → q_V Y sc φ k n tgt ls st M r2) : q_V Y sc φ k n pc ls (.int x :: st) M (if x < 0 then r else r2) := by
  intro x0 hx0 p l e s m args below meth c lo sb D E Q C N H locs la S
  have g1 : x < 0 → W p l e (q_rm Y) s m args below meth c H locs k n Q (F0 m (pc + 3) la (st.map (q_sh lo sb))) := fun z => h1 z x0 (by rw [if_pos z] at hx0; exact hx0) p l e s m args below meth c lo sb D E Q C N H locs la S
  have g2 : ¬ x < 0 → W p l e (q_rm Y) s m args below meth c H locs k n Q (F0 m tgt la (st.map (q_sh lo sb))) := fun z => h2 z x0 (by rw [if_neg z] at hx0; exact hx0) p l e s m args below meth c lo sb D E Q C N H locs la S
  exact lv_if_ge C.1 C.2.1 hd ht (fun z => g2 (Int32.not_lt.mpr z)) (fun z => g1 (Int32.not_le.mp z))
theorem q_lcmp_ge {x y : Int64} {off : Int} {tgt : Nat} {r2 : Option α} (hd : decode (q_cd Y) pc = .ok (.lcmp, 1)) (hd2 : decode (q_cd Y) (pc + 1) = .ok (.ifCond .ge off, 3)) (ht : ((pc + 1 : Nat) : Int) + off = (tgt : Int)) (h1 : x < y → q_V Y sc φ k n (pc + 4) ls st M r) (h2 : ¬ x < y → q_V Y sc φ k n tgt ls st M r2) : q_V Y sc φ k n pc ls (.long y :: .long x :: st) M (if x < y then r else r2) := by
  intro x0 hx0 p l e s m args below meth c lo sb D E Q C N H locs la S
  have g1 : x < y → W p l e (q_rm Y) s m args below meth c H locs k n Q (F0 m (pc + 4) la (st.map (q_sh lo sb))) := fun z => h1 z x0 (by rw [if_pos z] at hx0; exact hx0) p l e s m args below meth c lo sb D E Q C N H locs la S
  have g2 : ¬ x < y → W p l e (q_rm Y) s m args below meth c H locs k n Q (F0 m tgt la (st.map (q_sh lo sb))) := fun z => h2 z x0 (by rw [if_neg z] at hx0; exact hx0) p l e s m args below meth c lo sb D E Q C N H locs la S
  refine W.lcmp C.1 C.2.1 hd ?_
  exact lv_if_ge C.1 C.2.1 hd2 ht (fun z => g2 (fun y' => Int32.not_lt.mpr z ((lg_cmp_lt x y).mpr y'))) (fun z => g1 ((lg_cmp_lt x y).mp (Int32.not_le.mp z)))
theorem q_icmp_gt {x y : Int32} {off : Int} {tgt : Nat} {r2 : Option α} (hd : decode (q_cd Y) pc = .ok (.if_icmp .gt off, 3)) (ht : (pc : Int) + off = (tgt : Int)) (h1 : y < x → q_V Y sc φ k n tgt ls st M r) (h2 : ¬ y < x → q_V Y sc φ k n (pc + 3) ls st M r2) : q_V Y sc φ k n pc ls (.int y :: .int x :: st) M (if y < x then r else r2) := by
  intro x0 hx0 p l e s m args below meth c lo sb D E Q C N H locs la S
  have g1 : y < x → W p l e (q_rm Y) s m args below meth c H locs k n Q (F0 m tgt la (st.map (q_sh lo sb))) := fun z => h1 z x0 (by rw [if_pos z] at hx0; exact hx0) p l e s m args below meth c lo sb D E Q C N H locs la S
  have g2 : ¬ y < x → W p l e (q_rm Y) s m args below meth c H locs k n Q (F0 m (pc + 3) la (st.map (q_sh lo sb))) := fun z => h2 z x0 (by rw [if_neg z] at hx0; exact hx0) p l e s m args below meth c lo sb D E Q C N H locs la S
  exact lv_icmp_gt C.1 C.2.1 hd ht g1 g2
theorem q_if_gt {x : Int32} {off : Int} {tgt : Nat} {r2 : Option α} (hd : decode (q_cd Y) pc = .ok (.ifCond .gt off, 3)) (ht : (pc : Int) + off = (tgt : Int)) (h1 : 0 < x → q_V Y sc φ k n tgt ls st M r) (h2 : ¬ 0 < x → q_V Y sc φ k n (pc + 3) ls st M r2) : q_V Y sc φ k n pc ls (.int x :: st) M (if 0 < x then r else r2) := by
  intro x0 hx0 p l e s m args below meth c lo sb D E Q C N H locs la S
  have g1 : 0 < x → W p l e (q_rm Y) s m args below meth c H locs k n Q (F0 m tgt la (st.map (q_sh lo sb))) := fun z => h1 z x0 (by rw [if_pos z] at hx0; exact hx0) p l e s m args below meth c lo sb D E Q C N H locs la S
  have g2 : ¬ 0 < x → W p l e (q_rm Y) s m args below meth c H locs k n Q (F0 m (pc + 3) la (st.map (q_sh lo sb))) := fun z => h2 z x0 (by rw [if_neg z] at hx0; exact hx0) p l e s m args below meth c lo sb D E Q C N H locs la S
  exact lv_if_gt C.1 C.2.1 hd ht g1 g2
theorem q_lcmp_gt {x y : Int64} {off : Int} {tgt : Nat} {r2 : Option α} (hd : decode (q_cd Y) pc = .ok (.lcmp, 1)) (hd2 : decode (q_cd Y) (pc + 1) = .ok (.ifCond .gt off, 3)) (ht : ((pc + 1 : Nat) : Int) + off = (tgt : Int)) (h1 : y < x → q_V Y sc φ k n tgt ls st M r) (h2 : ¬ y < x → q_V Y sc φ k n (pc + 4) ls st M r2) : q_V Y sc φ k n pc ls (.long y :: .long x :: st) M (if y < x then r else r2) := by
  intro x0 hx0 p l e s m args below meth c lo sb D E Q C N H locs la S
  have g1 : y < x → W p l e (q_rm Y) s m args below meth c H locs k n Q (F0 m tgt la (st.map (q_sh lo sb))) := fun z => h1 z x0 (by rw [if_pos z] at hx0; exact hx0) p l e s m args below meth c lo sb D E Q C N H locs la S
  have g2 : ¬ y < x → W p l e (q_rm Y) s m args below meth c H locs k n Q (F0 m (pc + 4) la (st.map (q_sh lo sb))) := fun z => h2 z x0 (by rw [if_neg z] at hx0; exact hx0) p l e s m args below meth c lo sb D E Q C N H locs la S
  refine W.lcmp C.1 C.2.1 hd ?_
  exact lv_if_gt C.1 C.2.1 hd2 ht (fun z => g1 ((lg_cmp_gt x y).mp z)) (fun z => g2 (fun y' => z ((lg_cmp_gt x y).mpr y')))
theorem q_icmp_le {x y : Int32} {off : Int} {tgt : Nat} {r2 : Option α} (hd : decode (q_cd Y) pc = .ok (.if_icmp .le off, 3)) (ht : (pc : Int) + off = (tgt : Int)) (h1 : y < x → q_V Y sc φ k n (pc + 3) ls st M r) (h2 : ¬ y < x → q_V Y sc φ k n tgt ls st M r2) : q_V Y sc φ k n pc ls (.int y :: .int x :: st) M (if y < x then r else r2) := by
  intro x0 hx0 p l e s m args below meth c lo sb D E Q C N H locs la S
  have g1 : y < x → W p l e (q_rm Y) s m args below meth c H locs k n Q (F0 m (pc + 3) la (st.map (q_sh lo sb))) := fun z => h1 z x0 (by rw [if_pos z] at hx0; exact hx0) p l e s m args below meth c lo sb D E Q C N H locs la S
  have g2 : ¬ y < x → W p l e (q_rm Y) s m args below meth c H locs k n Q (F0 m tgt la (st.map (q_sh lo sb))) := fun z => h2 z x0 (by rw [if_neg z] at hx0; exact hx0) p l e s m args below meth c lo sb D E Q C N H locs la S
  exact lv_icmp_le C.1 C.2.1 hd ht (fun z => g2 (Int32.not_lt.mpr z)) (fun z => g1 (Int32.not_le.mp z))
theorem q_if_le {x : Int32} {off : Int} {tgt : Nat} {r2 : Option α} (hd : decode (q_cd Y) pc = .ok (.ifCond .le off, 3)) (ht : (pc : Int) + off = (tgt : Int)) (h1 : 0 < x → q_V Y sc φ k n (pc + 3) ls st M r) (h2 : ¬ 0 < x → q_V Y sc φ k n tgt ls st M r2) : q_V Y sc φ k n pc ls (.int x :: st) M (if 0 < x then r else r2) := by
  intro x0 hx0 p l e s m args below meth c lo sb D E Q C N H locs la S
  have g1 : 0 < x → W p l e (q_rm Y) s m args below meth c H locs k n Q (F0 m (pc + 3) la (st.map (q_sh lo sb))) := fun z => h1 z x0 (by rw [if_pos z] at hx0; exact hx0) p l e s m args below meth c lo sb D E Q C N H locs la S
  have g2 : ¬ 0 < x → W p l e (q_rm Y) s m args below meth c H locs k n Q (F0 m tgt la (st.map (q_sh lo sb))) := fun z => h2 z x0 (by rw [if_neg z] at hx0; exact hx0) p l e s m args below meth c lo sb D E Q C N H locs la S
  exact lv_if_le C.1 C.2.1 hd ht (fun z => g2 (Int32.not_lt.mpr z)) (fun z => g1 (Int32.not_le.mp z))
theorem q_lcmp_le {x y : Int64} {off : Int} {tgt : Nat} {r2 : Option α} (hd : decode (q_cd Y) pc = .ok (.lcmp, 1)) (hd2 : decode (q_cd Y) (pc + 1) = .ok (.ifCond .le off, 3)) (ht : ((pc + 1 : Nat) : Int) + off = (tgt : Int)) (h1 : y < x → q_V Y sc φ k n (pc + 4) ls st M r) (h2 : ¬ y < x → q_V Y sc φ k n tgt ls st M r2) : q_V Y sc φ k n pc ls (.long y :: .long x :: st) M (if y < x then r else r2) := by
  intro x0 hx0 p l e s m args below meth c lo sb D E Q C N H locs la S
  have g1 : y < x → W p l e (q_rm Y) s m args below meth c H locs k n Q (F0 m (pc + 4) la (st.map (q_sh lo sb))) := fun z => h1 z x0 (by rw [if_pos z] at hx0; exact hx0) p l e s m args below meth c lo sb D E Q C N H locs la S
  have g2 : ¬ y < x → W p l e (q_rm Y) s m args below meth c H locs k n Q (F0 m tgt la (st.map (q_sh lo sb))) := fun z => h2 z x0 (by rw [if_neg z] at hx0; exact hx0) p l e s m args below meth c lo sb D E Q C N H locs la S
  refine W.lcmp C.1 C.2.1 hd ?_
  exact lv_if_le C.1 C.2.1 hd2 ht (fun z => g2 (fun y' => Int32.not_lt.mpr z ((lg_cmp_gt x y).mpr y'))) (fun z => g1 ((lg_cmp_gt x y).mp (Int32.not_le.mp z)))
theorem q_iret {x : Int32} {a : α} (hd : decode (q_cd Y) pc = .ok (.ireturn, 1)) (hr : q_rt Y = some .int) (hk : k = q_mc Y) (hn : n ≤ q_ms Y) (hφ : φ a = (some (.int x), M)) : q_V Y sc φ k n pc ls [.int x] M (some a) := by
  intro x0 hx0 p l e s m args below meth c lo sb D E Q C N H locs la S
  cases hx0
  rw [hφ] at N
  exact q_size (fun hz => N H locs k n la pc S.1 S.2.1 (q_top S.1 S.2.1 C.2.2.2.2.2.2.2.2.1 S.2.2.1 hz) ((q_top S.1 S.2.1 C.2.2.2.2.2.2.2.2.1 S.2.2.1 hz).trans (S.2.2.1.trans (by rw [hk]))) (Nat.le_of_eq hk) hn (Or.inl hr) hd)
theorem q_lret {x : Int64} {a : α} (hd : decode (q_cd Y) pc = .ok (.lreturn, 1)) (hr : q_rt Y = some .long) (hk : k = q_mc Y) (hn : n ≤ q_ms Y) (hφ : φ a = (some (.long x), M)) : q_V Y sc φ k n pc ls [.long x] M (some a) := by
  intro x0 hx0 p l e s m args below meth c lo sb D E Q C N H locs la S
  cases hx0
  rw [hφ] at N
  exact q_size (fun hz => N H locs k n la pc S.1 S.2.1 (q_top S.1 S.2.1 C.2.2.2.2.2.2.2.2.1 S.2.2.1 hz) ((q_top S.1 S.2.1 C.2.2.2.2.2.2.2.2.1 S.2.2.1 hz).trans (S.2.2.1.trans (by rw [hk]))) (Nat.le_of_eq hk) hn hr hd)
theorem q_zretL {x : Int32} {a : α} (hd : decode (q_cd Y) pc = .ok (.ireturn, 1)) (hr : q_rt Y = some .boolean) (hx : x = 0 ∨ x = 1) (hk : k = q_mc Y) (hn : n ≤ q_ms Y) (hφ : φ a = (some (.int x), M)) : q_V Y sc φ k n pc ls [.int x] M (some a) := by
  intro x0 hx0 p l e s m args below meth c lo sb D E Q C N H locs la S
  cases hx0
  rw [hφ] at N
  exact q_size (fun hz => N H locs k n la pc S.1 S.2.1 (q_top S.1 S.2.1 C.2.2.2.2.2.2.2.2.1 S.2.2.1 hz) ((q_top S.1 S.2.1 C.2.2.2.2.2.2.2.2.1 S.2.2.1 hz).trans (S.2.2.1.trans (by rw [hk]))) (Nat.le_of_eq hk) hn (Or.inr ⟨hr, hx⟩) hd)
theorem q_zret {x : Int32} {a : α} (hd : decode (q_cd Y) pc = .ok (.ireturn, 1)) (hr : q_rt Y = some .boolean) (hk : k = q_mc Y) (hn : n ≤ q_ms Y) (hφ : φ a = (some (.int x), M)) : q_V Y sc φ k n pc ls [.int x] M (if x = 0 ∨ x = 1 then some a else none) := by
  by_cases hx : x = 0 ∨ x = 1
  · rw [if_pos hx]
    exact q_zretL hd hr hx hk hn hφ
  · rw [if_neg hx]
    exact q_none
theorem q_vret {a : α} (hd : decode (q_cd Y) pc = .ok (.return_, 1)) (hr : q_rt Y = none) (hk : k = q_mc Y) (hn : n ≤ q_ms Y) (hφ : φ a = (none, M)) : q_V Y sc φ k n pc ls [] M (some a) := by
  intro x0 hx0 p l e s m args below meth c lo sb D E Q C N H locs la S
  cases hx0
  rw [hφ] at N
  exact q_size (fun hz => N H locs k n la pc S.1 S.2.1 (q_top S.1 S.2.1 C.2.2.2.2.2.2.2.2.1 S.2.2.1 hz) ((q_top S.1 S.2.1 C.2.2.2.2.2.2.2.2.1 S.2.2.1 hz).trans (S.2.2.1.trans (by rw [hk]))) (Nat.le_of_eq hk) hn hr hd)
end QV
