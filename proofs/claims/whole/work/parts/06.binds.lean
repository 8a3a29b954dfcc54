/-! ===== calls under a bind; switches ===== -/
def q_mV (Y2 : q_Y) (Cn : String) (nA : Nat) : Prop := (q_nm Y2).cls = Cn ∧ Cond.instanceMethod (q_nm Y2) ∈ q_tbl ∧ Cond.selects Cn (q_nm Y2) (q_nm Y2) ∈ q_tbl ∧ Cond.initialized Cn ∈ q_tbl ∧ Cond.code (q_nm Y2) (q_cd Y2) (q_ml Y2) (q_rt Y2) ∈ q_tbl ∧ ((q_nm Y2).cls ≠ "java/lang/invoke/MethodHandle" ∧ (q_nm Y2).cls ≠ "java/lang/invoke/VarHandle" ∧ (parseMethodDescriptor (q_nm Y2).desc).map (fun d => d.parameters.length) = some nA) ∧ q_mc Y2 = 0 ∧ q_ms Y2 = 0
def q_mS (Y2 : q_Y) (nA : Nat) : Prop := Cond.static (q_nm Y2) ∈ q_tbl ∧ Cond.initialized (q_nm Y2).cls ∈ q_tbl ∧ Cond.code (q_nm Y2) (q_cd Y2) (q_ml Y2) (q_rt Y2) ∈ q_tbl ∧ ((q_nm Y2).cls ≠ "java/lang/invoke/MethodHandle" ∧ (q_nm Y2).cls ≠ "java/lang/invoke/VarHandle" ∧ (parseMethodDescriptor (q_nm Y2).desc).map (fun d => d.parameters.length) = some nA) ∧ q_mc Y2 = 0 ∧ q_ms Y2 = 0
def q_mI (Y2 : q_Y) (nA : Nat) : Prop := Cond.instanceMethod (q_nm Y2) ∈ q_tbl ∧ Cond.initialized (q_nm Y2).cls ∈ q_tbl ∧ Cond.code (q_nm Y2) (q_cd Y2) (q_ml Y2) (q_rt Y2) ∈ q_tbl ∧ ((q_nm Y2).cls ≠ "java/lang/invoke/MethodHandle" ∧ (q_nm Y2).cls ≠ "java/lang/invoke/VarHandle" ∧ (parseMethodDescriptor (q_nm Y2).desc).map (fun d => d.parameters.length) = some nA) ∧ (q_nm Y2).name = "<init>" ∧ q_rt Y2 = none
/-- frames and words of a call -/
def q_rf (Y Y2 : q_Y) : Prop := (q_rm Y2).frames + 1 ≤ (q_rm Y).frames ∧ 8 + (q_ml Y2 + 11) + (q_rm Y2).locals ≤ (q_rm Y).locals
theorem q_ob_is {α : Type} {ci : Nat} {M : q_Mem} {a : Nat} {r : Option α} {x : α} (h : q_ob ci M a r = some x) : q_is ci M a := by
  unfold q_ob at h
  split at h
  case isFalse => cases h
  case isTrue hb => exact q_isb_iff.mp hb
section QB
variable {Y : q_Y} {sc : Option (Nat × (Nat → Int32))} {v : Option Value} {M' M : q_Mem} {k n pc : Nat} {ls : List (Nat × Value)} {st : List Value} {α : Type} {φ : α → Option Value × q_Mem} {r : Option α}
theorem q_obV {ci a : Nat} (h : q_V Y sc φ k n pc ls st M r) : q_V Y sc φ k n pc ls st M (q_ob ci M a r) := by
  unfold q_ob
  split
  · exact h
  · exact q_none
theorem q_ifV {c : Prop} [Decidable c] {r2 : Option α} (h1 : c → q_V Y sc φ k n pc ls st M r) (h2 : ¬ c → q_V Y sc φ k n pc ls st M r2) : q_V Y sc φ k n pc ls st M (if c then r else r2) := by
  split
  · exact h1 (by assumption)
  · exact h2 (by assumption)
theorem q_cV {β : Type} {ψ : β → Option Value × q_Mem} {E : Option β} {F : β → Option α} {Y2 : q_Y} {As : List Value} {b ci N idx nA : Nat} {Cn : String} {T : u_T} (cl : q_Cl ci Cn T N) (mv : q_mV Y2 Cn nA) (w1 : Cond.methodLink (q_nm Y).cls idx (q_nm Y2) ∈ q_tbl) (hd : decode (q_cd Y) pc = .ok (.invokevirtual idx, 3)) (hf : q_rf Y Y2) (hA : As.length = nA) (hAs : ∀ lo sb, As.map (q_sh lo sb) = As.map (q_sh lo 0)) (hst : (st.map fun v => v.category).sum ≤ 8) (hkn : k ≤ q_mc Y ∧ n ≤ q_ms Y)
    (hb : ∀ z, E = some z → q_is ci M b) (hC : ∀ z, E = some z → q_C Y2 (.ref b :: As) M (ψ z).1 (ψ z).2) (h : ∀ z, E = some z → q_V Y sc φ k n (pc + 3) ls ((ψ z).1.toList ++ st) (ψ z).2 (F z)) : q_V Y sc φ k n pc ls (As.reverse ++ .ref b :: st) M (Option.bind E F) := by
  intro x0 hx0
  obtain ⟨z, hz, hF⟩ := Option.bind_eq_some_iff.mp hx0
  obtain ⟨m1, m2, m3, m4, m5, m6, m7, m8⟩ := mv
  exact q_callV0 cl m1 hd w1 m2 m3 m4 m5 ⟨hf.1, hf.2, m6⟩ hA hAs hst (by rw [m7]; exact hkn.1) (by rw [m8]; exact hkn.2) (hb z hz) (hC z hz) (by rw [m7, m8]; exact h z hz x0 hF)
theorem q_cS {β : Type} {ψ : β → Option Value × q_Mem} {E : Option β} {F : β → Option α} {Y2 : q_Y} {As : List Value} {idx nA : Nat} (mv : q_mS Y2 nA) (w1 : Cond.methodLink (q_nm Y).cls idx (q_nm Y2) ∈ q_tbl) (hd : decode (q_cd Y) pc = .ok (.invokestatic idx, 3)) (hf : q_rf Y Y2) (hA : As.length = nA) (hAs : ∀ lo sb, As.map (q_sh lo sb) = As.map (q_sh lo 0)) (hst : (st.map fun v => v.category).sum ≤ 8) (hkn : k ≤ q_mc Y ∧ n ≤ q_ms Y)
    (hC : ∀ z, E = some z → q_C Y2 As M (ψ z).1 (ψ z).2) (h : ∀ z, E = some z → q_V Y sc φ k n (pc + 3) ls ((ψ z).1.toList ++ st) (ψ z).2 (F z)) : q_V Y sc φ k n pc ls (As.reverse ++ st) M (Option.bind E F) := by
  intro x0 hx0
  obtain ⟨z, hz, hF⟩ := Option.bind_eq_some_iff.mp hx0
  obtain ⟨m2, m4, m5, m6, m7, m8⟩ := mv
  exact q_callS0 hd w1 m2 m4 m5 ⟨hf.1, hf.2, m6⟩ hA hAs hst (by rw [m7]; exact hkn.1) (by rw [m8]; exact hkn.2) (hC z hz) (by rw [m7, m8]; exact h z hz x0 hF)
theorem q_cN {β : Type} {ψ : β → Option Value × q_Mem} {E : Option β} {F : β → Option α} {Y2 : q_Y} {As : List Value} {idx nA : Nat} {host : String} (mv : q_mS Y2 nA) (w1 : ((q_nm Y).cls, idx, q_nm Y2, host) ∈ q_nx) (hd : decode (q_cd Y) pc = .ok (.invokestatic idx, 3)) (hf : q_rf Y Y2) (hA : As.length = nA) (hAs : ∀ lo sb, As.map (q_sh lo sb) = As.map (q_sh lo 0)) (hst : (st.map fun v => v.category).sum ≤ 8) (hkn : k ≤ q_mc Y ∧ n ≤ q_ms Y)
    (hC : ∀ z, E = some z → q_C Y2 As M (ψ z).1 (ψ z).2) (h : ∀ z, E = some z → q_V Y sc φ k n (pc + 3) ls ((ψ z).1.toList ++ st) (ψ z).2 (F z)) : q_V Y sc φ k n pc ls (As.reverse ++ st) M (Option.bind E F) := by
  intro x0 hx0
  obtain ⟨z, hz, hF⟩ := Option.bind_eq_some_iff.mp hx0
  obtain ⟨m2, m4, m5, m6, m7, m8⟩ := mv
  exact q_callN0 hd w1 m2 m4 m5 ⟨hf.1, hf.2, m6⟩ hA hAs hst (by rw [m7]; exact hkn.1) (by rw [m8]; exact hkn.2) (hC z hz) (by rw [m7, m8]; exact h z hz x0 hF)
/-- a constructor: how many cells and slots it makes is said beside it -/
theorem q_cI2 {E : Option q_Mem} {F : q_Mem → Option α} {Y2 : q_Y} {As : List Value} {b idx nA k' n' : Nat} (mv : q_mI Y2 nA) (w1 : Cond.methodLink (q_nm Y).cls idx (q_nm Y2) ∈ q_tbl) (hd : decode (q_cd Y) pc = .ok (.invokespecial idx, 3)) (hf : q_rf Y Y2) (hA : As.length = nA) (hAs : ∀ lo sb, As.map (q_sh lo sb) = As.map (q_sh lo 0)) (hst : (st.map fun v => v.category).sum ≤ 8) (hk' : k + q_mc Y2 = k') (hn' : n + q_ms Y2 = n') (hkn : k' ≤ q_mc Y ∧ n' ≤ q_ms Y)
    (hC : ∀ z, E = some z → q_C Y2 (.ref b :: As) M none z) (h : ∀ z, E = some z → q_V Y sc φ k' n' (pc + 3) ls st z (F z)) : q_V Y sc φ k n pc ls (As.reverse ++ .ref b :: st) M (Option.bind E F) := by
  intro x0 hx0
  obtain ⟨z, hz, hF⟩ := Option.bind_eq_some_iff.mp hx0
  obtain ⟨m2, m4, m5, m6, m7, m8⟩ := mv
  subst hk'
  subst hn'
  exact q_callI0 hd w1 m2 m4 m5 m7 m8 ⟨hf.1, hf.2, m6⟩ hA hAs hst hkn.1 hkn.2 (hC z hz) (h z hz x0 hF)
theorem q_cIN2 {E : Option q_Mem} {F : q_Mem → Option α} {Y2 : q_Y} {As : List Value} {b idx nA k' n' : Nat} {host : String} (mv : q_mI Y2 nA) (w1 : ((q_nm Y).cls, idx, q_nm Y2, host) ∈ q_nx) (hd : decode (q_cd Y) pc = .ok (.invokespecial idx, 3)) (hf : q_rf Y Y2) (hA : As.length = nA) (hAs : ∀ lo sb, As.map (q_sh lo sb) = As.map (q_sh lo 0)) (hst : (st.map fun v => v.category).sum ≤ 8) (hk' : k + q_mc Y2 = k') (hn' : n + q_ms Y2 = n') (hkn : k' ≤ q_mc Y ∧ n' ≤ q_ms Y)
    (hC : ∀ z, E = some z → q_C Y2 (.ref b :: As) M none z) (h : ∀ z, E = some z → q_V Y sc φ k' n' (pc + 3) ls st z (F z)) : q_V Y sc φ k n pc ls (As.reverse ++ .ref b :: st) M (Option.bind E F) := by
  intro x0 hx0
  obtain ⟨z, hz, hF⟩ := Option.bind_eq_some_iff.mp hx0
  obtain ⟨m2, m4, m5, m6, m7, m8⟩ := mv
  subst hk'
  subst hn'
  exact q_callIN0 hd w1 m2 m4 m5 m7 m8 ⟨hf.1, hf.2, m6⟩ hA hAs hst hkn.1 hkn.2 (hC z hz) (h z hz x0 hF)
theorem q_tabIn {dflt lo hi : Int} {offs : Array Int} {len : Nat} {x : Int32} (xl : Int32) {off : Int} {tgt : Nat} (hd : decode (q_cd Y) pc = .ok (.tableswitch dflt lo hi offs, len)) (hx : x = xl) (h1 : ¬ xl.toInt < lo) (h2 : ¬ hi < xl.toInt) (ho : offs[(xl.toInt - lo).toNat]? = some off) (ht : (pc : Int) + off = (tgt : Int)) (h : q_V Y sc φ k n tgt ls st M r) : q_V Y sc φ k n pc ls (.int x :: st) M r := by
  subst hx
  intro x0 hx0 p l e s m args below meth c lo sb D E Q C N H locs la S
  exact lv_tableIn C.1 C.2.1 hd h1 h2 ho ht (h x0 hx0 p l e s m args below meth c lo sb D E Q C N H locs la S)
theorem q_tabOut {dflt lo hi : Int} {offs : Array Int} {len : Nat} {x : Int32} {tgt : Nat} (hd : decode (q_cd Y) pc = .ok (.tableswitch dflt lo hi offs, len)) (h1 : x.toInt < lo ∨ hi < x.toInt) (ht : (pc : Int) + dflt = (tgt : Int)) (h : q_V Y sc φ k n tgt ls st M r) : q_V Y sc φ k n pc ls (.int x :: st) M r := by
  intro x0 hx0 p l e s m args below meth c lo sb D E Q C N H locs la S
  exact lv_tableOut C.1 C.2.1 hd h1 ht (h x0 hx0 p l e s m args below meth c lo sb D E Q C N H locs la S)
theorem q_look {dflt : Int} {ps : Array (Int × Int)} {len : Nat} {x : Int32} {off : Int} {tgt : Nat} (hd : decode (q_cd Y) pc = .ok (.lookupswitch dflt ps, len)) (hp : (ps.toList.zip (ps.toList.drop 1)).all (fun (a, next) => a.1 < next.1) = true) (ho : Op.lookupswitch.offset ps.toList dflt x.toInt = off) (ht : (pc : Int) + off = (tgt : Int)) (h : q_V Y sc φ k n tgt ls st M r) : q_V Y sc φ k n pc ls (.int x :: st) M r := by
  intro x0 hx0 p l e s m args below meth c lo sb D E Q C N H locs la S
  exact lv_lookup C.1 C.2.1 hd hp ho ht (h x0 hx0 p l e s m args below meth c lo sb D E Q C N H locs la S)
end QB
theorem q_step {x xl : Int32} {b c : Int} (h : b ≤ x.toInt) (hx : ¬ x = xl) (hb : xl.toInt = b) (hc : b + 1 = c) : c ≤ x.toInt := by
  have : x.toInt ≠ xl.toInt := fun e => hx (Int32.toInt_inj.mp e)
  omega
theorem q_nlt {x xl : Int32} {b : Int} (h : ¬ x < xl) (hb : xl.toInt = b) : b ≤ x.toInt := by
  have := Int32.le_iff_toInt_le.mp (Int32.not_lt.mp h)
  omega
theorem q_lt {x xl : Int32} {b : Int} (h : x < xl) (hb : xl.toInt = b) : x.toInt < b := by
  have := Int32.lt_iff_toInt_lt.mp h
  omega
def q_fuel : Nat := 4194304
def q_mx (x y : Int32) : Int32 := if x < y then y else x
def q_mi (x y : Int32) : Int32 := if y < x then y else x
def q_ab (x : Int32) : Int32 := if 0 ≤ x then x else 0 - x
def q_mxJ (x y : Int64) : Int64 := if y < x then x else y
def q_miJ (x y : Int64) : Int64 := if y < x then y else x
def q_abJ (x : Int64) : Int64 := if 0 < x then x else -x
section QMA
variable {Y : q_Y} {sc : Option (Nat × (Nat → Int32))} {v : Option Value} {M' M : q_Mem} {k n pc : Nat} {ls : List (Nat × Value)} {st : List Value} {α : Type} {φ : α → Option Value × q_Mem} {r : Option α}
theorem q_mmax {x y : Int32} {idx : Nat} (w1 : Cond.methodLink (q_nm Y).cls idx Lib.Math.max.name ∈ q_tbl) (w2 : Cond.static Lib.Math.max.name ∈ q_tbl) (w3 : Cond.initialized "java/lang/Math" ∈ q_tbl) (w4 : Cond.code Lib.Math.max.name Lib.Math.max.code 2 (some .int) ∈ q_tbl) (hd : decode (q_cd Y) pc = .ok (.invokestatic idx, 3)) (hfr : 1 ≤ (q_rm Y).frames) (hst : (st.map fun v => v.category).sum ≤ 8) (hlo : 23 ≤ (q_rm Y).locals) (hkn : k ≤ q_mc Y ∧ n ≤ q_ms Y) (h : q_V Y sc φ k n (pc + 3) ls (.int (q_mx x y) :: st) M r) : q_V Y sc φ k n pc ls (.int y :: .int x :: st) M r := by
  intro x0 hx0 p l e s m args below meth c lo sb D E Q C X H locs la S
  have hcat : ((st.map (q_sh lo sb)).map fun v => v.category) = st.map fun v => v.category := by rw [List.map_map]; exact List.map_congr_left fun v _ => q_sh_cat lo sb v
  exact va_mmax C.1 C.2.1 (C.2.2.1.trans S.2.2.2.1.symm) C.2.2.2.1 (C.2.2.2.2.2.1 _ w1) (C.2.2.2.2.2.1 _ w2) (C.2.2.2.2.2.1 _ w3) (C.2.2.2.2.2.1 _ w4) hfr (by rw [hcat]; omega) hkn.1 hkn.2 hd (h x0 hx0 p l e s m args below meth c lo sb D E Q C X H locs la S)
theorem q_mmin {x y : Int32} {idx : Nat} (w1 : Cond.methodLink (q_nm Y).cls idx Lib.Math.min.name ∈ q_tbl) (w2 : Cond.static Lib.Math.min.name ∈ q_tbl) (w3 : Cond.initialized "java/lang/Math" ∈ q_tbl) (w4 : Cond.code Lib.Math.min.name Lib.Math.min.code 2 (some .int) ∈ q_tbl) (hd : decode (q_cd Y) pc = .ok (.invokestatic idx, 3)) (hfr : 1 ≤ (q_rm Y).frames) (hst : (st.map fun v => v.category).sum ≤ 8) (hlo : 23 ≤ (q_rm Y).locals) (hkn : k ≤ q_mc Y ∧ n ≤ q_ms Y) (h : q_V Y sc φ k n (pc + 3) ls (.int (q_mi x y) :: st) M r) : q_V Y sc φ k n pc ls (.int y :: .int x :: st) M r := by
  intro x0 hx0 p l e s m args below meth c lo sb D E Q C X H locs la S
  have hcat : ((st.map (q_sh lo sb)).map fun v => v.category) = st.map fun v => v.category := by rw [List.map_map]; exact List.map_congr_left fun v _ => q_sh_cat lo sb v
  exact va_mmin C.1 C.2.1 (C.2.2.1.trans S.2.2.2.1.symm) C.2.2.2.1 (C.2.2.2.2.2.1 _ w1) (C.2.2.2.2.2.1 _ w2) (C.2.2.2.2.2.1 _ w3) (C.2.2.2.2.2.1 _ w4) hfr (by rw [hcat]; omega) hkn.1 hkn.2 hd (h x0 hx0 p l e s m args below meth c lo sb D E Q C X H locs la S)
theorem q_mabs {x : Int32} {idx : Nat} (w1 : Cond.methodLink (q_nm Y).cls idx Lib.Math.abs.name ∈ q_tbl) (w2 : Cond.static Lib.Math.abs.name ∈ q_tbl) (w3 : Cond.initialized "java/lang/Math" ∈ q_tbl) (w4 : Cond.code Lib.Math.abs.name Lib.Math.abs.code 1 (some .int) ∈ q_tbl) (hd : decode (q_cd Y) pc = .ok (.invokestatic idx, 3)) (hfr : 1 ≤ (q_rm Y).frames) (hst : (st.map fun v => v.category).sum ≤ 8) (hlo : 23 ≤ (q_rm Y).locals) (hkn : k ≤ q_mc Y ∧ n ≤ q_ms Y) (h : q_V Y sc φ k n (pc + 3) ls (.int (q_ab x) :: st) M r) : q_V Y sc φ k n pc ls (.int x :: st) M r := by
  intro x0 hx0 p l e s m args below meth c lo sb D E Q C X H locs la S
  have hcat : ((st.map (q_sh lo sb)).map fun v => v.category) = st.map fun v => v.category := by rw [List.map_map]; exact List.map_congr_left fun v _ => q_sh_cat lo sb v
  exact va_mabs C.1 C.2.1 (C.2.2.1.trans S.2.2.2.1.symm) C.2.2.2.1 (C.2.2.2.2.2.1 _ w1) (C.2.2.2.2.2.1 _ w2) (C.2.2.2.2.2.1 _ w3) (C.2.2.2.2.2.1 _ w4) hfr (by rw [hcat]; omega) hkn.1 hkn.2 hd (h x0 hx0 p l e s m args below meth c lo sb D E Q C X H locs la S)
theorem q_mmaxJ {x y : Int64} {idx : Nat} (w1 : Cond.methodLink (q_nm Y).cls idx Lib.MathLoose.max_long.x ∈ q_tbl) (w2 : Cond.static Lib.MathLoose.max_long.x ∈ q_tbl) (w3 : Cond.initialized "java/lang/Math" ∈ q_tbl) (w4 : Cond.code Lib.MathLoose.max_long.x Lib.MathLoose.max_long.code 4 (some .long) ∈ q_tbl) (hd : decode (q_cd Y) pc = .ok (.invokestatic idx, 3)) (hfr : 1 ≤ (q_rm Y).frames) (hst : (st.map fun v => v.category).sum ≤ 8) (hlo : 23 ≤ (q_rm Y).locals) (hkn : k ≤ q_mc Y ∧ n ≤ q_ms Y) (h : q_V Y sc φ k n (pc + 3) ls (.long (q_mxJ x y) :: st) M r) : q_V Y sc φ k n pc ls (.long y :: .long x :: st) M r := by
  intro x0 hx0 p l e s m args below meth c lo sb D E Q C X H locs la S
  have hcat : ((st.map (q_sh lo sb)).map fun v => v.category) = st.map fun v => v.category := by rw [List.map_map]; exact List.map_congr_left fun v _ => q_sh_cat lo sb v
  exact va_mmax_long C.1 C.2.1 (C.2.2.1.trans S.2.2.2.1.symm) C.2.2.2.1 (C.2.2.2.2.2.1 _ w1) (C.2.2.2.2.2.1 _ w2) (C.2.2.2.2.2.1 _ w3) (C.2.2.2.2.2.1 _ w4) hfr (by rw [hcat]; omega) hkn.1 hkn.2 hd (h x0 hx0 p l e s m args below meth c lo sb D E Q C X H locs la S)
theorem q_mminJ {x y : Int64} {idx : Nat} (w1 : Cond.methodLink (q_nm Y).cls idx Lib.MathLoose.min_long.x ∈ q_tbl) (w2 : Cond.static Lib.MathLoose.min_long.x ∈ q_tbl) (w3 : Cond.initialized "java/lang/Math" ∈ q_tbl) (w4 : Cond.code Lib.MathLoose.min_long.x Lib.MathLoose.min_long.code 4 (some .long) ∈ q_tbl) (hd : decode (q_cd Y) pc = .ok (.invokestatic idx, 3)) (hfr : 1 ≤ (q_rm Y).frames) (hst : (st.map fun v => v.category).sum ≤ 8) (hlo : 23 ≤ (q_rm Y).locals) (hkn : k ≤ q_mc Y ∧ n ≤ q_ms Y) (h : q_V Y sc φ k n (pc + 3) ls (.long (q_miJ x y) :: st) M r) : q_V Y sc φ k n pc ls (.long y :: .long x :: st) M r := by
  intro x0 hx0 p l e s m args below meth c lo sb D E Q C X H locs la S
  have hcat : ((st.map (q_sh lo sb)).map fun v => v.category) = st.map fun v => v.category := by rw [List.map_map]; exact List.map_congr_left fun v _ => q_sh_cat lo sb v
  exact va_mmin_long C.1 C.2.1 (C.2.2.1.trans S.2.2.2.1.symm) C.2.2.2.1 (C.2.2.2.2.2.1 _ w1) (C.2.2.2.2.2.1 _ w2) (C.2.2.2.2.2.1 _ w3) (C.2.2.2.2.2.1 _ w4) hfr (by rw [hcat]; omega) hkn.1 hkn.2 hd (h x0 hx0 p l e s m args below meth c lo sb D E Q C X H locs la S)
theorem q_mabsJ {x : Int64} {idx : Nat} (w1 : Cond.methodLink (q_nm Y).cls idx Lib.MathLoose.abs_long.x ∈ q_tbl) (w2 : Cond.static Lib.MathLoose.abs_long.x ∈ q_tbl) (w3 : Cond.initialized "java/lang/Math" ∈ q_tbl) (w4 : Cond.code Lib.MathLoose.abs_long.x Lib.MathLoose.abs_long.code 2 (some .long) ∈ q_tbl) (hd : decode (q_cd Y) pc = .ok (.invokestatic idx, 3)) (hfr : 1 ≤ (q_rm Y).frames) (hst : (st.map fun v => v.category).sum ≤ 8) (hlo : 23 ≤ (q_rm Y).locals) (hkn : k ≤ q_mc Y ∧ n ≤ q_ms Y) (h : q_V Y sc φ k n (pc + 3) ls (.long (q_abJ x) :: st) M r) : q_V Y sc φ k n pc ls (.long x :: st) M r := by
  intro x0 hx0 p l e s m args below meth c lo sb D E Q C X H locs la S
  have hcat : ((st.map (q_sh lo sb)).map fun v => v.category) = st.map fun v => v.category := by rw [List.map_map]; exact List.map_congr_left fun v _ => q_sh_cat lo sb v
  exact va_mabs_long C.1 C.2.1 (C.2.2.1.trans S.2.2.2.1.symm) C.2.2.2.1 (C.2.2.2.2.2.1 _ w1) (C.2.2.2.2.2.1 _ w2) (C.2.2.2.2.2.1 _ w3) (C.2.2.2.2.2.1 _ w4) hfr (by rw [hcat]; omega) hkn.1 hkn.2 hd (h x0 hx0 p l e s m args below meth c lo sb D E Q C X H locs la S)
end QMA
