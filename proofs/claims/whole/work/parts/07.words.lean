section QW
variable {Y : q_Y} {sc : Option (Nat × (Nat → Int32))} {v : Option Value} {M' M : q_Mem} {k n pc : Nat} {ls : List (Nat × Value)} {st : List Value} {α : Type} {φ : α → Option Value × q_Mem} {r : Option α}
theorem q_cVI {E : Option Int32} {F : Int32 → Option α} {Y2 : q_Y} {As : List Value} {b ci N idx nA : Nat} {Cn : String} {T : u_T} (cl : q_Cl ci Cn T N) (mv : q_mV Y2 Cn nA) (w1 : Cond.methodLink (q_nm Y).cls idx (q_nm Y2) ∈ q_tbl) (hd : decode (q_cd Y) pc = .ok (.invokevirtual idx, 3)) (hf : q_rf Y Y2) (hA : As.length = nA) (hAs : ∀ lo sb, As.map (q_sh lo sb) = As.map (q_sh lo 0)) (hst : (st.map fun v => v.category).sum ≤ 8) (hkn : k ≤ q_mc Y ∧ n ≤ q_ms Y) (hb : ∀ z, E = some z → q_is ci M b) (hC : ∀ z, E = some z → q_C Y2 (.ref b :: As) M (some (.int z)) M) (h : ∀ z, E = some z → q_V Y sc φ k n (pc + 3) ls (.int z :: st) M (F z)) : q_V Y sc φ k n pc ls (As.reverse ++ .ref b :: st) M (Option.bind E F) := q_cV (ψ := (fun z : Int32 => ((some (.int z)), M))) cl mv w1 hd hf hA hAs hst hkn hb hC h
theorem q_cSI {E : Option Int32} {F : Int32 → Option α} {Y2 : q_Y} {As : List Value} {idx nA : Nat} (mv : q_mS Y2 nA) (w1 : Cond.methodLink (q_nm Y).cls idx (q_nm Y2) ∈ q_tbl) (hd : decode (q_cd Y) pc = .ok (.invokestatic idx, 3)) (hf : q_rf Y Y2) (hA : As.length = nA) (hAs : ∀ lo sb, As.map (q_sh lo sb) = As.map (q_sh lo 0)) (hst : (st.map fun v => v.category).sum ≤ 8) (hkn : k ≤ q_mc Y ∧ n ≤ q_ms Y) (hC : ∀ z, E = some z → q_C Y2 As M (some (.int z)) M) (h : ∀ z, E = some z → q_V Y sc φ k n (pc + 3) ls (.int z :: st) M (F z)) : q_V Y sc φ k n pc ls (As.reverse ++ st) M (Option.bind E F) := q_cS (ψ := (fun z : Int32 => ((some (.int z)), M))) mv w1 hd hf hA hAs hst hkn hC h
theorem q_cNI {E : Option Int32} {F : Int32 → Option α} {Y2 : q_Y} {As : List Value} {idx nA : Nat} (mv : q_mS Y2 nA) {host : String} (w1 : ((q_nm Y).cls, idx, q_nm Y2, host) ∈ q_nx) (hd : decode (q_cd Y) pc = .ok (.invokestatic idx, 3)) (hf : q_rf Y Y2) (hA : As.length = nA) (hAs : ∀ lo sb, As.map (q_sh lo sb) = As.map (q_sh lo 0)) (hst : (st.map fun v => v.category).sum ≤ 8) (hkn : k ≤ q_mc Y ∧ n ≤ q_ms Y) (hC : ∀ z, E = some z → q_C Y2 As M (some (.int z)) M) (h : ∀ z, E = some z → q_V Y sc φ k n (pc + 3) ls (.int z :: st) M (F z)) : q_V Y sc φ k n pc ls (As.reverse ++ st) M (Option.bind E F) := q_cN (ψ := (fun z : Int32 => ((some (.int z)), M))) mv w1 hd hf hA hAs hst hkn hC h
theorem q_cVJ {E : Option Int64} {F : Int64 → Option α} {Y2 : q_Y} {As : List Value} {b ci N idx nA : Nat} {Cn : String} {T : u_T} (cl : q_Cl ci Cn T N) (mv : q_mV Y2 Cn nA) (w1 : Cond.methodLink (q_nm Y).cls idx (q_nm Y2) ∈ q_tbl) (hd : decode (q_cd Y) pc = .ok (.invokevirtual idx, 3)) (hf : q_rf Y Y2) (hA : As.length = nA) (hAs : ∀ lo sb, As.map (q_sh lo sb) = As.map (q_sh lo 0)) (hst : (st.map fun v => v.category).sum ≤ 8) (hkn : k ≤ q_mc Y ∧ n ≤ q_ms Y) (hb : ∀ z, E = some z → q_is ci M b) (hC : ∀ z, E = some z → q_C Y2 (.ref b :: As) M (some (.long z)) M) (h : ∀ z, E = some z → q_V Y sc φ k n (pc + 3) ls (.long z :: st) M (F z)) : q_V Y sc φ k n pc ls (As.reverse ++ .ref b :: st) M (Option.bind E F) := q_cV (ψ := (fun z : Int64 => ((some (.long z)), M))) cl mv w1 hd hf hA hAs hst hkn hb hC h
theorem q_cSJ {E : Option Int64} {F : Int64 → Option α} {Y2 : q_Y} {As : List Value} {idx nA : Nat} (mv : q_mS Y2 nA) (w1 : Cond.methodLink (q_nm Y).cls idx (q_nm Y2) ∈ q_tbl) (hd : decode (q_cd Y) pc = .ok (.invokestatic idx, 3)) (hf : q_rf Y Y2) (hA : As.length = nA) (hAs : ∀ lo sb, As.map (q_sh lo sb) = As.map (q_sh lo 0)) (hst : (st.map fun v => v.category).sum ≤ 8) (hkn : k ≤ q_mc Y ∧ n ≤ q_ms Y) (hC : ∀ z, E = some z → q_C Y2 As M (some (.long z)) M) (h : ∀ z, E = some z → q_V Y sc φ k n (pc + 3) ls (.long z :: st) M (F z)) : q_V Y sc φ k n pc ls (As.reverse ++ st) M (Option.bind E F) := q_cS (ψ := (fun z : Int64 => ((some (.long z)), M))) mv w1 hd hf hA hAs hst hkn hC h
theorem q_cNJ {E : Option Int64} {F : Int64 → Option α} {Y2 : q_Y} {As : List Value} {idx nA : Nat} (mv : q_mS Y2 nA) {host : String} (w1 : ((q_nm Y).cls, idx, q_nm Y2, host) ∈ q_nx) (hd : decode (q_cd Y) pc = .ok (.invokestatic idx, 3)) (hf : q_rf Y Y2) (hA : As.length = nA) (hAs : ∀ lo sb, As.map (q_sh lo sb) = As.map (q_sh lo 0)) (hst : (st.map fun v => v.category).sum ≤ 8) (hkn : k ≤ q_mc Y ∧ n ≤ q_ms Y) (hC : ∀ z, E = some z → q_C Y2 As M (some (.long z)) M) (h : ∀ z, E = some z → q_V Y sc φ k n (pc + 3) ls (.long z :: st) M (F z)) : q_V Y sc φ k n pc ls (As.reverse ++ st) M (Option.bind E F) := q_cN (ψ := (fun z : Int64 => ((some (.long z)), M))) mv w1 hd hf hA hAs hst hkn hC h
theorem q_cVM {E : Option q_Mem} {F : q_Mem → Option α} {Y2 : q_Y} {As : List Value} {b ci N idx nA : Nat} {Cn : String} {T : u_T} (cl : q_Cl ci Cn T N) (mv : q_mV Y2 Cn nA) (w1 : Cond.methodLink (q_nm Y).cls idx (q_nm Y2) ∈ q_tbl) (hd : decode (q_cd Y) pc = .ok (.invokevirtual idx, 3)) (hf : q_rf Y Y2) (hA : As.length = nA) (hAs : ∀ lo sb, As.map (q_sh lo sb) = As.map (q_sh lo 0)) (hst : (st.map fun v => v.category).sum ≤ 8) (hkn : k ≤ q_mc Y ∧ n ≤ q_ms Y) (hb : ∀ z, E = some z → q_is ci M b) (hC : ∀ z, E = some z → q_C Y2 (.ref b :: As) M none z) (h : ∀ z, E = some z → q_V Y sc φ k n (pc + 3) ls st z (F z)) : q_V Y sc φ k n pc ls (As.reverse ++ .ref b :: st) M (Option.bind E F) := q_cV (ψ := (fun z : q_Mem => (none, z))) cl mv w1 hd hf hA hAs hst hkn hb hC h
theorem q_cSM {E : Option q_Mem} {F : q_Mem → Option α} {Y2 : q_Y} {As : List Value} {idx nA : Nat} (mv : q_mS Y2 nA) (w1 : Cond.methodLink (q_nm Y).cls idx (q_nm Y2) ∈ q_tbl) (hd : decode (q_cd Y) pc = .ok (.invokestatic idx, 3)) (hf : q_rf Y Y2) (hA : As.length = nA) (hAs : ∀ lo sb, As.map (q_sh lo sb) = As.map (q_sh lo 0)) (hst : (st.map fun v => v.category).sum ≤ 8) (hkn : k ≤ q_mc Y ∧ n ≤ q_ms Y) (hC : ∀ z, E = some z → q_C Y2 As M none z) (h : ∀ z, E = some z → q_V Y sc φ k n (pc + 3) ls st z (F z)) : q_V Y sc φ k n pc ls (As.reverse ++ st) M (Option.bind E F) := q_cS (ψ := (fun z : q_Mem => (none, z))) mv w1 hd hf hA hAs hst hkn hC h
theorem q_cNM {E : Option q_Mem} {F : q_Mem → Option α} {Y2 : q_Y} {As : List Value} {idx nA : Nat} (mv : q_mS Y2 nA) {host : String} (w1 : ((q_nm Y).cls, idx, q_nm Y2, host) ∈ q_nx) (hd : decode (q_cd Y) pc = .ok (.invokestatic idx, 3)) (hf : q_rf Y Y2) (hA : As.length = nA) (hAs : ∀ lo sb, As.map (q_sh lo sb) = As.map (q_sh lo 0)) (hst : (st.map fun v => v.category).sum ≤ 8) (hkn : k ≤ q_mc Y ∧ n ≤ q_ms Y) (hC : ∀ z, E = some z → q_C Y2 As M none z) (h : ∀ z, E = some z → q_V Y sc φ k n (pc + 3) ls st z (F z)) : q_V Y sc φ k n pc ls (As.reverse ++ st) M (Option.bind E F) := q_cN (ψ := (fun z : q_Mem => (none, z))) mv w1 hd hf hA hAs hst hkn hC h
theorem q_cVMI {E : Option (Int32 × q_Mem)} {F : (Int32 × q_Mem) → Option α} {Y2 : q_Y} {As : List Value} {b ci N idx nA : Nat} {Cn : String} {T : u_T} (cl : q_Cl ci Cn T N) (mv : q_mV Y2 Cn nA) (w1 : Cond.methodLink (q_nm Y).cls idx (q_nm Y2) ∈ q_tbl) (hd : decode (q_cd Y) pc = .ok (.invokevirtual idx, 3)) (hf : q_rf Y Y2) (hA : As.length = nA) (hAs : ∀ lo sb, As.map (q_sh lo sb) = As.map (q_sh lo 0)) (hst : (st.map fun v => v.category).sum ≤ 8) (hkn : k ≤ q_mc Y ∧ n ≤ q_ms Y) (hb : ∀ z, E = some z → q_is ci M b) (hC : ∀ z, E = some z → q_C Y2 (.ref b :: As) M (some (.int z.1)) z.2) (h : ∀ z, E = some z → q_V Y sc φ k n (pc + 3) ls (.int z.1 :: st) z.2 (F z)) : q_V Y sc φ k n pc ls (As.reverse ++ .ref b :: st) M (Option.bind E F) := q_cV (ψ := (fun z : Int32 × q_Mem => ((some (.int z.1)), z.2))) cl mv w1 hd hf hA hAs hst hkn hb hC h
theorem q_cSMI {E : Option (Int32 × q_Mem)} {F : (Int32 × q_Mem) → Option α} {Y2 : q_Y} {As : List Value} {idx nA : Nat} (mv : q_mS Y2 nA) (w1 : Cond.methodLink (q_nm Y).cls idx (q_nm Y2) ∈ q_tbl) (hd : decode (q_cd Y) pc = .ok (.invokestatic idx, 3)) (hf : q_rf Y Y2) (hA : As.length = nA) (hAs : ∀ lo sb, As.map (q_sh lo sb) = As.map (q_sh lo 0)) (hst : (st.map fun v => v.category).sum ≤ 8) (hkn : k ≤ q_mc Y ∧ n ≤ q_ms Y) (hC : ∀ z, E = some z → q_C Y2 As M (some (.int z.1)) z.2) (h : ∀ z, E = some z → q_V Y sc φ k n (pc + 3) ls (.int z.1 :: st) z.2 (F z)) : q_V Y sc φ k n pc ls (As.reverse ++ st) M (Option.bind E F) := q_cS (ψ := (fun z : Int32 × q_Mem => ((some (.int z.1)), z.2))) mv w1 hd hf hA hAs hst hkn hC h
theorem q_cNMI {E : Option (Int32 × q_Mem)} {F : (Int32 × q_Mem) → Option α} {Y2 : q_Y} {As : List Value} {idx nA : Nat} (mv : q_mS Y2 nA) {host : String} (w1 : ((q_nm Y).cls, idx, q_nm Y2, host) ∈ q_nx) (hd : decode (q_cd Y) pc = .ok (.invokestatic idx, 3)) (hf : q_rf Y Y2) (hA : As.length = nA) (hAs : ∀ lo sb, As.map (q_sh lo sb) = As.map (q_sh lo 0)) (hst : (st.map fun v => v.category).sum ≤ 8) (hkn : k ≤ q_mc Y ∧ n ≤ q_ms Y) (hC : ∀ z, E = some z → q_C Y2 As M (some (.int z.1)) z.2) (h : ∀ z, E = some z → q_V Y sc φ k n (pc + 3) ls (.int z.1 :: st) z.2 (F z)) : q_V Y sc φ k n pc ls (As.reverse ++ st) M (Option.bind E F) := q_cN (ψ := (fun z : Int32 × q_Mem => ((some (.int z.1)), z.2))) mv w1 hd hf hA hAs hst hkn hC h
theorem q_cVMJ {E : Option (Int64 × q_Mem)} {F : (Int64 × q_Mem) → Option α} {Y2 : q_Y} {As : List Value} {b ci N idx nA : Nat} {Cn : String} {T : u_T} (cl : q_Cl ci Cn T N) (mv : q_mV Y2 Cn nA) (w1 : Cond.methodLink (q_nm Y).cls idx (q_nm Y2) ∈ q_tbl) (hd : decode (q_cd Y) pc = .ok (.invokevirtual idx, 3)) (hf : q_rf Y Y2) (hA : As.length = nA) (hAs : ∀ lo sb, As.map (q_sh lo sb) = As.map (q_sh lo 0)) (hst : (st.map fun v => v.category).sum ≤ 8) (hkn : k ≤ q_mc Y ∧ n ≤ q_ms Y) (hb : ∀ z, E = some z → q_is ci M b) (hC : ∀ z, E = some z → q_C Y2 (.ref b :: As) M (some (.long z.1)) z.2) (h : ∀ z, E = some z → q_V Y sc φ k n (pc + 3) ls (.long z.1 :: st) z.2 (F z)) : q_V Y sc φ k n pc ls (As.reverse ++ .ref b :: st) M (Option.bind E F) := q_cV (ψ := (fun z : Int64 × q_Mem => ((some (.long z.1)), z.2))) cl mv w1 hd hf hA hAs hst hkn hb hC h
theorem q_cSMJ {E : Option (Int64 × q_Mem)} {F : (Int64 × q_Mem) → Option α} {Y2 : q_Y} {As : List Value} {idx nA : Nat} (mv : q_mS Y2 nA) (w1 : Cond.methodLink (q_nm Y).cls idx (q_nm Y2) ∈ q_tbl) (hd : decode (q_cd Y) pc = .ok (.invokestatic idx, 3)) (hf : q_rf Y Y2) (hA : As.length = nA) (hAs : ∀ lo sb, As.map (q_sh lo sb) = As.map (q_sh lo 0)) (hst : (st.map fun v => v.category).sum ≤ 8) (hkn : k ≤ q_mc Y ∧ n ≤ q_ms Y) (hC : ∀ z, E = some z → q_C Y2 As M (some (.long z.1)) z.2) (h : ∀ z, E = some z → q_V Y sc φ k n (pc + 3) ls (.long z.1 :: st) z.2 (F z)) : q_V Y sc φ k n pc ls (As.reverse ++ st) M (Option.bind E F) := q_cS (ψ := (fun z : Int64 × q_Mem => ((some (.long z.1)), z.2))) mv w1 hd hf hA hAs hst hkn hC h
theorem q_cNMJ {E : Option (Int64 × q_Mem)} {F : (Int64 × q_Mem) → Option α} {Y2 : q_Y} {As : List Value} {idx nA : Nat} (mv : q_mS Y2 nA) {host : String} (w1 : ((q_nm Y).cls, idx, q_nm Y2, host) ∈ q_nx) (hd : decode (q_cd Y) pc = .ok (.invokestatic idx, 3)) (hf : q_rf Y Y2) (hA : As.length = nA) (hAs : ∀ lo sb, As.map (q_sh lo sb) = As.map (q_sh lo 0)) (hst : (st.map fun v => v.category).sum ≤ 8) (hkn : k ≤ q_mc Y ∧ n ≤ q_ms Y) (hC : ∀ z, E = some z → q_C Y2 As M (some (.long z.1)) z.2) (h : ∀ z, E = some z → q_V Y sc φ k n (pc + 3) ls (.long z.1 :: st) z.2 (F z)) : q_V Y sc φ k n pc ls (As.reverse ++ st) M (Option.bind E F) := q_cN (ψ := (fun z : Int64 × q_Mem => ((some (.long z.1)), z.2))) mv w1 hd hf hA hAs hst hkn hC h
end QW
theorem q_lookD {ps : List (Int × Int)} {d x : Int} (h : ∀ q ∈ ps, ¬ q.1 = x) : Op.lookupswitch.offset ps d x = d := by
  induction ps with
  | nil => rfl
  | cons q l ih =>
    obtain ⟨a, o⟩ := q
    rw [Op.lookupswitch.offset_cons, if_neg (h (a, o) List.mem_cons_self)]
    exact ih (fun z hz => h z (List.mem_cons_of_mem _ hz))
theorem q_nlit {x xl : Int32} {c : Int} (h : ¬ x = xl) (hc : xl.toInt = c) : ¬ c = x.toInt := fun e => h (Int32.toInt_inj.mp (by rw [hc, e]))
theorem q_in1 {w : Cond} (i : Nat) (h : tables_1_1[i]? = some w) (hg : goodWord w = true) : w ∈ q_tbl := List.mem_filter.mpr ⟨List.mem_append_right _ ((fun h => List.mem_append_left _ h : w ∈ tables_1_1 → w ∈ tables_1) (List.mem_of_getElem? h)), hg⟩
theorem q_in2 {w : Cond} (i : Nat) (h : tables_1_2[i]? = some w) (hg : goodWord w = true) : w ∈ q_tbl := List.mem_filter.mpr ⟨List.mem_append_right _ ((fun h => List.mem_append_right _ (List.mem_append_left _ h) : w ∈ tables_1_2 → w ∈ tables_1) (List.mem_of_getElem? h)), hg⟩
theorem q_in3 {w : Cond} (i : Nat) (h : tables_1_3[i]? = some w) (hg : goodWord w = true) : w ∈ q_tbl := List.mem_filter.mpr ⟨List.mem_append_right _ ((fun h => List.mem_append_right _ (List.mem_append_right _ (List.mem_append_left _ h)) : w ∈ tables_1_3 → w ∈ tables_1) (List.mem_of_getElem? h)), hg⟩
theorem q_in4 {w : Cond} (i : Nat) (h : tables_1_4[i]? = some w) (hg : goodWord w = true) : w ∈ q_tbl := List.mem_filter.mpr ⟨List.mem_append_right _ ((fun h => List.mem_append_right _ (List.mem_append_right _ (List.mem_append_right _ (List.mem_append_left _ h))) : w ∈ tables_1_4 → w ∈ tables_1) (List.mem_of_getElem? h)), hg⟩
theorem q_in5 {w : Cond} (i : Nat) (h : tables_1_5[i]? = some w) (hg : goodWord w = true) : w ∈ q_tbl := List.mem_filter.mpr ⟨List.mem_append_right _ ((fun h => List.mem_append_right _ (List.mem_append_right _ (List.mem_append_right _ (List.mem_append_right _ (List.mem_append_left _ h)))) : w ∈ tables_1_5 → w ∈ tables_1) (List.mem_of_getElem? h)), hg⟩
theorem q_in6 {w : Cond} (i : Nat) (h : tables_1_6[i]? = some w) (hg : goodWord w = true) : w ∈ q_tbl := List.mem_filter.mpr ⟨List.mem_append_right _ ((fun h => List.mem_append_right _ (List.mem_append_right _ (List.mem_append_right _ (List.mem_append_right _ (List.mem_append_right _ (List.mem_append_left _ h))))) : w ∈ tables_1_6 → w ∈ tables_1) (List.mem_of_getElem? h)), hg⟩
theorem q_in7 {w : Cond} (i : Nat) (h : tables_1_7[i]? = some w) (hg : goodWord w = true) : w ∈ q_tbl := List.mem_filter.mpr ⟨List.mem_append_right _ ((fun h => List.mem_append_right _ (List.mem_append_right _ (List.mem_append_right _ (List.mem_append_right _ (List.mem_append_right _ (List.mem_append_right _ (List.mem_append_left _ h)))))) : w ∈ tables_1_7 → w ∈ tables_1) (List.mem_of_getElem? h)), hg⟩
theorem q_in8 {w : Cond} (i : Nat) (h : tables_1_8[i]? = some w) (hg : goodWord w = true) : w ∈ q_tbl := List.mem_filter.mpr ⟨List.mem_append_right _ ((fun h => List.mem_append_right _ (List.mem_append_right _ (List.mem_append_right _ (List.mem_append_right _ (List.mem_append_right _ (List.mem_append_right _ (List.mem_append_right _ (h))))))) : w ∈ tables_1_8 → w ∈ tables_1) (List.mem_of_getElem? h)), hg⟩
theorem q_inP {w : Cond} (i : Nat) (h : (k2_sels lw_privs)[i]? = some w) (hg : goodWord w = true) : w ∈ q_tbl := List.mem_filter.mpr ⟨List.mem_append_left _ (List.mem_of_getElem? h), hg⟩
theorem qo_2 : Cond.instanceMethod Lib.objectInit ∈ q_tbl := q_in1 24 rfl rfl
theorem qo_3 : Cond.code Lib.objectInit ⟨#[0xb1]⟩ 1 none ∈ q_tbl := q_in1 25 rfl rfl
theorem qy_1 : Cond.native arraycopyName ∈ q_tbl := q_in5 125 rfl rfl
theorem qy_2 : Cond.static arraycopyName ∈ q_tbl := q_in5 124 rfl rfl
theorem qy_3 : Cond.initialized "java/lang/System" ∈ q_tbl := q_in1 17 rfl rfl

theorem qm_mabs_1 : Cond.static Lib.Math.abs.name ∈ q_tbl := q_in3 68 rfl rfl
theorem qm_mabs_3 : Cond.code Lib.Math.abs.name Lib.Math.abs.code 1 (some .int) ∈ q_tbl := q_in3 69 rfl rfl
theorem qm_mabsJ_1 : Cond.static Lib.MathLoose.abs_long.x ∈ q_tbl := q_in3 88 rfl rfl
theorem qm_mabsJ_3 : Cond.code Lib.MathLoose.abs_long.x Lib.MathLoose.abs_long.code 2 (some .long) ∈ q_tbl := q_in3 89 rfl rfl
theorem qm_mmax_1 : Cond.static Lib.Math.max.name ∈ q_tbl := q_in1 39 rfl rfl
theorem qm_mmax_3 : Cond.code Lib.Math.max.name Lib.Math.max.code 2 (some .int) ∈ q_tbl := q_in1 40 rfl rfl
theorem qm_mmaxJ_1 : Cond.static Lib.MathLoose.max_long.x ∈ q_tbl := q_in4 118 rfl rfl
theorem qm_mmaxJ_3 : Cond.code Lib.MathLoose.max_long.x Lib.MathLoose.max_long.code 4 (some .long) ∈ q_tbl := q_in4 119 rfl rfl
theorem qm_mmin_1 : Cond.static Lib.Math.min.name ∈ q_tbl := q_in3 4 rfl rfl
theorem qm_mmin_3 : Cond.code Lib.Math.min.name Lib.Math.min.code 2 (some .int) ∈ q_tbl := q_in3 5 rfl rfl
theorem qm_mminJ_1 : Cond.static Lib.MathLoose.min_long.x ∈ q_tbl := q_in4 115 rfl rfl
theorem qm_mminJ_3 : Cond.code Lib.MathLoose.min_long.x Lib.MathLoose.min_long.code 4 (some .long) ∈ q_tbl := q_in4 116 rfl rfl
theorem qm_2 : Cond.initialized "java/lang/Math" ∈ q_tbl := q_in1 4 rfl rfl
theorem qa_int : Cond.arrayClass .int ∈ q_tbl := q_in1 62 rfl rfl
theorem qa_long : Cond.arrayClass .long ∈ q_tbl := q_in2 0 rfl rfl
theorem qa_boolean : Cond.arrayClass .boolean ∈ q_tbl := q_in1 173 rfl rfl
theorem cw_X0 : ∀ w ∈ u_ws RX0 TX0 2, w ∈ q_tbl := by
  intro w hw
  obtain ⟨k, hk, rfl⟩ := List.mem_map.mp hw
  have hk := List.mem_range.mp hk
  rcases (show k = 0 ∨ k = 1 by omega) with rfl | rfl
  · exact q_in2 9 rfl rfl
  · exact q_in2 11 rfl rfl
theorem cl_X0 : q_Cl 0 RX0 TX0 2 := ⟨by decide, rfl, cw_X0, tyX0_ok, nmX0, rfl⟩
theorem q_dv_X0 {M : q_Mem} : ∀ j, j < 2 → defaultValue (q_ty 0 j) = q_fv 0 (q_nw M 0 0) M.1 (q_ty 0 j) j := by
  intro j hj
  unfold q_fv
  rw [q_I_nw, q_J_nw, q_G_nw]
  rcases (show j = 0 ∨ j = 1 by omega) with rfl | rfl <;> rfl
theorem cw_X2 : ∀ w ∈ u_ws RX2 TX2 6, w ∈ q_tbl := by
  intro w hw
  obtain ⟨k, hk, rfl⟩ := List.mem_map.mp hw
  have hk := List.mem_range.mp hk
  rcases (show k = 0 ∨ k = 1 ∨ k = 2 ∨ k = 3 ∨ k = 4 ∨ k = 5 by omega) with rfl | rfl | rfl | rfl | rfl | rfl
  · exact q_in2 96 rfl rfl
  · exact q_in2 98 rfl rfl
  · exact q_in2 100 rfl rfl
  · exact q_in2 102 rfl rfl
  · exact q_in2 104 rfl rfl
  · exact q_in2 106 rfl rfl
theorem cl_X2 : q_Cl 1 RX2 TX2 6 := ⟨by decide, rfl, cw_X2, tyX2_ok, nmX2, rfl⟩
theorem q_dv_X2 {M : q_Mem} : ∀ j, j < 6 → defaultValue (q_ty 1 j) = q_fv 0 (q_nw M 1 0) M.1 (q_ty 1 j) j := by
  intro j hj
  unfold q_fv
  rw [q_I_nw, q_J_nw, q_G_nw]
  rcases (show j = 0 ∨ j = 1 ∨ j = 2 ∨ j = 3 ∨ j = 4 ∨ j = 5 by omega) with rfl | rfl | rfl | rfl | rfl | rfl <;> rfl
theorem cw_X3 : ∀ w ∈ u_ws RX3 TX3 8, w ∈ q_tbl := by
  intro w hw
  obtain ⟨k, hk, rfl⟩ := List.mem_map.mp hw
  have hk := List.mem_range.mp hk
  rcases (show k = 0 ∨ k = 1 ∨ k = 2 ∨ k = 3 ∨ k = 4 ∨ k = 5 ∨ k = 6 ∨ k = 7 by omega) with rfl | rfl | rfl | rfl | rfl | rfl | rfl | rfl
  · exact q_in2 67 rfl rfl
  · exact q_in2 69 rfl rfl
  · exact q_in2 71 rfl rfl
  · exact q_in2 73 rfl rfl
  · exact q_in2 75 rfl rfl
  · exact q_in2 77 rfl rfl
  · exact q_in2 79 rfl rfl
  · exact q_in2 81 rfl rfl
theorem cl_X3 : q_Cl 2 RX3 TX3 8 := ⟨by decide, rfl, cw_X3, tyX3_ok, nmX3, rfl⟩
theorem q_dv_X3 {M : q_Mem} : ∀ j, j < 8 → defaultValue (q_ty 2 j) = q_fv 0 (q_nw M 2 0) M.1 (q_ty 2 j) j := by
  intro j hj
  unfold q_fv
  rw [q_I_nw, q_J_nw, q_G_nw]
  rcases (show j = 0 ∨ j = 1 ∨ j = 2 ∨ j = 3 ∨ j = 4 ∨ j = 5 ∨ j = 6 ∨ j = 7 by omega) with rfl | rfl | rfl | rfl | rfl | rfl | rfl | rfl <;> rfl
theorem cw_X4 : ∀ w ∈ u_ws RX4 TX4 2, w ∈ q_tbl := by
  intro w hw
  obtain ⟨k, hk, rfl⟩ := List.mem_map.mp hw
  have hk := List.mem_range.mp hk
  rcases (show k = 0 ∨ k = 1 by omega) with rfl | rfl
  · exact q_in1 182 rfl rfl
  · exact q_in1 184 rfl rfl
theorem cl_X4 : q_Cl 3 RX4 TX4 2 := ⟨by decide, rfl, cw_X4, tyX4_ok, nmX4, rfl⟩
theorem q_dv_X4 {M : q_Mem} : ∀ j, j < 2 → defaultValue (q_ty 3 j) = q_fv 0 (q_nw M 3 0) M.1 (q_ty 3 j) j := by
  intro j hj
  unfold q_fv
  rw [q_I_nw, q_J_nw, q_G_nw]
  rcases (show j = 0 ∨ j = 1 by omega) with rfl | rfl <;> rfl
theorem cw_X5 : ∀ w ∈ u_ws RX5 TX5 16, w ∈ q_tbl := by
  intro w hw
  obtain ⟨k, hk, rfl⟩ := List.mem_map.mp hw
  have hk := List.mem_range.mp hk
  rcases (show k = 0 ∨ k = 1 ∨ k = 2 ∨ k = 3 ∨ k = 4 ∨ k = 5 ∨ k = 6 ∨ k = 7 ∨ k = 8 ∨ k = 9 ∨ k = 10 ∨ k = 11 ∨ k = 12 ∨ k = 13 ∨ k = 14 ∨ k = 15 by omega) with rfl | rfl | rfl | rfl | rfl | rfl | rfl | rfl | rfl | rfl | rfl | rfl | rfl | rfl | rfl | rfl
  · exact q_in1 123 rfl rfl
  · exact q_in1 125 rfl rfl
  · exact q_in1 127 rfl rfl
  · exact q_in1 129 rfl rfl
  · exact q_in1 131 rfl rfl
  · exact q_in1 133 rfl rfl
  · exact q_in1 135 rfl rfl
  · exact q_in1 137 rfl rfl
  · exact q_in1 139 rfl rfl
  · exact q_in1 141 rfl rfl
  · exact q_in1 143 rfl rfl
  · exact q_in1 145 rfl rfl
  · exact q_in1 147 rfl rfl
  · exact q_in1 149 rfl rfl
  · exact q_in1 151 rfl rfl
  · exact q_in1 153 rfl rfl
theorem cl_X5 : q_Cl 4 RX5 TX5 16 := ⟨by decide, rfl, cw_X5, tyX5_ok, nmX5, rfl⟩
theorem q_dv_X5 {M : q_Mem} : ∀ j, j < 16 → defaultValue (q_ty 4 j) = q_fv 0 (q_nw M 4 0) M.1 (q_ty 4 j) j := by
  intro j hj
  unfold q_fv
  rw [q_I_nw, q_J_nw, q_G_nw]
  rcases (show j = 0 ∨ j = 1 ∨ j = 2 ∨ j = 3 ∨ j = 4 ∨ j = 5 ∨ j = 6 ∨ j = 7 ∨ j = 8 ∨ j = 9 ∨ j = 10 ∨ j = 11 ∨ j = 12 ∨ j = 13 ∨ j = 14 ∨ j = 15 by omega) with rfl | rfl | rfl | rfl | rfl | rfl | rfl | rfl | rfl | rfl | rfl | rfl | rfl | rfl | rfl | rfl <;> rfl
theorem cw_X6 : ∀ w ∈ u_ws RX6 TX6 3, w ∈ q_tbl := by
  intro w hw
  obtain ⟨k, hk, rfl⟩ := List.mem_map.mp hw
  have hk := List.mem_range.mp hk
  rcases (show k = 0 ∨ k = 1 ∨ k = 2 by omega) with rfl | rfl | rfl
  · exact q_in1 166 rfl rfl
  · exact q_in1 168 rfl rfl
  · exact q_in1 170 rfl rfl
theorem cl_X6 : q_Cl 5 RX6 TX6 3 := ⟨by decide, rfl, cw_X6, tyX6_ok, nmX6, rfl⟩
theorem q_dv_X6 {M : q_Mem} : ∀ j, j < 3 → defaultValue (q_ty 5 j) = q_fv 0 (q_nw M 5 0) M.1 (q_ty 5 j) j := by
  intro j hj
  unfold q_fv
  rw [q_I_nw, q_J_nw, q_G_nw]
  rcases (show j = 0 ∨ j = 1 ∨ j = 2 by omega) with rfl | rfl | rfl <;> rfl
theorem cw_X7 : ∀ w ∈ u_ws RX7 TX7 10, w ∈ q_tbl := by
  intro w hw
  obtain ⟨k, hk, rfl⟩ := List.mem_map.mp hw
  have hk := List.mem_range.mp hk
  rcases (show k = 0 ∨ k = 1 ∨ k = 2 ∨ k = 3 ∨ k = 4 ∨ k = 5 ∨ k = 6 ∨ k = 7 ∨ k = 8 ∨ k = 9 by omega) with rfl | rfl | rfl | rfl | rfl | rfl | rfl | rfl | rfl | rfl
  · exact q_in2 31 rfl rfl
  · exact q_in2 33 rfl rfl
  · exact q_in2 35 rfl rfl
  · exact q_in2 37 rfl rfl
  · exact q_in2 39 rfl rfl
  · exact q_in2 41 rfl rfl
  · exact q_in2 43 rfl rfl
  · exact q_in2 45 rfl rfl
  · exact q_in2 47 rfl rfl
  · exact q_in2 49 rfl rfl
theorem cl_X7 : q_Cl 6 RX7 TX7 10 := ⟨by decide, rfl, cw_X7, tyX7_ok, nmX7, rfl⟩
theorem q_dv_X7 {M : q_Mem} : ∀ j, j < 10 → defaultValue (q_ty 6 j) = q_fv 0 (q_nw M 6 0) M.1 (q_ty 6 j) j := by
  intro j hj
  unfold q_fv
  rw [q_I_nw, q_J_nw, q_G_nw]
  rcases (show j = 0 ∨ j = 1 ∨ j = 2 ∨ j = 3 ∨ j = 4 ∨ j = 5 ∨ j = 6 ∨ j = 7 ∨ j = 8 ∨ j = 9 by omega) with rfl | rfl | rfl | rfl | rfl | rfl | rfl | rfl | rfl | rfl <;> rfl
theorem cw_X8 : ∀ w ∈ u_ws RX8 TX8 14, w ∈ q_tbl := by
  intro w hw
  obtain ⟨k, hk, rfl⟩ := List.mem_map.mp hw
  have hk := List.mem_range.mp hk
  rcases (show k = 0 ∨ k = 1 ∨ k = 2 ∨ k = 3 ∨ k = 4 ∨ k = 5 ∨ k = 6 ∨ k = 7 ∨ k = 8 ∨ k = 9 ∨ k = 10 ∨ k = 11 ∨ k = 12 ∨ k = 13 by omega) with rfl | rfl | rfl | rfl | rfl | rfl | rfl | rfl | rfl | rfl | rfl | rfl | rfl | rfl
  · exact q_in1 211 rfl rfl
  · exact q_in1 213 rfl rfl
  · exact q_in1 215 rfl rfl
  · exact q_in1 217 rfl rfl
  · exact q_in1 219 rfl rfl
  · exact q_in1 221 rfl rfl
  · exact q_in1 223 rfl rfl
  · exact q_in1 225 rfl rfl
  · exact q_in1 227 rfl rfl
  · exact q_in1 229 rfl rfl
  · exact q_in1 231 rfl rfl
  · exact q_in1 233 rfl rfl
  · exact q_in1 235 rfl rfl
  · exact q_in1 237 rfl rfl
theorem cl_X8 : q_Cl 7 RX8 TX8 14 := ⟨by decide, rfl, cw_X8, tyX8_ok, nmX8, rfl⟩
theorem q_dv_X8 {M : q_Mem} : ∀ j, j < 14 → defaultValue (q_ty 7 j) = q_fv 0 (q_nw M 7 0) M.1 (q_ty 7 j) j := by
  intro j hj
  unfold q_fv
  rw [q_I_nw, q_J_nw, q_G_nw]
  rcases (show j = 0 ∨ j = 1 ∨ j = 2 ∨ j = 3 ∨ j = 4 ∨ j = 5 ∨ j = 6 ∨ j = 7 ∨ j = 8 ∨ j = 9 ∨ j = 10 ∨ j = 11 ∨ j = 12 ∨ j = 13 by omega) with rfl | rfl | rfl | rfl | rfl | rfl | rfl | rfl | rfl | rfl | rfl | rfl | rfl | rfl <;> rfl
theorem cw_X9 : ∀ w ∈ u_ws RX9 TX9 4, w ∈ q_tbl := by
  intro w hw
  obtain ⟨k, hk, rfl⟩ := List.mem_map.mp hw
  have hk := List.mem_range.mp hk
  rcases (show k = 0 ∨ k = 1 ∨ k = 2 ∨ k = 3 by omega) with rfl | rfl | rfl | rfl
  · exact q_in1 53 rfl rfl
  · exact q_in1 55 rfl rfl
  · exact q_in1 57 rfl rfl
  · exact q_in1 59 rfl rfl
theorem cl_X9 : q_Cl 8 RX9 TX9 4 := ⟨by decide, rfl, cw_X9, tyX9_ok, nmX9, rfl⟩
theorem q_dv_X9 {M : q_Mem} : ∀ j, j < 4 → defaultValue (q_ty 8 j) = q_fv 0 (q_nw M 8 0) M.1 (q_ty 8 j) j := by
  intro j hj
  unfold q_fv
  rw [q_I_nw, q_J_nw, q_G_nw]
  rcases (show j = 0 ∨ j = 1 ∨ j = 2 ∨ j = 3 by omega) with rfl | rfl | rfl | rfl <;> rfl
theorem cw_X10 : ∀ w ∈ u_ws RX10 TX10 3, w ∈ q_tbl := by
  intro w hw
  obtain ⟨k, hk, rfl⟩ := List.mem_map.mp hw
  have hk := List.mem_range.mp hk
  rcases (show k = 0 ∨ k = 1 ∨ k = 2 by omega) with rfl | rfl | rfl
  · exact q_in2 120 rfl rfl
  · exact q_in2 122 rfl rfl
  · exact q_in2 124 rfl rfl
theorem cl_X10 : q_Cl 9 RX10 TX10 3 := ⟨by decide, rfl, cw_X10, tyX10_ok, nmX10, rfl⟩
theorem q_dv_X10 {M : q_Mem} : ∀ j, j < 3 → defaultValue (q_ty 9 j) = q_fv 0 (q_nw M 9 0) M.1 (q_ty 9 j) j := by
  intro j hj
  unfold q_fv
  rw [q_I_nw, q_J_nw, q_G_nw]
  rcases (show j = 0 ∨ j = 1 ∨ j = 2 by omega) with rfl | rfl | rfl <;> rfl
theorem cw_X11 : ∀ w ∈ u_ws RX11 TX11 11, w ∈ q_tbl := by
  intro w hw
  obtain ⟨k, hk, rfl⟩ := List.mem_map.mp hw
  have hk := List.mem_range.mp hk
  rcases (show k = 0 ∨ k = 1 ∨ k = 2 ∨ k = 3 ∨ k = 4 ∨ k = 5 ∨ k = 6 ∨ k = 7 ∨ k = 8 ∨ k = 9 ∨ k = 10 by omega) with rfl | rfl | rfl | rfl | rfl | rfl | rfl | rfl | rfl | rfl | rfl
  · exact q_in2 138 rfl rfl
  · exact q_in2 140 rfl rfl
  · exact q_in2 142 rfl rfl
  · exact q_in2 144 rfl rfl
  · exact q_in2 146 rfl rfl
  · exact q_in2 148 rfl rfl
  · exact q_in2 150 rfl rfl
  · exact q_in2 152 rfl rfl
  · exact q_in2 154 rfl rfl
  · exact q_in2 156 rfl rfl
  · exact q_in2 158 rfl rfl
theorem cl_X11 : q_Cl 10 RX11 TX11 11 := ⟨by decide, rfl, cw_X11, tyX11_ok, nmX11, rfl⟩
theorem q_dv_X11 {M : q_Mem} : ∀ j, j < 11 → defaultValue (q_ty 10 j) = q_fv 0 (q_nw M 10 0) M.1 (q_ty 10 j) j := by
  intro j hj
  unfold q_fv
  rw [q_I_nw, q_J_nw, q_G_nw]
  rcases (show j = 0 ∨ j = 1 ∨ j = 2 ∨ j = 3 ∨ j = 4 ∨ j = 5 ∨ j = 6 ∨ j = 7 ∨ j = 8 ∨ j = 9 ∨ j = 10 by omega) with rfl | rfl | rfl | rfl | rfl | rfl | rfl | rfl | rfl | rfl | rfl <;> rfl
theorem cw_X12 : ∀ w ∈ u_ws RX12 TX12 31, w ∈ q_tbl := by
  intro w hw
  obtain ⟨k, hk, rfl⟩ := List.mem_map.mp hw
  have hk := List.mem_range.mp hk
  rcases (show k = 0 ∨ k = 1 ∨ k = 2 ∨ k = 3 ∨ k = 4 ∨ k = 5 ∨ k = 6 ∨ k = 7 ∨ k = 8 ∨ k = 9 ∨ k = 10 ∨ k = 11 ∨ k = 12 ∨ k = 13 ∨ k = 14 ∨ k = 15 ∨ k = 16 ∨ k = 17 ∨ k = 18 ∨ k = 19 ∨ k = 20 ∨ k = 21 ∨ k = 22 ∨ k = 23 ∨ k = 24 ∨ k = 25 ∨ k = 26 ∨ k = 27 ∨ k = 28 ∨ k = 29 ∨ k = 30 by omega) with rfl | rfl | rfl | rfl | rfl | rfl | rfl | rfl | rfl | rfl | rfl | rfl | rfl | rfl | rfl | rfl | rfl | rfl | rfl | rfl | rfl | rfl | rfl | rfl | rfl | rfl | rfl | rfl | rfl | rfl | rfl
  · exact q_in5 187 rfl rfl
  · exact q_in5 189 rfl rfl
  · exact q_in5 191 rfl rfl
  · exact q_in5 193 rfl rfl
  · exact q_in5 195 rfl rfl
  · exact q_in5 197 rfl rfl
  · exact q_in5 199 rfl rfl
  · exact q_in5 201 rfl rfl
  · exact q_in5 203 rfl rfl
  · exact q_in5 205 rfl rfl
  · exact q_in5 207 rfl rfl
  · exact q_in5 209 rfl rfl
  · exact q_in5 211 rfl rfl
  · exact q_in5 213 rfl rfl
  · exact q_in5 215 rfl rfl
  · exact q_in5 217 rfl rfl
  · exact q_in5 219 rfl rfl
  · exact q_in5 221 rfl rfl
  · exact q_in5 223 rfl rfl
  · exact q_in5 225 rfl rfl
  · exact q_in5 227 rfl rfl
  · exact q_in5 229 rfl rfl
  · exact q_in5 231 rfl rfl
  · exact q_in5 233 rfl rfl
  · exact q_in5 235 rfl rfl
  · exact q_in5 237 rfl rfl
  · exact q_in5 239 rfl rfl
  · exact q_in6 1 rfl rfl
  · exact q_in6 3 rfl rfl
  · exact q_in6 5 rfl rfl
  · exact q_in6 7 rfl rfl
theorem cl_X12 : q_Cl 11 RX12 TX12 31 := ⟨by decide, rfl, cw_X12, tyX12_ok, nmX12, rfl⟩
theorem q_dv_X12 {M : q_Mem} : ∀ j, j < 31 → defaultValue (q_ty 11 j) = q_fv 0 (q_nw M 11 0) M.1 (q_ty 11 j) j := by
  intro j hj
  unfold q_fv
  rw [q_I_nw, q_J_nw, q_G_nw]
  rcases (show j = 0 ∨ j = 1 ∨ j = 2 ∨ j = 3 ∨ j = 4 ∨ j = 5 ∨ j = 6 ∨ j = 7 ∨ j = 8 ∨ j = 9 ∨ j = 10 ∨ j = 11 ∨ j = 12 ∨ j = 13 ∨ j = 14 ∨ j = 15 ∨ j = 16 ∨ j = 17 ∨ j = 18 ∨ j = 19 ∨ j = 20 ∨ j = 21 ∨ j = 22 ∨ j = 23 ∨ j = 24 ∨ j = 25 ∨ j = 26 ∨ j = 27 ∨ j = 28 ∨ j = 29 ∨ j = 30 by omega) with rfl | rfl | rfl | rfl | rfl | rfl | rfl | rfl | rfl | rfl | rfl | rfl | rfl | rfl | rfl | rfl | rfl | rfl | rfl | rfl | rfl | rfl | rfl | rfl | rfl | rfl | rfl | rfl | rfl | rfl | rfl <;> rfl
theorem qw_1 : Cond.initialized "CountyCream" ∈ q_tbl := q_in1 1 rfl rfl
theorem qw_2 : Cond.initialized "CountyCream$House" ∈ q_tbl := q_in1 2 rfl rfl
theorem qw_3 : Cond.initialized "CountyCream$Rows" ∈ q_tbl := q_in1 3 rfl rfl
theorem qw_5 : Cond.initialized "CountyCream$Lab" ∈ q_tbl := q_in1 5 rfl rfl
theorem qw_6 : Cond.initialized "CountyCream$Dairy" ∈ q_tbl := q_in1 6 rfl rfl
theorem qw_7 : Cond.initialized "CountyCream$Reader" ∈ q_tbl := q_in1 7 rfl rfl
theorem qw_8 : Cond.initialized "CountyCream$Ballot" ∈ q_tbl := q_in1 8 rfl rfl
theorem qw_9 : Cond.initialized "CountyCream$Payday" ∈ q_tbl := q_in1 9 rfl rfl
theorem qw_10 : Cond.initialized "CountyCream$Cart" ∈ q_tbl := q_in1 10 rfl rfl
theorem qw_11 : Cond.initialized "CountyCream$Blend" ∈ q_tbl := q_in1 11 rfl rfl
theorem qw_12 : Cond.initialized "CountyCream$Yard" ∈ q_tbl := q_in1 12 rfl rfl
theorem qw_13 : Cond.initialized "CountyCreamModel" ∈ q_tbl := q_in1 13 rfl rfl
theorem qw_18 : Cond.classLink "CountyCreamLaw" 7 "CountyCream" ∈ q_tbl := q_in1 18 rfl rfl
theorem qw_19 : Cond.instantiable "CountyCream" 11 ∈ q_tbl := q_in1 19 rfl rfl
theorem qw_20 : Cond.methodLink "CountyCreamLaw" 9 yX11_init ∈ q_tbl := q_in1 20 rfl rfl
theorem qw_23 : Cond.methodLink "CountyCream" 3 Lib.objectInit ∈ q_tbl := q_in1 23 rfl rfl
theorem qw_26 : Cond.classLink "CountyCream" 9 "CountyCream$House" ∈ q_tbl := q_in1 26 rfl rfl
theorem qw_27 : Cond.instantiable "CountyCream$House" 16 ∈ q_tbl := q_in1 27 rfl rfl
theorem qw_28 : Cond.methodLink "CountyCream" 11 yX5_init ∈ q_tbl := q_in1 28 rfl rfl
theorem qw_31 : Cond.methodLink "CountyCream$House" 3 Lib.objectInit ∈ q_tbl := q_in1 31 rfl rfl
theorem qw_32 : Cond.classLink "CountyCream$House" 9 "CountyCream$Rows" ∈ q_tbl := q_in1 32 rfl rfl
theorem qw_33 : Cond.instantiable "CountyCream$Rows" 4 ∈ q_tbl := q_in1 33 rfl rfl
theorem qw_34 : Cond.methodLink "CountyCream$House" 11 yX9_init ∈ q_tbl := q_in1 34 rfl rfl
theorem qw_37 : Cond.methodLink "CountyCream$Rows" 3 Lib.objectInit ∈ q_tbl := q_in1 37 rfl rfl
theorem qw_38 : Cond.methodLink "CountyCream$Rows" 18 Lib.Math.max.name ∈ q_tbl := q_in1 38 rfl rfl
theorem qw_41 : Cond.fieldLink "CountyCream$Rows" 9 "CountyCream$Rows" "most" "I" ∈ q_tbl := q_in1 41 rfl rfl
theorem qw_42 : Cond.fieldLink "CountyCream$Rows" 15 "CountyCream$Rows" "width" "I" ∈ q_tbl := q_in1 42 rfl rfl
theorem qw_43 : Cond.fieldLink "CountyCream$Rows" 24 "CountyCream$Rows" "cells" "[I" ∈ q_tbl := q_in1 43 rfl rfl
theorem qw_44 : Cond.fieldLink "CountyCream$Rows" 28 "CountyCream$Rows" "many" "I" ∈ q_tbl := q_in1 44 rfl rfl
theorem qw_45 : Cond.fieldLink "CountyCream$Lab" 26 "CountyCream$Rows" "many" "I" ∈ q_tbl := q_in1 45 rfl rfl
theorem qw_46 : Cond.fieldLink "CountyCream$Blend" 32 "CountyCream$Rows" "many" "I" ∈ q_tbl := q_in1 46 rfl rfl
theorem qw_47 : Cond.fieldLink "CountyCream$Dairy" 25 "CountyCream$Rows" "many" "I" ∈ q_tbl := q_in1 47 rfl rfl
theorem qw_48 : Cond.fieldLink "CountyCream$Yard" 29 "CountyCream$Rows" "many" "I" ∈ q_tbl := q_in1 48 rfl rfl
theorem qw_49 : Cond.fieldLink "CountyCream$Payday" 67 "CountyCream$Rows" "many" "I" ∈ q_tbl := q_in1 49 rfl rfl
theorem qw_50 : Cond.fieldLink "CountyCream$Cart" 69 "CountyCream$Rows" "many" "I" ∈ q_tbl := q_in1 50 rfl rfl
theorem qw_51 : Cond.fieldLink "CountyCream$Ballot" 53 "CountyCream$Rows" "many" "I" ∈ q_tbl := q_in1 51 rfl rfl
theorem qw_52 : Cond.fieldLink "CountyCream" 283 "CountyCream$Rows" "many" "I" ∈ q_tbl := q_in1 52 rfl rfl
theorem qw_63 : Cond.methodLink "CountyCream$House" 69 yX9_come ∈ q_tbl := q_in1 63 rfl rfl
theorem qw_67 : Cond.methodLink "CountyCream$Rows" 31 yX9_put ∈ q_tbl := q_in1 67 rfl rfl
theorem qw_71 : Cond.fieldLink "CountyCream$House" 14 "CountyCream$House" "farms" "LCountyCream$Rows;" ∈ q_tbl := q_in1 71 rfl rfl
theorem qw_72 : Cond.fieldLink "CountyCream" 100 "CountyCream$House" "farms" "LCountyCream$Rows;" ∈ q_tbl := q_in1 72 rfl rfl
theorem qw_73 : Cond.fieldLink "CountyCream$Yard" 46 "CountyCream$House" "farms" "LCountyCream$Rows;" ∈ q_tbl := q_in1 73 rfl rfl
theorem qw_74 : Cond.fieldLink "CountyCream$Cart" 63 "CountyCream$House" "farms" "LCountyCream$Rows;" ∈ q_tbl := q_in1 74 rfl rfl
theorem qw_75 : Cond.fieldLink "CountyCream$Ballot" 50 "CountyCream$House" "farms" "LCountyCream$Rows;" ∈ q_tbl := q_in1 75 rfl rfl
theorem qw_76 : Cond.fieldLink "CountyCream$Payday" 102 "CountyCream$House" "farms" "LCountyCream$Rows;" ∈ q_tbl := q_in1 76 rfl rfl
theorem qw_77 : Cond.fieldLink "CountyCream$House" 20 "CountyCream$House" "cans" "LCountyCream$Rows;" ∈ q_tbl := q_in1 77 rfl rfl
theorem qw_78 : Cond.fieldLink "CountyCream$Dairy" 19 "CountyCream$House" "cans" "LCountyCream$Rows;" ∈ q_tbl := q_in1 78 rfl rfl
theorem qw_79 : Cond.fieldLink "CountyCream$Payday" 62 "CountyCream$House" "cans" "LCountyCream$Rows;" ∈ q_tbl := q_in1 79 rfl rfl
theorem qw_80 : Cond.fieldLink "CountyCream" 124 "CountyCream$House" "cans" "LCountyCream$Rows;" ∈ q_tbl := q_in1 80 rfl rfl
theorem qw_81 : Cond.fieldLink "CountyCream$Lab" 64 "CountyCream$House" "cans" "LCountyCream$Rows;" ∈ q_tbl := q_in1 81 rfl rfl
theorem qw_82 : Cond.fieldLink "CountyCream$Lab" 19 "CountyCream$House" "tests" "LCountyCream$Rows;" ∈ q_tbl := q_in1 82 rfl rfl
theorem qw_83 : Cond.fieldLink "CountyCream$House" 23 "CountyCream$House" "tests" "LCountyCream$Rows;" ∈ q_tbl := q_in1 83 rfl rfl
theorem qw_84 : Cond.fieldLink "CountyCream$Payday" 77 "CountyCream$House" "tests" "LCountyCream$Rows;" ∈ q_tbl := q_in1 84 rfl rfl
theorem qw_85 : Cond.fieldLink "CountyCream" 130 "CountyCream$House" "tests" "LCountyCream$Rows;" ∈ q_tbl := q_in1 85 rfl rfl
theorem qw_86 : Cond.fieldLink "CountyCream$House" 26 "CountyCream$House" "churns" "LCountyCream$Rows;" ∈ q_tbl := q_in1 86 rfl rfl
theorem qw_87 : Cond.fieldLink "CountyCream$Dairy" 35 "CountyCream$House" "churns" "LCountyCream$Rows;" ∈ q_tbl := q_in1 87 rfl rfl
theorem qw_88 : Cond.fieldLink "CountyCream$Payday" 87 "CountyCream$House" "churns" "LCountyCream$Rows;" ∈ q_tbl := q_in1 88 rfl rfl
theorem qw_89 : Cond.fieldLink "CountyCream" 165 "CountyCream$House" "churns" "LCountyCream$Rows;" ∈ q_tbl := q_in1 89 rfl rfl
theorem qw_90 : Cond.fieldLink "CountyCream$House" 29 "CountyCream$House" "boxes" "LCountyCream$Rows;" ∈ q_tbl := q_in1 90 rfl rfl
theorem qw_91 : Cond.fieldLink "CountyCream$Payday" 146 "CountyCream$House" "boxes" "LCountyCream$Rows;" ∈ q_tbl := q_in1 91 rfl rfl
theorem qw_92 : Cond.fieldLink "CountyCream$Dairy" 74 "CountyCream$House" "boxes" "LCountyCream$Rows;" ∈ q_tbl := q_in1 92 rfl rfl
theorem qw_93 : Cond.fieldLink "CountyCream" 191 "CountyCream$House" "boxes" "LCountyCream$Rows;" ∈ q_tbl := q_in1 93 rfl rfl
theorem qw_94 : Cond.fieldLink "CountyCream$House" 32 "CountyCream$House" "texts" "LCountyCream$Rows;" ∈ q_tbl := q_in1 94 rfl rfl
theorem qw_95 : Cond.fieldLink "CountyCream$Ballot" 28 "CountyCream$House" "texts" "LCountyCream$Rows;" ∈ q_tbl := q_in1 95 rfl rfl
theorem qw_96 : Cond.fieldLink "CountyCream" 202 "CountyCream$House" "texts" "LCountyCream$Rows;" ∈ q_tbl := q_in1 96 rfl rfl
theorem qw_97 : Cond.fieldLink "CountyCream$Ballot" 15 "CountyCream$House" "motions" "LCountyCream$Rows;" ∈ q_tbl := q_in1 97 rfl rfl
theorem qw_98 : Cond.fieldLink "CountyCream$House" 35 "CountyCream$House" "motions" "LCountyCream$Rows;" ∈ q_tbl := q_in1 98 rfl rfl
theorem qw_99 : Cond.fieldLink "CountyCream$Payday" 113 "CountyCream$House" "motions" "LCountyCream$Rows;" ∈ q_tbl := q_in1 99 rfl rfl
theorem qw_100 : Cond.fieldLink "CountyCream" 236 "CountyCream$House" "motions" "LCountyCream$Rows;" ∈ q_tbl := q_in1 100 rfl rfl
theorem qw_101 : Cond.fieldLink "CountyCream$House" 40 "CountyCream$House" "creams" "LCountyCream$Rows;" ∈ q_tbl := q_in1 101 rfl rfl
theorem qw_102 : Cond.fieldLink "CountyCream" 74 "CountyCream$House" "creams" "LCountyCream$Rows;" ∈ q_tbl := q_in1 102 rfl rfl
theorem qw_103 : Cond.fieldLink "CountyCream$House" 43 "CountyCream$House" "calvings" "LCountyCream$Rows;" ∈ q_tbl := q_in1 103 rfl rfl
theorem qw_104 : Cond.fieldLink "CountyCream" 297 "CountyCream$House" "calvings" "LCountyCream$Rows;" ∈ q_tbl := q_in1 104 rfl rfl
theorem qw_105 : Cond.fieldLink "CountyCream$House" 46 "CountyCream$House" "sites" "LCountyCream$Rows;" ∈ q_tbl := q_in1 105 rfl rfl
theorem qw_106 : Cond.fieldLink "CountyCream$Yard" 23 "CountyCream$House" "sites" "LCountyCream$Rows;" ∈ q_tbl := q_in1 106 rfl rfl
theorem qw_107 : Cond.fieldLink "CountyCream" 300 "CountyCream$House" "sites" "LCountyCream$Rows;" ∈ q_tbl := q_in1 107 rfl rfl
theorem qw_108 : Cond.fieldLink "CountyCream$House" 49 "CountyCream$House" "loans" "LCountyCream$Rows;" ∈ q_tbl := q_in1 108 rfl rfl
theorem qw_109 : Cond.fieldLink "CountyCream" 320 "CountyCream$House" "loans" "LCountyCream$Rows;" ∈ q_tbl := q_in1 109 rfl rfl
theorem qw_110 : Cond.fieldLink "CountyCream$House" 52 "CountyCream$House" "bias" "[I" ∈ q_tbl := q_in1 110 rfl rfl
theorem qw_111 : Cond.fieldLink "CountyCream" 137 "CountyCream$House" "bias" "[I" ∈ q_tbl := q_in1 111 rfl rfl
theorem qw_112 : Cond.fieldLink "CountyCream$House" 56 "CountyCream$House" "yields" "[I" ∈ q_tbl := q_in1 112 rfl rfl
theorem qw_113 : Cond.fieldLink "CountyCream" 294 "CountyCream$House" "yields" "[I" ∈ q_tbl := q_in1 113 rfl rfl
theorem qw_114 : Cond.fieldLink "CountyCream$House" 59 "CountyCream$House" "periodDays" "I" ∈ q_tbl := q_in1 114 rfl rfl
theorem qw_115 : Cond.fieldLink "CountyCream" 141 "CountyCream$House" "periodDays" "I" ∈ q_tbl := q_in1 115 rfl rfl
theorem qw_116 : Cond.fieldLink "CountyCream$Lab" 67 "CountyCream$House" "periodDays" "I" ∈ q_tbl := q_in1 116 rfl rfl
theorem qw_117 : Cond.fieldLink "CountyCream$House" 63 "CountyCream$House" "sourMinutes" "I" ∈ q_tbl := q_in1 117 rfl rfl
theorem qw_118 : Cond.fieldLink "CountyCream$Cart" 99 "CountyCream$House" "sourMinutes" "I" ∈ q_tbl := q_in1 118 rfl rfl
theorem qw_119 : Cond.fieldLink "CountyCream" 262 "CountyCream$House" "sourMinutes" "I" ∈ q_tbl := q_in1 119 rfl rfl
theorem qw_120 : Cond.fieldLink "CountyCream$House" 66 "CountyCream$House" "freightRate" "I" ∈ q_tbl := q_in1 120 rfl rfl
theorem qw_121 : Cond.fieldLink "CountyCream$Yard" 56 "CountyCream$House" "freightRate" "I" ∈ q_tbl := q_in1 121 rfl rfl
theorem qw_122 : Cond.fieldLink "CountyCream" 303 "CountyCream$House" "freightRate" "I" ∈ q_tbl := q_in1 122 rfl rfl
theorem qw_157 : Cond.classLink "CountyCream" 24 "CountyCream$Lab" ∈ q_tbl := q_in1 157 rfl rfl
theorem qw_158 : Cond.instantiable "CountyCream$Lab" 3 ∈ q_tbl := q_in1 158 rfl rfl
theorem qw_159 : Cond.methodLink "CountyCream" 26 yX6_init ∈ q_tbl := q_in1 159 rfl rfl
theorem qw_162 : Cond.methodLink "CountyCream$Lab" 3 Lib.objectInit ∈ q_tbl := q_in1 162 rfl rfl
theorem qw_163 : Cond.fieldLink "CountyCream$Lab" 15 "CountyCream$Lab" "house" "LCountyCream$House;" ∈ q_tbl := q_in1 163 rfl rfl
theorem qw_164 : Cond.fieldLink "CountyCream$Lab" 25 "CountyCream$Lab" "tests" "LCountyCream$Rows;" ∈ q_tbl := q_in1 164 rfl rfl
theorem qw_165 : Cond.fieldLink "CountyCream$Lab" 9 "CountyCream$Lab" "rates" "[I" ∈ q_tbl := q_in1 165 rfl rfl
theorem qw_174 : Cond.classLink "CountyCream" 33 "CountyCream$Dairy" ∈ q_tbl := q_in1 174 rfl rfl
theorem qw_175 : Cond.instantiable "CountyCream$Dairy" 2 ∈ q_tbl := q_in1 175 rfl rfl
theorem qw_176 : Cond.methodLink "CountyCream" 35 yX4_init ∈ q_tbl := q_in1 176 rfl rfl
theorem qw_179 : Cond.methodLink "CountyCream$Dairy" 3 Lib.objectInit ∈ q_tbl := q_in1 179 rfl rfl
theorem qw_180 : Cond.fieldLink "CountyCream$Dairy" 9 "CountyCream$Dairy" "house" "LCountyCream$House;" ∈ q_tbl := q_in1 180 rfl rfl
theorem qw_181 : Cond.fieldLink "CountyCream$Dairy" 15 "CountyCream$Dairy" "lab" "LCountyCream$Lab;" ∈ q_tbl := q_in1 181 rfl rfl
theorem qw_187 : Cond.classLink "CountyCream" 42 "CountyCream$Reader" ∈ q_tbl := q_in1 187 rfl rfl
theorem qw_188 : Cond.instantiable "CountyCream$Reader" 14 ∈ q_tbl := q_in1 188 rfl rfl
theorem qw_192 : Cond.methodLink "CountyCream$Reader" 3 Lib.objectInit ∈ q_tbl := q_in1 192 rfl rfl
theorem qw_193 : Cond.fieldLink "CountyCream$Reader" 9 "CountyCream$Reader" "signs" "[I" ∈ q_tbl := q_in1 193 rfl rfl
theorem qw_194 : Cond.fieldLink "CountyCream$Reader" 43 "CountyCream$Reader" "length" "I" ∈ q_tbl := q_in1 194 rfl rfl
theorem qw_195 : Cond.fieldLink "CountyCream$Reader" 15 "CountyCream$Reader" "names" "[J" ∈ q_tbl := q_in1 195 rfl rfl
theorem qw_196 : Cond.fieldLink "CountyCream$Reader" 19 "CountyCream$Reader" "values" "[J" ∈ q_tbl := q_in1 196 rfl rfl
theorem qw_197 : Cond.fieldLink "CountyCream$Reader" 47 "CountyCream$Reader" "valuesWait" "I" ∈ q_tbl := q_in1 197 rfl rfl
theorem qw_198 : Cond.fieldLink "CountyCream$Reader" 22 "CountyCream$Reader" "marks" "[I" ∈ q_tbl := q_in1 198 rfl rfl
theorem qw_199 : Cond.fieldLink "CountyCream$Reader" 25 "CountyCream$Reader" "needless" "[Z" ∈ q_tbl := q_in1 199 rfl rfl
theorem qw_200 : Cond.fieldLink "CountyCream$Reader" 50 "CountyCream$Reader" "marksWait" "I" ∈ q_tbl := q_in1 200 rfl rfl
theorem qw_201 : Cond.fieldLink "CountyCream$Reader" 53 "CountyCream$Reader" "openNow" "I" ∈ q_tbl := q_in1 201 rfl rfl
theorem qw_202 : Cond.fieldLink "CountyCream$Reader" 56 "CountyCream$Reader" "needlessNow" "I" ∈ q_tbl := q_in1 202 rfl rfl
theorem qw_203 : Cond.fieldLink "CountyCream$Reader" 59 "CountyCream$Reader" "unitWanted" "Z" ∈ q_tbl := q_in1 203 rfl rfl
theorem qw_204 : Cond.fieldLink "CountyCream$Reader" 63 "CountyCream$Reader" "faultFound" "I" ∈ q_tbl := q_in1 204 rfl rfl
theorem qw_205 : Cond.fieldLink "CountyCream$Reader" 66 "CountyCream$Reader" "none" "Z" ∈ q_tbl := q_in1 205 rfl rfl
theorem qw_206 : Cond.fieldLink "CountyCream$Payday" 127 "CountyCream$Reader" "none" "Z" ∈ q_tbl := q_in1 206 rfl rfl
theorem qw_207 : Cond.fieldLink "CountyCream" 223 "CountyCream$Reader" "none" "Z" ∈ q_tbl := q_in1 207 rfl rfl
theorem qw_208 : Cond.fieldLink "CountyCream$Reader" 69 "CountyCream$Reader" "told" "J" ∈ q_tbl := q_in1 208 rfl rfl
theorem qw_209 : Cond.fieldLink "CountyCream$Payday" 131 "CountyCream$Reader" "told" "J" ∈ q_tbl := q_in1 209 rfl rfl
theorem qw_210 : Cond.fieldLink "CountyCream" 229 "CountyCream$Reader" "told" "J" ∈ q_tbl := q_in1 210 rfl rfl
theorem qw_241 : Cond.classLink "CountyCream" 49 "CountyCream$Ballot" ∈ q_tbl := q_in2 1 rfl rfl
theorem qw_242 : Cond.instantiable "CountyCream$Ballot" 2 ∈ q_tbl := q_in2 2 rfl rfl
theorem qw_243 : Cond.methodLink "CountyCream" 51 yX0_init ∈ q_tbl := q_in2 3 rfl rfl
theorem qw_246 : Cond.methodLink "CountyCream$Ballot" 3 Lib.objectInit ∈ q_tbl := q_in2 6 rfl rfl
theorem qw_247 : Cond.fieldLink "CountyCream$Ballot" 9 "CountyCream$Ballot" "house" "LCountyCream$House;" ∈ q_tbl := q_in2 7 rfl rfl
theorem qw_248 : Cond.fieldLink "CountyCream$Ballot" 21 "CountyCream$Ballot" "motions" "LCountyCream$Rows;" ∈ q_tbl := q_in2 8 rfl rfl
theorem qw_254 : Cond.classLink "CountyCream" 56 "CountyCream$Payday" ∈ q_tbl := q_in2 14 rfl rfl
theorem qw_255 : Cond.instantiable "CountyCream$Payday" 10 ∈ q_tbl := q_in2 15 rfl rfl
theorem qw_256 : Cond.methodLink "CountyCream" 58 yX7_init ∈ q_tbl := q_in2 16 rfl rfl
theorem qw_259 : Cond.methodLink "CountyCream$Payday" 3 Lib.objectInit ∈ q_tbl := q_in2 19 rfl rfl
theorem qw_260 : Cond.fieldLink "CountyCream$Payday" 31 "CountyCream$Payday" "house" "LCountyCream$House;" ∈ q_tbl := q_in2 20 rfl rfl
theorem qw_261 : Cond.fieldLink "CountyCream$Payday" 35 "CountyCream$Payday" "lab" "LCountyCream$Lab;" ∈ q_tbl := q_in2 21 rfl rfl
theorem qw_262 : Cond.fieldLink "CountyCream$Payday" 39 "CountyCream$Payday" "reader" "LCountyCream$Reader;" ∈ q_tbl := q_in2 22 rfl rfl
theorem qw_263 : Cond.fieldLink "CountyCream$Payday" 43 "CountyCream$Payday" "ballot" "LCountyCream$Ballot;" ∈ q_tbl := q_in2 23 rfl rfl
theorem qw_264 : Cond.fieldLink "CountyCream$Payday" 9 "CountyCream$Payday" "weights" "[I" ∈ q_tbl := q_in2 24 rfl rfl
theorem qw_265 : Cond.fieldLink "CountyCream$Payday" 15 "CountyCream$Payday" "fats" "[J" ∈ q_tbl := q_in2 25 rfl rfl
theorem qw_266 : Cond.fieldLink "CountyCream$Payday" 19 "CountyCream$Payday" "cans" "[I" ∈ q_tbl := q_in2 26 rfl rfl
theorem qw_267 : Cond.fieldLink "CountyCream$Payday" 22 "CountyCream$Payday" "olderDays" "[I" ∈ q_tbl := q_in2 27 rfl rfl
theorem qw_268 : Cond.fieldLink "CountyCream$Payday" 25 "CountyCream$Payday" "tests" "[I" ∈ q_tbl := q_in2 28 rfl rfl
theorem qw_269 : Cond.fieldLink "CountyCream$Payday" 28 "CountyCream$Payday" "shares" "[J" ∈ q_tbl := q_in2 29 rfl rfl
theorem qw_270 : Cond.fieldLink "CountyCream" 255 "CountyCream$Payday" "shares" "[J" ∈ q_tbl := q_in2 30 rfl rfl
theorem qw_292 : Cond.classLink "CountyCream" 65 "CountyCream$Cart" ∈ q_tbl := q_in2 52 rfl rfl
theorem qw_293 : Cond.instantiable "CountyCream$Cart" 8 ∈ q_tbl := q_in2 53 rfl rfl
theorem qw_294 : Cond.methodLink "CountyCream" 67 yX3_init ∈ q_tbl := q_in2 54 rfl rfl
theorem qw_297 : Cond.methodLink "CountyCream$Cart" 3 Lib.objectInit ∈ q_tbl := q_in2 57 rfl rfl
theorem qw_298 : Cond.fieldLink "CountyCream$Cart" 27 "CountyCream$Cart" "house" "LCountyCream$House;" ∈ q_tbl := q_in2 58 rfl rfl
theorem qw_299 : Cond.fieldLink "CountyCream$Cart" 11 "CountyCream$Cart" "stops" "[I" ∈ q_tbl := q_in2 59 rfl rfl
theorem qw_300 : Cond.fieldLink "CountyCream$Cart" 42 "CountyCream$Cart" "many" "I" ∈ q_tbl := q_in2 60 rfl rfl
theorem qw_301 : Cond.fieldLink "CountyCream$Cart" 15 "CountyCream$Cart" "miles" "[I" ∈ q_tbl := q_in2 61 rfl rfl
theorem qw_302 : Cond.fieldLink "CountyCream$Cart" 18 "CountyCream$Cart" "home" "[I" ∈ q_tbl := q_in2 62 rfl rfl
theorem qw_303 : Cond.fieldLink "CountyCream$Cart" 21 "CountyCream$Cart" "rest" "[I" ∈ q_tbl := q_in2 63 rfl rfl
theorem qw_304 : Cond.fieldLink "CountyCream$Cart" 24 "CountyCream$Cart" "order" "[I" ∈ q_tbl := q_in2 64 rfl rfl
theorem qw_305 : Cond.fieldLink "CountyCream$Cart" 46 "CountyCream$Cart" "total" "I" ∈ q_tbl := q_in2 65 rfl rfl
theorem qw_306 : Cond.fieldLink "CountyCream" 277 "CountyCream$Cart" "total" "I" ∈ q_tbl := q_in2 66 rfl rfl
theorem qw_324 : Cond.classLink "CountyCream" 72 "CountyCream$Blend" ∈ q_tbl := q_in2 84 rfl rfl
theorem qw_325 : Cond.instantiable "CountyCream$Blend" 6 ∈ q_tbl := q_in2 85 rfl rfl
theorem qw_326 : Cond.methodLink "CountyCream" 78 yX2_init ∈ q_tbl := q_in2 86 rfl rfl
theorem qw_329 : Cond.methodLink "CountyCream$Blend" 5 Lib.objectInit ∈ q_tbl := q_in2 89 rfl rfl
theorem qw_330 : Cond.fieldLink "CountyCream$Blend" 28 "CountyCream$Blend" "creams" "LCountyCream$Rows;" ∈ q_tbl := q_in2 90 rfl rfl
theorem qw_331 : Cond.fieldLink "CountyCream$Blend" 11 "CountyCream$Blend" "asHeap" "[J" ∈ q_tbl := q_in2 91 rfl rfl
theorem qw_332 : Cond.fieldLink "CountyCream$Blend" 15 "CountyCream$Blend" "least" "[J" ∈ q_tbl := q_in2 92 rfl rfl
theorem qw_333 : Cond.fieldLink "CountyCream$Blend" 18 "CountyCream$Blend" "heaps" "[I" ∈ q_tbl := q_in2 93 rfl rfl
theorem qw_334 : Cond.fieldLink "CountyCream$Blend" 22 "CountyCream$Blend" "rows" "[J" ∈ q_tbl := q_in2 94 rfl rfl
theorem qw_335 : Cond.fieldLink "CountyCream$Blend" 25 "CountyCream$Blend" "ones" "[J" ∈ q_tbl := q_in2 95 rfl rfl
theorem qw_349 : Cond.classLink "CountyCream" 85 "CountyCream$Yard" ∈ q_tbl := q_in2 109 rfl rfl
theorem qw_350 : Cond.instantiable "CountyCream$Yard" 3 ∈ q_tbl := q_in2 110 rfl rfl
theorem qw_351 : Cond.methodLink "CountyCream" 87 yX10_init ∈ q_tbl := q_in2 111 rfl rfl
theorem qw_354 : Cond.methodLink "CountyCream$Yard" 3 Lib.objectInit ∈ q_tbl := q_in2 114 rfl rfl
theorem qw_355 : Cond.fieldLink "CountyCream$Yard" 9 "CountyCream$Yard" "house" "LCountyCream$House;" ∈ q_tbl := q_in2 115 rfl rfl
theorem qw_356 : Cond.fieldLink "CountyCream$Yard" 15 "CountyCream$Yard" "bestSet" "I" ∈ q_tbl := q_in2 116 rfl rfl
theorem qw_357 : Cond.fieldLink "CountyCream" 310 "CountyCream$Yard" "bestSet" "I" ∈ q_tbl := q_in2 117 rfl rfl
theorem qw_358 : Cond.fieldLink "CountyCream$Yard" 19 "CountyCream$Yard" "bestCost" "J" ∈ q_tbl := q_in2 118 rfl rfl
theorem qw_359 : Cond.fieldLink "CountyCream" 313 "CountyCream$Yard" "bestCost" "J" ∈ q_tbl := q_in2 119 rfl rfl
theorem qw_367 : Cond.fieldLink "CountyCream" 12 "CountyCream" "house" "LCountyCream$House;" ∈ q_tbl := q_in2 127 rfl rfl
theorem qw_368 : Cond.fieldLink "CountyCream" 16 "CountyCream" "images" "[LCountyCream$House;" ∈ q_tbl := q_in2 128 rfl rfl
theorem qw_369 : Cond.fieldLink "CountyCream" 20 "CountyCream" "kept" "[Z" ∈ q_tbl := q_in2 129 rfl rfl
theorem qw_370 : Cond.fieldLink "CountyCream" 29 "CountyCream" "lab" "LCountyCream$Lab;" ∈ q_tbl := q_in2 130 rfl rfl
theorem qw_371 : Cond.fieldLink "CountyCream" 38 "CountyCream" "dairy" "LCountyCream$Dairy;" ∈ q_tbl := q_in2 131 rfl rfl
theorem qw_372 : Cond.fieldLink "CountyCream" 45 "CountyCream" "reader" "LCountyCream$Reader;" ∈ q_tbl := q_in2 132 rfl rfl
theorem qw_373 : Cond.fieldLink "CountyCream" 52 "CountyCream" "ballot" "LCountyCream$Ballot;" ∈ q_tbl := q_in2 133 rfl rfl
theorem qw_374 : Cond.fieldLink "CountyCream" 61 "CountyCream" "payday" "LCountyCream$Payday;" ∈ q_tbl := q_in2 134 rfl rfl
theorem qw_375 : Cond.fieldLink "CountyCream" 68 "CountyCream" "cart" "LCountyCream$Cart;" ∈ q_tbl := q_in2 135 rfl rfl
theorem qw_376 : Cond.fieldLink "CountyCream" 81 "CountyCream" "blend" "LCountyCream$Blend;" ∈ q_tbl := q_in2 136 rfl rfl
theorem qw_377 : Cond.fieldLink "CountyCream" 88 "CountyCream" "yard" "LCountyCream$Yard;" ∈ q_tbl := q_in2 137 rfl rfl
theorem qw_401 : Cond.methodLink "CountyCreamLaw" 13 yX11_farm ∈ q_tbl := q_in2 161 rfl rfl
theorem qw_405 : Cond.methodLink "CountyCream" 92 yX11_isPlace ∈ q_tbl := q_in2 165 rfl rfl
theorem qw_408 : Cond.methodLink "CountyCream" 96 yX11_within ∈ q_tbl := q_in2 168 rfl rfl
theorem qw_411 : Cond.methodLink "CountyCream" 103 yX9_come ∈ q_tbl := q_in2 171 rfl rfl
theorem qw_412 : Cond.methodLink "CountyCream" 109 yX11_asNumber ∈ q_tbl := q_in2 172 rfl rfl
theorem qw_415 : Cond.methodLink "CountyCream" 113 yX9_put ∈ q_tbl := q_in2 175 rfl rfl
theorem qw_416 : Cond.methodLink "CountyCreamLaw" 18 yX11_change ∈ q_tbl := q_in2 176 rfl rfl
theorem qw_420 : Cond.methodLink "CountyCream" 117 yX9_has ∈ q_tbl := q_in2 180 rfl rfl
theorem qw_424 : Cond.methodLink "CountyCreamLaw" 23 yX11_can ∈ q_tbl := q_in2 184 rfl rfl
theorem qw_428 : Cond.methodLink "CountyCream" 121 yX11_isDay ∈ q_tbl := q_in2 188 rfl rfl
theorem qw_431 : Cond.methodLink "CountyCreamLaw" 28 yX11_test ∈ q_tbl := q_in2 191 rfl rfl
theorem qw_435 : Cond.methodLink "CountyCream" 127 yX11_isHand ∈ q_tbl := q_in2 195 rfl rfl
theorem qw_438 : Cond.methodLink "CountyCreamLaw" 33 yX11_right ∈ q_tbl := q_in2 198 rfl rfl
theorem qw_442 : Cond.methodLink "CountyCream" 133 yX9_at ∈ q_tbl := q_in2 202 rfl rfl
theorem qw_446 : Cond.methodLink "CountyCreamLaw" 37 yX11_bias ∈ q_tbl := q_in2 206 rfl rfl
theorem qw_450 : Cond.methodLink "CountyCreamLaw" 42 yX11_period ∈ q_tbl := q_in2 210 rfl rfl
theorem qw_454 : Cond.methodLink "CountyCreamLaw" 47 yX11_rate ∈ q_tbl := q_in2 214 rfl rfl
theorem qw_458 : Cond.methodLink "CountyCream" 145 yX6_rateAsKnown ∈ q_tbl := q_in2 218 rfl rfl
theorem qw_462 : Cond.methodLink "CountyCream$Lab" 39 yX6_isKnown ∈ q_tbl := q_in2 222 rfl rfl
theorem qw_466 : Cond.methodLink "CountyCream$Lab" 36 yX9_at ∈ q_tbl := q_in2 226 rfl rfl
theorem qw_467 : Cond.methodLink "CountyCream$Lab" 43 yX6_numberKnown ∈ q_tbl := q_in2 227 rfl rfl
theorem qw_471 : Cond.methodLink "CountyCream$Lab" 46 yX6_latestAheadOf ∈ q_tbl := q_in2 231 rfl rfl
theorem qw_475 : Cond.methodLink "CountyCream$Lab" 61 yX6_isAhead ∈ q_tbl := q_in2 235 rfl rfl
theorem qw_479 : Cond.methodLink "CountyCream$Lab" 49 yX5_biasOf ∈ q_tbl := q_in2 239 rfl rfl
theorem qw_483 : Cond.methodLink "CountyCream$Lab" 53 Lib.Math.min.name ∈ q_tbl := q_in3 3 rfl rfl
theorem qw_486 : Cond.methodLink "CountyCream$Lab" 58 Lib.Math.max.name ∈ q_tbl := q_in3 6 rfl rfl
theorem qw_487 : Cond.methodLink "CountyCreamLaw" 51 yX11_canRate ∈ q_tbl := q_in3 7 rfl rfl
theorem qw_491 : Cond.methodLink "CountyCream" 148 yX6_learn ∈ q_tbl := q_in3 11 rfl rfl
theorem qw_495 : Cond.methodLink "CountyCream$Lab" 32 yX6_rateAsKnown ∈ q_tbl := q_in3 15 rfl rfl
theorem qw_496 : Cond.methodLink "CountyCream" 152 yX6_rateOfCan ∈ q_tbl := q_in3 16 rfl rfl
theorem qw_503 : Cond.constantLong "CountyCream$Lab" 74 (-1) ∈ q_tbl := q_in3 23 rfl rfl
theorem qw_504 : Cond.methodLink "CountyCream$Lab" 76 yX6_rateLearned ∈ q_tbl := q_in3 24 rfl rfl
theorem qw_508 : Cond.methodLink "CountyCreamLaw" 55 yX11_fat ∈ q_tbl := q_in3 28 rfl rfl
theorem qw_512 : Cond.methodLink "CountyCream" 156 yX11_isWeek ∈ q_tbl := q_in3 32 rfl rfl
theorem qw_515 : Cond.constantLong "CountyCream" 159 (-2) ∈ q_tbl := q_in3 35 rfl rfl
theorem qw_516 : Cond.methodLink "CountyCream" 161 yX6_fatOfWeek ∈ q_tbl := q_in3 36 rfl rfl
theorem qw_520 : Cond.methodLink "CountyCream$Lab" 82 yX6_fatOfCan ∈ q_tbl := q_in3 40 rfl rfl
theorem qw_524 : Cond.methodLink "CountyCream$Lab" 79 yX6_rateOfCan ∈ q_tbl := q_in3 44 rfl rfl
theorem qw_525 : Cond.methodLink "CountyCreamLaw" 60 yX11_churn ∈ q_tbl := q_in3 45 rfl rfl
theorem qw_529 : Cond.methodLink "CountyCreamLaw" 64 yX11_fill ∈ q_tbl := q_in3 49 rfl rfl
theorem qw_533 : Cond.methodLink "CountyCreamLaw" 68 yX11_about ∈ q_tbl := q_in3 53 rfl rfl
theorem qw_537 : Cond.methodLink "CountyCream" 168 yX4_howManyCans ∈ q_tbl := q_in3 57 rfl rfl
theorem qw_541 : Cond.methodLink "CountyCream$Dairy" 31 yX9_at ∈ q_tbl := q_in3 61 rfl rfl
theorem qw_542 : Cond.methodLink "CountyCream" 171 yX4_lossOf ∈ q_tbl := q_in3 62 rfl rfl
theorem qw_546 : Cond.methodLink "CountyCream$Dairy" 38 Lib.Math.max.name ∈ q_tbl := q_in3 66 rfl rfl
theorem qw_547 : Cond.methodLink "CountyCream$Dairy" 43 Lib.Math.abs.name ∈ q_tbl := q_in3 67 rfl rfl
theorem qw_550 : Cond.methodLink "CountyCream" 174 yX4_fatOf ∈ q_tbl := q_in3 70 rfl rfl
theorem qw_554 : Cond.methodLink "CountyCream$Dairy" 47 yX6_fatOfCan ∈ q_tbl := q_in3 74 rfl rfl
theorem qw_555 : Cond.methodLink "CountyCream" 177 yX4_butterOf ∈ q_tbl := q_in3 75 rfl rfl
theorem qw_559 : Cond.methodLink "CountyCream$Dairy" 53 yX4_fatOf ∈ q_tbl := q_in3 79 rfl rfl
theorem qw_560 : Cond.methodLink "CountyCream$Dairy" 57 yX4_lossOf ∈ q_tbl := q_in3 80 rfl rfl
theorem qw_561 : Cond.constantLong "CountyCream$Dairy" 60 (1000) ∈ q_tbl := q_in3 81 rfl rfl
theorem qw_562 : Cond.methodLink "CountyCream" 181 yX4_agrees ∈ q_tbl := q_in3 82 rfl rfl
theorem qw_566 : Cond.methodLink "CountyCream$Dairy" 62 yX4_butterOf ∈ q_tbl := q_in3 86 rfl rfl
theorem qw_567 : Cond.methodLink "CountyCream$Dairy" 65 Lib.MathLoose.abs_long.x ∈ q_tbl := q_in3 87 rfl rfl
theorem qw_570 : Cond.constantLong "CountyCream$Dairy" 68 (20) ∈ q_tbl := q_in3 90 rfl rfl
theorem qw_572 : Cond.methodLink "CountyCream" 184 yX4_howManyBoxes ∈ q_tbl := q_in3 92 rfl rfl
theorem qw_576 : Cond.methodLink "CountyCream" 187 yX4_penceOf ∈ q_tbl := q_in3 96 rfl rfl
theorem qw_580 : Cond.methodLink "CountyCreamLaw" 72 yX11_out ∈ q_tbl := q_in3 100 rfl rfl
theorem qw_584 : Cond.constant "CountyCream" 190 (300000000) ∈ q_tbl := q_in3 104 rfl rfl
theorem qw_585 : Cond.methodLink "CountyCreamLaw" 76 yX11_box ∈ q_tbl := q_in3 105 rfl rfl
theorem qw_589 : Cond.methodLink "CountyCreamLaw" 80 yX11_sell ∈ q_tbl := q_in3 109 rfl rfl
theorem qw_593 : Cond.constant "CountyCream" 194 (1000000) ∈ q_tbl := q_in3 113 rfl rfl
theorem qw_594 : Cond.methodLink "CountyCreamLaw" 84 yX11_grade ∈ q_tbl := q_in3 114 rfl rfl
theorem qw_598 : Cond.methodLink "CountyCreamLaw" 88 yX11_lean ∈ q_tbl := q_in3 118 rfl rfl
theorem qw_602 : Cond.methodLink "CountyCream" 195 yX4_leanOfGraders ∈ q_tbl := q_in3 122 rfl rfl
theorem qw_606 : Cond.methodLink "CountyCreamLaw" 93 yX11_lot ∈ q_tbl := q_in3 126 rfl rfl
theorem qw_610 : Cond.methodLink "CountyCream" 199 yX4_lotOf ∈ q_tbl := q_in3 130 rfl rfl
theorem qw_614 : Cond.methodLink "CountyCream$Dairy" 77 yX4_leanOfGraders ∈ q_tbl := q_in3 134 rfl rfl
theorem qw_615 : Cond.methodLink "CountyCream$Dairy" 81 Lib.Math.min.name ∈ q_tbl := q_in3 135 rfl rfl
theorem qw_616 : Cond.methodLink "CountyCreamLaw" 97 yX11_lead ∈ q_tbl := q_in3 136 rfl rfl
theorem qw_620 : Cond.methodLink "CountyCreamLaw" 101 yX11_write ∈ q_tbl := q_in3 140 rfl rfl
theorem qw_624 : Cond.methodLink "CountyCreamLaw" 105 yX11_erase ∈ q_tbl := q_in3 144 rfl rfl
theorem qw_628 : Cond.methodLink "CountyCreamLaw" 109 yX11_fault ∈ q_tbl := q_in3 148 rfl rfl
theorem qw_632 : Cond.methodLink "CountyCream" 205 yX8_load ∈ q_tbl := q_in3 152 rfl rfl
theorem qw_636 : Cond.methodLink "CountyCream$Reader" 29 yX9_at ∈ q_tbl := q_in3 156 rfl rfl
theorem qw_637 : Cond.methodLink "CountyCream$Reader" 35 Lib.Math.min.name ∈ q_tbl := q_in3 157 rfl rfl
theorem qw_638 : Cond.methodLink "CountyCream$Reader" 40 Lib.Math.max.name ∈ q_tbl := q_in3 158 rfl rfl
theorem qw_639 : Cond.methodLink "CountyCream" 209 yX8_read ∈ q_tbl := q_in3 159 rfl rfl
theorem qw_643 : Cond.methodLink "CountyCream$Reader" 73 yX8_signAt ∈ q_tbl := q_in3 163 rfl rfl
theorem qw_647 : Cond.methodLink "CountyCream$Reader" 77 yX8_isDigit ∈ q_tbl := q_in3 167 rfl rfl
theorem qw_650 : Cond.methodLink "CountyCream$Reader" 81 yX8_readNumber ∈ q_tbl := q_in3 170 rfl rfl
theorem qw_654 : Cond.constantLong "CountyCream$Reader" 114 (10) ∈ q_tbl := q_in3 174 rfl rfl
theorem qw_655 : Cond.constantLong "CountyCream$Reader" 116 (48) ∈ q_tbl := q_in3 175 rfl rfl
theorem qw_656 : Cond.methodLink "CountyCream$Reader" 107 yX8_stop ∈ q_tbl := q_in3 176 rfl rfl
theorem qw_660 : Cond.methodLink "CountyCream$Reader" 118 yX8_endUnit ∈ q_tbl := q_in3 180 rfl rfl
theorem qw_664 : Cond.methodLink "CountyCream$Reader" 129 yX8_topMark ∈ q_tbl := q_in3 184 rfl rfl
theorem qw_669 : Cond.methodLink "CountyCream$Reader" 137 yX8_popMark ∈ q_tbl := q_in3 189 rfl rfl
theorem qw_673 : Cond.methodLink "CountyCream$Reader" 141 yX8_pushValue ∈ q_tbl := q_in3 193 rfl rfl
theorem qw_677 : Cond.methodLink "CountyCream$Reader" 84 yX8_readUnit ∈ q_tbl := q_in3 197 rfl rfl
theorem qw_681 : Cond.methodLink "CountyCream$Reader" 122 yX8_pushMark ∈ q_tbl := q_in3 201 rfl rfl
theorem qw_685 : Cond.methodLink "CountyCream$Reader" 126 yX8_nameOf ∈ q_tbl := q_in3 205 rfl rfl
theorem qw_688 : Cond.methodLink "CountyCream$Reader" 88 yX8_readQuestion ∈ q_tbl := q_in3 208 rfl rfl
theorem qw_692 : Cond.methodLink "CountyCream$Reader" 147 yX8_settle ∈ q_tbl := q_in3 212 rfl rfl
theorem qw_696 : Cond.methodLink "CountyCream$Reader" 144 yX8_rankOf ∈ q_tbl := q_in3 216 rfl rfl
theorem qw_699 : Cond.methodLink "CountyCream$Reader" 110 yX8_popValue ∈ q_tbl := q_in3 219 rfl rfl
theorem qw_703 : Cond.methodLink "CountyCream$Reader" 153 yX8_made ∈ q_tbl := q_in3 223 rfl rfl
theorem qw_707 : Cond.methodLink "CountyCream$Reader" 91 yX8_readElse ∈ q_tbl := q_in3 227 rfl rfl
theorem qw_711 : Cond.methodLink "CountyCream$Reader" 104 yX8_endChoices ∈ q_tbl := q_in3 231 rfl rfl
theorem qw_715 : Cond.methodLink "CountyCream$Reader" 95 yX8_readClose ∈ q_tbl := q_in3 235 rfl rfl
theorem qw_719 : Cond.methodLink "CountyCream$Reader" 98 yX8_readJoin ∈ q_tbl := q_in3 239 rfl rfl
theorem qw_723 : Cond.methodLink "CountyCream$Reader" 150 yX8_topValue ∈ q_tbl := q_in4 3 rfl rfl
theorem qw_727 : Cond.methodLink "CountyCream$Reader" 101 yX8_readEnd ∈ q_tbl := q_in4 7 rfl rfl
theorem qw_731 : Cond.methodLink "CountyCreamLaw" 113 yX11_tells ∈ q_tbl := q_in4 11 rfl rfl
theorem qw_735 : Cond.constantLong "CountyCream" 212 (-2000000000000000000) ∈ q_tbl := q_in4 15 rfl rfl
theorem qw_736 : Cond.methodLink "CountyCream" 214 yX7_gather ∈ q_tbl := q_in4 16 rfl rfl
theorem qw_740 : Cond.methodLink "CountyCream$Payday" 47 yX6_learn ∈ q_tbl := q_in4 20 rfl rfl
theorem qw_741 : Cond.methodLink "CountyCream$Payday" 53 yJ7_fill_53178 ∈ q_tbl := q_in4 21 rfl rfl
theorem qw_744 : Cond.methodLink "CountyCream$Payday" 59 yJ7_fill_d0a16 ∈ q_tbl := q_in4 24 rfl rfl
theorem qw_747 : Cond.methodLink "CountyCream$Payday" 73 yX7_gatherCan ∈ q_tbl := q_in4 27 rfl rfl
theorem qw_751 : Cond.methodLink "CountyCream$Payday" 79 yX9_at ∈ q_tbl := q_in4 31 rfl rfl
theorem qw_752 : Cond.methodLink "CountyCream$Payday" 90 yX6_fatOfCan ∈ q_tbl := q_in4 32 rfl rfl
theorem qw_753 : Cond.methodLink "CountyCream$Payday" 83 yX6_rateLearned ∈ q_tbl := q_in4 33 rfl rfl
theorem qw_754 : Cond.methodLink "CountyCream" 218 yX7_nameFor ∈ q_tbl := q_in4 34 rfl rfl
theorem qw_758 : Cond.methodLink "CountyCream$Payday" 94 yX8_tellName ∈ q_tbl := q_in4 38 rfl rfl
theorem qw_762 : Cond.constantLong "CountyCream$Payday" 100 (100) ∈ q_tbl := q_in4 42 rfl rfl
theorem qw_763 : Cond.methodLink "CountyCream$Payday" 105 yX7_rankOfWeight ∈ q_tbl := q_in4 43 rfl rfl
theorem qw_767 : Cond.constantLong "CountyCream" 221 (-3000000000000000000) ∈ q_tbl := q_in4 47 rfl rfl
theorem qw_768 : Cond.constantLong "CountyCream" 227 (-1000000000000000000) ∈ q_tbl := q_in4 48 rfl rfl
theorem qw_769 : Cond.methodLink "CountyCreamLaw" 118 yX11_motion ∈ q_tbl := q_in4 49 rfl rfl
theorem qw_773 : Cond.methodLink "CountyCream" 233 yX0_propose ∈ q_tbl := q_in4 53 rfl rfl
theorem qw_777 : Cond.methodLink "CountyCream$Ballot" 22 yX9_come ∈ q_tbl := q_in4 57 rfl rfl
theorem qw_778 : Cond.methodLink "CountyCream$Ballot" 31 yX9_at ∈ q_tbl := q_in4 58 rfl rfl
theorem qw_779 : Cond.methodLink "CountyCream$Ballot" 35 yX9_put ∈ q_tbl := q_in4 59 rfl rfl
theorem qw_780 : Cond.methodLink "CountyCreamLaw" 122 yX11_vote ∈ q_tbl := q_in4 60 rfl rfl
theorem qw_784 : Cond.methodLink "CountyCreamLaw" 126 yX11_tear ∈ q_tbl := q_in4 64 rfl rfl
theorem qw_788 : Cond.methodLink "CountyCreamLaw" 131 yX11_motionAt ∈ q_tbl := q_in4 68 rfl rfl
theorem qw_792 : Cond.methodLink "CountyCream" 239 yX0_tellOf ∈ q_tbl := q_in4 72 rfl rfl
theorem qw_796 : Cond.methodLink "CountyCream$Ballot" 39 yX0_votesOf ∈ q_tbl := q_in4 76 rfl rfl
theorem qw_800 : Cond.methodLink "CountyCream$Ballot" 42 yX0_isPassed ∈ q_tbl := q_in4 80 rfl rfl
theorem qw_805 : Cond.methodLink "CountyCreamLaw" 135 yX11_force ∈ q_tbl := q_in4 85 rfl rfl
theorem qw_809 : Cond.methodLink "CountyCream" 242 yX0_inForce ∈ q_tbl := q_in4 89 rfl rfl
theorem qw_813 : Cond.methodLink "CountyCreamLaw" 139 yX11_money ∈ q_tbl := q_in4 93 rfl rfl
theorem qw_817 : Cond.methodLink "CountyCream" 245 yX7_penceOfWeek ∈ q_tbl := q_in4 97 rfl rfl
theorem qw_821 : Cond.methodLink "CountyCreamLaw" 144 yX11_pay ∈ q_tbl := q_in4 101 rfl rfl
theorem qw_825 : Cond.methodLink "CountyCream" 248 yX7_findShares ∈ q_tbl := q_in4 105 rfl rfl
theorem qw_829 : Cond.methodLink "CountyCream$Payday" 108 yX0_inForce ∈ q_tbl := q_in4 109 rfl rfl
theorem qw_830 : Cond.methodLink "CountyCream$Payday" 116 yX8_load ∈ q_tbl := q_in4 110 rfl rfl
theorem qw_831 : Cond.methodLink "CountyCream$Payday" 120 yX7_nameFor ∈ q_tbl := q_in4 111 rfl rfl
theorem qw_832 : Cond.methodLink "CountyCream$Payday" 123 yX8_read ∈ q_tbl := q_in4 112 rfl rfl
theorem qw_833 : Cond.constantLong "CountyCream$Payday" 135 (1000000000) ∈ q_tbl := q_in4 113 rfl rfl
theorem qw_834 : Cond.methodLink "CountyCream$Payday" 137 Lib.MathLoose.min_long.x ∈ q_tbl := q_in4 114 rfl rfl
theorem qw_837 : Cond.methodLink "CountyCream$Payday" 143 Lib.MathLoose.max_long.x ∈ q_tbl := q_in4 117 rfl rfl
theorem qw_840 : Cond.methodLink "CountyCream" 251 yX7_partOf ∈ q_tbl := q_in4 120 rfl rfl
theorem qw_845 : Cond.methodLink "CountyCreamLaw" 148 yX11_share ∈ q_tbl := q_in4 125 rfl rfl
theorem qw_849 : Cond.methodLink "CountyCreamLaw" 152 yX11_watered ∈ q_tbl := q_in4 129 rfl rfl
theorem qw_853 : Cond.methodLink "CountyCream" 259 yX6_signsOfWater ∈ q_tbl := q_in4 133 rfl rfl
theorem qw_857 : Cond.methodLink "CountyCream$Lab" 86 yX6_meanBefore ∈ q_tbl := q_in4 137 rfl rfl
theorem qw_861 : Cond.methodLink "CountyCreamLaw" 156 yX11_sour ∈ q_tbl := q_in4 141 rfl rfl
theorem qw_865 : Cond.methodLink "CountyCreamLaw" 160 yX11_route ∈ q_tbl := q_in4 145 rfl rfl
theorem qw_869 : Cond.methodLink "CountyCream" 265 yX11_isSet ∈ q_tbl := q_in4 149 rfl rfl
theorem qw_872 : Cond.methodLink "CountyCream" 269 yJ6_bitCount_0f7a4 ∈ q_tbl := q_in4 152 rfl rfl
theorem qw_875 : Cond.constant "java/lang/Integer" 265 (1431655765) ∈ q_tbl := q_in4 155 rfl rfl
theorem qw_876 : Cond.constant "java/lang/Integer" 266 (858993459) ∈ q_tbl := q_in4 156 rfl rfl
theorem qw_877 : Cond.constant "java/lang/Integer" 267 (252645135) ∈ q_tbl := q_in4 157 rfl rfl
theorem qw_878 : Cond.methodLink "CountyCream" 274 yX3_plan ∈ q_tbl := q_in4 158 rfl rfl
theorem qw_882 : Cond.methodLink "CountyCream$Cart" 31 yX3_takeStops ∈ q_tbl := q_in4 162 rfl rfl
theorem qw_889 : Cond.methodLink "CountyCream$Cart" 76 yX9_at ∈ q_tbl := q_in4 169 rfl rfl
theorem qw_890 : Cond.methodLink "CountyCream$Cart" 79 Lib.Math.abs.name ∈ q_tbl := q_in4 170 rfl rfl
theorem qw_894 : Cond.methodLink "CountyCream" 346 Lib.Math.abs.name ∈ q_tbl := q_in4 174 rfl rfl
theorem qw_895 : Cond.methodLink "CountyCream$Cart" 35 yX3_findRests ∈ q_tbl := q_in4 175 rfl rfl
theorem qw_899 : Cond.methodLink "CountyCream$Cart" 88 yX3_fewestFrom ∈ q_tbl := q_in4 179 rfl rfl
theorem qw_903 : Cond.methodLink "CountyCream$Cart" 49 yX3_homeOf ∈ q_tbl := q_in4 183 rfl rfl
theorem qw_907 : Cond.constant "CountyCream$Cart" 91 (1000000) ∈ q_tbl := q_in4 187 rfl rfl
theorem qw_908 : Cond.methodLink "CountyCream$Cart" 92 yX3_milesBy ∈ q_tbl := q_in4 188 rfl rfl
theorem qw_912 : Cond.methodLink "CountyCream$Cart" 56 yX3_restOf ∈ q_tbl := q_in4 192 rfl rfl
theorem qw_916 : Cond.methodLink "CountyCream$Cart" 96 Lib.Math.min.name ∈ q_tbl := q_in4 196 rfl rfl
theorem qw_917 : Cond.methodLink "CountyCream$Cart" 38 yX3_firstStop ∈ q_tbl := q_in4 197 rfl rfl
theorem qw_921 : Cond.methodLink "CountyCream$Cart" 53 yX3_allBut ∈ q_tbl := q_in4 201 rfl rfl
theorem qw_925 : Cond.methodLink "CountyCream$Cart" 60 yX3_findOrder ∈ q_tbl := q_in4 205 rfl rfl
theorem qw_929 : Cond.methodLink "CountyCream$Cart" 102 Lib.Math.max.name ∈ q_tbl := q_in4 209 rfl rfl
theorem qw_930 : Cond.methodLink "CountyCream$Cart" 105 yX3_nextStop ∈ q_tbl := q_in4 210 rfl rfl
theorem qw_934 : Cond.methodLink "CountyCreamLaw" 164 yX11_routeAt ∈ q_tbl := q_in4 214 rfl rfl
theorem qw_938 : Cond.methodLink "CountyCream" 280 yX3_stopAt ∈ q_tbl := q_in4 218 rfl rfl
theorem qw_942 : Cond.methodLink "CountyCreamLaw" 168 yX11_cream ∈ q_tbl := q_in4 222 rfl rfl
theorem qw_946 : Cond.methodLink "CountyCreamLaw" 172 yX11_drain ∈ q_tbl := q_in4 226 rfl rfl
theorem qw_950 : Cond.methodLink "CountyCreamLaw" 176 yX11_together ∈ q_tbl := q_in4 230 rfl rfl
theorem qw_954 : Cond.methodLink "CountyCream" 286 yX2_plan ∈ q_tbl := q_in4 234 rfl rfl
theorem qw_958 : Cond.methodLink "CountyCream$Blend" 44 yX2_allCreams ∈ q_tbl := q_in4 238 rfl rfl
theorem qw_962 : Cond.methodLink "CountyCream$Blend" 38 Lib.Math.min.name ∈ q_tbl := q_in5 2 rfl rfl
theorem qw_963 : Cond.methodLink "CountyCream$Blend" 48 yJ6_numberOfTrailingZeros_0f7a4 ∈ q_tbl := q_in5 3 rfl rfl
theorem qw_966 : Cond.constant "java/lang/Integer" 264 (65536) ∈ q_tbl := q_in5 6 rfl rfl
theorem qw_967 : Cond.methodLink "CountyCream$Blend" 54 yX2_shiftOf ∈ q_tbl := q_in5 7 rfl rfl
theorem qw_970 : Cond.methodLink "CountyCream$Blend" 57 yJ6_bitCount_0f7a4 ∈ q_tbl := q_in5 10 rfl rfl
theorem qw_971 : Cond.methodLink "CountyCream$Blend" 60 yX2_lossAsHeap ∈ q_tbl := q_in5 11 rfl rfl
theorem qw_976 : Cond.methodLink "CountyCream$Blend" 72 yX9_at ∈ q_tbl := q_in5 16 rfl rfl
theorem qw_977 : Cond.methodLink "CountyCream$Blend" 75 Lib.Math.max.name ∈ q_tbl := q_in5 17 rfl rfl
theorem qw_979 : Cond.methodLink "CountyCream$Blend" 82 Lib.Math.abs.name ∈ q_tbl := q_in5 19 rfl rfl
theorem qw_980 : Cond.constantLong "CountyCream$Blend" 85 (1000) ∈ q_tbl := q_in5 20 rfl rfl
theorem qw_981 : Cond.methodLink "CountyCream$Blend" 64 yX2_planSet ∈ q_tbl := q_in5 21 rfl rfl
theorem qw_985 : Cond.methodLink "CountyCream$Blend" 87 yX2_tryHeap ∈ q_tbl := q_in5 25 rfl rfl
theorem qw_989 : Cond.methodLink "CountyCream$Blend" 90 yX2_isBetter ∈ q_tbl := q_in5 29 rfl rfl
theorem qw_993 : Cond.methodLink "CountyCream" 287 yX2_lost ∈ q_tbl := q_in5 33 rfl rfl
theorem qw_997 : Cond.methodLink "CountyCreamLaw" 181 yX11_heap ∈ q_tbl := q_in5 37 rfl rfl
theorem qw_1001 : Cond.methodLink "CountyCream" 291 yX2_leastOfHeap ∈ q_tbl := q_in5 41 rfl rfl
theorem qw_1005 : Cond.methodLink "CountyCreamLaw" 185 yX11_gives ∈ q_tbl := q_in5 45 rfl rfl
theorem qw_1009 : Cond.methodLink "CountyCreamLaw" 189 yX11_calved ∈ q_tbl := q_in5 49 rfl rfl
theorem qw_1013 : Cond.methodLink "CountyCreamLaw" 193 yX11_foretold ∈ q_tbl := q_in5 53 rfl rfl
theorem qw_1017 : Cond.methodLink "CountyCreamLaw" 197 yX11_site ∈ q_tbl := q_in5 57 rfl rfl
theorem qw_1021 : Cond.methodLink "CountyCreamLaw" 201 yX11_freight ∈ q_tbl := q_in5 61 rfl rfl
theorem qw_1025 : Cond.methodLink "CountyCreamLaw" 205 yX11_open ∈ q_tbl := q_in5 65 rfl rfl
theorem qw_1029 : Cond.constantLong "CountyCream" 306 (-3) ∈ q_tbl := q_in5 69 rfl rfl
theorem qw_1030 : Cond.methodLink "CountyCream" 308 yX10_plan ∈ q_tbl := q_in5 70 rfl rfl
theorem qw_1034 : Cond.methodLink "CountyCream$Yard" 34 yX10_costOf ∈ q_tbl := q_in5 74 rfl rfl
theorem qw_1039 : Cond.methodLink "CountyCream$Yard" 42 yX9_at ∈ q_tbl := q_in5 79 rfl rfl
theorem qw_1040 : Cond.methodLink "CountyCream$Yard" 49 yX10_nearestOf ∈ q_tbl := q_in5 80 rfl rfl
theorem qw_1045 : Cond.methodLink "CountyCreamLaw" 209 yX11_nearest ∈ q_tbl := q_in5 85 rfl rfl
theorem qw_1049 : Cond.methodLink "CountyCream" 316 yX10_nearestOf ∈ q_tbl := q_in5 89 rfl rfl
theorem qw_1050 : Cond.methodLink "CountyCreamLaw" 213 yX11_loan ∈ q_tbl := q_in5 90 rfl rfl
theorem qw_1054 : Cond.constant "CountyCream" 319 (100000) ∈ q_tbl := q_in5 94 rfl rfl
theorem qw_1055 : Cond.methodLink "CountyCreamLaw" 217 yX11_owed ∈ q_tbl := q_in5 95 rfl rfl
theorem qw_1059 : Cond.methodLink "CountyCream" 325 yX1_behindAWeek ∈ q_tbl := q_in5 99 rfl rfl
theorem qw_1062 : Cond.methodLink "CountyCream$Bank" 9 yX9_at ∈ q_tbl := q_in5 102 rfl rfl
theorem qw_1063 : Cond.constantLong "CountyCream$Bank" 15 (1000) ∈ q_tbl := q_in5 103 rfl rfl
theorem qw_1064 : Cond.constantLong "CountyCream$Bank" 19 (1000000000000) ∈ q_tbl := q_in5 104 rfl rfl
theorem qw_1065 : Cond.methodLink "CountyCream$Bank" 21 Lib.MathLoose.min_long.x ∈ q_tbl := q_in5 105 rfl rfl
theorem qw_1066 : Cond.methodLink "CountyCreamLaw" 221 yX11_ends ∈ q_tbl := q_in5 106 rfl rfl
theorem qw_1070 : Cond.methodLink "CountyCreamLaw" 225 yX11_image ∈ q_tbl := q_in5 110 rfl rfl
theorem qw_1074 : Cond.methodLink "CountyCream" 329 yX5_become ∈ q_tbl := q_in5 114 rfl rfl
theorem qw_1078 : Cond.methodLink "CountyCream$House" 73 yX9_become ∈ q_tbl := q_in5 118 rfl rfl
theorem qw_1082 : Cond.methodLink "CountyCream$Rows" 35 Lib.Math.min.name ∈ q_tbl := q_in5 122 rfl rfl
theorem qw_1083 : Cond.methodLink "CountyCream$Rows" 38 arraycopyName ∈ q_tbl := q_in5 123 rfl rfl
theorem qw_1086 : Cond.methodLink "CountyCreamLaw" 229 yX11_from ∈ q_tbl := q_in5 126 rfl rfl
theorem qw_1090 : Cond.methodLink "CountyCreamLaw" 233 yX11_count ∈ q_tbl := q_in5 130 rfl rfl
theorem qw_1094 : Cond.methodLink "CountyCreamLaw" 237 yX11_digest ∈ q_tbl := q_in5 134 rfl rfl
theorem qw_1098 : Cond.constantLong "CountyCream" 332 (281) ∈ q_tbl := q_in5 138 rfl rfl
theorem qw_1099 : Cond.constantLong "CountyCream" 334 (31) ∈ q_tbl := q_in5 139 rfl rfl
theorem qw_1100 : Cond.methodLink "CountyCream" 336 yX11_count ∈ q_tbl := q_in5 140 rfl rfl
theorem qw_1101 : Cond.methodLink "CountyCream" 339 yX9_digestOn ∈ q_tbl := q_in5 141 rfl rfl
theorem qw_1105 : Cond.constantLong "CountyCream$Rows" 44 (31) ∈ q_tbl := q_in5 145 rfl rfl
theorem qw_1106 : Cond.methodLink "CountyCream$Rows" 46 yX9_at ∈ q_tbl := q_in5 146 rfl rfl
theorem qw_1107 : Cond.methodLink "CountyCream" 343 yX11_digestOfTexts ∈ q_tbl := q_in5 147 rfl rfl
theorem qw_1111 : Cond.classLink "CountyCreamLaw" 10 "CountyCreamModel" ∈ q_tbl := q_in5 151 rfl rfl
theorem qw_1112 : Cond.instantiable "CountyCreamModel" 31 ∈ q_tbl := q_in5 152 rfl rfl
theorem qw_1113 : Cond.methodLink "CountyCreamLaw" 12 yX12_init ∈ q_tbl := q_in5 153 rfl rfl
theorem qw_1116 : Cond.methodLink "CountyCreamModel" 1 Lib.objectInit ∈ q_tbl := q_in5 156 rfl rfl
theorem qw_1117 : Cond.fieldLink "CountyCreamModel" 7 "CountyCreamModel" "st" "[I" ∈ q_tbl := q_in5 157 rfl rfl
theorem qw_1118 : Cond.fieldLink "CountyCreamModel" 13 "CountyCreamModel" "images" "[I" ∈ q_tbl := q_in5 158 rfl rfl
theorem qw_1119 : Cond.fieldLink "CountyCreamModel" 16 "CountyCreamModel" "isKept" "[Z" ∈ q_tbl := q_in5 159 rfl rfl
theorem qw_1120 : Cond.fieldLink "CountyCreamModel" 20 "CountyCreamModel" "rates" "[I" ∈ q_tbl := q_in5 160 rfl rfl
theorem qw_1121 : Cond.fieldLink "CountyCreamModel" 164 "CountyCreamModel" "steps" "I" ∈ q_tbl := q_in5 161 rfl rfl
theorem qw_1122 : Cond.fieldLink "CountyCreamModel" 23 "CountyCreamModel" "step" "[I" ∈ q_tbl := q_in5 162 rfl rfl
theorem qw_1123 : Cond.fieldLink "CountyCreamModel" 26 "CountyCreamModel" "with" "[I" ∈ q_tbl := q_in5 163 rfl rfl
theorem qw_1124 : Cond.fieldLink "CountyCreamModel" 29 "CountyCreamModel" "other" "[I" ∈ q_tbl := q_in5 164 rfl rfl
theorem qw_1125 : Cond.fieldLink "CountyCreamModel" 168 "CountyCreamModel" "waiting" "I" ∈ q_tbl := q_in5 165 rfl rfl
theorem qw_1126 : Cond.fieldLink "CountyCreamModel" 32 "CountyCreamModel" "waits" "[I" ∈ q_tbl := q_in5 166 rfl rfl
theorem qw_1127 : Cond.fieldLink "CountyCreamModel" 35 "CountyCreamModel" "waitsFor" "[I" ∈ q_tbl := q_in5 167 rfl rfl
theorem qw_1128 : Cond.fieldLink "CountyCreamModel" 38 "CountyCreamModel" "waitsToo" "[I" ∈ q_tbl := q_in5 168 rfl rfl
theorem qw_1129 : Cond.fieldLink "CountyCreamModel" 189 "CountyCreamModel" "open" "I" ∈ q_tbl := q_in5 169 rfl rfl
theorem qw_1130 : Cond.fieldLink "CountyCreamModel" 41 "CountyCreamModel" "name" "[J" ∈ q_tbl := q_in5 170 rfl rfl
theorem qw_1131 : Cond.fieldLink "CountyCreamModel" 45 "CountyCreamModel" "sums" "[I" ∈ q_tbl := q_in5 171 rfl rfl
theorem qw_1132 : Cond.fieldLink "CountyCreamModel" 48 "CountyCreamModel" "value" "[J" ∈ q_tbl := q_in5 172 rfl rfl
theorem qw_1133 : Cond.fieldLink "CountyCreamModel" 51 "CountyCreamModel" "isNone" "[Z" ∈ q_tbl := q_in5 173 rfl rfl
theorem qw_1134 : Cond.fieldLink "CountyCreamModel" 216 "CountyCreamModel" "values" "I" ∈ q_tbl := q_in5 174 rfl rfl
theorem qw_1135 : Cond.fieldLink "CountyCreamModel" 54 "CountyCreamModel" "shares" "[J" ∈ q_tbl := q_in5 175 rfl rfl
theorem qw_1136 : Cond.fieldLink "CountyCreamModel" 277 "CountyCreamModel" "stops" "I" ∈ q_tbl := q_in5 176 rfl rfl
theorem qw_1137 : Cond.fieldLink "CountyCreamModel" 57 "CountyCreamModel" "stop" "[I" ∈ q_tbl := q_in5 177 rfl rfl
theorem qw_1138 : Cond.fieldLink "CountyCreamModel" 60 "CountyCreamModel" "best" "[I" ∈ q_tbl := q_in5 178 rfl rfl
theorem qw_1139 : Cond.fieldLink "CountyCreamModel" 284 "CountyCreamModel" "bestMiles" "I" ∈ q_tbl := q_in5 179 rfl rfl
theorem qw_1140 : Cond.fieldLink "CountyCreamModel" 63 "CountyCreamModel" "heapLoss" "[J" ∈ q_tbl := q_in5 180 rfl rfl
theorem qw_1141 : Cond.fieldLink "CountyCreamModel" 66 "CountyCreamModel" "inHeap" "[I" ∈ q_tbl := q_in5 181 rfl rfl
theorem qw_1142 : Cond.fieldLink "CountyCreamModel" 69 "CountyCreamModel" "heaps" "[I" ∈ q_tbl := q_in5 182 rfl rfl
theorem qw_1143 : Cond.fieldLink "CountyCreamModel" 72 "CountyCreamModel" "bestHeap" "[I" ∈ q_tbl := q_in5 183 rfl rfl
theorem qw_1144 : Cond.fieldLink "CountyCreamModel" 75 "CountyCreamModel" "heapSet" "[I" ∈ q_tbl := q_in5 184 rfl rfl
theorem qw_1145 : Cond.fieldLink "CountyCreamModel" 308 "CountyCreamModel" "bestLoss" "J" ∈ q_tbl := q_in5 185 rfl rfl
theorem qw_1146 : Cond.fieldLink "CountyCreamModel" 312 "CountyCreamModel" "bestHeaps" "I" ∈ q_tbl := q_in5 186 rfl rfl
theorem qw_1210 : Cond.methodLink "CountyCreamLaw" 17 yX12_farm ∈ q_tbl := q_in6 10 rfl rfl
theorem qw_1214 : Cond.methodLink "CountyCreamModel" 78 yX12_in ∈ q_tbl := q_in6 14 rfl rfl
theorem qw_1217 : Cond.methodLink "CountyCreamModel" 82 yX12_more ∈ q_tbl := q_in6 17 rfl rfl
theorem qw_1221 : Cond.methodLink "CountyCreamLaw" 22 yX12_change ∈ q_tbl := q_in6 21 rfl rfl
theorem qw_1225 : Cond.methodLink "CountyCreamModel" 86 yX12_is ∈ q_tbl := q_in6 25 rfl rfl
theorem qw_1229 : Cond.methodLink "CountyCreamLaw" 27 yX12_can ∈ q_tbl := q_in6 29 rfl rfl
theorem qw_1233 : Cond.methodLink "CountyCreamModel" 90 yX12_isDay ∈ q_tbl := q_in6 33 rfl rfl
theorem qw_1236 : Cond.methodLink "CountyCreamLaw" 32 yX12_test ∈ q_tbl := q_in6 36 rfl rfl
theorem qw_1240 : Cond.methodLink "CountyCreamLaw" 36 yX12_right ∈ q_tbl := q_in6 40 rfl rfl
theorem qw_1244 : Cond.methodLink "CountyCreamLaw" 41 yX12_bias ∈ q_tbl := q_in6 44 rfl rfl
theorem qw_1248 : Cond.methodLink "CountyCreamLaw" 46 yX12_period ∈ q_tbl := q_in6 48 rfl rfl
theorem qw_1252 : Cond.methodLink "CountyCreamLaw" 50 yX12_rate ∈ q_tbl := q_in6 52 rfl rfl
theorem qw_1256 : Cond.methodLink "CountyCreamModel" 107 yX12_rateOf ∈ q_tbl := q_in6 56 rfl rfl
theorem qw_1260 : Cond.methodLink "CountyCreamModel" 98 yX12_isKnown ∈ q_tbl := q_in6 60 rfl rfl
theorem qw_1264 : Cond.methodLink "CountyCreamModel" 94 yX12_numberOf ∈ q_tbl := q_in6 64 rfl rfl
theorem qw_1268 : Cond.methodLink "CountyCreamModel" 101 yX12_leant ∈ q_tbl := q_in6 68 rfl rfl
theorem qw_1272 : Cond.methodLink "CountyCreamModel" 104 yX12_isAhead ∈ q_tbl := q_in6 72 rfl rfl
theorem qw_1276 : Cond.methodLink "CountyCreamLaw" 54 yX12_canRate ∈ q_tbl := q_in6 76 rfl rfl
theorem qw_1280 : Cond.methodLink "CountyCreamModel" 113 yX12_findRates ∈ q_tbl := q_in6 80 rfl rfl
theorem qw_1284 : Cond.methodLink "CountyCreamModel" 117 yX12_rateOfCan ∈ q_tbl := q_in6 84 rfl rfl
theorem qw_1288 : Cond.methodLink "CountyCreamModel" 110 yX12_farmRate ∈ q_tbl := q_in6 88 rfl rfl
theorem qw_1292 : Cond.methodLink "CountyCreamLaw" 59 yX12_fat ∈ q_tbl := q_in6 92 rfl rfl
theorem qw_1296 : Cond.methodLink "CountyCreamModel" 120 yX12_isWeek ∈ q_tbl := q_in6 96 rfl rfl
theorem qw_1299 : Cond.constantLong "CountyCreamModel" 123 (-2) ∈ q_tbl := q_in6 99 rfl rfl
theorem qw_1300 : Cond.methodLink "CountyCreamModel" 125 yX12_fatOf ∈ q_tbl := q_in6 100 rfl rfl
theorem qw_1304 : Cond.methodLink "CountyCreamLaw" 63 yX12_churn ∈ q_tbl := q_in6 104 rfl rfl
theorem qw_1308 : Cond.methodLink "CountyCreamLaw" 67 yX12_fill ∈ q_tbl := q_in6 108 rfl rfl
theorem qw_1312 : Cond.methodLink "CountyCreamLaw" 71 yX12_about ∈ q_tbl := q_in6 112 rfl rfl
theorem qw_1316 : Cond.methodLink "CountyCreamModel" 146 yX12_cansOf ∈ q_tbl := q_in6 116 rfl rfl
theorem qw_1320 : Cond.methodLink "CountyCreamModel" 136 yX12_lossOf ∈ q_tbl := q_in6 120 rfl rfl
theorem qw_1324 : Cond.methodLink "CountyCreamModel" 129 yX12_size ∈ q_tbl := q_in6 124 rfl rfl
theorem qw_1327 : Cond.methodLink "CountyCreamModel" 132 yX12_churnFat ∈ q_tbl := q_in6 127 rfl rfl
theorem qw_1331 : Cond.methodLink "CountyCreamModel" 141 yX12_butter ∈ q_tbl := q_in6 131 rfl rfl
theorem qw_1335 : Cond.constantLong "CountyCreamModel" 139 (1000) ∈ q_tbl := q_in6 135 rfl rfl
theorem qw_1336 : Cond.methodLink "CountyCreamModel" 149 yX12_agrees ∈ q_tbl := q_in6 136 rfl rfl
theorem qw_1340 : Cond.constantLong "CountyCreamModel" 144 (20) ∈ q_tbl := q_in6 140 rfl rfl
theorem qw_1341 : Cond.methodLink "CountyCreamModel" 152 yX12_boxesOf ∈ q_tbl := q_in6 141 rfl rfl
theorem qw_1345 : Cond.methodLink "CountyCreamModel" 155 yX12_penceOf ∈ q_tbl := q_in6 145 rfl rfl
theorem qw_1349 : Cond.methodLink "CountyCreamLaw" 75 yX12_out ∈ q_tbl := q_in6 149 rfl rfl
theorem qw_1353 : Cond.constant "CountyCreamModel" 158 (300000000) ∈ q_tbl := q_in6 153 rfl rfl
theorem qw_1354 : Cond.methodLink "CountyCreamLaw" 79 yX12_box ∈ q_tbl := q_in6 154 rfl rfl
theorem qw_1358 : Cond.methodLink "CountyCreamLaw" 83 yX12_sell ∈ q_tbl := q_in6 158 rfl rfl
theorem qw_1362 : Cond.constant "CountyCreamModel" 159 (1000000) ∈ q_tbl := q_in6 162 rfl rfl
theorem qw_1363 : Cond.methodLink "CountyCreamLaw" 87 yX12_grade ∈ q_tbl := q_in6 163 rfl rfl
theorem qw_1367 : Cond.methodLink "CountyCreamLaw" 92 yX12_lean ∈ q_tbl := q_in6 167 rfl rfl
theorem qw_1371 : Cond.methodLink "CountyCreamLaw" 96 yX12_lot ∈ q_tbl := q_in6 171 rfl rfl
theorem qw_1375 : Cond.methodLink "CountyCreamModel" 160 yX12_lean ∈ q_tbl := q_in6 175 rfl rfl
theorem qw_1376 : Cond.methodLink "CountyCreamLaw" 100 yX12_lead ∈ q_tbl := q_in6 176 rfl rfl
theorem qw_1380 : Cond.methodLink "CountyCreamLaw" 104 yX12_write ∈ q_tbl := q_in6 180 rfl rfl
theorem qw_1384 : Cond.methodLink "CountyCreamModel" 233 yX12_isText ∈ q_tbl := q_in6 184 rfl rfl
theorem qw_1387 : Cond.methodLink "CountyCreamLaw" 108 yX12_erase ∈ q_tbl := q_in6 187 rfl rfl
theorem qw_1391 : Cond.methodLink "CountyCreamLaw" 112 yX12_fault ∈ q_tbl := q_in6 191 rfl rfl
theorem qw_1395 : Cond.methodLink "CountyCreamModel" 236 yX12_reads ∈ q_tbl := q_in6 195 rfl rfl
theorem qw_1399 : Cond.methodLink "CountyCreamModel" 196 yX12_goesOn ∈ q_tbl := q_in6 199 rfl rfl
theorem qw_1403 : Cond.methodLink "CountyCreamModel" 171 yX12_holds ∈ q_tbl := q_in6 203 rfl rfl
theorem qw_1406 : Cond.methodLink "CountyCreamModel" 183 yX12_settlesChosen ∈ q_tbl := q_in6 206 rfl rfl
theorem qw_1410 : Cond.methodLink "CountyCreamModel" 180 yX12_settles ∈ q_tbl := q_in6 210 rfl rfl
theorem qw_1414 : Cond.methodLink "CountyCreamModel" 174 yX12_emits ∈ q_tbl := q_in6 214 rfl rfl
theorem qw_1418 : Cond.methodLink "CountyCreamModel" 177 yX12_stepOf ∈ q_tbl := q_in6 218 rfl rfl
theorem qw_1421 : Cond.methodLink "CountyCreamModel" 186 yX12_top ∈ q_tbl := q_in6 221 rfl rfl
theorem qw_1425 : Cond.methodLink "CountyCreamModel" 192 yX12_waitsWith ∈ q_tbl := q_in6 225 rfl rfl
theorem qw_1429 : Cond.methodLink "CountyCreamModel" 199 yX12_nameOf ∈ q_tbl := q_in6 229 rfl rfl
theorem qw_1432 : Cond.methodLink "CountyCreamLaw" 117 yX12_tells ∈ q_tbl := q_in6 232 rfl rfl
theorem qw_1436 : Cond.constantLong "CountyCreamModel" 239 (-2000000000000000000) ∈ q_tbl := q_in6 236 rfl rfl
theorem qw_1437 : Cond.constantLong "CountyCreamModel" 241 (-3000000000000000000) ∈ q_tbl := q_in6 237 rfl rfl
theorem qw_1438 : Cond.methodLink "CountyCreamModel" 243 yX12_findNames ∈ q_tbl := q_in6 238 rfl rfl
theorem qw_1442 : Cond.methodLink "CountyCreamModel" 202 yX12_isIn ∈ q_tbl := q_in7 2 rfl rfl
theorem qw_1446 : Cond.constantLong "CountyCreamModel" 205 (100) ∈ q_tbl := q_in7 6 rfl rfl
theorem qw_1447 : Cond.methodLink "CountyCreamModel" 207 yX12_isMember ∈ q_tbl := q_in7 7 rfl rfl
theorem qw_1451 : Cond.methodLink "CountyCreamModel" 210 yX12_cows ∈ q_tbl := q_in7 11 rfl rfl
theorem qw_1455 : Cond.methodLink "CountyCreamModel" 213 yX12_weightOf ∈ q_tbl := q_in7 15 rfl rfl
theorem qw_1459 : Cond.methodLink "CountyCreamModel" 247 yX12_goes ∈ q_tbl := q_in7 19 rfl rfl
theorem qw_1463 : Cond.methodLink "CountyCreamModel" 219 yX12_puts ∈ q_tbl := q_in7 23 rfl rfl
theorem qw_1467 : Cond.methodLink "CountyCreamModel" 227 yX12_works ∈ q_tbl := q_in7 27 rfl rfl
theorem qw_1471 : Cond.methodLink "CountyCreamModel" 223 yX12_twoOf ∈ q_tbl := q_in7 31 rfl rfl
theorem qw_1474 : Cond.methodLink "CountyCreamModel" 230 yX12_jumps ∈ q_tbl := q_in7 34 rfl rfl
theorem qw_1478 : Cond.constantLong "CountyCreamModel" 251 (-1000000000000000000) ∈ q_tbl := q_in7 38 rfl rfl
theorem qw_1479 : Cond.methodLink "CountyCreamLaw" 121 yX12_motion ∈ q_tbl := q_in7 39 rfl rfl
theorem qw_1483 : Cond.methodLink "CountyCreamLaw" 125 yX12_vote ∈ q_tbl := q_in7 43 rfl rfl
theorem qw_1487 : Cond.methodLink "CountyCreamLaw" 130 yX12_tear ∈ q_tbl := q_in7 47 rfl rfl
theorem qw_1491 : Cond.methodLink "CountyCreamLaw" 134 yX12_motionAt ∈ q_tbl := q_in7 51 rfl rfl
theorem qw_1495 : Cond.methodLink "CountyCreamModel" 259 yX12_motionOf ∈ q_tbl := q_in7 55 rfl rfl
theorem qw_1499 : Cond.methodLink "CountyCreamModel" 253 yX12_voted ∈ q_tbl := q_in7 59 rfl rfl
theorem qw_1503 : Cond.methodLink "CountyCreamModel" 256 yX12_isPassed ∈ q_tbl := q_in7 63 rfl rfl
theorem qw_1507 : Cond.methodLink "CountyCreamLaw" 138 yX12_force ∈ q_tbl := q_in7 67 rfl rfl
theorem qw_1511 : Cond.methodLink "CountyCreamModel" 262 yX12_forceOf ∈ q_tbl := q_in7 71 rfl rfl
theorem qw_1515 : Cond.methodLink "CountyCreamLaw" 143 yX12_money ∈ q_tbl := q_in7 75 rfl rfl
theorem qw_1519 : Cond.methodLink "CountyCreamModel" 265 yX12_moneyOf ∈ q_tbl := q_in7 79 rfl rfl
theorem qw_1523 : Cond.methodLink "CountyCreamLaw" 151 yX12_share ∈ q_tbl := q_in7 83 rfl rfl
theorem qw_1527 : Cond.methodLink "CountyCreamModel" 270 yX12_findShares ∈ q_tbl := q_in7 87 rfl rfl
theorem qw_1531 : Cond.constantLong "CountyCreamModel" 268 (1000000000) ∈ q_tbl := q_in7 91 rfl rfl
theorem qw_1532 : Cond.methodLink "CountyCreamLaw" 147 yX12_pay ∈ q_tbl := q_in7 92 rfl rfl
theorem qw_1536 : Cond.methodLink "CountyCreamLaw" 155 yX12_watered ∈ q_tbl := q_in7 96 rfl rfl
theorem qw_1540 : Cond.methodLink "CountyCreamLaw" 159 yX12_sour ∈ q_tbl := q_in7 100 rfl rfl
theorem qw_1544 : Cond.methodLink "CountyCreamLaw" 163 yX12_route ∈ q_tbl := q_in7 104 rfl rfl
theorem qw_1548 : Cond.methodLink "CountyCreamModel" 296 yX12_whyRoute ∈ q_tbl := q_in7 108 rfl rfl
theorem qw_1552 : Cond.methodLink "CountyCreamModel" 293 yX12_sizeOf ∈ q_tbl := q_in7 112 rfl rfl
theorem qw_1555 : Cond.methodLink "CountyCreamModel" 300 yX12_findRoute ∈ q_tbl := q_in7 115 rfl rfl
theorem qw_1559 : Cond.methodLink "CountyCreamModel" 287 yX12_milesBack ∈ q_tbl := q_in7 119 rfl rfl
theorem qw_1563 : Cond.methodLink "CountyCreamModel" 280 yX12_farmMiles ∈ q_tbl := q_in7 123 rfl rfl
theorem qw_1567 : Cond.methodLink "CountyCreamModel" 273 yX12_miles ∈ q_tbl := q_in7 127 rfl rfl
theorem qw_1570 : Cond.methodLink "CountyCreamModel" 290 yX12_nextOrder ∈ q_tbl := q_in7 130 rfl rfl
theorem qw_1574 : Cond.methodLink "CountyCreamLaw" 167 yX12_routeAt ∈ q_tbl := q_in7 134 rfl rfl
theorem qw_1578 : Cond.methodLink "CountyCreamLaw" 171 yX12_cream ∈ q_tbl := q_in7 138 rfl rfl
theorem qw_1582 : Cond.methodLink "CountyCreamLaw" 175 yX12_drain ∈ q_tbl := q_in7 142 rfl rfl
theorem qw_1586 : Cond.methodLink "CountyCreamLaw" 180 yX12_together ∈ q_tbl := q_in7 146 rfl rfl
theorem qw_1590 : Cond.methodLink "CountyCreamModel" 321 yX12_findHeaps ∈ q_tbl := q_in7 150 rfl rfl
theorem qw_1594 : Cond.methodLink "CountyCreamModel" 303 yX12_lossOfHeap ∈ q_tbl := q_in7 154 rfl rfl
theorem qw_1598 : Cond.constantLong "CountyCreamModel" 306 (-1) ∈ q_tbl := q_in7 158 rfl rfl
theorem qw_1599 : Cond.methodLink "CountyCreamModel" 315 yX12_weighs ∈ q_tbl := q_in7 159 rfl rfl
theorem qw_1603 : Cond.methodLink "CountyCreamModel" 318 yX12_nextHeaps ∈ q_tbl := q_in7 163 rfl rfl
theorem qw_1607 : Cond.methodLink "CountyCreamLaw" 184 yX12_heap ∈ q_tbl := q_in7 167 rfl rfl
theorem qw_1611 : Cond.methodLink "CountyCreamLaw" 188 yX12_gives ∈ q_tbl := q_in7 171 rfl rfl
theorem qw_1615 : Cond.methodLink "CountyCreamLaw" 192 yX12_calved ∈ q_tbl := q_in7 175 rfl rfl
theorem qw_1619 : Cond.methodLink "CountyCreamLaw" 196 yX12_foretold ∈ q_tbl := q_in7 179 rfl rfl
theorem qw_1623 : Cond.methodLink "CountyCreamLaw" 200 yX12_site ∈ q_tbl := q_in7 183 rfl rfl
theorem qw_1627 : Cond.methodLink "CountyCreamLaw" 204 yX12_freight ∈ q_tbl := q_in7 187 rfl rfl
theorem qw_1631 : Cond.methodLink "CountyCreamLaw" 208 yX12_open ∈ q_tbl := q_in7 191 rfl rfl
theorem qw_1635 : Cond.constantLong "CountyCreamModel" 330 (-3) ∈ q_tbl := q_in7 195 rfl rfl
theorem qw_1636 : Cond.methodLink "CountyCreamModel" 332 yX12_costOf ∈ q_tbl := q_in7 196 rfl rfl
theorem qw_1640 : Cond.methodLink "CountyCreamModel" 327 yX12_nearestOf ∈ q_tbl := q_in7 200 rfl rfl
theorem qw_1644 : Cond.methodLink "CountyCreamModel" 324 yX12_toSite ∈ q_tbl := q_in7 204 rfl rfl
theorem qw_1648 : Cond.methodLink "CountyCreamLaw" 212 yX12_nearest ∈ q_tbl := q_in7 208 rfl rfl
theorem qw_1652 : Cond.methodLink "CountyCreamLaw" 216 yX12_loan ∈ q_tbl := q_in7 212 rfl rfl
theorem qw_1656 : Cond.constant "CountyCreamModel" 335 (100000) ∈ q_tbl := q_in7 216 rfl rfl
theorem qw_1657 : Cond.methodLink "CountyCreamLaw" 220 yX12_owed ∈ q_tbl := q_in7 217 rfl rfl
theorem qw_1661 : Cond.methodLink "CountyCreamModel" 340 yX12_weekOn ∈ q_tbl := q_in7 221 rfl rfl
theorem qw_1665 : Cond.constantLong "CountyCreamModel" 336 (999) ∈ q_tbl := q_in7 225 rfl rfl
theorem qw_1666 : Cond.constantLong "CountyCreamModel" 338 (1000000000000) ∈ q_tbl := q_in7 226 rfl rfl
theorem qw_1667 : Cond.methodLink "CountyCreamLaw" 224 yX12_ends ∈ q_tbl := q_in7 227 rfl rfl
theorem qw_1671 : Cond.methodLink "CountyCreamLaw" 228 yX12_image ∈ q_tbl := q_in7 231 rfl rfl
theorem qw_1675 : Cond.methodLink "CountyCreamLaw" 232 yX12_from ∈ q_tbl := q_in7 235 rfl rfl
theorem qw_1679 : Cond.methodLink "CountyCreamLaw" 236 yX12_count ∈ q_tbl := q_in7 239 rfl rfl
theorem qw_1683 : Cond.methodLink "CountyCreamLaw" 241 yX12_digest ∈ q_tbl := q_in8 3 rfl rfl
theorem qw_1687 : Cond.constantLong "CountyCreamModel" 346 (281) ∈ q_tbl := q_in8 7 rfl rfl
theorem qw_1688 : Cond.methodLink "CountyCreamModel" 348 yX12_mixed ∈ q_tbl := q_in8 8 rfl rfl
theorem qw_1692 : Cond.constantLong "CountyCreamModel" 344 (31) ∈ q_tbl := q_in8 12 rfl rfl
def Y_X0_init : q_Y := (yX0_init, cX0_init, 2, none, (1, 20), (0, 0))
theorem qc_X0_init : Cond.code (q_nm Y_X0_init) (q_cd Y_X0_init) (q_ml Y_X0_init) (q_rt Y_X0_init) ∈ q_tbl := q_in2 5 rfl rfl
theorem mi_X0_init : q_mI Y_X0_init 1 := ⟨q_in2 4 rfl rfl, q_in1 8 rfl rfl, qc_X0_init, ⟨by decide +kernel, by decide +kernel, by decide +kernel⟩, rfl, rfl⟩
def Y_X9_put : q_Y := (yX9_put, cX9_put, 5, none, (0, 0), (0, 0))
theorem qc_X9_put : Cond.code (q_nm Y_X9_put) (q_cd Y_X9_put) (q_ml Y_X9_put) (q_rt Y_X9_put) ∈ q_tbl := q_in1 70 rfl rfl
theorem mv_X9_put : q_mV Y_X9_put "CountyCream$Rows" 3 := ⟨rfl, q_in1 68 rfl rfl, q_in1 69 rfl rfl, q_in1 3 rfl rfl, qc_X9_put, ⟨by decide +kernel, by decide +kernel, by decide +kernel⟩, rfl, rfl⟩
def Y_X9_come : q_Y := (yX9_come, cX9_come, 6, (some .int), (1, 24), (0, 0))
theorem qc_X9_come : Cond.code (q_nm Y_X9_come) (q_cd Y_X9_come) (q_ml Y_X9_come) (q_rt Y_X9_come) ∈ q_tbl := q_in1 66 rfl rfl
theorem mv_X9_come : q_mV Y_X9_come "CountyCream$Rows" 3 := ⟨rfl, q_in1 64 rfl rfl, q_in1 65 rfl rfl, q_in1 3 rfl rfl, qc_X9_come, ⟨by decide +kernel, by decide +kernel, by decide +kernel⟩, rfl, rfl⟩
def Y_X9_at : q_Y := (yX9_at, cX9_at, 4, (some .int), (0, 0), (0, 0))
theorem qc_X9_at : Cond.code (q_nm Y_X9_at) (q_cd Y_X9_at) (q_ml Y_X9_at) (q_rt Y_X9_at) ∈ q_tbl := q_in2 205 rfl rfl
theorem mv_X9_at : q_mV Y_X9_at "CountyCream$Rows" 2 := ⟨rfl, q_in2 203 rfl rfl, q_in2 204 rfl rfl, q_in1 3 rfl rfl, qc_X9_at, ⟨by decide +kernel, by decide +kernel, by decide +kernel⟩, rfl, rfl⟩
def Y_X0_propose : q_Y := (yX0_propose, cX0_propose, 6, (some .int), (2, 49), (0, 0))
theorem qc_X0_propose : Cond.code (q_nm Y_X0_propose) (q_cd Y_X0_propose) (q_ml Y_X0_propose) (q_rt Y_X0_propose) ∈ q_tbl := q_in4 56 rfl rfl
theorem mv_X0_propose : q_mV Y_X0_propose "CountyCream$Ballot" 3 := ⟨rfl, q_in4 54 rfl rfl, q_in4 55 rfl rfl, q_in1 8 rfl rfl, qc_X0_propose, ⟨by decide +kernel, by decide +kernel, by decide +kernel⟩, rfl, rfl⟩
def Y_X0_votesOf : q_Y := (yX0_votesOf, cX0_votesOf, 6, (some .int), (1, 23), (0, 0))
theorem qc_X0_votesOf : Cond.code (q_nm Y_X0_votesOf) (q_cd Y_X0_votesOf) (q_ml Y_X0_votesOf) (q_rt Y_X0_votesOf) ∈ q_tbl := q_in4 79 rfl rfl
theorem mv_X0_votesOf : q_mV Y_X0_votesOf "CountyCream$Ballot" 2 := ⟨rfl, q_in4 78 rfl rfl, q_inP 25 rfl rfl, q_in1 8 rfl rfl, qc_X0_votesOf, ⟨by decide +kernel, by decide +kernel, by decide +kernel⟩, rfl, rfl⟩
def Y_X0_isPassed : q_Y := (yX0_isPassed, cX0_isPassed, 5, (some .boolean), (2, 48), (0, 0))
theorem qc_X0_isPassed : Cond.code (q_nm Y_X0_isPassed) (q_cd Y_X0_isPassed) (q_ml Y_X0_isPassed) (q_rt Y_X0_isPassed) ∈ q_tbl := q_in4 83 rfl rfl
theorem mv_X0_isPassed : q_mV Y_X0_isPassed "CountyCream$Ballot" 1 := ⟨rfl, q_in4 82 rfl rfl, q_inP 26 rfl rfl, q_in1 8 rfl rfl, qc_X0_isPassed, ⟨by decide +kernel, by decide +kernel, by decide +kernel⟩, rfl, rfl⟩
def Y_X11_asNumber : q_Y := (yX11_asNumber, cX11_asNumber, 1, (some .int), (0, 0), (0, 0))
theorem qc_X11_asNumber : Cond.code (q_nm Y_X11_asNumber) (q_cd Y_X11_asNumber) (q_ml Y_X11_asNumber) (q_rt Y_X11_asNumber) ∈ q_tbl := q_in2 174 rfl rfl
theorem ms_X11_asNumber : q_mS Y_X11_asNumber 1 := ⟨q_in2 173 rfl rfl, q_in1 1 rfl rfl, qc_X11_asNumber, ⟨by decide +kernel, by decide +kernel, by decide +kernel⟩, rfl, rfl⟩
def Y_X0_tellOf : q_Y := (yX0_tellOf, cX0_tellOf, 3, (some .int), (3, 72), (0, 0))
theorem qc_X0_tellOf : Cond.code (q_nm Y_X0_tellOf) (q_cd Y_X0_tellOf) (q_ml Y_X0_tellOf) (q_rt Y_X0_tellOf) ∈ q_tbl := q_in4 75 rfl rfl
theorem mv_X0_tellOf : q_mV Y_X0_tellOf "CountyCream$Ballot" 2 := ⟨rfl, q_in4 73 rfl rfl, q_in4 74 rfl rfl, q_in1 8 rfl rfl, qc_X0_tellOf, ⟨by decide +kernel, by decide +kernel, by decide +kernel⟩, rfl, rfl⟩
def Y_X0_inForce : q_Y := (yX0_inForce, cX0_inForce, 5, (some .int), (3, 72), (0, 0))
theorem qc_X0_inForce : Cond.code (q_nm Y_X0_inForce) (q_cd Y_X0_inForce) (q_ml Y_X0_inForce) (q_rt Y_X0_inForce) ∈ q_tbl := q_in4 92 rfl rfl
theorem mv_X0_inForce : q_mV Y_X0_inForce "CountyCream$Ballot" 1 := ⟨rfl, q_in4 90 rfl rfl, q_in4 91 rfl rfl, q_in1 8 rfl rfl, qc_X0_inForce, ⟨by decide +kernel, by decide +kernel, by decide +kernel⟩, rfl, rfl⟩
def Y_X1_behindAWeek : q_Y := (yX1_behindAWeek, cX1_behindAWeek, 8, (some .long), (1, 23), (0, 0))
theorem qc_X1_behindAWeek : Cond.code (q_nm Y_X1_behindAWeek) (q_cd Y_X1_behindAWeek) (q_ml Y_X1_behindAWeek) (q_rt Y_X1_behindAWeek) ∈ q_tbl := q_in5 101 rfl rfl
theorem ms_X1_behindAWeek : q_mS Y_X1_behindAWeek 3 := ⟨q_in5 100 rfl rfl, q_in1 16 rfl rfl, qc_X1_behindAWeek, ⟨by decide +kernel, by decide +kernel, by decide +kernel⟩, rfl, rfl⟩
def Y_X2_init : q_Y := (yX2_init, cX2_init, 2, none, (1, 20), (5, 5120))
theorem qc_X2_init : Cond.code (q_nm Y_X2_init) (q_cd Y_X2_init) (q_ml Y_X2_init) (q_rt Y_X2_init) ∈ q_tbl := q_in2 88 rfl rfl
theorem mi_X2_init : q_mI Y_X2_init 1 := ⟨q_in2 87 rfl rfl, q_in1 11 rfl rfl, qc_X2_init, ⟨by decide +kernel, by decide +kernel, by decide +kernel⟩, rfl, rfl⟩
def Y_X2_allCreams : q_Y := (yX2_allCreams, cX2_allCreams, 1, (some .int), (1, 23), (0, 0))
theorem qc_X2_allCreams : Cond.code (q_nm Y_X2_allCreams) (q_cd Y_X2_allCreams) (q_ml Y_X2_allCreams) (q_rt Y_X2_allCreams) ∈ q_tbl := q_in5 1 rfl rfl
theorem mv_X2_allCreams : q_mV Y_X2_allCreams "CountyCream$Blend" 0 := ⟨rfl, q_in5 0 rfl rfl, q_inP 38 rfl rfl, q_in1 11 rfl rfl, qc_X2_allCreams, ⟨by decide +kernel, by decide +kernel, by decide +kernel⟩, rfl, rfl⟩
def Y_J6_numberOfTrailingZeros_0f7a4 : q_Y := (yJ6_numberOfTrailingZeros_0f7a4, cJ6_numberOfTrailingZeros_0f7a4, 2, (some .int), (0, 0), (0, 0))
theorem qc_J6_numberOfTrailingZeros_0f7a4 : Cond.code (q_nm Y_J6_numberOfTrailingZeros_0f7a4) (q_cd Y_J6_numberOfTrailingZeros_0f7a4) (q_ml Y_J6_numberOfTrailingZeros_0f7a4) (q_rt Y_J6_numberOfTrailingZeros_0f7a4) ∈ q_tbl := q_in5 5 rfl rfl
theorem ms_J6_numberOfTrailingZeros_0f7a4 : q_mS Y_J6_numberOfTrailingZeros_0f7a4 1 := ⟨q_in5 4 rfl rfl, q_in1 15 rfl rfl, qc_J6_numberOfTrailingZeros_0f7a4, ⟨by decide +kernel, by decide +kernel, by decide +kernel⟩, rfl, rfl⟩
def Y_X2_shiftOf : q_Y := (yX2_shiftOf, cX2_shiftOf, 1, (some .int), (0, 0), (0, 0))
theorem qc_X2_shiftOf : Cond.code (q_nm Y_X2_shiftOf) (q_cd Y_X2_shiftOf) (q_ml Y_X2_shiftOf) (q_rt Y_X2_shiftOf) ∈ q_tbl := q_in5 9 rfl rfl
theorem ms_X2_shiftOf : q_mS Y_X2_shiftOf 1 := ⟨q_in5 8 rfl rfl, q_in1 11 rfl rfl, qc_X2_shiftOf, ⟨by decide +kernel, by decide +kernel, by decide +kernel⟩, rfl, rfl⟩
def Y_J6_bitCount_0f7a4 : q_Y := (yJ6_bitCount_0f7a4, cJ6_bitCount_0f7a4, 1, (some .int), (0, 0), (0, 0))
theorem qc_J6_bitCount_0f7a4 : Cond.code (q_nm Y_J6_bitCount_0f7a4) (q_cd Y_J6_bitCount_0f7a4) (q_ml Y_J6_bitCount_0f7a4) (q_rt Y_J6_bitCount_0f7a4) ∈ q_tbl := q_in4 154 rfl rfl
theorem ms_J6_bitCount_0f7a4 : q_mS Y_J6_bitCount_0f7a4 1 := ⟨q_in4 153 rfl rfl, q_in1 15 rfl rfl, qc_J6_bitCount_0f7a4, ⟨by decide +kernel, by decide +kernel, by decide +kernel⟩, rfl, rfl⟩
def Y_X11_holds : q_Y := (yX11_holds, cX11_holds, 2, (some .boolean), (0, 0), (0, 0))
theorem qc_X11_holds : Cond.code (q_nm Y_X11_holds) (q_cd Y_X11_holds) (q_ml Y_X11_holds) (q_rt Y_X11_holds) ∈ q_tbl := q_in4 168 rfl rfl
theorem ms_X11_holds : q_mS Y_X11_holds 2 := ⟨q_in4 167 rfl rfl, q_in1 1 rfl rfl, qc_X11_holds, ⟨by decide +kernel, by decide +kernel, by decide +kernel⟩, rfl, rfl⟩
def Y_X11_cut : q_Y := (yX11_cut, cX11_cut, 4, (some .long), (0, 0), (0, 0))
theorem qc_X11_cut : Cond.code (q_nm Y_X11_cut) (q_cd Y_X11_cut) (q_ml Y_X11_cut) (q_rt Y_X11_cut) ∈ q_tbl := q_in3 22 rfl rfl
theorem ms_X11_cut : q_mS Y_X11_cut 2 := ⟨q_in3 21 rfl rfl, q_in1 1 rfl rfl, qc_X11_cut, ⟨by decide +kernel, by decide +kernel, by decide +kernel⟩, rfl, rfl⟩
def Y_X2_lossAsHeap : q_Y := (yX2_lossAsHeap, cX2_lossAsHeap, 11, (some .long), (1, 23), (0, 0))
theorem qc_X2_lossAsHeap : Cond.code (q_nm Y_X2_lossAsHeap) (q_cd Y_X2_lossAsHeap) (q_ml Y_X2_lossAsHeap) (q_rt Y_X2_lossAsHeap) ∈ q_tbl := q_in5 14 rfl rfl
theorem mv_X2_lossAsHeap : q_mV Y_X2_lossAsHeap "CountyCream$Blend" 1 := ⟨rfl, q_in5 13 rfl rfl, q_inP 39 rfl rfl, q_in1 11 rfl rfl, qc_X2_lossAsHeap, ⟨by decide +kernel, by decide +kernel, by decide +kernel⟩, rfl, rfl⟩
def Y_X2_isBetter : q_Y := (yX2_isBetter, cX2_isBetter, 7, (some .boolean), (0, 0), (0, 0))
theorem qc_X2_isBetter : Cond.code (q_nm Y_X2_isBetter) (q_cd Y_X2_isBetter) (q_ml Y_X2_isBetter) (q_rt Y_X2_isBetter) ∈ q_tbl := q_in5 32 rfl rfl
theorem mv_X2_isBetter : q_mV Y_X2_isBetter "CountyCream$Blend" 4 := ⟨rfl, q_in5 31 rfl rfl, q_inP 42 rfl rfl, q_in1 11 rfl rfl, qc_X2_isBetter, ⟨by decide +kernel, by decide +kernel, by decide +kernel⟩, rfl, rfl⟩
def Y_X2_tryHeap : q_Y := (yX2_tryHeap, cX2_tryHeap, 9, none, (1, 26), (0, 0))
theorem qc_X2_tryHeap : Cond.code (q_nm Y_X2_tryHeap) (q_cd Y_X2_tryHeap) (q_ml Y_X2_tryHeap) (q_rt Y_X2_tryHeap) ∈ q_tbl := q_in5 28 rfl rfl
theorem mv_X2_tryHeap : q_mV Y_X2_tryHeap "CountyCream$Blend" 2 := ⟨rfl, q_in5 27 rfl rfl, q_inP 41 rfl rfl, q_in1 11 rfl rfl, qc_X2_tryHeap, ⟨by decide +kernel, by decide +kernel, by decide +kernel⟩, rfl, rfl⟩
def Y_X2_planSet : q_Y := (yX2_planSet, cX2_planSet, 7, none, (2, 54), (0, 0))
theorem qc_X2_planSet : Cond.code (q_nm Y_X2_planSet) (q_cd Y_X2_planSet) (q_ml Y_X2_planSet) (q_rt Y_X2_planSet) ∈ q_tbl := q_in5 24 rfl rfl
theorem mv_X2_planSet : q_mV Y_X2_planSet "CountyCream$Blend" 2 := ⟨rfl, q_in5 23 rfl rfl, q_inP 40 rfl rfl, q_in1 11 rfl rfl, qc_X2_planSet, ⟨by decide +kernel, by decide +kernel, by decide +kernel⟩, rfl, rfl⟩
def Y_X2_plan : q_Y := (yX2_plan, cX2_plan, 4, none, (3, 80), (0, 0))
theorem qc_X2_plan : Cond.code (q_nm Y_X2_plan) (q_cd Y_X2_plan) (q_ml Y_X2_plan) (q_rt Y_X2_plan) ∈ q_tbl := q_in4 237 rfl rfl
theorem mv_X2_plan : q_mV Y_X2_plan "CountyCream$Blend" 1 := ⟨rfl, q_in4 235 rfl rfl, q_in4 236 rfl rfl, q_in1 11 rfl rfl, qc_X2_plan, ⟨by decide +kernel, by decide +kernel, by decide +kernel⟩, rfl, rfl⟩
def Y_X2_lost : q_Y := (yX2_lost, cX2_lost, 2, (some .long), (2, 43), (0, 0))
theorem qc_X2_lost : Cond.code (q_nm Y_X2_lost) (q_cd Y_X2_lost) (q_ml Y_X2_lost) (q_rt Y_X2_lost) ∈ q_tbl := q_in5 36 rfl rfl
theorem mv_X2_lost : q_mV Y_X2_lost "CountyCream$Blend" 0 := ⟨rfl, q_in5 34 rfl rfl, q_in5 35 rfl rfl, q_in1 11 rfl rfl, qc_X2_lost, ⟨by decide +kernel, by decide +kernel, by decide +kernel⟩, rfl, rfl⟩
def Y_X2_leastOfHeap : q_Y := (yX2_leastOfHeap, cX2_leastOfHeap, 3, (some .int), (2, 43), (0, 0))
theorem qc_X2_leastOfHeap : Cond.code (q_nm Y_X2_leastOfHeap) (q_cd Y_X2_leastOfHeap) (q_ml Y_X2_leastOfHeap) (q_rt Y_X2_leastOfHeap) ∈ q_tbl := q_in5 44 rfl rfl
theorem mv_X2_leastOfHeap : q_mV Y_X2_leastOfHeap "CountyCream$Blend" 1 := ⟨rfl, q_in5 42 rfl rfl, q_in5 43 rfl rfl, q_in1 11 rfl rfl, qc_X2_leastOfHeap, ⟨by decide +kernel, by decide +kernel, by decide +kernel⟩, rfl, rfl⟩
def Y_X3_init : q_Y := (yX3_init, cX3_init, 2, none, (1, 20), (5, 2136))
theorem qc_X3_init : Cond.code (q_nm Y_X3_init) (q_cd Y_X3_init) (q_ml Y_X3_init) (q_rt Y_X3_init) ∈ q_tbl := q_in2 56 rfl rfl
theorem mi_X3_init : q_mI Y_X3_init 1 := ⟨q_in2 55 rfl rfl, q_in1 10 rfl rfl, qc_X3_init, ⟨by decide +kernel, by decide +kernel, by decide +kernel⟩, rfl, rfl⟩
def Y_X11_milesBetween : q_Y := (yX11_milesBetween, cX11_milesBetween, 4, (some .int), (1, 23), (0, 0))
theorem qc_X11_milesBetween : Cond.code (q_nm Y_X11_milesBetween) (q_cd Y_X11_milesBetween) (q_ml Y_X11_milesBetween) (q_rt Y_X11_milesBetween) ∈ q_tbl := q_in4 173 rfl rfl
theorem ms_X11_milesBetween : q_mS Y_X11_milesBetween 4 := ⟨q_in4 172 rfl rfl, q_in1 1 rfl rfl, qc_X11_milesBetween, ⟨by decide +kernel, by decide +kernel, by decide +kernel⟩, rfl, rfl⟩
def Y_X3_takeStops : q_Y := (yX3_takeStops, cX3_takeStops, 4, none, (2, 46), (0, 0))
theorem qc_X3_takeStops : Cond.code (q_nm Y_X3_takeStops) (q_cd Y_X3_takeStops) (q_ml Y_X3_takeStops) (q_rt Y_X3_takeStops) ∈ q_tbl := q_in4 165 rfl rfl
theorem mv_X3_takeStops : q_mV Y_X3_takeStops "CountyCream$Cart" 1 := ⟨rfl, q_in4 164 rfl rfl, q_inP 28 rfl rfl, q_in1 10 rfl rfl, qc_X3_takeStops, ⟨by decide +kernel, by decide +kernel, by decide +kernel⟩, rfl, rfl⟩
def Y_X3_homeOf : q_Y := (yX3_homeOf, cX3_homeOf, 2, (some .int), (0, 0), (0, 0))
theorem qc_X3_homeOf : Cond.code (q_nm Y_X3_homeOf) (q_cd Y_X3_homeOf) (q_ml Y_X3_homeOf) (q_rt Y_X3_homeOf) ∈ q_tbl := q_in4 186 rfl rfl
theorem mv_X3_homeOf : q_mV Y_X3_homeOf "CountyCream$Cart" 1 := ⟨rfl, q_in4 185 rfl rfl, q_inP 31 rfl rfl, q_in1 10 rfl rfl, qc_X3_homeOf, ⟨by decide +kernel, by decide +kernel, by decide +kernel⟩, rfl, rfl⟩
def Y_X3_restOf : q_Y := (yX3_restOf, cX3_restOf, 4, (some .int), (0, 0), (0, 0))
theorem qc_X3_restOf : Cond.code (q_nm Y_X3_restOf) (q_cd Y_X3_restOf) (q_ml Y_X3_restOf) (q_rt Y_X3_restOf) ∈ q_tbl := q_in4 195 rfl rfl
theorem mv_X3_restOf : q_mV Y_X3_restOf "CountyCream$Cart" 2 := ⟨rfl, q_in4 194 rfl rfl, q_inP 33 rfl rfl, q_in1 10 rfl rfl, qc_X3_restOf, ⟨by decide +kernel, by decide +kernel, by decide +kernel⟩, rfl, rfl⟩
def Y_X3_milesBy : q_Y := (yX3_milesBy, cX3_milesBy, 6, (some .int), (1, 23), (0, 0))
theorem qc_X3_milesBy : Cond.code (q_nm Y_X3_milesBy) (q_cd Y_X3_milesBy) (q_ml Y_X3_milesBy) (q_rt Y_X3_milesBy) ∈ q_tbl := q_in4 191 rfl rfl
theorem mv_X3_milesBy : q_mV Y_X3_milesBy "CountyCream$Cart" 3 := ⟨rfl, q_in4 190 rfl rfl, q_inP 32 rfl rfl, q_in1 10 rfl rfl, qc_X3_milesBy, ⟨by decide +kernel, by decide +kernel, by decide +kernel⟩, rfl, rfl⟩
def Y_X3_fewestFrom : q_Y := (yX3_fewestFrom, cX3_fewestFrom, 5, (some .int), (2, 48), (0, 0))
theorem qc_X3_fewestFrom : Cond.code (q_nm Y_X3_fewestFrom) (q_cd Y_X3_fewestFrom) (q_ml Y_X3_fewestFrom) (q_rt Y_X3_fewestFrom) ∈ q_tbl := q_in4 182 rfl rfl
theorem mv_X3_fewestFrom : q_mV Y_X3_fewestFrom "CountyCream$Cart" 2 := ⟨rfl, q_in4 181 rfl rfl, q_inP 30 rfl rfl, q_in1 10 rfl rfl, qc_X3_fewestFrom, ⟨by decide +kernel, by decide +kernel, by decide +kernel⟩, rfl, rfl⟩
def Y_X3_findRests : q_Y := (yX3_findRests, cX3_findRests, 4, none, (3, 72), (0, 0))
theorem qc_X3_findRests : Cond.code (q_nm Y_X3_findRests) (q_cd Y_X3_findRests) (q_ml Y_X3_findRests) (q_rt Y_X3_findRests) ∈ q_tbl := q_in4 178 rfl rfl
theorem mv_X3_findRests : q_mV Y_X3_findRests "CountyCream$Cart" 0 := ⟨rfl, q_in4 177 rfl rfl, q_inP 29 rfl rfl, q_in1 10 rfl rfl, qc_X3_findRests, ⟨by decide +kernel, by decide +kernel, by decide +kernel⟩, rfl, rfl⟩
def Y_X3_allBut : q_Y := (yX3_allBut, cX3_allBut, 2, (some .int), (0, 0), (0, 0))
theorem qc_X3_allBut : Cond.code (q_nm Y_X3_allBut) (q_cd Y_X3_allBut) (q_ml Y_X3_allBut) (q_rt Y_X3_allBut) ∈ q_tbl := q_in4 204 rfl rfl
theorem mv_X3_allBut : q_mV Y_X3_allBut "CountyCream$Cart" 1 := ⟨rfl, q_in4 203 rfl rfl, q_inP 35 rfl rfl, q_in1 10 rfl rfl, qc_X3_allBut, ⟨by decide +kernel, by decide +kernel, by decide +kernel⟩, rfl, rfl⟩
def Y_X3_firstStop : q_Y := (yX3_firstStop, cX3_firstStop, 6, (some .int), (1, 23), (0, 0))
theorem qc_X3_firstStop : Cond.code (q_nm Y_X3_firstStop) (q_cd Y_X3_firstStop) (q_ml Y_X3_firstStop) (q_rt Y_X3_firstStop) ∈ q_tbl := q_in4 200 rfl rfl
theorem mv_X3_firstStop : q_mV Y_X3_firstStop "CountyCream$Cart" 0 := ⟨rfl, q_in4 199 rfl rfl, q_inP 34 rfl rfl, q_in1 10 rfl rfl, qc_X3_firstStop, ⟨by decide +kernel, by decide +kernel, by decide +kernel⟩, rfl, rfl⟩
def Y_X3_nextStop : q_Y := (yX3_nextStop, cX3_nextStop, 4, (some .int), (2, 48), (0, 0))
theorem qc_X3_nextStop : Cond.code (q_nm Y_X3_nextStop) (q_cd Y_X3_nextStop) (q_ml Y_X3_nextStop) (q_rt Y_X3_nextStop) ∈ q_tbl := q_in4 213 rfl rfl
theorem mv_X3_nextStop : q_mV Y_X3_nextStop "CountyCream$Cart" 2 := ⟨rfl, q_in4 212 rfl rfl, q_inP 37 rfl rfl, q_in1 10 rfl rfl, qc_X3_nextStop, ⟨by decide +kernel, by decide +kernel, by decide +kernel⟩, rfl, rfl⟩
def Y_X3_findOrder : q_Y := (yX3_findOrder, cX3_findOrder, 6, none, (3, 71), (0, 0))
theorem qc_X3_findOrder : Cond.code (q_nm Y_X3_findOrder) (q_cd Y_X3_findOrder) (q_ml Y_X3_findOrder) (q_rt Y_X3_findOrder) ∈ q_tbl := q_in4 208 rfl rfl
theorem mv_X3_findOrder : q_mV Y_X3_findOrder "CountyCream$Cart" 1 := ⟨rfl, q_in4 207 rfl rfl, q_inP 36 rfl rfl, q_in1 10 rfl rfl, qc_X3_findOrder, ⟨by decide +kernel, by decide +kernel, by decide +kernel⟩, rfl, rfl⟩
def Y_X3_plan : q_Y := (yX3_plan, cX3_plan, 3, none, (4, 96), (0, 0))
theorem qc_X3_plan : Cond.code (q_nm Y_X3_plan) (q_cd Y_X3_plan) (q_ml Y_X3_plan) (q_rt Y_X3_plan) ∈ q_tbl := q_in4 161 rfl rfl
theorem mv_X3_plan : q_mV Y_X3_plan "CountyCream$Cart" 1 := ⟨rfl, q_in4 159 rfl rfl, q_in4 160 rfl rfl, q_in1 10 rfl rfl, qc_X3_plan, ⟨by decide +kernel, by decide +kernel, by decide +kernel⟩, rfl, rfl⟩
def Y_X3_stopAt : q_Y := (yX3_stopAt, cX3_stopAt, 2, (some .int), (0, 0), (0, 0))
theorem qc_X3_stopAt : Cond.code (q_nm Y_X3_stopAt) (q_cd Y_X3_stopAt) (q_ml Y_X3_stopAt) (q_rt Y_X3_stopAt) ∈ q_tbl := q_in4 221 rfl rfl
theorem mv_X3_stopAt : q_mV Y_X3_stopAt "CountyCream$Cart" 1 := ⟨rfl, q_in4 219 rfl rfl, q_in4 220 rfl rfl, q_in1 10 rfl rfl, qc_X3_stopAt, ⟨by decide +kernel, by decide +kernel, by decide +kernel⟩, rfl, rfl⟩
def Y_X4_init : q_Y := (yX4_init, cX4_init, 3, none, (1, 20), (0, 0))
theorem qc_X4_init : Cond.code (q_nm Y_X4_init) (q_cd Y_X4_init) (q_ml Y_X4_init) (q_rt Y_X4_init) ∈ q_tbl := q_in1 178 rfl rfl
theorem mi_X4_init : q_mI Y_X4_init 2 := ⟨q_in1 177 rfl rfl, q_in1 6 rfl rfl, qc_X4_init, ⟨by decide +kernel, by decide +kernel, by decide +kernel⟩, rfl, rfl⟩
def Y_X4_howManyCans : q_Y := (yX4_howManyCans, cX4_howManyCans, 4, (some .int), (1, 23), (0, 0))
theorem qc_X4_howManyCans : Cond.code (q_nm Y_X4_howManyCans) (q_cd Y_X4_howManyCans) (q_ml Y_X4_howManyCans) (q_rt Y_X4_howManyCans) ∈ q_tbl := q_in3 60 rfl rfl
theorem mv_X4_howManyCans : q_mV Y_X4_howManyCans "CountyCream$Dairy" 1 := ⟨rfl, q_in3 58 rfl rfl, q_in3 59 rfl rfl, q_in1 6 rfl rfl, qc_X4_howManyCans, ⟨by decide +kernel, by decide +kernel, by decide +kernel⟩, rfl, rfl⟩
def Y_X4_lossOf : q_Y := (yX4_lossOf, cX4_lossOf, 5, (some .int), (1, 23), (0, 0))
theorem qc_X4_lossOf : Cond.code (q_nm Y_X4_lossOf) (q_cd Y_X4_lossOf) (q_ml Y_X4_lossOf) (q_rt Y_X4_lossOf) ∈ q_tbl := q_in3 65 rfl rfl
theorem mv_X4_lossOf : q_mV Y_X4_lossOf "CountyCream$Dairy" 1 := ⟨rfl, q_in3 63 rfl rfl, q_in3 64 rfl rfl, q_in1 6 rfl rfl, qc_X4_lossOf, ⟨by decide +kernel, by decide +kernel, by decide +kernel⟩, rfl, rfl⟩
def Y_X6_rateLearned : q_Y := (yX6_rateLearned, cX6_rateLearned, 2, (some .int), (0, 0), (0, 0))
theorem qc_X6_rateLearned : Cond.code (q_nm Y_X6_rateLearned) (q_cd Y_X6_rateLearned) (q_ml Y_X6_rateLearned) (q_rt Y_X6_rateLearned) ∈ q_tbl := q_in3 27 rfl rfl
theorem mv_X6_rateLearned : q_mV Y_X6_rateLearned "CountyCream$Lab" 1 := ⟨rfl, q_in3 25 rfl rfl, q_in3 26 rfl rfl, q_in1 5 rfl rfl, qc_X6_rateLearned, ⟨by decide +kernel, by decide +kernel, by decide +kernel⟩, rfl, rfl⟩
def Y_X6_rateOfCan : q_Y := (yX6_rateOfCan, cX6_rateOfCan, 13, (some .int), (1, 23), (0, 0))
theorem qc_X6_rateOfCan : Cond.code (q_nm Y_X6_rateOfCan) (q_cd Y_X6_rateOfCan) (q_ml Y_X6_rateOfCan) (q_rt Y_X6_rateOfCan) ∈ q_tbl := q_in3 19 rfl rfl
theorem mv_X6_rateOfCan : q_mV Y_X6_rateOfCan "CountyCream$Lab" 1 := ⟨rfl, q_in3 17 rfl rfl, q_in3 18 rfl rfl, q_in1 5 rfl rfl, qc_X6_rateOfCan, ⟨by decide +kernel, by decide +kernel, by decide +kernel⟩, rfl, rfl⟩
def Y_X6_fatOfCan : q_Y := (yX6_fatOfCan, cX6_fatOfCan, 2, (some .long), (2, 55), (0, 0))
theorem qc_X6_fatOfCan : Cond.code (q_nm Y_X6_fatOfCan) (q_cd Y_X6_fatOfCan) (q_ml Y_X6_fatOfCan) (q_rt Y_X6_fatOfCan) ∈ q_tbl := q_in3 43 rfl rfl
theorem mv_X6_fatOfCan : q_mV Y_X6_fatOfCan "CountyCream$Lab" 1 := ⟨rfl, q_in3 41 rfl rfl, q_in3 42 rfl rfl, q_in1 5 rfl rfl, qc_X6_fatOfCan, ⟨by decide +kernel, by decide +kernel, by decide +kernel⟩, rfl, rfl⟩
def Y_X4_fatOf : q_Y := (yX4_fatOf, cX4_fatOf, 6, (some .long), (3, 76), (0, 0))
theorem qc_X4_fatOf : Cond.code (q_nm Y_X4_fatOf) (q_cd Y_X4_fatOf) (q_ml Y_X4_fatOf) (q_rt Y_X4_fatOf) ∈ q_tbl := q_in3 73 rfl rfl
theorem mv_X4_fatOf : q_mV Y_X4_fatOf "CountyCream$Dairy" 2 := ⟨rfl, q_in3 71 rfl rfl, q_in3 72 rfl rfl, q_in1 6 rfl rfl, qc_X4_fatOf, ⟨by decide +kernel, by decide +kernel, by decide +kernel⟩, rfl, rfl⟩
def Y_X4_butterOf : q_Y := (yX4_butterOf, cX4_butterOf, 2, (some .long), (4, 101), (0, 0))
theorem qc_X4_butterOf : Cond.code (q_nm Y_X4_butterOf) (q_cd Y_X4_butterOf) (q_ml Y_X4_butterOf) (q_rt Y_X4_butterOf) ∈ q_tbl := q_in3 78 rfl rfl
theorem mv_X4_butterOf : q_mV Y_X4_butterOf "CountyCream$Dairy" 1 := ⟨rfl, q_in3 76 rfl rfl, q_in3 77 rfl rfl, q_in1 6 rfl rfl, qc_X4_butterOf, ⟨by decide +kernel, by decide +kernel, by decide +kernel⟩, rfl, rfl⟩
def Y_X4_agrees : q_Y := (yX4_agrees, cX4_agrees, 5, (some .int), (5, 122), (0, 0))
theorem qc_X4_agrees : Cond.code (q_nm Y_X4_agrees) (q_cd Y_X4_agrees) (q_ml Y_X4_agrees) (q_rt Y_X4_agrees) ∈ q_tbl := q_in3 85 rfl rfl
theorem mv_X4_agrees : q_mV Y_X4_agrees "CountyCream$Dairy" 1 := ⟨rfl, q_in3 83 rfl rfl, q_in3 84 rfl rfl, q_in1 6 rfl rfl, qc_X4_agrees, ⟨by decide +kernel, by decide +kernel, by decide +kernel⟩, rfl, rfl⟩
def Y_X4_howManyBoxes : q_Y := (yX4_howManyBoxes, cX4_howManyBoxes, 4, (some .int), (1, 23), (0, 0))
theorem qc_X4_howManyBoxes : Cond.code (q_nm Y_X4_howManyBoxes) (q_cd Y_X4_howManyBoxes) (q_ml Y_X4_howManyBoxes) (q_rt Y_X4_howManyBoxes) ∈ q_tbl := q_in3 95 rfl rfl
theorem mv_X4_howManyBoxes : q_mV Y_X4_howManyBoxes "CountyCream$Dairy" 1 := ⟨rfl, q_in3 93 rfl rfl, q_in3 94 rfl rfl, q_in1 6 rfl rfl, qc_X4_howManyBoxes, ⟨by decide +kernel, by decide +kernel, by decide +kernel⟩, rfl, rfl⟩
def Y_X4_penceOf : q_Y := (yX4_penceOf, cX4_penceOf, 8, (some .long), (1, 23), (0, 0))
theorem qc_X4_penceOf : Cond.code (q_nm Y_X4_penceOf) (q_cd Y_X4_penceOf) (q_ml Y_X4_penceOf) (q_rt Y_X4_penceOf) ∈ q_tbl := q_in3 99 rfl rfl
theorem mv_X4_penceOf : q_mV Y_X4_penceOf "CountyCream$Dairy" 2 := ⟨rfl, q_in3 97 rfl rfl, q_in3 98 rfl rfl, q_in1 6 rfl rfl, qc_X4_penceOf, ⟨by decide +kernel, by decide +kernel, by decide +kernel⟩, rfl, rfl⟩
def Y_X4_leanOfGraders : q_Y := (yX4_leanOfGraders, cX4_leanOfGraders, 6, (some .int), (1, 23), (0, 0))
theorem qc_X4_leanOfGraders : Cond.code (q_nm Y_X4_leanOfGraders) (q_cd Y_X4_leanOfGraders) (q_ml Y_X4_leanOfGraders) (q_rt Y_X4_leanOfGraders) ∈ q_tbl := q_in3 125 rfl rfl
theorem mv_X4_leanOfGraders : q_mV Y_X4_leanOfGraders "CountyCream$Dairy" 0 := ⟨rfl, q_in3 123 rfl rfl, q_in3 124 rfl rfl, q_in1 6 rfl rfl, qc_X4_leanOfGraders, ⟨by decide +kernel, by decide +kernel, by decide +kernel⟩, rfl, rfl⟩
def Y_X4_lotOf : q_Y := (yX4_lotOf, cX4_lotOf, 13, (some .int), (2, 48), (0, 0))
theorem qc_X4_lotOf : Cond.code (q_nm Y_X4_lotOf) (q_cd Y_X4_lotOf) (q_ml Y_X4_lotOf) (q_rt Y_X4_lotOf) ∈ q_tbl := q_in3 133 rfl rfl
theorem mv_X4_lotOf : q_mV Y_X4_lotOf "CountyCream$Dairy" 2 := ⟨rfl, q_in3 131 rfl rfl, q_in3 132 rfl rfl, q_in1 6 rfl rfl, qc_X4_lotOf, ⟨by decide +kernel, by decide +kernel, by decide +kernel⟩, rfl, rfl⟩
def Y_X9_init (L : Nat) : q_Y := (yX9_init, cX9_init, 3, none, (1, 23), (1, L))
theorem qc_X9_init (L : Nat) : Cond.code (q_nm (Y_X9_init L)) (q_cd (Y_X9_init L)) (q_ml (Y_X9_init L)) (q_rt (Y_X9_init L)) ∈ q_tbl := q_in1 36 rfl rfl
theorem mi_X9_init (L : Nat) : q_mI (Y_X9_init L) 2 := ⟨q_in1 35 rfl rfl, q_in1 3 rfl rfl, qc_X9_init L, ⟨(by decide +kernel : yX9_init.cls ≠ _), (by decide +kernel : yX9_init.cls ≠ _), (by decide +kernel : (parseMethodDescriptor yX9_init.desc).map (fun d => d.parameters.length) = some 2)⟩, rfl, rfl⟩
def Y_X5_init : q_Y := (yX5_init, cX5_init, 2, none, (2, 49), (24, 4792))
theorem qc_X5_init : Cond.code (q_nm Y_X5_init) (q_cd Y_X5_init) (q_ml Y_X5_init) (q_rt Y_X5_init) ∈ q_tbl := q_in1 30 rfl rfl
theorem mi_X5_init : q_mI Y_X5_init 0 := ⟨q_in1 29 rfl rfl, q_in1 2 rfl rfl, qc_X5_init, ⟨by decide +kernel, by decide +kernel, by decide +kernel⟩, rfl, rfl⟩
def Y_X9_become : q_Y := (yX9_become, cX9_become, 3, none, (1, 26), (0, 0))
theorem qc_X9_become : Cond.code (q_nm Y_X9_become) (q_cd Y_X9_become) (q_ml Y_X9_become) (q_rt Y_X9_become) ∈ q_tbl := q_in5 121 rfl rfl
theorem mv_X9_become : q_mV Y_X9_become "CountyCream$Rows" 1 := ⟨rfl, q_in5 119 rfl rfl, q_in5 120 rfl rfl, q_in1 3 rfl rfl, qc_X9_become, ⟨by decide +kernel, by decide +kernel, by decide +kernel⟩, rfl, rfl⟩
def Y_X5_become : q_Y := (yX5_become, cX5_become, 3, none, (2, 48), (0, 0))
theorem qc_X5_become : Cond.code (q_nm Y_X5_become) (q_cd Y_X5_become) (q_ml Y_X5_become) (q_rt Y_X5_become) ∈ q_tbl := q_in5 117 rfl rfl
theorem mv_X5_become : q_mV Y_X5_become "CountyCream$House" 1 := ⟨rfl, q_in5 115 rfl rfl, q_in5 116 rfl rfl, q_in1 2 rfl rfl, qc_X5_become, ⟨by decide +kernel, by decide +kernel, by decide +kernel⟩, rfl, rfl⟩
def Y_X5_biasOf : q_Y := (yX5_biasOf, cX5_biasOf, 2, (some .int), (0, 0), (0, 0))
theorem qc_X5_biasOf : Cond.code (q_nm Y_X5_biasOf) (q_cd Y_X5_biasOf) (q_ml Y_X5_biasOf) (q_rt Y_X5_biasOf) ∈ q_tbl := q_in3 2 rfl rfl
theorem mv_X5_biasOf : q_mV Y_X5_biasOf "CountyCream$House" 1 := ⟨rfl, q_in3 0 rfl rfl, q_in3 1 rfl rfl, q_in1 2 rfl rfl, qc_X5_biasOf, ⟨by decide +kernel, by decide +kernel, by decide +kernel⟩, rfl, rfl⟩
def Y_X6_init : q_Y := (yX6_init, cX6_init, 2, none, (1, 20), (1, 200))
theorem qc_X6_init : Cond.code (q_nm Y_X6_init) (q_cd Y_X6_init) (q_ml Y_X6_init) (q_rt Y_X6_init) ∈ q_tbl := q_in1 161 rfl rfl
theorem mi_X6_init : q_mI Y_X6_init 1 := ⟨q_in1 160 rfl rfl, q_in1 5 rfl rfl, qc_X6_init, ⟨by decide +kernel, by decide +kernel, by decide +kernel⟩, rfl, rfl⟩
def Y_X6_isKnown : q_Y := (yX6_isKnown, cX6_isKnown, 3, (some .boolean), (1, 23), (0, 0))
theorem qc_X6_isKnown : Cond.code (q_nm Y_X6_isKnown) (q_cd Y_X6_isKnown) (q_ml Y_X6_isKnown) (q_rt Y_X6_isKnown) ∈ q_tbl := q_in2 225 rfl rfl
theorem mv_X6_isKnown : q_mV Y_X6_isKnown "CountyCream$Lab" 2 := ⟨rfl, q_in2 224 rfl rfl, q_inP 0 rfl rfl, q_in1 5 rfl rfl, qc_X6_isKnown, ⟨by decide +kernel, by decide +kernel, by decide +kernel⟩, rfl, rfl⟩
def Y_X6_numberKnown : q_Y := (yX6_numberKnown, cX6_numberKnown, 4, (some .int), (1, 23), (0, 0))
theorem qc_X6_numberKnown : Cond.code (q_nm Y_X6_numberKnown) (q_cd Y_X6_numberKnown) (q_ml Y_X6_numberKnown) (q_rt Y_X6_numberKnown) ∈ q_tbl := q_in2 230 rfl rfl
theorem mv_X6_numberKnown : q_mV Y_X6_numberKnown "CountyCream$Lab" 2 := ⟨rfl, q_in2 229 rfl rfl, q_inP 1 rfl rfl, q_in1 5 rfl rfl, qc_X6_numberKnown, ⟨by decide +kernel, by decide +kernel, by decide +kernel⟩, rfl, rfl⟩
def Y_X6_isAhead : q_Y := (yX6_isAhead, cX6_isAhead, 5, (some .boolean), (1, 23), (0, 0))
theorem qc_X6_isAhead : Cond.code (q_nm Y_X6_isAhead) (q_cd Y_X6_isAhead) (q_ml Y_X6_isAhead) (q_rt Y_X6_isAhead) ∈ q_tbl := q_in2 238 rfl rfl
theorem mv_X6_isAhead : q_mV Y_X6_isAhead "CountyCream$Lab" 2 := ⟨rfl, q_in2 237 rfl rfl, q_inP 3 rfl rfl, q_in1 5 rfl rfl, qc_X6_isAhead, ⟨by decide +kernel, by decide +kernel, by decide +kernel⟩, rfl, rfl⟩
def Y_X6_latestAheadOf : q_Y := (yX6_latestAheadOf, cX6_latestAheadOf, 6, (some .int), (2, 47), (0, 0))
theorem qc_X6_latestAheadOf : Cond.code (q_nm Y_X6_latestAheadOf) (q_cd Y_X6_latestAheadOf) (q_ml Y_X6_latestAheadOf) (q_rt Y_X6_latestAheadOf) ∈ q_tbl := q_in2 234 rfl rfl
theorem mv_X6_latestAheadOf : q_mV Y_X6_latestAheadOf "CountyCream$Lab" 2 := ⟨rfl, q_in2 233 rfl rfl, q_inP 2 rfl rfl, q_in1 5 rfl rfl, qc_X6_latestAheadOf, ⟨by decide +kernel, by decide +kernel, by decide +kernel⟩, rfl, rfl⟩
def Y_X6_rateAsKnown : q_Y := (yX6_rateAsKnown, cX6_rateAsKnown, 5, (some .int), (3, 72), (0, 0))
theorem qc_X6_rateAsKnown : Cond.code (q_nm Y_X6_rateAsKnown) (q_cd Y_X6_rateAsKnown) (q_ml Y_X6_rateAsKnown) (q_rt Y_X6_rateAsKnown) ∈ q_tbl := q_in2 221 rfl rfl
theorem mv_X6_rateAsKnown : q_mV Y_X6_rateAsKnown "CountyCream$Lab" 2 := ⟨rfl, q_in2 219 rfl rfl, q_in2 220 rfl rfl, q_in1 5 rfl rfl, qc_X6_rateAsKnown, ⟨by decide +kernel, by decide +kernel, by decide +kernel⟩, rfl, rfl⟩
def Y_X6_learn : q_Y := (yX6_learn, cX6_learn, 3, none, (4, 96), (0, 0))
theorem qc_X6_learn : Cond.code (q_nm Y_X6_learn) (q_cd Y_X6_learn) (q_ml Y_X6_learn) (q_rt Y_X6_learn) ∈ q_tbl := q_in3 14 rfl rfl
theorem mv_X6_learn : q_mV Y_X6_learn "CountyCream$Lab" 1 := ⟨rfl, q_in3 12 rfl rfl, q_in3 13 rfl rfl, q_in1 5 rfl rfl, qc_X6_learn, ⟨by decide +kernel, by decide +kernel, by decide +kernel⟩, rfl, rfl⟩
def Y_X6_fatOfWeek : q_Y := (yX6_fatOfWeek, cX6_fatOfWeek, 7, (some .long), (3, 76), (0, 0))
theorem qc_X6_fatOfWeek : Cond.code (q_nm Y_X6_fatOfWeek) (q_cd Y_X6_fatOfWeek) (q_ml Y_X6_fatOfWeek) (q_rt Y_X6_fatOfWeek) ∈ q_tbl := q_in3 39 rfl rfl
theorem mv_X6_fatOfWeek : q_mV Y_X6_fatOfWeek "CountyCream$Lab" 2 := ⟨rfl, q_in3 37 rfl rfl, q_in3 38 rfl rfl, q_in1 5 rfl rfl, qc_X6_fatOfWeek, ⟨by decide +kernel, by decide +kernel, by decide +kernel⟩, rfl, rfl⟩
def Y_X6_meanBefore : q_Y := (yX6_meanBefore, cX6_meanBefore, 7, (some .int), (1, 23), (0, 0))
theorem qc_X6_meanBefore : Cond.code (q_nm Y_X6_meanBefore) (q_cd Y_X6_meanBefore) (q_ml Y_X6_meanBefore) (q_rt Y_X6_meanBefore) ∈ q_tbl := q_in4 140 rfl rfl
theorem mv_X6_meanBefore : q_mV Y_X6_meanBefore "CountyCream$Lab" 2 := ⟨rfl, q_in4 139 rfl rfl, q_inP 27 rfl rfl, q_in1 5 rfl rfl, qc_X6_meanBefore, ⟨by decide +kernel, by decide +kernel, by decide +kernel⟩, rfl, rfl⟩
def Y_X6_signsOfWater : q_Y := (yX6_signsOfWater, cX6_signsOfWater, 11, (some .int), (2, 49), (0, 0))
theorem qc_X6_signsOfWater : Cond.code (q_nm Y_X6_signsOfWater) (q_cd Y_X6_signsOfWater) (q_ml Y_X6_signsOfWater) (q_rt Y_X6_signsOfWater) ∈ q_tbl := q_in4 136 rfl rfl
theorem mv_X6_signsOfWater : q_mV Y_X6_signsOfWater "CountyCream$Lab" 2 := ⟨rfl, q_in4 134 rfl rfl, q_in4 135 rfl rfl, q_in1 5 rfl rfl, qc_X6_signsOfWater, ⟨by decide +kernel, by decide +kernel, by decide +kernel⟩, rfl, rfl⟩
def Y_X7_init : q_Y := (yX7_init, cX7_init, 5, none, (1, 20), (6, 120))
theorem qc_X7_init : Cond.code (q_nm Y_X7_init) (q_cd Y_X7_init) (q_ml Y_X7_init) (q_rt Y_X7_init) ∈ q_tbl := q_in2 18 rfl rfl
theorem mi_X7_init : q_mI Y_X7_init 4 := ⟨q_in2 17 rfl rfl, q_in1 9 rfl rfl, qc_X7_init, ⟨by decide +kernel, by decide +kernel, by decide +kernel⟩, rfl, rfl⟩
def Y_J7_fill_53178 : q_Y := (yJ7_fill_53178, cJ7_fill_53178, 4, none, (0, 0), (0, 0))
theorem qc_J7_fill_53178 : Cond.code (q_nm Y_J7_fill_53178) (q_cd Y_J7_fill_53178) (q_ml Y_J7_fill_53178) (q_rt Y_J7_fill_53178) ∈ q_tbl := q_in4 23 rfl rfl
theorem ms_J7_fill_53178 : q_mS Y_J7_fill_53178 2 := ⟨q_in4 22 rfl rfl, q_in1 14 rfl rfl, qc_J7_fill_53178, ⟨by decide +kernel, by decide +kernel, by decide +kernel⟩, rfl, rfl⟩
def Y_J7_fill_d0a16 : q_Y := (yJ7_fill_d0a16, cJ7_fill_d0a16, 5, none, (0, 0), (0, 0))
theorem qc_J7_fill_d0a16 : Cond.code (q_nm Y_J7_fill_d0a16) (q_cd Y_J7_fill_d0a16) (q_ml Y_J7_fill_d0a16) (q_rt Y_J7_fill_d0a16) ∈ q_tbl := q_in4 26 rfl rfl
theorem ms_J7_fill_d0a16 : q_mS Y_J7_fill_d0a16 2 := ⟨q_in4 25 rfl rfl, q_in1 14 rfl rfl, qc_J7_fill_d0a16, ⟨by decide +kernel, by decide +kernel, by decide +kernel⟩, rfl, rfl⟩
def Y_X7_gatherCan : q_Y := (yX7_gatherCan, cX7_gatherCan, 6, none, (3, 76), (0, 0))
theorem qc_X7_gatherCan : Cond.code (q_nm Y_X7_gatherCan) (q_cd Y_X7_gatherCan) (q_ml Y_X7_gatherCan) (q_rt Y_X7_gatherCan) ∈ q_tbl := q_in4 30 rfl rfl
theorem mv_X7_gatherCan : q_mV Y_X7_gatherCan "CountyCream$Payday" 2 := ⟨rfl, q_in4 29 rfl rfl, q_inP 23 rfl rfl, q_in1 9 rfl rfl, qc_X7_gatherCan, ⟨by decide +kernel, by decide +kernel, by decide +kernel⟩, rfl, rfl⟩
def Y_X7_gather : q_Y := (yX7_gather, cX7_gather, 5, none, (5, 118), (0, 0))
theorem qc_X7_gather : Cond.code (q_nm Y_X7_gather) (q_cd Y_X7_gather) (q_ml Y_X7_gather) (q_rt Y_X7_gather) ∈ q_tbl := q_in4 19 rfl rfl
theorem mv_X7_gather : q_mV Y_X7_gather "CountyCream$Payday" 2 := ⟨rfl, q_in4 17 rfl rfl, q_in4 18 rfl rfl, q_in1 9 rfl rfl, qc_X7_gather, ⟨by decide +kernel, by decide +kernel, by decide +kernel⟩, rfl, rfl⟩
def Y_X8_tellName : q_Y := (yX8_tellName, cX8_tellName, 4, none, (0, 0), (0, 0))
theorem qc_X8_tellName : Cond.code (q_nm Y_X8_tellName) (q_cd Y_X8_tellName) (q_ml Y_X8_tellName) (q_rt Y_X8_tellName) ∈ q_tbl := q_in4 41 rfl rfl
theorem mv_X8_tellName : q_mV Y_X8_tellName "CountyCream$Reader" 2 := ⟨rfl, q_in4 39 rfl rfl, q_in4 40 rfl rfl, q_in1 7 rfl rfl, qc_X8_tellName, ⟨by decide +kernel, by decide +kernel, by decide +kernel⟩, rfl, rfl⟩
def Y_X7_rankOfWeight : q_Y := (yX7_rankOfWeight, cX7_rankOfWeight, 4, (some .int), (0, 0), (0, 0))
theorem qc_X7_rankOfWeight : Cond.code (q_nm Y_X7_rankOfWeight) (q_cd Y_X7_rankOfWeight) (q_ml Y_X7_rankOfWeight) (q_rt Y_X7_rankOfWeight) ∈ q_tbl := q_in4 46 rfl rfl
theorem mv_X7_rankOfWeight : q_mV Y_X7_rankOfWeight "CountyCream$Payday" 1 := ⟨rfl, q_in4 45 rfl rfl, q_inP 24 rfl rfl, q_in1 9 rfl rfl, qc_X7_rankOfWeight, ⟨by decide +kernel, by decide +kernel, by decide +kernel⟩, rfl, rfl⟩
def Y_X7_nameFor : q_Y := (yX7_nameFor, cX7_nameFor, 2, none, (1, 23), (0, 0))
theorem qc_X7_nameFor : Cond.code (q_nm Y_X7_nameFor) (q_cd Y_X7_nameFor) (q_ml Y_X7_nameFor) (q_rt Y_X7_nameFor) ∈ q_tbl := q_in4 37 rfl rfl
theorem mv_X7_nameFor : q_mV Y_X7_nameFor "CountyCream$Payday" 1 := ⟨rfl, q_in4 35 rfl rfl, q_in4 36 rfl rfl, q_in1 9 rfl rfl, qc_X7_nameFor, ⟨by decide +kernel, by decide +kernel, by decide +kernel⟩, rfl, rfl⟩
def Y_X8_load : q_Y := (yX8_load, cX8_load, 5, none, (1, 23), (0, 0))
theorem qc_X8_load : Cond.code (q_nm Y_X8_load) (q_cd Y_X8_load) (q_ml Y_X8_load) (q_rt Y_X8_load) ∈ q_tbl := q_in3 155 rfl rfl
theorem mv_X8_load : q_mV Y_X8_load "CountyCream$Reader" 3 := ⟨rfl, q_in3 153 rfl rfl, q_in3 154 rfl rfl, q_in1 7 rfl rfl, qc_X8_load, ⟨by decide +kernel, by decide +kernel, by decide +kernel⟩, rfl, rfl⟩
def Y_X8_signAt : q_Y := (yX8_signAt, cX8_signAt, 2, (some .int), (0, 0), (0, 0))
theorem qc_X8_signAt : Cond.code (q_nm Y_X8_signAt) (q_cd Y_X8_signAt) (q_ml Y_X8_signAt) (q_rt Y_X8_signAt) ∈ q_tbl := q_in3 166 rfl rfl
theorem mv_X8_signAt : q_mV Y_X8_signAt "CountyCream$Reader" 1 := ⟨rfl, q_in3 165 rfl rfl, q_inP 4 rfl rfl, q_in1 7 rfl rfl, qc_X8_signAt, ⟨by decide +kernel, by decide +kernel, by decide +kernel⟩, rfl, rfl⟩
def Y_X8_isDigit : q_Y := (yX8_isDigit, cX8_isDigit, 1, (some .boolean), (0, 0), (0, 0))
theorem qc_X8_isDigit : Cond.code (q_nm Y_X8_isDigit) (q_cd Y_X8_isDigit) (q_ml Y_X8_isDigit) (q_rt Y_X8_isDigit) ∈ q_tbl := q_in3 169 rfl rfl
theorem ms_X8_isDigit : q_mS Y_X8_isDigit 1 := ⟨q_in3 168 rfl rfl, q_in1 7 rfl rfl, qc_X8_isDigit, ⟨by decide +kernel, by decide +kernel, by decide +kernel⟩, rfl, rfl⟩
def Y_X8_stop : q_Y := (yX8_stop, cX8_stop, 3, none, (0, 0), (0, 0))
theorem qc_X8_stop : Cond.code (q_nm Y_X8_stop) (q_cd Y_X8_stop) (q_ml Y_X8_stop) (q_rt Y_X8_stop) ∈ q_tbl := q_in3 179 rfl rfl
theorem mv_X8_stop : q_mV Y_X8_stop "CountyCream$Reader" 2 := ⟨rfl, q_in3 178 rfl rfl, q_inP 6 rfl rfl, q_in1 7 rfl rfl, qc_X8_stop, ⟨by decide +kernel, by decide +kernel, by decide +kernel⟩, rfl, rfl⟩
def Y_X8_topMark : q_Y := (yX8_topMark, cX8_topMark, 1, (some .int), (0, 0), (0, 0))
theorem qc_X8_topMark : Cond.code (q_nm Y_X8_topMark) (q_cd Y_X8_topMark) (q_ml Y_X8_topMark) (q_rt Y_X8_topMark) ∈ q_tbl := q_in3 187 rfl rfl
theorem mv_X8_topMark : q_mV Y_X8_topMark "CountyCream$Reader" 0 := ⟨rfl, q_in3 186 rfl rfl, q_inP 8 rfl rfl, q_in1 7 rfl rfl, qc_X8_topMark, ⟨by decide +kernel, by decide +kernel, by decide +kernel⟩, rfl, rfl⟩
def Y_X8_popMark : q_Y := (yX8_popMark, cX8_popMark, 1, (some .boolean), (0, 0), (0, 0))
theorem qc_X8_popMark : Cond.code (q_nm Y_X8_popMark) (q_cd Y_X8_popMark) (q_ml Y_X8_popMark) (q_rt Y_X8_popMark) ∈ q_tbl := q_in3 192 rfl rfl
theorem mv_X8_popMark : q_mV Y_X8_popMark "CountyCream$Reader" 0 := ⟨rfl, q_in3 191 rfl rfl, q_inP 9 rfl rfl, q_in1 7 rfl rfl, qc_X8_popMark, ⟨by decide +kernel, by decide +kernel, by decide +kernel⟩, rfl, rfl⟩
def Y_X8_pushValue : q_Y := (yX8_pushValue, cX8_pushValue, 3, none, (0, 0), (0, 0))
theorem qc_X8_pushValue : Cond.code (q_nm Y_X8_pushValue) (q_cd Y_X8_pushValue) (q_ml Y_X8_pushValue) (q_rt Y_X8_pushValue) ∈ q_tbl := q_in3 196 rfl rfl
theorem mv_X8_pushValue : q_mV Y_X8_pushValue "CountyCream$Reader" 1 := ⟨rfl, q_in3 195 rfl rfl, q_inP 10 rfl rfl, q_in1 7 rfl rfl, qc_X8_pushValue, ⟨by decide +kernel, by decide +kernel, by decide +kernel⟩, rfl, rfl⟩
def Y_X8_endUnit : q_Y := (yX8_endUnit, cX8_endUnit, 6, none, (1, 22), (0, 0))
theorem qc_X8_endUnit : Cond.code (q_nm Y_X8_endUnit) (q_cd Y_X8_endUnit) (q_ml Y_X8_endUnit) (q_rt Y_X8_endUnit) ∈ q_tbl := q_in3 183 rfl rfl
theorem mv_X8_endUnit : q_mV Y_X8_endUnit "CountyCream$Reader" 1 := ⟨rfl, q_in3 182 rfl rfl, q_inP 7 rfl rfl, q_in1 7 rfl rfl, qc_X8_endUnit, ⟨by decide +kernel, by decide +kernel, by decide +kernel⟩, rfl, rfl⟩
def Y_X8_readNumber : q_Y := (yX8_readNumber, cX8_readNumber, 6, (some .int), (2, 47), (0, 0))
theorem qc_X8_readNumber : Cond.code (q_nm Y_X8_readNumber) (q_cd Y_X8_readNumber) (q_ml Y_X8_readNumber) (q_rt Y_X8_readNumber) ∈ q_tbl := q_in3 173 rfl rfl
theorem mv_X8_readNumber : q_mV Y_X8_readNumber "CountyCream$Reader" 1 := ⟨rfl, q_in3 172 rfl rfl, q_inP 5 rfl rfl, q_in1 7 rfl rfl, qc_X8_readNumber, ⟨by decide +kernel, by decide +kernel, by decide +kernel⟩, rfl, rfl⟩
def Y_X8_pushMark : q_Y := (yX8_pushMark, cX8_pushMark, 3, none, (0, 0), (0, 0))
theorem qc_X8_pushMark : Cond.code (q_nm Y_X8_pushMark) (q_cd Y_X8_pushMark) (q_ml Y_X8_pushMark) (q_rt Y_X8_pushMark) ∈ q_tbl := q_in3 204 rfl rfl
theorem mv_X8_pushMark : q_mV Y_X8_pushMark "CountyCream$Reader" 2 := ⟨rfl, q_in3 203 rfl rfl, q_inP 12 rfl rfl, q_in1 7 rfl rfl, qc_X8_pushMark, ⟨by decide +kernel, by decide +kernel, by decide +kernel⟩, rfl, rfl⟩
def Y_X8_nameOf : q_Y := (yX8_nameOf, cX8_nameOf, 1, (some .int), (0, 0), (0, 0))
theorem qc_X8_nameOf : Cond.code (q_nm Y_X8_nameOf) (q_cd Y_X8_nameOf) (q_ml Y_X8_nameOf) (q_rt Y_X8_nameOf) ∈ q_tbl := q_in3 207 rfl rfl
theorem ms_X8_nameOf : q_mS Y_X8_nameOf 1 := ⟨q_in3 206 rfl rfl, q_in1 7 rfl rfl, qc_X8_nameOf, ⟨by decide +kernel, by decide +kernel, by decide +kernel⟩, rfl, rfl⟩
def Y_X8_readUnit : q_Y := (yX8_readUnit, cX8_readUnit, 4, none, (2, 47), (0, 0))
theorem qc_X8_readUnit : Cond.code (q_nm Y_X8_readUnit) (q_cd Y_X8_readUnit) (q_ml Y_X8_readUnit) (q_rt Y_X8_readUnit) ∈ q_tbl := q_in3 200 rfl rfl
theorem mv_X8_readUnit : q_mV Y_X8_readUnit "CountyCream$Reader" 2 := ⟨rfl, q_in3 199 rfl rfl, q_inP 11 rfl rfl, q_in1 7 rfl rfl, qc_X8_readUnit, ⟨by decide +kernel, by decide +kernel, by decide +kernel⟩, rfl, rfl⟩
def Y_X8_rankOf : q_Y := (yX8_rankOf, cX8_rankOf, 1, (some .int), (0, 0), (0, 0))
theorem qc_X8_rankOf : Cond.code (q_nm Y_X8_rankOf) (q_cd Y_X8_rankOf) (q_ml Y_X8_rankOf) (q_rt Y_X8_rankOf) ∈ q_tbl := q_in3 218 rfl rfl
theorem ms_X8_rankOf : q_mS Y_X8_rankOf 1 := ⟨q_in3 217 rfl rfl, q_in1 7 rfl rfl, qc_X8_rankOf, ⟨by decide +kernel, by decide +kernel, by decide +kernel⟩, rfl, rfl⟩
def Y_X8_popValue : q_Y := (yX8_popValue, cX8_popValue, 1, (some .long), (0, 0), (0, 0))
theorem qc_X8_popValue : Cond.code (q_nm Y_X8_popValue) (q_cd Y_X8_popValue) (q_ml Y_X8_popValue) (q_rt Y_X8_popValue) ∈ q_tbl := q_in3 222 rfl rfl
theorem mv_X8_popValue : q_mV Y_X8_popValue "CountyCream$Reader" 0 := ⟨rfl, q_in3 221 rfl rfl, q_inP 15 rfl rfl, q_in1 7 rfl rfl, qc_X8_popValue, ⟨by decide +kernel, by decide +kernel, by decide +kernel⟩, rfl, rfl⟩
def Y_X8_made : q_Y := (yX8_made, cX8_made, 6, (some .long), (0, 0), (0, 0))
theorem qc_X8_made : Cond.code (q_nm Y_X8_made) (q_cd Y_X8_made) (q_ml Y_X8_made) (q_rt Y_X8_made) ∈ q_tbl := q_in3 226 rfl rfl
theorem mv_X8_made : q_mV Y_X8_made "CountyCream$Reader" 3 := ⟨rfl, q_in3 225 rfl rfl, q_inP 16 rfl rfl, q_in1 7 rfl rfl, qc_X8_made, ⟨by decide +kernel, by decide +kernel, by decide +kernel⟩, rfl, rfl⟩
def Y_X8_settle : q_Y := (yX8_settle, cX8_settle, 9, none, (1, 25), (0, 0))
theorem qc_X8_settle : Cond.code (q_nm Y_X8_settle) (q_cd Y_X8_settle) (q_ml Y_X8_settle) (q_rt Y_X8_settle) ∈ q_tbl := q_in3 215 rfl rfl
theorem mv_X8_settle : q_mV Y_X8_settle "CountyCream$Reader" 1 := ⟨rfl, q_in3 214 rfl rfl, q_inP 14 rfl rfl, q_in1 7 rfl rfl, qc_X8_settle, ⟨by decide +kernel, by decide +kernel, by decide +kernel⟩, rfl, rfl⟩
def Y_X8_readQuestion : q_Y := (yX8_readQuestion, cX8_readQuestion, 1, none, (2, 53), (0, 0))
theorem qc_X8_readQuestion : Cond.code (q_nm Y_X8_readQuestion) (q_cd Y_X8_readQuestion) (q_ml Y_X8_readQuestion) (q_rt Y_X8_readQuestion) ∈ q_tbl := q_in3 211 rfl rfl
theorem mv_X8_readQuestion : q_mV Y_X8_readQuestion "CountyCream$Reader" 0 := ⟨rfl, q_in3 210 rfl rfl, q_inP 13 rfl rfl, q_in1 7 rfl rfl, qc_X8_readQuestion, ⟨by decide +kernel, by decide +kernel, by decide +kernel⟩, rfl, rfl⟩
def Y_X8_endChoices : q_Y := (yX8_endChoices, cX8_endChoices, 2, none, (2, 53), (0, 0))
theorem qc_X8_endChoices : Cond.code (q_nm Y_X8_endChoices) (q_cd Y_X8_endChoices) (q_ml Y_X8_endChoices) (q_rt Y_X8_endChoices) ∈ q_tbl := q_in3 234 rfl rfl
theorem mv_X8_endChoices : q_mV Y_X8_endChoices "CountyCream$Reader" 0 := ⟨rfl, q_in3 233 rfl rfl, q_inP 18 rfl rfl, q_in1 7 rfl rfl, qc_X8_endChoices, ⟨by decide +kernel, by decide +kernel, by decide +kernel⟩, rfl, rfl⟩
def Y_X8_readElse : q_Y := (yX8_readElse, cX8_readElse, 3, none, (3, 74), (0, 0))
theorem qc_X8_readElse : Cond.code (q_nm Y_X8_readElse) (q_cd Y_X8_readElse) (q_ml Y_X8_readElse) (q_rt Y_X8_readElse) ∈ q_tbl := q_in3 230 rfl rfl
theorem mv_X8_readElse : q_mV Y_X8_readElse "CountyCream$Reader" 1 := ⟨rfl, q_in3 229 rfl rfl, q_inP 17 rfl rfl, q_in1 7 rfl rfl, qc_X8_readElse, ⟨by decide +kernel, by decide +kernel, by decide +kernel⟩, rfl, rfl⟩
def Y_X8_readClose : q_Y := (yX8_readClose, cX8_readClose, 2, none, (3, 74), (0, 0))
theorem qc_X8_readClose : Cond.code (q_nm Y_X8_readClose) (q_cd Y_X8_readClose) (q_ml Y_X8_readClose) (q_rt Y_X8_readClose) ∈ q_tbl := q_in3 238 rfl rfl
theorem mv_X8_readClose : q_mV Y_X8_readClose "CountyCream$Reader" 1 := ⟨rfl, q_in3 237 rfl rfl, q_inP 19 rfl rfl, q_in1 7 rfl rfl, qc_X8_readClose, ⟨by decide +kernel, by decide +kernel, by decide +kernel⟩, rfl, rfl⟩
def Y_X8_topValue : q_Y := (yX8_topValue, cX8_topValue, 1, (some .long), (0, 0), (0, 0))
theorem qc_X8_topValue : Cond.code (q_nm Y_X8_topValue) (q_cd Y_X8_topValue) (q_ml Y_X8_topValue) (q_rt Y_X8_topValue) ∈ q_tbl := q_in4 6 rfl rfl
theorem mv_X8_topValue : q_mV Y_X8_topValue "CountyCream$Reader" 0 := ⟨rfl, q_in4 5 rfl rfl, q_inP 21 rfl rfl, q_in1 7 rfl rfl, qc_X8_topValue, ⟨by decide +kernel, by decide +kernel, by decide +kernel⟩, rfl, rfl⟩
def Y_X8_readJoin : q_Y := (yX8_readJoin, cX8_readJoin, 5, none, (2, 53), (0, 0))
theorem qc_X8_readJoin : Cond.code (q_nm Y_X8_readJoin) (q_cd Y_X8_readJoin) (q_ml Y_X8_readJoin) (q_rt Y_X8_readJoin) ∈ q_tbl := q_in4 2 rfl rfl
theorem mv_X8_readJoin : q_mV Y_X8_readJoin "CountyCream$Reader" 2 := ⟨rfl, q_in4 1 rfl rfl, q_inP 20 rfl rfl, q_in1 7 rfl rfl, qc_X8_readJoin, ⟨by decide +kernel, by decide +kernel, by decide +kernel⟩, rfl, rfl⟩
def Y_X8_readEnd : q_Y := (yX8_readEnd, cX8_readEnd, 1, none, (3, 74), (0, 0))
theorem qc_X8_readEnd : Cond.code (q_nm Y_X8_readEnd) (q_cd Y_X8_readEnd) (q_ml Y_X8_readEnd) (q_rt Y_X8_readEnd) ∈ q_tbl := q_in4 10 rfl rfl
theorem mv_X8_readEnd : q_mV Y_X8_readEnd "CountyCream$Reader" 0 := ⟨rfl, q_in4 9 rfl rfl, q_inP 22 rfl rfl, q_in1 7 rfl rfl, qc_X8_readEnd, ⟨by decide +kernel, by decide +kernel, by decide +kernel⟩, rfl, rfl⟩
def Y_X8_read : q_Y := (yX8_read, cX8_read, 4, (some .int), (4, 96), (0, 0))
theorem qc_X8_read : Cond.code (q_nm Y_X8_read) (q_cd Y_X8_read) (q_ml Y_X8_read) (q_rt Y_X8_read) ∈ q_tbl := q_in3 162 rfl rfl
theorem mv_X8_read : q_mV Y_X8_read "CountyCream$Reader" 0 := ⟨rfl, q_in3 160 rfl rfl, q_in3 161 rfl rfl, q_in1 7 rfl rfl, qc_X8_read, ⟨by decide +kernel, by decide +kernel, by decide +kernel⟩, rfl, rfl⟩
def Y_X7_findShares : q_Y := (yX7_findShares, cX7_findShares, 6, none, (5, 119), (0, 0))
theorem qc_X7_findShares : Cond.code (q_nm Y_X7_findShares) (q_cd Y_X7_findShares) (q_ml Y_X7_findShares) (q_rt Y_X7_findShares) ∈ q_tbl := q_in4 108 rfl rfl
theorem mv_X7_findShares : q_mV Y_X7_findShares "CountyCream$Payday" 1 := ⟨rfl, q_in4 106 rfl rfl, q_in4 107 rfl rfl, q_in1 9 rfl rfl, qc_X7_findShares, ⟨by decide +kernel, by decide +kernel, by decide +kernel⟩, rfl, rfl⟩
def Y_X7_penceOfWeek : q_Y := (yX7_penceOfWeek, cX7_penceOfWeek, 9, (some .long), (1, 23), (0, 0))
theorem qc_X7_penceOfWeek : Cond.code (q_nm Y_X7_penceOfWeek) (q_cd Y_X7_penceOfWeek) (q_ml Y_X7_penceOfWeek) (q_rt Y_X7_penceOfWeek) ∈ q_tbl := q_in4 100 rfl rfl
theorem mv_X7_penceOfWeek : q_mV Y_X7_penceOfWeek "CountyCream$Payday" 2 := ⟨rfl, q_in4 98 rfl rfl, q_in4 99 rfl rfl, q_in1 9 rfl rfl, qc_X7_penceOfWeek, ⟨by decide +kernel, by decide +kernel, by decide +kernel⟩, rfl, rfl⟩
def Y_X7_partOf : q_Y := (yX7_partOf, cX7_partOf, 16, (some .long), (1, 20), (0, 0))
theorem qc_X7_partOf : Cond.code (q_nm Y_X7_partOf) (q_cd Y_X7_partOf) (q_ml Y_X7_partOf) (q_rt Y_X7_partOf) ∈ q_tbl := q_in4 123 rfl rfl
theorem mv_X7_partOf : q_mV Y_X7_partOf "CountyCream$Payday" 2 := ⟨rfl, q_in4 121 rfl rfl, q_in4 122 rfl rfl, q_in1 9 rfl rfl, qc_X7_partOf, ⟨by decide +kernel, by decide +kernel, by decide +kernel⟩, rfl, rfl⟩
def Y_X8_init : q_Y := (yX8_init, cX8_init, 1, none, (1, 20), (5, 248))
theorem qc_X8_init : Cond.code (q_nm Y_X8_init) (q_cd Y_X8_init) (q_ml Y_X8_init) (q_rt Y_X8_init) ∈ q_tbl := q_in1 191 rfl rfl
theorem mi_X8_init : q_mI Y_X8_init 0 := ⟨q_in1 190 rfl rfl, q_in1 7 rfl rfl, qc_X8_init, ⟨by decide +kernel, by decide +kernel, by decide +kernel⟩, rfl, rfl⟩
def Y_X9_has : q_Y := (yX9_has, cX9_has, 2, (some .boolean), (0, 0), (0, 0))
theorem qc_X9_has : Cond.code (q_nm Y_X9_has) (q_cd Y_X9_has) (q_ml Y_X9_has) (q_rt Y_X9_has) ∈ q_tbl := q_in2 183 rfl rfl
theorem mv_X9_has : q_mV Y_X9_has "CountyCream$Rows" 1 := ⟨rfl, q_in2 181 rfl rfl, q_in2 182 rfl rfl, q_in1 3 rfl rfl, qc_X9_has, ⟨by decide +kernel, by decide +kernel, by decide +kernel⟩, rfl, rfl⟩
def Y_X9_digestOn : q_Y := (yX9_digestOn, cX9_digestOn, 7, (some .long), (1, 23), (0, 0))
theorem qc_X9_digestOn : Cond.code (q_nm Y_X9_digestOn) (q_cd Y_X9_digestOn) (q_ml Y_X9_digestOn) (q_rt Y_X9_digestOn) ∈ q_tbl := q_in5 144 rfl rfl
theorem mv_X9_digestOn : q_mV Y_X9_digestOn "CountyCream$Rows" 1 := ⟨rfl, q_in5 142 rfl rfl, q_in5 143 rfl rfl, q_in1 3 rfl rfl, qc_X9_digestOn, ⟨by decide +kernel, by decide +kernel, by decide +kernel⟩, rfl, rfl⟩
def Y_X10_init : q_Y := (yX10_init, cX10_init, 2, none, (1, 20), (0, 0))
theorem qc_X10_init : Cond.code (q_nm Y_X10_init) (q_cd Y_X10_init) (q_ml Y_X10_init) (q_rt Y_X10_init) ∈ q_tbl := q_in2 113 rfl rfl
theorem mi_X10_init : q_mI Y_X10_init 1 := ⟨q_in2 112 rfl rfl, q_in1 12 rfl rfl, qc_X10_init, ⟨by decide +kernel, by decide +kernel, by decide +kernel⟩, rfl, rfl⟩
def Y_X10_nearestOf : q_Y := (yX10_nearestOf, cX10_nearestOf, 7, (some .int), (2, 46), (0, 0))
theorem qc_X10_nearestOf : Cond.code (q_nm Y_X10_nearestOf) (q_cd Y_X10_nearestOf) (q_ml Y_X10_nearestOf) (q_rt Y_X10_nearestOf) ∈ q_tbl := q_in5 83 rfl rfl
theorem mv_X10_nearestOf : q_mV Y_X10_nearestOf "CountyCream$Yard" 2 := ⟨rfl, q_in5 81 rfl rfl, q_in5 82 rfl rfl, q_in1 12 rfl rfl, qc_X10_nearestOf, ⟨by decide +kernel, by decide +kernel, by decide +kernel⟩, rfl, rfl⟩
def Y_X10_costOf : q_Y := (yX10_costOf, cX10_costOf, 6, (some .long), (3, 72), (0, 0))
theorem qc_X10_costOf : Cond.code (q_nm Y_X10_costOf) (q_cd Y_X10_costOf) (q_ml Y_X10_costOf) (q_rt Y_X10_costOf) ∈ q_tbl := q_in5 77 rfl rfl
theorem mv_X10_costOf : q_mV Y_X10_costOf "CountyCream$Yard" 1 := ⟨rfl, q_in5 76 rfl rfl, q_inP 43 rfl rfl, q_in1 12 rfl rfl, qc_X10_costOf, ⟨by decide +kernel, by decide +kernel, by decide +kernel⟩, rfl, rfl⟩
def Y_X10_plan : q_Y := (yX10_plan, cX10_plan, 4, none, (4, 97), (0, 0))
theorem qc_X10_plan : Cond.code (q_nm Y_X10_plan) (q_cd Y_X10_plan) (q_ml Y_X10_plan) (q_rt Y_X10_plan) ∈ q_tbl := q_in5 73 rfl rfl
theorem mv_X10_plan : q_mV Y_X10_plan "CountyCream$Yard" 0 := ⟨rfl, q_in5 71 rfl rfl, q_in5 72 rfl rfl, q_in1 12 rfl rfl, qc_X10_plan, ⟨by decide +kernel, by decide +kernel, by decide +kernel⟩, rfl, rfl⟩
def Y_X11_init : q_Y := (yX11_init, cX11_init, 1, none, (3, 70), (107, 22300))
theorem qc_X11_init : Cond.code (q_nm Y_X11_init) (q_cd Y_X11_init) (q_ml Y_X11_init) (q_rt Y_X11_init) ∈ q_tbl := q_in1 22 rfl rfl
theorem mi_X11_init : q_mI Y_X11_init 0 := ⟨q_in1 21 rfl rfl, q_in1 1 rfl rfl, qc_X11_init, ⟨by decide +kernel, by decide +kernel, by decide +kernel⟩, rfl, rfl⟩
def Y_X11_within : q_Y := (yX11_within, cX11_within, 3, (some .boolean), (0, 0), (0, 0))
theorem qc_X11_within : Cond.code (q_nm Y_X11_within) (q_cd Y_X11_within) (q_ml Y_X11_within) (q_rt Y_X11_within) ∈ q_tbl := q_in2 170 rfl rfl
theorem ms_X11_within : q_mS Y_X11_within 3 := ⟨q_in2 169 rfl rfl, q_in1 1 rfl rfl, qc_X11_within, ⟨by decide +kernel, by decide +kernel, by decide +kernel⟩, rfl, rfl⟩
def Y_X11_isPlace : q_Y := (yX11_isPlace, cX11_isPlace, 2, (some .boolean), (1, 22), (0, 0))
theorem qc_X11_isPlace : Cond.code (q_nm Y_X11_isPlace) (q_cd Y_X11_isPlace) (q_ml Y_X11_isPlace) (q_rt Y_X11_isPlace) ∈ q_tbl := q_in2 167 rfl rfl
theorem ms_X11_isPlace : q_mS Y_X11_isPlace 2 := ⟨q_in2 166 rfl rfl, q_in1 1 rfl rfl, qc_X11_isPlace, ⟨by decide +kernel, by decide +kernel, by decide +kernel⟩, rfl, rfl⟩
def Y_X11_farm : q_Y := (yX11_farm, cX11_farm, 6, (some .int), (2, 49), (0, 0))
theorem qc_X11_farm : Cond.code (q_nm Y_X11_farm) (q_cd Y_X11_farm) (q_ml Y_X11_farm) (q_rt Y_X11_farm) ∈ q_tbl := q_in2 164 rfl rfl
theorem mv_X11_farm : q_mV Y_X11_farm "CountyCream" 4 := ⟨rfl, q_in2 162 rfl rfl, q_in2 163 rfl rfl, q_in1 1 rfl rfl, qc_X11_farm, ⟨by decide +kernel, by decide +kernel, by decide +kernel⟩, rfl, rfl⟩
def Y_X11_change : q_Y := (yX11_change, cX11_change, 4, (some .int), (1, 24), (0, 0))
theorem qc_X11_change : Cond.code (q_nm Y_X11_change) (q_cd Y_X11_change) (q_ml Y_X11_change) (q_rt Y_X11_change) ∈ q_tbl := q_in2 179 rfl rfl
theorem mv_X11_change : q_mV Y_X11_change "CountyCream" 3 := ⟨rfl, q_in2 177 rfl rfl, q_in2 178 rfl rfl, q_in1 1 rfl rfl, qc_X11_change, ⟨by decide +kernel, by decide +kernel, by decide +kernel⟩, rfl, rfl⟩
def Y_X11_isDay : q_Y := (yX11_isDay, cX11_isDay, 1, (some .boolean), (1, 22), (0, 0))
theorem qc_X11_isDay : Cond.code (q_nm Y_X11_isDay) (q_cd Y_X11_isDay) (q_ml Y_X11_isDay) (q_rt Y_X11_isDay) ∈ q_tbl := q_in2 190 rfl rfl
theorem ms_X11_isDay : q_mS Y_X11_isDay 1 := ⟨q_in2 189 rfl rfl, q_in1 1 rfl rfl, qc_X11_isDay, ⟨by decide +kernel, by decide +kernel, by decide +kernel⟩, rfl, rfl⟩
def Y_X11_can : q_Y := (yX11_can, cX11_can, 4, (some .int), (2, 49), (0, 0))
theorem qc_X11_can : Cond.code (q_nm Y_X11_can) (q_cd Y_X11_can) (q_ml Y_X11_can) (q_rt Y_X11_can) ∈ q_tbl := q_in2 187 rfl rfl
theorem mv_X11_can : q_mV Y_X11_can "CountyCream" 3 := ⟨rfl, q_in2 185 rfl rfl, q_in2 186 rfl rfl, q_in1 1 rfl rfl, qc_X11_can, ⟨by decide +kernel, by decide +kernel, by decide +kernel⟩, rfl, rfl⟩
def Y_X11_isHand : q_Y := (yX11_isHand, cX11_isHand, 1, (some .boolean), (1, 22), (0, 0))
theorem qc_X11_isHand : Cond.code (q_nm Y_X11_isHand) (q_cd Y_X11_isHand) (q_ml Y_X11_isHand) (q_rt Y_X11_isHand) ∈ q_tbl := q_in2 197 rfl rfl
theorem ms_X11_isHand : q_mS Y_X11_isHand 1 := ⟨q_in2 196 rfl rfl, q_in1 1 rfl rfl, qc_X11_isHand, ⟨by decide +kernel, by decide +kernel, by decide +kernel⟩, rfl, rfl⟩
def Y_X11_test : q_Y := (yX11_test, cX11_test, 7, (some .int), (2, 49), (0, 0))
theorem qc_X11_test : Cond.code (q_nm Y_X11_test) (q_cd Y_X11_test) (q_ml Y_X11_test) (q_rt Y_X11_test) ∈ q_tbl := q_in2 194 rfl rfl
theorem mv_X11_test : q_mV Y_X11_test "CountyCream" 5 := ⟨rfl, q_in2 192 rfl rfl, q_in2 193 rfl rfl, q_in1 1 rfl rfl, qc_X11_test, ⟨by decide +kernel, by decide +kernel, by decide +kernel⟩, rfl, rfl⟩
def Y_X11_right : q_Y := (yX11_right, cX11_right, 5, (some .int), (1, 24), (0, 0))
theorem qc_X11_right : Cond.code (q_nm Y_X11_right) (q_cd Y_X11_right) (q_ml Y_X11_right) (q_rt Y_X11_right) ∈ q_tbl := q_in2 201 rfl rfl
theorem mv_X11_right : q_mV Y_X11_right "CountyCream" 3 := ⟨rfl, q_in2 199 rfl rfl, q_in2 200 rfl rfl, q_in1 1 rfl rfl, qc_X11_right, ⟨by decide +kernel, by decide +kernel, by decide +kernel⟩, rfl, rfl⟩
def Y_X11_bias : q_Y := (yX11_bias, cX11_bias, 4, (some .int), (2, 42), (0, 0))
theorem qc_X11_bias : Cond.code (q_nm Y_X11_bias) (q_cd Y_X11_bias) (q_ml Y_X11_bias) (q_rt Y_X11_bias) ∈ q_tbl := q_in2 209 rfl rfl
theorem mv_X11_bias : q_mV Y_X11_bias "CountyCream" 2 := ⟨rfl, q_in2 207 rfl rfl, q_in2 208 rfl rfl, q_in1 1 rfl rfl, qc_X11_bias, ⟨by decide +kernel, by decide +kernel, by decide +kernel⟩, rfl, rfl⟩
def Y_X11_period : q_Y := (yX11_period, cX11_period, 3, (some .int), (1, 22), (0, 0))
theorem qc_X11_period : Cond.code (q_nm Y_X11_period) (q_cd Y_X11_period) (q_ml Y_X11_period) (q_rt Y_X11_period) ∈ q_tbl := q_in2 213 rfl rfl
theorem mv_X11_period : q_mV Y_X11_period "CountyCream" 1 := ⟨rfl, q_in2 211 rfl rfl, q_in2 212 rfl rfl, q_in1 1 rfl rfl, qc_X11_period, ⟨by decide +kernel, by decide +kernel, by decide +kernel⟩, rfl, rfl⟩
def Y_X11_rate : q_Y := (yX11_rate, cX11_rate, 3, (some .int), (4, 96), (0, 0))
theorem qc_X11_rate : Cond.code (q_nm Y_X11_rate) (q_cd Y_X11_rate) (q_ml Y_X11_rate) (q_rt Y_X11_rate) ∈ q_tbl := q_in2 217 rfl rfl
theorem mv_X11_rate : q_mV Y_X11_rate "CountyCream" 2 := ⟨rfl, q_in2 215 rfl rfl, q_in2 216 rfl rfl, q_in1 1 rfl rfl, qc_X11_rate, ⟨by decide +kernel, by decide +kernel, by decide +kernel⟩, rfl, rfl⟩
def Y_X11_canRate : q_Y := (yX11_canRate, cX11_canRate, 3, (some .int), (5, 118), (0, 0))
theorem qc_X11_canRate : Cond.code (q_nm Y_X11_canRate) (q_cd Y_X11_canRate) (q_ml Y_X11_canRate) (q_rt Y_X11_canRate) ∈ q_tbl := q_in3 10 rfl rfl
theorem mv_X11_canRate : q_mV Y_X11_canRate "CountyCream" 2 := ⟨rfl, q_in3 8 rfl rfl, q_in3 9 rfl rfl, q_in1 1 rfl rfl, qc_X11_canRate, ⟨by decide +kernel, by decide +kernel, by decide +kernel⟩, rfl, rfl⟩
def Y_X11_isWeek : q_Y := (yX11_isWeek, cX11_isWeek, 1, (some .boolean), (1, 22), (0, 0))
theorem qc_X11_isWeek : Cond.code (q_nm Y_X11_isWeek) (q_cd Y_X11_isWeek) (q_ml Y_X11_isWeek) (q_rt Y_X11_isWeek) ∈ q_tbl := q_in3 34 rfl rfl
theorem ms_X11_isWeek : q_mS Y_X11_isWeek 1 := ⟨q_in3 33 rfl rfl, q_in1 1 rfl rfl, qc_X11_isWeek, ⟨by decide +kernel, by decide +kernel, by decide +kernel⟩, rfl, rfl⟩
def Y_X11_fat : q_Y := (yX11_fat, cX11_fat, 4, (some .long), (5, 118), (0, 0))
theorem qc_X11_fat : Cond.code (q_nm Y_X11_fat) (q_cd Y_X11_fat) (q_ml Y_X11_fat) (q_rt Y_X11_fat) ∈ q_tbl := q_in3 31 rfl rfl
theorem mv_X11_fat : q_mV Y_X11_fat "CountyCream" 3 := ⟨rfl, q_in3 29 rfl rfl, q_in3 30 rfl rfl, q_in1 1 rfl rfl, qc_X11_fat, ⟨by decide +kernel, by decide +kernel, by decide +kernel⟩, rfl, rfl⟩
def Y_X11_churn : q_Y := (yX11_churn, cX11_churn, 3, (some .int), (2, 49), (0, 0))
theorem qc_X11_churn : Cond.code (q_nm Y_X11_churn) (q_cd Y_X11_churn) (q_ml Y_X11_churn) (q_rt Y_X11_churn) ∈ q_tbl := q_in3 48 rfl rfl
theorem mv_X11_churn : q_mV Y_X11_churn "CountyCream" 2 := ⟨rfl, q_in3 46 rfl rfl, q_in3 47 rfl rfl, q_in1 1 rfl rfl, qc_X11_churn, ⟨by decide +kernel, by decide +kernel, by decide +kernel⟩, rfl, rfl⟩
def Y_X11_fill : q_Y := (yX11_fill, cX11_fill, 4, (some .int), (1, 24), (0, 0))
theorem qc_X11_fill : Cond.code (q_nm Y_X11_fill) (q_cd Y_X11_fill) (q_ml Y_X11_fill) (q_rt Y_X11_fill) ∈ q_tbl := q_in3 52 rfl rfl
theorem mv_X11_fill : q_mV Y_X11_fill "CountyCream" 2 := ⟨rfl, q_in3 50 rfl rfl, q_in3 51 rfl rfl, q_in1 1 rfl rfl, qc_X11_fill, ⟨by decide +kernel, by decide +kernel, by decide +kernel⟩, rfl, rfl⟩
def Y_X11_about : q_Y := (yX11_about, cX11_about, 4, (some .long), (6, 146), (0, 0))
theorem qc_X11_about : Cond.code (q_nm Y_X11_about) (q_cd Y_X11_about) (q_ml Y_X11_about) (q_rt Y_X11_about) ∈ q_tbl := q_in3 56 rfl rfl
theorem mv_X11_about : q_mV Y_X11_about "CountyCream" 3 := ⟨rfl, q_in3 54 rfl rfl, q_in3 55 rfl rfl, q_in1 1 rfl rfl, qc_X11_about, ⟨by decide +kernel, by decide +kernel, by decide +kernel⟩, rfl, rfl⟩
def Y_X11_out : q_Y := (yX11_out, cX11_out, 3, (some .int), (1, 24), (0, 0))
theorem qc_X11_out : Cond.code (q_nm Y_X11_out) (q_cd Y_X11_out) (q_ml Y_X11_out) (q_rt Y_X11_out) ∈ q_tbl := q_in3 103 rfl rfl
theorem mv_X11_out : q_mV Y_X11_out "CountyCream" 2 := ⟨rfl, q_in3 101 rfl rfl, q_in3 102 rfl rfl, q_in1 1 rfl rfl, qc_X11_out, ⟨by decide +kernel, by decide +kernel, by decide +kernel⟩, rfl, rfl⟩
def Y_X11_box : q_Y := (yX11_box, cX11_box, 2, (some .int), (2, 49), (0, 0))
theorem qc_X11_box : Cond.code (q_nm Y_X11_box) (q_cd Y_X11_box) (q_ml Y_X11_box) (q_rt Y_X11_box) ∈ q_tbl := q_in3 108 rfl rfl
theorem mv_X11_box : q_mV Y_X11_box "CountyCream" 1 := ⟨rfl, q_in3 106 rfl rfl, q_in3 107 rfl rfl, q_in1 1 rfl rfl, qc_X11_box, ⟨by decide +kernel, by decide +kernel, by decide +kernel⟩, rfl, rfl⟩
def Y_X11_sell : q_Y := (yX11_sell, cX11_sell, 6, (some .int), (1, 24), (0, 0))
theorem qc_X11_sell : Cond.code (q_nm Y_X11_sell) (q_cd Y_X11_sell) (q_ml Y_X11_sell) (q_rt Y_X11_sell) ∈ q_tbl := q_in3 112 rfl rfl
theorem mv_X11_sell : q_mV Y_X11_sell "CountyCream" 3 := ⟨rfl, q_in3 110 rfl rfl, q_in3 111 rfl rfl, q_in1 1 rfl rfl, qc_X11_sell, ⟨by decide +kernel, by decide +kernel, by decide +kernel⟩, rfl, rfl⟩
def Y_X11_grade : q_Y := (yX11_grade, cX11_grade, 5, (some .int), (1, 24), (0, 0))
theorem qc_X11_grade : Cond.code (q_nm Y_X11_grade) (q_cd Y_X11_grade) (q_ml Y_X11_grade) (q_rt Y_X11_grade) ∈ q_tbl := q_in3 117 rfl rfl
theorem mv_X11_grade : q_mV Y_X11_grade "CountyCream" 3 := ⟨rfl, q_in3 115 rfl rfl, q_in3 116 rfl rfl, q_in1 1 rfl rfl, qc_X11_grade, ⟨by decide +kernel, by decide +kernel, by decide +kernel⟩, rfl, rfl⟩
def Y_X11_lean : q_Y := (yX11_lean, cX11_lean, 1, (some .int), (2, 48), (0, 0))
theorem qc_X11_lean : Cond.code (q_nm Y_X11_lean) (q_cd Y_X11_lean) (q_ml Y_X11_lean) (q_rt Y_X11_lean) ∈ q_tbl := q_in3 121 rfl rfl
theorem mv_X11_lean : q_mV Y_X11_lean "CountyCream" 0 := ⟨rfl, q_in3 119 rfl rfl, q_in3 120 rfl rfl, q_in1 1 rfl rfl, qc_X11_lean, ⟨by decide +kernel, by decide +kernel, by decide +kernel⟩, rfl, rfl⟩
def Y_X11_lot : q_Y := (yX11_lot, cX11_lot, 3, (some .int), (3, 80), (0, 0))
theorem qc_X11_lot : Cond.code (q_nm Y_X11_lot) (q_cd Y_X11_lot) (q_ml Y_X11_lot) (q_rt Y_X11_lot) ∈ q_tbl := q_in3 129 rfl rfl
theorem mv_X11_lot : q_mV Y_X11_lot "CountyCream" 2 := ⟨rfl, q_in3 127 rfl rfl, q_in3 128 rfl rfl, q_in1 1 rfl rfl, qc_X11_lot, ⟨by decide +kernel, by decide +kernel, by decide +kernel⟩, rfl, rfl⟩
def Y_X11_lead : q_Y := (yX11_lead, cX11_lead, 4, (some .long), (5, 118), (0, 0))
theorem qc_X11_lead : Cond.code (q_nm Y_X11_lead) (q_cd Y_X11_lead) (q_ml Y_X11_lead) (q_rt Y_X11_lead) ∈ q_tbl := q_in3 139 rfl rfl
theorem mv_X11_lead : q_mV Y_X11_lead "CountyCream" 3 := ⟨rfl, q_in3 137 rfl rfl, q_in3 138 rfl rfl, q_in1 1 rfl rfl, qc_X11_lead, ⟨by decide +kernel, by decide +kernel, by decide +kernel⟩, rfl, rfl⟩
def Y_X11_write : q_Y := (yX11_write, cX11_write, 5, (some .int), (1, 24), (0, 0))
theorem qc_X11_write : Cond.code (q_nm Y_X11_write) (q_cd Y_X11_write) (q_ml Y_X11_write) (q_rt Y_X11_write) ∈ q_tbl := q_in3 143 rfl rfl
theorem mv_X11_write : q_mV Y_X11_write "CountyCream" 2 := ⟨rfl, q_in3 141 rfl rfl, q_in3 142 rfl rfl, q_in1 1 rfl rfl, qc_X11_write, ⟨by decide +kernel, by decide +kernel, by decide +kernel⟩, rfl, rfl⟩
def Y_X11_erase : q_Y := (yX11_erase, cX11_erase, 3, (some .int), (1, 24), (0, 0))
theorem qc_X11_erase : Cond.code (q_nm Y_X11_erase) (q_cd Y_X11_erase) (q_ml Y_X11_erase) (q_rt Y_X11_erase) ∈ q_tbl := q_in3 147 rfl rfl
theorem mv_X11_erase : q_mV Y_X11_erase "CountyCream" 1 := ⟨rfl, q_in3 145 rfl rfl, q_in3 146 rfl rfl, q_in1 1 rfl rfl, qc_X11_erase, ⟨by decide +kernel, by decide +kernel, by decide +kernel⟩, rfl, rfl⟩
def Y_X11_fault : q_Y := (yX11_fault, cX11_fault, 2, (some .int), (5, 119), (0, 0))
theorem qc_X11_fault : Cond.code (q_nm Y_X11_fault) (q_cd Y_X11_fault) (q_ml Y_X11_fault) (q_rt Y_X11_fault) ∈ q_tbl := q_in3 151 rfl rfl
theorem mv_X11_fault : q_mV Y_X11_fault "CountyCream" 1 := ⟨rfl, q_in3 149 rfl rfl, q_in3 150 rfl rfl, q_in1 1 rfl rfl, qc_X11_fault, ⟨by decide +kernel, by decide +kernel, by decide +kernel⟩, rfl, rfl⟩
def Y_X11_tells : q_Y := (yX11_tells, cX11_tells, 5, (some .long), (6, 142), (0, 0))
theorem qc_X11_tells : Cond.code (q_nm Y_X11_tells) (q_cd Y_X11_tells) (q_ml Y_X11_tells) (q_rt Y_X11_tells) ∈ q_tbl := q_in4 14 rfl rfl
theorem mv_X11_tells : q_mV Y_X11_tells "CountyCream" 4 := ⟨rfl, q_in4 12 rfl rfl, q_in4 13 rfl rfl, q_in1 1 rfl rfl, qc_X11_tells, ⟨by decide +kernel, by decide +kernel, by decide +kernel⟩, rfl, rfl⟩
def Y_X11_motion : q_Y := (yX11_motion, cX11_motion, 4, (some .int), (5, 119), (0, 0))
theorem qc_X11_motion : Cond.code (q_nm Y_X11_motion) (q_cd Y_X11_motion) (q_ml Y_X11_motion) (q_rt Y_X11_motion) ∈ q_tbl := q_in4 52 rfl rfl
theorem mv_X11_motion : q_mV Y_X11_motion "CountyCream" 3 := ⟨rfl, q_in4 50 rfl rfl, q_in4 51 rfl rfl, q_in1 1 rfl rfl, qc_X11_motion, ⟨by decide +kernel, by decide +kernel, by decide +kernel⟩, rfl, rfl⟩
def Y_X11_vote : q_Y := (yX11_vote, cX11_vote, 6, (some .int), (1, 24), (0, 0))
theorem qc_X11_vote : Cond.code (q_nm Y_X11_vote) (q_cd Y_X11_vote) (q_ml Y_X11_vote) (q_rt Y_X11_vote) ∈ q_tbl := q_in4 63 rfl rfl
theorem mv_X11_vote : q_mV Y_X11_vote "CountyCream" 3 := ⟨rfl, q_in4 61 rfl rfl, q_in4 62 rfl rfl, q_in1 1 rfl rfl, qc_X11_vote, ⟨by decide +kernel, by decide +kernel, by decide +kernel⟩, rfl, rfl⟩
def Y_X11_tear : q_Y := (yX11_tear, cX11_tear, 3, (some .int), (1, 24), (0, 0))
theorem qc_X11_tear : Cond.code (q_nm Y_X11_tear) (q_cd Y_X11_tear) (q_ml Y_X11_tear) (q_rt Y_X11_tear) ∈ q_tbl := q_in4 67 rfl rfl
theorem mv_X11_tear : q_mV Y_X11_tear "CountyCream" 2 := ⟨rfl, q_in4 65 rfl rfl, q_in4 66 rfl rfl, q_in1 1 rfl rfl, qc_X11_tear, ⟨by decide +kernel, by decide +kernel, by decide +kernel⟩, rfl, rfl⟩
def Y_X11_motionAt : q_Y := (yX11_motionAt, cX11_motionAt, 3, (some .int), (4, 94), (0, 0))
theorem qc_X11_motionAt : Cond.code (q_nm Y_X11_motionAt) (q_cd Y_X11_motionAt) (q_ml Y_X11_motionAt) (q_rt Y_X11_motionAt) ∈ q_tbl := q_in4 71 rfl rfl
theorem mv_X11_motionAt : q_mV Y_X11_motionAt "CountyCream" 2 := ⟨rfl, q_in4 69 rfl rfl, q_in4 70 rfl rfl, q_in1 1 rfl rfl, qc_X11_motionAt, ⟨by decide +kernel, by decide +kernel, by decide +kernel⟩, rfl, rfl⟩
def Y_X11_force : q_Y := (yX11_force, cX11_force, 2, (some .int), (4, 96), (0, 0))
theorem qc_X11_force : Cond.code (q_nm Y_X11_force) (q_cd Y_X11_force) (q_ml Y_X11_force) (q_rt Y_X11_force) ∈ q_tbl := q_in4 88 rfl rfl
theorem mv_X11_force : q_mV Y_X11_force "CountyCream" 1 := ⟨rfl, q_in4 86 rfl rfl, q_in4 87 rfl rfl, q_in1 1 rfl rfl, qc_X11_force, ⟨by decide +kernel, by decide +kernel, by decide +kernel⟩, rfl, rfl⟩
def Y_X11_money : q_Y := (yX11_money, cX11_money, 3, (some .long), (2, 51), (0, 0))
theorem qc_X11_money : Cond.code (q_nm Y_X11_money) (q_cd Y_X11_money) (q_ml Y_X11_money) (q_rt Y_X11_money) ∈ q_tbl := q_in4 96 rfl rfl
theorem mv_X11_money : q_mV Y_X11_money "CountyCream" 2 := ⟨rfl, q_in4 94 rfl rfl, q_in4 95 rfl rfl, q_in1 1 rfl rfl, qc_X11_money, ⟨by decide +kernel, by decide +kernel, by decide +kernel⟩, rfl, rfl⟩
def Y_X11_pay : q_Y := (yX11_pay, cX11_pay, 4, (some .long), (6, 144), (0, 0))
theorem qc_X11_pay : Cond.code (q_nm Y_X11_pay) (q_cd Y_X11_pay) (q_ml Y_X11_pay) (q_rt Y_X11_pay) ∈ q_tbl := q_in4 104 rfl rfl
theorem mv_X11_pay : q_mV Y_X11_pay "CountyCream" 3 := ⟨rfl, q_in4 102 rfl rfl, q_in4 103 rfl rfl, q_in1 1 rfl rfl, qc_X11_pay, ⟨by decide +kernel, by decide +kernel, by decide +kernel⟩, rfl, rfl⟩
def Y_X11_share : q_Y := (yX11_share, cX11_share, 4, (some .long), (6, 144), (0, 0))
theorem qc_X11_share : Cond.code (q_nm Y_X11_share) (q_cd Y_X11_share) (q_ml Y_X11_share) (q_rt Y_X11_share) ∈ q_tbl := q_in4 128 rfl rfl
theorem mv_X11_share : q_mV Y_X11_share "CountyCream" 3 := ⟨rfl, q_in4 126 rfl rfl, q_in4 127 rfl rfl, q_in1 1 rfl rfl, qc_X11_share, ⟨by decide +kernel, by decide +kernel, by decide +kernel⟩, rfl, rfl⟩
def Y_X11_watered : q_Y := (yX11_watered, cX11_watered, 4, (some .int), (5, 118), (0, 0))
theorem qc_X11_watered : Cond.code (q_nm Y_X11_watered) (q_cd Y_X11_watered) (q_ml Y_X11_watered) (q_rt Y_X11_watered) ∈ q_tbl := q_in4 132 rfl rfl
theorem mv_X11_watered : q_mV Y_X11_watered "CountyCream" 3 := ⟨rfl, q_in4 130 rfl rfl, q_in4 131 rfl rfl, q_in1 1 rfl rfl, qc_X11_watered, ⟨by decide +kernel, by decide +kernel, by decide +kernel⟩, rfl, rfl⟩
def Y_X11_sour : q_Y := (yX11_sour, cX11_sour, 3, (some .int), (1, 22), (0, 0))
theorem qc_X11_sour : Cond.code (q_nm Y_X11_sour) (q_cd Y_X11_sour) (q_ml Y_X11_sour) (q_rt Y_X11_sour) ∈ q_tbl := q_in4 144 rfl rfl
theorem mv_X11_sour : q_mV Y_X11_sour "CountyCream" 1 := ⟨rfl, q_in4 142 rfl rfl, q_in4 143 rfl rfl, q_in1 1 rfl rfl, qc_X11_sour, ⟨by decide +kernel, by decide +kernel, by decide +kernel⟩, rfl, rfl⟩
def Y_X11_isSet : q_Y := (yX11_isSet, cX11_isSet, 2, (some .boolean), (0, 0), (0, 0))
theorem qc_X11_isSet : Cond.code (q_nm Y_X11_isSet) (q_cd Y_X11_isSet) (q_ml Y_X11_isSet) (q_rt Y_X11_isSet) ∈ q_tbl := q_in4 151 rfl rfl
theorem ms_X11_isSet : q_mS Y_X11_isSet 2 := ⟨q_in4 150 rfl rfl, q_in1 1 rfl rfl, qc_X11_isSet, ⟨by decide +kernel, by decide +kernel, by decide +kernel⟩, rfl, rfl⟩
def Y_X11_route : q_Y := (yX11_route, cX11_route, 2, (some .int), (5, 118), (0, 0))
theorem qc_X11_route : Cond.code (q_nm Y_X11_route) (q_cd Y_X11_route) (q_ml Y_X11_route) (q_rt Y_X11_route) ∈ q_tbl := q_in4 148 rfl rfl
theorem mv_X11_route : q_mV Y_X11_route "CountyCream" 1 := ⟨rfl, q_in4 146 rfl rfl, q_in4 147 rfl rfl, q_in1 1 rfl rfl, qc_X11_route, ⟨by decide +kernel, by decide +kernel, by decide +kernel⟩, rfl, rfl⟩
def Y_X11_routeAt : q_Y := (yX11_routeAt, cX11_routeAt, 3, (some .int), (5, 118), (0, 0))
theorem qc_X11_routeAt : Cond.code (q_nm Y_X11_routeAt) (q_cd Y_X11_routeAt) (q_ml Y_X11_routeAt) (q_rt Y_X11_routeAt) ∈ q_tbl := q_in4 217 rfl rfl
theorem mv_X11_routeAt : q_mV Y_X11_routeAt "CountyCream" 2 := ⟨rfl, q_in4 215 rfl rfl, q_in4 216 rfl rfl, q_in1 1 rfl rfl, qc_X11_routeAt, ⟨by decide +kernel, by decide +kernel, by decide +kernel⟩, rfl, rfl⟩
def Y_X11_cream : q_Y := (yX11_cream, cX11_cream, 4, (some .int), (2, 49), (0, 0))
theorem qc_X11_cream : Cond.code (q_nm Y_X11_cream) (q_cd Y_X11_cream) (q_ml Y_X11_cream) (q_rt Y_X11_cream) ∈ q_tbl := q_in4 225 rfl rfl
theorem mv_X11_cream : q_mV Y_X11_cream "CountyCream" 3 := ⟨rfl, q_in4 223 rfl rfl, q_in4 224 rfl rfl, q_in1 1 rfl rfl, qc_X11_cream, ⟨by decide +kernel, by decide +kernel, by decide +kernel⟩, rfl, rfl⟩
def Y_X11_drain : q_Y := (yX11_drain, cX11_drain, 2, (some .int), (0, 0), (0, 0))
theorem qc_X11_drain : Cond.code (q_nm Y_X11_drain) (q_cd Y_X11_drain) (q_ml Y_X11_drain) (q_rt Y_X11_drain) ∈ q_tbl := q_in4 229 rfl rfl
theorem mv_X11_drain : q_mV Y_X11_drain "CountyCream" 0 := ⟨rfl, q_in4 227 rfl rfl, q_in4 228 rfl rfl, q_in1 1 rfl rfl, qc_X11_drain, ⟨by decide +kernel, by decide +kernel, by decide +kernel⟩, rfl, rfl⟩
def Y_X11_together : q_Y := (yX11_together, cX11_together, 2, (some .long), (4, 103), (0, 0))
theorem qc_X11_together : Cond.code (q_nm Y_X11_together) (q_cd Y_X11_together) (q_ml Y_X11_together) (q_rt Y_X11_together) ∈ q_tbl := q_in4 233 rfl rfl
theorem mv_X11_together : q_mV Y_X11_together "CountyCream" 1 := ⟨rfl, q_in4 231 rfl rfl, q_in4 232 rfl rfl, q_in1 1 rfl rfl, qc_X11_together, ⟨by decide +kernel, by decide +kernel, by decide +kernel⟩, rfl, rfl⟩
def Y_X11_heap : q_Y := (yX11_heap, cX11_heap, 3, (some .int), (4, 103), (0, 0))
theorem qc_X11_heap : Cond.code (q_nm Y_X11_heap) (q_cd Y_X11_heap) (q_ml Y_X11_heap) (q_rt Y_X11_heap) ∈ q_tbl := q_in5 40 rfl rfl
theorem mv_X11_heap : q_mV Y_X11_heap "CountyCream" 2 := ⟨rfl, q_in5 38 rfl rfl, q_in5 39 rfl rfl, q_in1 1 rfl rfl, qc_X11_heap, ⟨by decide +kernel, by decide +kernel, by decide +kernel⟩, rfl, rfl⟩
def Y_X11_gives : q_Y := (yX11_gives, cX11_gives, 4, (some .int), (1, 22), (0, 0))
theorem qc_X11_gives : Cond.code (q_nm Y_X11_gives) (q_cd Y_X11_gives) (q_ml Y_X11_gives) (q_rt Y_X11_gives) ∈ q_tbl := q_in5 48 rfl rfl
theorem mv_X11_gives : q_mV Y_X11_gives "CountyCream" 2 := ⟨rfl, q_in5 46 rfl rfl, q_in5 47 rfl rfl, q_in1 1 rfl rfl, qc_X11_gives, ⟨by decide +kernel, by decide +kernel, by decide +kernel⟩, rfl, rfl⟩
def Y_X11_calved : q_Y := (yX11_calved, cX11_calved, 5, (some .int), (2, 49), (0, 0))
theorem qc_X11_calved : Cond.code (q_nm Y_X11_calved) (q_cd Y_X11_calved) (q_ml Y_X11_calved) (q_rt Y_X11_calved) ∈ q_tbl := q_in5 52 rfl rfl
theorem mv_X11_calved : q_mV Y_X11_calved "CountyCream" 3 := ⟨rfl, q_in5 50 rfl rfl, q_in5 51 rfl rfl, q_in1 1 rfl rfl, qc_X11_calved, ⟨by decide +kernel, by decide +kernel, by decide +kernel⟩, rfl, rfl⟩
def Y_X11_foretold : q_Y := (yX11_foretold, cX11_foretold, 7, (some .int), (2, 42), (0, 0))
theorem qc_X11_foretold : Cond.code (q_nm Y_X11_foretold) (q_cd Y_X11_foretold) (q_ml Y_X11_foretold) (q_rt Y_X11_foretold) ∈ q_tbl := q_in5 56 rfl rfl
theorem mv_X11_foretold : q_mV Y_X11_foretold "CountyCream" 2 := ⟨rfl, q_in5 54 rfl rfl, q_in5 55 rfl rfl, q_in1 1 rfl rfl, qc_X11_foretold, ⟨by decide +kernel, by decide +kernel, by decide +kernel⟩, rfl, rfl⟩
def Y_X11_site : q_Y := (yX11_site, cX11_site, 4, (some .int), (2, 49), (0, 0))
theorem qc_X11_site : Cond.code (q_nm Y_X11_site) (q_cd Y_X11_site) (q_ml Y_X11_site) (q_rt Y_X11_site) ∈ q_tbl := q_in5 60 rfl rfl
theorem mv_X11_site : q_mV Y_X11_site "CountyCream" 3 := ⟨rfl, q_in5 58 rfl rfl, q_in5 59 rfl rfl, q_in1 1 rfl rfl, qc_X11_site, ⟨by decide +kernel, by decide +kernel, by decide +kernel⟩, rfl, rfl⟩
def Y_X11_freight : q_Y := (yX11_freight, cX11_freight, 3, (some .int), (1, 22), (0, 0))
theorem qc_X11_freight : Cond.code (q_nm Y_X11_freight) (q_cd Y_X11_freight) (q_ml Y_X11_freight) (q_rt Y_X11_freight) ∈ q_tbl := q_in5 64 rfl rfl
theorem mv_X11_freight : q_mV Y_X11_freight "CountyCream" 1 := ⟨rfl, q_in5 62 rfl rfl, q_in5 63 rfl rfl, q_in1 1 rfl rfl, qc_X11_freight, ⟨by decide +kernel, by decide +kernel, by decide +kernel⟩, rfl, rfl⟩
def Y_X11_open : q_Y := (yX11_open, cX11_open, 2, (some .long), (5, 120), (0, 0))
theorem qc_X11_open : Cond.code (q_nm Y_X11_open) (q_cd Y_X11_open) (q_ml Y_X11_open) (q_rt Y_X11_open) ∈ q_tbl := q_in5 68 rfl rfl
theorem mv_X11_open : q_mV Y_X11_open "CountyCream" 1 := ⟨rfl, q_in5 66 rfl rfl, q_in5 67 rfl rfl, q_in1 1 rfl rfl, qc_X11_open, ⟨by decide +kernel, by decide +kernel, by decide +kernel⟩, rfl, rfl⟩
def Y_X11_nearest : q_Y := (yX11_nearest, cX11_nearest, 3, (some .int), (3, 72), (0, 0))
theorem qc_X11_nearest : Cond.code (q_nm Y_X11_nearest) (q_cd Y_X11_nearest) (q_ml Y_X11_nearest) (q_rt Y_X11_nearest) ∈ q_tbl := q_in5 88 rfl rfl
theorem mv_X11_nearest : q_mV Y_X11_nearest "CountyCream" 2 := ⟨rfl, q_in5 86 rfl rfl, q_in5 87 rfl rfl, q_in1 1 rfl rfl, qc_X11_nearest, ⟨by decide +kernel, by decide +kernel, by decide +kernel⟩, rfl, rfl⟩
def Y_X11_loan : q_Y := (yX11_loan, cX11_loan, 4, (some .int), (2, 49), (0, 0))
theorem qc_X11_loan : Cond.code (q_nm Y_X11_loan) (q_cd Y_X11_loan) (q_ml Y_X11_loan) (q_rt Y_X11_loan) ∈ q_tbl := q_in5 93 rfl rfl
theorem mv_X11_loan : q_mV Y_X11_loan "CountyCream" 3 := ⟨rfl, q_in5 91 rfl rfl, q_in5 92 rfl rfl, q_in1 1 rfl rfl, qc_X11_loan, ⟨by decide +kernel, by decide +kernel, by decide +kernel⟩, rfl, rfl⟩
def Y_X11_owed : q_Y := (yX11_owed, cX11_owed, 6, (some .long), (2, 50), (0, 0))
theorem qc_X11_owed : Cond.code (q_nm Y_X11_owed) (q_cd Y_X11_owed) (q_ml Y_X11_owed) (q_rt Y_X11_owed) ∈ q_tbl := q_in5 98 rfl rfl
theorem mv_X11_owed : q_mV Y_X11_owed "CountyCream" 2 := ⟨rfl, q_in5 96 rfl rfl, q_in5 97 rfl rfl, q_in1 1 rfl rfl, qc_X11_owed, ⟨by decide +kernel, by decide +kernel, by decide +kernel⟩, rfl, rfl⟩
def Y_X11_ends : q_Y := (yX11_ends, cX11_ends, 5, (some .int), (2, 50), (0, 0))
theorem qc_X11_ends : Cond.code (q_nm Y_X11_ends) (q_cd Y_X11_ends) (q_ml Y_X11_ends) (q_rt Y_X11_ends) ∈ q_tbl := q_in5 109 rfl rfl
theorem mv_X11_ends : q_mV Y_X11_ends "CountyCream" 1 := ⟨rfl, q_in5 107 rfl rfl, q_in5 108 rfl rfl, q_in1 1 rfl rfl, qc_X11_ends, ⟨by decide +kernel, by decide +kernel, by decide +kernel⟩, rfl, rfl⟩
def Y_X11_image : q_Y := (yX11_image, cX11_image, 2, (some .int), (3, 70), (0, 0))
theorem qc_X11_image : Cond.code (q_nm Y_X11_image) (q_cd Y_X11_image) (q_ml Y_X11_image) (q_rt Y_X11_image) ∈ q_tbl := q_in5 113 rfl rfl
theorem mv_X11_image : q_mV Y_X11_image "CountyCream" 1 := ⟨rfl, q_in5 111 rfl rfl, q_in5 112 rfl rfl, q_in1 1 rfl rfl, qc_X11_image, ⟨by decide +kernel, by decide +kernel, by decide +kernel⟩, rfl, rfl⟩
def Y_X11_from : q_Y := (yX11_from, cX11_from, 2, (some .int), (3, 70), (0, 0))
theorem qc_X11_from : Cond.code (q_nm Y_X11_from) (q_cd Y_X11_from) (q_ml Y_X11_from) (q_rt Y_X11_from) ∈ q_tbl := q_in5 129 rfl rfl
theorem mv_X11_from : q_mV Y_X11_from "CountyCream" 1 := ⟨rfl, q_in5 127 rfl rfl, q_in5 128 rfl rfl, q_in1 1 rfl rfl, qc_X11_from, ⟨by decide +kernel, by decide +kernel, by decide +kernel⟩, rfl, rfl⟩
def Y_X11_count : q_Y := (yX11_count, cX11_count, 2, (some .int), (0, 0), (0, 0))
theorem qc_X11_count : Cond.code (q_nm Y_X11_count) (q_cd Y_X11_count) (q_ml Y_X11_count) (q_rt Y_X11_count) ∈ q_tbl := q_in5 133 rfl rfl
theorem mv_X11_count : q_mV Y_X11_count "CountyCream" 1 := ⟨rfl, q_in5 131 rfl rfl, q_in5 132 rfl rfl, q_in1 1 rfl rfl, qc_X11_count, ⟨by decide +kernel, by decide +kernel, by decide +kernel⟩, rfl, rfl⟩
def Y_X11_digestOfTexts : q_Y := (yX11_digestOfTexts, cX11_digestOfTexts, 8, (some .long), (1, 23), (0, 0))
theorem qc_X11_digestOfTexts : Cond.code (q_nm Y_X11_digestOfTexts) (q_cd Y_X11_digestOfTexts) (q_ml Y_X11_digestOfTexts) (q_rt Y_X11_digestOfTexts) ∈ q_tbl := q_in5 150 rfl rfl
theorem mv_X11_digestOfTexts : q_mV Y_X11_digestOfTexts "CountyCream" 1 := ⟨rfl, q_in5 149 rfl rfl, q_inP 44 rfl rfl, q_in1 1 rfl rfl, qc_X11_digestOfTexts, ⟨by decide +kernel, by decide +kernel, by decide +kernel⟩, rfl, rfl⟩
def Y_X11_digest : q_Y := (yX11_digest, cX11_digest, 5, (some .long), (4, 94), (0, 0))
theorem qc_X11_digest : Cond.code (q_nm Y_X11_digest) (q_cd Y_X11_digest) (q_ml Y_X11_digest) (q_rt Y_X11_digest) ∈ q_tbl := q_in5 137 rfl rfl
theorem mv_X11_digest : q_mV Y_X11_digest "CountyCream" 0 := ⟨rfl, q_in5 135 rfl rfl, q_in5 136 rfl rfl, q_in1 1 rfl rfl, qc_X11_digest, ⟨by decide +kernel, by decide +kernel, by decide +kernel⟩, rfl, rfl⟩
def Y_X12_in : q_Y := (yX12_in, cX12_in, 3, (some .boolean), (0, 0), (0, 0))
theorem qc_X12_in : Cond.code (q_nm Y_X12_in) (q_cd Y_X12_in) (q_ml Y_X12_in) (q_rt Y_X12_in) ∈ q_tbl := q_in6 16 rfl rfl
theorem ms_X12_in : q_mS Y_X12_in 3 := ⟨q_in6 15 rfl rfl, q_in1 13 rfl rfl, qc_X12_in, ⟨by decide +kernel, by decide +kernel, by decide +kernel⟩, rfl, rfl⟩
def Y_X12_init : q_Y := (yX12_init, cX12_init, 1, none, (1, 20), (22, 16872))
theorem qc_X12_init : Cond.code (q_nm Y_X12_init) (q_cd Y_X12_init) (q_ml Y_X12_init) (q_rt Y_X12_init) ∈ q_tbl := q_in5 155 rfl rfl
theorem mi_X12_init : q_mI Y_X12_init 0 := ⟨q_in5 154 rfl rfl, q_in1 13 rfl rfl, qc_X12_init, ⟨by decide +kernel, by decide +kernel, by decide +kernel⟩, rfl, rfl⟩
def Y_X12_is : q_Y := (yX12_is, cX12_is, 3, (some .boolean), (1, 22), (0, 0))
theorem qc_X12_is : Cond.code (q_nm Y_X12_is) (q_cd Y_X12_is) (q_ml Y_X12_is) (q_rt Y_X12_is) ∈ q_tbl := q_in6 28 rfl rfl
theorem mv_X12_is : q_mV Y_X12_is "CountyCreamModel" 2 := ⟨rfl, q_in6 27 rfl rfl, q_inP 46 rfl rfl, q_in1 13 rfl rfl, qc_X12_is, ⟨by decide +kernel, by decide +kernel, by decide +kernel⟩, rfl, rfl⟩
def Y_X12_more : q_Y := (yX12_more, cX12_more, 2, (some .int), (0, 0), (0, 0))
theorem qc_X12_more : Cond.code (q_nm Y_X12_more) (q_cd Y_X12_more) (q_ml Y_X12_more) (q_rt Y_X12_more) ∈ q_tbl := q_in6 20 rfl rfl
theorem mv_X12_more : q_mV Y_X12_more "CountyCreamModel" 1 := ⟨rfl, q_in6 19 rfl rfl, q_inP 45 rfl rfl, q_in1 13 rfl rfl, qc_X12_more, ⟨by decide +kernel, by decide +kernel, by decide +kernel⟩, rfl, rfl⟩
def Y_X12_isDay : q_Y := (yX12_isDay, cX12_isDay, 1, (some .boolean), (1, 22), (0, 0))
theorem qc_X12_isDay : Cond.code (q_nm Y_X12_isDay) (q_cd Y_X12_isDay) (q_ml Y_X12_isDay) (q_rt Y_X12_isDay) ∈ q_tbl := q_in6 35 rfl rfl
theorem ms_X12_isDay : q_mS Y_X12_isDay 1 := ⟨q_in6 34 rfl rfl, q_in1 13 rfl rfl, qc_X12_isDay, ⟨by decide +kernel, by decide +kernel, by decide +kernel⟩, rfl, rfl⟩
def Y_X12_isWeek : q_Y := (yX12_isWeek, cX12_isWeek, 1, (some .boolean), (1, 22), (0, 0))
theorem qc_X12_isWeek : Cond.code (q_nm Y_X12_isWeek) (q_cd Y_X12_isWeek) (q_ml Y_X12_isWeek) (q_rt Y_X12_isWeek) ∈ q_tbl := q_in6 98 rfl rfl
theorem ms_X12_isWeek : q_mS Y_X12_isWeek 1 := ⟨q_in6 97 rfl rfl, q_in1 13 rfl rfl, qc_X12_isWeek, ⟨by decide +kernel, by decide +kernel, by decide +kernel⟩, rfl, rfl⟩
def Y_X12_farm : q_Y := (yX12_farm, cX12_farm, 6, (some .int), (1, 22), (0, 0))
theorem qc_X12_farm : Cond.code (q_nm Y_X12_farm) (q_cd Y_X12_farm) (q_ml Y_X12_farm) (q_rt Y_X12_farm) ∈ q_tbl := q_in6 13 rfl rfl
theorem mv_X12_farm : q_mV Y_X12_farm "CountyCreamModel" 4 := ⟨rfl, q_in6 11 rfl rfl, q_in6 12 rfl rfl, q_in1 13 rfl rfl, qc_X12_farm, ⟨by decide +kernel, by decide +kernel, by decide +kernel⟩, rfl, rfl⟩
def Y_X12_cows : q_Y := (yX12_cows, cX12_cows, 2, (some .int), (0, 0), (0, 0))
theorem qc_X12_cows : Cond.code (q_nm Y_X12_cows) (q_cd Y_X12_cows) (q_ml Y_X12_cows) (q_rt Y_X12_cows) ∈ q_tbl := q_in7 14 rfl rfl
theorem mv_X12_cows : q_mV Y_X12_cows "CountyCreamModel" 1 := ⟨rfl, q_in7 13 rfl rfl, q_inP 73 rfl rfl, q_in1 13 rfl rfl, qc_X12_cows, ⟨by decide +kernel, by decide +kernel, by decide +kernel⟩, rfl, rfl⟩
def Y_X12_isMember : q_Y := (yX12_isMember, cX12_isMember, 2, (some .boolean), (0, 0), (0, 0))
theorem qc_X12_isMember : Cond.code (q_nm Y_X12_isMember) (q_cd Y_X12_isMember) (q_ml Y_X12_isMember) (q_rt Y_X12_isMember) ∈ q_tbl := q_in7 10 rfl rfl
theorem mv_X12_isMember : q_mV Y_X12_isMember "CountyCreamModel" 1 := ⟨rfl, q_in7 9 rfl rfl, q_inP 72 rfl rfl, q_in1 13 rfl rfl, qc_X12_isMember, ⟨by decide +kernel, by decide +kernel, by decide +kernel⟩, rfl, rfl⟩
def Y_X12_change : q_Y := (yX12_change, cX12_change, 4, (some .int), (2, 44), (0, 0))
theorem qc_X12_change : Cond.code (q_nm Y_X12_change) (q_cd Y_X12_change) (q_ml Y_X12_change) (q_rt Y_X12_change) ∈ q_tbl := q_in6 24 rfl rfl
theorem mv_X12_change : q_mV Y_X12_change "CountyCreamModel" 3 := ⟨rfl, q_in6 22 rfl rfl, q_in6 23 rfl rfl, q_in1 13 rfl rfl, qc_X12_change, ⟨by decide +kernel, by decide +kernel, by decide +kernel⟩, rfl, rfl⟩
def Y_X12_can : q_Y := (yX12_can, cX12_can, 5, (some .int), (2, 44), (0, 0))
theorem qc_X12_can : Cond.code (q_nm Y_X12_can) (q_cd Y_X12_can) (q_ml Y_X12_can) (q_rt Y_X12_can) ∈ q_tbl := q_in6 32 rfl rfl
theorem mv_X12_can : q_mV Y_X12_can "CountyCreamModel" 3 := ⟨rfl, q_in6 30 rfl rfl, q_in6 31 rfl rfl, q_in1 13 rfl rfl, qc_X12_can, ⟨by decide +kernel, by decide +kernel, by decide +kernel⟩, rfl, rfl⟩
def Y_X12_test : q_Y := (yX12_test, cX12_test, 7, (some .int), (2, 44), (0, 0))
theorem qc_X12_test : Cond.code (q_nm Y_X12_test) (q_cd Y_X12_test) (q_ml Y_X12_test) (q_rt Y_X12_test) ∈ q_tbl := q_in6 39 rfl rfl
theorem mv_X12_test : q_mV Y_X12_test "CountyCreamModel" 5 := ⟨rfl, q_in6 37 rfl rfl, q_in6 38 rfl rfl, q_in1 13 rfl rfl, qc_X12_test, ⟨by decide +kernel, by decide +kernel, by decide +kernel⟩, rfl, rfl⟩
def Y_X12_right : q_Y := (yX12_right, cX12_right, 5, (some .int), (2, 44), (0, 0))
theorem qc_X12_right : Cond.code (q_nm Y_X12_right) (q_cd Y_X12_right) (q_ml Y_X12_right) (q_rt Y_X12_right) ∈ q_tbl := q_in6 43 rfl rfl
theorem mv_X12_right : q_mV Y_X12_right "CountyCreamModel" 3 := ⟨rfl, q_in6 41 rfl rfl, q_in6 42 rfl rfl, q_in1 13 rfl rfl, qc_X12_right, ⟨by decide +kernel, by decide +kernel, by decide +kernel⟩, rfl, rfl⟩
def Y_X12_bias : q_Y := (yX12_bias, cX12_bias, 4, (some .int), (1, 22), (0, 0))
theorem qc_X12_bias : Cond.code (q_nm Y_X12_bias) (q_cd Y_X12_bias) (q_ml Y_X12_bias) (q_rt Y_X12_bias) ∈ q_tbl := q_in6 47 rfl rfl
theorem mv_X12_bias : q_mV Y_X12_bias "CountyCreamModel" 2 := ⟨rfl, q_in6 45 rfl rfl, q_in6 46 rfl rfl, q_in1 13 rfl rfl, qc_X12_bias, ⟨by decide +kernel, by decide +kernel, by decide +kernel⟩, rfl, rfl⟩
def Y_X12_period : q_Y := (yX12_period, cX12_period, 3, (some .int), (1, 22), (0, 0))
theorem qc_X12_period : Cond.code (q_nm Y_X12_period) (q_cd Y_X12_period) (q_ml Y_X12_period) (q_rt Y_X12_period) ∈ q_tbl := q_in6 51 rfl rfl
theorem mv_X12_period : q_mV Y_X12_period "CountyCreamModel" 1 := ⟨rfl, q_in6 49 rfl rfl, q_in6 50 rfl rfl, q_in1 13 rfl rfl, qc_X12_period, ⟨by decide +kernel, by decide +kernel, by decide +kernel⟩, rfl, rfl⟩
def Y_X12_isKnown : q_Y := (yX12_isKnown, cX12_isKnown, 3, (some .boolean), (0, 0), (0, 0))
theorem qc_X12_isKnown : Cond.code (q_nm Y_X12_isKnown) (q_cd Y_X12_isKnown) (q_ml Y_X12_isKnown) (q_rt Y_X12_isKnown) ∈ q_tbl := q_in6 63 rfl rfl
theorem mv_X12_isKnown : q_mV Y_X12_isKnown "CountyCreamModel" 2 := ⟨rfl, q_in6 62 rfl rfl, q_inP 48 rfl rfl, q_in1 13 rfl rfl, qc_X12_isKnown, ⟨by decide +kernel, by decide +kernel, by decide +kernel⟩, rfl, rfl⟩
def Y_X12_numberOf : q_Y := (yX12_numberOf, cX12_numberOf, 4, (some .int), (0, 0), (0, 0))
theorem qc_X12_numberOf : Cond.code (q_nm Y_X12_numberOf) (q_cd Y_X12_numberOf) (q_ml Y_X12_numberOf) (q_rt Y_X12_numberOf) ∈ q_tbl := q_in6 67 rfl rfl
theorem mv_X12_numberOf : q_mV Y_X12_numberOf "CountyCreamModel" 2 := ⟨rfl, q_in6 66 rfl rfl, q_inP 49 rfl rfl, q_in1 13 rfl rfl, qc_X12_numberOf, ⟨by decide +kernel, by decide +kernel, by decide +kernel⟩, rfl, rfl⟩
def Y_X12_leant : q_Y := (yX12_leant, cX12_leant, 4, (some .int), (1, 23), (0, 0))
theorem qc_X12_leant : Cond.code (q_nm Y_X12_leant) (q_cd Y_X12_leant) (q_ml Y_X12_leant) (q_rt Y_X12_leant) ∈ q_tbl := q_in6 71 rfl rfl
theorem mv_X12_leant : q_mV Y_X12_leant "CountyCreamModel" 2 := ⟨rfl, q_in6 70 rfl rfl, q_inP 50 rfl rfl, q_in1 13 rfl rfl, qc_X12_leant, ⟨by decide +kernel, by decide +kernel, by decide +kernel⟩, rfl, rfl⟩
def Y_X12_isAhead : q_Y := (yX12_isAhead, cX12_isAhead, 5, (some .boolean), (0, 0), (0, 0))
theorem qc_X12_isAhead : Cond.code (q_nm Y_X12_isAhead) (q_cd Y_X12_isAhead) (q_ml Y_X12_isAhead) (q_rt Y_X12_isAhead) ∈ q_tbl := q_in6 75 rfl rfl
theorem mv_X12_isAhead : q_mV Y_X12_isAhead "CountyCreamModel" 2 := ⟨rfl, q_in6 74 rfl rfl, q_inP 51 rfl rfl, q_in1 13 rfl rfl, qc_X12_isAhead, ⟨by decide +kernel, by decide +kernel, by decide +kernel⟩, rfl, rfl⟩
def Y_X12_rateOf : q_Y := (yX12_rateOf, cX12_rateOf, 6, (some .int), (2, 46), (0, 0))
theorem qc_X12_rateOf : Cond.code (q_nm Y_X12_rateOf) (q_cd Y_X12_rateOf) (q_ml Y_X12_rateOf) (q_rt Y_X12_rateOf) ∈ q_tbl := q_in6 59 rfl rfl
theorem mv_X12_rateOf : q_mV Y_X12_rateOf "CountyCreamModel" 2 := ⟨rfl, q_in6 58 rfl rfl, q_inP 47 rfl rfl, q_in1 13 rfl rfl, qc_X12_rateOf, ⟨by decide +kernel, by decide +kernel, by decide +kernel⟩, rfl, rfl⟩
def Y_X12_findRates : q_Y := (yX12_findRates, cX12_findRates, 3, none, (3, 71), (0, 0))
theorem qc_X12_findRates : Cond.code (q_nm Y_X12_findRates) (q_cd Y_X12_findRates) (q_ml Y_X12_findRates) (q_rt Y_X12_findRates) ∈ q_tbl := q_in6 83 rfl rfl
theorem mv_X12_findRates : q_mV Y_X12_findRates "CountyCreamModel" 1 := ⟨rfl, q_in6 82 rfl rfl, q_inP 52 rfl rfl, q_in1 13 rfl rfl, qc_X12_findRates, ⟨by decide +kernel, by decide +kernel, by decide +kernel⟩, rfl, rfl⟩
def Y_X12_rate : q_Y := (yX12_rate, cX12_rate, 3, (some .int), (3, 71), (0, 0))
theorem qc_X12_rate : Cond.code (q_nm Y_X12_rate) (q_cd Y_X12_rate) (q_ml Y_X12_rate) (q_rt Y_X12_rate) ∈ q_tbl := q_in6 55 rfl rfl
theorem mv_X12_rate : q_mV Y_X12_rate "CountyCreamModel" 2 := ⟨rfl, q_in6 53 rfl rfl, q_in6 54 rfl rfl, q_in1 13 rfl rfl, qc_X12_rate, ⟨by decide +kernel, by decide +kernel, by decide +kernel⟩, rfl, rfl⟩
def Y_X12_farmRate : q_Y := (yX12_farmRate, cX12_farmRate, 8, (some .int), (0, 0), (0, 0))
theorem qc_X12_farmRate : Cond.code (q_nm Y_X12_farmRate) (q_cd Y_X12_farmRate) (q_ml Y_X12_farmRate) (q_rt Y_X12_farmRate) ∈ q_tbl := q_in6 91 rfl rfl
theorem mv_X12_farmRate : q_mV Y_X12_farmRate "CountyCreamModel" 2 := ⟨rfl, q_in6 90 rfl rfl, q_inP 54 rfl rfl, q_in1 13 rfl rfl, qc_X12_farmRate, ⟨by decide +kernel, by decide +kernel, by decide +kernel⟩, rfl, rfl⟩
def Y_X12_rateOfCan : q_Y := (yX12_rateOfCan, cX12_rateOfCan, 3, (some .int), (1, 27), (0, 0))
theorem qc_X12_rateOfCan : Cond.code (q_nm Y_X12_rateOfCan) (q_cd Y_X12_rateOfCan) (q_ml Y_X12_rateOfCan) (q_rt Y_X12_rateOfCan) ∈ q_tbl := q_in6 87 rfl rfl
theorem mv_X12_rateOfCan : q_mV Y_X12_rateOfCan "CountyCreamModel" 1 := ⟨rfl, q_in6 86 rfl rfl, q_inP 53 rfl rfl, q_in1 13 rfl rfl, qc_X12_rateOfCan, ⟨by decide +kernel, by decide +kernel, by decide +kernel⟩, rfl, rfl⟩
def Y_X12_canRate : q_Y := (yX12_canRate, cX12_canRate, 3, (some .int), (4, 93), (0, 0))
theorem qc_X12_canRate : Cond.code (q_nm Y_X12_canRate) (q_cd Y_X12_canRate) (q_ml Y_X12_canRate) (q_rt Y_X12_canRate) ∈ q_tbl := q_in6 79 rfl rfl
theorem mv_X12_canRate : q_mV Y_X12_canRate "CountyCreamModel" 2 := ⟨rfl, q_in6 77 rfl rfl, q_in6 78 rfl rfl, q_in1 13 rfl rfl, qc_X12_canRate, ⟨by decide +kernel, by decide +kernel, by decide +kernel⟩, rfl, rfl⟩
def Y_X12_fatOf : q_Y := (yX12_fatOf, cX12_fatOf, 2, (some .long), (2, 49), (0, 0))
theorem qc_X12_fatOf : Cond.code (q_nm Y_X12_fatOf) (q_cd Y_X12_fatOf) (q_ml Y_X12_fatOf) (q_rt Y_X12_fatOf) ∈ q_tbl := q_in6 103 rfl rfl
theorem mv_X12_fatOf : q_mV Y_X12_fatOf "CountyCreamModel" 1 := ⟨rfl, q_in6 102 rfl rfl, q_inP 55 rfl rfl, q_in1 13 rfl rfl, qc_X12_fatOf, ⟨by decide +kernel, by decide +kernel, by decide +kernel⟩, rfl, rfl⟩
def Y_X12_fat : q_Y := (yX12_fat, cX12_fat, 7, (some .long), (4, 93), (0, 0))
theorem qc_X12_fat : Cond.code (q_nm Y_X12_fat) (q_cd Y_X12_fat) (q_ml Y_X12_fat) (q_rt Y_X12_fat) ∈ q_tbl := q_in6 95 rfl rfl
theorem mv_X12_fat : q_mV Y_X12_fat "CountyCreamModel" 3 := ⟨rfl, q_in6 93 rfl rfl, q_in6 94 rfl rfl, q_in1 13 rfl rfl, qc_X12_fat, ⟨by decide +kernel, by decide +kernel, by decide +kernel⟩, rfl, rfl⟩
def Y_X12_churn : q_Y := (yX12_churn, cX12_churn, 4, (some .int), (2, 42), (0, 0))
theorem qc_X12_churn : Cond.code (q_nm Y_X12_churn) (q_cd Y_X12_churn) (q_ml Y_X12_churn) (q_rt Y_X12_churn) ∈ q_tbl := q_in6 107 rfl rfl
theorem mv_X12_churn : q_mV Y_X12_churn "CountyCreamModel" 2 := ⟨rfl, q_in6 105 rfl rfl, q_in6 106 rfl rfl, q_in1 13 rfl rfl, qc_X12_churn, ⟨by decide +kernel, by decide +kernel, by decide +kernel⟩, rfl, rfl⟩
def Y_X12_fill : q_Y := (yX12_fill, cX12_fill, 4, (some .int), (2, 44), (0, 0))
theorem qc_X12_fill : Cond.code (q_nm Y_X12_fill) (q_cd Y_X12_fill) (q_ml Y_X12_fill) (q_rt Y_X12_fill) ∈ q_tbl := q_in6 111 rfl rfl
theorem mv_X12_fill : q_mV Y_X12_fill "CountyCreamModel" 2 := ⟨rfl, q_in6 109 rfl rfl, q_in6 110 rfl rfl, q_in1 13 rfl rfl, qc_X12_fill, ⟨by decide +kernel, by decide +kernel, by decide +kernel⟩, rfl, rfl⟩
def Y_X12_cansOf : q_Y := (yX12_cansOf, cX12_cansOf, 4, (some .int), (0, 0), (0, 0))
theorem qc_X12_cansOf : Cond.code (q_nm Y_X12_cansOf) (q_cd Y_X12_cansOf) (q_ml Y_X12_cansOf) (q_rt Y_X12_cansOf) ∈ q_tbl := q_in6 119 rfl rfl
theorem mv_X12_cansOf : q_mV Y_X12_cansOf "CountyCreamModel" 1 := ⟨rfl, q_in6 118 rfl rfl, q_inP 56 rfl rfl, q_in1 13 rfl rfl, qc_X12_cansOf, ⟨by decide +kernel, by decide +kernel, by decide +kernel⟩, rfl, rfl⟩
def Y_X12_size : q_Y := (yX12_size, cX12_size, 1, (some .int), (0, 0), (0, 0))
theorem qc_X12_size : Cond.code (q_nm Y_X12_size) (q_cd Y_X12_size) (q_ml Y_X12_size) (q_rt Y_X12_size) ∈ q_tbl := q_in6 126 rfl rfl
theorem ms_X12_size : q_mS Y_X12_size 1 := ⟨q_in6 125 rfl rfl, q_in1 13 rfl rfl, qc_X12_size, ⟨by decide +kernel, by decide +kernel, by decide +kernel⟩, rfl, rfl⟩
def Y_X12_lossOf : q_Y := (yX12_lossOf, cX12_lossOf, 5, (some .int), (1, 20), (0, 0))
theorem qc_X12_lossOf : Cond.code (q_nm Y_X12_lossOf) (q_cd Y_X12_lossOf) (q_ml Y_X12_lossOf) (q_rt Y_X12_lossOf) ∈ q_tbl := q_in6 123 rfl rfl
theorem mv_X12_lossOf : q_mV Y_X12_lossOf "CountyCreamModel" 1 := ⟨rfl, q_in6 122 rfl rfl, q_inP 57 rfl rfl, q_in1 13 rfl rfl, qc_X12_lossOf, ⟨by decide +kernel, by decide +kernel, by decide +kernel⟩, rfl, rfl⟩
def Y_X12_churnFat : q_Y := (yX12_churnFat, cX12_churnFat, 6, (some .long), (3, 70), (0, 0))
theorem qc_X12_churnFat : Cond.code (q_nm Y_X12_churnFat) (q_cd Y_X12_churnFat) (q_ml Y_X12_churnFat) (q_rt Y_X12_churnFat) ∈ q_tbl := q_in6 130 rfl rfl
theorem mv_X12_churnFat : q_mV Y_X12_churnFat "CountyCreamModel" 2 := ⟨rfl, q_in6 129 rfl rfl, q_inP 58 rfl rfl, q_in1 13 rfl rfl, qc_X12_churnFat, ⟨by decide +kernel, by decide +kernel, by decide +kernel⟩, rfl, rfl⟩
def Y_X12_butter : q_Y := (yX12_butter, cX12_butter, 2, (some .long), (4, 95), (0, 0))
theorem qc_X12_butter : Cond.code (q_nm Y_X12_butter) (q_cd Y_X12_butter) (q_ml Y_X12_butter) (q_rt Y_X12_butter) ∈ q_tbl := q_in6 134 rfl rfl
theorem mv_X12_butter : q_mV Y_X12_butter "CountyCreamModel" 1 := ⟨rfl, q_in6 133 rfl rfl, q_inP 59 rfl rfl, q_in1 13 rfl rfl, qc_X12_butter, ⟨by decide +kernel, by decide +kernel, by decide +kernel⟩, rfl, rfl⟩
def Y_X12_agrees : q_Y := (yX12_agrees, cX12_agrees, 7, (some .int), (5, 116), (0, 0))
theorem qc_X12_agrees : Cond.code (q_nm Y_X12_agrees) (q_cd Y_X12_agrees) (q_ml Y_X12_agrees) (q_rt Y_X12_agrees) ∈ q_tbl := q_in6 139 rfl rfl
theorem mv_X12_agrees : q_mV Y_X12_agrees "CountyCreamModel" 1 := ⟨rfl, q_in6 138 rfl rfl, q_inP 60 rfl rfl, q_in1 13 rfl rfl, qc_X12_agrees, ⟨by decide +kernel, by decide +kernel, by decide +kernel⟩, rfl, rfl⟩
def Y_X12_boxesOf : q_Y := (yX12_boxesOf, cX12_boxesOf, 4, (some .int), (0, 0), (0, 0))
theorem qc_X12_boxesOf : Cond.code (q_nm Y_X12_boxesOf) (q_cd Y_X12_boxesOf) (q_ml Y_X12_boxesOf) (q_rt Y_X12_boxesOf) ∈ q_tbl := q_in6 144 rfl rfl
theorem mv_X12_boxesOf : q_mV Y_X12_boxesOf "CountyCreamModel" 1 := ⟨rfl, q_in6 143 rfl rfl, q_inP 61 rfl rfl, q_in1 13 rfl rfl, qc_X12_boxesOf, ⟨by decide +kernel, by decide +kernel, by decide +kernel⟩, rfl, rfl⟩
def Y_X12_penceOf : q_Y := (yX12_penceOf, cX12_penceOf, 7, (some .long), (0, 0), (0, 0))
theorem qc_X12_penceOf : Cond.code (q_nm Y_X12_penceOf) (q_cd Y_X12_penceOf) (q_ml Y_X12_penceOf) (q_rt Y_X12_penceOf) ∈ q_tbl := q_in6 148 rfl rfl
theorem mv_X12_penceOf : q_mV Y_X12_penceOf "CountyCreamModel" 2 := ⟨rfl, q_in6 147 rfl rfl, q_inP 62 rfl rfl, q_in1 13 rfl rfl, qc_X12_penceOf, ⟨by decide +kernel, by decide +kernel, by decide +kernel⟩, rfl, rfl⟩
def Y_X12_about : q_Y := (yX12_about, cX12_about, 4, (some .long), (6, 142), (0, 0))
theorem qc_X12_about : Cond.code (q_nm Y_X12_about) (q_cd Y_X12_about) (q_ml Y_X12_about) (q_rt Y_X12_about) ∈ q_tbl := q_in6 115 rfl rfl
theorem mv_X12_about : q_mV Y_X12_about "CountyCreamModel" 3 := ⟨rfl, q_in6 113 rfl rfl, q_in6 114 rfl rfl, q_in1 13 rfl rfl, qc_X12_about, ⟨by decide +kernel, by decide +kernel, by decide +kernel⟩, rfl, rfl⟩
def Y_X12_out : q_Y := (yX12_out, cX12_out, 3, (some .int), (2, 44), (0, 0))
theorem qc_X12_out : Cond.code (q_nm Y_X12_out) (q_cd Y_X12_out) (q_ml Y_X12_out) (q_rt Y_X12_out) ∈ q_tbl := q_in6 152 rfl rfl
theorem mv_X12_out : q_mV Y_X12_out "CountyCreamModel" 2 := ⟨rfl, q_in6 150 rfl rfl, q_in6 151 rfl rfl, q_in1 13 rfl rfl, qc_X12_out, ⟨by decide +kernel, by decide +kernel, by decide +kernel⟩, rfl, rfl⟩
def Y_X12_box : q_Y := (yX12_box, cX12_box, 4, (some .int), (2, 44), (0, 0))
theorem qc_X12_box : Cond.code (q_nm Y_X12_box) (q_cd Y_X12_box) (q_ml Y_X12_box) (q_rt Y_X12_box) ∈ q_tbl := q_in6 157 rfl rfl
theorem mv_X12_box : q_mV Y_X12_box "CountyCreamModel" 1 := ⟨rfl, q_in6 155 rfl rfl, q_in6 156 rfl rfl, q_in1 13 rfl rfl, qc_X12_box, ⟨by decide +kernel, by decide +kernel, by decide +kernel⟩, rfl, rfl⟩
def Y_X12_sell : q_Y := (yX12_sell, cX12_sell, 5, (some .int), (2, 44), (0, 0))
theorem qc_X12_sell : Cond.code (q_nm Y_X12_sell) (q_cd Y_X12_sell) (q_ml Y_X12_sell) (q_rt Y_X12_sell) ∈ q_tbl := q_in6 161 rfl rfl
theorem mv_X12_sell : q_mV Y_X12_sell "CountyCreamModel" 3 := ⟨rfl, q_in6 159 rfl rfl, q_in6 160 rfl rfl, q_in1 13 rfl rfl, qc_X12_sell, ⟨by decide +kernel, by decide +kernel, by decide +kernel⟩, rfl, rfl⟩
def Y_X12_grade : q_Y := (yX12_grade, cX12_grade, 5, (some .int), (2, 44), (0, 0))
theorem qc_X12_grade : Cond.code (q_nm Y_X12_grade) (q_cd Y_X12_grade) (q_ml Y_X12_grade) (q_rt Y_X12_grade) ∈ q_tbl := q_in6 166 rfl rfl
theorem mv_X12_grade : q_mV Y_X12_grade "CountyCreamModel" 3 := ⟨rfl, q_in6 164 rfl rfl, q_in6 165 rfl rfl, q_in1 13 rfl rfl, qc_X12_grade, ⟨by decide +kernel, by decide +kernel, by decide +kernel⟩, rfl, rfl⟩
def Y_X12_lean : q_Y := (yX12_lean, cX12_lean, 5, (some .int), (0, 0), (0, 0))
theorem qc_X12_lean : Cond.code (q_nm Y_X12_lean) (q_cd Y_X12_lean) (q_ml Y_X12_lean) (q_rt Y_X12_lean) ∈ q_tbl := q_in6 170 rfl rfl
theorem mv_X12_lean : q_mV Y_X12_lean "CountyCreamModel" 0 := ⟨rfl, q_in6 168 rfl rfl, q_in6 169 rfl rfl, q_in1 13 rfl rfl, qc_X12_lean, ⟨by decide +kernel, by decide +kernel, by decide +kernel⟩, rfl, rfl⟩
def Y_X12_lot : q_Y := (yX12_lot, cX12_lot, 11, (some .int), (2, 44), (0, 0))
theorem qc_X12_lot : Cond.code (q_nm Y_X12_lot) (q_cd Y_X12_lot) (q_ml Y_X12_lot) (q_rt Y_X12_lot) ∈ q_tbl := q_in6 174 rfl rfl
theorem mv_X12_lot : q_mV Y_X12_lot "CountyCreamModel" 2 := ⟨rfl, q_in6 172 rfl rfl, q_in6 173 rfl rfl, q_in1 13 rfl rfl, qc_X12_lot, ⟨by decide +kernel, by decide +kernel, by decide +kernel⟩, rfl, rfl⟩
def Y_X12_lead : q_Y := (yX12_lead, cX12_lead, 4, (some .long), (4, 95), (0, 0))
theorem qc_X12_lead : Cond.code (q_nm Y_X12_lead) (q_cd Y_X12_lead) (q_ml Y_X12_lead) (q_rt Y_X12_lead) ∈ q_tbl := q_in6 179 rfl rfl
theorem mv_X12_lead : q_mV Y_X12_lead "CountyCreamModel" 3 := ⟨rfl, q_in6 177 rfl rfl, q_in6 178 rfl rfl, q_in1 13 rfl rfl, qc_X12_lead, ⟨by decide +kernel, by decide +kernel, by decide +kernel⟩, rfl, rfl⟩
def Y_X12_emits : q_Y := (yX12_emits, cX12_emits, 3, (some .int), (0, 0), (0, 0))
theorem qc_X12_emits : Cond.code (q_nm Y_X12_emits) (q_cd Y_X12_emits) (q_ml Y_X12_emits) (q_rt Y_X12_emits) ∈ q_tbl := q_in6 217 rfl rfl
theorem mv_X12_emits : q_mV Y_X12_emits "CountyCreamModel" 2 := ⟨rfl, q_in6 216 rfl rfl, q_inP 67 rfl rfl, q_in1 13 rfl rfl, qc_X12_emits, ⟨by decide +kernel, by decide +kernel, by decide +kernel⟩, rfl, rfl⟩
def Y_X12_waitsWith : q_Y := (yX12_waitsWith, cX12_waitsWith, 4, none, (0, 0), (0, 0))
theorem qc_X12_waitsWith : Cond.code (q_nm Y_X12_waitsWith) (q_cd Y_X12_waitsWith) (q_ml Y_X12_waitsWith) (q_rt Y_X12_waitsWith) ∈ q_tbl := q_in6 228 rfl rfl
theorem mv_X12_waitsWith : q_mV Y_X12_waitsWith "CountyCreamModel" 3 := ⟨rfl, q_in6 227 rfl rfl, q_inP 69 rfl rfl, q_in1 13 rfl rfl, qc_X12_waitsWith, ⟨by decide +kernel, by decide +kernel, by decide +kernel⟩, rfl, rfl⟩
def Y_X12_holds : q_Y := (yX12_holds, cX12_holds, 1, (some .int), (0, 0), (0, 0))
theorem qc_X12_holds : Cond.code (q_nm Y_X12_holds) (q_cd Y_X12_holds) (q_ml Y_X12_holds) (q_rt Y_X12_holds) ∈ q_tbl := q_in6 205 rfl rfl
theorem ms_X12_holds : q_mS Y_X12_holds 1 := ⟨q_in6 204 rfl rfl, q_in1 13 rfl rfl, qc_X12_holds, ⟨by decide +kernel, by decide +kernel, by decide +kernel⟩, rfl, rfl⟩
def Y_X12_stepOf : q_Y := (yX12_stepOf, cX12_stepOf, 1, (some .int), (0, 0), (0, 0))
theorem qc_X12_stepOf : Cond.code (q_nm Y_X12_stepOf) (q_cd Y_X12_stepOf) (q_ml Y_X12_stepOf) (q_rt Y_X12_stepOf) ∈ q_tbl := q_in6 220 rfl rfl
theorem ms_X12_stepOf : q_mS Y_X12_stepOf 1 := ⟨q_in6 219 rfl rfl, q_in1 13 rfl rfl, qc_X12_stepOf, ⟨by decide +kernel, by decide +kernel, by decide +kernel⟩, rfl, rfl⟩
def Y_X12_settles : q_Y := (yX12_settles, cX12_settles, 3, none, (1, 22), (0, 0))
theorem qc_X12_settles : Cond.code (q_nm Y_X12_settles) (q_cd Y_X12_settles) (q_ml Y_X12_settles) (q_rt Y_X12_settles) ∈ q_tbl := q_in6 213 rfl rfl
theorem mv_X12_settles : q_mV Y_X12_settles "CountyCreamModel" 1 := ⟨rfl, q_in6 212 rfl rfl, q_inP 66 rfl rfl, q_in1 13 rfl rfl, qc_X12_settles, ⟨by decide +kernel, by decide +kernel, by decide +kernel⟩, rfl, rfl⟩
def Y_X12_settlesChosen : q_Y := (yX12_settlesChosen, cX12_settlesChosen, 1, none, (2, 44), (0, 0))
theorem qc_X12_settlesChosen : Cond.code (q_nm Y_X12_settlesChosen) (q_cd Y_X12_settlesChosen) (q_ml Y_X12_settlesChosen) (q_rt Y_X12_settlesChosen) ∈ q_tbl := q_in6 209 rfl rfl
theorem mv_X12_settlesChosen : q_mV Y_X12_settlesChosen "CountyCreamModel" 0 := ⟨rfl, q_in6 208 rfl rfl, q_inP 65 rfl rfl, q_in1 13 rfl rfl, qc_X12_settlesChosen, ⟨by decide +kernel, by decide +kernel, by decide +kernel⟩, rfl, rfl⟩
def Y_X12_top : q_Y := (yX12_top, cX12_top, 1, (some .int), (0, 0), (0, 0))
theorem qc_X12_top : Cond.code (q_nm Y_X12_top) (q_cd Y_X12_top) (q_ml Y_X12_top) (q_rt Y_X12_top) ∈ q_tbl := q_in6 224 rfl rfl
theorem mv_X12_top : q_mV Y_X12_top "CountyCreamModel" 0 := ⟨rfl, q_in6 223 rfl rfl, q_inP 68 rfl rfl, q_in1 13 rfl rfl, qc_X12_top, ⟨by decide +kernel, by decide +kernel, by decide +kernel⟩, rfl, rfl⟩
def Y_X12_goesOn : q_Y := (yX12_goesOn, cX12_goesOn, 5, (some .boolean), (3, 64), (0, 0))
theorem qc_X12_goesOn : Cond.code (q_nm Y_X12_goesOn) (q_cd Y_X12_goesOn) (q_ml Y_X12_goesOn) (q_rt Y_X12_goesOn) ∈ q_tbl := q_in6 202 rfl rfl
theorem mv_X12_goesOn : q_mV Y_X12_goesOn "CountyCreamModel" 1 := ⟨rfl, q_in6 201 rfl rfl, q_inP 64 rfl rfl, q_in1 13 rfl rfl, qc_X12_goesOn, ⟨by decide +kernel, by decide +kernel, by decide +kernel⟩, rfl, rfl⟩
def Y_X12_nameOf : q_Y := (yX12_nameOf, cX12_nameOf, 1, (some .int), (0, 0), (0, 0))
theorem qc_X12_nameOf : Cond.code (q_nm Y_X12_nameOf) (q_cd Y_X12_nameOf) (q_ml Y_X12_nameOf) (q_rt Y_X12_nameOf) ∈ q_tbl := q_in6 231 rfl rfl
theorem ms_X12_nameOf : q_mS Y_X12_nameOf 1 := ⟨q_in6 230 rfl rfl, q_in1 13 rfl rfl, qc_X12_nameOf, ⟨by decide +kernel, by decide +kernel, by decide +kernel⟩, rfl, rfl⟩
def Y_X12_reads : q_Y := (yX12_reads, cX12_reads, 8, (some .int), (4, 88), (0, 0))
theorem qc_X12_reads : Cond.code (q_nm Y_X12_reads) (q_cd Y_X12_reads) (q_ml Y_X12_reads) (q_rt Y_X12_reads) ∈ q_tbl := q_in6 198 rfl rfl
theorem mv_X12_reads : q_mV Y_X12_reads "CountyCreamModel" 1 := ⟨rfl, q_in6 197 rfl rfl, q_inP 63 rfl rfl, q_in1 13 rfl rfl, qc_X12_reads, ⟨by decide +kernel, by decide +kernel, by decide +kernel⟩, rfl, rfl⟩
def Y_X12_isIn : q_Y := (yX12_isIn, cX12_isIn, 5, (some .boolean), (0, 0), (0, 0))
theorem qc_X12_isIn : Cond.code (q_nm Y_X12_isIn) (q_cd Y_X12_isIn) (q_ml Y_X12_isIn) (q_rt Y_X12_isIn) ∈ q_tbl := q_in7 5 rfl rfl
theorem mv_X12_isIn : q_mV Y_X12_isIn "CountyCreamModel" 3 := ⟨rfl, q_in7 4 rfl rfl, q_inP 71 rfl rfl, q_in1 13 rfl rfl, qc_X12_isIn, ⟨by decide +kernel, by decide +kernel, by decide +kernel⟩, rfl, rfl⟩
def Y_X12_weightOf : q_Y := (yX12_weightOf, cX12_weightOf, 5, (some .int), (1, 24), (0, 0))
theorem qc_X12_weightOf : Cond.code (q_nm Y_X12_weightOf) (q_cd Y_X12_weightOf) (q_ml Y_X12_weightOf) (q_rt Y_X12_weightOf) ∈ q_tbl := q_in7 18 rfl rfl
theorem mv_X12_weightOf : q_mV Y_X12_weightOf "CountyCreamModel" 2 := ⟨rfl, q_in7 17 rfl rfl, q_inP 74 rfl rfl, q_in1 13 rfl rfl, qc_X12_weightOf, ⟨by decide +kernel, by decide +kernel, by decide +kernel⟩, rfl, rfl⟩
def Y_X12_findNames : q_Y := (yX12_findNames, cX12_findNames, 5, none, (3, 70), (0, 0))
theorem qc_X12_findNames : Cond.code (q_nm Y_X12_findNames) (q_cd Y_X12_findNames) (q_ml Y_X12_findNames) (q_rt Y_X12_findNames) ∈ q_tbl := q_in7 1 rfl rfl
theorem mv_X12_findNames : q_mV Y_X12_findNames "CountyCreamModel" 2 := ⟨rfl, q_in7 0 rfl rfl, q_inP 70 rfl rfl, q_in1 13 rfl rfl, qc_X12_findNames, ⟨by decide +kernel, by decide +kernel, by decide +kernel⟩, rfl, rfl⟩
def Y_X12_puts : q_Y := (yX12_puts, cX12_puts, 4, none, (0, 0), (0, 0))
theorem qc_X12_puts : Cond.code (q_nm Y_X12_puts) (q_cd Y_X12_puts) (q_ml Y_X12_puts) (q_rt Y_X12_puts) ∈ q_tbl := q_in7 26 rfl rfl
theorem mv_X12_puts : q_mV Y_X12_puts "CountyCreamModel" 2 := ⟨rfl, q_in7 25 rfl rfl, q_inP 76 rfl rfl, q_in1 13 rfl rfl, qc_X12_puts, ⟨by decide +kernel, by decide +kernel, by decide +kernel⟩, rfl, rfl⟩
def Y_X12_twoOf : q_Y := (yX12_twoOf, cX12_twoOf, 5, (some .long), (0, 0), (0, 0))
theorem qc_X12_twoOf : Cond.code (q_nm Y_X12_twoOf) (q_cd Y_X12_twoOf) (q_ml Y_X12_twoOf) (q_rt Y_X12_twoOf) ∈ q_tbl := q_in7 33 rfl rfl
theorem ms_X12_twoOf : q_mS Y_X12_twoOf 3 := ⟨q_in7 32 rfl rfl, q_in1 13 rfl rfl, qc_X12_twoOf, ⟨by decide +kernel, by decide +kernel, by decide +kernel⟩, rfl, rfl⟩
def Y_X12_works : q_Y := (yX12_works, cX12_works, 7, none, (1, 24), (0, 0))
theorem qc_X12_works : Cond.code (q_nm Y_X12_works) (q_cd Y_X12_works) (q_ml Y_X12_works) (q_rt Y_X12_works) ∈ q_tbl := q_in7 30 rfl rfl
theorem mv_X12_works : q_mV Y_X12_works "CountyCreamModel" 1 := ⟨rfl, q_in7 29 rfl rfl, q_inP 77 rfl rfl, q_in1 13 rfl rfl, qc_X12_works, ⟨by decide +kernel, by decide +kernel, by decide +kernel⟩, rfl, rfl⟩
def Y_X12_jumps : q_Y := (yX12_jumps, cX12_jumps, 4, (some .int), (1, 23), (0, 0))
theorem qc_X12_jumps : Cond.code (q_nm Y_X12_jumps) (q_cd Y_X12_jumps) (q_ml Y_X12_jumps) (q_rt Y_X12_jumps) ∈ q_tbl := q_in7 37 rfl rfl
theorem mv_X12_jumps : q_mV Y_X12_jumps "CountyCreamModel" 1 := ⟨rfl, q_in7 36 rfl rfl, q_inP 78 rfl rfl, q_in1 13 rfl rfl, qc_X12_jumps, ⟨by decide +kernel, by decide +kernel, by decide +kernel⟩, rfl, rfl⟩
def Y_X12_goes : q_Y := (yX12_goes, cX12_goes, 4, (some .boolean), (2, 50), (0, 0))
theorem qc_X12_goes : Cond.code (q_nm Y_X12_goes) (q_cd Y_X12_goes) (q_ml Y_X12_goes) (q_rt Y_X12_goes) ∈ q_tbl := q_in7 22 rfl rfl
theorem mv_X12_goes : q_mV Y_X12_goes "CountyCreamModel" 0 := ⟨rfl, q_in7 21 rfl rfl, q_inP 75 rfl rfl, q_in1 13 rfl rfl, qc_X12_goes, ⟨by decide +kernel, by decide +kernel, by decide +kernel⟩, rfl, rfl⟩
def Y_X12_isText : q_Y := (yX12_isText, cX12_isText, 1, (some .boolean), (1, 22), (0, 0))
theorem qc_X12_isText : Cond.code (q_nm Y_X12_isText) (q_cd Y_X12_isText) (q_ml Y_X12_isText) (q_rt Y_X12_isText) ∈ q_tbl := q_in6 186 rfl rfl
theorem ms_X12_isText : q_mS Y_X12_isText 1 := ⟨q_in6 185 rfl rfl, q_in1 13 rfl rfl, qc_X12_isText, ⟨by decide +kernel, by decide +kernel, by decide +kernel⟩, rfl, rfl⟩
def Y_X12_write : q_Y := (yX12_write, cX12_write, 4, (some .int), (2, 42), (0, 0))
theorem qc_X12_write : Cond.code (q_nm Y_X12_write) (q_cd Y_X12_write) (q_ml Y_X12_write) (q_rt Y_X12_write) ∈ q_tbl := q_in6 183 rfl rfl
theorem mv_X12_write : q_mV Y_X12_write "CountyCreamModel" 2 := ⟨rfl, q_in6 181 rfl rfl, q_in6 182 rfl rfl, q_in1 13 rfl rfl, qc_X12_write, ⟨by decide +kernel, by decide +kernel, by decide +kernel⟩, rfl, rfl⟩
def Y_X12_erase : q_Y := (yX12_erase, cX12_erase, 3, (some .int), (2, 42), (0, 0))
theorem qc_X12_erase : Cond.code (q_nm Y_X12_erase) (q_cd Y_X12_erase) (q_ml Y_X12_erase) (q_rt Y_X12_erase) ∈ q_tbl := q_in6 190 rfl rfl
theorem mv_X12_erase : q_mV Y_X12_erase "CountyCreamModel" 1 := ⟨rfl, q_in6 188 rfl rfl, q_in6 189 rfl rfl, q_in1 13 rfl rfl, qc_X12_erase, ⟨by decide +kernel, by decide +kernel, by decide +kernel⟩, rfl, rfl⟩
def Y_X12_fault : q_Y := (yX12_fault, cX12_fault, 2, (some .int), (5, 115), (0, 0))
theorem qc_X12_fault : Cond.code (q_nm Y_X12_fault) (q_cd Y_X12_fault) (q_ml Y_X12_fault) (q_rt Y_X12_fault) ∈ q_tbl := q_in6 194 rfl rfl
theorem mv_X12_fault : q_mV Y_X12_fault "CountyCreamModel" 1 := ⟨rfl, q_in6 192 rfl rfl, q_in6 193 rfl rfl, q_in1 13 rfl rfl, qc_X12_fault, ⟨by decide +kernel, by decide +kernel, by decide +kernel⟩, rfl, rfl⟩
def Y_X12_tells : q_Y := (yX12_tells, cX12_tells, 5, (some .long), (5, 115), (0, 0))
theorem qc_X12_tells : Cond.code (q_nm Y_X12_tells) (q_cd Y_X12_tells) (q_ml Y_X12_tells) (q_rt Y_X12_tells) ∈ q_tbl := q_in6 235 rfl rfl
theorem mv_X12_tells : q_mV Y_X12_tells "CountyCreamModel" 4 := ⟨rfl, q_in6 233 rfl rfl, q_in6 234 rfl rfl, q_in1 13 rfl rfl, qc_X12_tells, ⟨by decide +kernel, by decide +kernel, by decide +kernel⟩, rfl, rfl⟩
def Y_X12_motion : q_Y := (yX12_motion, cX12_motion, 6, (some .int), (5, 115), (0, 0))
theorem qc_X12_motion : Cond.code (q_nm Y_X12_motion) (q_cd Y_X12_motion) (q_ml Y_X12_motion) (q_rt Y_X12_motion) ∈ q_tbl := q_in7 42 rfl rfl
theorem mv_X12_motion : q_mV Y_X12_motion "CountyCreamModel" 3 := ⟨rfl, q_in7 40 rfl rfl, q_in7 41 rfl rfl, q_in1 13 rfl rfl, qc_X12_motion, ⟨by decide +kernel, by decide +kernel, by decide +kernel⟩, rfl, rfl⟩
def Y_X12_vote : q_Y := (yX12_vote, cX12_vote, 6, (some .int), (2, 44), (0, 0))
theorem qc_X12_vote : Cond.code (q_nm Y_X12_vote) (q_cd Y_X12_vote) (q_ml Y_X12_vote) (q_rt Y_X12_vote) ∈ q_tbl := q_in7 46 rfl rfl
theorem mv_X12_vote : q_mV Y_X12_vote "CountyCreamModel" 3 := ⟨rfl, q_in7 44 rfl rfl, q_in7 45 rfl rfl, q_in1 13 rfl rfl, qc_X12_vote, ⟨by decide +kernel, by decide +kernel, by decide +kernel⟩, rfl, rfl⟩
def Y_X12_tear : q_Y := (yX12_tear, cX12_tear, 4, (some .int), (2, 44), (0, 0))
theorem qc_X12_tear : Cond.code (q_nm Y_X12_tear) (q_cd Y_X12_tear) (q_ml Y_X12_tear) (q_rt Y_X12_tear) ∈ q_tbl := q_in7 50 rfl rfl
theorem mv_X12_tear : q_mV Y_X12_tear "CountyCreamModel" 2 := ⟨rfl, q_in7 48 rfl rfl, q_in7 49 rfl rfl, q_in1 13 rfl rfl, qc_X12_tear, ⟨by decide +kernel, by decide +kernel, by decide +kernel⟩, rfl, rfl⟩
def Y_X12_voted : q_Y := (yX12_voted, cX12_voted, 6, (some .int), (1, 21), (0, 0))
theorem qc_X12_voted : Cond.code (q_nm Y_X12_voted) (q_cd Y_X12_voted) (q_ml Y_X12_voted) (q_rt Y_X12_voted) ∈ q_tbl := q_in7 62 rfl rfl
theorem mv_X12_voted : q_mV Y_X12_voted "CountyCreamModel" 2 := ⟨rfl, q_in7 61 rfl rfl, q_inP 80 rfl rfl, q_in1 13 rfl rfl, qc_X12_voted, ⟨by decide +kernel, by decide +kernel, by decide +kernel⟩, rfl, rfl⟩
def Y_X12_isPassed : q_Y := (yX12_isPassed, cX12_isPassed, 4, (some .boolean), (2, 46), (0, 0))
theorem qc_X12_isPassed : Cond.code (q_nm Y_X12_isPassed) (q_cd Y_X12_isPassed) (q_ml Y_X12_isPassed) (q_rt Y_X12_isPassed) ∈ q_tbl := q_in7 66 rfl rfl
theorem mv_X12_isPassed : q_mV Y_X12_isPassed "CountyCreamModel" 1 := ⟨rfl, q_in7 65 rfl rfl, q_inP 81 rfl rfl, q_in1 13 rfl rfl, qc_X12_isPassed, ⟨by decide +kernel, by decide +kernel, by decide +kernel⟩, rfl, rfl⟩
def Y_X12_motionOf : q_Y := (yX12_motionOf, cX12_motionOf, 3, (some .int), (3, 69), (0, 0))
theorem qc_X12_motionOf : Cond.code (q_nm Y_X12_motionOf) (q_cd Y_X12_motionOf) (q_ml Y_X12_motionOf) (q_rt Y_X12_motionOf) ∈ q_tbl := q_in7 58 rfl rfl
theorem mv_X12_motionOf : q_mV Y_X12_motionOf "CountyCreamModel" 2 := ⟨rfl, q_in7 57 rfl rfl, q_inP 79 rfl rfl, q_in1 13 rfl rfl, qc_X12_motionOf, ⟨by decide +kernel, by decide +kernel, by decide +kernel⟩, rfl, rfl⟩
def Y_X12_motionAt : q_Y := (yX12_motionAt, cX12_motionAt, 3, (some .int), (4, 91), (0, 0))
theorem qc_X12_motionAt : Cond.code (q_nm Y_X12_motionAt) (q_cd Y_X12_motionAt) (q_ml Y_X12_motionAt) (q_rt Y_X12_motionAt) ∈ q_tbl := q_in7 54 rfl rfl
theorem mv_X12_motionAt : q_mV Y_X12_motionAt "CountyCreamModel" 2 := ⟨rfl, q_in7 52 rfl rfl, q_in7 53 rfl rfl, q_in1 13 rfl rfl, qc_X12_motionAt, ⟨by decide +kernel, by decide +kernel, by decide +kernel⟩, rfl, rfl⟩
def Y_X12_forceOf : q_Y := (yX12_forceOf, cX12_forceOf, 6, (some .int), (3, 69), (0, 0))
theorem qc_X12_forceOf : Cond.code (q_nm Y_X12_forceOf) (q_cd Y_X12_forceOf) (q_ml Y_X12_forceOf) (q_rt Y_X12_forceOf) ∈ q_tbl := q_in7 74 rfl rfl
theorem mv_X12_forceOf : q_mV Y_X12_forceOf "CountyCreamModel" 1 := ⟨rfl, q_in7 73 rfl rfl, q_inP 82 rfl rfl, q_in1 13 rfl rfl, qc_X12_forceOf, ⟨by decide +kernel, by decide +kernel, by decide +kernel⟩, rfl, rfl⟩
def Y_X12_force : q_Y := (yX12_force, cX12_force, 2, (some .int), (4, 94), (0, 0))
theorem qc_X12_force : Cond.code (q_nm Y_X12_force) (q_cd Y_X12_force) (q_ml Y_X12_force) (q_rt Y_X12_force) ∈ q_tbl := q_in7 70 rfl rfl
theorem mv_X12_force : q_mV Y_X12_force "CountyCreamModel" 1 := ⟨rfl, q_in7 68 rfl rfl, q_in7 69 rfl rfl, q_in1 13 rfl rfl, qc_X12_force, ⟨by decide +kernel, by decide +kernel, by decide +kernel⟩, rfl, rfl⟩
def Y_X12_moneyOf : q_Y := (yX12_moneyOf, cX12_moneyOf, 6, (some .long), (1, 26), (0, 0))
theorem qc_X12_moneyOf : Cond.code (q_nm Y_X12_moneyOf) (q_cd Y_X12_moneyOf) (q_ml Y_X12_moneyOf) (q_rt Y_X12_moneyOf) ∈ q_tbl := q_in7 82 rfl rfl
theorem mv_X12_moneyOf : q_mV Y_X12_moneyOf "CountyCreamModel" 2 := ⟨rfl, q_in7 81 rfl rfl, q_inP 83 rfl rfl, q_in1 13 rfl rfl, qc_X12_moneyOf, ⟨by decide +kernel, by decide +kernel, by decide +kernel⟩, rfl, rfl⟩
def Y_X12_money : q_Y := (yX12_money, cX12_money, 3, (some .long), (2, 51), (0, 0))
theorem qc_X12_money : Cond.code (q_nm Y_X12_money) (q_cd Y_X12_money) (q_ml Y_X12_money) (q_rt Y_X12_money) ∈ q_tbl := q_in7 78 rfl rfl
theorem mv_X12_money : q_mV Y_X12_money "CountyCreamModel" 2 := ⟨rfl, q_in7 76 rfl rfl, q_in7 77 rfl rfl, q_in1 13 rfl rfl, qc_X12_money, ⟨by decide +kernel, by decide +kernel, by decide +kernel⟩, rfl, rfl⟩
def Y_X12_findShares : q_Y := (yX12_findShares, cX12_findShares, 7, none, (5, 115), (0, 0))
theorem qc_X12_findShares : Cond.code (q_nm Y_X12_findShares) (q_cd Y_X12_findShares) (q_ml Y_X12_findShares) (q_rt Y_X12_findShares) ∈ q_tbl := q_in7 90 rfl rfl
theorem mv_X12_findShares : q_mV Y_X12_findShares "CountyCreamModel" 2 := ⟨rfl, q_in7 89 rfl rfl, q_inP 84 rfl rfl, q_in1 13 rfl rfl, qc_X12_findShares, ⟨by decide +kernel, by decide +kernel, by decide +kernel⟩, rfl, rfl⟩
def Y_X12_share : q_Y := (yX12_share, cX12_share, 4, (some .long), (6, 141), (0, 0))
theorem qc_X12_share : Cond.code (q_nm Y_X12_share) (q_cd Y_X12_share) (q_ml Y_X12_share) (q_rt Y_X12_share) ∈ q_tbl := q_in7 86 rfl rfl
theorem mv_X12_share : q_mV Y_X12_share "CountyCreamModel" 3 := ⟨rfl, q_in7 84 rfl rfl, q_in7 85 rfl rfl, q_in1 13 rfl rfl, qc_X12_share, ⟨by decide +kernel, by decide +kernel, by decide +kernel⟩, rfl, rfl⟩
def Y_X12_pay : q_Y := (yX12_pay, cX12_pay, 16, (some .long), (6, 141), (0, 0))
theorem qc_X12_pay : Cond.code (q_nm Y_X12_pay) (q_cd Y_X12_pay) (q_ml Y_X12_pay) (q_rt Y_X12_pay) ∈ q_tbl := q_in7 95 rfl rfl
theorem mv_X12_pay : q_mV Y_X12_pay "CountyCreamModel" 3 := ⟨rfl, q_in7 93 rfl rfl, q_in7 94 rfl rfl, q_in1 13 rfl rfl, qc_X12_pay, ⟨by decide +kernel, by decide +kernel, by decide +kernel⟩, rfl, rfl⟩
def Y_X12_watered : q_Y := (yX12_watered, cX12_watered, 13, (some .int), (4, 93), (0, 0))
theorem qc_X12_watered : Cond.code (q_nm Y_X12_watered) (q_cd Y_X12_watered) (q_ml Y_X12_watered) (q_rt Y_X12_watered) ∈ q_tbl := q_in7 99 rfl rfl
theorem mv_X12_watered : q_mV Y_X12_watered "CountyCreamModel" 3 := ⟨rfl, q_in7 97 rfl rfl, q_in7 98 rfl rfl, q_in1 13 rfl rfl, qc_X12_watered, ⟨by decide +kernel, by decide +kernel, by decide +kernel⟩, rfl, rfl⟩
def Y_X12_sour : q_Y := (yX12_sour, cX12_sour, 3, (some .int), (1, 22), (0, 0))
theorem qc_X12_sour : Cond.code (q_nm Y_X12_sour) (q_cd Y_X12_sour) (q_ml Y_X12_sour) (q_rt Y_X12_sour) ∈ q_tbl := q_in7 103 rfl rfl
theorem mv_X12_sour : q_mV Y_X12_sour "CountyCreamModel" 1 := ⟨rfl, q_in7 101 rfl rfl, q_in7 102 rfl rfl, q_in1 13 rfl rfl, qc_X12_sour, ⟨by decide +kernel, by decide +kernel, by decide +kernel⟩, rfl, rfl⟩
def Y_X12_miles : q_Y := (yX12_miles, cX12_miles, 4, (some .int), (1, 20), (0, 0))
theorem qc_X12_miles : Cond.code (q_nm Y_X12_miles) (q_cd Y_X12_miles) (q_ml Y_X12_miles) (q_rt Y_X12_miles) ∈ q_tbl := q_in7 129 rfl rfl
theorem ms_X12_miles : q_mS Y_X12_miles 4 := ⟨q_in7 128 rfl rfl, q_in1 13 rfl rfl, qc_X12_miles, ⟨by decide +kernel, by decide +kernel, by decide +kernel⟩, rfl, rfl⟩
def Y_X12_farmMiles : q_Y := (yX12_farmMiles, cX12_farmMiles, 4, (some .int), (2, 43), (0, 0))
theorem qc_X12_farmMiles : Cond.code (q_nm Y_X12_farmMiles) (q_cd Y_X12_farmMiles) (q_ml Y_X12_farmMiles) (q_rt Y_X12_farmMiles) ∈ q_tbl := q_in7 126 rfl rfl
theorem mv_X12_farmMiles : q_mV Y_X12_farmMiles "CountyCreamModel" 3 := ⟨rfl, q_in7 125 rfl rfl, q_inP 88 rfl rfl, q_in1 13 rfl rfl, qc_X12_farmMiles, ⟨by decide +kernel, by decide +kernel, by decide +kernel⟩, rfl, rfl⟩
def Y_X12_milesBack : q_Y := (yX12_milesBack, cX12_milesBack, 3, (some .int), (3, 66), (0, 0))
theorem qc_X12_milesBack : Cond.code (q_nm Y_X12_milesBack) (q_cd Y_X12_milesBack) (q_ml Y_X12_milesBack) (q_rt Y_X12_milesBack) ∈ q_tbl := q_in7 122 rfl rfl
theorem mv_X12_milesBack : q_mV Y_X12_milesBack "CountyCreamModel" 0 := ⟨rfl, q_in7 121 rfl rfl, q_inP 87 rfl rfl, q_in1 13 rfl rfl, qc_X12_milesBack, ⟨by decide +kernel, by decide +kernel, by decide +kernel⟩, rfl, rfl⟩
def Y_X12_nextOrder : q_Y := (yX12_nextOrder, cX12_nextOrder, 6, (some .boolean), (0, 0), (0, 0))
theorem qc_X12_nextOrder : Cond.code (q_nm Y_X12_nextOrder) (q_cd Y_X12_nextOrder) (q_ml Y_X12_nextOrder) (q_rt Y_X12_nextOrder) ∈ q_tbl := q_in7 133 rfl rfl
theorem mv_X12_nextOrder : q_mV Y_X12_nextOrder "CountyCreamModel" 0 := ⟨rfl, q_in7 132 rfl rfl, q_inP 89 rfl rfl, q_in1 13 rfl rfl, qc_X12_nextOrder, ⟨by decide +kernel, by decide +kernel, by decide +kernel⟩, rfl, rfl⟩
def Y_X12_findRoute : q_Y := (yX12_findRoute, cX12_findRoute, 7, none, (4, 88), (0, 0))
theorem qc_X12_findRoute : Cond.code (q_nm Y_X12_findRoute) (q_cd Y_X12_findRoute) (q_ml Y_X12_findRoute) (q_rt Y_X12_findRoute) ∈ q_tbl := q_in7 118 rfl rfl
theorem mv_X12_findRoute : q_mV Y_X12_findRoute "CountyCreamModel" 1 := ⟨rfl, q_in7 117 rfl rfl, q_inP 86 rfl rfl, q_in1 13 rfl rfl, qc_X12_findRoute, ⟨by decide +kernel, by decide +kernel, by decide +kernel⟩, rfl, rfl⟩
def Y_X12_sizeOf : q_Y := (yX12_sizeOf, cX12_sizeOf, 3, (some .int), (0, 0), (0, 0))
theorem qc_X12_sizeOf : Cond.code (q_nm Y_X12_sizeOf) (q_cd Y_X12_sizeOf) (q_ml Y_X12_sizeOf) (q_rt Y_X12_sizeOf) ∈ q_tbl := q_in7 114 rfl rfl
theorem ms_X12_sizeOf : q_mS Y_X12_sizeOf 1 := ⟨q_in7 113 rfl rfl, q_in1 13 rfl rfl, qc_X12_sizeOf, ⟨by decide +kernel, by decide +kernel, by decide +kernel⟩, rfl, rfl⟩
def Y_X12_whyRoute : q_Y := (yX12_whyRoute, cX12_whyRoute, 3, (some .int), (1, 22), (0, 0))
theorem qc_X12_whyRoute : Cond.code (q_nm Y_X12_whyRoute) (q_cd Y_X12_whyRoute) (q_ml Y_X12_whyRoute) (q_rt Y_X12_whyRoute) ∈ q_tbl := q_in7 111 rfl rfl
theorem mv_X12_whyRoute : q_mV Y_X12_whyRoute "CountyCreamModel" 2 := ⟨rfl, q_in7 110 rfl rfl, q_inP 85 rfl rfl, q_in1 13 rfl rfl, qc_X12_whyRoute, ⟨by decide +kernel, by decide +kernel, by decide +kernel⟩, rfl, rfl⟩
def Y_X12_route : q_Y := (yX12_route, cX12_route, 3, (some .int), (5, 114), (0, 0))
theorem qc_X12_route : Cond.code (q_nm Y_X12_route) (q_cd Y_X12_route) (q_ml Y_X12_route) (q_rt Y_X12_route) ∈ q_tbl := q_in7 107 rfl rfl
theorem mv_X12_route : q_mV Y_X12_route "CountyCreamModel" 1 := ⟨rfl, q_in7 105 rfl rfl, q_in7 106 rfl rfl, q_in1 13 rfl rfl, qc_X12_route, ⟨by decide +kernel, by decide +kernel, by decide +kernel⟩, rfl, rfl⟩
def Y_X12_routeAt : q_Y := (yX12_routeAt, cX12_routeAt, 4, (some .int), (5, 114), (0, 0))
theorem qc_X12_routeAt : Cond.code (q_nm Y_X12_routeAt) (q_cd Y_X12_routeAt) (q_ml Y_X12_routeAt) (q_rt Y_X12_routeAt) ∈ q_tbl := q_in7 137 rfl rfl
theorem mv_X12_routeAt : q_mV Y_X12_routeAt "CountyCreamModel" 2 := ⟨rfl, q_in7 135 rfl rfl, q_in7 136 rfl rfl, q_in1 13 rfl rfl, qc_X12_routeAt, ⟨by decide +kernel, by decide +kernel, by decide +kernel⟩, rfl, rfl⟩
def Y_X12_cream : q_Y := (yX12_cream, cX12_cream, 5, (some .int), (1, 22), (0, 0))
theorem qc_X12_cream : Cond.code (q_nm Y_X12_cream) (q_cd Y_X12_cream) (q_ml Y_X12_cream) (q_rt Y_X12_cream) ∈ q_tbl := q_in7 141 rfl rfl
theorem mv_X12_cream : q_mV Y_X12_cream "CountyCreamModel" 3 := ⟨rfl, q_in7 139 rfl rfl, q_in7 140 rfl rfl, q_in1 13 rfl rfl, qc_X12_cream, ⟨by decide +kernel, by decide +kernel, by decide +kernel⟩, rfl, rfl⟩
def Y_X12_drain : q_Y := (yX12_drain, cX12_drain, 2, (some .int), (0, 0), (0, 0))
theorem qc_X12_drain : Cond.code (q_nm Y_X12_drain) (q_cd Y_X12_drain) (q_ml Y_X12_drain) (q_rt Y_X12_drain) ∈ q_tbl := q_in7 145 rfl rfl
theorem mv_X12_drain : q_mV Y_X12_drain "CountyCreamModel" 0 := ⟨rfl, q_in7 143 rfl rfl, q_in7 144 rfl rfl, q_in1 13 rfl rfl, qc_X12_drain, ⟨by decide +kernel, by decide +kernel, by decide +kernel⟩, rfl, rfl⟩
def Y_X12_lossOfHeap : q_Y := (yX12_lossOfHeap, cX12_lossOfHeap, 11, (some .long), (1, 20), (0, 0))
theorem qc_X12_lossOfHeap : Cond.code (q_nm Y_X12_lossOfHeap) (q_cd Y_X12_lossOfHeap) (q_ml Y_X12_lossOfHeap) (q_rt Y_X12_lossOfHeap) ∈ q_tbl := q_in7 157 rfl rfl
theorem mv_X12_lossOfHeap : q_mV Y_X12_lossOfHeap "CountyCreamModel" 1 := ⟨rfl, q_in7 156 rfl rfl, q_inP 91 rfl rfl, q_in1 13 rfl rfl, qc_X12_lossOfHeap, ⟨by decide +kernel, by decide +kernel, by decide +kernel⟩, rfl, rfl⟩
def Y_X12_weighs : q_Y := (yX12_weighs, cX12_weighs, 8, none, (1, 22), (0, 0))
theorem qc_X12_weighs : Cond.code (q_nm Y_X12_weighs) (q_cd Y_X12_weighs) (q_ml Y_X12_weighs) (q_rt Y_X12_weighs) ∈ q_tbl := q_in7 162 rfl rfl
theorem mv_X12_weighs : q_mV Y_X12_weighs "CountyCreamModel" 2 := ⟨rfl, q_in7 161 rfl rfl, q_inP 92 rfl rfl, q_in1 13 rfl rfl, qc_X12_weighs, ⟨by decide +kernel, by decide +kernel, by decide +kernel⟩, rfl, rfl⟩
def Y_X12_nextHeaps : q_Y := (yX12_nextHeaps, cX12_nextHeaps, 5, (some .boolean), (0, 0), (0, 0))
theorem qc_X12_nextHeaps : Cond.code (q_nm Y_X12_nextHeaps) (q_cd Y_X12_nextHeaps) (q_ml Y_X12_nextHeaps) (q_rt Y_X12_nextHeaps) ∈ q_tbl := q_in7 166 rfl rfl
theorem mv_X12_nextHeaps : q_mV Y_X12_nextHeaps "CountyCreamModel" 1 := ⟨rfl, q_in7 165 rfl rfl, q_inP 93 rfl rfl, q_in1 13 rfl rfl, qc_X12_nextHeaps, ⟨by decide +kernel, by decide +kernel, by decide +kernel⟩, rfl, rfl⟩
def Y_X12_findHeaps : q_Y := (yX12_findHeaps, cX12_findHeaps, 4, none, (2, 50), (0, 0))
theorem qc_X12_findHeaps : Cond.code (q_nm Y_X12_findHeaps) (q_cd Y_X12_findHeaps) (q_ml Y_X12_findHeaps) (q_rt Y_X12_findHeaps) ∈ q_tbl := q_in7 153 rfl rfl
theorem mv_X12_findHeaps : q_mV Y_X12_findHeaps "CountyCreamModel" 1 := ⟨rfl, q_in7 152 rfl rfl, q_inP 90 rfl rfl, q_in1 13 rfl rfl, qc_X12_findHeaps, ⟨by decide +kernel, by decide +kernel, by decide +kernel⟩, rfl, rfl⟩
def Y_X12_together : q_Y := (yX12_together, cX12_together, 2, (some .long), (3, 73), (0, 0))
theorem qc_X12_together : Cond.code (q_nm Y_X12_together) (q_cd Y_X12_together) (q_ml Y_X12_together) (q_rt Y_X12_together) ∈ q_tbl := q_in7 149 rfl rfl
theorem mv_X12_together : q_mV Y_X12_together "CountyCreamModel" 1 := ⟨rfl, q_in7 147 rfl rfl, q_in7 148 rfl rfl, q_in1 13 rfl rfl, qc_X12_together, ⟨by decide +kernel, by decide +kernel, by decide +kernel⟩, rfl, rfl⟩
def Y_X12_heap : q_Y := (yX12_heap, cX12_heap, 4, (some .int), (3, 73), (0, 0))
theorem qc_X12_heap : Cond.code (q_nm Y_X12_heap) (q_cd Y_X12_heap) (q_ml Y_X12_heap) (q_rt Y_X12_heap) ∈ q_tbl := q_in7 170 rfl rfl
theorem mv_X12_heap : q_mV Y_X12_heap "CountyCreamModel" 2 := ⟨rfl, q_in7 168 rfl rfl, q_in7 169 rfl rfl, q_in1 13 rfl rfl, qc_X12_heap, ⟨by decide +kernel, by decide +kernel, by decide +kernel⟩, rfl, rfl⟩
def Y_X12_gives : q_Y := (yX12_gives, cX12_gives, 4, (some .int), (1, 22), (0, 0))
theorem qc_X12_gives : Cond.code (q_nm Y_X12_gives) (q_cd Y_X12_gives) (q_ml Y_X12_gives) (q_rt Y_X12_gives) ∈ q_tbl := q_in7 174 rfl rfl
theorem mv_X12_gives : q_mV Y_X12_gives "CountyCreamModel" 2 := ⟨rfl, q_in7 172 rfl rfl, q_in7 173 rfl rfl, q_in1 13 rfl rfl, qc_X12_gives, ⟨by decide +kernel, by decide +kernel, by decide +kernel⟩, rfl, rfl⟩
def Y_X12_calved : q_Y := (yX12_calved, cX12_calved, 5, (some .int), (2, 44), (0, 0))
theorem qc_X12_calved : Cond.code (q_nm Y_X12_calved) (q_cd Y_X12_calved) (q_ml Y_X12_calved) (q_rt Y_X12_calved) ∈ q_tbl := q_in7 178 rfl rfl
theorem mv_X12_calved : q_mV Y_X12_calved "CountyCreamModel" 3 := ⟨rfl, q_in7 176 rfl rfl, q_in7 177 rfl rfl, q_in1 13 rfl rfl, qc_X12_calved, ⟨by decide +kernel, by decide +kernel, by decide +kernel⟩, rfl, rfl⟩
def Y_X12_foretold : q_Y := (yX12_foretold, cX12_foretold, 7, (some .int), (2, 44), (0, 0))
theorem qc_X12_foretold : Cond.code (q_nm Y_X12_foretold) (q_cd Y_X12_foretold) (q_ml Y_X12_foretold) (q_rt Y_X12_foretold) ∈ q_tbl := q_in7 182 rfl rfl
theorem mv_X12_foretold : q_mV Y_X12_foretold "CountyCreamModel" 2 := ⟨rfl, q_in7 180 rfl rfl, q_in7 181 rfl rfl, q_in1 13 rfl rfl, qc_X12_foretold, ⟨by decide +kernel, by decide +kernel, by decide +kernel⟩, rfl, rfl⟩
def Y_X12_site : q_Y := (yX12_site, cX12_site, 5, (some .int), (1, 22), (0, 0))
theorem qc_X12_site : Cond.code (q_nm Y_X12_site) (q_cd Y_X12_site) (q_ml Y_X12_site) (q_rt Y_X12_site) ∈ q_tbl := q_in7 186 rfl rfl
theorem mv_X12_site : q_mV Y_X12_site "CountyCreamModel" 3 := ⟨rfl, q_in7 184 rfl rfl, q_in7 185 rfl rfl, q_in1 13 rfl rfl, qc_X12_site, ⟨by decide +kernel, by decide +kernel, by decide +kernel⟩, rfl, rfl⟩
def Y_X12_freight : q_Y := (yX12_freight, cX12_freight, 3, (some .int), (1, 22), (0, 0))
theorem qc_X12_freight : Cond.code (q_nm Y_X12_freight) (q_cd Y_X12_freight) (q_ml Y_X12_freight) (q_rt Y_X12_freight) ∈ q_tbl := q_in7 190 rfl rfl
theorem mv_X12_freight : q_mV Y_X12_freight "CountyCreamModel" 1 := ⟨rfl, q_in7 188 rfl rfl, q_in7 189 rfl rfl, q_in1 13 rfl rfl, qc_X12_freight, ⟨by decide +kernel, by decide +kernel, by decide +kernel⟩, rfl, rfl⟩
def Y_X12_toSite : q_Y := (yX12_toSite, cX12_toSite, 3, (some .int), (3, 66), (0, 0))
theorem qc_X12_toSite : Cond.code (q_nm Y_X12_toSite) (q_cd Y_X12_toSite) (q_ml Y_X12_toSite) (q_rt Y_X12_toSite) ∈ q_tbl := q_in7 207 rfl rfl
theorem mv_X12_toSite : q_mV Y_X12_toSite "CountyCreamModel" 2 := ⟨rfl, q_in7 206 rfl rfl, q_inP 96 rfl rfl, q_in1 13 rfl rfl, qc_X12_toSite, ⟨by decide +kernel, by decide +kernel, by decide +kernel⟩, rfl, rfl⟩
def Y_X12_nearestOf : q_Y := (yX12_nearestOf, cX12_nearestOf, 5, (some .int), (4, 88), (0, 0))
theorem qc_X12_nearestOf : Cond.code (q_nm Y_X12_nearestOf) (q_cd Y_X12_nearestOf) (q_ml Y_X12_nearestOf) (q_rt Y_X12_nearestOf) ∈ q_tbl := q_in7 203 rfl rfl
theorem mv_X12_nearestOf : q_mV Y_X12_nearestOf "CountyCreamModel" 2 := ⟨rfl, q_in7 202 rfl rfl, q_inP 95 rfl rfl, q_in1 13 rfl rfl, qc_X12_nearestOf, ⟨by decide +kernel, by decide +kernel, by decide +kernel⟩, rfl, rfl⟩
def Y_X12_costOf : q_Y := (yX12_costOf, cX12_costOf, 5, (some .long), (5, 112), (0, 0))
theorem qc_X12_costOf : Cond.code (q_nm Y_X12_costOf) (q_cd Y_X12_costOf) (q_ml Y_X12_costOf) (q_rt Y_X12_costOf) ∈ q_tbl := q_in7 199 rfl rfl
theorem mv_X12_costOf : q_mV Y_X12_costOf "CountyCreamModel" 1 := ⟨rfl, q_in7 198 rfl rfl, q_inP 94 rfl rfl, q_in1 13 rfl rfl, qc_X12_costOf, ⟨by decide +kernel, by decide +kernel, by decide +kernel⟩, rfl, rfl⟩
def Y_X12_open : q_Y := (yX12_open, cX12_open, 4, (some .long), (6, 136), (0, 0))
theorem qc_X12_open : Cond.code (q_nm Y_X12_open) (q_cd Y_X12_open) (q_ml Y_X12_open) (q_rt Y_X12_open) ∈ q_tbl := q_in7 194 rfl rfl
theorem mv_X12_open : q_mV Y_X12_open "CountyCreamModel" 1 := ⟨rfl, q_in7 192 rfl rfl, q_in7 193 rfl rfl, q_in1 13 rfl rfl, qc_X12_open, ⟨by decide +kernel, by decide +kernel, by decide +kernel⟩, rfl, rfl⟩
def Y_X12_nearest : q_Y := (yX12_nearest, cX12_nearest, 3, (some .int), (5, 112), (0, 0))
theorem qc_X12_nearest : Cond.code (q_nm Y_X12_nearest) (q_cd Y_X12_nearest) (q_ml Y_X12_nearest) (q_rt Y_X12_nearest) ∈ q_tbl := q_in7 211 rfl rfl
theorem mv_X12_nearest : q_mV Y_X12_nearest "CountyCreamModel" 2 := ⟨rfl, q_in7 209 rfl rfl, q_in7 210 rfl rfl, q_in1 13 rfl rfl, qc_X12_nearest, ⟨by decide +kernel, by decide +kernel, by decide +kernel⟩, rfl, rfl⟩
def Y_X12_loan : q_Y := (yX12_loan, cX12_loan, 5, (some .int), (1, 22), (0, 0))
theorem qc_X12_loan : Cond.code (q_nm Y_X12_loan) (q_cd Y_X12_loan) (q_ml Y_X12_loan) (q_rt Y_X12_loan) ∈ q_tbl := q_in7 215 rfl rfl
theorem mv_X12_loan : q_mV Y_X12_loan "CountyCreamModel" 3 := ⟨rfl, q_in7 213 rfl rfl, q_in7 214 rfl rfl, q_in1 13 rfl rfl, qc_X12_loan, ⟨by decide +kernel, by decide +kernel, by decide +kernel⟩, rfl, rfl⟩
def Y_X12_weekOn : q_Y := (yX12_weekOn, cX12_weekOn, 7, (some .long), (0, 0), (0, 0))
theorem qc_X12_weekOn : Cond.code (q_nm Y_X12_weekOn) (q_cd Y_X12_weekOn) (q_ml Y_X12_weekOn) (q_rt Y_X12_weekOn) ∈ q_tbl := q_in7 224 rfl rfl
theorem mv_X12_weekOn : q_mV Y_X12_weekOn "CountyCreamModel" 2 := ⟨rfl, q_in7 223 rfl rfl, q_inP 97 rfl rfl, q_in1 13 rfl rfl, qc_X12_weekOn, ⟨by decide +kernel, by decide +kernel, by decide +kernel⟩, rfl, rfl⟩
def Y_X12_owed : q_Y := (yX12_owed, cX12_owed, 6, (some .long), (2, 44), (0, 0))
theorem qc_X12_owed : Cond.code (q_nm Y_X12_owed) (q_cd Y_X12_owed) (q_ml Y_X12_owed) (q_rt Y_X12_owed) ∈ q_tbl := q_in7 220 rfl rfl
theorem mv_X12_owed : q_mV Y_X12_owed "CountyCreamModel" 2 := ⟨rfl, q_in7 218 rfl rfl, q_in7 219 rfl rfl, q_in1 13 rfl rfl, qc_X12_owed, ⟨by decide +kernel, by decide +kernel, by decide +kernel⟩, rfl, rfl⟩
def Y_X12_ends : q_Y := (yX12_ends, cX12_ends, 5, (some .int), (2, 44), (0, 0))
theorem qc_X12_ends : Cond.code (q_nm Y_X12_ends) (q_cd Y_X12_ends) (q_ml Y_X12_ends) (q_rt Y_X12_ends) ∈ q_tbl := q_in7 230 rfl rfl
theorem mv_X12_ends : q_mV Y_X12_ends "CountyCreamModel" 1 := ⟨rfl, q_in7 228 rfl rfl, q_in7 229 rfl rfl, q_in1 13 rfl rfl, qc_X12_ends, ⟨by decide +kernel, by decide +kernel, by decide +kernel⟩, rfl, rfl⟩
def Y_X12_image : q_Y := (yX12_image, cX12_image, 3, (some .int), (1, 22), (0, 0))
theorem qc_X12_image : Cond.code (q_nm Y_X12_image) (q_cd Y_X12_image) (q_ml Y_X12_image) (q_rt Y_X12_image) ∈ q_tbl := q_in7 234 rfl rfl
theorem mv_X12_image : q_mV Y_X12_image "CountyCreamModel" 1 := ⟨rfl, q_in7 232 rfl rfl, q_in7 233 rfl rfl, q_in1 13 rfl rfl, qc_X12_image, ⟨by decide +kernel, by decide +kernel, by decide +kernel⟩, rfl, rfl⟩
def Y_X12_from : q_Y := (yX12_from, cX12_from, 3, (some .int), (1, 22), (0, 0))
theorem qc_X12_from : Cond.code (q_nm Y_X12_from) (q_cd Y_X12_from) (q_ml Y_X12_from) (q_rt Y_X12_from) ∈ q_tbl := q_in7 238 rfl rfl
theorem mv_X12_from : q_mV Y_X12_from "CountyCreamModel" 1 := ⟨rfl, q_in7 236 rfl rfl, q_in7 237 rfl rfl, q_in1 13 rfl rfl, qc_X12_from, ⟨by decide +kernel, by decide +kernel, by decide +kernel⟩, rfl, rfl⟩
def Y_X12_count : q_Y := (yX12_count, cX12_count, 2, (some .int), (1, 22), (0, 0))
theorem qc_X12_count : Cond.code (q_nm Y_X12_count) (q_cd Y_X12_count) (q_ml Y_X12_count) (q_rt Y_X12_count) ∈ q_tbl := q_in8 2 rfl rfl
theorem mv_X12_count : q_mV Y_X12_count "CountyCreamModel" 1 := ⟨rfl, q_in8 0 rfl rfl, q_in8 1 rfl rfl, q_in1 13 rfl rfl, qc_X12_count, ⟨by decide +kernel, by decide +kernel, by decide +kernel⟩, rfl, rfl⟩
def Y_X12_mixed : q_Y := (yX12_mixed, cX12_mixed, 8, (some .long), (0, 0), (0, 0))
theorem qc_X12_mixed : Cond.code (q_nm Y_X12_mixed) (q_cd Y_X12_mixed) (q_ml Y_X12_mixed) (q_rt Y_X12_mixed) ∈ q_tbl := q_in8 11 rfl rfl
theorem mv_X12_mixed : q_mV Y_X12_mixed "CountyCreamModel" 3 := ⟨rfl, q_in8 10 rfl rfl, q_inP 98 rfl rfl, q_in1 13 rfl rfl, qc_X12_mixed, ⟨by decide +kernel, by decide +kernel, by decide +kernel⟩, rfl, rfl⟩
def Y_X12_digest : q_Y := (yX12_digest, cX12_digest, 5, (some .long), (4, 91), (0, 0))
theorem qc_X12_digest : Cond.code (q_nm Y_X12_digest) (q_cd Y_X12_digest) (q_ml Y_X12_digest) (q_rt Y_X12_digest) ∈ q_tbl := q_in8 6 rfl rfl
theorem mv_X12_digest : q_mV Y_X12_digest "CountyCreamModel" 0 := ⟨rfl, q_in8 4 rfl rfl, q_in8 5 rfl rfl, q_in1 13 rfl rfl, qc_X12_digest, ⟨by decide +kernel, by decide +kernel, by decide +kernel⟩, rfl, rfl⟩
def Y_L_law : q_Y := (x, code, maxLocals, ret, (9, 354), (131, 39214))
