theorem dX5_biasOf_0 : decode cX5_biasOf 0 = .ok (.iload_n 1, 1) := by decide +kernel
theorem dX5_biasOf_1 : decode cX5_biasOf 1 = .ok (.ifCond .lt 12, 3) := by decide +kernel
theorem dX5_biasOf_4 : decode cX5_biasOf 4 = .ok (.iload_n 1, 1) := by decide +kernel
theorem dX5_biasOf_5 : decode cX5_biasOf 5 = .ok (.aload_n 0, 1) := by decide +kernel
theorem dX5_biasOf_6 : decode cX5_biasOf 6 = .ok (.getfield 52, 3) := by decide +kernel
theorem dX5_biasOf_9 : decode cX5_biasOf 9 = .ok (.arraylength, 1) := by decide +kernel
theorem dX5_biasOf_10 : decode cX5_biasOf 10 = .ok (.if_icmp .lt 7, 3) := by decide +kernel
theorem dX5_biasOf_13 : decode cX5_biasOf 13 = .ok (.iconst 0, 1) := by decide +kernel
theorem dX5_biasOf_14 : decode cX5_biasOf 14 = .ok (.goto 9, 3) := by decide +kernel
theorem dX5_biasOf_17 : decode cX5_biasOf 17 = .ok (.aload_n 0, 1) := by decide +kernel
theorem dX5_biasOf_18 : decode cX5_biasOf 18 = .ok (.getfield 52, 3) := by decide +kernel
theorem dX5_biasOf_21 : decode cX5_biasOf 21 = .ok (.iload_n 1, 1) := by decide +kernel
theorem dX5_biasOf_22 : decode cX5_biasOf 22 = .ok (.iaload, 1) := by decide +kernel
theorem dX5_biasOf_23 : decode cX5_biasOf 23 = .ok (.ireturn, 1) := by decide +kernel
def f_X5_biasOf (M : q_Mem) (a0 : Nat) (a1 : Int32) : Option Int32 :=
  q_ob 4 M a0 ((if a1 < 0 then
    some (0 : Int32)
  else
    (q_gR 4 11 M a0).bind fun v1 =>
    (q_ln M v1).bind fun v3 =>
    (if a1 < v3 then
      (q_gR 4 11 M a0).bind fun v5 =>
      (q_lI M v5 a1).bind fun v7 =>
      some v7
    else
      some (0 : Int32))))
set_option maxRecDepth 20000 in
theorem m_X5_biasOf {M : q_Mem} {a0 : Nat} {a1 : Int32} {x : Int32} (h : f_X5_biasOf M a0 a1 = some x) : q_C Y_X5_biasOf [.ref a0, .int a1] M (some (.int x)) M := by
  refine q_met (φ := (fun x : Int32 => (some (.int x), M))) (r := f_X5_biasOf M a0 a1) (by decide +kernel) (Nat.le_of_ble_eq_true rfl) ?_ h (fun _ _ => rfl)
  show q_V Y_X5_biasOf none (fun x : Int32 => (some (.int x), M)) 0 0 0 [(0, .ref a0), (1, .int a1)] [] M (f_X5_biasOf M a0 a1)
  unfold f_X5_biasOf
  refine q_obV ?_
  refine q_iload_n 1 dX5_biasOf_0 rfl ?_
  refine q_if_lt (tgt := 13) dX5_biasOf_1 (by decide) (fun c10 => ?_) (fun c10 => ?_)
  · refine q_iconst (x := (0 : Int32)) dX5_biasOf_13 rfl ?_
    refine q_goto (tgt := 23) dX5_biasOf_14 (by decide) ?_
    exact q_iret dX5_biasOf_23 rfl rfl (Nat.le_of_ble_eq_true rfl) rfl
  · refine q_iload_n 1 dX5_biasOf_4 rfl ?_
    refine q_aload_n 0 dX5_biasOf_5 rfl ?_
    refine q_getR (f := 11) cl_X5 (by decide) qw_110 rfl dX5_biasOf_6 (fun _ _ _ => rfl) (fun v1 h2 => ?_)
    refine q_alen dX5_biasOf_9 (fun v3 h4 => ?_)
    refine q_icmp_lt (tgt := 17) dX5_biasOf_10 (by decide) (fun c9 => ?_) (fun c9 => ?_)
    · refine q_aload_n 0 dX5_biasOf_17 rfl ?_
      refine q_getR (f := 11) cl_X5 (by decide) qw_110 rfl dX5_biasOf_18 (fun _ _ _ => rfl) (fun v5 h6 => ?_)
      refine q_iload_n 1 dX5_biasOf_21 rfl ?_
      refine q_iald dX5_biasOf_22 (fun v7 h8 => ?_)
      exact q_iret dX5_biasOf_23 rfl rfl (Nat.le_of_ble_eq_true rfl) rfl
    · refine q_iconst (x := (0 : Int32)) dX5_biasOf_13 rfl ?_
      refine q_goto (tgt := 23) dX5_biasOf_14 (by decide) ?_
      exact q_iret dX5_biasOf_23 rfl rfl (Nat.le_of_ble_eq_true rfl) rfl
theorem dX6_init_0 : decode cX6_init 0 = .ok (.aload_n 0, 1) := by decide +kernel
theorem dX6_init_1 : decode cX6_init 1 = .ok (.invokespecial 3, 3) := by decide +kernel
theorem dX6_init_4 : decode cX6_init 4 = .ok (.aload_n 0, 1) := by decide +kernel
theorem dX6_init_5 : decode cX6_init 5 = .ok (.sipush 200, 3) := by decide +kernel
theorem dX6_init_8 : decode cX6_init 8 = .ok (.newarray .int, 2) := by decide +kernel
theorem dX6_init_10 : decode cX6_init 10 = .ok (.putfield 9, 3) := by decide +kernel
theorem dX6_init_13 : decode cX6_init 13 = .ok (.aload_n 0, 1) := by decide +kernel
theorem dX6_init_14 : decode cX6_init 14 = .ok (.aload_n 1, 1) := by decide +kernel
theorem dX6_init_15 : decode cX6_init 15 = .ok (.putfield 15, 3) := by decide +kernel
theorem dX6_init_18 : decode cX6_init 18 = .ok (.aload_n 0, 1) := by decide +kernel
theorem dX6_init_19 : decode cX6_init 19 = .ok (.aload_n 1, 1) := by decide +kernel
theorem dX6_init_20 : decode cX6_init 20 = .ok (.getfield 19, 3) := by decide +kernel
theorem dX6_init_23 : decode cX6_init 23 = .ok (.putfield 25, 3) := by decide +kernel
theorem dX6_init_26 : decode cX6_init 26 = .ok (.return_, 1) := by decide +kernel
def f_X6_init (M : q_Mem) (a0 : Nat) (a1 : Nat) : Option q_Mem :=
  q_ob 5 M a0 ((q_na M 100 (200 : Int32)).bind fun M1 =>
  (q_pR 5 2 M1 a0 M.1).bind fun M2 =>
  (q_pR 5 0 M2 a0 a1).bind fun M4 =>
  (q_gR 4 2 M4 a1).bind fun v6 =>
  (q_pR 5 1 M4 a0 v6).bind fun M8 =>
  some M8)
set_option maxRecDepth 20000 in
theorem m_X6_init {M : q_Mem} {a0 : Nat} {a1 : Nat} {x : q_Mem} (h : f_X6_init M a0 a1 = some x) : q_C Y_X6_init [.ref a0, .ref a1] M none x := by
  refine q_met (φ := (fun x : q_Mem => (none, x))) (r := f_X6_init M a0 a1) (by decide +kernel) (Nat.le_of_ble_eq_true rfl) ?_ h (fun _ _ => rfl)
  show q_V Y_X6_init none (fun x : q_Mem => (none, x)) 0 0 0 [(0, .ref a0), (1, .ref a1)] [] M (f_X6_init M a0 a1)
  unfold f_X6_init
  refine q_obV ?_
  refine q_aload_n 0 dX6_init_0 rfl ?_
  refine q_objInit qw_162 qo_2 qo_3 dX6_init_1 (Nat.le_of_ble_eq_true rfl) (Nat.le_of_ble_eq_true rfl) (Nat.le_of_ble_eq_true rfl) ?_
  refine q_aload_n 0 dX6_init_4 rfl ?_
  refine q_sipush (x := (200 : Int32)) dX6_init_5 rfl ?_
  refine q_newarr (at_ := .int) (ty := .int) (len := 200) rfl qa_int (Or.inl ⟨rfl, rfl, rfl⟩) (by decide) rfl (by decide) (Nat.le_of_ble_eq_true rfl) (Nat.le_of_ble_eq_true rfl) dX6_init_8 ?_
  refine q_putR (f := 2) cl_X6 (by decide) qw_165 rfl (Or.inr ⟨rfl, rfl, rfl⟩) dX6_init_10 (fun _ _ _ => rfl) (fun _ => rfl) (fun _ => rfl) (fun M2 h3 => ?_)
  refine q_aload_n 0 dX6_init_13 rfl ?_
  refine q_aload_n 1 dX6_init_14 rfl ?_
  refine q_putR (f := 0) cl_X6 (by decide) qw_163 rfl (Or.inr ⟨rfl, rfl, rfl⟩) dX6_init_15 (fun _ _ _ => rfl) (fun _ => rfl) (fun _ => rfl) (fun M4 h5 => ?_)
  refine q_aload_n 0 dX6_init_18 rfl ?_
  refine q_aload_n 1 dX6_init_19 rfl ?_
  refine q_getR (f := 2) cl_X5 (by decide) qw_82 rfl dX6_init_20 (fun _ _ _ => rfl) (fun v6 h7 => ?_)
  refine q_putR (f := 1) cl_X6 (by decide) qw_164 rfl (Or.inr ⟨rfl, rfl, rfl⟩) dX6_init_23 (fun _ _ _ => rfl) (fun _ => rfl) (fun _ => rfl) (fun M8 h9 => ?_)
  exact q_vret dX6_init_26 rfl rfl (Nat.le_of_ble_eq_true rfl) rfl
theorem dX6_isKnown_0 : decode cX6_isKnown 0 = .ok (.aload_n 0, 1) := by decide +kernel
theorem dX6_isKnown_1 : decode cX6_isKnown 1 = .ok (.getfield 25, 3) := by decide +kernel
theorem dX6_isKnown_4 : decode cX6_isKnown 4 = .ok (.iload_n 1, 1) := by decide +kernel
theorem dX6_isKnown_5 : decode cX6_isKnown 5 = .ok (.iconst 4, 1) := by decide +kernel
theorem dX6_isKnown_6 : decode cX6_isKnown 6 = .ok (.invokevirtual 36, 3) := by decide +kernel
theorem dX6_isKnown_9 : decode cX6_isKnown 9 = .ok (.iload_n 2, 1) := by decide +kernel
theorem dX6_isKnown_10 : decode cX6_isKnown 10 = .ok (.if_icmp .gt 7, 3) := by decide +kernel
theorem dX6_isKnown_13 : decode cX6_isKnown 13 = .ok (.iconst 1, 1) := by decide +kernel
theorem dX6_isKnown_14 : decode cX6_isKnown 14 = .ok (.goto 4, 3) := by decide +kernel
theorem dX6_isKnown_17 : decode cX6_isKnown 17 = .ok (.iconst 0, 1) := by decide +kernel
theorem dX6_isKnown_18 : decode cX6_isKnown 18 = .ok (.ireturn, 1) := by decide +kernel
def f_X6_isKnown (M : q_Mem) (a0 : Nat) (a1 : Int32) (a2 : Int32) : Option Int32 :=
  q_ob 5 M a0 ((q_gR 5 1 M a0).bind fun v1 =>
  (f_X9_at M v1 a1 (4 : Int32)).bind fun v4 =>
  (if a2 < v4 then
    some (0 : Int32)
  else
    some (1 : Int32)))
set_option maxRecDepth 20000 in
theorem m_X6_isKnown {M : q_Mem} {a0 : Nat} {a1 : Int32} {a2 : Int32} {x : Int32} (h : f_X6_isKnown M a0 a1 a2 = some x) : q_C Y_X6_isKnown [.ref a0, .int a1, .int a2] M (some (.int x)) M := by
  refine q_met (φ := (fun x : Int32 => (some (.int x), M))) (r := f_X6_isKnown M a0 a1 a2) (by decide +kernel) (Nat.le_of_ble_eq_true rfl) ?_ h (fun _ _ => rfl)
  show q_V Y_X6_isKnown none (fun x : Int32 => (some (.int x), M)) 0 0 0 [(0, .ref a0), (1, .int a1), (2, .int a2)] [] M (f_X6_isKnown M a0 a1 a2)
  unfold f_X6_isKnown
  refine q_obV ?_
  refine q_aload_n 0 dX6_isKnown_0 rfl ?_
  refine q_getR (f := 1) cl_X6 (by decide) qw_164 rfl dX6_isKnown_1 (fun _ _ _ => rfl) (fun v1 h2 => ?_)
  refine q_iload_n 1 dX6_isKnown_4 rfl ?_
  refine q_iconst (x := (4 : Int32)) dX6_isKnown_5 rfl ?_
  refine q_cVI (Y2 := Y_X9_at) (As := [.int a1, .int (4 : Int32)]) (b := v1) (st := []) cl_X9 mv_X9_at qw_466 dX6_isKnown_6 ⟨Nat.le_of_ble_eq_true rfl, Nat.le_of_ble_eq_true rfl⟩ rfl (fun _ _ => rfl) (Nat.le_of_ble_eq_true rfl) ⟨Nat.le_of_ble_eq_true rfl, Nat.le_of_ble_eq_true rfl⟩ (fun v4 h3 => q_ob_is h3) (fun v4 h3 => m_X9_at h3) (fun v4 h3 => ?_)
  refine q_iload_n 2 dX6_isKnown_9 rfl ?_
  refine q_icmp_gt (tgt := 17) dX6_isKnown_10 (by decide) (fun c5 => ?_) (fun c5 => ?_)
  · refine q_iconst (x := (0 : Int32)) dX6_isKnown_17 rfl ?_
    exact q_zretL dX6_isKnown_18 rfl (Or.inl rfl) rfl (Nat.le_of_ble_eq_true rfl) rfl
  · refine q_iconst (x := (1 : Int32)) dX6_isKnown_13 rfl ?_
    refine q_goto (tgt := 18) dX6_isKnown_14 (by decide) ?_
    exact q_zretL dX6_isKnown_18 rfl (Or.inr rfl) rfl (Nat.le_of_ble_eq_true rfl) rfl
theorem dX6_numberKnown_0 : decode cX6_numberKnown 0 = .ok (.aload_n 0, 1) := by decide +kernel
theorem dX6_numberKnown_1 : decode cX6_numberKnown 1 = .ok (.getfield 25, 3) := by decide +kernel
theorem dX6_numberKnown_4 : decode cX6_numberKnown 4 = .ok (.iload_n 1, 1) := by decide +kernel
theorem dX6_numberKnown_5 : decode cX6_numberKnown 5 = .ok (.bipush 6, 2) := by decide +kernel
theorem dX6_numberKnown_7 : decode cX6_numberKnown 7 = .ok (.invokevirtual 36, 3) := by decide +kernel
theorem dX6_numberKnown_10 : decode cX6_numberKnown 10 = .ok (.istore_n 3, 1) := by decide +kernel
theorem dX6_numberKnown_11 : decode cX6_numberKnown 11 = .ok (.iload_n 3, 1) := by decide +kernel
theorem dX6_numberKnown_12 : decode cX6_numberKnown 12 = .ok (.iconst (-1), 1) := by decide +kernel
theorem dX6_numberKnown_13 : decode cX6_numberKnown 13 = .ok (.if_icmp .eq 20, 3) := by decide +kernel
theorem dX6_numberKnown_16 : decode cX6_numberKnown 16 = .ok (.iload_n 3, 1) := by decide +kernel
theorem dX6_numberKnown_17 : decode cX6_numberKnown 17 = .ok (.iload_n 2, 1) := by decide +kernel
theorem dX6_numberKnown_18 : decode cX6_numberKnown 18 = .ok (.if_icmp .gt 15, 3) := by decide +kernel
theorem dX6_numberKnown_21 : decode cX6_numberKnown 21 = .ok (.aload_n 0, 1) := by decide +kernel
theorem dX6_numberKnown_22 : decode cX6_numberKnown 22 = .ok (.getfield 25, 3) := by decide +kernel
theorem dX6_numberKnown_25 : decode cX6_numberKnown 25 = .ok (.iload_n 1, 1) := by decide +kernel
theorem dX6_numberKnown_26 : decode cX6_numberKnown 26 = .ok (.iconst 5, 1) := by decide +kernel
theorem dX6_numberKnown_27 : decode cX6_numberKnown 27 = .ok (.invokevirtual 36, 3) := by decide +kernel
theorem dX6_numberKnown_30 : decode cX6_numberKnown 30 = .ok (.goto 12, 3) := by decide +kernel
theorem dX6_numberKnown_33 : decode cX6_numberKnown 33 = .ok (.aload_n 0, 1) := by decide +kernel
theorem dX6_numberKnown_34 : decode cX6_numberKnown 34 = .ok (.getfield 25, 3) := by decide +kernel
theorem dX6_numberKnown_37 : decode cX6_numberKnown 37 = .ok (.iload_n 1, 1) := by decide +kernel
theorem dX6_numberKnown_38 : decode cX6_numberKnown 38 = .ok (.iconst 3, 1) := by decide +kernel
theorem dX6_numberKnown_39 : decode cX6_numberKnown 39 = .ok (.invokevirtual 36, 3) := by decide +kernel
theorem dX6_numberKnown_42 : decode cX6_numberKnown 42 = .ok (.ireturn, 1) := by decide +kernel
def f_X6_numberKnown_b33 (M : q_Mem) (a0 : Nat) (a1 : Int32) : Option Int32 :=
  (q_gR 5 1 M a0).bind fun v11 =>
  (f_X9_at M v11 a1 (3 : Int32)).bind fun v14 =>
  some v14
def f_X6_numberKnown (M : q_Mem) (a0 : Nat) (a1 : Int32) (a2 : Int32) : Option Int32 :=
  q_ob 5 M a0 ((q_gR 5 1 M a0).bind fun v1 =>
  (f_X9_at M v1 a1 (6 : Int32)).bind fun v4 =>
  (if v4 = (-1 : Int32) then
    f_X6_numberKnown_b33 M a0 a1
  else
    (if a2 < v4 then
      f_X6_numberKnown_b33 M a0 a1
    else
      (q_gR 5 1 M a0).bind fun v5 =>
      (f_X9_at M v5 a1 (5 : Int32)).bind fun v8 =>
      some v8)))
set_option maxRecDepth 20000 in
theorem v_X6_numberKnown_b33 {M : q_Mem} {a0 : Nat} {a1 : Int32}  : q_V Y_X6_numberKnown none (fun x : Int32 => (some (.int x), M)) 0 0 33 [(0, .ref a0), (1, .int a1)] [] M (f_X6_numberKnown_b33 M a0 a1 ) := by
  unfold f_X6_numberKnown_b33
  refine q_aload_n 0 dX6_numberKnown_33 rfl ?_
  refine q_getR (f := 1) cl_X6 (by decide) qw_164 rfl dX6_numberKnown_34 (fun _ _ _ => rfl) (fun v11 h12 => ?_)
  refine q_iload_n 1 dX6_numberKnown_37 rfl ?_
  refine q_iconst (x := (3 : Int32)) dX6_numberKnown_38 rfl ?_
  refine q_cVI (Y2 := Y_X9_at) (As := [.int a1, .int (3 : Int32)]) (b := v11) (st := []) cl_X9 mv_X9_at qw_466 dX6_numberKnown_39 ⟨Nat.le_of_ble_eq_true rfl, Nat.le_of_ble_eq_true rfl⟩ rfl (fun _ _ => rfl) (Nat.le_of_ble_eq_true rfl) ⟨Nat.le_of_ble_eq_true rfl, Nat.le_of_ble_eq_true rfl⟩ (fun v14 h13 => q_ob_is h13) (fun v14 h13 => m_X9_at h13) (fun v14 h13 => ?_)
  exact q_iret dX6_numberKnown_42 rfl rfl (Nat.le_of_ble_eq_true rfl) rfl
set_option maxRecDepth 20000 in
theorem m_X6_numberKnown {M : q_Mem} {a0 : Nat} {a1 : Int32} {a2 : Int32} {x : Int32} (h : f_X6_numberKnown M a0 a1 a2 = some x) : q_C Y_X6_numberKnown [.ref a0, .int a1, .int a2] M (some (.int x)) M := by
  refine q_met (φ := (fun x : Int32 => (some (.int x), M))) (r := f_X6_numberKnown M a0 a1 a2) (by decide +kernel) (Nat.le_of_ble_eq_true rfl) ?_ h (fun _ _ => rfl)
  show q_V Y_X6_numberKnown none (fun x : Int32 => (some (.int x), M)) 0 0 0 [(0, .ref a0), (1, .int a1), (2, .int a2)] [] M (f_X6_numberKnown M a0 a1 a2)
  unfold f_X6_numberKnown
  refine q_obV ?_
  refine q_aload_n 0 dX6_numberKnown_0 rfl ?_
  refine q_getR (f := 1) cl_X6 (by decide) qw_164 rfl dX6_numberKnown_1 (fun _ _ _ => rfl) (fun v1 h2 => ?_)
  refine q_iload_n 1 dX6_numberKnown_4 rfl ?_
  refine q_bipush (x := (6 : Int32)) dX6_numberKnown_5 rfl ?_
  refine q_cVI (Y2 := Y_X9_at) (As := [.int a1, .int (6 : Int32)]) (b := v1) (st := []) cl_X9 mv_X9_at qw_466 dX6_numberKnown_7 ⟨Nat.le_of_ble_eq_true rfl, Nat.le_of_ble_eq_true rfl⟩ rfl (fun _ _ => rfl) (Nat.le_of_ble_eq_true rfl) ⟨Nat.le_of_ble_eq_true rfl, Nat.le_of_ble_eq_true rfl⟩ (fun v4 h3 => q_ob_is h3) (fun v4 h3 => m_X9_at h3) (fun v4 h3 => ?_)
  refine q_istore_n (ls' := [(3, .int v4), (0, .ref a0), (1, .int a1), (2, .int a2)]) dX6_numberKnown_10 (by decide) rfl ?_
  refine q_iload_n 0 dX6_numberKnown_11 rfl ?_
  refine q_iconst (x := (-1 : Int32)) dX6_numberKnown_12 rfl ?_
  refine q_icmp_eq (tgt := 33) dX6_numberKnown_13 (by decide) (fun c10 => ?_) (fun c10 => ?_)
  · refine q_sub (ls' := [(0, .ref a0), (1, .int a1)]) [1, 2] rfl ?_
    exact v_X6_numberKnown_b33
  · refine q_iload_n 0 dX6_numberKnown_16 rfl ?_
    refine q_iload_n 3 dX6_numberKnown_17 rfl ?_
    refine q_icmp_gt (tgt := 33) dX6_numberKnown_18 (by decide) (fun c9 => ?_) (fun c9 => ?_)
    · refine q_sub (ls' := [(0, .ref a0), (1, .int a1)]) [1, 2] rfl ?_
      exact v_X6_numberKnown_b33
    · refine q_aload_n 1 dX6_numberKnown_21 rfl ?_
      refine q_getR (f := 1) cl_X6 (by decide) qw_164 rfl dX6_numberKnown_22 (fun _ _ _ => rfl) (fun v5 h6 => ?_)
      refine q_iload_n 2 dX6_numberKnown_25 rfl ?_
      refine q_iconst (x := (5 : Int32)) dX6_numberKnown_26 rfl ?_
      refine q_cVI (Y2 := Y_X9_at) (As := [.int a1, .int (5 : Int32)]) (b := v5) (st := []) cl_X9 mv_X9_at qw_466 dX6_numberKnown_27 ⟨Nat.le_of_ble_eq_true rfl, Nat.le_of_ble_eq_true rfl⟩ rfl (fun _ _ => rfl) (Nat.le_of_ble_eq_true rfl) ⟨Nat.le_of_ble_eq_true rfl, Nat.le_of_ble_eq_true rfl⟩ (fun v8 h7 => q_ob_is h7) (fun v8 h7 => m_X9_at h7) (fun v8 h7 => ?_)
      refine q_goto (tgt := 42) dX6_numberKnown_30 (by decide) ?_
      exact q_iret dX6_numberKnown_42 rfl rfl (Nat.le_of_ble_eq_true rfl) rfl
theorem dX6_isAhead_0 : decode cX6_isAhead 0 = .ok (.aload_n 0, 1) := by decide +kernel
theorem dX6_isAhead_1 : decode cX6_isAhead 1 = .ok (.getfield 25, 3) := by decide +kernel
theorem dX6_isAhead_4 : decode cX6_isAhead 4 = .ok (.iload_n 1, 1) := by decide +kernel
theorem dX6_isAhead_5 : decode cX6_isAhead 5 = .ok (.iconst 1, 1) := by decide +kernel
theorem dX6_isAhead_6 : decode cX6_isAhead 6 = .ok (.invokevirtual 36, 3) := by decide +kernel
theorem dX6_isAhead_9 : decode cX6_isAhead 9 = .ok (.istore_n 3, 1) := by decide +kernel
theorem dX6_isAhead_10 : decode cX6_isAhead 10 = .ok (.aload_n 0, 1) := by decide +kernel
theorem dX6_isAhead_11 : decode cX6_isAhead 11 = .ok (.getfield 25, 3) := by decide +kernel
theorem dX6_isAhead_14 : decode cX6_isAhead 14 = .ok (.iload_n 2, 1) := by decide +kernel
theorem dX6_isAhead_15 : decode cX6_isAhead 15 = .ok (.iconst 1, 1) := by decide +kernel
theorem dX6_isAhead_16 : decode cX6_isAhead 16 = .ok (.invokevirtual 36, 3) := by decide +kernel
theorem dX6_isAhead_19 : decode cX6_isAhead 19 = .ok (.istore 4, 2) := by decide +kernel
theorem dX6_isAhead_21 : decode cX6_isAhead 21 = .ok (.iload_n 3, 1) := by decide +kernel
theorem dX6_isAhead_22 : decode cX6_isAhead 22 = .ok (.iload 4, 2) := by decide +kernel
theorem dX6_isAhead_24 : decode cX6_isAhead 24 = .ok (.if_icmp .lt 14, 3) := by decide +kernel
theorem dX6_isAhead_27 : decode cX6_isAhead 27 = .ok (.iload_n 3, 1) := by decide +kernel
theorem dX6_isAhead_28 : decode cX6_isAhead 28 = .ok (.iload 4, 2) := by decide +kernel
theorem dX6_isAhead_30 : decode cX6_isAhead 30 = .ok (.if_icmp .ne 12, 3) := by decide +kernel
theorem dX6_isAhead_33 : decode cX6_isAhead 33 = .ok (.iload_n 1, 1) := by decide +kernel
theorem dX6_isAhead_34 : decode cX6_isAhead 34 = .ok (.iload_n 2, 1) := by decide +kernel
theorem dX6_isAhead_35 : decode cX6_isAhead 35 = .ok (.if_icmp .ge 7, 3) := by decide +kernel
theorem dX6_isAhead_38 : decode cX6_isAhead 38 = .ok (.iconst 1, 1) := by decide +kernel
theorem dX6_isAhead_39 : decode cX6_isAhead 39 = .ok (.goto 4, 3) := by decide +kernel
theorem dX6_isAhead_42 : decode cX6_isAhead 42 = .ok (.iconst 0, 1) := by decide +kernel
theorem dX6_isAhead_43 : decode cX6_isAhead 43 = .ok (.ireturn, 1) := by decide +kernel
def f_X6_isAhead (M : q_Mem) (a0 : Nat) (a1 : Int32) (a2 : Int32) : Option Int32 :=
  q_ob 5 M a0 ((q_gR 5 1 M a0).bind fun v1 =>
  (f_X9_at M v1 a1 (1 : Int32)).bind fun v4 =>
  (q_gR 5 1 M a0).bind fun v5 =>
  (f_X9_at M v5 a2 (1 : Int32)).bind fun v8 =>
  (if v4 < v8 then
    some (1 : Int32)
  else
    (if v4 = v8 then
      (if a1 < a2 then
        some (1 : Int32)
      else
        some (0 : Int32))
    else
      some (0 : Int32))))
set_option maxRecDepth 20000 in
theorem m_X6_isAhead {M : q_Mem} {a0 : Nat} {a1 : Int32} {a2 : Int32} {x : Int32} (h : f_X6_isAhead M a0 a1 a2 = some x) : q_C Y_X6_isAhead [.ref a0, .int a1, .int a2] M (some (.int x)) M := by
  refine q_met (φ := (fun x : Int32 => (some (.int x), M))) (r := f_X6_isAhead M a0 a1 a2) (by decide +kernel) (Nat.le_of_ble_eq_true rfl) ?_ h (fun _ _ => rfl)
  show q_V Y_X6_isAhead none (fun x : Int32 => (some (.int x), M)) 0 0 0 [(0, .ref a0), (1, .int a1), (2, .int a2)] [] M (f_X6_isAhead M a0 a1 a2)
  unfold f_X6_isAhead
  refine q_obV ?_
  refine q_aload_n 0 dX6_isAhead_0 rfl ?_
  refine q_getR (f := 1) cl_X6 (by decide) qw_164 rfl dX6_isAhead_1 (fun _ _ _ => rfl) (fun v1 h2 => ?_)
  refine q_iload_n 1 dX6_isAhead_4 rfl ?_
  refine q_iconst (x := (1 : Int32)) dX6_isAhead_5 rfl ?_
  refine q_cVI (Y2 := Y_X9_at) (As := [.int a1, .int (1 : Int32)]) (b := v1) (st := []) cl_X9 mv_X9_at qw_466 dX6_isAhead_6 ⟨Nat.le_of_ble_eq_true rfl, Nat.le_of_ble_eq_true rfl⟩ rfl (fun _ _ => rfl) (Nat.le_of_ble_eq_true rfl) ⟨Nat.le_of_ble_eq_true rfl, Nat.le_of_ble_eq_true rfl⟩ (fun v4 h3 => q_ob_is h3) (fun v4 h3 => m_X9_at h3) (fun v4 h3 => ?_)
  refine q_istore_n (ls' := [(3, .int v4), (0, .ref a0), (1, .int a1), (2, .int a2)]) dX6_isAhead_9 (by decide) rfl ?_
  refine q_aload_n 1 dX6_isAhead_10 rfl ?_
  refine q_getR (f := 1) cl_X6 (by decide) qw_164 rfl dX6_isAhead_11 (fun _ _ _ => rfl) (fun v5 h6 => ?_)
  refine q_iload_n 3 dX6_isAhead_14 rfl ?_
  refine q_iconst (x := (1 : Int32)) dX6_isAhead_15 rfl ?_
  refine q_cVI (Y2 := Y_X9_at) (As := [.int a2, .int (1 : Int32)]) (b := v5) (st := []) cl_X9 mv_X9_at qw_466 dX6_isAhead_16 ⟨Nat.le_of_ble_eq_true rfl, Nat.le_of_ble_eq_true rfl⟩ rfl (fun _ _ => rfl) (Nat.le_of_ble_eq_true rfl) ⟨Nat.le_of_ble_eq_true rfl, Nat.le_of_ble_eq_true rfl⟩ (fun v8 h7 => q_ob_is h7) (fun v8 h7 => m_X9_at h7) (fun v8 h7 => ?_)
  refine q_istore (ls' := [(4, .int v8), (3, .int v4), (0, .ref a0), (1, .int a1), (2, .int a2)]) dX6_isAhead_19 (by decide) rfl ?_
  refine q_iload_n 1 dX6_isAhead_21 rfl ?_
  refine q_iload 0 dX6_isAhead_22 rfl ?_
  refine q_icmp_lt (tgt := 38) dX6_isAhead_24 (by decide) (fun c11 => ?_) (fun c11 => ?_)
  · refine q_iconst (x := (1 : Int32)) dX6_isAhead_38 rfl ?_
    refine q_goto (tgt := 43) dX6_isAhead_39 (by decide) ?_
    exact q_zretL dX6_isAhead_43 rfl (Or.inr rfl) rfl (Nat.le_of_ble_eq_true rfl) rfl
  · refine q_iload_n 1 dX6_isAhead_27 rfl ?_
    refine q_iload 0 dX6_isAhead_28 rfl ?_
    refine q_icmp_ne (tgt := 42) dX6_isAhead_30 (by decide) (fun c10 => ?_) (fun c10 => ?_)
    · refine q_iload_n 3 dX6_isAhead_33 rfl ?_
      refine q_iload_n 4 dX6_isAhead_34 rfl ?_
      refine q_icmp_ge (tgt := 42) dX6_isAhead_35 (by decide) (fun c9 => ?_) (fun c9 => ?_)
      · refine q_iconst (x := (1 : Int32)) dX6_isAhead_38 rfl ?_
        refine q_goto (tgt := 43) dX6_isAhead_39 (by decide) ?_
        exact q_zretL dX6_isAhead_43 rfl (Or.inr rfl) rfl (Nat.le_of_ble_eq_true rfl) rfl
      · refine q_iconst (x := (0 : Int32)) dX6_isAhead_42 rfl ?_
        exact q_zretL dX6_isAhead_43 rfl (Or.inl rfl) rfl (Nat.le_of_ble_eq_true rfl) rfl
    · refine q_iconst (x := (0 : Int32)) dX6_isAhead_42 rfl ?_
      exact q_zretL dX6_isAhead_43 rfl (Or.inl rfl) rfl (Nat.le_of_ble_eq_true rfl) rfl
theorem dX6_latestAheadOf_0 : decode cX6_latestAheadOf 0 = .ok (.aload_n 0, 1) := by decide +kernel
theorem dX6_latestAheadOf_1 : decode cX6_latestAheadOf 1 = .ok (.getfield 25, 3) := by decide +kernel
theorem dX6_latestAheadOf_4 : decode cX6_latestAheadOf 4 = .ok (.iload_n 1, 1) := by decide +kernel
theorem dX6_latestAheadOf_5 : decode cX6_latestAheadOf 5 = .ok (.iconst 0, 1) := by decide +kernel
theorem dX6_latestAheadOf_6 : decode cX6_latestAheadOf 6 = .ok (.invokevirtual 36, 3) := by decide +kernel
theorem dX6_latestAheadOf_9 : decode cX6_latestAheadOf 9 = .ok (.istore_n 3, 1) := by decide +kernel
theorem dX6_latestAheadOf_10 : decode cX6_latestAheadOf 10 = .ok (.iconst (-1), 1) := by decide +kernel
theorem dX6_latestAheadOf_11 : decode cX6_latestAheadOf 11 = .ok (.istore 4, 2) := by decide +kernel
theorem dX6_latestAheadOf_13 : decode cX6_latestAheadOf 13 = .ok (.iconst 0, 1) := by decide +kernel
theorem dX6_latestAheadOf_14 : decode cX6_latestAheadOf 14 = .ok (.istore 5, 2) := by decide +kernel
theorem dX6_latestAheadOf_16 : decode cX6_latestAheadOf 16 = .ok (.iload 5, 2) := by decide +kernel
theorem dX6_latestAheadOf_18 : decode cX6_latestAheadOf 18 = .ok (.aload_n 0, 1) := by decide +kernel
theorem dX6_latestAheadOf_19 : decode cX6_latestAheadOf 19 = .ok (.getfield 25, 3) := by decide +kernel
theorem dX6_latestAheadOf_22 : decode cX6_latestAheadOf 22 = .ok (.getfield 26, 3) := by decide +kernel
theorem dX6_latestAheadOf_25 : decode cX6_latestAheadOf 25 = .ok (.if_icmp .ge 82, 3) := by decide +kernel
theorem dX6_latestAheadOf_28 : decode cX6_latestAheadOf 28 = .ok (.aload_n 0, 1) := by decide +kernel
theorem dX6_latestAheadOf_29 : decode cX6_latestAheadOf 29 = .ok (.getfield 25, 3) := by decide +kernel
theorem dX6_latestAheadOf_32 : decode cX6_latestAheadOf 32 = .ok (.iload 5, 2) := by decide +kernel
theorem dX6_latestAheadOf_34 : decode cX6_latestAheadOf 34 = .ok (.iconst 0, 1) := by decide +kernel
theorem dX6_latestAheadOf_35 : decode cX6_latestAheadOf 35 = .ok (.invokevirtual 36, 3) := by decide +kernel
theorem dX6_latestAheadOf_38 : decode cX6_latestAheadOf 38 = .ok (.iload_n 3, 1) := by decide +kernel
theorem dX6_latestAheadOf_39 : decode cX6_latestAheadOf 39 = .ok (.if_icmp .ne 62, 3) := by decide +kernel
theorem dX6_latestAheadOf_42 : decode cX6_latestAheadOf 42 = .ok (.aload_n 0, 1) := by decide +kernel
theorem dX6_latestAheadOf_43 : decode cX6_latestAheadOf 43 = .ok (.iload 5, 2) := by decide +kernel
theorem dX6_latestAheadOf_45 : decode cX6_latestAheadOf 45 = .ok (.iload_n 1, 1) := by decide +kernel
theorem dX6_latestAheadOf_46 : decode cX6_latestAheadOf 46 = .ok (.invokevirtual 61, 3) := by decide +kernel
theorem dX6_latestAheadOf_49 : decode cX6_latestAheadOf 49 = .ok (.ifCond .ne 6, 3) := by decide +kernel
theorem dX6_latestAheadOf_52 : decode cX6_latestAheadOf 52 = .ok (.goto 49, 3) := by decide +kernel
theorem dX6_latestAheadOf_55 : decode cX6_latestAheadOf 55 = .ok (.aload_n 0, 1) := by decide +kernel
theorem dX6_latestAheadOf_56 : decode cX6_latestAheadOf 56 = .ok (.iload 5, 2) := by decide +kernel
theorem dX6_latestAheadOf_58 : decode cX6_latestAheadOf 58 = .ok (.iload_n 2, 1) := by decide +kernel
theorem dX6_latestAheadOf_59 : decode cX6_latestAheadOf 59 = .ok (.invokevirtual 39, 3) := by decide +kernel
theorem dX6_latestAheadOf_62 : decode cX6_latestAheadOf 62 = .ok (.ifCond .eq 39, 3) := by decide +kernel
theorem dX6_latestAheadOf_65 : decode cX6_latestAheadOf 65 = .ok (.aload_n 0, 1) := by decide +kernel
theorem dX6_latestAheadOf_66 : decode cX6_latestAheadOf 66 = .ok (.iload 5, 2) := by decide +kernel
theorem dX6_latestAheadOf_68 : decode cX6_latestAheadOf 68 = .ok (.iload_n 2, 1) := by decide +kernel
theorem dX6_latestAheadOf_69 : decode cX6_latestAheadOf 69 = .ok (.invokevirtual 43, 3) := by decide +kernel
theorem dX6_latestAheadOf_72 : decode cX6_latestAheadOf 72 = .ok (.bipush (-7), 2) := by decide +kernel
theorem dX6_latestAheadOf_74 : decode cX6_latestAheadOf 74 = .ok (.if_icmp .ne 6, 3) := by decide +kernel
theorem dX6_latestAheadOf_77 : decode cX6_latestAheadOf 77 = .ok (.goto 24, 3) := by decide +kernel
theorem dX6_latestAheadOf_80 : decode cX6_latestAheadOf 80 = .ok (.iload 4, 2) := by decide +kernel
theorem dX6_latestAheadOf_82 : decode cX6_latestAheadOf 82 = .ok (.iconst (-1), 1) := by decide +kernel
theorem dX6_latestAheadOf_83 : decode cX6_latestAheadOf 83 = .ok (.if_icmp .eq 14, 3) := by decide +kernel
theorem dX6_latestAheadOf_86 : decode cX6_latestAheadOf 86 = .ok (.aload_n 0, 1) := by decide +kernel
theorem dX6_latestAheadOf_87 : decode cX6_latestAheadOf 87 = .ok (.iload 4, 2) := by decide +kernel
theorem dX6_latestAheadOf_89 : decode cX6_latestAheadOf 89 = .ok (.iload 5, 2) := by decide +kernel
theorem dX6_latestAheadOf_91 : decode cX6_latestAheadOf 91 = .ok (.invokevirtual 61, 3) := by decide +kernel
theorem dX6_latestAheadOf_94 : decode cX6_latestAheadOf 94 = .ok (.ifCond .eq 7, 3) := by decide +kernel
theorem dX6_latestAheadOf_97 : decode cX6_latestAheadOf 97 = .ok (.iload 5, 2) := by decide +kernel
theorem dX6_latestAheadOf_99 : decode cX6_latestAheadOf 99 = .ok (.istore 4, 2) := by decide +kernel
theorem dX6_latestAheadOf_101 : decode cX6_latestAheadOf 101 = .ok (.iinc 5 1, 3) := by decide +kernel
theorem dX6_latestAheadOf_104 : decode cX6_latestAheadOf 104 = .ok (.goto (-88), 3) := by decide +kernel
theorem dX6_latestAheadOf_107 : decode cX6_latestAheadOf 107 = .ok (.iload 4, 2) := by decide +kernel
theorem dX6_latestAheadOf_109 : decode cX6_latestAheadOf 109 = .ok (.ireturn, 1) := by decide +kernel
def f_X6_latestAheadOf_b16 (M : q_Mem) (a0 : Nat) (a1 : Int32) (a2 : Int32) (a3 : Int32) : Nat → Int32 → Int32 → Option Int32
  | 0, _, _ => none
  | n + 1, a4, a5 =>
    (q_gR 5 1 M a0).bind fun v5 =>
    (q_gI 8 3 M v5).bind fun v7 =>
    (if a5 < v7 then
      (q_gR 5 1 M a0).bind fun v9 =>
      (f_X9_at M v9 a5 (0 : Int32)).bind fun v12 =>
      (if v12 = a3 then
        (f_X6_isAhead M a0 a5 a1).bind fun v14 =>
        (if v14 = 0 then
          f_X6_latestAheadOf_b16 M a0 a1 a2 a3 n a4 (a5 + (1 : Int32))
        else
          (f_X6_isKnown M a0 a5 a2).bind fun v16 =>
          (if v16 = 0 then
            f_X6_latestAheadOf_b16 M a0 a1 a2 a3 n a4 (a5 + (1 : Int32))
          else
            (f_X6_numberKnown M a0 a5 a2).bind fun v18 =>
            (if v18 = (-7 : Int32) then
              f_X6_latestAheadOf_b16 M a0 a1 a2 a3 n a4 (a5 + (1 : Int32))
            else
              (if a4 = (-1 : Int32) then
                f_X6_latestAheadOf_b16 M a0 a1 a2 a3 n a5 (a5 + (1 : Int32))
              else
                (f_X6_isAhead M a0 a4 a5).bind fun v20 =>
                (if v20 = 0 then
                  f_X6_latestAheadOf_b16 M a0 a1 a2 a3 n a4 (a5 + (1 : Int32))
                else
                  f_X6_latestAheadOf_b16 M a0 a1 a2 a3 n a5 (a5 + (1 : Int32)))))))
      else
        f_X6_latestAheadOf_b16 M a0 a1 a2 a3 n a4 (a5 + (1 : Int32)))
    else
      some a4)
def f_X6_latestAheadOf (M : q_Mem) (a0 : Nat) (a1 : Int32) (a2 : Int32) : Option Int32 :=
  q_ob 5 M a0 ((q_gR 5 1 M a0).bind fun v1 =>
  (f_X9_at M v1 a1 (0 : Int32)).bind fun v4 =>
  f_X6_latestAheadOf_b16 M a0 a1 a2 v4 q_fuel (-1 : Int32) (0 : Int32))
set_option maxRecDepth 20000 in
theorem v_X6_latestAheadOf_b16 {M : q_Mem} {a0 : Nat} {a1 : Int32} {a2 : Int32} {a3 : Int32}  : ∀ (n : Nat) (a4 : Int32) (a5 : Int32), q_V Y_X6_latestAheadOf none (fun x : Int32 => (some (.int x), M)) 0 0 16 [(0, .ref a0), (1, .int a1), (2, .int a2), (3, .int a3), (4, .int a4), (5, .int a5)] [] M (f_X6_latestAheadOf_b16 M a0 a1 a2 a3 n a4 a5) := by
  intro n
  induction n with
  | zero => intro a4 a5; exact q_none
  | succ n ih =>
    intro a4 a5
    rw [f_X6_latestAheadOf_b16.eq_2]
    refine q_iload 5 dX6_latestAheadOf_16 rfl ?_
    refine q_aload_n 0 dX6_latestAheadOf_18 rfl ?_
    refine q_getR (f := 1) cl_X6 (by decide) qw_164 rfl dX6_latestAheadOf_19 (fun _ _ _ => rfl) (fun v5 h6 => ?_)
    refine q_getI (f := 3) cl_X9 (by decide) qw_45 rfl dX6_latestAheadOf_22 (Or.inl rfl) (fun v7 h8 => ?_)
    refine q_icmp_ge (tgt := 107) dX6_latestAheadOf_25 (by decide) (fun c27 => ?_) (fun c27 => ?_)
    · refine q_aload_n 0 dX6_latestAheadOf_28 rfl ?_
      refine q_getR (f := 1) cl_X6 (by decide) qw_164 rfl dX6_latestAheadOf_29 (fun _ _ _ => rfl) (fun v9 h10 => ?_)
      refine q_iload 5 dX6_latestAheadOf_32 rfl ?_
      refine q_iconst (x := (0 : Int32)) dX6_latestAheadOf_34 rfl ?_
      refine q_cVI (Y2 := Y_X9_at) (As := [.int a5, .int (0 : Int32)]) (b := v9) (st := []) cl_X9 mv_X9_at qw_466 dX6_latestAheadOf_35 ⟨Nat.le_of_ble_eq_true rfl, Nat.le_of_ble_eq_true rfl⟩ rfl (fun _ _ => rfl) (Nat.le_of_ble_eq_true rfl) ⟨Nat.le_of_ble_eq_true rfl, Nat.le_of_ble_eq_true rfl⟩ (fun v12 h11 => q_ob_is h11) (fun v12 h11 => m_X9_at h11) (fun v12 h11 => ?_)
      refine q_iload_n 3 dX6_latestAheadOf_38 rfl ?_
      refine q_icmp_ne (tgt := 101) dX6_latestAheadOf_39 (by decide) (fun c26 => ?_) (fun c26 => ?_)
      · refine q_aload_n 0 dX6_latestAheadOf_42 rfl ?_
        refine q_iload 5 dX6_latestAheadOf_43 rfl ?_
        refine q_iload_n 1 dX6_latestAheadOf_45 rfl ?_
        refine q_cVI (Y2 := Y_X6_isAhead) (As := [.int a5, .int a1]) (b := a0) (st := []) cl_X6 mv_X6_isAhead qw_475 dX6_latestAheadOf_46 ⟨Nat.le_of_ble_eq_true rfl, Nat.le_of_ble_eq_true rfl⟩ rfl (fun _ _ => rfl) (Nat.le_of_ble_eq_true rfl) ⟨Nat.le_of_ble_eq_true rfl, Nat.le_of_ble_eq_true rfl⟩ (fun v14 h13 => q_ob_is h13) (fun v14 h13 => m_X6_isAhead h13) (fun v14 h13 => ?_)
        refine q_if_ne (tgt := 55) dX6_latestAheadOf_49 (by decide) (fun c25 => ?_) (fun c25 => ?_)
        · refine q_goto (tgt := 101) dX6_latestAheadOf_52 (by decide) ?_
          refine q_iinc 5 (y := (a5 + (1 : Int32))) (ls' := [(5, .int (a5 + (1 : Int32))), (0, .ref a0), (1, .int a1), (2, .int a2), (3, .int a3), (4, .int a4)]) dX6_latestAheadOf_101 rfl rfl (by decide) rfl ?_
          refine q_goto (tgt := 16) dX6_latestAheadOf_104 (by decide) ?_
          refine q_sub (ls' := [(0, .ref a0), (1, .int a1), (2, .int a2), (3, .int a3), (4, .int a4), (5, .int (a5 + (1 : Int32)))]) [1, 2, 3, 4, 5, 0] rfl ?_
          exact ih _ _
        · refine q_aload_n 0 dX6_latestAheadOf_55 rfl ?_
          refine q_iload 5 dX6_latestAheadOf_56 rfl ?_
          refine q_iload_n 2 dX6_latestAheadOf_58 rfl ?_
          refine q_cVI (Y2 := Y_X6_isKnown) (As := [.int a5, .int a2]) (b := a0) (st := []) cl_X6 mv_X6_isKnown qw_462 dX6_latestAheadOf_59 ⟨Nat.le_of_ble_eq_true rfl, Nat.le_of_ble_eq_true rfl⟩ rfl (fun _ _ => rfl) (Nat.le_of_ble_eq_true rfl) ⟨Nat.le_of_ble_eq_true rfl, Nat.le_of_ble_eq_true rfl⟩ (fun v16 h15 => q_ob_is h15) (fun v16 h15 => m_X6_isKnown h15) (fun v16 h15 => ?_)
          refine q_if_eq (tgt := 101) dX6_latestAheadOf_62 (by decide) (fun c24 => ?_) (fun c24 => ?_)
          · refine q_iinc 5 (y := (a5 + (1 : Int32))) (ls' := [(5, .int (a5 + (1 : Int32))), (0, .ref a0), (1, .int a1), (2, .int a2), (3, .int a3), (4, .int a4)]) dX6_latestAheadOf_101 rfl rfl (by decide) rfl ?_
            refine q_goto (tgt := 16) dX6_latestAheadOf_104 (by decide) ?_
            refine q_sub (ls' := [(0, .ref a0), (1, .int a1), (2, .int a2), (3, .int a3), (4, .int a4), (5, .int (a5 + (1 : Int32)))]) [1, 2, 3, 4, 5, 0] rfl ?_
            exact ih _ _
          · refine q_aload_n 0 dX6_latestAheadOf_65 rfl ?_
            refine q_iload 5 dX6_latestAheadOf_66 rfl ?_
            refine q_iload_n 2 dX6_latestAheadOf_68 rfl ?_
            refine q_cVI (Y2 := Y_X6_numberKnown) (As := [.int a5, .int a2]) (b := a0) (st := []) cl_X6 mv_X6_numberKnown qw_467 dX6_latestAheadOf_69 ⟨Nat.le_of_ble_eq_true rfl, Nat.le_of_ble_eq_true rfl⟩ rfl (fun _ _ => rfl) (Nat.le_of_ble_eq_true rfl) ⟨Nat.le_of_ble_eq_true rfl, Nat.le_of_ble_eq_true rfl⟩ (fun v18 h17 => q_ob_is h17) (fun v18 h17 => m_X6_numberKnown h17) (fun v18 h17 => ?_)
            refine q_bipush (x := (-7 : Int32)) dX6_latestAheadOf_72 rfl ?_
            refine q_icmp_ne (tgt := 80) dX6_latestAheadOf_74 (by decide) (fun c23 => ?_) (fun c23 => ?_)
            · refine q_goto (tgt := 101) dX6_latestAheadOf_77 (by decide) ?_
              refine q_iinc 5 (y := (a5 + (1 : Int32))) (ls' := [(5, .int (a5 + (1 : Int32))), (0, .ref a0), (1, .int a1), (2, .int a2), (3, .int a3), (4, .int a4)]) dX6_latestAheadOf_101 rfl rfl (by decide) rfl ?_
              refine q_goto (tgt := 16) dX6_latestAheadOf_104 (by decide) ?_
              refine q_sub (ls' := [(0, .ref a0), (1, .int a1), (2, .int a2), (3, .int a3), (4, .int a4), (5, .int (a5 + (1 : Int32)))]) [1, 2, 3, 4, 5, 0] rfl ?_
              exact ih _ _
            · refine q_iload 4 dX6_latestAheadOf_80 rfl ?_
              refine q_iconst (x := (-1 : Int32)) dX6_latestAheadOf_82 rfl ?_
              refine q_icmp_eq (tgt := 97) dX6_latestAheadOf_83 (by decide) (fun c22 => ?_) (fun c22 => ?_)
              · refine q_iload 5 dX6_latestAheadOf_97 rfl ?_
                refine q_istore (ls' := [(4, .int a5), (0, .ref a0), (1, .int a1), (2, .int a2), (3, .int a3), (5, .int a5)]) dX6_latestAheadOf_99 (by decide) rfl ?_
                refine q_iinc 5 (y := (a5 + (1 : Int32))) (ls' := [(5, .int (a5 + (1 : Int32))), (4, .int a5), (0, .ref a0), (1, .int a1), (2, .int a2), (3, .int a3)]) dX6_latestAheadOf_101 rfl rfl (by decide) rfl ?_
                refine q_goto (tgt := 16) dX6_latestAheadOf_104 (by decide) ?_
                refine q_sub (ls' := [(0, .ref a0), (1, .int a1), (2, .int a2), (3, .int a3), (4, .int a5), (5, .int (a5 + (1 : Int32)))]) [2, 3, 4, 5, 1, 0] rfl ?_
                exact ih _ _
              · refine q_aload_n 0 dX6_latestAheadOf_86 rfl ?_
                refine q_iload 4 dX6_latestAheadOf_87 rfl ?_
                refine q_iload 5 dX6_latestAheadOf_89 rfl ?_
                refine q_cVI (Y2 := Y_X6_isAhead) (As := [.int a4, .int a5]) (b := a0) (st := []) cl_X6 mv_X6_isAhead qw_475 dX6_latestAheadOf_91 ⟨Nat.le_of_ble_eq_true rfl, Nat.le_of_ble_eq_true rfl⟩ rfl (fun _ _ => rfl) (Nat.le_of_ble_eq_true rfl) ⟨Nat.le_of_ble_eq_true rfl, Nat.le_of_ble_eq_true rfl⟩ (fun v20 h19 => q_ob_is h19) (fun v20 h19 => m_X6_isAhead h19) (fun v20 h19 => ?_)
                refine q_if_eq (tgt := 101) dX6_latestAheadOf_94 (by decide) (fun c21 => ?_) (fun c21 => ?_)
                · refine q_iinc 5 (y := (a5 + (1 : Int32))) (ls' := [(5, .int (a5 + (1 : Int32))), (0, .ref a0), (1, .int a1), (2, .int a2), (3, .int a3), (4, .int a4)]) dX6_latestAheadOf_101 rfl rfl (by decide) rfl ?_
                  refine q_goto (tgt := 16) dX6_latestAheadOf_104 (by decide) ?_
                  refine q_sub (ls' := [(0, .ref a0), (1, .int a1), (2, .int a2), (3, .int a3), (4, .int a4), (5, .int (a5 + (1 : Int32)))]) [1, 2, 3, 4, 5, 0] rfl ?_
                  exact ih _ _
                · refine q_iload 5 dX6_latestAheadOf_97 rfl ?_
                  refine q_istore (ls' := [(4, .int a5), (0, .ref a0), (1, .int a1), (2, .int a2), (3, .int a3), (5, .int a5)]) dX6_latestAheadOf_99 (by decide) rfl ?_
                  refine q_iinc 5 (y := (a5 + (1 : Int32))) (ls' := [(5, .int (a5 + (1 : Int32))), (4, .int a5), (0, .ref a0), (1, .int a1), (2, .int a2), (3, .int a3)]) dX6_latestAheadOf_101 rfl rfl (by decide) rfl ?_
                  refine q_goto (tgt := 16) dX6_latestAheadOf_104 (by decide) ?_
                  refine q_sub (ls' := [(0, .ref a0), (1, .int a1), (2, .int a2), (3, .int a3), (4, .int a5), (5, .int (a5 + (1 : Int32)))]) [2, 3, 4, 5, 1, 0] rfl ?_
                  exact ih _ _
      · refine q_iinc 5 (y := (a5 + (1 : Int32))) (ls' := [(5, .int (a5 + (1 : Int32))), (0, .ref a0), (1, .int a1), (2, .int a2), (3, .int a3), (4, .int a4)]) dX6_latestAheadOf_101 rfl rfl (by decide) rfl ?_
        refine q_goto (tgt := 16) dX6_latestAheadOf_104 (by decide) ?_
        refine q_sub (ls' := [(0, .ref a0), (1, .int a1), (2, .int a2), (3, .int a3), (4, .int a4), (5, .int (a5 + (1 : Int32)))]) [1, 2, 3, 4, 5, 0] rfl ?_
        exact ih _ _
    · refine q_iload 4 dX6_latestAheadOf_107 rfl ?_
      exact q_iret dX6_latestAheadOf_109 rfl rfl (Nat.le_of_ble_eq_true rfl) rfl
set_option maxRecDepth 20000 in
theorem m_X6_latestAheadOf {M : q_Mem} {a0 : Nat} {a1 : Int32} {a2 : Int32} {x : Int32} (h : f_X6_latestAheadOf M a0 a1 a2 = some x) : q_C Y_X6_latestAheadOf [.ref a0, .int a1, .int a2] M (some (.int x)) M := by
  refine q_met (φ := (fun x : Int32 => (some (.int x), M))) (r := f_X6_latestAheadOf M a0 a1 a2) (by decide +kernel) (Nat.le_of_ble_eq_true rfl) ?_ h (fun _ _ => rfl)
  show q_V Y_X6_latestAheadOf none (fun x : Int32 => (some (.int x), M)) 0 0 0 [(0, .ref a0), (1, .int a1), (2, .int a2)] [] M (f_X6_latestAheadOf M a0 a1 a2)
  unfold f_X6_latestAheadOf
  refine q_obV ?_
  refine q_aload_n 0 dX6_latestAheadOf_0 rfl ?_
  refine q_getR (f := 1) cl_X6 (by decide) qw_164 rfl dX6_latestAheadOf_1 (fun _ _ _ => rfl) (fun v1 h2 => ?_)
  refine q_iload_n 1 dX6_latestAheadOf_4 rfl ?_
  refine q_iconst (x := (0 : Int32)) dX6_latestAheadOf_5 rfl ?_
  refine q_cVI (Y2 := Y_X9_at) (As := [.int a1, .int (0 : Int32)]) (b := v1) (st := []) cl_X9 mv_X9_at qw_466 dX6_latestAheadOf_6 ⟨Nat.le_of_ble_eq_true rfl, Nat.le_of_ble_eq_true rfl⟩ rfl (fun _ _ => rfl) (Nat.le_of_ble_eq_true rfl) ⟨Nat.le_of_ble_eq_true rfl, Nat.le_of_ble_eq_true rfl⟩ (fun v4 h3 => q_ob_is h3) (fun v4 h3 => m_X9_at h3) (fun v4 h3 => ?_)
  refine q_istore_n (ls' := [(3, .int v4), (0, .ref a0), (1, .int a1), (2, .int a2)]) dX6_latestAheadOf_9 (by decide) rfl ?_
  refine q_iconst (x := (-1 : Int32)) dX6_latestAheadOf_10 rfl ?_
  refine q_istore (ls' := [(4, .int (-1 : Int32)), (3, .int v4), (0, .ref a0), (1, .int a1), (2, .int a2)]) dX6_latestAheadOf_11 (by decide) rfl ?_
  refine q_iconst (x := (0 : Int32)) dX6_latestAheadOf_13 rfl ?_
  refine q_istore (ls' := [(5, .int (0 : Int32)), (4, .int (-1 : Int32)), (3, .int v4), (0, .ref a0), (1, .int a1), (2, .int a2)]) dX6_latestAheadOf_14 (by decide) rfl ?_
  refine q_sub (ls' := [(0, .ref a0), (1, .int a1), (2, .int a2), (3, .int v4), (4, .int (-1 : Int32)), (5, .int (0 : Int32))]) [3, 4, 5, 2, 1, 0] rfl ?_
  exact v_X6_latestAheadOf_b16 _ _ _
theorem dX6_rateAsKnown_0 : decode cX6_rateAsKnown 0 = .ok (.aload_n 0, 1) := by decide +kernel
theorem dX6_rateAsKnown_1 : decode cX6_rateAsKnown 1 = .ok (.iload_n 1, 1) := by decide +kernel
theorem dX6_rateAsKnown_2 : decode cX6_rateAsKnown 2 = .ok (.iload_n 2, 1) := by decide +kernel
theorem dX6_rateAsKnown_3 : decode cX6_rateAsKnown 3 = .ok (.invokevirtual 39, 3) := by decide +kernel
theorem dX6_rateAsKnown_6 : decode cX6_rateAsKnown 6 = .ok (.ifCond .ne 5, 3) := by decide +kernel
theorem dX6_rateAsKnown_9 : decode cX6_rateAsKnown 9 = .ok (.iconst (-1), 1) := by decide +kernel
theorem dX6_rateAsKnown_10 : decode cX6_rateAsKnown 10 = .ok (.ireturn, 1) := by decide +kernel
theorem dX6_rateAsKnown_11 : decode cX6_rateAsKnown 11 = .ok (.aload_n 0, 1) := by decide +kernel
theorem dX6_rateAsKnown_12 : decode cX6_rateAsKnown 12 = .ok (.iload_n 1, 1) := by decide +kernel
theorem dX6_rateAsKnown_13 : decode cX6_rateAsKnown 13 = .ok (.iload_n 2, 1) := by decide +kernel
theorem dX6_rateAsKnown_14 : decode cX6_rateAsKnown 14 = .ok (.invokevirtual 43, 3) := by decide +kernel
theorem dX6_rateAsKnown_17 : decode cX6_rateAsKnown 17 = .ok (.bipush (-7), 2) := by decide +kernel
theorem dX6_rateAsKnown_19 : decode cX6_rateAsKnown 19 = .ok (.if_icmp .ne 12, 3) := by decide +kernel
theorem dX6_rateAsKnown_22 : decode cX6_rateAsKnown 22 = .ok (.aload_n 0, 1) := by decide +kernel
theorem dX6_rateAsKnown_23 : decode cX6_rateAsKnown 23 = .ok (.iload_n 1, 1) := by decide +kernel
theorem dX6_rateAsKnown_24 : decode cX6_rateAsKnown 24 = .ok (.iload_n 2, 1) := by decide +kernel
theorem dX6_rateAsKnown_25 : decode cX6_rateAsKnown 25 = .ok (.invokevirtual 46, 3) := by decide +kernel
theorem dX6_rateAsKnown_28 : decode cX6_rateAsKnown 28 = .ok (.goto 4, 3) := by decide +kernel
theorem dX6_rateAsKnown_31 : decode cX6_rateAsKnown 31 = .ok (.iload_n 1, 1) := by decide +kernel
theorem dX6_rateAsKnown_32 : decode cX6_rateAsKnown 32 = .ok (.istore_n 3, 1) := by decide +kernel
theorem dX6_rateAsKnown_33 : decode cX6_rateAsKnown 33 = .ok (.iload_n 3, 1) := by decide +kernel
theorem dX6_rateAsKnown_34 : decode cX6_rateAsKnown 34 = .ok (.iconst (-1), 1) := by decide +kernel
theorem dX6_rateAsKnown_35 : decode cX6_rateAsKnown 35 = .ok (.if_icmp .ne 7, 3) := by decide +kernel
theorem dX6_rateAsKnown_38 : decode cX6_rateAsKnown 38 = .ok (.sipush 350, 3) := by decide +kernel
theorem dX6_rateAsKnown_41 : decode cX6_rateAsKnown 41 = .ok (.ireturn, 1) := by decide +kernel
theorem dX6_rateAsKnown_42 : decode cX6_rateAsKnown 42 = .ok (.aload_n 0, 1) := by decide +kernel
theorem dX6_rateAsKnown_43 : decode cX6_rateAsKnown 43 = .ok (.iload_n 3, 1) := by decide +kernel
theorem dX6_rateAsKnown_44 : decode cX6_rateAsKnown 44 = .ok (.iload_n 2, 1) := by decide +kernel
theorem dX6_rateAsKnown_45 : decode cX6_rateAsKnown 45 = .ok (.invokevirtual 43, 3) := by decide +kernel
theorem dX6_rateAsKnown_48 : decode cX6_rateAsKnown 48 = .ok (.aload_n 0, 1) := by decide +kernel
theorem dX6_rateAsKnown_49 : decode cX6_rateAsKnown 49 = .ok (.getfield 15, 3) := by decide +kernel
theorem dX6_rateAsKnown_52 : decode cX6_rateAsKnown 52 = .ok (.aload_n 0, 1) := by decide +kernel
theorem dX6_rateAsKnown_53 : decode cX6_rateAsKnown 53 = .ok (.getfield 25, 3) := by decide +kernel
theorem dX6_rateAsKnown_56 : decode cX6_rateAsKnown 56 = .ok (.iload_n 3, 1) := by decide +kernel
theorem dX6_rateAsKnown_57 : decode cX6_rateAsKnown 57 = .ok (.iconst 2, 1) := by decide +kernel
theorem dX6_rateAsKnown_58 : decode cX6_rateAsKnown 58 = .ok (.invokevirtual 36, 3) := by decide +kernel
theorem dX6_rateAsKnown_61 : decode cX6_rateAsKnown 61 = .ok (.invokevirtual 49, 3) := by decide +kernel
theorem dX6_rateAsKnown_64 : decode cX6_rateAsKnown 64 = .ok (.isub, 1) := by decide +kernel
theorem dX6_rateAsKnown_65 : decode cX6_rateAsKnown 65 = .ok (.istore 4, 2) := by decide +kernel
theorem dX6_rateAsKnown_67 : decode cX6_rateAsKnown 67 = .ok (.iconst 0, 1) := by decide +kernel
theorem dX6_rateAsKnown_68 : decode cX6_rateAsKnown 68 = .ok (.sipush 1000, 3) := by decide +kernel
theorem dX6_rateAsKnown_71 : decode cX6_rateAsKnown 71 = .ok (.iload 4, 2) := by decide +kernel
theorem dX6_rateAsKnown_73 : decode cX6_rateAsKnown 73 = .ok (.invokestatic 53, 3) := by decide +kernel
theorem dX6_rateAsKnown_76 : decode cX6_rateAsKnown 76 = .ok (.invokestatic 58, 3) := by decide +kernel
theorem dX6_rateAsKnown_79 : decode cX6_rateAsKnown 79 = .ok (.ireturn, 1) := by decide +kernel
def f_X6_rateAsKnown_b32 (M : q_Mem) (a0 : Nat) (a2 : Int32) (s0 : Int32) : Option Int32 :=
  (if s0 = (-1 : Int32) then
    some (350 : Int32)
  else
    (f_X6_numberKnown M a0 s0 a2).bind fun v10 =>
    (q_gR 5 0 M a0).bind fun v11 =>
    (q_gR 5 1 M a0).bind fun v13 =>
    (f_X9_at M v13 s0 (2 : Int32)).bind fun v16 =>
    (f_X5_biasOf M v11 v16).bind fun v18 =>
    some (q_mx (0 : Int32) (q_mi (1000 : Int32) (v10 - v18))))
def f_X6_rateAsKnown (M : q_Mem) (a0 : Nat) (a1 : Int32) (a2 : Int32) : Option Int32 :=
  q_ob 5 M a0 ((f_X6_isKnown M a0 a1 a2).bind fun v2 =>
  (if v2 = 0 then
    some (-1 : Int32)
  else
    (f_X6_numberKnown M a0 a1 a2).bind fun v4 =>
    (if v4 = (-7 : Int32) then
      (f_X6_latestAheadOf M a0 a1 a2).bind fun v6 =>
      f_X6_rateAsKnown_b32 M a0 a2 v6
    else
      f_X6_rateAsKnown_b32 M a0 a2 a1)))
set_option maxRecDepth 20000 in
theorem v_X6_rateAsKnown_b32 {M : q_Mem} {a0 : Nat} {a2 : Int32} {s0 : Int32}  : q_V Y_X6_rateAsKnown none (fun x : Int32 => (some (.int x), M)) 0 0 32 [(0, .ref a0), (2, .int a2)] [.int s0] M (f_X6_rateAsKnown_b32 M a0 a2 s0) := by
  unfold f_X6_rateAsKnown_b32
  refine q_istore_n (ls' := [(3, .int s0), (0, .ref a0), (2, .int a2)]) dX6_rateAsKnown_32 (by decide) rfl ?_
  refine q_iload_n 0 dX6_rateAsKnown_33 rfl ?_
  refine q_iconst (x := (-1 : Int32)) dX6_rateAsKnown_34 rfl ?_
  refine q_icmp_ne (tgt := 42) dX6_rateAsKnown_35 (by decide) (fun c19 => ?_) (fun c19 => ?_)
  · refine q_sipush (x := (350 : Int32)) dX6_rateAsKnown_38 rfl ?_
    exact q_iret dX6_rateAsKnown_41 rfl rfl (Nat.le_of_ble_eq_true rfl) rfl
  · refine q_aload_n 1 dX6_rateAsKnown_42 rfl ?_
    refine q_iload_n 0 dX6_rateAsKnown_43 rfl ?_
    refine q_iload_n 2 dX6_rateAsKnown_44 rfl ?_
    refine q_cVI (Y2 := Y_X6_numberKnown) (As := [.int s0, .int a2]) (b := a0) (st := []) cl_X6 mv_X6_numberKnown qw_467 dX6_rateAsKnown_45 ⟨Nat.le_of_ble_eq_true rfl, Nat.le_of_ble_eq_true rfl⟩ rfl (fun _ _ => rfl) (Nat.le_of_ble_eq_true rfl) ⟨Nat.le_of_ble_eq_true rfl, Nat.le_of_ble_eq_true rfl⟩ (fun v10 h9 => q_ob_is h9) (fun v10 h9 => m_X6_numberKnown h9) (fun v10 h9 => ?_)
    refine q_aload_n 1 dX6_rateAsKnown_48 rfl ?_
    refine q_getR (f := 0) cl_X6 (by decide) qw_163 rfl dX6_rateAsKnown_49 (fun _ _ _ => rfl) (fun v11 h12 => ?_)
    refine q_aload_n 1 dX6_rateAsKnown_52 rfl ?_
    refine q_getR (f := 1) cl_X6 (by decide) qw_164 rfl dX6_rateAsKnown_53 (fun _ _ _ => rfl) (fun v13 h14 => ?_)
    refine q_iload_n 0 dX6_rateAsKnown_56 rfl ?_
    refine q_iconst (x := (2 : Int32)) dX6_rateAsKnown_57 rfl ?_
    refine q_cVI (Y2 := Y_X9_at) (As := [.int s0, .int (2 : Int32)]) (b := v13) (st := [.ref v11, .int v10]) cl_X9 mv_X9_at qw_466 dX6_rateAsKnown_58 ⟨Nat.le_of_ble_eq_true rfl, Nat.le_of_ble_eq_true rfl⟩ rfl (fun _ _ => rfl) (Nat.le_of_ble_eq_true rfl) ⟨Nat.le_of_ble_eq_true rfl, Nat.le_of_ble_eq_true rfl⟩ (fun v16 h15 => q_ob_is h15) (fun v16 h15 => m_X9_at h15) (fun v16 h15 => ?_)
    refine q_cVI (Y2 := Y_X5_biasOf) (As := [.int v16]) (b := v11) (st := [.int v10]) cl_X5 mv_X5_biasOf qw_479 dX6_rateAsKnown_61 ⟨Nat.le_of_ble_eq_true rfl, Nat.le_of_ble_eq_true rfl⟩ rfl (fun _ _ => rfl) (Nat.le_of_ble_eq_true rfl) ⟨Nat.le_of_ble_eq_true rfl, Nat.le_of_ble_eq_true rfl⟩ (fun v18 h17 => q_ob_is h17) (fun v18 h17 => m_X5_biasOf h17) (fun v18 h17 => ?_)
    refine q_isub dX6_rateAsKnown_64 ?_
    refine q_istore (ls' := [(4, .int (v10 - v18)), (3, .int s0), (0, .ref a0), (2, .int a2)]) dX6_rateAsKnown_65 (by decide) rfl ?_
    refine q_iconst (x := (0 : Int32)) dX6_rateAsKnown_67 rfl ?_
    refine q_sipush (x := (1000 : Int32)) dX6_rateAsKnown_68 rfl ?_
    refine q_iload 0 dX6_rateAsKnown_71 rfl ?_
    refine q_mmin qw_483 qm_mmin_1 qm_2 qm_mmin_3 dX6_rateAsKnown_73 (Nat.le_of_ble_eq_true rfl) (Nat.le_of_ble_eq_true rfl) (Nat.le_of_ble_eq_true rfl) ⟨Nat.le_of_ble_eq_true rfl, Nat.le_of_ble_eq_true rfl⟩ ?_
    refine q_mmax qw_486 qm_mmax_1 qm_2 qm_mmax_3 dX6_rateAsKnown_76 (Nat.le_of_ble_eq_true rfl) (Nat.le_of_ble_eq_true rfl) (Nat.le_of_ble_eq_true rfl) ⟨Nat.le_of_ble_eq_true rfl, Nat.le_of_ble_eq_true rfl⟩ ?_
    exact q_iret dX6_rateAsKnown_79 rfl rfl (Nat.le_of_ble_eq_true rfl) rfl
set_option maxRecDepth 20000 in
theorem m_X6_rateAsKnown {M : q_Mem} {a0 : Nat} {a1 : Int32} {a2 : Int32} {x : Int32} (h : f_X6_rateAsKnown M a0 a1 a2 = some x) : q_C Y_X6_rateAsKnown [.ref a0, .int a1, .int a2] M (some (.int x)) M := by
  refine q_met (φ := (fun x : Int32 => (some (.int x), M))) (r := f_X6_rateAsKnown M a0 a1 a2) (by decide +kernel) (Nat.le_of_ble_eq_true rfl) ?_ h (fun _ _ => rfl)
  show q_V Y_X6_rateAsKnown none (fun x : Int32 => (some (.int x), M)) 0 0 0 [(0, .ref a0), (1, .int a1), (2, .int a2)] [] M (f_X6_rateAsKnown M a0 a1 a2)
  unfold f_X6_rateAsKnown
  refine q_obV ?_
  refine q_aload_n 0 dX6_rateAsKnown_0 rfl ?_
  refine q_iload_n 1 dX6_rateAsKnown_1 rfl ?_
  refine q_iload_n 2 dX6_rateAsKnown_2 rfl ?_
  refine q_cVI (Y2 := Y_X6_isKnown) (As := [.int a1, .int a2]) (b := a0) (st := []) cl_X6 mv_X6_isKnown qw_462 dX6_rateAsKnown_3 ⟨Nat.le_of_ble_eq_true rfl, Nat.le_of_ble_eq_true rfl⟩ rfl (fun _ _ => rfl) (Nat.le_of_ble_eq_true rfl) ⟨Nat.le_of_ble_eq_true rfl, Nat.le_of_ble_eq_true rfl⟩ (fun v2 h1 => q_ob_is h1) (fun v2 h1 => m_X6_isKnown h1) (fun v2 h1 => ?_)
  refine q_if_ne (tgt := 11) dX6_rateAsKnown_6 (by decide) (fun c8 => ?_) (fun c8 => ?_)
  · refine q_iconst (x := (-1 : Int32)) dX6_rateAsKnown_9 rfl ?_
    exact q_iret dX6_rateAsKnown_10 rfl rfl (Nat.le_of_ble_eq_true rfl) rfl
  · refine q_aload_n 0 dX6_rateAsKnown_11 rfl ?_
    refine q_iload_n 1 dX6_rateAsKnown_12 rfl ?_
    refine q_iload_n 2 dX6_rateAsKnown_13 rfl ?_
    refine q_cVI (Y2 := Y_X6_numberKnown) (As := [.int a1, .int a2]) (b := a0) (st := []) cl_X6 mv_X6_numberKnown qw_467 dX6_rateAsKnown_14 ⟨Nat.le_of_ble_eq_true rfl, Nat.le_of_ble_eq_true rfl⟩ rfl (fun _ _ => rfl) (Nat.le_of_ble_eq_true rfl) ⟨Nat.le_of_ble_eq_true rfl, Nat.le_of_ble_eq_true rfl⟩ (fun v4 h3 => q_ob_is h3) (fun v4 h3 => m_X6_numberKnown h3) (fun v4 h3 => ?_)
    refine q_bipush (x := (-7 : Int32)) dX6_rateAsKnown_17 rfl ?_
    refine q_icmp_ne (tgt := 31) dX6_rateAsKnown_19 (by decide) (fun c7 => ?_) (fun c7 => ?_)
    · refine q_aload_n 0 dX6_rateAsKnown_22 rfl ?_
      refine q_iload_n 1 dX6_rateAsKnown_23 rfl ?_
      refine q_iload_n 2 dX6_rateAsKnown_24 rfl ?_
      refine q_cVI (Y2 := Y_X6_latestAheadOf) (As := [.int a1, .int a2]) (b := a0) (st := []) cl_X6 mv_X6_latestAheadOf qw_471 dX6_rateAsKnown_25 ⟨Nat.le_of_ble_eq_true rfl, Nat.le_of_ble_eq_true rfl⟩ rfl (fun _ _ => rfl) (Nat.le_of_ble_eq_true rfl) ⟨Nat.le_of_ble_eq_true rfl, Nat.le_of_ble_eq_true rfl⟩ (fun v6 h5 => q_ob_is h5) (fun v6 h5 => m_X6_latestAheadOf h5) (fun v6 h5 => ?_)
      refine q_goto (tgt := 32) dX6_rateAsKnown_28 (by decide) ?_
      refine q_sub (ls' := [(0, .ref a0), (2, .int a2)]) [0, 2] rfl ?_
      exact v_X6_rateAsKnown_b32
    · refine q_iload_n 1 dX6_rateAsKnown_31 rfl ?_
      refine q_sub (ls' := [(0, .ref a0), (2, .int a2)]) [0, 2] rfl ?_
      exact v_X6_rateAsKnown_b32
theorem dX6_learn_0 : decode cX6_learn 0 = .ok (.iconst 0, 1) := by decide +kernel
theorem dX6_learn_1 : decode cX6_learn 1 = .ok (.istore_n 2, 1) := by decide +kernel
theorem dX6_learn_2 : decode cX6_learn 2 = .ok (.iload_n 2, 1) := by decide +kernel
theorem dX6_learn_3 : decode cX6_learn 3 = .ok (.aload_n 0, 1) := by decide +kernel
theorem dX6_learn_4 : decode cX6_learn 4 = .ok (.getfield 25, 3) := by decide +kernel
theorem dX6_learn_7 : decode cX6_learn 7 = .ok (.getfield 26, 3) := by decide +kernel
theorem dX6_learn_10 : decode cX6_learn 10 = .ok (.if_icmp .ge 30, 3) := by decide +kernel
theorem dX6_learn_13 : decode cX6_learn 13 = .ok (.iload_n 2, 1) := by decide +kernel
theorem dX6_learn_14 : decode cX6_learn 14 = .ok (.aload_n 0, 1) := by decide +kernel
theorem dX6_learn_15 : decode cX6_learn 15 = .ok (.getfield 9, 3) := by decide +kernel
theorem dX6_learn_18 : decode cX6_learn 18 = .ok (.arraylength, 1) := by decide +kernel
theorem dX6_learn_19 : decode cX6_learn 19 = .ok (.if_icmp .ge 21, 3) := by decide +kernel
theorem dX6_learn_22 : decode cX6_learn 22 = .ok (.aload_n 0, 1) := by decide +kernel
theorem dX6_learn_23 : decode cX6_learn 23 = .ok (.getfield 9, 3) := by decide +kernel
theorem dX6_learn_26 : decode cX6_learn 26 = .ok (.iload_n 2, 1) := by decide +kernel
theorem dX6_learn_27 : decode cX6_learn 27 = .ok (.aload_n 0, 1) := by decide +kernel
theorem dX6_learn_28 : decode cX6_learn 28 = .ok (.iload_n 2, 1) := by decide +kernel
theorem dX6_learn_29 : decode cX6_learn 29 = .ok (.iload_n 1, 1) := by decide +kernel
theorem dX6_learn_30 : decode cX6_learn 30 = .ok (.invokevirtual 32, 3) := by decide +kernel
theorem dX6_learn_33 : decode cX6_learn 33 = .ok (.iastore, 1) := by decide +kernel
theorem dX6_learn_34 : decode cX6_learn 34 = .ok (.iinc 2 1, 3) := by decide +kernel
theorem dX6_learn_37 : decode cX6_learn 37 = .ok (.goto (-35), 3) := by decide +kernel
theorem dX6_learn_40 : decode cX6_learn 40 = .ok (.return_, 1) := by decide +kernel
def f_X6_learn_b2 (a0 : Nat) (a1 : Int32) : Nat → Int32 → q_Mem → Option q_Mem
  | 0, _, _ => none
  | n + 1, a2, M =>
    (q_gR 5 1 M a0).bind fun v1 =>
    (q_gI 8 3 M v1).bind fun v3 =>
    (if a2 < v3 then
      (q_gR 5 2 M a0).bind fun v5 =>
      (q_ln M v5).bind fun v7 =>
      (if a2 < v7 then
        (q_gR 5 2 M a0).bind fun v9 =>
        (f_X6_rateAsKnown M a0 a2 a1).bind fun v12 =>
        (q_tI M v9 a2 v12).bind fun M13 =>
        f_X6_learn_b2 a0 a1 n (a2 + (1 : Int32)) M13
      else
        some M)
    else
      some M)
def f_X6_learn (M : q_Mem) (a0 : Nat) (a1 : Int32) : Option q_Mem :=
  q_ob 5 M a0 (f_X6_learn_b2 a0 a1 q_fuel (0 : Int32) M)
set_option maxRecDepth 20000 in
theorem v_X6_learn_b2 {a0 : Nat} {a1 : Int32}  : ∀ (n : Nat) (a2 : Int32) (M : q_Mem), q_V Y_X6_learn none (fun x : q_Mem => (none, x)) 0 0 2 [(0, .ref a0), (1, .int a1), (2, .int a2)] [] M (f_X6_learn_b2 a0 a1 n a2 M) := by
  intro n
  induction n with
  | zero => intro a2 M; exact q_none
  | succ n ih =>
    intro a2 M
    rw [f_X6_learn_b2.eq_2]
    refine q_iload_n 2 dX6_learn_2 rfl ?_
    refine q_aload_n 0 dX6_learn_3 rfl ?_
    refine q_getR (f := 1) cl_X6 (by decide) qw_164 rfl dX6_learn_4 (fun _ _ _ => rfl) (fun v1 h2 => ?_)
    refine q_getI (f := 3) cl_X9 (by decide) qw_45 rfl dX6_learn_7 (Or.inl rfl) (fun v3 h4 => ?_)
    refine q_icmp_ge (tgt := 40) dX6_learn_10 (by decide) (fun c16 => ?_) (fun c16 => ?_)
    · refine q_iload_n 2 dX6_learn_13 rfl ?_
      refine q_aload_n 0 dX6_learn_14 rfl ?_
      refine q_getR (f := 2) cl_X6 (by decide) qw_165 rfl dX6_learn_15 (fun _ _ _ => rfl) (fun v5 h6 => ?_)
      refine q_alen dX6_learn_18 (fun v7 h8 => ?_)
      refine q_icmp_ge (tgt := 40) dX6_learn_19 (by decide) (fun c15 => ?_) (fun c15 => ?_)
      · refine q_aload_n 0 dX6_learn_22 rfl ?_
        refine q_getR (f := 2) cl_X6 (by decide) qw_165 rfl dX6_learn_23 (fun _ _ _ => rfl) (fun v9 h10 => ?_)
        refine q_iload_n 2 dX6_learn_26 rfl ?_
        refine q_aload_n 0 dX6_learn_27 rfl ?_
        refine q_iload_n 2 dX6_learn_28 rfl ?_
        refine q_iload_n 1 dX6_learn_29 rfl ?_
        refine q_cVI (Y2 := Y_X6_rateAsKnown) (As := [.int a2, .int a1]) (b := a0) (st := [.int a2, .ref v9]) cl_X6 mv_X6_rateAsKnown qw_495 dX6_learn_30 ⟨Nat.le_of_ble_eq_true rfl, Nat.le_of_ble_eq_true rfl⟩ rfl (fun _ _ => rfl) (Nat.le_of_ble_eq_true rfl) ⟨Nat.le_of_ble_eq_true rfl, Nat.le_of_ble_eq_true rfl⟩ (fun v12 h11 => q_ob_is h11) (fun v12 h11 => m_X6_rateAsKnown h11) (fun v12 h11 => ?_)
        refine q_iast dX6_learn_33 (fun M13 h14 => ?_)
        refine q_iinc 2 (y := (a2 + (1 : Int32))) (ls' := [(2, .int (a2 + (1 : Int32))), (0, .ref a0), (1, .int a1)]) dX6_learn_34 rfl rfl (by decide) rfl ?_
        refine q_goto (tgt := 2) dX6_learn_37 (by decide) ?_
        refine q_sub (ls' := [(0, .ref a0), (1, .int a1), (2, .int (a2 + (1 : Int32)))]) [1, 2, 0] rfl ?_
        exact ih _ _
      · exact q_vret dX6_learn_40 rfl rfl (Nat.le_of_ble_eq_true rfl) rfl
    · exact q_vret dX6_learn_40 rfl rfl (Nat.le_of_ble_eq_true rfl) rfl
set_option maxRecDepth 20000 in
theorem m_X6_learn {M : q_Mem} {a0 : Nat} {a1 : Int32} {x : q_Mem} (h : f_X6_learn M a0 a1 = some x) : q_C Y_X6_learn [.ref a0, .int a1] M none x := by
  refine q_met (φ := (fun x : q_Mem => (none, x))) (r := f_X6_learn M a0 a1) (by decide +kernel) (Nat.le_of_ble_eq_true rfl) ?_ h (fun _ _ => rfl)
  show q_V Y_X6_learn none (fun x : q_Mem => (none, x)) 0 0 0 [(0, .ref a0), (1, .int a1)] [] M (f_X6_learn M a0 a1)
  unfold f_X6_learn
  refine q_obV ?_
  refine q_iconst (x := (0 : Int32)) dX6_learn_0 rfl ?_
  refine q_istore_n (ls' := [(2, .int (0 : Int32)), (0, .ref a0), (1, .int a1)]) dX6_learn_1 (by decide) rfl ?_
  refine q_sub (ls' := [(0, .ref a0), (1, .int a1), (2, .int (0 : Int32))]) [1, 2, 0] rfl ?_
  exact v_X6_learn_b2 _ _ _
theorem dX6_fatOfWeek_0 : decode cX6_fatOfWeek 0 = .ok (.aload_n 0, 1) := by decide +kernel
theorem dX6_fatOfWeek_1 : decode cX6_fatOfWeek 1 = .ok (.getfield 15, 3) := by decide +kernel
theorem dX6_fatOfWeek_4 : decode cX6_fatOfWeek 4 = .ok (.getfield 64, 3) := by decide +kernel
theorem dX6_fatOfWeek_7 : decode cX6_fatOfWeek 7 = .ok (.astore_n 3, 1) := by decide +kernel
theorem dX6_fatOfWeek_8 : decode cX6_fatOfWeek 8 = .ok (.lconst 0, 1) := by decide +kernel
theorem dX6_fatOfWeek_9 : decode cX6_fatOfWeek 9 = .ok (.lstore 4, 2) := by decide +kernel
theorem dX6_fatOfWeek_11 : decode cX6_fatOfWeek 11 = .ok (.iconst 0, 1) := by decide +kernel
theorem dX6_fatOfWeek_12 : decode cX6_fatOfWeek 12 = .ok (.istore 6, 2) := by decide +kernel
theorem dX6_fatOfWeek_14 : decode cX6_fatOfWeek 14 = .ok (.iload 6, 2) := by decide +kernel
theorem dX6_fatOfWeek_16 : decode cX6_fatOfWeek 16 = .ok (.aload_n 3, 1) := by decide +kernel
theorem dX6_fatOfWeek_17 : decode cX6_fatOfWeek 17 = .ok (.getfield 26, 3) := by decide +kernel
theorem dX6_fatOfWeek_20 : decode cX6_fatOfWeek 20 = .ok (.if_icmp .ge 45, 3) := by decide +kernel
theorem dX6_fatOfWeek_23 : decode cX6_fatOfWeek 23 = .ok (.aload_n 3, 1) := by decide +kernel
theorem dX6_fatOfWeek_24 : decode cX6_fatOfWeek 24 = .ok (.iload 6, 2) := by decide +kernel
theorem dX6_fatOfWeek_26 : decode cX6_fatOfWeek 26 = .ok (.iconst 0, 1) := by decide +kernel
theorem dX6_fatOfWeek_27 : decode cX6_fatOfWeek 27 = .ok (.invokevirtual 36, 3) := by decide +kernel
theorem dX6_fatOfWeek_30 : decode cX6_fatOfWeek 30 = .ok (.iload_n 1, 1) := by decide +kernel
theorem dX6_fatOfWeek_31 : decode cX6_fatOfWeek 31 = .ok (.if_icmp .ne 28, 3) := by decide +kernel
theorem dX6_fatOfWeek_34 : decode cX6_fatOfWeek 34 = .ok (.aload_n 3, 1) := by decide +kernel
theorem dX6_fatOfWeek_35 : decode cX6_fatOfWeek 35 = .ok (.iload 6, 2) := by decide +kernel
theorem dX6_fatOfWeek_37 : decode cX6_fatOfWeek 37 = .ok (.iconst 1, 1) := by decide +kernel
theorem dX6_fatOfWeek_38 : decode cX6_fatOfWeek 38 = .ok (.invokevirtual 36, 3) := by decide +kernel
theorem dX6_fatOfWeek_41 : decode cX6_fatOfWeek 41 = .ok (.bipush 7, 2) := by decide +kernel
theorem dX6_fatOfWeek_43 : decode cX6_fatOfWeek 43 = .ok (.idiv, 1) := by decide +kernel
theorem dX6_fatOfWeek_44 : decode cX6_fatOfWeek 44 = .ok (.iload_n 2, 1) := by decide +kernel
theorem dX6_fatOfWeek_45 : decode cX6_fatOfWeek 45 = .ok (.if_icmp .ne 14, 3) := by decide +kernel
theorem dX6_fatOfWeek_48 : decode cX6_fatOfWeek 48 = .ok (.lload 4, 2) := by decide +kernel
theorem dX6_fatOfWeek_50 : decode cX6_fatOfWeek 50 = .ok (.aload_n 0, 1) := by decide +kernel
theorem dX6_fatOfWeek_51 : decode cX6_fatOfWeek 51 = .ok (.iload 6, 2) := by decide +kernel
theorem dX6_fatOfWeek_53 : decode cX6_fatOfWeek 53 = .ok (.invokevirtual 82, 3) := by decide +kernel
theorem dX6_fatOfWeek_56 : decode cX6_fatOfWeek 56 = .ok (.ladd, 1) := by decide +kernel
theorem dX6_fatOfWeek_57 : decode cX6_fatOfWeek 57 = .ok (.lstore 4, 2) := by decide +kernel
theorem dX6_fatOfWeek_59 : decode cX6_fatOfWeek 59 = .ok (.iinc 6 1, 3) := by decide +kernel
theorem dX6_fatOfWeek_62 : decode cX6_fatOfWeek 62 = .ok (.goto (-48), 3) := by decide +kernel
theorem dX6_fatOfWeek_65 : decode cX6_fatOfWeek 65 = .ok (.lload 4, 2) := by decide +kernel
theorem dX6_fatOfWeek_67 : decode cX6_fatOfWeek 67 = .ok (.lreturn, 1) := by decide +kernel
def f_X6_fatOfWeek_b14 (M : q_Mem) (a0 : Nat) (a1 : Int32) (a2 : Int32) (a3 : Nat) : Nat → Int64 → Int32 → Option Int64
  | 0, _, _ => none
  | n + 1, a4, a6 =>
    (q_gI 8 3 M a3).bind fun v5 =>
    (if a6 < v5 then
      (f_X9_at M a3 a6 (0 : Int32)).bind fun v8 =>
      (if v8 = a1 then
        (f_X9_at M a3 a6 (1 : Int32)).bind fun v10 =>
        (q_dv v10 (7 : Int32)).bind fun v11 =>
        (if v11 = a2 then
          (f_X6_fatOfCan M a0 a6).bind fun v14 =>
          f_X6_fatOfWeek_b14 M a0 a1 a2 a3 n (a4 + v14) (a6 + (1 : Int32))
        else
          f_X6_fatOfWeek_b14 M a0 a1 a2 a3 n a4 (a6 + (1 : Int32)))
      else
        f_X6_fatOfWeek_b14 M a0 a1 a2 a3 n a4 (a6 + (1 : Int32)))
    else
      some a4)
def f_X6_fatOfWeek (M : q_Mem) (a0 : Nat) (a1 : Int32) (a2 : Int32) : Option Int64 :=
  q_ob 5 M a0 ((q_gR 5 0 M a0).bind fun v1 =>
  (q_gR 4 1 M v1).bind fun v3 =>
  f_X6_fatOfWeek_b14 M a0 a1 a2 v3 q_fuel (0 : Int64) (0 : Int32))
set_option maxRecDepth 20000 in
theorem v_X6_fatOfWeek_b14 {M : q_Mem} {a0 : Nat} {a1 : Int32} {a2 : Int32} {a3 : Nat}  : ∀ (n : Nat) (a4 : Int64) (a6 : Int32), q_V Y_X6_fatOfWeek none (fun x : Int64 => (some (.long x), M)) 0 0 14 [(0, .ref a0), (1, .int a1), (2, .int a2), (3, .ref a3), (4, .long a4), (6, .int a6)] [] M (f_X6_fatOfWeek_b14 M a0 a1 a2 a3 n a4 a6) := by
  intro n
  induction n with
  | zero => intro a4 a6; exact q_none
  | succ n ih =>
    intro a4 a6
    rw [f_X6_fatOfWeek_b14.eq_2]
    refine q_iload 5 dX6_fatOfWeek_14 rfl ?_
    refine q_aload_n 3 dX6_fatOfWeek_16 rfl ?_
    refine q_getI (f := 3) cl_X9 (by decide) qw_45 rfl dX6_fatOfWeek_17 (Or.inl rfl) (fun v5 h6 => ?_)
    refine q_icmp_ge (tgt := 65) dX6_fatOfWeek_20 (by decide) (fun c17 => ?_) (fun c17 => ?_)
    · refine q_aload_n 3 dX6_fatOfWeek_23 rfl ?_
      refine q_iload 5 dX6_fatOfWeek_24 rfl ?_
      refine q_iconst (x := (0 : Int32)) dX6_fatOfWeek_26 rfl ?_
      refine q_cVI (Y2 := Y_X9_at) (As := [.int a6, .int (0 : Int32)]) (b := a3) (st := []) cl_X9 mv_X9_at qw_466 dX6_fatOfWeek_27 ⟨Nat.le_of_ble_eq_true rfl, Nat.le_of_ble_eq_true rfl⟩ rfl (fun _ _ => rfl) (Nat.le_of_ble_eq_true rfl) ⟨Nat.le_of_ble_eq_true rfl, Nat.le_of_ble_eq_true rfl⟩ (fun v8 h7 => q_ob_is h7) (fun v8 h7 => m_X9_at h7) (fun v8 h7 => ?_)
      refine q_iload_n 1 dX6_fatOfWeek_30 rfl ?_
      refine q_icmp_ne (tgt := 59) dX6_fatOfWeek_31 (by decide) (fun c16 => ?_) (fun c16 => ?_)
      · refine q_aload_n 3 dX6_fatOfWeek_34 rfl ?_
        refine q_iload 5 dX6_fatOfWeek_35 rfl ?_
        refine q_iconst (x := (1 : Int32)) dX6_fatOfWeek_37 rfl ?_
        refine q_cVI (Y2 := Y_X9_at) (As := [.int a6, .int (1 : Int32)]) (b := a3) (st := []) cl_X9 mv_X9_at qw_466 dX6_fatOfWeek_38 ⟨Nat.le_of_ble_eq_true rfl, Nat.le_of_ble_eq_true rfl⟩ rfl (fun _ _ => rfl) (Nat.le_of_ble_eq_true rfl) ⟨Nat.le_of_ble_eq_true rfl, Nat.le_of_ble_eq_true rfl⟩ (fun v10 h9 => q_ob_is h9) (fun v10 h9 => m_X9_at h9) (fun v10 h9 => ?_)
        refine q_bipush (x := (7 : Int32)) dX6_fatOfWeek_41 rfl ?_
        refine q_idiv dX6_fatOfWeek_43 (fun v11 h12 => ?_)
        refine q_iload_n 2 dX6_fatOfWeek_44 rfl ?_
        refine q_icmp_ne (tgt := 59) dX6_fatOfWeek_45 (by decide) (fun c15 => ?_) (fun c15 => ?_)
        · refine q_lload 4 dX6_fatOfWeek_48 rfl ?_
          refine q_aload_n 0 dX6_fatOfWeek_50 rfl ?_
          refine q_iload 5 dX6_fatOfWeek_51 rfl ?_
          refine q_cVJ (Y2 := Y_X6_fatOfCan) (As := [.int a6]) (b := a0) (st := [.long a4]) cl_X6 mv_X6_fatOfCan qw_520 dX6_fatOfWeek_53 ⟨Nat.le_of_ble_eq_true rfl, Nat.le_of_ble_eq_true rfl⟩ rfl (fun _ _ => rfl) (Nat.le_of_ble_eq_true rfl) ⟨Nat.le_of_ble_eq_true rfl, Nat.le_of_ble_eq_true rfl⟩ (fun v14 h13 => q_ob_is h13) (fun v14 h13 => m_X6_fatOfCan h13) (fun v14 h13 => ?_)
          refine q_ladd dX6_fatOfWeek_56 ?_
          refine q_lstore (ls' := [(4, .long (a4 + v14)), (0, .ref a0), (1, .int a1), (2, .int a2), (3, .ref a3), (6, .int a6)]) dX6_fatOfWeek_57 (by decide) rfl ?_
          refine q_iinc 5 (y := (a6 + (1 : Int32))) (ls' := [(6, .int (a6 + (1 : Int32))), (4, .long (a4 + v14)), (0, .ref a0), (1, .int a1), (2, .int a2), (3, .ref a3)]) dX6_fatOfWeek_59 rfl rfl (by decide) rfl ?_
          refine q_goto (tgt := 14) dX6_fatOfWeek_62 (by decide) ?_
          refine q_sub (ls' := [(0, .ref a0), (1, .int a1), (2, .int a2), (3, .ref a3), (4, .long (a4 + v14)), (6, .int (a6 + (1 : Int32)))]) [2, 3, 4, 5, 1, 0] rfl ?_
          exact ih _ _
        · refine q_iinc 5 (y := (a6 + (1 : Int32))) (ls' := [(6, .int (a6 + (1 : Int32))), (0, .ref a0), (1, .int a1), (2, .int a2), (3, .ref a3), (4, .long a4)]) dX6_fatOfWeek_59 rfl rfl (by decide) rfl ?_
          refine q_goto (tgt := 14) dX6_fatOfWeek_62 (by decide) ?_
          refine q_sub (ls' := [(0, .ref a0), (1, .int a1), (2, .int a2), (3, .ref a3), (4, .long a4), (6, .int (a6 + (1 : Int32)))]) [1, 2, 3, 4, 5, 0] rfl ?_
          exact ih _ _
      · refine q_iinc 5 (y := (a6 + (1 : Int32))) (ls' := [(6, .int (a6 + (1 : Int32))), (0, .ref a0), (1, .int a1), (2, .int a2), (3, .ref a3), (4, .long a4)]) dX6_fatOfWeek_59 rfl rfl (by decide) rfl ?_
        refine q_goto (tgt := 14) dX6_fatOfWeek_62 (by decide) ?_
        refine q_sub (ls' := [(0, .ref a0), (1, .int a1), (2, .int a2), (3, .ref a3), (4, .long a4), (6, .int (a6 + (1 : Int32)))]) [1, 2, 3, 4, 5, 0] rfl ?_
        exact ih _ _
    · refine q_lload 4 dX6_fatOfWeek_65 rfl ?_
      exact q_lret dX6_fatOfWeek_67 rfl rfl (Nat.le_of_ble_eq_true rfl) rfl
set_option maxRecDepth 20000 in
theorem m_X6_fatOfWeek {M : q_Mem} {a0 : Nat} {a1 : Int32} {a2 : Int32} {x : Int64} (h : f_X6_fatOfWeek M a0 a1 a2 = some x) : q_C Y_X6_fatOfWeek [.ref a0, .int a1, .int a2] M (some (.long x)) M := by
  refine q_met (φ := (fun x : Int64 => (some (.long x), M))) (r := f_X6_fatOfWeek M a0 a1 a2) (by decide +kernel) (Nat.le_of_ble_eq_true rfl) ?_ h (fun _ _ => rfl)
  show q_V Y_X6_fatOfWeek none (fun x : Int64 => (some (.long x), M)) 0 0 0 [(0, .ref a0), (1, .int a1), (2, .int a2)] [] M (f_X6_fatOfWeek M a0 a1 a2)
  unfold f_X6_fatOfWeek
  refine q_obV ?_
  refine q_aload_n 0 dX6_fatOfWeek_0 rfl ?_
  refine q_getR (f := 0) cl_X6 (by decide) qw_163 rfl dX6_fatOfWeek_1 (fun _ _ _ => rfl) (fun v1 h2 => ?_)
  refine q_getR (f := 1) cl_X5 (by decide) qw_81 rfl dX6_fatOfWeek_4 (fun _ _ _ => rfl) (fun v3 h4 => ?_)
  refine q_astore_n (ls' := [(3, .ref v3), (0, .ref a0), (1, .int a1), (2, .int a2)]) dX6_fatOfWeek_7 (by decide) rfl ?_
  refine q_lconst (x := (0 : Int64)) dX6_fatOfWeek_8 rfl ?_
  refine q_lstore (ls' := [(4, .long (0 : Int64)), (3, .ref v3), (0, .ref a0), (1, .int a1), (2, .int a2)]) dX6_fatOfWeek_9 (by decide) rfl ?_
  refine q_iconst (x := (0 : Int32)) dX6_fatOfWeek_11 rfl ?_
  refine q_istore (ls' := [(6, .int (0 : Int32)), (4, .long (0 : Int64)), (3, .ref v3), (0, .ref a0), (1, .int a1), (2, .int a2)]) dX6_fatOfWeek_12 (by decide) rfl ?_
  refine q_sub (ls' := [(0, .ref a0), (1, .int a1), (2, .int a2), (3, .ref v3), (4, .long (0 : Int64)), (6, .int (0 : Int32))]) [3, 4, 5, 2, 1, 0] rfl ?_
  exact v_X6_fatOfWeek_b14 _ _ _
theorem dX6_meanBefore_0 : decode cX6_meanBefore 0 = .ok (.iconst 0, 1) := by decide +kernel
theorem dX6_meanBefore_1 : decode cX6_meanBefore 1 = .ok (.istore_n 3, 1) := by decide +kernel
theorem dX6_meanBefore_2 : decode cX6_meanBefore 2 = .ok (.iconst 0, 1) := by decide +kernel
theorem dX6_meanBefore_3 : decode cX6_meanBefore 3 = .ok (.istore 4, 2) := by decide +kernel
theorem dX6_meanBefore_5 : decode cX6_meanBefore 5 = .ok (.iconst 0, 1) := by decide +kernel
theorem dX6_meanBefore_6 : decode cX6_meanBefore 6 = .ok (.istore 5, 2) := by decide +kernel
theorem dX6_meanBefore_8 : decode cX6_meanBefore 8 = .ok (.iload 5, 2) := by decide +kernel
theorem dX6_meanBefore_10 : decode cX6_meanBefore 10 = .ok (.aload_n 0, 1) := by decide +kernel
theorem dX6_meanBefore_11 : decode cX6_meanBefore 11 = .ok (.getfield 25, 3) := by decide +kernel
theorem dX6_meanBefore_14 : decode cX6_meanBefore 14 = .ok (.getfield 26, 3) := by decide +kernel
theorem dX6_meanBefore_17 : decode cX6_meanBefore 17 = .ok (.if_icmp .ge 68, 3) := by decide +kernel
theorem dX6_meanBefore_20 : decode cX6_meanBefore 20 = .ok (.aload_n 0, 1) := by decide +kernel
theorem dX6_meanBefore_21 : decode cX6_meanBefore 21 = .ok (.iload 5, 2) := by decide +kernel
theorem dX6_meanBefore_23 : decode cX6_meanBefore 23 = .ok (.invokevirtual 76, 3) := by decide +kernel
theorem dX6_meanBefore_26 : decode cX6_meanBefore 26 = .ok (.istore 6, 2) := by decide +kernel
theorem dX6_meanBefore_28 : decode cX6_meanBefore 28 = .ok (.iload 6, 2) := by decide +kernel
theorem dX6_meanBefore_30 : decode cX6_meanBefore 30 = .ok (.iconst (-1), 1) := by decide +kernel
theorem dX6_meanBefore_31 : decode cX6_meanBefore 31 = .ok (.if_icmp .eq 48, 3) := by decide +kernel
theorem dX6_meanBefore_34 : decode cX6_meanBefore 34 = .ok (.aload_n 0, 1) := by decide +kernel
theorem dX6_meanBefore_35 : decode cX6_meanBefore 35 = .ok (.getfield 25, 3) := by decide +kernel
theorem dX6_meanBefore_38 : decode cX6_meanBefore 38 = .ok (.iload 5, 2) := by decide +kernel
theorem dX6_meanBefore_40 : decode cX6_meanBefore 40 = .ok (.iconst 0, 1) := by decide +kernel
theorem dX6_meanBefore_41 : decode cX6_meanBefore 41 = .ok (.invokevirtual 36, 3) := by decide +kernel
theorem dX6_meanBefore_44 : decode cX6_meanBefore 44 = .ok (.iload_n 1, 1) := by decide +kernel
theorem dX6_meanBefore_45 : decode cX6_meanBefore 45 = .ok (.if_icmp .eq 6, 3) := by decide +kernel
theorem dX6_meanBefore_48 : decode cX6_meanBefore 48 = .ok (.goto 31, 3) := by decide +kernel
theorem dX6_meanBefore_51 : decode cX6_meanBefore 51 = .ok (.aload_n 0, 1) := by decide +kernel
theorem dX6_meanBefore_52 : decode cX6_meanBefore 52 = .ok (.getfield 25, 3) := by decide +kernel
theorem dX6_meanBefore_55 : decode cX6_meanBefore 55 = .ok (.iload 5, 2) := by decide +kernel
theorem dX6_meanBefore_57 : decode cX6_meanBefore 57 = .ok (.iconst 1, 1) := by decide +kernel
theorem dX6_meanBefore_58 : decode cX6_meanBefore 58 = .ok (.invokevirtual 36, 3) := by decide +kernel
theorem dX6_meanBefore_61 : decode cX6_meanBefore 61 = .ok (.bipush 7, 2) := by decide +kernel
theorem dX6_meanBefore_63 : decode cX6_meanBefore 63 = .ok (.idiv, 1) := by decide +kernel
theorem dX6_meanBefore_64 : decode cX6_meanBefore 64 = .ok (.iload_n 2, 1) := by decide +kernel
theorem dX6_meanBefore_65 : decode cX6_meanBefore 65 = .ok (.if_icmp .lt 6, 3) := by decide +kernel
theorem dX6_meanBefore_68 : decode cX6_meanBefore 68 = .ok (.goto 11, 3) := by decide +kernel
theorem dX6_meanBefore_71 : decode cX6_meanBefore 71 = .ok (.iload_n 3, 1) := by decide +kernel
theorem dX6_meanBefore_72 : decode cX6_meanBefore 72 = .ok (.iload 6, 2) := by decide +kernel
theorem dX6_meanBefore_74 : decode cX6_meanBefore 74 = .ok (.iadd, 1) := by decide +kernel
theorem dX6_meanBefore_75 : decode cX6_meanBefore 75 = .ok (.istore_n 3, 1) := by decide +kernel
theorem dX6_meanBefore_76 : decode cX6_meanBefore 76 = .ok (.iinc 4 1, 3) := by decide +kernel
theorem dX6_meanBefore_79 : decode cX6_meanBefore 79 = .ok (.iinc 5 1, 3) := by decide +kernel
theorem dX6_meanBefore_82 : decode cX6_meanBefore 82 = .ok (.goto (-74), 3) := by decide +kernel
theorem dX6_meanBefore_85 : decode cX6_meanBefore 85 = .ok (.iload 4, 2) := by decide +kernel
theorem dX6_meanBefore_87 : decode cX6_meanBefore 87 = .ok (.iconst 3, 1) := by decide +kernel
theorem dX6_meanBefore_88 : decode cX6_meanBefore 88 = .ok (.if_icmp .ge 7, 3) := by decide +kernel
theorem dX6_meanBefore_91 : decode cX6_meanBefore 91 = .ok (.iconst (-1), 1) := by decide +kernel
theorem dX6_meanBefore_92 : decode cX6_meanBefore 92 = .ok (.goto 7, 3) := by decide +kernel
theorem dX6_meanBefore_95 : decode cX6_meanBefore 95 = .ok (.iload_n 3, 1) := by decide +kernel
theorem dX6_meanBefore_96 : decode cX6_meanBefore 96 = .ok (.iload 4, 2) := by decide +kernel
theorem dX6_meanBefore_98 : decode cX6_meanBefore 98 = .ok (.idiv, 1) := by decide +kernel
theorem dX6_meanBefore_99 : decode cX6_meanBefore 99 = .ok (.ireturn, 1) := by decide +kernel
def f_X6_meanBefore_b85 (M : q_Mem) (a3 : Int32) (a4 : Int32) : Option Int32 :=
  (if a4 < (3 : Int32) then
    some (-1 : Int32)
  else
    (q_dv a3 a4).bind fun v21 =>
    some v21)
def f_X6_meanBefore_b8 (M : q_Mem) (a0 : Nat) (a1 : Int32) (a2 : Int32) : Nat → Int32 → Int32 → Int32 → Option Int32
  | 0, _, _, _ => none
  | n + 1, a3, a4, a5 =>
    (q_gR 5 1 M a0).bind fun v1 =>
    (q_gI 8 3 M v1).bind fun v3 =>
    (if a5 < v3 then
      (f_X6_rateLearned M a0 a5).bind fun v6 =>
      (if v6 = (-1 : Int32) then
        f_X6_meanBefore_b8 M a0 a1 a2 n a3 a4 (a5 + (1 : Int32))
      else
        (q_gR 5 1 M a0).bind fun v7 =>
        (f_X9_at M v7 a5 (0 : Int32)).bind fun v10 =>
        (if v10 = a1 then
          (q_gR 5 1 M a0).bind fun v11 =>
          (f_X9_at M v11 a5 (1 : Int32)).bind fun v14 =>
          (q_dv v14 (7 : Int32)).bind fun v15 =>
          (if v15 < a2 then
            f_X6_meanBefore_b8 M a0 a1 a2 n (a3 + v6) (a4 + (1 : Int32)) (a5 + (1 : Int32))
          else
            f_X6_meanBefore_b8 M a0 a1 a2 n a3 a4 (a5 + (1 : Int32)))
        else
          f_X6_meanBefore_b8 M a0 a1 a2 n a3 a4 (a5 + (1 : Int32))))
    else
      f_X6_meanBefore_b85 M a3 a4)
def f_X6_meanBefore (M : q_Mem) (a0 : Nat) (a1 : Int32) (a2 : Int32) : Option Int32 :=
  q_ob 5 M a0 (f_X6_meanBefore_b8 M a0 a1 a2 q_fuel (0 : Int32) (0 : Int32) (0 : Int32))
set_option maxRecDepth 20000 in
theorem v_X6_meanBefore_b85 {M : q_Mem} {a3 : Int32} {a4 : Int32}  : q_V Y_X6_meanBefore none (fun x : Int32 => (some (.int x), M)) 0 0 85 [(3, .int a3), (4, .int a4)] [] M (f_X6_meanBefore_b85 M a3 a4 ) := by
  unfold f_X6_meanBefore_b85
  refine q_iload 1 dX6_meanBefore_85 rfl ?_
  refine q_iconst (x := (3 : Int32)) dX6_meanBefore_87 rfl ?_
  refine q_icmp_ge (tgt := 95) dX6_meanBefore_88 (by decide) (fun c23 => ?_) (fun c23 => ?_)
  · refine q_iconst (x := (-1 : Int32)) dX6_meanBefore_91 rfl ?_
    refine q_goto (tgt := 99) dX6_meanBefore_92 (by decide) ?_
    exact q_iret dX6_meanBefore_99 rfl rfl (Nat.le_of_ble_eq_true rfl) rfl
  · refine q_iload_n 0 dX6_meanBefore_95 rfl ?_
    refine q_iload 1 dX6_meanBefore_96 rfl ?_
    refine q_idiv dX6_meanBefore_98 (fun v21 h22 => ?_)
    exact q_iret dX6_meanBefore_99 rfl rfl (Nat.le_of_ble_eq_true rfl) rfl
set_option maxRecDepth 20000 in
theorem v_X6_meanBefore_b8 {M : q_Mem} {a0 : Nat} {a1 : Int32} {a2 : Int32}  : ∀ (n : Nat) (a3 : Int32) (a4 : Int32) (a5 : Int32), q_V Y_X6_meanBefore none (fun x : Int32 => (some (.int x), M)) 0 0 8 [(0, .ref a0), (1, .int a1), (2, .int a2), (3, .int a3), (4, .int a4), (5, .int a5)] [] M (f_X6_meanBefore_b8 M a0 a1 a2 n a3 a4 a5) := by
  intro n
  induction n with
  | zero => intro a3 a4 a5; exact q_none
  | succ n ih =>
    intro a3 a4 a5
    rw [f_X6_meanBefore_b8.eq_2]
    refine q_iload 5 dX6_meanBefore_8 rfl ?_
    refine q_aload_n 0 dX6_meanBefore_10 rfl ?_
    refine q_getR (f := 1) cl_X6 (by decide) qw_164 rfl dX6_meanBefore_11 (fun _ _ _ => rfl) (fun v1 h2 => ?_)
    refine q_getI (f := 3) cl_X9 (by decide) qw_45 rfl dX6_meanBefore_14 (Or.inl rfl) (fun v3 h4 => ?_)
    refine q_icmp_ge (tgt := 85) dX6_meanBefore_17 (by decide) (fun c20 => ?_) (fun c20 => ?_)
    · refine q_aload_n 0 dX6_meanBefore_20 rfl ?_
      refine q_iload 5 dX6_meanBefore_21 rfl ?_
      refine q_cVI (Y2 := Y_X6_rateLearned) (As := [.int a5]) (b := a0) (st := []) cl_X6 mv_X6_rateLearned qw_504 dX6_meanBefore_23 ⟨Nat.le_of_ble_eq_true rfl, Nat.le_of_ble_eq_true rfl⟩ rfl (fun _ _ => rfl) (Nat.le_of_ble_eq_true rfl) ⟨Nat.le_of_ble_eq_true rfl, Nat.le_of_ble_eq_true rfl⟩ (fun v6 h5 => q_ob_is h5) (fun v6 h5 => m_X6_rateLearned h5) (fun v6 h5 => ?_)
      refine q_istore (ls' := [(6, .int v6), (0, .ref a0), (1, .int a1), (2, .int a2), (3, .int a3), (4, .int a4), (5, .int a5)]) dX6_meanBefore_26 (by decide) rfl ?_
      refine q_iload 0 dX6_meanBefore_28 rfl ?_
      refine q_iconst (x := (-1 : Int32)) dX6_meanBefore_30 rfl ?_
      refine q_icmp_eq (tgt := 79) dX6_meanBefore_31 (by decide) (fun c19 => ?_) (fun c19 => ?_)
      · refine q_iinc 6 (y := (a5 + (1 : Int32))) (ls' := [(5, .int (a5 + (1 : Int32))), (6, .int v6), (0, .ref a0), (1, .int a1), (2, .int a2), (3, .int a3), (4, .int a4)]) dX6_meanBefore_79 rfl rfl (by decide) rfl ?_
        refine q_goto (tgt := 8) dX6_meanBefore_82 (by decide) ?_
        refine q_sub (ls' := [(0, .ref a0), (1, .int a1), (2, .int a2), (3, .int a3), (4, .int a4), (5, .int (a5 + (1 : Int32)))]) [2, 3, 4, 5, 6, 0] rfl ?_
        exact ih _ _ _
      · refine q_aload_n 1 dX6_meanBefore_34 rfl ?_
        refine q_getR (f := 1) cl_X6 (by decide) qw_164 rfl dX6_meanBefore_35 (fun _ _ _ => rfl) (fun v7 h8 => ?_)
        refine q_iload 6 dX6_meanBefore_38 rfl ?_
        refine q_iconst (x := (0 : Int32)) dX6_meanBefore_40 rfl ?_
        refine q_cVI (Y2 := Y_X9_at) (As := [.int a5, .int (0 : Int32)]) (b := v7) (st := []) cl_X9 mv_X9_at qw_466 dX6_meanBefore_41 ⟨Nat.le_of_ble_eq_true rfl, Nat.le_of_ble_eq_true rfl⟩ rfl (fun _ _ => rfl) (Nat.le_of_ble_eq_true rfl) ⟨Nat.le_of_ble_eq_true rfl, Nat.le_of_ble_eq_true rfl⟩ (fun v10 h9 => q_ob_is h9) (fun v10 h9 => m_X9_at h9) (fun v10 h9 => ?_)
        refine q_iload_n 2 dX6_meanBefore_44 rfl ?_
        refine q_icmp_eq (tgt := 51) dX6_meanBefore_45 (by decide) (fun c18 => ?_) (fun c18 => ?_)
        · refine q_aload_n 1 dX6_meanBefore_51 rfl ?_
          refine q_getR (f := 1) cl_X6 (by decide) qw_164 rfl dX6_meanBefore_52 (fun _ _ _ => rfl) (fun v11 h12 => ?_)
          refine q_iload 6 dX6_meanBefore_55 rfl ?_
          refine q_iconst (x := (1 : Int32)) dX6_meanBefore_57 rfl ?_
          refine q_cVI (Y2 := Y_X9_at) (As := [.int a5, .int (1 : Int32)]) (b := v11) (st := []) cl_X9 mv_X9_at qw_466 dX6_meanBefore_58 ⟨Nat.le_of_ble_eq_true rfl, Nat.le_of_ble_eq_true rfl⟩ rfl (fun _ _ => rfl) (Nat.le_of_ble_eq_true rfl) ⟨Nat.le_of_ble_eq_true rfl, Nat.le_of_ble_eq_true rfl⟩ (fun v14 h13 => q_ob_is h13) (fun v14 h13 => m_X9_at h13) (fun v14 h13 => ?_)
          refine q_bipush (x := (7 : Int32)) dX6_meanBefore_61 rfl ?_
          refine q_idiv dX6_meanBefore_63 (fun v15 h16 => ?_)
          refine q_iload_n 3 dX6_meanBefore_64 rfl ?_
          refine q_icmp_lt (tgt := 71) dX6_meanBefore_65 (by decide) (fun c17 => ?_) (fun c17 => ?_)
          · refine q_iload_n 4 dX6_meanBefore_71 rfl ?_
            refine q_iload 0 dX6_meanBefore_72 rfl ?_
            refine q_iadd dX6_meanBefore_74 ?_
            refine q_istore_n (ls' := [(3, .int (a3 + v6)), (6, .int v6), (0, .ref a0), (1, .int a1), (2, .int a2), (4, .int a4), (5, .int a5)]) dX6_meanBefore_75 (by decide) rfl ?_
            refine q_iinc 5 (y := (a4 + (1 : Int32))) (ls' := [(4, .int (a4 + (1 : Int32))), (3, .int (a3 + v6)), (6, .int v6), (0, .ref a0), (1, .int a1), (2, .int a2), (5, .int a5)]) dX6_meanBefore_76 rfl rfl (by decide) rfl ?_
            refine q_iinc 6 (y := (a5 + (1 : Int32))) (ls' := [(5, .int (a5 + (1 : Int32))), (4, .int (a4 + (1 : Int32))), (3, .int (a3 + v6)), (6, .int v6), (0, .ref a0), (1, .int a1), (2, .int a2)]) dX6_meanBefore_79 rfl rfl (by decide) rfl ?_
            refine q_goto (tgt := 8) dX6_meanBefore_82 (by decide) ?_
            refine q_sub (ls' := [(0, .ref a0), (1, .int a1), (2, .int a2), (3, .int (a3 + v6)), (4, .int (a4 + (1 : Int32))), (5, .int (a5 + (1 : Int32)))]) [4, 5, 6, 2, 1, 0] rfl ?_
            exact ih _ _ _
          · refine q_goto (tgt := 79) dX6_meanBefore_68 (by decide) ?_
            refine q_iinc 6 (y := (a5 + (1 : Int32))) (ls' := [(5, .int (a5 + (1 : Int32))), (6, .int v6), (0, .ref a0), (1, .int a1), (2, .int a2), (3, .int a3), (4, .int a4)]) dX6_meanBefore_79 rfl rfl (by decide) rfl ?_
            refine q_goto (tgt := 8) dX6_meanBefore_82 (by decide) ?_
            refine q_sub (ls' := [(0, .ref a0), (1, .int a1), (2, .int a2), (3, .int a3), (4, .int a4), (5, .int (a5 + (1 : Int32)))]) [2, 3, 4, 5, 6, 0] rfl ?_
            exact ih _ _ _
        · refine q_goto (tgt := 79) dX6_meanBefore_48 (by decide) ?_
          refine q_iinc 6 (y := (a5 + (1 : Int32))) (ls' := [(5, .int (a5 + (1 : Int32))), (6, .int v6), (0, .ref a0), (1, .int a1), (2, .int a2), (3, .int a3), (4, .int a4)]) dX6_meanBefore_79 rfl rfl (by decide) rfl ?_
          refine q_goto (tgt := 8) dX6_meanBefore_82 (by decide) ?_
          refine q_sub (ls' := [(0, .ref a0), (1, .int a1), (2, .int a2), (3, .int a3), (4, .int a4), (5, .int (a5 + (1 : Int32)))]) [2, 3, 4, 5, 6, 0] rfl ?_
          exact ih _ _ _
    · refine q_sub (ls' := [(3, .int a3), (4, .int a4)]) [3, 4] rfl ?_
      exact v_X6_meanBefore_b85
set_option maxRecDepth 20000 in
theorem m_X6_meanBefore {M : q_Mem} {a0 : Nat} {a1 : Int32} {a2 : Int32} {x : Int32} (h : f_X6_meanBefore M a0 a1 a2 = some x) : q_C Y_X6_meanBefore [.ref a0, .int a1, .int a2] M (some (.int x)) M := by
  refine q_met (φ := (fun x : Int32 => (some (.int x), M))) (r := f_X6_meanBefore M a0 a1 a2) (by decide +kernel) (Nat.le_of_ble_eq_true rfl) ?_ h (fun _ _ => rfl)
  show q_V Y_X6_meanBefore none (fun x : Int32 => (some (.int x), M)) 0 0 0 [(0, .ref a0), (1, .int a1), (2, .int a2)] [] M (f_X6_meanBefore M a0 a1 a2)
  unfold f_X6_meanBefore
  refine q_obV ?_
  refine q_iconst (x := (0 : Int32)) dX6_meanBefore_0 rfl ?_
  refine q_istore_n (ls' := [(3, .int (0 : Int32)), (0, .ref a0), (1, .int a1), (2, .int a2)]) dX6_meanBefore_1 (by decide) rfl ?_
  refine q_iconst (x := (0 : Int32)) dX6_meanBefore_2 rfl ?_
  refine q_istore (ls' := [(4, .int (0 : Int32)), (3, .int (0 : Int32)), (0, .ref a0), (1, .int a1), (2, .int a2)]) dX6_meanBefore_3 (by decide) rfl ?_
  refine q_iconst (x := (0 : Int32)) dX6_meanBefore_5 rfl ?_
  refine q_istore (ls' := [(5, .int (0 : Int32)), (4, .int (0 : Int32)), (3, .int (0 : Int32)), (0, .ref a0), (1, .int a1), (2, .int a2)]) dX6_meanBefore_6 (by decide) rfl ?_
  refine q_sub (ls' := [(0, .ref a0), (1, .int a1), (2, .int a2), (3, .int (0 : Int32)), (4, .int (0 : Int32)), (5, .int (0 : Int32))]) [3, 4, 5, 2, 1, 0] rfl ?_
  exact v_X6_meanBefore_b8 _ _ _ _
theorem dX6_signsOfWater_0 : decode cX6_signsOfWater 0 = .ok (.aload_n 0, 1) := by decide +kernel
theorem dX6_signsOfWater_1 : decode cX6_signsOfWater 1 = .ok (.iload_n 1, 1) := by decide +kernel
theorem dX6_signsOfWater_2 : decode cX6_signsOfWater 2 = .ok (.iload_n 2, 1) := by decide +kernel
theorem dX6_signsOfWater_3 : decode cX6_signsOfWater 3 = .ok (.invokevirtual 86, 3) := by decide +kernel
theorem dX6_signsOfWater_6 : decode cX6_signsOfWater 6 = .ok (.istore_n 3, 1) := by decide +kernel
theorem dX6_signsOfWater_7 : decode cX6_signsOfWater 7 = .ok (.iload_n 3, 1) := by decide +kernel
theorem dX6_signsOfWater_8 : decode cX6_signsOfWater 8 = .ok (.iconst (-1), 1) := by decide +kernel
theorem dX6_signsOfWater_9 : decode cX6_signsOfWater 9 = .ok (.if_icmp .ne 5, 3) := by decide +kernel
theorem dX6_signsOfWater_12 : decode cX6_signsOfWater 12 = .ok (.iconst 0, 1) := by decide +kernel
theorem dX6_signsOfWater_13 : decode cX6_signsOfWater 13 = .ok (.ireturn, 1) := by decide +kernel
theorem dX6_signsOfWater_14 : decode cX6_signsOfWater 14 = .ok (.iconst 0, 1) := by decide +kernel
theorem dX6_signsOfWater_15 : decode cX6_signsOfWater 15 = .ok (.istore 4, 2) := by decide +kernel
theorem dX6_signsOfWater_17 : decode cX6_signsOfWater 17 = .ok (.iconst 0, 1) := by decide +kernel
theorem dX6_signsOfWater_18 : decode cX6_signsOfWater 18 = .ok (.istore 5, 2) := by decide +kernel
theorem dX6_signsOfWater_20 : decode cX6_signsOfWater 20 = .ok (.iconst (-1), 1) := by decide +kernel
theorem dX6_signsOfWater_21 : decode cX6_signsOfWater 21 = .ok (.istore 6, 2) := by decide +kernel
theorem dX6_signsOfWater_23 : decode cX6_signsOfWater 23 = .ok (.iconst 0, 1) := by decide +kernel
theorem dX6_signsOfWater_24 : decode cX6_signsOfWater 24 = .ok (.istore 7, 2) := by decide +kernel
theorem dX6_signsOfWater_26 : decode cX6_signsOfWater 26 = .ok (.iconst 0, 1) := by decide +kernel
theorem dX6_signsOfWater_27 : decode cX6_signsOfWater 27 = .ok (.istore 8, 2) := by decide +kernel
theorem dX6_signsOfWater_29 : decode cX6_signsOfWater 29 = .ok (.iload 8, 2) := by decide +kernel
theorem dX6_signsOfWater_31 : decode cX6_signsOfWater 31 = .ok (.aload_n 0, 1) := by decide +kernel
theorem dX6_signsOfWater_32 : decode cX6_signsOfWater 32 = .ok (.getfield 25, 3) := by decide +kernel
theorem dX6_signsOfWater_35 : decode cX6_signsOfWater 35 = .ok (.getfield 26, 3) := by decide +kernel
theorem dX6_signsOfWater_38 : decode cX6_signsOfWater 38 = .ok (.if_icmp .ge 99, 3) := by decide +kernel
theorem dX6_signsOfWater_41 : decode cX6_signsOfWater 41 = .ok (.aload_n 0, 1) := by decide +kernel
theorem dX6_signsOfWater_42 : decode cX6_signsOfWater 42 = .ok (.getfield 25, 3) := by decide +kernel
theorem dX6_signsOfWater_45 : decode cX6_signsOfWater 45 = .ok (.iload 8, 2) := by decide +kernel
theorem dX6_signsOfWater_47 : decode cX6_signsOfWater 47 = .ok (.iconst 1, 1) := by decide +kernel
theorem dX6_signsOfWater_48 : decode cX6_signsOfWater 48 = .ok (.invokevirtual 36, 3) := by decide +kernel
theorem dX6_signsOfWater_51 : decode cX6_signsOfWater 51 = .ok (.istore 9, 2) := by decide +kernel
theorem dX6_signsOfWater_53 : decode cX6_signsOfWater 53 = .ok (.aload_n 0, 1) := by decide +kernel
theorem dX6_signsOfWater_54 : decode cX6_signsOfWater 54 = .ok (.iload 8, 2) := by decide +kernel
theorem dX6_signsOfWater_56 : decode cX6_signsOfWater 56 = .ok (.invokevirtual 76, 3) := by decide +kernel
theorem dX6_signsOfWater_59 : decode cX6_signsOfWater 59 = .ok (.istore 10, 2) := by decide +kernel
theorem dX6_signsOfWater_61 : decode cX6_signsOfWater 61 = .ok (.iload 10, 2) := by decide +kernel
theorem dX6_signsOfWater_63 : decode cX6_signsOfWater 63 = .ok (.iconst (-1), 1) := by decide +kernel
theorem dX6_signsOfWater_64 : decode cX6_signsOfWater 64 = .ok (.if_icmp .eq 67, 3) := by decide +kernel
theorem dX6_signsOfWater_67 : decode cX6_signsOfWater 67 = .ok (.aload_n 0, 1) := by decide +kernel
theorem dX6_signsOfWater_68 : decode cX6_signsOfWater 68 = .ok (.getfield 25, 3) := by decide +kernel
theorem dX6_signsOfWater_71 : decode cX6_signsOfWater 71 = .ok (.iload 8, 2) := by decide +kernel
theorem dX6_signsOfWater_73 : decode cX6_signsOfWater 73 = .ok (.iconst 0, 1) := by decide +kernel
theorem dX6_signsOfWater_74 : decode cX6_signsOfWater 74 = .ok (.invokevirtual 36, 3) := by decide +kernel
theorem dX6_signsOfWater_77 : decode cX6_signsOfWater 77 = .ok (.iload_n 1, 1) := by decide +kernel
theorem dX6_signsOfWater_78 : decode cX6_signsOfWater 78 = .ok (.if_icmp .ne 53, 3) := by decide +kernel
theorem dX6_signsOfWater_81 : decode cX6_signsOfWater 81 = .ok (.iload 9, 2) := by decide +kernel
theorem dX6_signsOfWater_83 : decode cX6_signsOfWater 83 = .ok (.bipush 7, 2) := by decide +kernel
theorem dX6_signsOfWater_85 : decode cX6_signsOfWater 85 = .ok (.idiv, 1) := by decide +kernel
theorem dX6_signsOfWater_86 : decode cX6_signsOfWater 86 = .ok (.iload_n 2, 1) := by decide +kernel
theorem dX6_signsOfWater_87 : decode cX6_signsOfWater 87 = .ok (.if_icmp .eq 6, 3) := by decide +kernel
theorem dX6_signsOfWater_90 : decode cX6_signsOfWater 90 = .ok (.goto 41, 3) := by decide +kernel
theorem dX6_signsOfWater_93 : decode cX6_signsOfWater 93 = .ok (.iinc 4 1, 3) := by decide +kernel
theorem dX6_signsOfWater_96 : decode cX6_signsOfWater 96 = .ok (.iload_n 3, 1) := by decide +kernel
theorem dX6_signsOfWater_97 : decode cX6_signsOfWater 97 = .ok (.iload 10, 2) := by decide +kernel
theorem dX6_signsOfWater_99 : decode cX6_signsOfWater 99 = .ok (.isub, 1) := by decide +kernel
theorem dX6_signsOfWater_100 : decode cX6_signsOfWater 100 = .ok (.bipush 40, 2) := by decide +kernel
theorem dX6_signsOfWater_102 : decode cX6_signsOfWater 102 = .ok (.if_icmp .ge 6, 3) := by decide +kernel
theorem dX6_signsOfWater_105 : decode cX6_signsOfWater 105 = .ok (.goto 26, 3) := by decide +kernel
theorem dX6_signsOfWater_108 : decode cX6_signsOfWater 108 = .ok (.iinc 5 1, 3) := by decide +kernel
theorem dX6_signsOfWater_111 : decode cX6_signsOfWater 111 = .ok (.iload 6, 2) := by decide +kernel
theorem dX6_signsOfWater_113 : decode cX6_signsOfWater 113 = .ok (.iconst (-1), 1) := by decide +kernel
theorem dX6_signsOfWater_114 : decode cX6_signsOfWater 114 = .ok (.if_icmp .ne 7, 3) := by decide +kernel
theorem dX6_signsOfWater_117 : decode cX6_signsOfWater 117 = .ok (.iload 9, 2) := by decide +kernel
theorem dX6_signsOfWater_119 : decode cX6_signsOfWater 119 = .ok (.istore 6, 2) := by decide +kernel
theorem dX6_signsOfWater_121 : decode cX6_signsOfWater 121 = .ok (.iload 9, 2) := by decide +kernel
theorem dX6_signsOfWater_123 : decode cX6_signsOfWater 123 = .ok (.iload 6, 2) := by decide +kernel
theorem dX6_signsOfWater_125 : decode cX6_signsOfWater 125 = .ok (.if_icmp .eq 6, 3) := by decide +kernel
theorem dX6_signsOfWater_128 : decode cX6_signsOfWater 128 = .ok (.iconst 1, 1) := by decide +kernel
theorem dX6_signsOfWater_129 : decode cX6_signsOfWater 129 = .ok (.istore 7, 2) := by decide +kernel
theorem dX6_signsOfWater_131 : decode cX6_signsOfWater 131 = .ok (.iinc 8 1, 3) := by decide +kernel
theorem dX6_signsOfWater_134 : decode cX6_signsOfWater 134 = .ok (.goto (-105), 3) := by decide +kernel
theorem dX6_signsOfWater_137 : decode cX6_signsOfWater 137 = .ok (.iload 7, 2) := by decide +kernel
theorem dX6_signsOfWater_139 : decode cX6_signsOfWater 139 = .ok (.ifCond .eq 17, 3) := by decide +kernel
theorem dX6_signsOfWater_142 : decode cX6_signsOfWater 142 = .ok (.iconst 2, 1) := by decide +kernel
theorem dX6_signsOfWater_143 : decode cX6_signsOfWater 143 = .ok (.iload 5, 2) := by decide +kernel
theorem dX6_signsOfWater_145 : decode cX6_signsOfWater 145 = .ok (.imul, 1) := by decide +kernel
theorem dX6_signsOfWater_146 : decode cX6_signsOfWater 146 = .ok (.iload 4, 2) := by decide +kernel
theorem dX6_signsOfWater_148 : decode cX6_signsOfWater 148 = .ok (.if_icmp .lt 8, 3) := by decide +kernel
theorem dX6_signsOfWater_151 : decode cX6_signsOfWater 151 = .ok (.iload 5, 2) := by decide +kernel
theorem dX6_signsOfWater_153 : decode cX6_signsOfWater 153 = .ok (.goto 4, 3) := by decide +kernel
theorem dX6_signsOfWater_156 : decode cX6_signsOfWater 156 = .ok (.iconst 0, 1) := by decide +kernel
theorem dX6_signsOfWater_157 : decode cX6_signsOfWater 157 = .ok (.ireturn, 1) := by decide +kernel
def f_X6_signsOfWater_b137 (M : q_Mem) (a4 : Int32) (a5 : Int32) (a7 : Int32) : Option Int32 :=
  (if a7 = 0 then
    some (0 : Int32)
  else
    (if ((2 : Int32) * a5) < a4 then
      some (0 : Int32)
    else
      some a5))
def f_X6_signsOfWater_b121 (kk29 : Int32 → Int32 → Int32 → Int32 → Int32 → Option Int32) (M : q_Mem) (a0 : Nat) (a1 : Int32) (a2 : Int32) (a3 : Int32) (a4 : Int32) (a5 : Int32) (a6 : Int32) (a7 : Int32) (a8 : Int32) (a9 : Int32) : Option Int32 :=
  (if a9 = a6 then
    kk29 a4 a5 a6 a7 (a8 + (1 : Int32))
  else
    kk29 a4 a5 a6 (1 : Int32) (a8 + (1 : Int32)))
def f_X6_signsOfWater_b29 (M : q_Mem) (a0 : Nat) (a1 : Int32) (a2 : Int32) (a3 : Int32) : Nat → Int32 → Int32 → Int32 → Int32 → Int32 → Option Int32
  | 0, _, _, _, _, _ => none
  | n + 1, a4, a5, a6, a7, a8 =>
    (q_gR 5 1 M a0).bind fun v4 =>
    (q_gI 8 3 M v4).bind fun v6 =>
    (if a8 < v6 then
      (q_gR 5 1 M a0).bind fun v8 =>
      (f_X9_at M v8 a8 (1 : Int32)).bind fun v11 =>
      (f_X6_rateLearned M a0 a8).bind fun v13 =>
      (if v13 = (-1 : Int32) then
        f_X6_signsOfWater_b29 M a0 a1 a2 a3 n a4 a5 a6 a7 (a8 + (1 : Int32))
      else
        (q_gR 5 1 M a0).bind fun v14 =>
        (f_X9_at M v14 a8 (0 : Int32)).bind fun v17 =>
        (if v17 = a1 then
          (q_dv v11 (7 : Int32)).bind fun v18 =>
          (if v18 = a2 then
            (if (a3 - v13) < (40 : Int32) then
              f_X6_signsOfWater_b29 M a0 a1 a2 a3 n (a4 + (1 : Int32)) a5 a6 a7 (a8 + (1 : Int32))
            else
              (if a6 = (-1 : Int32) then
                f_X6_signsOfWater_b121 (f_X6_signsOfWater_b29 M a0 a1 a2 a3 n) M a0 a1 a2 a3 (a4 + (1 : Int32)) (a5 + (1 : Int32)) v11 a7 a8 v11
              else
                f_X6_signsOfWater_b121 (f_X6_signsOfWater_b29 M a0 a1 a2 a3 n) M a0 a1 a2 a3 (a4 + (1 : Int32)) (a5 + (1 : Int32)) a6 a7 a8 v11))
          else
            f_X6_signsOfWater_b29 M a0 a1 a2 a3 n a4 a5 a6 a7 (a8 + (1 : Int32)))
        else
          f_X6_signsOfWater_b29 M a0 a1 a2 a3 n a4 a5 a6 a7 (a8 + (1 : Int32))))
    else
      f_X6_signsOfWater_b137 M a4 a5 a7)
def f_X6_signsOfWater (M : q_Mem) (a0 : Nat) (a1 : Int32) (a2 : Int32) : Option Int32 :=
  q_ob 5 M a0 ((f_X6_meanBefore M a0 a1 a2).bind fun v2 =>
  (if v2 = (-1 : Int32) then
    some (0 : Int32)
  else
    f_X6_signsOfWater_b29 M a0 a1 a2 v2 q_fuel (0 : Int32) (0 : Int32) (-1 : Int32) (0 : Int32) (0 : Int32)))
set_option maxRecDepth 20000 in
theorem v_X6_signsOfWater_b137 {M : q_Mem} {a4 : Int32} {a5 : Int32} {a7 : Int32}  : q_V Y_X6_signsOfWater none (fun x : Int32 => (some (.int x), M)) 0 0 137 [(4, .int a4), (5, .int a5), (7, .int a7)] [] M (f_X6_signsOfWater_b137 M a4 a5 a7 ) := by
  unfold f_X6_signsOfWater_b137
  refine q_iload 2 dX6_signsOfWater_137 rfl ?_
  refine q_if_eq (tgt := 156) dX6_signsOfWater_139 (by decide) (fun c28 => ?_) (fun c28 => ?_)
  · refine q_iconst (x := (0 : Int32)) dX6_signsOfWater_156 rfl ?_
    exact q_iret dX6_signsOfWater_157 rfl rfl (Nat.le_of_ble_eq_true rfl) rfl
  · refine q_iconst (x := (2 : Int32)) dX6_signsOfWater_142 rfl ?_
    refine q_iload 1 dX6_signsOfWater_143 rfl ?_
    refine q_imul dX6_signsOfWater_145 ?_
    refine q_iload 0 dX6_signsOfWater_146 rfl ?_
    refine q_icmp_lt (tgt := 156) dX6_signsOfWater_148 (by decide) (fun c27 => ?_) (fun c27 => ?_)
    · refine q_iconst (x := (0 : Int32)) dX6_signsOfWater_156 rfl ?_
      exact q_iret dX6_signsOfWater_157 rfl rfl (Nat.le_of_ble_eq_true rfl) rfl
    · refine q_iload 1 dX6_signsOfWater_151 rfl ?_
      refine q_goto (tgt := 157) dX6_signsOfWater_153 (by decide) ?_
      exact q_iret dX6_signsOfWater_157 rfl rfl (Nat.le_of_ble_eq_true rfl) rfl
set_option maxRecDepth 20000 in
theorem v_X6_signsOfWater_b121 {kk29 : Int32 → Int32 → Int32 → Int32 → Int32 → Option Int32} {M : q_Mem} {a0 : Nat} {a1 : Int32} {a2 : Int32} {a3 : Int32} {a4 : Int32} {a5 : Int32} {a6 : Int32} {a7 : Int32} {a8 : Int32} {a9 : Int32}  (hk29 : ∀ (a4 : Int32) (a5 : Int32) (a6 : Int32) (a7 : Int32) (a8 : Int32), q_V Y_X6_signsOfWater none (fun x : Int32 => (some (.int x), M)) 0 0 29 [(0, .ref a0), (1, .int a1), (2, .int a2), (3, .int a3), (4, .int a4), (5, .int a5), (6, .int a6), (7, .int a7), (8, .int a8)] [] M (kk29 a4 a5 a6 a7 a8)): q_V Y_X6_signsOfWater none (fun x : Int32 => (some (.int x), M)) 0 0 121 [(0, .ref a0), (1, .int a1), (2, .int a2), (3, .int a3), (4, .int a4), (5, .int a5), (6, .int a6), (7, .int a7), (8, .int a8), (9, .int a9)] [] M (f_X6_signsOfWater_b121 kk29 M a0 a1 a2 a3 a4 a5 a6 a7 a8 a9 ) := by
  unfold f_X6_signsOfWater_b121
  refine q_iload 9 dX6_signsOfWater_121 rfl ?_
  refine q_iload 6 dX6_signsOfWater_123 rfl ?_
  refine q_icmp_eq (tgt := 131) dX6_signsOfWater_125 (by decide) (fun c26 => ?_) (fun c26 => ?_)
  · refine q_iinc 8 (y := (a8 + (1 : Int32))) (ls' := [(8, .int (a8 + (1 : Int32))), (0, .ref a0), (1, .int a1), (2, .int a2), (3, .int a3), (4, .int a4), (5, .int a5), (6, .int a6), (7, .int a7), (9, .int a9)]) dX6_signsOfWater_131 rfl rfl (by decide) rfl ?_
    refine q_goto (tgt := 29) dX6_signsOfWater_134 (by decide) ?_
    refine q_sub (ls' := [(0, .ref a0), (1, .int a1), (2, .int a2), (3, .int a3), (4, .int a4), (5, .int a5), (6, .int a6), (7, .int a7), (8, .int (a8 + (1 : Int32)))]) [1, 2, 3, 4, 5, 6, 7, 8, 0] rfl ?_
    exact hk29 _ _ _ _ _
  · refine q_iconst (x := (1 : Int32)) dX6_signsOfWater_128 rfl ?_
    refine q_istore (ls' := [(7, .int (1 : Int32)), (0, .ref a0), (1, .int a1), (2, .int a2), (3, .int a3), (4, .int a4), (5, .int a5), (6, .int a6), (8, .int a8), (9, .int a9)]) dX6_signsOfWater_129 (by decide) rfl ?_
    refine q_iinc 8 (y := (a8 + (1 : Int32))) (ls' := [(8, .int (a8 + (1 : Int32))), (7, .int (1 : Int32)), (0, .ref a0), (1, .int a1), (2, .int a2), (3, .int a3), (4, .int a4), (5, .int a5), (6, .int a6), (9, .int a9)]) dX6_signsOfWater_131 rfl rfl (by decide) rfl ?_
    refine q_goto (tgt := 29) dX6_signsOfWater_134 (by decide) ?_
    refine q_sub (ls' := [(0, .ref a0), (1, .int a1), (2, .int a2), (3, .int a3), (4, .int a4), (5, .int a5), (6, .int a6), (7, .int (1 : Int32)), (8, .int (a8 + (1 : Int32)))]) [2, 3, 4, 5, 6, 7, 8, 1, 0] rfl ?_
    exact hk29 _ _ _ _ _
set_option maxRecDepth 20000 in
theorem v_X6_signsOfWater_b29 {M : q_Mem} {a0 : Nat} {a1 : Int32} {a2 : Int32} {a3 : Int32}  : ∀ (n : Nat) (a4 : Int32) (a5 : Int32) (a6 : Int32) (a7 : Int32) (a8 : Int32), q_V Y_X6_signsOfWater none (fun x : Int32 => (some (.int x), M)) 0 0 29 [(0, .ref a0), (1, .int a1), (2, .int a2), (3, .int a3), (4, .int a4), (5, .int a5), (6, .int a6), (7, .int a7), (8, .int a8)] [] M (f_X6_signsOfWater_b29 M a0 a1 a2 a3 n a4 a5 a6 a7 a8) := by
  intro n
  induction n with
  | zero => intro a4 a5 a6 a7 a8; exact q_none
  | succ n ih =>
    intro a4 a5 a6 a7 a8
    rw [f_X6_signsOfWater_b29.eq_2]
    refine q_iload 8 dX6_signsOfWater_29 rfl ?_
    refine q_aload_n 0 dX6_signsOfWater_31 rfl ?_
    refine q_getR (f := 1) cl_X6 (by decide) qw_164 rfl dX6_signsOfWater_32 (fun _ _ _ => rfl) (fun v4 h5 => ?_)
    refine q_getI (f := 3) cl_X9 (by decide) qw_45 rfl dX6_signsOfWater_35 (Or.inl rfl) (fun v6 h7 => ?_)
    refine q_icmp_ge (tgt := 137) dX6_signsOfWater_38 (by decide) (fun c25 => ?_) (fun c25 => ?_)
    · refine q_aload_n 0 dX6_signsOfWater_41 rfl ?_
      refine q_getR (f := 1) cl_X6 (by decide) qw_164 rfl dX6_signsOfWater_42 (fun _ _ _ => rfl) (fun v8 h9 => ?_)
      refine q_iload 8 dX6_signsOfWater_45 rfl ?_
      refine q_iconst (x := (1 : Int32)) dX6_signsOfWater_47 rfl ?_
      refine q_cVI (Y2 := Y_X9_at) (As := [.int a8, .int (1 : Int32)]) (b := v8) (st := []) cl_X9 mv_X9_at qw_466 dX6_signsOfWater_48 ⟨Nat.le_of_ble_eq_true rfl, Nat.le_of_ble_eq_true rfl⟩ rfl (fun _ _ => rfl) (Nat.le_of_ble_eq_true rfl) ⟨Nat.le_of_ble_eq_true rfl, Nat.le_of_ble_eq_true rfl⟩ (fun v11 h10 => q_ob_is h10) (fun v11 h10 => m_X9_at h10) (fun v11 h10 => ?_)
      refine q_istore (ls' := [(9, .int v11), (0, .ref a0), (1, .int a1), (2, .int a2), (3, .int a3), (4, .int a4), (5, .int a5), (6, .int a6), (7, .int a7), (8, .int a8)]) dX6_signsOfWater_51 (by decide) rfl ?_
      refine q_aload_n 1 dX6_signsOfWater_53 rfl ?_
      refine q_iload 9 dX6_signsOfWater_54 rfl ?_
      refine q_cVI (Y2 := Y_X6_rateLearned) (As := [.int a8]) (b := a0) (st := []) cl_X6 mv_X6_rateLearned qw_504 dX6_signsOfWater_56 ⟨Nat.le_of_ble_eq_true rfl, Nat.le_of_ble_eq_true rfl⟩ rfl (fun _ _ => rfl) (Nat.le_of_ble_eq_true rfl) ⟨Nat.le_of_ble_eq_true rfl, Nat.le_of_ble_eq_true rfl⟩ (fun v13 h12 => q_ob_is h12) (fun v13 h12 => m_X6_rateLearned h12) (fun v13 h12 => ?_)
      refine q_istore (ls' := [(10, .int v13), (9, .int v11), (0, .ref a0), (1, .int a1), (2, .int a2), (3, .int a3), (4, .int a4), (5, .int a5), (6, .int a6), (7, .int a7), (8, .int a8)]) dX6_signsOfWater_59 (by decide) rfl ?_
      refine q_iload 0 dX6_signsOfWater_61 rfl ?_
      refine q_iconst (x := (-1 : Int32)) dX6_signsOfWater_63 rfl ?_
      refine q_icmp_eq (tgt := 131) dX6_signsOfWater_64 (by decide) (fun c24 => ?_) (fun c24 => ?_)
      · refine q_iinc 10 (y := (a8 + (1 : Int32))) (ls' := [(8, .int (a8 + (1 : Int32))), (10, .int v13), (9, .int v11), (0, .ref a0), (1, .int a1), (2, .int a2), (3, .int a3), (4, .int a4), (5, .int a5), (6, .int a6), (7, .int a7)]) dX6_signsOfWater_131 rfl rfl (by decide) rfl ?_
        refine q_goto (tgt := 29) dX6_signsOfWater_134 (by decide) ?_
        refine q_sub (ls' := [(0, .ref a0), (1, .int a1), (2, .int a2), (3, .int a3), (4, .int a4), (5, .int a5), (6, .int a6), (7, .int a7), (8, .int (a8 + (1 : Int32)))]) [3, 4, 5, 6, 7, 8, 9, 10, 0] rfl ?_
        exact ih _ _ _ _ _
      · refine q_aload_n 2 dX6_signsOfWater_67 rfl ?_
        refine q_getR (f := 1) cl_X6 (by decide) qw_164 rfl dX6_signsOfWater_68 (fun _ _ _ => rfl) (fun v14 h15 => ?_)
        refine q_iload 10 dX6_signsOfWater_71 rfl ?_
        refine q_iconst (x := (0 : Int32)) dX6_signsOfWater_73 rfl ?_
        refine q_cVI (Y2 := Y_X9_at) (As := [.int a8, .int (0 : Int32)]) (b := v14) (st := []) cl_X9 mv_X9_at qw_466 dX6_signsOfWater_74 ⟨Nat.le_of_ble_eq_true rfl, Nat.le_of_ble_eq_true rfl⟩ rfl (fun _ _ => rfl) (Nat.le_of_ble_eq_true rfl) ⟨Nat.le_of_ble_eq_true rfl, Nat.le_of_ble_eq_true rfl⟩ (fun v17 h16 => q_ob_is h16) (fun v17 h16 => m_X9_at h16) (fun v17 h16 => ?_)
        refine q_iload_n 3 dX6_signsOfWater_77 rfl ?_
        refine q_icmp_ne (tgt := 131) dX6_signsOfWater_78 (by decide) (fun c23 => ?_) (fun c23 => ?_)
        · refine q_iload 1 dX6_signsOfWater_81 rfl ?_
          refine q_bipush (x := (7 : Int32)) dX6_signsOfWater_83 rfl ?_
          refine q_idiv dX6_signsOfWater_85 (fun v18 h19 => ?_)
          refine q_iload_n 4 dX6_signsOfWater_86 rfl ?_
          refine q_icmp_eq (tgt := 93) dX6_signsOfWater_87 (by decide) (fun c22 => ?_) (fun c22 => ?_)
          · refine q_iinc 6 (y := (a4 + (1 : Int32))) (ls' := [(4, .int (a4 + (1 : Int32))), (10, .int v13), (9, .int v11), (0, .ref a0), (1, .int a1), (2, .int a2), (3, .int a3), (5, .int a5), (6, .int a6), (7, .int a7), (8, .int a8)]) dX6_signsOfWater_93 rfl rfl (by decide) rfl ?_
            refine q_iload_n 6 dX6_signsOfWater_96 rfl ?_
            refine q_iload 1 dX6_signsOfWater_97 rfl ?_
            refine q_isub dX6_signsOfWater_99 ?_
            refine q_bipush (x := (40 : Int32)) dX6_signsOfWater_100 rfl ?_
            refine q_icmp_ge (tgt := 108) dX6_signsOfWater_102 (by decide) (fun c21 => ?_) (fun c21 => ?_)
            · refine q_goto (tgt := 131) dX6_signsOfWater_105 (by decide) ?_
              refine q_iinc 10 (y := (a8 + (1 : Int32))) (ls' := [(8, .int (a8 + (1 : Int32))), (4, .int (a4 + (1 : Int32))), (10, .int v13), (9, .int v11), (0, .ref a0), (1, .int a1), (2, .int a2), (3, .int a3), (5, .int a5), (6, .int a6), (7, .int a7)]) dX6_signsOfWater_131 rfl rfl (by decide) rfl ?_
              refine q_goto (tgt := 29) dX6_signsOfWater_134 (by decide) ?_
              refine q_sub (ls' := [(0, .ref a0), (1, .int a1), (2, .int a2), (3, .int a3), (4, .int (a4 + (1 : Int32))), (5, .int a5), (6, .int a6), (7, .int a7), (8, .int (a8 + (1 : Int32)))]) [4, 5, 6, 7, 1, 8, 9, 10, 0] rfl ?_
              exact ih _ _ _ _ _
            · refine q_iinc 7 (y := (a5 + (1 : Int32))) (ls' := [(5, .int (a5 + (1 : Int32))), (4, .int (a4 + (1 : Int32))), (10, .int v13), (9, .int v11), (0, .ref a0), (1, .int a1), (2, .int a2), (3, .int a3), (6, .int a6), (7, .int a7), (8, .int a8)]) dX6_signsOfWater_108 rfl rfl (by decide) rfl ?_
              refine q_iload 8 dX6_signsOfWater_111 rfl ?_
              refine q_iconst (x := (-1 : Int32)) dX6_signsOfWater_113 rfl ?_
              refine q_icmp_ne (tgt := 121) dX6_signsOfWater_114 (by decide) (fun c20 => ?_) (fun c20 => ?_)
              · refine q_iload 3 dX6_signsOfWater_117 rfl ?_
                refine q_istore (ls' := [(6, .int v11), (5, .int (a5 + (1 : Int32))), (4, .int (a4 + (1 : Int32))), (10, .int v13), (9, .int v11), (0, .ref a0), (1, .int a1), (2, .int a2), (3, .int a3), (7, .int a7), (8, .int a8)]) dX6_signsOfWater_119 (by decide) rfl ?_
                refine q_sub (ls' := [(0, .ref a0), (1, .int a1), (2, .int a2), (3, .int a3), (4, .int (a4 + (1 : Int32))), (5, .int (a5 + (1 : Int32))), (6, .int v11), (7, .int a7), (8, .int a8), (9, .int v11)]) [5, 6, 7, 8, 2, 1, 0, 9, 10, 4] rfl ?_
                exact v_X6_signsOfWater_b121 (ih)
              · refine q_sub (ls' := [(0, .ref a0), (1, .int a1), (2, .int a2), (3, .int a3), (4, .int (a4 + (1 : Int32))), (5, .int (a5 + (1 : Int32))), (6, .int a6), (7, .int a7), (8, .int a8), (9, .int v11)]) [4, 5, 6, 7, 1, 0, 8, 9, 10, 3] rfl ?_
                exact v_X6_signsOfWater_b121 (ih)
          · refine q_goto (tgt := 131) dX6_signsOfWater_90 (by decide) ?_
            refine q_iinc 10 (y := (a8 + (1 : Int32))) (ls' := [(8, .int (a8 + (1 : Int32))), (10, .int v13), (9, .int v11), (0, .ref a0), (1, .int a1), (2, .int a2), (3, .int a3), (4, .int a4), (5, .int a5), (6, .int a6), (7, .int a7)]) dX6_signsOfWater_131 rfl rfl (by decide) rfl ?_
            refine q_goto (tgt := 29) dX6_signsOfWater_134 (by decide) ?_
            refine q_sub (ls' := [(0, .ref a0), (1, .int a1), (2, .int a2), (3, .int a3), (4, .int a4), (5, .int a5), (6, .int a6), (7, .int a7), (8, .int (a8 + (1 : Int32)))]) [3, 4, 5, 6, 7, 8, 9, 10, 0] rfl ?_
            exact ih _ _ _ _ _
        · refine q_iinc 10 (y := (a8 + (1 : Int32))) (ls' := [(8, .int (a8 + (1 : Int32))), (10, .int v13), (9, .int v11), (0, .ref a0), (1, .int a1), (2, .int a2), (3, .int a3), (4, .int a4), (5, .int a5), (6, .int a6), (7, .int a7)]) dX6_signsOfWater_131 rfl rfl (by decide) rfl ?_
          refine q_goto (tgt := 29) dX6_signsOfWater_134 (by decide) ?_
          refine q_sub (ls' := [(0, .ref a0), (1, .int a1), (2, .int a2), (3, .int a3), (4, .int a4), (5, .int a5), (6, .int a6), (7, .int a7), (8, .int (a8 + (1 : Int32)))]) [3, 4, 5, 6, 7, 8, 9, 10, 0] rfl ?_
          exact ih _ _ _ _ _
    · refine q_sub (ls' := [(4, .int a4), (5, .int a5), (7, .int a7)]) [4, 5, 7] rfl ?_
      exact v_X6_signsOfWater_b137
set_option maxRecDepth 20000 in
theorem m_X6_signsOfWater {M : q_Mem} {a0 : Nat} {a1 : Int32} {a2 : Int32} {x : Int32} (h : f_X6_signsOfWater M a0 a1 a2 = some x) : q_C Y_X6_signsOfWater [.ref a0, .int a1, .int a2] M (some (.int x)) M := by
  refine q_met (φ := (fun x : Int32 => (some (.int x), M))) (r := f_X6_signsOfWater M a0 a1 a2) (by decide +kernel) (Nat.le_of_ble_eq_true rfl) ?_ h (fun _ _ => rfl)
  show q_V Y_X6_signsOfWater none (fun x : Int32 => (some (.int x), M)) 0 0 0 [(0, .ref a0), (1, .int a1), (2, .int a2)] [] M (f_X6_signsOfWater M a0 a1 a2)
  unfold f_X6_signsOfWater
  refine q_obV ?_
  refine q_aload_n 0 dX6_signsOfWater_0 rfl ?_
  refine q_iload_n 1 dX6_signsOfWater_1 rfl ?_
  refine q_iload_n 2 dX6_signsOfWater_2 rfl ?_
  refine q_cVI (Y2 := Y_X6_meanBefore) (As := [.int a1, .int a2]) (b := a0) (st := []) cl_X6 mv_X6_meanBefore qw_857 dX6_signsOfWater_3 ⟨Nat.le_of_ble_eq_true rfl, Nat.le_of_ble_eq_true rfl⟩ rfl (fun _ _ => rfl) (Nat.le_of_ble_eq_true rfl) ⟨Nat.le_of_ble_eq_true rfl, Nat.le_of_ble_eq_true rfl⟩ (fun v2 h1 => q_ob_is h1) (fun v2 h1 => m_X6_meanBefore h1) (fun v2 h1 => ?_)
  refine q_istore_n (ls' := [(3, .int v2), (0, .ref a0), (1, .int a1), (2, .int a2)]) dX6_signsOfWater_6 (by decide) rfl ?_
  refine q_iload_n 0 dX6_signsOfWater_7 rfl ?_
  refine q_iconst (x := (-1 : Int32)) dX6_signsOfWater_8 rfl ?_
  refine q_icmp_ne (tgt := 14) dX6_signsOfWater_9 (by decide) (fun c3 => ?_) (fun c3 => ?_)
  · refine q_iconst (x := (0 : Int32)) dX6_signsOfWater_12 rfl ?_
    exact q_iret dX6_signsOfWater_13 rfl rfl (Nat.le_of_ble_eq_true rfl) rfl
  · refine q_iconst (x := (0 : Int32)) dX6_signsOfWater_14 rfl ?_
    refine q_istore (ls' := [(4, .int (0 : Int32)), (3, .int v2), (0, .ref a0), (1, .int a1), (2, .int a2)]) dX6_signsOfWater_15 (by decide) rfl ?_
    refine q_iconst (x := (0 : Int32)) dX6_signsOfWater_17 rfl ?_
    refine q_istore (ls' := [(5, .int (0 : Int32)), (4, .int (0 : Int32)), (3, .int v2), (0, .ref a0), (1, .int a1), (2, .int a2)]) dX6_signsOfWater_18 (by decide) rfl ?_
    refine q_iconst (x := (-1 : Int32)) dX6_signsOfWater_20 rfl ?_
    refine q_istore (ls' := [(6, .int (-1 : Int32)), (5, .int (0 : Int32)), (4, .int (0 : Int32)), (3, .int v2), (0, .ref a0), (1, .int a1), (2, .int a2)]) dX6_signsOfWater_21 (by decide) rfl ?_
    refine q_iconst (x := (0 : Int32)) dX6_signsOfWater_23 rfl ?_
    refine q_istore (ls' := [(7, .int (0 : Int32)), (6, .int (-1 : Int32)), (5, .int (0 : Int32)), (4, .int (0 : Int32)), (3, .int v2), (0, .ref a0), (1, .int a1), (2, .int a2)]) dX6_signsOfWater_24 (by decide) rfl ?_
    refine q_iconst (x := (0 : Int32)) dX6_signsOfWater_26 rfl ?_
    refine q_istore (ls' := [(8, .int (0 : Int32)), (7, .int (0 : Int32)), (6, .int (-1 : Int32)), (5, .int (0 : Int32)), (4, .int (0 : Int32)), (3, .int v2), (0, .ref a0), (1, .int a1), (2, .int a2)]) dX6_signsOfWater_27 (by decide) rfl ?_
    refine q_sub (ls' := [(0, .ref a0), (1, .int a1), (2, .int a2), (3, .int v2), (4, .int (0 : Int32)), (5, .int (0 : Int32)), (6, .int (-1 : Int32)), (7, .int (0 : Int32)), (8, .int (0 : Int32))]) [6, 7, 8, 5, 4, 3, 2, 1, 0] rfl ?_
    exact v_X6_signsOfWater_b29 _ _ _ _ _ _
theorem dX7_init_0 : decode cX7_init 0 = .ok (.aload_n 0, 1) := by decide +kernel
theorem dX7_init_1 : decode cX7_init 1 = .ok (.invokespecial 3, 3) := by decide +kernel
theorem dX7_init_4 : decode cX7_init 4 = .ok (.aload_n 0, 1) := by decide +kernel
theorem dX7_init_5 : decode cX7_init 5 = .ok (.bipush 20, 2) := by decide +kernel
theorem dX7_init_7 : decode cX7_init 7 = .ok (.newarray .int, 2) := by decide +kernel
theorem dX7_init_9 : decode cX7_init 9 = .ok (.putfield 9, 3) := by decide +kernel
theorem dX7_init_12 : decode cX7_init 12 = .ok (.aload_n 0, 1) := by decide +kernel
theorem dX7_init_13 : decode cX7_init 13 = .ok (.bipush 20, 2) := by decide +kernel
theorem dX7_init_15 : decode cX7_init 15 = .ok (.newarray .long, 2) := by decide +kernel
theorem dX7_init_17 : decode cX7_init 17 = .ok (.putfield 15, 3) := by decide +kernel
theorem dX7_init_20 : decode cX7_init 20 = .ok (.aload_n 0, 1) := by decide +kernel
theorem dX7_init_21 : decode cX7_init 21 = .ok (.bipush 20, 2) := by decide +kernel
theorem dX7_init_23 : decode cX7_init 23 = .ok (.newarray .int, 2) := by decide +kernel
theorem dX7_init_25 : decode cX7_init 25 = .ok (.putfield 19, 3) := by decide +kernel
theorem dX7_init_28 : decode cX7_init 28 = .ok (.aload_n 0, 1) := by decide +kernel
theorem dX7_init_29 : decode cX7_init 29 = .ok (.bipush 20, 2) := by decide +kernel
theorem dX7_init_31 : decode cX7_init 31 = .ok (.newarray .int, 2) := by decide +kernel
theorem dX7_init_33 : decode cX7_init 33 = .ok (.putfield 22, 3) := by decide +kernel
theorem dX7_init_36 : decode cX7_init 36 = .ok (.aload_n 0, 1) := by decide +kernel
theorem dX7_init_37 : decode cX7_init 37 = .ok (.bipush 20, 2) := by decide +kernel
theorem dX7_init_39 : decode cX7_init 39 = .ok (.newarray .int, 2) := by decide +kernel
theorem dX7_init_41 : decode cX7_init 41 = .ok (.putfield 25, 3) := by decide +kernel
theorem dX7_init_44 : decode cX7_init 44 = .ok (.aload_n 0, 1) := by decide +kernel
theorem dX7_init_45 : decode cX7_init 45 = .ok (.bipush 20, 2) := by decide +kernel
theorem dX7_init_47 : decode cX7_init 47 = .ok (.newarray .long, 2) := by decide +kernel
theorem dX7_init_49 : decode cX7_init 49 = .ok (.putfield 28, 3) := by decide +kernel
theorem dX7_init_52 : decode cX7_init 52 = .ok (.aload_n 0, 1) := by decide +kernel
theorem dX7_init_53 : decode cX7_init 53 = .ok (.aload_n 1, 1) := by decide +kernel
theorem dX7_init_54 : decode cX7_init 54 = .ok (.putfield 31, 3) := by decide +kernel
theorem dX7_init_57 : decode cX7_init 57 = .ok (.aload_n 0, 1) := by decide +kernel
theorem dX7_init_58 : decode cX7_init 58 = .ok (.aload_n 2, 1) := by decide +kernel
theorem dX7_init_59 : decode cX7_init 59 = .ok (.putfield 35, 3) := by decide +kernel
theorem dX7_init_62 : decode cX7_init 62 = .ok (.aload_n 0, 1) := by decide +kernel
theorem dX7_init_63 : decode cX7_init 63 = .ok (.aload_n 3, 1) := by decide +kernel
theorem dX7_init_64 : decode cX7_init 64 = .ok (.putfield 39, 3) := by decide +kernel
theorem dX7_init_67 : decode cX7_init 67 = .ok (.aload_n 0, 1) := by decide +kernel
theorem dX7_init_68 : decode cX7_init 68 = .ok (.aload 4, 2) := by decide +kernel
theorem dX7_init_70 : decode cX7_init 70 = .ok (.putfield 43, 3) := by decide +kernel
theorem dX7_init_73 : decode cX7_init 73 = .ok (.return_, 1) := by decide +kernel
def f_X7_init (M : q_Mem) (a0 : Nat) (a1 : Nat) (a2 : Nat) (a3 : Nat) (a4 : Nat) : Option q_Mem :=
  q_ob 6 M a0 ((q_na M 100 (20 : Int32)).bind fun M1 =>
  (q_pR 6 4 M1 a0 M.1).bind fun M2 =>
  (q_na M2 101 (20 : Int32)).bind fun M4 =>
  (q_pR 6 5 M4 a0 M2.1).bind fun M5 =>
  (q_na M5 100 (20 : Int32)).bind fun M7 =>
  (q_pR 6 6 M7 a0 M5.1).bind fun M8 =>
  (q_na M8 100 (20 : Int32)).bind fun M10 =>
  (q_pR 6 7 M10 a0 M8.1).bind fun M11 =>
  (q_na M11 100 (20 : Int32)).bind fun M13 =>
  (q_pR 6 8 M13 a0 M11.1).bind fun M14 =>
  (q_na M14 101 (20 : Int32)).bind fun M16 =>
  (q_pR 6 9 M16 a0 M14.1).bind fun M17 =>
  (q_pR 6 0 M17 a0 a1).bind fun M19 =>
  (q_pR 6 1 M19 a0 a2).bind fun M21 =>
  (q_pR 6 2 M21 a0 a3).bind fun M23 =>
  (q_pR 6 3 M23 a0 a4).bind fun M25 =>
  some M25)
set_option maxRecDepth 20000 in
theorem m_X7_init {M : q_Mem} {a0 : Nat} {a1 : Nat} {a2 : Nat} {a3 : Nat} {a4 : Nat} {x : q_Mem} (h : f_X7_init M a0 a1 a2 a3 a4 = some x) : q_C Y_X7_init [.ref a0, .ref a1, .ref a2, .ref a3, .ref a4] M none x := by
  refine q_met (φ := (fun x : q_Mem => (none, x))) (r := f_X7_init M a0 a1 a2 a3 a4) (by decide +kernel) (Nat.le_of_ble_eq_true rfl) ?_ h (fun _ _ => rfl)
  show q_V Y_X7_init none (fun x : q_Mem => (none, x)) 0 0 0 [(0, .ref a0), (1, .ref a1), (2, .ref a2), (3, .ref a3), (4, .ref a4)] [] M (f_X7_init M a0 a1 a2 a3 a4)
  unfold f_X7_init
  refine q_obV ?_
  refine q_aload_n 0 dX7_init_0 rfl ?_
  refine q_objInit qw_259 qo_2 qo_3 dX7_init_1 (Nat.le_of_ble_eq_true rfl) (Nat.le_of_ble_eq_true rfl) (Nat.le_of_ble_eq_true rfl) ?_
  refine q_aload_n 0 dX7_init_4 rfl ?_
  refine q_bipush (x := (20 : Int32)) dX7_init_5 rfl ?_
  refine q_newarr (at_ := .int) (ty := .int) (len := 20) rfl qa_int (Or.inl ⟨rfl, rfl, rfl⟩) (by decide) rfl (by decide) (Nat.le_of_ble_eq_true rfl) (Nat.le_of_ble_eq_true rfl) dX7_init_7 ?_
  refine q_putR (f := 4) cl_X7 (by decide) qw_264 rfl (Or.inr ⟨rfl, rfl, rfl⟩) dX7_init_9 (fun _ _ _ => rfl) (fun _ => rfl) (fun _ => rfl) (fun M2 h3 => ?_)
  refine q_aload_n 0 dX7_init_12 rfl ?_
  refine q_bipush (x := (20 : Int32)) dX7_init_13 rfl ?_
  refine q_newarr (at_ := .long) (ty := .long) (len := 20) rfl qa_long (Or.inr (Or.inl ⟨rfl, rfl, rfl⟩)) (by decide) rfl (by decide) (Nat.le_of_ble_eq_true rfl) (Nat.le_of_ble_eq_true rfl) dX7_init_15 ?_
  refine q_putR (f := 5) cl_X7 (by decide) qw_265 rfl (Or.inr ⟨rfl, rfl, rfl⟩) dX7_init_17 (fun _ _ _ => rfl) (fun _ => rfl) (fun _ => rfl) (fun M5 h6 => ?_)
  refine q_aload_n 0 dX7_init_20 rfl ?_
  refine q_bipush (x := (20 : Int32)) dX7_init_21 rfl ?_
  refine q_newarr (at_ := .int) (ty := .int) (len := 20) rfl qa_int (Or.inl ⟨rfl, rfl, rfl⟩) (by decide) rfl (by decide) (Nat.le_of_ble_eq_true rfl) (Nat.le_of_ble_eq_true rfl) dX7_init_23 ?_
  refine q_putR (f := 6) cl_X7 (by decide) qw_266 rfl (Or.inr ⟨rfl, rfl, rfl⟩) dX7_init_25 (fun _ _ _ => rfl) (fun _ => rfl) (fun _ => rfl) (fun M8 h9 => ?_)
  refine q_aload_n 0 dX7_init_28 rfl ?_
  refine q_bipush (x := (20 : Int32)) dX7_init_29 rfl ?_
  refine q_newarr (at_ := .int) (ty := .int) (len := 20) rfl qa_int (Or.inl ⟨rfl, rfl, rfl⟩) (by decide) rfl (by decide) (Nat.le_of_ble_eq_true rfl) (Nat.le_of_ble_eq_true rfl) dX7_init_31 ?_
  refine q_putR (f := 7) cl_X7 (by decide) qw_267 rfl (Or.inr ⟨rfl, rfl, rfl⟩) dX7_init_33 (fun _ _ _ => rfl) (fun _ => rfl) (fun _ => rfl) (fun M11 h12 => ?_)
  refine q_aload_n 0 dX7_init_36 rfl ?_
  refine q_bipush (x := (20 : Int32)) dX7_init_37 rfl ?_
  refine q_newarr (at_ := .int) (ty := .int) (len := 20) rfl qa_int (Or.inl ⟨rfl, rfl, rfl⟩) (by decide) rfl (by decide) (Nat.le_of_ble_eq_true rfl) (Nat.le_of_ble_eq_true rfl) dX7_init_39 ?_
  refine q_putR (f := 8) cl_X7 (by decide) qw_268 rfl (Or.inr ⟨rfl, rfl, rfl⟩) dX7_init_41 (fun _ _ _ => rfl) (fun _ => rfl) (fun _ => rfl) (fun M14 h15 => ?_)
  refine q_aload_n 0 dX7_init_44 rfl ?_
  refine q_bipush (x := (20 : Int32)) dX7_init_45 rfl ?_
  refine q_newarr (at_ := .long) (ty := .long) (len := 20) rfl qa_long (Or.inr (Or.inl ⟨rfl, rfl, rfl⟩)) (by decide) rfl (by decide) (Nat.le_of_ble_eq_true rfl) (Nat.le_of_ble_eq_true rfl) dX7_init_47 ?_
  refine q_putR (f := 9) cl_X7 (by decide) qw_269 rfl (Or.inr ⟨rfl, rfl, rfl⟩) dX7_init_49 (fun _ _ _ => rfl) (fun _ => rfl) (fun _ => rfl) (fun M17 h18 => ?_)
  refine q_aload_n 0 dX7_init_52 rfl ?_
  refine q_aload_n 1 dX7_init_53 rfl ?_
  refine q_putR (f := 0) cl_X7 (by decide) qw_260 rfl (Or.inr ⟨rfl, rfl, rfl⟩) dX7_init_54 (fun _ _ _ => rfl) (fun _ => rfl) (fun _ => rfl) (fun M19 h20 => ?_)
  refine q_aload_n 0 dX7_init_57 rfl ?_
  refine q_aload_n 2 dX7_init_58 rfl ?_
  refine q_putR (f := 1) cl_X7 (by decide) qw_261 rfl (Or.inr ⟨rfl, rfl, rfl⟩) dX7_init_59 (fun _ _ _ => rfl) (fun _ => rfl) (fun _ => rfl) (fun M21 h22 => ?_)
  refine q_aload_n 0 dX7_init_62 rfl ?_
  refine q_aload_n 3 dX7_init_63 rfl ?_
  refine q_putR (f := 2) cl_X7 (by decide) qw_262 rfl (Or.inr ⟨rfl, rfl, rfl⟩) dX7_init_64 (fun _ _ _ => rfl) (fun _ => rfl) (fun _ => rfl) (fun M23 h24 => ?_)
  refine q_aload_n 0 dX7_init_67 rfl ?_
  refine q_aload 4 dX7_init_68 rfl ?_
  refine q_putR (f := 3) cl_X7 (by decide) qw_263 rfl (Or.inr ⟨rfl, rfl, rfl⟩) dX7_init_70 (fun _ _ _ => rfl) (fun _ => rfl) (fun _ => rfl) (fun M25 h26 => ?_)
  exact q_vret dX7_init_73 rfl rfl (Nat.le_of_ble_eq_true rfl) rfl
theorem dJ7_fill_53178_0 : decode cJ7_fill_53178 0 = .ok (.iconst 0, 1) := by decide +kernel
theorem dJ7_fill_53178_1 : decode cJ7_fill_53178 1 = .ok (.istore_n 2, 1) := by decide +kernel
theorem dJ7_fill_53178_2 : decode cJ7_fill_53178 2 = .ok (.aload_n 0, 1) := by decide +kernel
theorem dJ7_fill_53178_3 : decode cJ7_fill_53178 3 = .ok (.arraylength, 1) := by decide +kernel
theorem dJ7_fill_53178_4 : decode cJ7_fill_53178 4 = .ok (.istore_n 3, 1) := by decide +kernel
theorem dJ7_fill_53178_5 : decode cJ7_fill_53178 5 = .ok (.iload_n 2, 1) := by decide +kernel
theorem dJ7_fill_53178_6 : decode cJ7_fill_53178 6 = .ok (.iload_n 3, 1) := by decide +kernel
theorem dJ7_fill_53178_7 : decode cJ7_fill_53178 7 = .ok (.if_icmp .ge 13, 3) := by decide +kernel
theorem dJ7_fill_53178_10 : decode cJ7_fill_53178 10 = .ok (.aload_n 0, 1) := by decide +kernel
theorem dJ7_fill_53178_11 : decode cJ7_fill_53178 11 = .ok (.iload_n 2, 1) := by decide +kernel
theorem dJ7_fill_53178_12 : decode cJ7_fill_53178 12 = .ok (.iload_n 1, 1) := by decide +kernel
theorem dJ7_fill_53178_13 : decode cJ7_fill_53178 13 = .ok (.iastore, 1) := by decide +kernel
theorem dJ7_fill_53178_14 : decode cJ7_fill_53178 14 = .ok (.iinc 2 1, 3) := by decide +kernel
theorem dJ7_fill_53178_17 : decode cJ7_fill_53178 17 = .ok (.goto (-12), 3) := by decide +kernel
theorem dJ7_fill_53178_20 : decode cJ7_fill_53178 20 = .ok (.return_, 1) := by decide +kernel
def f_J7_fill_53178_b5 (a0 : Nat) (a1 : Int32) (a3 : Int32) : Nat → Int32 → q_Mem → Option q_Mem
  | 0, _, _ => none
  | n + 1, a2, M =>
    (if a2 < a3 then
      (q_tI M a0 a2 a1).bind fun M3 =>
      f_J7_fill_53178_b5 a0 a1 a3 n (a2 + (1 : Int32)) M3
    else
      some M)
def f_J7_fill_53178 (M : q_Mem) (a0 : Nat) (a1 : Int32) : Option q_Mem :=
  (q_ln M a0).bind fun v1 =>
  f_J7_fill_53178_b5 a0 a1 v1 q_fuel (0 : Int32) M
set_option maxRecDepth 20000 in
theorem v_J7_fill_53178_b5 {a0 : Nat} {a1 : Int32} {a3 : Int32}  : ∀ (n : Nat) (a2 : Int32) (M : q_Mem), q_V Y_J7_fill_53178 none (fun x : q_Mem => (none, x)) 0 0 5 [(0, .ref a0), (1, .int a1), (2, .int a2), (3, .int a3)] [] M (f_J7_fill_53178_b5 a0 a1 a3 n a2 M) := by
  intro n
  induction n with
  | zero => intro a2 M; exact q_none
  | succ n ih =>
    intro a2 M
    rw [f_J7_fill_53178_b5.eq_2]
    refine q_iload_n 2 dJ7_fill_53178_5 rfl ?_
    refine q_iload_n 3 dJ7_fill_53178_6 rfl ?_
    refine q_icmp_ge (tgt := 20) dJ7_fill_53178_7 (by decide) (fun c5 => ?_) (fun c5 => ?_)
    · refine q_aload_n 0 dJ7_fill_53178_10 rfl ?_
      refine q_iload_n 2 dJ7_fill_53178_11 rfl ?_
      refine q_iload_n 1 dJ7_fill_53178_12 rfl ?_
      refine q_iast dJ7_fill_53178_13 (fun M3 h4 => ?_)
      refine q_iinc 2 (y := (a2 + (1 : Int32))) (ls' := [(2, .int (a2 + (1 : Int32))), (0, .ref a0), (1, .int a1), (3, .int a3)]) dJ7_fill_53178_14 rfl rfl (by decide) rfl ?_
      refine q_goto (tgt := 5) dJ7_fill_53178_17 (by decide) ?_
      refine q_sub (ls' := [(0, .ref a0), (1, .int a1), (2, .int (a2 + (1 : Int32))), (3, .int a3)]) [1, 2, 0, 3] rfl ?_
      exact ih _ _
    · exact q_vret dJ7_fill_53178_20 rfl rfl (Nat.le_of_ble_eq_true rfl) rfl
set_option maxRecDepth 20000 in
theorem m_J7_fill_53178 {M : q_Mem} {a0 : Nat} {a1 : Int32} {x : q_Mem} (h : f_J7_fill_53178 M a0 a1 = some x) : q_C Y_J7_fill_53178 [.ref a0, .int a1] M none x := by
  refine q_met (φ := (fun x : q_Mem => (none, x))) (r := f_J7_fill_53178 M a0 a1) (by decide +kernel) (Nat.le_of_ble_eq_true rfl) ?_ h (fun _ _ => rfl)
  show q_V Y_J7_fill_53178 none (fun x : q_Mem => (none, x)) 0 0 0 [(0, .ref a0), (1, .int a1)] [] M (f_J7_fill_53178 M a0 a1)
  unfold f_J7_fill_53178
  refine q_iconst (x := (0 : Int32)) dJ7_fill_53178_0 rfl ?_
  refine q_istore_n (ls' := [(2, .int (0 : Int32)), (0, .ref a0), (1, .int a1)]) dJ7_fill_53178_1 (by decide) rfl ?_
  refine q_aload_n 1 dJ7_fill_53178_2 rfl ?_
  refine q_alen dJ7_fill_53178_3 (fun v1 h2 => ?_)
  refine q_istore_n (ls' := [(3, .int v1), (2, .int (0 : Int32)), (0, .ref a0), (1, .int a1)]) dJ7_fill_53178_4 (by decide) rfl ?_
  refine q_sub (ls' := [(0, .ref a0), (1, .int a1), (2, .int (0 : Int32)), (3, .int v1)]) [2, 3, 1, 0] rfl ?_
  exact v_J7_fill_53178_b5 _ _ _
theorem dJ7_fill_d0a16_0 : decode cJ7_fill_d0a16 0 = .ok (.iconst 0, 1) := by decide +kernel
theorem dJ7_fill_d0a16_1 : decode cJ7_fill_d0a16 1 = .ok (.istore_n 3, 1) := by decide +kernel
theorem dJ7_fill_d0a16_2 : decode cJ7_fill_d0a16 2 = .ok (.aload_n 0, 1) := by decide +kernel
theorem dJ7_fill_d0a16_3 : decode cJ7_fill_d0a16 3 = .ok (.arraylength, 1) := by decide +kernel
theorem dJ7_fill_d0a16_4 : decode cJ7_fill_d0a16 4 = .ok (.istore 4, 2) := by decide +kernel
theorem dJ7_fill_d0a16_6 : decode cJ7_fill_d0a16 6 = .ok (.iload_n 3, 1) := by decide +kernel
theorem dJ7_fill_d0a16_7 : decode cJ7_fill_d0a16 7 = .ok (.iload 4, 2) := by decide +kernel
theorem dJ7_fill_d0a16_9 : decode cJ7_fill_d0a16 9 = .ok (.if_icmp .ge 13, 3) := by decide +kernel
theorem dJ7_fill_d0a16_12 : decode cJ7_fill_d0a16 12 = .ok (.aload_n 0, 1) := by decide +kernel
theorem dJ7_fill_d0a16_13 : decode cJ7_fill_d0a16 13 = .ok (.iload_n 3, 1) := by decide +kernel
theorem dJ7_fill_d0a16_14 : decode cJ7_fill_d0a16 14 = .ok (.lload_n 1, 1) := by decide +kernel
theorem dJ7_fill_d0a16_15 : decode cJ7_fill_d0a16 15 = .ok (.lastore, 1) := by decide +kernel
theorem dJ7_fill_d0a16_16 : decode cJ7_fill_d0a16 16 = .ok (.iinc 3 1, 3) := by decide +kernel
theorem dJ7_fill_d0a16_19 : decode cJ7_fill_d0a16 19 = .ok (.goto (-13), 3) := by decide +kernel
theorem dJ7_fill_d0a16_22 : decode cJ7_fill_d0a16 22 = .ok (.return_, 1) := by decide +kernel
def f_J7_fill_d0a16_b6 (a0 : Nat) (a1 : Int64) (a4 : Int32) : Nat → Int32 → q_Mem → Option q_Mem
  | 0, _, _ => none
  | n + 1, a3, M =>
    (if a3 < a4 then
      (q_tJ M a0 a3 a1).bind fun M3 =>
      f_J7_fill_d0a16_b6 a0 a1 a4 n (a3 + (1 : Int32)) M3
    else
      some M)
def f_J7_fill_d0a16 (M : q_Mem) (a0 : Nat) (a1 : Int64) : Option q_Mem :=
  (q_ln M a0).bind fun v1 =>
  f_J7_fill_d0a16_b6 a0 a1 v1 q_fuel (0 : Int32) M
set_option maxRecDepth 20000 in
theorem v_J7_fill_d0a16_b6 {a0 : Nat} {a1 : Int64} {a4 : Int32}  : ∀ (n : Nat) (a3 : Int32) (M : q_Mem), q_V Y_J7_fill_d0a16 none (fun x : q_Mem => (none, x)) 0 0 6 [(0, .ref a0), (1, .long a1), (3, .int a3), (4, .int a4)] [] M (f_J7_fill_d0a16_b6 a0 a1 a4 n a3 M) := by
  intro n
  induction n with
  | zero => intro a3 M; exact q_none
  | succ n ih =>
    intro a3 M
    rw [f_J7_fill_d0a16_b6.eq_2]
    refine q_iload_n 2 dJ7_fill_d0a16_6 rfl ?_
    refine q_iload 3 dJ7_fill_d0a16_7 rfl ?_
    refine q_icmp_ge (tgt := 22) dJ7_fill_d0a16_9 (by decide) (fun c5 => ?_) (fun c5 => ?_)
    · refine q_aload_n 0 dJ7_fill_d0a16_12 rfl ?_
      refine q_iload_n 2 dJ7_fill_d0a16_13 rfl ?_
      refine q_lload_n 1 dJ7_fill_d0a16_14 rfl ?_
      refine q_last dJ7_fill_d0a16_15 (fun M3 h4 => ?_)
      refine q_iinc 2 (y := (a3 + (1 : Int32))) (ls' := [(3, .int (a3 + (1 : Int32))), (0, .ref a0), (1, .long a1), (4, .int a4)]) dJ7_fill_d0a16_16 rfl rfl (by decide) rfl ?_
      refine q_goto (tgt := 6) dJ7_fill_d0a16_19 (by decide) ?_
      refine q_sub (ls' := [(0, .ref a0), (1, .long a1), (3, .int (a3 + (1 : Int32))), (4, .int a4)]) [1, 2, 0, 3] rfl ?_
      exact ih _ _
    · exact q_vret dJ7_fill_d0a16_22 rfl rfl (Nat.le_of_ble_eq_true rfl) rfl
set_option maxRecDepth 20000 in
theorem m_J7_fill_d0a16 {M : q_Mem} {a0 : Nat} {a1 : Int64} {x : q_Mem} (h : f_J7_fill_d0a16 M a0 a1 = some x) : q_C Y_J7_fill_d0a16 [.ref a0, .long a1] M none x := by
  refine q_met (φ := (fun x : q_Mem => (none, x))) (r := f_J7_fill_d0a16 M a0 a1) (by decide +kernel) (Nat.le_of_ble_eq_true rfl) ?_ h (fun _ _ => rfl)
  show q_V Y_J7_fill_d0a16 none (fun x : q_Mem => (none, x)) 0 0 0 [(0, .ref a0), (1, .long a1)] [] M (f_J7_fill_d0a16 M a0 a1)
  unfold f_J7_fill_d0a16
  refine q_iconst (x := (0 : Int32)) dJ7_fill_d0a16_0 rfl ?_
  refine q_istore_n (ls' := [(3, .int (0 : Int32)), (0, .ref a0), (1, .long a1)]) dJ7_fill_d0a16_1 (by decide) rfl ?_
  refine q_aload_n 1 dJ7_fill_d0a16_2 rfl ?_
  refine q_alen dJ7_fill_d0a16_3 (fun v1 h2 => ?_)
  refine q_istore (ls' := [(4, .int v1), (3, .int (0 : Int32)), (0, .ref a0), (1, .long a1)]) dJ7_fill_d0a16_4 (by decide) rfl ?_
  refine q_sub (ls' := [(0, .ref a0), (1, .long a1), (3, .int (0 : Int32)), (4, .int v1)]) [2, 3, 1, 0] rfl ?_
  exact v_J7_fill_d0a16_b6 _ _ _
theorem dX7_gatherCan_0 : decode cX7_gatherCan 0 = .ok (.aload_n 0, 1) := by decide +kernel
theorem dX7_gatherCan_1 : decode cX7_gatherCan 1 = .ok (.getfield 31, 3) := by decide +kernel
theorem dX7_gatherCan_4 : decode cX7_gatherCan 4 = .ok (.getfield 62, 3) := by decide +kernel
theorem dX7_gatherCan_7 : decode cX7_gatherCan 7 = .ok (.iload_n 1, 1) := by decide +kernel
theorem dX7_gatherCan_8 : decode cX7_gatherCan 8 = .ok (.iconst 0, 1) := by decide +kernel
theorem dX7_gatherCan_9 : decode cX7_gatherCan 9 = .ok (.invokevirtual 79, 3) := by decide +kernel
theorem dX7_gatherCan_12 : decode cX7_gatherCan 12 = .ok (.istore_n 3, 1) := by decide +kernel
theorem dX7_gatherCan_13 : decode cX7_gatherCan 13 = .ok (.aload_n 0, 1) := by decide +kernel
theorem dX7_gatherCan_14 : decode cX7_gatherCan 14 = .ok (.getfield 31, 3) := by decide +kernel
theorem dX7_gatherCan_17 : decode cX7_gatherCan 17 = .ok (.getfield 62, 3) := by decide +kernel
theorem dX7_gatherCan_20 : decode cX7_gatherCan 20 = .ok (.iload_n 1, 1) := by decide +kernel
theorem dX7_gatherCan_21 : decode cX7_gatherCan 21 = .ok (.iconst 3, 1) := by decide +kernel
theorem dX7_gatherCan_22 : decode cX7_gatherCan 22 = .ok (.invokevirtual 79, 3) := by decide +kernel
theorem dX7_gatherCan_25 : decode cX7_gatherCan 25 = .ok (.istore 4, 2) := by decide +kernel
theorem dX7_gatherCan_27 : decode cX7_gatherCan 27 = .ok (.iload_n 3, 1) := by decide +kernel
theorem dX7_gatherCan_28 : decode cX7_gatherCan 28 = .ok (.ifCond .lt 15, 3) := by decide +kernel
theorem dX7_gatherCan_31 : decode cX7_gatherCan 31 = .ok (.iload_n 3, 1) := by decide +kernel
theorem dX7_gatherCan_32 : decode cX7_gatherCan 32 = .ok (.bipush 20, 2) := by decide +kernel
theorem dX7_gatherCan_34 : decode cX7_gatherCan 34 = .ok (.if_icmp .ge 9, 3) := by decide +kernel
theorem dX7_gatherCan_37 : decode cX7_gatherCan 37 = .ok (.iload 4, 2) := by decide +kernel
theorem dX7_gatherCan_39 : decode cX7_gatherCan 39 = .ok (.iconst (-1), 1) := by decide +kernel
theorem dX7_gatherCan_40 : decode cX7_gatherCan 40 = .ok (.if_icmp .ne 4, 3) := by decide +kernel
theorem dX7_gatherCan_43 : decode cX7_gatherCan 43 = .ok (.return_, 1) := by decide +kernel
theorem dX7_gatherCan_44 : decode cX7_gatherCan 44 = .ok (.aload_n 0, 1) := by decide +kernel
theorem dX7_gatherCan_45 : decode cX7_gatherCan 45 = .ok (.getfield 31, 3) := by decide +kernel
theorem dX7_gatherCan_48 : decode cX7_gatherCan 48 = .ok (.getfield 87, 3) := by decide +kernel
theorem dX7_gatherCan_51 : decode cX7_gatherCan 51 = .ok (.iload 4, 2) := by decide +kernel
theorem dX7_gatherCan_53 : decode cX7_gatherCan 53 = .ok (.iconst 0, 1) := by decide +kernel
theorem dX7_gatherCan_54 : decode cX7_gatherCan 54 = .ok (.invokevirtual 79, 3) := by decide +kernel
theorem dX7_gatherCan_57 : decode cX7_gatherCan 57 = .ok (.istore 5, 2) := by decide +kernel
theorem dX7_gatherCan_59 : decode cX7_gatherCan 59 = .ok (.iload 5, 2) := by decide +kernel
theorem dX7_gatherCan_61 : decode cX7_gatherCan 61 = .ok (.bipush 7, 2) := by decide +kernel
theorem dX7_gatherCan_63 : decode cX7_gatherCan 63 = .ok (.idiv, 1) := by decide +kernel
theorem dX7_gatherCan_64 : decode cX7_gatherCan 64 = .ok (.iload_n 2, 1) := by decide +kernel
theorem dX7_gatherCan_65 : decode cX7_gatherCan 65 = .ok (.if_icmp .eq 4, 3) := by decide +kernel
theorem dX7_gatherCan_68 : decode cX7_gatherCan 68 = .ok (.return_, 1) := by decide +kernel
theorem dX7_gatherCan_69 : decode cX7_gatherCan 69 = .ok (.aload_n 0, 1) := by decide +kernel
theorem dX7_gatherCan_70 : decode cX7_gatherCan 70 = .ok (.getfield 9, 3) := by decide +kernel
theorem dX7_gatherCan_73 : decode cX7_gatherCan 73 = .ok (.iload_n 3, 1) := by decide +kernel
theorem dX7_gatherCan_74 : decode cX7_gatherCan 74 = .ok (.dup2, 1) := by decide +kernel
theorem dX7_gatherCan_75 : decode cX7_gatherCan 75 = .ok (.iaload, 1) := by decide +kernel
theorem dX7_gatherCan_76 : decode cX7_gatherCan 76 = .ok (.aload_n 0, 1) := by decide +kernel
theorem dX7_gatherCan_77 : decode cX7_gatherCan 77 = .ok (.getfield 31, 3) := by decide +kernel
theorem dX7_gatherCan_80 : decode cX7_gatherCan 80 = .ok (.getfield 62, 3) := by decide +kernel
theorem dX7_gatherCan_83 : decode cX7_gatherCan 83 = .ok (.iload_n 1, 1) := by decide +kernel
theorem dX7_gatherCan_84 : decode cX7_gatherCan 84 = .ok (.iconst 2, 1) := by decide +kernel
theorem dX7_gatherCan_85 : decode cX7_gatherCan 85 = .ok (.invokevirtual 79, 3) := by decide +kernel
theorem dX7_gatherCan_88 : decode cX7_gatherCan 88 = .ok (.iadd, 1) := by decide +kernel
theorem dX7_gatherCan_89 : decode cX7_gatherCan 89 = .ok (.iastore, 1) := by decide +kernel
theorem dX7_gatherCan_90 : decode cX7_gatherCan 90 = .ok (.aload_n 0, 1) := by decide +kernel
theorem dX7_gatherCan_91 : decode cX7_gatherCan 91 = .ok (.getfield 15, 3) := by decide +kernel
theorem dX7_gatherCan_94 : decode cX7_gatherCan 94 = .ok (.iload_n 3, 1) := by decide +kernel
theorem dX7_gatherCan_95 : decode cX7_gatherCan 95 = .ok (.dup2, 1) := by decide +kernel
theorem dX7_gatherCan_96 : decode cX7_gatherCan 96 = .ok (.laload, 1) := by decide +kernel
theorem dX7_gatherCan_97 : decode cX7_gatherCan 97 = .ok (.aload_n 0, 1) := by decide +kernel
theorem dX7_gatherCan_98 : decode cX7_gatherCan 98 = .ok (.getfield 35, 3) := by decide +kernel
theorem dX7_gatherCan_101 : decode cX7_gatherCan 101 = .ok (.iload_n 1, 1) := by decide +kernel
theorem dX7_gatherCan_102 : decode cX7_gatherCan 102 = .ok (.invokevirtual 90, 3) := by decide +kernel
theorem dX7_gatherCan_105 : decode cX7_gatherCan 105 = .ok (.ladd, 1) := by decide +kernel
theorem dX7_gatherCan_106 : decode cX7_gatherCan 106 = .ok (.lastore, 1) := by decide +kernel
theorem dX7_gatherCan_107 : decode cX7_gatherCan 107 = .ok (.aload_n 0, 1) := by decide +kernel
theorem dX7_gatherCan_108 : decode cX7_gatherCan 108 = .ok (.getfield 19, 3) := by decide +kernel
theorem dX7_gatherCan_111 : decode cX7_gatherCan 111 = .ok (.iload_n 3, 1) := by decide +kernel
theorem dX7_gatherCan_112 : decode cX7_gatherCan 112 = .ok (.dup2, 1) := by decide +kernel
theorem dX7_gatherCan_113 : decode cX7_gatherCan 113 = .ok (.iaload, 1) := by decide +kernel
theorem dX7_gatherCan_114 : decode cX7_gatherCan 114 = .ok (.iconst 1, 1) := by decide +kernel
theorem dX7_gatherCan_115 : decode cX7_gatherCan 115 = .ok (.iadd, 1) := by decide +kernel
theorem dX7_gatherCan_116 : decode cX7_gatherCan 116 = .ok (.iastore, 1) := by decide +kernel
theorem dX7_gatherCan_117 : decode cX7_gatherCan 117 = .ok (.aload_n 0, 1) := by decide +kernel
theorem dX7_gatherCan_118 : decode cX7_gatherCan 118 = .ok (.getfield 22, 3) := by decide +kernel
theorem dX7_gatherCan_121 : decode cX7_gatherCan 121 = .ok (.iload_n 3, 1) := by decide +kernel
theorem dX7_gatherCan_122 : decode cX7_gatherCan 122 = .ok (.dup2, 1) := by decide +kernel
theorem dX7_gatherCan_123 : decode cX7_gatherCan 123 = .ok (.iaload, 1) := by decide +kernel
theorem dX7_gatherCan_124 : decode cX7_gatherCan 124 = .ok (.iload 5, 2) := by decide +kernel
theorem dX7_gatherCan_126 : decode cX7_gatherCan 126 = .ok (.aload_n 0, 1) := by decide +kernel
theorem dX7_gatherCan_127 : decode cX7_gatherCan 127 = .ok (.getfield 31, 3) := by decide +kernel
theorem dX7_gatherCan_130 : decode cX7_gatherCan 130 = .ok (.getfield 62, 3) := by decide +kernel
theorem dX7_gatherCan_133 : decode cX7_gatherCan 133 = .ok (.iload_n 1, 1) := by decide +kernel
theorem dX7_gatherCan_134 : decode cX7_gatherCan 134 = .ok (.iconst 1, 1) := by decide +kernel
theorem dX7_gatherCan_135 : decode cX7_gatherCan 135 = .ok (.invokevirtual 79, 3) := by decide +kernel
theorem dX7_gatherCan_138 : decode cX7_gatherCan 138 = .ok (.isub, 1) := by decide +kernel
theorem dX7_gatherCan_139 : decode cX7_gatherCan 139 = .ok (.iadd, 1) := by decide +kernel
theorem dX7_gatherCan_140 : decode cX7_gatherCan 140 = .ok (.iastore, 1) := by decide +kernel
theorem dX7_gatherCan_141 : decode cX7_gatherCan 141 = .ok (.return_, 1) := by decide +kernel
def f_X7_gatherCan (M : q_Mem) (a0 : Nat) (a1 : Int32) (a2 : Int32) : Option q_Mem :=
  q_ob 6 M a0 ((q_gR 6 0 M a0).bind fun v1 =>
  (q_gR 4 1 M v1).bind fun v3 =>
  (f_X9_at M v3 a1 (0 : Int32)).bind fun v6 =>
  (q_gR 6 0 M a0).bind fun v7 =>
  (q_gR 4 1 M v7).bind fun v9 =>
  (f_X9_at M v9 a1 (3 : Int32)).bind fun v12 =>
  (if v6 < 0 then
    some M
  else
    (if v6 < (20 : Int32) then
      (if v12 = (-1 : Int32) then
        some M
      else
        (q_gR 6 0 M a0).bind fun v13 =>
        (q_gR 4 3 M v13).bind fun v15 =>
        (f_X9_at M v15 v12 (0 : Int32)).bind fun v18 =>
        (q_dv v18 (7 : Int32)).bind fun v19 =>
        (if v19 = a2 then
          (q_gR 6 4 M a0).bind fun v21 =>
          (q_lI M v21 v6).bind fun v23 =>
          (q_gR 6 0 M a0).bind fun v25 =>
          (q_gR 4 1 M v25).bind fun v27 =>
          (f_X9_at M v27 a1 (2 : Int32)).bind fun v30 =>
          (q_tI M v21 v6 (v23 + v30)).bind fun M31 =>
          (q_gR 6 5 M31 a0).bind fun v33 =>
          (q_lJ M31 v33 v6).bind fun v35 =>
          (q_gR 6 1 M31 a0).bind fun v37 =>
          (f_X6_fatOfCan M31 v37 a1).bind fun v40 =>
          (q_tJ M31 v33 v6 (v35 + v40)).bind fun M41 =>
          (q_gR 6 6 M41 a0).bind fun v43 =>
          (q_lI M41 v43 v6).bind fun v45 =>
          (q_tI M41 v43 v6 (v45 + (1 : Int32))).bind fun M47 =>
          (q_gR 6 7 M47 a0).bind fun v49 =>
          (q_lI M47 v49 v6).bind fun v51 =>
          (q_gR 6 0 M47 a0).bind fun v53 =>
          (q_gR 4 1 M47 v53).bind fun v55 =>
          (f_X9_at M47 v55 a1 (1 : Int32)).bind fun v58 =>
          (q_tI M47 v49 v6 (v51 + (v18 - v58))).bind fun M59 =>
          some M59
        else
          some M))
    else
      some M)))
set_option maxRecDepth 20000 in
theorem m_X7_gatherCan {M : q_Mem} {a0 : Nat} {a1 : Int32} {a2 : Int32} {x : q_Mem} (h : f_X7_gatherCan M a0 a1 a2 = some x) : q_C Y_X7_gatherCan [.ref a0, .int a1, .int a2] M none x := by
  refine q_met (φ := (fun x : q_Mem => (none, x))) (r := f_X7_gatherCan M a0 a1 a2) (by decide +kernel) (Nat.le_of_ble_eq_true rfl) ?_ h (fun _ _ => rfl)
  show q_V Y_X7_gatherCan none (fun x : q_Mem => (none, x)) 0 0 0 [(0, .ref a0), (1, .int a1), (2, .int a2)] [] M (f_X7_gatherCan M a0 a1 a2)
  unfold f_X7_gatherCan
  refine q_obV ?_
  refine q_aload_n 0 dX7_gatherCan_0 rfl ?_
  refine q_getR (f := 0) cl_X7 (by decide) qw_260 rfl dX7_gatherCan_1 (fun _ _ _ => rfl) (fun v1 h2 => ?_)
  refine q_getR (f := 1) cl_X5 (by decide) qw_79 rfl dX7_gatherCan_4 (fun _ _ _ => rfl) (fun v3 h4 => ?_)
  refine q_iload_n 1 dX7_gatherCan_7 rfl ?_
  refine q_iconst (x := (0 : Int32)) dX7_gatherCan_8 rfl ?_
  refine q_cVI (Y2 := Y_X9_at) (As := [.int a1, .int (0 : Int32)]) (b := v3) (st := []) cl_X9 mv_X9_at qw_751 dX7_gatherCan_9 ⟨Nat.le_of_ble_eq_true rfl, Nat.le_of_ble_eq_true rfl⟩ rfl (fun _ _ => rfl) (Nat.le_of_ble_eq_true rfl) ⟨Nat.le_of_ble_eq_true rfl, Nat.le_of_ble_eq_true rfl⟩ (fun v6 h5 => q_ob_is h5) (fun v6 h5 => m_X9_at h5) (fun v6 h5 => ?_)
  refine q_istore_n (ls' := [(3, .int v6), (0, .ref a0), (1, .int a1), (2, .int a2)]) dX7_gatherCan_12 (by decide) rfl ?_
  refine q_aload_n 1 dX7_gatherCan_13 rfl ?_
  refine q_getR (f := 0) cl_X7 (by decide) qw_260 rfl dX7_gatherCan_14 (fun _ _ _ => rfl) (fun v7 h8 => ?_)
  refine q_getR (f := 1) cl_X5 (by decide) qw_79 rfl dX7_gatherCan_17 (fun _ _ _ => rfl) (fun v9 h10 => ?_)
  refine q_iload_n 2 dX7_gatherCan_20 rfl ?_
  refine q_iconst (x := (3 : Int32)) dX7_gatherCan_21 rfl ?_
  refine q_cVI (Y2 := Y_X9_at) (As := [.int a1, .int (3 : Int32)]) (b := v9) (st := []) cl_X9 mv_X9_at qw_751 dX7_gatherCan_22 ⟨Nat.le_of_ble_eq_true rfl, Nat.le_of_ble_eq_true rfl⟩ rfl (fun _ _ => rfl) (Nat.le_of_ble_eq_true rfl) ⟨Nat.le_of_ble_eq_true rfl, Nat.le_of_ble_eq_true rfl⟩ (fun v12 h11 => q_ob_is h11) (fun v12 h11 => m_X9_at h11) (fun v12 h11 => ?_)
  refine q_istore (ls' := [(4, .int v12), (3, .int v6), (0, .ref a0), (1, .int a1), (2, .int a2)]) dX7_gatherCan_25 (by decide) rfl ?_
  refine q_iload_n 1 dX7_gatherCan_27 rfl ?_
  refine q_if_lt (tgt := 43) dX7_gatherCan_28 (by decide) (fun c64 => ?_) (fun c64 => ?_)
  · exact q_vret dX7_gatherCan_43 rfl rfl (Nat.le_of_ble_eq_true rfl) rfl
  · refine q_iload_n 1 dX7_gatherCan_31 rfl ?_
    refine q_bipush (x := (20 : Int32)) dX7_gatherCan_32 rfl ?_
    refine q_icmp_ge (tgt := 43) dX7_gatherCan_34 (by decide) (fun c63 => ?_) (fun c63 => ?_)
    · refine q_iload 0 dX7_gatherCan_37 rfl ?_
      refine q_iconst (x := (-1 : Int32)) dX7_gatherCan_39 rfl ?_
      refine q_icmp_ne (tgt := 44) dX7_gatherCan_40 (by decide) (fun c62 => ?_) (fun c62 => ?_)
      · exact q_vret dX7_gatherCan_43 rfl rfl (Nat.le_of_ble_eq_true rfl) rfl
      · refine q_aload_n 2 dX7_gatherCan_44 rfl ?_
        refine q_getR (f := 0) cl_X7 (by decide) qw_260 rfl dX7_gatherCan_45 (fun _ _ _ => rfl) (fun v13 h14 => ?_)
        refine q_getR (f := 3) cl_X5 (by decide) qw_88 rfl dX7_gatherCan_48 (fun _ _ _ => rfl) (fun v15 h16 => ?_)
        refine q_iload 0 dX7_gatherCan_51 rfl ?_
        refine q_iconst (x := (0 : Int32)) dX7_gatherCan_53 rfl ?_
        refine q_cVI (Y2 := Y_X9_at) (As := [.int v12, .int (0 : Int32)]) (b := v15) (st := []) cl_X9 mv_X9_at qw_751 dX7_gatherCan_54 ⟨Nat.le_of_ble_eq_true rfl, Nat.le_of_ble_eq_true rfl⟩ rfl (fun _ _ => rfl) (Nat.le_of_ble_eq_true rfl) ⟨Nat.le_of_ble_eq_true rfl, Nat.le_of_ble_eq_true rfl⟩ (fun v18 h17 => q_ob_is h17) (fun v18 h17 => m_X9_at h17) (fun v18 h17 => ?_)
        refine q_istore (ls' := [(5, .int v18), (4, .int v12), (3, .int v6), (0, .ref a0), (1, .int a1), (2, .int a2)]) dX7_gatherCan_57 (by decide) rfl ?_
        refine q_iload 0 dX7_gatherCan_59 rfl ?_
        refine q_bipush (x := (7 : Int32)) dX7_gatherCan_61 rfl ?_
        refine q_idiv dX7_gatherCan_63 (fun v19 h20 => ?_)
        refine q_iload_n 5 dX7_gatherCan_64 rfl ?_
        refine q_icmp_eq (tgt := 69) dX7_gatherCan_65 (by decide) (fun c61 => ?_) (fun c61 => ?_)
        · refine q_aload_n 3 dX7_gatherCan_69 rfl ?_
          refine q_getR (f := 4) cl_X7 (by decide) qw_264 rfl dX7_gatherCan_70 (fun _ _ _ => rfl) (fun v21 h22 => ?_)
          refine q_iload_n 2 dX7_gatherCan_73 rfl ?_
          refine q_dup2 dX7_gatherCan_74 rfl rfl ?_
          refine q_iald dX7_gatherCan_75 (fun v23 h24 => ?_)
          refine q_aload_n 3 dX7_gatherCan_76 rfl ?_
          refine q_getR (f := 0) cl_X7 (by decide) qw_260 rfl dX7_gatherCan_77 (fun _ _ _ => rfl) (fun v25 h26 => ?_)
          refine q_getR (f := 1) cl_X5 (by decide) qw_79 rfl dX7_gatherCan_80 (fun _ _ _ => rfl) (fun v27 h28 => ?_)
          refine q_iload_n 4 dX7_gatherCan_83 rfl ?_
          refine q_iconst (x := (2 : Int32)) dX7_gatherCan_84 rfl ?_
          refine q_cVI (Y2 := Y_X9_at) (As := [.int a1, .int (2 : Int32)]) (b := v27) (st := [.int v23, .int v6, .ref v21]) cl_X9 mv_X9_at qw_751 dX7_gatherCan_85 ⟨Nat.le_of_ble_eq_true rfl, Nat.le_of_ble_eq_true rfl⟩ rfl (fun _ _ => rfl) (Nat.le_of_ble_eq_true rfl) ⟨Nat.le_of_ble_eq_true rfl, Nat.le_of_ble_eq_true rfl⟩ (fun v30 h29 => q_ob_is h29) (fun v30 h29 => m_X9_at h29) (fun v30 h29 => ?_)
          refine q_iadd dX7_gatherCan_88 ?_
          refine q_iast dX7_gatherCan_89 (fun M31 h32 => ?_)
          refine q_aload_n 3 dX7_gatherCan_90 rfl ?_
          refine q_getR (f := 5) cl_X7 (by decide) qw_265 rfl dX7_gatherCan_91 (fun _ _ _ => rfl) (fun v33 h34 => ?_)
          refine q_iload_n 2 dX7_gatherCan_94 rfl ?_
          refine q_dup2 dX7_gatherCan_95 rfl rfl ?_
          refine q_lald dX7_gatherCan_96 (fun v35 h36 => ?_)
          refine q_aload_n 3 dX7_gatherCan_97 rfl ?_
          refine q_getR (f := 1) cl_X7 (by decide) qw_261 rfl dX7_gatherCan_98 (fun _ _ _ => rfl) (fun v37 h38 => ?_)
          refine q_iload_n 4 dX7_gatherCan_101 rfl ?_
          refine q_cVJ (Y2 := Y_X6_fatOfCan) (As := [.int a1]) (b := v37) (st := [.long v35, .int v6, .ref v33]) cl_X6 mv_X6_fatOfCan qw_752 dX7_gatherCan_102 ⟨Nat.le_of_ble_eq_true rfl, Nat.le_of_ble_eq_true rfl⟩ rfl (fun _ _ => rfl) (Nat.le_of_ble_eq_true rfl) ⟨Nat.le_of_ble_eq_true rfl, Nat.le_of_ble_eq_true rfl⟩ (fun v40 h39 => q_ob_is h39) (fun v40 h39 => m_X6_fatOfCan h39) (fun v40 h39 => ?_)
          refine q_ladd dX7_gatherCan_105 ?_
          refine q_last dX7_gatherCan_106 (fun M41 h42 => ?_)
          refine q_aload_n 3 dX7_gatherCan_107 rfl ?_
          refine q_getR (f := 6) cl_X7 (by decide) qw_266 rfl dX7_gatherCan_108 (fun _ _ _ => rfl) (fun v43 h44 => ?_)
          refine q_iload_n 2 dX7_gatherCan_111 rfl ?_
          refine q_dup2 dX7_gatherCan_112 rfl rfl ?_
          refine q_iald dX7_gatherCan_113 (fun v45 h46 => ?_)
          refine q_iconst (x := (1 : Int32)) dX7_gatherCan_114 rfl ?_
          refine q_iadd dX7_gatherCan_115 ?_
          refine q_iast dX7_gatherCan_116 (fun M47 h48 => ?_)
          refine q_aload_n 3 dX7_gatherCan_117 rfl ?_
          refine q_getR (f := 7) cl_X7 (by decide) qw_267 rfl dX7_gatherCan_118 (fun _ _ _ => rfl) (fun v49 h50 => ?_)
          refine q_iload_n 2 dX7_gatherCan_121 rfl ?_
          refine q_dup2 dX7_gatherCan_122 rfl rfl ?_
          refine q_iald dX7_gatherCan_123 (fun v51 h52 => ?_)
          refine q_iload 0 dX7_gatherCan_124 rfl ?_
          refine q_aload_n 3 dX7_gatherCan_126 rfl ?_
          refine q_getR (f := 0) cl_X7 (by decide) qw_260 rfl dX7_gatherCan_127 (fun _ _ _ => rfl) (fun v53 h54 => ?_)
          refine q_getR (f := 1) cl_X5 (by decide) qw_79 rfl dX7_gatherCan_130 (fun _ _ _ => rfl) (fun v55 h56 => ?_)
          refine q_iload_n 4 dX7_gatherCan_133 rfl ?_
          refine q_iconst (x := (1 : Int32)) dX7_gatherCan_134 rfl ?_
          refine q_cVI (Y2 := Y_X9_at) (As := [.int a1, .int (1 : Int32)]) (b := v55) (st := [.int v18, .int v51, .int v6, .ref v49]) cl_X9 mv_X9_at qw_751 dX7_gatherCan_135 ⟨Nat.le_of_ble_eq_true rfl, Nat.le_of_ble_eq_true rfl⟩ rfl (fun _ _ => rfl) (Nat.le_of_ble_eq_true rfl) ⟨Nat.le_of_ble_eq_true rfl, Nat.le_of_ble_eq_true rfl⟩ (fun v58 h57 => q_ob_is h57) (fun v58 h57 => m_X9_at h57) (fun v58 h57 => ?_)
          refine q_isub dX7_gatherCan_138 ?_
          refine q_iadd dX7_gatherCan_139 ?_
          refine q_iast dX7_gatherCan_140 (fun M59 h60 => ?_)
          exact q_vret dX7_gatherCan_141 rfl rfl (Nat.le_of_ble_eq_true rfl) rfl
        · exact q_vret dX7_gatherCan_68 rfl rfl (Nat.le_of_ble_eq_true rfl) rfl
    · exact q_vret dX7_gatherCan_43 rfl rfl (Nat.le_of_ble_eq_true rfl) rfl
theorem dX7_gather_0 : decode cX7_gather 0 = .ok (.aload_n 0, 1) := by decide +kernel
theorem dX7_gather_1 : decode cX7_gather 1 = .ok (.getfield 35, 3) := by decide +kernel
theorem dX7_gather_4 : decode cX7_gather 4 = .ok (.iload_n 2, 1) := by decide +kernel
theorem dX7_gather_5 : decode cX7_gather 5 = .ok (.invokevirtual 47, 3) := by decide +kernel
theorem dX7_gather_8 : decode cX7_gather 8 = .ok (.aload_n 0, 1) := by decide +kernel
theorem dX7_gather_9 : decode cX7_gather 9 = .ok (.getfield 9, 3) := by decide +kernel
theorem dX7_gather_12 : decode cX7_gather 12 = .ok (.iconst 0, 1) := by decide +kernel
theorem dX7_gather_13 : decode cX7_gather 13 = .ok (.invokestatic 53, 3) := by decide +kernel
theorem dX7_gather_16 : decode cX7_gather 16 = .ok (.aload_n 0, 1) := by decide +kernel
theorem dX7_gather_17 : decode cX7_gather 17 = .ok (.getfield 15, 3) := by decide +kernel
theorem dX7_gather_20 : decode cX7_gather 20 = .ok (.lconst 0, 1) := by decide +kernel
theorem dX7_gather_21 : decode cX7_gather 21 = .ok (.invokestatic 59, 3) := by decide +kernel
theorem dX7_gather_24 : decode cX7_gather 24 = .ok (.aload_n 0, 1) := by decide +kernel
theorem dX7_gather_25 : decode cX7_gather 25 = .ok (.getfield 19, 3) := by decide +kernel
theorem dX7_gather_28 : decode cX7_gather 28 = .ok (.iconst 0, 1) := by decide +kernel
theorem dX7_gather_29 : decode cX7_gather 29 = .ok (.invokestatic 53, 3) := by decide +kernel
theorem dX7_gather_32 : decode cX7_gather 32 = .ok (.aload_n 0, 1) := by decide +kernel
theorem dX7_gather_33 : decode cX7_gather 33 = .ok (.getfield 22, 3) := by decide +kernel
theorem dX7_gather_36 : decode cX7_gather 36 = .ok (.iconst 0, 1) := by decide +kernel
theorem dX7_gather_37 : decode cX7_gather 37 = .ok (.invokestatic 53, 3) := by decide +kernel
theorem dX7_gather_40 : decode cX7_gather 40 = .ok (.aload_n 0, 1) := by decide +kernel
theorem dX7_gather_41 : decode cX7_gather 41 = .ok (.getfield 25, 3) := by decide +kernel
theorem dX7_gather_44 : decode cX7_gather 44 = .ok (.iconst 0, 1) := by decide +kernel
theorem dX7_gather_45 : decode cX7_gather 45 = .ok (.invokestatic 53, 3) := by decide +kernel
theorem dX7_gather_48 : decode cX7_gather 48 = .ok (.iconst 0, 1) := by decide +kernel
theorem dX7_gather_49 : decode cX7_gather 49 = .ok (.istore_n 3, 1) := by decide +kernel
theorem dX7_gather_50 : decode cX7_gather 50 = .ok (.iload_n 3, 1) := by decide +kernel
theorem dX7_gather_51 : decode cX7_gather 51 = .ok (.aload_n 0, 1) := by decide +kernel
theorem dX7_gather_52 : decode cX7_gather 52 = .ok (.getfield 31, 3) := by decide +kernel
theorem dX7_gather_55 : decode cX7_gather 55 = .ok (.getfield 62, 3) := by decide +kernel
theorem dX7_gather_58 : decode cX7_gather 58 = .ok (.getfield 67, 3) := by decide +kernel
theorem dX7_gather_61 : decode cX7_gather 61 = .ok (.if_icmp .ge 15, 3) := by decide +kernel
theorem dX7_gather_64 : decode cX7_gather 64 = .ok (.aload_n 0, 1) := by decide +kernel
theorem dX7_gather_65 : decode cX7_gather 65 = .ok (.iload_n 3, 1) := by decide +kernel
theorem dX7_gather_66 : decode cX7_gather 66 = .ok (.iload_n 1, 1) := by decide +kernel
theorem dX7_gather_67 : decode cX7_gather 67 = .ok (.invokevirtual 73, 3) := by decide +kernel
theorem dX7_gather_70 : decode cX7_gather 70 = .ok (.iinc 3 1, 3) := by decide +kernel
theorem dX7_gather_73 : decode cX7_gather 73 = .ok (.goto (-23), 3) := by decide +kernel
theorem dX7_gather_76 : decode cX7_gather 76 = .ok (.iconst 0, 1) := by decide +kernel
theorem dX7_gather_77 : decode cX7_gather 77 = .ok (.istore_n 3, 1) := by decide +kernel
theorem dX7_gather_78 : decode cX7_gather 78 = .ok (.iload_n 3, 1) := by decide +kernel
theorem dX7_gather_79 : decode cX7_gather 79 = .ok (.aload_n 0, 1) := by decide +kernel
theorem dX7_gather_80 : decode cX7_gather 80 = .ok (.getfield 31, 3) := by decide +kernel
theorem dX7_gather_83 : decode cX7_gather 83 = .ok (.getfield 77, 3) := by decide +kernel
theorem dX7_gather_86 : decode cX7_gather 86 = .ok (.getfield 67, 3) := by decide +kernel
theorem dX7_gather_89 : decode cX7_gather 89 = .ok (.if_icmp .ge 80, 3) := by decide +kernel
theorem dX7_gather_92 : decode cX7_gather 92 = .ok (.aload_n 0, 1) := by decide +kernel
theorem dX7_gather_93 : decode cX7_gather 93 = .ok (.getfield 31, 3) := by decide +kernel
theorem dX7_gather_96 : decode cX7_gather 96 = .ok (.getfield 77, 3) := by decide +kernel
theorem dX7_gather_99 : decode cX7_gather 99 = .ok (.iload_n 3, 1) := by decide +kernel
theorem dX7_gather_100 : decode cX7_gather 100 = .ok (.iconst 0, 1) := by decide +kernel
theorem dX7_gather_101 : decode cX7_gather 101 = .ok (.invokevirtual 79, 3) := by decide +kernel
theorem dX7_gather_104 : decode cX7_gather 104 = .ok (.istore 4, 2) := by decide +kernel
theorem dX7_gather_106 : decode cX7_gather 106 = .ok (.iload 4, 2) := by decide +kernel
theorem dX7_gather_108 : decode cX7_gather 108 = .ok (.ifCond .lt 55, 3) := by decide +kernel
theorem dX7_gather_111 : decode cX7_gather 111 = .ok (.iload 4, 2) := by decide +kernel
theorem dX7_gather_113 : decode cX7_gather 113 = .ok (.bipush 20, 2) := by decide +kernel
theorem dX7_gather_115 : decode cX7_gather 115 = .ok (.if_icmp .ge 48, 3) := by decide +kernel
theorem dX7_gather_118 : decode cX7_gather 118 = .ok (.aload_n 0, 1) := by decide +kernel
theorem dX7_gather_119 : decode cX7_gather 119 = .ok (.getfield 35, 3) := by decide +kernel
theorem dX7_gather_122 : decode cX7_gather 122 = .ok (.iload_n 3, 1) := by decide +kernel
theorem dX7_gather_123 : decode cX7_gather 123 = .ok (.invokevirtual 83, 3) := by decide +kernel
theorem dX7_gather_126 : decode cX7_gather 126 = .ok (.iconst (-1), 1) := by decide +kernel
theorem dX7_gather_127 : decode cX7_gather 127 = .ok (.if_icmp .ne 6, 3) := by decide +kernel
theorem dX7_gather_130 : decode cX7_gather 130 = .ok (.goto 33, 3) := by decide +kernel
theorem dX7_gather_133 : decode cX7_gather 133 = .ok (.aload_n 0, 1) := by decide +kernel
theorem dX7_gather_134 : decode cX7_gather 134 = .ok (.getfield 31, 3) := by decide +kernel
theorem dX7_gather_137 : decode cX7_gather 137 = .ok (.getfield 77, 3) := by decide +kernel
theorem dX7_gather_140 : decode cX7_gather 140 = .ok (.iload_n 3, 1) := by decide +kernel
theorem dX7_gather_141 : decode cX7_gather 141 = .ok (.iconst 1, 1) := by decide +kernel
theorem dX7_gather_142 : decode cX7_gather 142 = .ok (.invokevirtual 79, 3) := by decide +kernel
theorem dX7_gather_145 : decode cX7_gather 145 = .ok (.bipush 7, 2) := by decide +kernel
theorem dX7_gather_147 : decode cX7_gather 147 = .ok (.idiv, 1) := by decide +kernel
theorem dX7_gather_148 : decode cX7_gather 148 = .ok (.iload_n 1, 1) := by decide +kernel
theorem dX7_gather_149 : decode cX7_gather 149 = .ok (.if_icmp .ne 14, 3) := by decide +kernel
theorem dX7_gather_152 : decode cX7_gather 152 = .ok (.aload_n 0, 1) := by decide +kernel
theorem dX7_gather_153 : decode cX7_gather 153 = .ok (.getfield 25, 3) := by decide +kernel
theorem dX7_gather_156 : decode cX7_gather 156 = .ok (.iload 4, 2) := by decide +kernel
theorem dX7_gather_158 : decode cX7_gather 158 = .ok (.dup2, 1) := by decide +kernel
theorem dX7_gather_159 : decode cX7_gather 159 = .ok (.iaload, 1) := by decide +kernel
theorem dX7_gather_160 : decode cX7_gather 160 = .ok (.iconst 1, 1) := by decide +kernel
theorem dX7_gather_161 : decode cX7_gather 161 = .ok (.iadd, 1) := by decide +kernel
theorem dX7_gather_162 : decode cX7_gather 162 = .ok (.iastore, 1) := by decide +kernel
theorem dX7_gather_163 : decode cX7_gather 163 = .ok (.iinc 3 1, 3) := by decide +kernel
theorem dX7_gather_166 : decode cX7_gather 166 = .ok (.goto (-88), 3) := by decide +kernel
theorem dX7_gather_169 : decode cX7_gather 169 = .ok (.return_, 1) := by decide +kernel
def f_X7_gather_b78 (a0 : Nat) (a1 : Int32) : Nat → Int32 → q_Mem → Option q_Mem
  | 0, _, _ => none
  | n + 1, a3, M =>
    (q_gR 6 0 M a0).bind fun v41 =>
    (q_gR 4 2 M v41).bind fun v43 =>
    (q_gI 8 3 M v43).bind fun v45 =>
    (if a3 < v45 then
      (q_gR 6 0 M a0).bind fun v47 =>
      (q_gR 4 2 M v47).bind fun v49 =>
      (f_X9_at M v49 a3 (0 : Int32)).bind fun v52 =>
      (if v52 < 0 then
        f_X7_gather_b78 a0 a1 n (a3 + (1 : Int32)) M
      else
        (if v52 < (20 : Int32) then
          (q_gR 6 1 M a0).bind fun v53 =>
          (f_X6_rateLearned M v53 a3).bind fun v56 =>
          (if v56 = (-1 : Int32) then
            f_X7_gather_b78 a0 a1 n (a3 + (1 : Int32)) M
          else
            (q_gR 6 0 M a0).bind fun v57 =>
            (q_gR 4 2 M v57).bind fun v59 =>
            (f_X9_at M v59 a3 (1 : Int32)).bind fun v62 =>
            (q_dv v62 (7 : Int32)).bind fun v63 =>
            (if v63 = a1 then
              (q_gR 6 8 M a0).bind fun v65 =>
              (q_lI M v65 v52).bind fun v67 =>
              (q_tI M v65 v52 (v67 + (1 : Int32))).bind fun M69 =>
              f_X7_gather_b78 a0 a1 n (a3 + (1 : Int32)) M69
            else
              f_X7_gather_b78 a0 a1 n (a3 + (1 : Int32)) M))
        else
          f_X7_gather_b78 a0 a1 n (a3 + (1 : Int32)) M))
    else
      some M)
def f_X7_gather_b50 (a0 : Nat) (a1 : Int32) : Nat → Int32 → q_Mem → Option q_Mem
  | 0, _, _ => none
  | n + 1, a3, M =>
    (q_gR 6 0 M a0).bind fun v31 =>
    (q_gR 4 1 M v31).bind fun v33 =>
    (q_gI 8 3 M v33).bind fun v35 =>
    (if a3 < v35 then
      (f_X7_gatherCan M a0 a3 a1).bind fun M39 =>
      f_X7_gather_b50 a0 a1 n (a3 + (1 : Int32)) M39
    else
      f_X7_gather_b78 a0 a1 q_fuel (0 : Int32) M)
def f_X7_gather (M : q_Mem) (a0 : Nat) (a1 : Int32) (a2 : Int32) : Option q_Mem :=
  q_ob 6 M a0 ((q_gR 6 1 M a0).bind fun v1 =>
  (f_X6_learn M v1 a2).bind fun M5 =>
  (q_gR 6 4 M5 a0).bind fun v6 =>
  (f_J7_fill_53178 M5 v6 (0 : Int32)).bind fun M10 =>
  (q_gR 6 5 M10 a0).bind fun v11 =>
  (f_J7_fill_d0a16 M10 v11 (0 : Int64)).bind fun M15 =>
  (q_gR 6 6 M15 a0).bind fun v16 =>
  (f_J7_fill_53178 M15 v16 (0 : Int32)).bind fun M20 =>
  (q_gR 6 7 M20 a0).bind fun v21 =>
  (f_J7_fill_53178 M20 v21 (0 : Int32)).bind fun M25 =>
  (q_gR 6 8 M25 a0).bind fun v26 =>
  (f_J7_fill_53178 M25 v26 (0 : Int32)).bind fun M30 =>
  f_X7_gather_b50 a0 a1 q_fuel (0 : Int32) M30)
set_option maxRecDepth 20000 in
theorem v_X7_gather_b78 {a0 : Nat} {a1 : Int32}  : ∀ (n : Nat) (a3 : Int32) (M : q_Mem), q_V Y_X7_gather none (fun x : q_Mem => (none, x)) 0 0 78 [(0, .ref a0), (1, .int a1), (3, .int a3)] [] M (f_X7_gather_b78 a0 a1 n a3 M) := by
  intro n
  induction n with
  | zero => intro a3 M; exact q_none
  | succ n ih =>
    intro a3 M
    rw [f_X7_gather_b78.eq_2]
    refine q_iload_n 2 dX7_gather_78 rfl ?_
    refine q_aload_n 0 dX7_gather_79 rfl ?_
    refine q_getR (f := 0) cl_X7 (by decide) qw_260 rfl dX7_gather_80 (fun _ _ _ => rfl) (fun v41 h42 => ?_)
    refine q_getR (f := 2) cl_X5 (by decide) qw_84 rfl dX7_gather_83 (fun _ _ _ => rfl) (fun v43 h44 => ?_)
    refine q_getI (f := 3) cl_X9 (by decide) qw_49 rfl dX7_gather_86 (Or.inl rfl) (fun v45 h46 => ?_)
    refine q_icmp_ge (tgt := 169) dX7_gather_89 (by decide) (fun c75 => ?_) (fun c75 => ?_)
    · refine q_aload_n 0 dX7_gather_92 rfl ?_
      refine q_getR (f := 0) cl_X7 (by decide) qw_260 rfl dX7_gather_93 (fun _ _ _ => rfl) (fun v47 h48 => ?_)
      refine q_getR (f := 2) cl_X5 (by decide) qw_84 rfl dX7_gather_96 (fun _ _ _ => rfl) (fun v49 h50 => ?_)
      refine q_iload_n 2 dX7_gather_99 rfl ?_
      refine q_iconst (x := (0 : Int32)) dX7_gather_100 rfl ?_
      refine q_cVI (Y2 := Y_X9_at) (As := [.int a3, .int (0 : Int32)]) (b := v49) (st := []) cl_X9 mv_X9_at qw_751 dX7_gather_101 ⟨Nat.le_of_ble_eq_true rfl, Nat.le_of_ble_eq_true rfl⟩ rfl (fun _ _ => rfl) (Nat.le_of_ble_eq_true rfl) ⟨Nat.le_of_ble_eq_true rfl, Nat.le_of_ble_eq_true rfl⟩ (fun v52 h51 => q_ob_is h51) (fun v52 h51 => m_X9_at h51) (fun v52 h51 => ?_)
      refine q_istore (ls' := [(4, .int v52), (0, .ref a0), (1, .int a1), (3, .int a3)]) dX7_gather_104 (by decide) rfl ?_
      refine q_iload 0 dX7_gather_106 rfl ?_
      refine q_if_lt (tgt := 163) dX7_gather_108 (by decide) (fun c74 => ?_) (fun c74 => ?_)
      · refine q_iinc 3 (y := (a3 + (1 : Int32))) (ls' := [(3, .int (a3 + (1 : Int32))), (4, .int v52), (0, .ref a0), (1, .int a1)]) dX7_gather_163 rfl rfl (by decide) rfl ?_
        refine q_goto (tgt := 78) dX7_gather_166 (by decide) ?_
        refine q_sub (ls' := [(0, .ref a0), (1, .int a1), (3, .int (a3 + (1 : Int32)))]) [2, 3, 0] rfl ?_
        exact ih _ _
      · refine q_iload 0 dX7_gather_111 rfl ?_
        refine q_bipush (x := (20 : Int32)) dX7_gather_113 rfl ?_
        refine q_icmp_ge (tgt := 163) dX7_gather_115 (by decide) (fun c73 => ?_) (fun c73 => ?_)
        · refine q_aload_n 1 dX7_gather_118 rfl ?_
          refine q_getR (f := 1) cl_X7 (by decide) qw_261 rfl dX7_gather_119 (fun _ _ _ => rfl) (fun v53 h54 => ?_)
          refine q_iload_n 3 dX7_gather_122 rfl ?_
          refine q_cVI (Y2 := Y_X6_rateLearned) (As := [.int a3]) (b := v53) (st := []) cl_X6 mv_X6_rateLearned qw_753 dX7_gather_123 ⟨Nat.le_of_ble_eq_true rfl, Nat.le_of_ble_eq_true rfl⟩ rfl (fun _ _ => rfl) (Nat.le_of_ble_eq_true rfl) ⟨Nat.le_of_ble_eq_true rfl, Nat.le_of_ble_eq_true rfl⟩ (fun v56 h55 => q_ob_is h55) (fun v56 h55 => m_X6_rateLearned h55) (fun v56 h55 => ?_)
          refine q_iconst (x := (-1 : Int32)) dX7_gather_126 rfl ?_
          refine q_icmp_ne (tgt := 133) dX7_gather_127 (by decide) (fun c72 => ?_) (fun c72 => ?_)
          · refine q_goto (tgt := 163) dX7_gather_130 (by decide) ?_
            refine q_iinc 3 (y := (a3 + (1 : Int32))) (ls' := [(3, .int (a3 + (1 : Int32))), (4, .int v52), (0, .ref a0), (1, .int a1)]) dX7_gather_163 rfl rfl (by decide) rfl ?_
            refine q_goto (tgt := 78) dX7_gather_166 (by decide) ?_
            refine q_sub (ls' := [(0, .ref a0), (1, .int a1), (3, .int (a3 + (1 : Int32)))]) [2, 3, 0] rfl ?_
            exact ih _ _
          · refine q_aload_n 1 dX7_gather_133 rfl ?_
            refine q_getR (f := 0) cl_X7 (by decide) qw_260 rfl dX7_gather_134 (fun _ _ _ => rfl) (fun v57 h58 => ?_)
            refine q_getR (f := 2) cl_X5 (by decide) qw_84 rfl dX7_gather_137 (fun _ _ _ => rfl) (fun v59 h60 => ?_)
            refine q_iload_n 3 dX7_gather_140 rfl ?_
            refine q_iconst (x := (1 : Int32)) dX7_gather_141 rfl ?_
            refine q_cVI (Y2 := Y_X9_at) (As := [.int a3, .int (1 : Int32)]) (b := v59) (st := []) cl_X9 mv_X9_at qw_751 dX7_gather_142 ⟨Nat.le_of_ble_eq_true rfl, Nat.le_of_ble_eq_true rfl⟩ rfl (fun _ _ => rfl) (Nat.le_of_ble_eq_true rfl) ⟨Nat.le_of_ble_eq_true rfl, Nat.le_of_ble_eq_true rfl⟩ (fun v62 h61 => q_ob_is h61) (fun v62 h61 => m_X9_at h61) (fun v62 h61 => ?_)
            refine q_bipush (x := (7 : Int32)) dX7_gather_145 rfl ?_
            refine q_idiv dX7_gather_147 (fun v63 h64 => ?_)
            refine q_iload_n 2 dX7_gather_148 rfl ?_
            refine q_icmp_ne (tgt := 163) dX7_gather_149 (by decide) (fun c71 => ?_) (fun c71 => ?_)
            · refine q_aload_n 1 dX7_gather_152 rfl ?_
              refine q_getR (f := 8) cl_X7 (by decide) qw_268 rfl dX7_gather_153 (fun _ _ _ => rfl) (fun v65 h66 => ?_)
              refine q_iload 0 dX7_gather_156 rfl ?_
              refine q_dup2 dX7_gather_158 rfl rfl ?_
              refine q_iald dX7_gather_159 (fun v67 h68 => ?_)
              refine q_iconst (x := (1 : Int32)) dX7_gather_160 rfl ?_
              refine q_iadd dX7_gather_161 ?_
              refine q_iast dX7_gather_162 (fun M69 h70 => ?_)
              refine q_iinc 3 (y := (a3 + (1 : Int32))) (ls' := [(3, .int (a3 + (1 : Int32))), (4, .int v52), (0, .ref a0), (1, .int a1)]) dX7_gather_163 rfl rfl (by decide) rfl ?_
              refine q_goto (tgt := 78) dX7_gather_166 (by decide) ?_
              refine q_sub (ls' := [(0, .ref a0), (1, .int a1), (3, .int (a3 + (1 : Int32)))]) [2, 3, 0] rfl ?_
              exact ih _ _
            · refine q_iinc 3 (y := (a3 + (1 : Int32))) (ls' := [(3, .int (a3 + (1 : Int32))), (4, .int v52), (0, .ref a0), (1, .int a1)]) dX7_gather_163 rfl rfl (by decide) rfl ?_
              refine q_goto (tgt := 78) dX7_gather_166 (by decide) ?_
              refine q_sub (ls' := [(0, .ref a0), (1, .int a1), (3, .int (a3 + (1 : Int32)))]) [2, 3, 0] rfl ?_
              exact ih _ _
        · refine q_iinc 3 (y := (a3 + (1 : Int32))) (ls' := [(3, .int (a3 + (1 : Int32))), (4, .int v52), (0, .ref a0), (1, .int a1)]) dX7_gather_163 rfl rfl (by decide) rfl ?_
          refine q_goto (tgt := 78) dX7_gather_166 (by decide) ?_
          refine q_sub (ls' := [(0, .ref a0), (1, .int a1), (3, .int (a3 + (1 : Int32)))]) [2, 3, 0] rfl ?_
          exact ih _ _
    · exact q_vret dX7_gather_169 rfl rfl (Nat.le_of_ble_eq_true rfl) rfl
set_option maxRecDepth 20000 in
theorem v_X7_gather_b50 {a0 : Nat} {a1 : Int32}  : ∀ (n : Nat) (a3 : Int32) (M : q_Mem), q_V Y_X7_gather none (fun x : q_Mem => (none, x)) 0 0 50 [(0, .ref a0), (1, .int a1), (3, .int a3)] [] M (f_X7_gather_b50 a0 a1 n a3 M) := by
  intro n
  induction n with
  | zero => intro a3 M; exact q_none
  | succ n ih =>
    intro a3 M
    rw [f_X7_gather_b50.eq_2]
    refine q_iload_n 2 dX7_gather_50 rfl ?_
    refine q_aload_n 0 dX7_gather_51 rfl ?_
    refine q_getR (f := 0) cl_X7 (by decide) qw_260 rfl dX7_gather_52 (fun _ _ _ => rfl) (fun v31 h32 => ?_)
    refine q_getR (f := 1) cl_X5 (by decide) qw_79 rfl dX7_gather_55 (fun _ _ _ => rfl) (fun v33 h34 => ?_)
    refine q_getI (f := 3) cl_X9 (by decide) qw_49 rfl dX7_gather_58 (Or.inl rfl) (fun v35 h36 => ?_)
    refine q_icmp_ge (tgt := 76) dX7_gather_61 (by decide) (fun c40 => ?_) (fun c40 => ?_)
    · refine q_aload_n 0 dX7_gather_64 rfl ?_
      refine q_iload_n 2 dX7_gather_65 rfl ?_
      refine q_iload_n 1 dX7_gather_66 rfl ?_
      refine q_cVM (Y2 := Y_X7_gatherCan) (As := [.int a3, .int a1]) (b := a0) (st := []) cl_X7 mv_X7_gatherCan qw_747 dX7_gather_67 ⟨Nat.le_of_ble_eq_true rfl, Nat.le_of_ble_eq_true rfl⟩ rfl (fun _ _ => rfl) (Nat.le_of_ble_eq_true rfl) ⟨Nat.le_of_ble_eq_true rfl, Nat.le_of_ble_eq_true rfl⟩ (fun M39 h37 => q_ob_is h37) (fun M39 h37 => m_X7_gatherCan h37) (fun M39 h37 => ?_)
      refine q_iinc 2 (y := (a3 + (1 : Int32))) (ls' := [(3, .int (a3 + (1 : Int32))), (0, .ref a0), (1, .int a1)]) dX7_gather_70 rfl rfl (by decide) rfl ?_
      refine q_goto (tgt := 50) dX7_gather_73 (by decide) ?_
      refine q_sub (ls' := [(0, .ref a0), (1, .int a1), (3, .int (a3 + (1 : Int32)))]) [1, 2, 0] rfl ?_
      exact ih _ _
    · refine q_iconst (x := (0 : Int32)) dX7_gather_76 rfl ?_
      refine q_istore_n (ls' := [(3, .int (0 : Int32)), (0, .ref a0), (1, .int a1)]) dX7_gather_77 (by decide) rfl ?_
      refine q_sub (ls' := [(0, .ref a0), (1, .int a1), (3, .int (0 : Int32))]) [1, 2, 0] rfl ?_
      exact v_X7_gather_b78 _ _ _
set_option maxRecDepth 20000 in
theorem m_X7_gather {M : q_Mem} {a0 : Nat} {a1 : Int32} {a2 : Int32} {x : q_Mem} (h : f_X7_gather M a0 a1 a2 = some x) : q_C Y_X7_gather [.ref a0, .int a1, .int a2] M none x := by
  refine q_met (φ := (fun x : q_Mem => (none, x))) (r := f_X7_gather M a0 a1 a2) (by decide +kernel) (Nat.le_of_ble_eq_true rfl) ?_ h (fun _ _ => rfl)
  show q_V Y_X7_gather none (fun x : q_Mem => (none, x)) 0 0 0 [(0, .ref a0), (1, .int a1), (2, .int a2)] [] M (f_X7_gather M a0 a1 a2)
  unfold f_X7_gather
  refine q_obV ?_
  refine q_aload_n 0 dX7_gather_0 rfl ?_
  refine q_getR (f := 1) cl_X7 (by decide) qw_261 rfl dX7_gather_1 (fun _ _ _ => rfl) (fun v1 h2 => ?_)
  refine q_iload_n 2 dX7_gather_4 rfl ?_
  refine q_cVM (Y2 := Y_X6_learn) (As := [.int a2]) (b := v1) (st := []) cl_X6 mv_X6_learn qw_740 dX7_gather_5 ⟨Nat.le_of_ble_eq_true rfl, Nat.le_of_ble_eq_true rfl⟩ rfl (fun _ _ => rfl) (Nat.le_of_ble_eq_true rfl) ⟨Nat.le_of_ble_eq_true rfl, Nat.le_of_ble_eq_true rfl⟩ (fun M5 h3 => q_ob_is h3) (fun M5 h3 => m_X6_learn h3) (fun M5 h3 => ?_)
  refine q_aload_n 0 dX7_gather_8 rfl ?_
  refine q_getR (f := 4) cl_X7 (by decide) qw_264 rfl dX7_gather_9 (fun _ _ _ => rfl) (fun v6 h7 => ?_)
  refine q_iconst (x := (0 : Int32)) dX7_gather_12 rfl ?_
  refine q_cSM (Y2 := Y_J7_fill_53178) (As := [.ref v6, .int (0 : Int32)]) (st := []) ms_J7_fill_53178 qw_741 dX7_gather_13 ⟨Nat.le_of_ble_eq_true rfl, Nat.le_of_ble_eq_true rfl⟩ rfl (fun _ _ => rfl) (Nat.le_of_ble_eq_true rfl) ⟨Nat.le_of_ble_eq_true rfl, Nat.le_of_ble_eq_true rfl⟩ (fun M10 h8 => m_J7_fill_53178 h8) (fun M10 h8 => ?_)
  refine q_aload_n 0 dX7_gather_16 rfl ?_
  refine q_getR (f := 5) cl_X7 (by decide) qw_265 rfl dX7_gather_17 (fun _ _ _ => rfl) (fun v11 h12 => ?_)
  refine q_lconst (x := (0 : Int64)) dX7_gather_20 rfl ?_
  refine q_cSM (Y2 := Y_J7_fill_d0a16) (As := [.ref v11, .long (0 : Int64)]) (st := []) ms_J7_fill_d0a16 qw_744 dX7_gather_21 ⟨Nat.le_of_ble_eq_true rfl, Nat.le_of_ble_eq_true rfl⟩ rfl (fun _ _ => rfl) (Nat.le_of_ble_eq_true rfl) ⟨Nat.le_of_ble_eq_true rfl, Nat.le_of_ble_eq_true rfl⟩ (fun M15 h13 => m_J7_fill_d0a16 h13) (fun M15 h13 => ?_)
  refine q_aload_n 0 dX7_gather_24 rfl ?_
  refine q_getR (f := 6) cl_X7 (by decide) qw_266 rfl dX7_gather_25 (fun _ _ _ => rfl) (fun v16 h17 => ?_)
  refine q_iconst (x := (0 : Int32)) dX7_gather_28 rfl ?_
  refine q_cSM (Y2 := Y_J7_fill_53178) (As := [.ref v16, .int (0 : Int32)]) (st := []) ms_J7_fill_53178 qw_741 dX7_gather_29 ⟨Nat.le_of_ble_eq_true rfl, Nat.le_of_ble_eq_true rfl⟩ rfl (fun _ _ => rfl) (Nat.le_of_ble_eq_true rfl) ⟨Nat.le_of_ble_eq_true rfl, Nat.le_of_ble_eq_true rfl⟩ (fun M20 h18 => m_J7_fill_53178 h18) (fun M20 h18 => ?_)
  refine q_aload_n 0 dX7_gather_32 rfl ?_
  refine q_getR (f := 7) cl_X7 (by decide) qw_267 rfl dX7_gather_33 (fun _ _ _ => rfl) (fun v21 h22 => ?_)
  refine q_iconst (x := (0 : Int32)) dX7_gather_36 rfl ?_
  refine q_cSM (Y2 := Y_J7_fill_53178) (As := [.ref v21, .int (0 : Int32)]) (st := []) ms_J7_fill_53178 qw_741 dX7_gather_37 ⟨Nat.le_of_ble_eq_true rfl, Nat.le_of_ble_eq_true rfl⟩ rfl (fun _ _ => rfl) (Nat.le_of_ble_eq_true rfl) ⟨Nat.le_of_ble_eq_true rfl, Nat.le_of_ble_eq_true rfl⟩ (fun M25 h23 => m_J7_fill_53178 h23) (fun M25 h23 => ?_)
  refine q_aload_n 0 dX7_gather_40 rfl ?_
  refine q_getR (f := 8) cl_X7 (by decide) qw_268 rfl dX7_gather_41 (fun _ _ _ => rfl) (fun v26 h27 => ?_)
  refine q_iconst (x := (0 : Int32)) dX7_gather_44 rfl ?_
  refine q_cSM (Y2 := Y_J7_fill_53178) (As := [.ref v26, .int (0 : Int32)]) (st := []) ms_J7_fill_53178 qw_741 dX7_gather_45 ⟨Nat.le_of_ble_eq_true rfl, Nat.le_of_ble_eq_true rfl⟩ rfl (fun _ _ => rfl) (Nat.le_of_ble_eq_true rfl) ⟨Nat.le_of_ble_eq_true rfl, Nat.le_of_ble_eq_true rfl⟩ (fun M30 h28 => m_J7_fill_53178 h28) (fun M30 h28 => ?_)
  refine q_iconst (x := (0 : Int32)) dX7_gather_48 rfl ?_
  refine q_istore_n (ls' := [(3, .int (0 : Int32)), (0, .ref a0), (1, .int a1), (2, .int a2)]) dX7_gather_49 (by decide) rfl ?_
  refine q_sub (ls' := [(0, .ref a0), (1, .int a1), (3, .int (0 : Int32))]) [1, 2, 0] rfl ?_
  exact v_X7_gather_b50 _ _ _
theorem dX8_tellName_0 : decode cX8_tellName 0 = .ok (.iload_n 1, 1) := by decide +kernel
theorem dX8_tellName_1 : decode cX8_tellName 1 = .ok (.ifCond .lt 19, 3) := by decide +kernel
theorem dX8_tellName_4 : decode cX8_tellName 4 = .ok (.iload_n 1, 1) := by decide +kernel
theorem dX8_tellName_5 : decode cX8_tellName 5 = .ok (.aload_n 0, 1) := by decide +kernel
theorem dX8_tellName_6 : decode cX8_tellName 6 = .ok (.getfield 15, 3) := by decide +kernel
theorem dX8_tellName_9 : decode cX8_tellName 9 = .ok (.arraylength, 1) := by decide +kernel
theorem dX8_tellName_10 : decode cX8_tellName 10 = .ok (.if_icmp .ge 10, 3) := by decide +kernel
theorem dX8_tellName_13 : decode cX8_tellName 13 = .ok (.aload_n 0, 1) := by decide +kernel
theorem dX8_tellName_14 : decode cX8_tellName 14 = .ok (.getfield 15, 3) := by decide +kernel
theorem dX8_tellName_17 : decode cX8_tellName 17 = .ok (.iload_n 1, 1) := by decide +kernel
theorem dX8_tellName_18 : decode cX8_tellName 18 = .ok (.lload_n 2, 1) := by decide +kernel
theorem dX8_tellName_19 : decode cX8_tellName 19 = .ok (.lastore, 1) := by decide +kernel
theorem dX8_tellName_20 : decode cX8_tellName 20 = .ok (.return_, 1) := by decide +kernel
def f_X8_tellName (M : q_Mem) (a0 : Nat) (a1 : Int32) (a2 : Int64) : Option q_Mem :=
  q_ob 7 M a0 ((if a1 < 0 then
    some M
  else
    (q_gR 7 2 M a0).bind fun v1 =>
    (q_ln M v1).bind fun v3 =>
    (if a1 < v3 then
      (q_gR 7 2 M a0).bind fun v5 =>
      (q_tJ M v5 a1 a2).bind fun M7 =>
      some M7
    else
      some M)))
set_option maxRecDepth 20000 in
theorem m_X8_tellName {M : q_Mem} {a0 : Nat} {a1 : Int32} {a2 : Int64} {x : q_Mem} (h : f_X8_tellName M a0 a1 a2 = some x) : q_C Y_X8_tellName [.ref a0, .int a1, .long a2] M none x := by
  refine q_met (φ := (fun x : q_Mem => (none, x))) (r := f_X8_tellName M a0 a1 a2) (by decide +kernel) (Nat.le_of_ble_eq_true rfl) ?_ h (fun _ _ => rfl)
  show q_V Y_X8_tellName none (fun x : q_Mem => (none, x)) 0 0 0 [(0, .ref a0), (1, .int a1), (2, .long a2)] [] M (f_X8_tellName M a0 a1 a2)
  unfold f_X8_tellName
  refine q_obV ?_
  refine q_iload_n 1 dX8_tellName_0 rfl ?_
  refine q_if_lt (tgt := 20) dX8_tellName_1 (by decide) (fun c10 => ?_) (fun c10 => ?_)
  · exact q_vret dX8_tellName_20 rfl rfl (Nat.le_of_ble_eq_true rfl) rfl
  · refine q_iload_n 1 dX8_tellName_4 rfl ?_
    refine q_aload_n 0 dX8_tellName_5 rfl ?_
    refine q_getR (f := 2) cl_X8 (by decide) qw_195 rfl dX8_tellName_6 (fun _ _ _ => rfl) (fun v1 h2 => ?_)
    refine q_alen dX8_tellName_9 (fun v3 h4 => ?_)
    refine q_icmp_ge (tgt := 20) dX8_tellName_10 (by decide) (fun c9 => ?_) (fun c9 => ?_)
    · refine q_aload_n 0 dX8_tellName_13 rfl ?_
      refine q_getR (f := 2) cl_X8 (by decide) qw_195 rfl dX8_tellName_14 (fun _ _ _ => rfl) (fun v5 h6 => ?_)
      refine q_iload_n 1 dX8_tellName_17 rfl ?_
      refine q_lload_n 2 dX8_tellName_18 rfl ?_
      refine q_last dX8_tellName_19 (fun M7 h8 => ?_)
      exact q_vret dX8_tellName_20 rfl rfl (Nat.le_of_ble_eq_true rfl) rfl
    · exact q_vret dX8_tellName_20 rfl rfl (Nat.le_of_ble_eq_true rfl) rfl
theorem dX7_rankOfWeight_0 : decode cX7_rankOfWeight 0 = .ok (.iconst 0, 1) := by decide +kernel
theorem dX7_rankOfWeight_1 : decode cX7_rankOfWeight 1 = .ok (.istore_n 2, 1) := by decide +kernel
theorem dX7_rankOfWeight_2 : decode cX7_rankOfWeight 2 = .ok (.iconst 0, 1) := by decide +kernel
theorem dX7_rankOfWeight_3 : decode cX7_rankOfWeight 3 = .ok (.istore_n 3, 1) := by decide +kernel
theorem dX7_rankOfWeight_4 : decode cX7_rankOfWeight 4 = .ok (.iload_n 3, 1) := by decide +kernel
theorem dX7_rankOfWeight_5 : decode cX7_rankOfWeight 5 = .ok (.aload_n 0, 1) := by decide +kernel
theorem dX7_rankOfWeight_6 : decode cX7_rankOfWeight 6 = .ok (.getfield 31, 3) := by decide +kernel
theorem dX7_rankOfWeight_9 : decode cX7_rankOfWeight 9 = .ok (.getfield 102, 3) := by decide +kernel
theorem dX7_rankOfWeight_12 : decode cX7_rankOfWeight 12 = .ok (.getfield 67, 3) := by decide +kernel
theorem dX7_rankOfWeight_15 : decode cX7_rankOfWeight 15 = .ok (.if_icmp .ge 28, 3) := by decide +kernel
theorem dX7_rankOfWeight_18 : decode cX7_rankOfWeight 18 = .ok (.iload_n 3, 1) := by decide +kernel
theorem dX7_rankOfWeight_19 : decode cX7_rankOfWeight 19 = .ok (.bipush 20, 2) := by decide +kernel
theorem dX7_rankOfWeight_21 : decode cX7_rankOfWeight 21 = .ok (.if_icmp .ge 22, 3) := by decide +kernel
theorem dX7_rankOfWeight_24 : decode cX7_rankOfWeight 24 = .ok (.aload_n 0, 1) := by decide +kernel
theorem dX7_rankOfWeight_25 : decode cX7_rankOfWeight 25 = .ok (.getfield 9, 3) := by decide +kernel
theorem dX7_rankOfWeight_28 : decode cX7_rankOfWeight 28 = .ok (.iload_n 3, 1) := by decide +kernel
theorem dX7_rankOfWeight_29 : decode cX7_rankOfWeight 29 = .ok (.iaload, 1) := by decide +kernel
theorem dX7_rankOfWeight_30 : decode cX7_rankOfWeight 30 = .ok (.iload_n 1, 1) := by decide +kernel
theorem dX7_rankOfWeight_31 : decode cX7_rankOfWeight 31 = .ok (.if_icmp .le 6, 3) := by decide +kernel
theorem dX7_rankOfWeight_34 : decode cX7_rankOfWeight 34 = .ok (.iinc 2 1, 3) := by decide +kernel
theorem dX7_rankOfWeight_37 : decode cX7_rankOfWeight 37 = .ok (.iinc 3 1, 3) := by decide +kernel
theorem dX7_rankOfWeight_40 : decode cX7_rankOfWeight 40 = .ok (.goto (-36), 3) := by decide +kernel
theorem dX7_rankOfWeight_43 : decode cX7_rankOfWeight 43 = .ok (.iload_n 2, 1) := by decide +kernel
theorem dX7_rankOfWeight_44 : decode cX7_rankOfWeight 44 = .ok (.ireturn, 1) := by decide +kernel
def f_X7_rankOfWeight_b4 (M : q_Mem) (a0 : Nat) (a1 : Int32) : Nat → Int32 → Int32 → Option Int32
  | 0, _, _ => none
  | n + 1, a2, a3 =>
    (q_gR 6 0 M a0).bind fun v1 =>
    (q_gR 4 0 M v1).bind fun v3 =>
    (q_gI 8 3 M v3).bind fun v5 =>
    (if a3 < v5 then
      (if a3 < (20 : Int32) then
        (q_gR 6 4 M a0).bind fun v7 =>
        (q_lI M v7 a3).bind fun v9 =>
        (if a1 < v9 then
          f_X7_rankOfWeight_b4 M a0 a1 n (a2 + (1 : Int32)) (a3 + (1 : Int32))
        else
          f_X7_rankOfWeight_b4 M a0 a1 n a2 (a3 + (1 : Int32)))
      else
        some a2)
    else
      some a2)
def f_X7_rankOfWeight (M : q_Mem) (a0 : Nat) (a1 : Int32) : Option Int32 :=
  q_ob 6 M a0 (f_X7_rankOfWeight_b4 M a0 a1 q_fuel (0 : Int32) (0 : Int32))
set_option maxRecDepth 20000 in
theorem v_X7_rankOfWeight_b4 {M : q_Mem} {a0 : Nat} {a1 : Int32}  : ∀ (n : Nat) (a2 : Int32) (a3 : Int32), q_V Y_X7_rankOfWeight none (fun x : Int32 => (some (.int x), M)) 0 0 4 [(0, .ref a0), (1, .int a1), (2, .int a2), (3, .int a3)] [] M (f_X7_rankOfWeight_b4 M a0 a1 n a2 a3) := by
  intro n
  induction n with
  | zero => intro a2 a3; exact q_none
  | succ n ih =>
    intro a2 a3
    rw [f_X7_rankOfWeight_b4.eq_2]
    refine q_iload_n 3 dX7_rankOfWeight_4 rfl ?_
    refine q_aload_n 0 dX7_rankOfWeight_5 rfl ?_
    refine q_getR (f := 0) cl_X7 (by decide) qw_260 rfl dX7_rankOfWeight_6 (fun _ _ _ => rfl) (fun v1 h2 => ?_)
    refine q_getR (f := 0) cl_X5 (by decide) qw_76 rfl dX7_rankOfWeight_9 (fun _ _ _ => rfl) (fun v3 h4 => ?_)
    refine q_getI (f := 3) cl_X9 (by decide) qw_49 rfl dX7_rankOfWeight_12 (Or.inl rfl) (fun v5 h6 => ?_)
    refine q_icmp_ge (tgt := 43) dX7_rankOfWeight_15 (by decide) (fun c13 => ?_) (fun c13 => ?_)
    · refine q_iload_n 3 dX7_rankOfWeight_18 rfl ?_
      refine q_bipush (x := (20 : Int32)) dX7_rankOfWeight_19 rfl ?_
      refine q_icmp_ge (tgt := 43) dX7_rankOfWeight_21 (by decide) (fun c12 => ?_) (fun c12 => ?_)
      · refine q_aload_n 0 dX7_rankOfWeight_24 rfl ?_
        refine q_getR (f := 4) cl_X7 (by decide) qw_264 rfl dX7_rankOfWeight_25 (fun _ _ _ => rfl) (fun v7 h8 => ?_)
        refine q_iload_n 3 dX7_rankOfWeight_28 rfl ?_
        refine q_iald dX7_rankOfWeight_29 (fun v9 h10 => ?_)
        refine q_iload_n 1 dX7_rankOfWeight_30 rfl ?_
        refine q_icmp_le (tgt := 37) dX7_rankOfWeight_31 (by decide) (fun c11 => ?_) (fun c11 => ?_)
        · refine q_iinc 2 (y := (a2 + (1 : Int32))) (ls' := [(2, .int (a2 + (1 : Int32))), (0, .ref a0), (1, .int a1), (3, .int a3)]) dX7_rankOfWeight_34 rfl rfl (by decide) rfl ?_
          refine q_iinc 3 (y := (a3 + (1 : Int32))) (ls' := [(3, .int (a3 + (1 : Int32))), (2, .int (a2 + (1 : Int32))), (0, .ref a0), (1, .int a1)]) dX7_rankOfWeight_37 rfl rfl (by decide) rfl ?_
          refine q_goto (tgt := 4) dX7_rankOfWeight_40 (by decide) ?_
          refine q_sub (ls' := [(0, .ref a0), (1, .int a1), (2, .int (a2 + (1 : Int32))), (3, .int (a3 + (1 : Int32)))]) [2, 3, 1, 0] rfl ?_
          exact ih _ _
        · refine q_iinc 3 (y := (a3 + (1 : Int32))) (ls' := [(3, .int (a3 + (1 : Int32))), (0, .ref a0), (1, .int a1), (2, .int a2)]) dX7_rankOfWeight_37 rfl rfl (by decide) rfl ?_
          refine q_goto (tgt := 4) dX7_rankOfWeight_40 (by decide) ?_
          refine q_sub (ls' := [(0, .ref a0), (1, .int a1), (2, .int a2), (3, .int (a3 + (1 : Int32)))]) [1, 2, 3, 0] rfl ?_
          exact ih _ _
      · refine q_iload_n 2 dX7_rankOfWeight_43 rfl ?_
        exact q_iret dX7_rankOfWeight_44 rfl rfl (Nat.le_of_ble_eq_true rfl) rfl
    · refine q_iload_n 2 dX7_rankOfWeight_43 rfl ?_
      exact q_iret dX7_rankOfWeight_44 rfl rfl (Nat.le_of_ble_eq_true rfl) rfl
set_option maxRecDepth 20000 in
theorem m_X7_rankOfWeight {M : q_Mem} {a0 : Nat} {a1 : Int32} {x : Int32} (h : f_X7_rankOfWeight M a0 a1 = some x) : q_C Y_X7_rankOfWeight [.ref a0, .int a1] M (some (.int x)) M := by
  refine q_met (φ := (fun x : Int32 => (some (.int x), M))) (r := f_X7_rankOfWeight M a0 a1) (by decide +kernel) (Nat.le_of_ble_eq_true rfl) ?_ h (fun _ _ => rfl)
  show q_V Y_X7_rankOfWeight none (fun x : Int32 => (some (.int x), M)) 0 0 0 [(0, .ref a0), (1, .int a1)] [] M (f_X7_rankOfWeight M a0 a1)
  unfold f_X7_rankOfWeight
  refine q_obV ?_
  refine q_iconst (x := (0 : Int32)) dX7_rankOfWeight_0 rfl ?_
  refine q_istore_n (ls' := [(2, .int (0 : Int32)), (0, .ref a0), (1, .int a1)]) dX7_rankOfWeight_1 (by decide) rfl ?_
  refine q_iconst (x := (0 : Int32)) dX7_rankOfWeight_2 rfl ?_
  refine q_istore_n (ls' := [(3, .int (0 : Int32)), (2, .int (0 : Int32)), (0, .ref a0), (1, .int a1)]) dX7_rankOfWeight_3 (by decide) rfl ?_
  refine q_sub (ls' := [(0, .ref a0), (1, .int a1), (2, .int (0 : Int32)), (3, .int (0 : Int32))]) [2, 3, 1, 0] rfl ?_
  exact v_X7_rankOfWeight_b4 _ _ _
theorem dX7_nameFor_0 : decode cX7_nameFor 0 = .ok (.iload_n 1, 1) := by decide +kernel
theorem dX7_nameFor_1 : decode cX7_nameFor 1 = .ok (.ifCond .lt 9, 3) := by decide +kernel
theorem dX7_nameFor_4 : decode cX7_nameFor 4 = .ok (.iload_n 1, 1) := by decide +kernel
theorem dX7_nameFor_5 : decode cX7_nameFor 5 = .ok (.bipush 20, 2) := by decide +kernel
theorem dX7_nameFor_7 : decode cX7_nameFor 7 = .ok (.if_icmp .lt 4, 3) := by decide +kernel
theorem dX7_nameFor_10 : decode cX7_nameFor 10 = .ok (.return_, 1) := by decide +kernel
theorem dX7_nameFor_11 : decode cX7_nameFor 11 = .ok (.aload_n 0, 1) := by decide +kernel
theorem dX7_nameFor_12 : decode cX7_nameFor 12 = .ok (.getfield 39, 3) := by decide +kernel
theorem dX7_nameFor_15 : decode cX7_nameFor 15 = .ok (.iconst 0, 1) := by decide +kernel
theorem dX7_nameFor_16 : decode cX7_nameFor 16 = .ok (.aload_n 0, 1) := by decide +kernel
theorem dX7_nameFor_17 : decode cX7_nameFor 17 = .ok (.getfield 9, 3) := by decide +kernel
theorem dX7_nameFor_20 : decode cX7_nameFor 20 = .ok (.iload_n 1, 1) := by decide +kernel
theorem dX7_nameFor_21 : decode cX7_nameFor 21 = .ok (.iaload, 1) := by decide +kernel
theorem dX7_nameFor_22 : decode cX7_nameFor 22 = .ok (.i2l, 1) := by decide +kernel
theorem dX7_nameFor_23 : decode cX7_nameFor 23 = .ok (.invokevirtual 94, 3) := by decide +kernel
theorem dX7_nameFor_26 : decode cX7_nameFor 26 = .ok (.aload_n 0, 1) := by decide +kernel
theorem dX7_nameFor_27 : decode cX7_nameFor 27 = .ok (.getfield 39, 3) := by decide +kernel
theorem dX7_nameFor_30 : decode cX7_nameFor 30 = .ok (.iconst 1, 1) := by decide +kernel
theorem dX7_nameFor_31 : decode cX7_nameFor 31 = .ok (.aload_n 0, 1) := by decide +kernel
theorem dX7_nameFor_32 : decode cX7_nameFor 32 = .ok (.getfield 15, 3) := by decide +kernel
theorem dX7_nameFor_35 : decode cX7_nameFor 35 = .ok (.iload_n 1, 1) := by decide +kernel
theorem dX7_nameFor_36 : decode cX7_nameFor 36 = .ok (.laload, 1) := by decide +kernel
theorem dX7_nameFor_37 : decode cX7_nameFor 37 = .ok (.ldc2_w 100, 3) := by decide +kernel
theorem dX7_nameFor_40 : decode cX7_nameFor 40 = .ok (.ldiv, 1) := by decide +kernel
theorem dX7_nameFor_41 : decode cX7_nameFor 41 = .ok (.invokevirtual 94, 3) := by decide +kernel
theorem dX7_nameFor_44 : decode cX7_nameFor 44 = .ok (.aload_n 0, 1) := by decide +kernel
theorem dX7_nameFor_45 : decode cX7_nameFor 45 = .ok (.getfield 39, 3) := by decide +kernel
theorem dX7_nameFor_48 : decode cX7_nameFor 48 = .ok (.iconst 2, 1) := by decide +kernel
theorem dX7_nameFor_49 : decode cX7_nameFor 49 = .ok (.aload_n 0, 1) := by decide +kernel
theorem dX7_nameFor_50 : decode cX7_nameFor 50 = .ok (.getfield 19, 3) := by decide +kernel
theorem dX7_nameFor_53 : decode cX7_nameFor 53 = .ok (.iload_n 1, 1) := by decide +kernel
theorem dX7_nameFor_54 : decode cX7_nameFor 54 = .ok (.iaload, 1) := by decide +kernel
theorem dX7_nameFor_55 : decode cX7_nameFor 55 = .ok (.i2l, 1) := by decide +kernel
theorem dX7_nameFor_56 : decode cX7_nameFor 56 = .ok (.invokevirtual 94, 3) := by decide +kernel
theorem dX7_nameFor_59 : decode cX7_nameFor 59 = .ok (.aload_n 0, 1) := by decide +kernel
theorem dX7_nameFor_60 : decode cX7_nameFor 60 = .ok (.getfield 39, 3) := by decide +kernel
theorem dX7_nameFor_63 : decode cX7_nameFor 63 = .ok (.iconst 3, 1) := by decide +kernel
theorem dX7_nameFor_64 : decode cX7_nameFor 64 = .ok (.aload_n 0, 1) := by decide +kernel
theorem dX7_nameFor_65 : decode cX7_nameFor 65 = .ok (.getfield 22, 3) := by decide +kernel
theorem dX7_nameFor_68 : decode cX7_nameFor 68 = .ok (.iload_n 1, 1) := by decide +kernel
theorem dX7_nameFor_69 : decode cX7_nameFor 69 = .ok (.iaload, 1) := by decide +kernel
theorem dX7_nameFor_70 : decode cX7_nameFor 70 = .ok (.i2l, 1) := by decide +kernel
theorem dX7_nameFor_71 : decode cX7_nameFor 71 = .ok (.invokevirtual 94, 3) := by decide +kernel
theorem dX7_nameFor_74 : decode cX7_nameFor 74 = .ok (.aload_n 0, 1) := by decide +kernel
theorem dX7_nameFor_75 : decode cX7_nameFor 75 = .ok (.getfield 39, 3) := by decide +kernel
theorem dX7_nameFor_78 : decode cX7_nameFor 78 = .ok (.iconst 4, 1) := by decide +kernel
theorem dX7_nameFor_79 : decode cX7_nameFor 79 = .ok (.aload_n 0, 1) := by decide +kernel
theorem dX7_nameFor_80 : decode cX7_nameFor 80 = .ok (.getfield 25, 3) := by decide +kernel
theorem dX7_nameFor_83 : decode cX7_nameFor 83 = .ok (.iload_n 1, 1) := by decide +kernel
theorem dX7_nameFor_84 : decode cX7_nameFor 84 = .ok (.iaload, 1) := by decide +kernel
theorem dX7_nameFor_85 : decode cX7_nameFor 85 = .ok (.i2l, 1) := by decide +kernel
theorem dX7_nameFor_86 : decode cX7_nameFor 86 = .ok (.invokevirtual 94, 3) := by decide +kernel
theorem dX7_nameFor_89 : decode cX7_nameFor 89 = .ok (.aload_n 0, 1) := by decide +kernel
theorem dX7_nameFor_90 : decode cX7_nameFor 90 = .ok (.getfield 39, 3) := by decide +kernel
theorem dX7_nameFor_93 : decode cX7_nameFor 93 = .ok (.iconst 5, 1) := by decide +kernel
theorem dX7_nameFor_94 : decode cX7_nameFor 94 = .ok (.aload_n 0, 1) := by decide +kernel
theorem dX7_nameFor_95 : decode cX7_nameFor 95 = .ok (.getfield 31, 3) := by decide +kernel
theorem dX7_nameFor_98 : decode cX7_nameFor 98 = .ok (.getfield 102, 3) := by decide +kernel
theorem dX7_nameFor_101 : decode cX7_nameFor 101 = .ok (.iload_n 1, 1) := by decide +kernel
theorem dX7_nameFor_102 : decode cX7_nameFor 102 = .ok (.iconst 3, 1) := by decide +kernel
theorem dX7_nameFor_103 : decode cX7_nameFor 103 = .ok (.invokevirtual 79, 3) := by decide +kernel
theorem dX7_nameFor_106 : decode cX7_nameFor 106 = .ok (.i2l, 1) := by decide +kernel
theorem dX7_nameFor_107 : decode cX7_nameFor 107 = .ok (.invokevirtual 94, 3) := by decide +kernel
theorem dX7_nameFor_110 : decode cX7_nameFor 110 = .ok (.aload_n 0, 1) := by decide +kernel
theorem dX7_nameFor_111 : decode cX7_nameFor 111 = .ok (.getfield 39, 3) := by decide +kernel
theorem dX7_nameFor_114 : decode cX7_nameFor 114 = .ok (.bipush 6, 2) := by decide +kernel
theorem dX7_nameFor_116 : decode cX7_nameFor 116 = .ok (.aload_n 0, 1) := by decide +kernel
theorem dX7_nameFor_117 : decode cX7_nameFor 117 = .ok (.getfield 31, 3) := by decide +kernel
theorem dX7_nameFor_120 : decode cX7_nameFor 120 = .ok (.getfield 102, 3) := by decide +kernel
theorem dX7_nameFor_123 : decode cX7_nameFor 123 = .ok (.iload_n 1, 1) := by decide +kernel
theorem dX7_nameFor_124 : decode cX7_nameFor 124 = .ok (.iconst 2, 1) := by decide +kernel
theorem dX7_nameFor_125 : decode cX7_nameFor 125 = .ok (.invokevirtual 79, 3) := by decide +kernel
theorem dX7_nameFor_128 : decode cX7_nameFor 128 = .ok (.i2l, 1) := by decide +kernel
theorem dX7_nameFor_129 : decode cX7_nameFor 129 = .ok (.invokevirtual 94, 3) := by decide +kernel
theorem dX7_nameFor_132 : decode cX7_nameFor 132 = .ok (.aload_n 0, 1) := by decide +kernel
theorem dX7_nameFor_133 : decode cX7_nameFor 133 = .ok (.getfield 39, 3) := by decide +kernel
theorem dX7_nameFor_136 : decode cX7_nameFor 136 = .ok (.bipush 7, 2) := by decide +kernel
theorem dX7_nameFor_138 : decode cX7_nameFor 138 = .ok (.aload_n 0, 1) := by decide +kernel
theorem dX7_nameFor_139 : decode cX7_nameFor 139 = .ok (.aload_n 0, 1) := by decide +kernel
theorem dX7_nameFor_140 : decode cX7_nameFor 140 = .ok (.getfield 9, 3) := by decide +kernel
theorem dX7_nameFor_143 : decode cX7_nameFor 143 = .ok (.iload_n 1, 1) := by decide +kernel
theorem dX7_nameFor_144 : decode cX7_nameFor 144 = .ok (.iaload, 1) := by decide +kernel
theorem dX7_nameFor_145 : decode cX7_nameFor 145 = .ok (.invokevirtual 105, 3) := by decide +kernel
theorem dX7_nameFor_148 : decode cX7_nameFor 148 = .ok (.i2l, 1) := by decide +kernel
theorem dX7_nameFor_149 : decode cX7_nameFor 149 = .ok (.invokevirtual 94, 3) := by decide +kernel
theorem dX7_nameFor_152 : decode cX7_nameFor 152 = .ok (.return_, 1) := by decide +kernel
def f_X7_nameFor (M : q_Mem) (a0 : Nat) (a1 : Int32) : Option q_Mem :=
  q_ob 6 M a0 ((if a1 < 0 then
    some M
  else
    (if a1 < (20 : Int32) then
      (q_gR 6 2 M a0).bind fun v1 =>
      (q_gR 6 4 M a0).bind fun v3 =>
      (q_lI M v3 a1).bind fun v5 =>
      (f_X8_tellName M v1 (0 : Int32) v5.toInt64).bind fun M9 =>
      (q_gR 6 2 M9 a0).bind fun v10 =>
      (q_gR 6 5 M9 a0).bind fun v12 =>
      (q_lJ M9 v12 a1).bind fun v14 =>
      (q_ldv v14 (100 : Int64)).bind fun v16 =>
      (f_X8_tellName M9 v10 (1 : Int32) v16).bind fun M20 =>
      (q_gR 6 2 M20 a0).bind fun v21 =>
      (q_gR 6 6 M20 a0).bind fun v23 =>
      (q_lI M20 v23 a1).bind fun v25 =>
      (f_X8_tellName M20 v21 (2 : Int32) v25.toInt64).bind fun M29 =>
      (q_gR 6 2 M29 a0).bind fun v30 =>
      (q_gR 6 7 M29 a0).bind fun v32 =>
      (q_lI M29 v32 a1).bind fun v34 =>
      (f_X8_tellName M29 v30 (3 : Int32) v34.toInt64).bind fun M38 =>
      (q_gR 6 2 M38 a0).bind fun v39 =>
      (q_gR 6 8 M38 a0).bind fun v41 =>
      (q_lI M38 v41 a1).bind fun v43 =>
      (f_X8_tellName M38 v39 (4 : Int32) v43.toInt64).bind fun M47 =>
      (q_gR 6 2 M47 a0).bind fun v48 =>
      (q_gR 6 0 M47 a0).bind fun v50 =>
      (q_gR 4 0 M47 v50).bind fun v52 =>
      (f_X9_at M47 v52 a1 (3 : Int32)).bind fun v55 =>
      (f_X8_tellName M47 v48 (5 : Int32) v55.toInt64).bind fun M58 =>
      (q_gR 6 2 M58 a0).bind fun v59 =>
      (q_gR 6 0 M58 a0).bind fun v61 =>
      (q_gR 4 0 M58 v61).bind fun v63 =>
      (f_X9_at M58 v63 a1 (2 : Int32)).bind fun v66 =>
      (f_X8_tellName M58 v59 (6 : Int32) v66.toInt64).bind fun M69 =>
      (q_gR 6 2 M69 a0).bind fun v70 =>
      (q_gR 6 4 M69 a0).bind fun v72 =>
      (q_lI M69 v72 a1).bind fun v74 =>
      (f_X7_rankOfWeight M69 a0 v74).bind fun v77 =>
      (f_X8_tellName M69 v70 (7 : Int32) v77.toInt64).bind fun M80 =>
      some M80
    else
      some M)))
set_option maxRecDepth 20000 in
theorem m_X7_nameFor {M : q_Mem} {a0 : Nat} {a1 : Int32} {x : q_Mem} (h : f_X7_nameFor M a0 a1 = some x) : q_C Y_X7_nameFor [.ref a0, .int a1] M none x := by
  refine q_met (φ := (fun x : q_Mem => (none, x))) (r := f_X7_nameFor M a0 a1) (by decide +kernel) (Nat.le_of_ble_eq_true rfl) ?_ h (fun _ _ => rfl)
  show q_V Y_X7_nameFor none (fun x : q_Mem => (none, x)) 0 0 0 [(0, .ref a0), (1, .int a1)] [] M (f_X7_nameFor M a0 a1)
  unfold f_X7_nameFor
  refine q_obV ?_
  refine q_iload_n 1 dX7_nameFor_0 rfl ?_
  refine q_if_lt (tgt := 10) dX7_nameFor_1 (by decide) (fun c82 => ?_) (fun c82 => ?_)
  · exact q_vret dX7_nameFor_10 rfl rfl (Nat.le_of_ble_eq_true rfl) rfl
  · refine q_iload_n 1 dX7_nameFor_4 rfl ?_
    refine q_bipush (x := (20 : Int32)) dX7_nameFor_5 rfl ?_
    refine q_icmp_lt (tgt := 11) dX7_nameFor_7 (by decide) (fun c81 => ?_) (fun c81 => ?_)
    · refine q_aload_n 0 dX7_nameFor_11 rfl ?_
      refine q_getR (f := 2) cl_X7 (by decide) qw_262 rfl dX7_nameFor_12 (fun _ _ _ => rfl) (fun v1 h2 => ?_)
      refine q_iconst (x := (0 : Int32)) dX7_nameFor_15 rfl ?_
      refine q_aload_n 0 dX7_nameFor_16 rfl ?_
      refine q_getR (f := 4) cl_X7 (by decide) qw_264 rfl dX7_nameFor_17 (fun _ _ _ => rfl) (fun v3 h4 => ?_)
      refine q_iload_n 1 dX7_nameFor_20 rfl ?_
      refine q_iald dX7_nameFor_21 (fun v5 h6 => ?_)
      refine q_i2l dX7_nameFor_22 ?_
      refine q_cVM (Y2 := Y_X8_tellName) (As := [.int (0 : Int32), .long v5.toInt64]) (b := v1) (st := []) cl_X8 mv_X8_tellName qw_758 dX7_nameFor_23 ⟨Nat.le_of_ble_eq_true rfl, Nat.le_of_ble_eq_true rfl⟩ rfl (fun _ _ => rfl) (Nat.le_of_ble_eq_true rfl) ⟨Nat.le_of_ble_eq_true rfl, Nat.le_of_ble_eq_true rfl⟩ (fun M9 h7 => q_ob_is h7) (fun M9 h7 => m_X8_tellName h7) (fun M9 h7 => ?_)
      refine q_aload_n 0 dX7_nameFor_26 rfl ?_
      refine q_getR (f := 2) cl_X7 (by decide) qw_262 rfl dX7_nameFor_27 (fun _ _ _ => rfl) (fun v10 h11 => ?_)
      refine q_iconst (x := (1 : Int32)) dX7_nameFor_30 rfl ?_
      refine q_aload_n 0 dX7_nameFor_31 rfl ?_
      refine q_getR (f := 5) cl_X7 (by decide) qw_265 rfl dX7_nameFor_32 (fun _ _ _ => rfl) (fun v12 h13 => ?_)
      refine q_iload_n 1 dX7_nameFor_35 rfl ?_
      refine q_lald dX7_nameFor_36 (fun v14 h15 => ?_)
      refine q_ldc2 (x := (100 : Int64)) qw_762 dX7_nameFor_37 ?_
      refine q_ldiv dX7_nameFor_40 (fun v16 h17 => ?_)
      refine q_cVM (Y2 := Y_X8_tellName) (As := [.int (1 : Int32), .long v16]) (b := v10) (st := []) cl_X8 mv_X8_tellName qw_758 dX7_nameFor_41 ⟨Nat.le_of_ble_eq_true rfl, Nat.le_of_ble_eq_true rfl⟩ rfl (fun _ _ => rfl) (Nat.le_of_ble_eq_true rfl) ⟨Nat.le_of_ble_eq_true rfl, Nat.le_of_ble_eq_true rfl⟩ (fun M20 h18 => q_ob_is h18) (fun M20 h18 => m_X8_tellName h18) (fun M20 h18 => ?_)
      refine q_aload_n 0 dX7_nameFor_44 rfl ?_
      refine q_getR (f := 2) cl_X7 (by decide) qw_262 rfl dX7_nameFor_45 (fun _ _ _ => rfl) (fun v21 h22 => ?_)
      refine q_iconst (x := (2 : Int32)) dX7_nameFor_48 rfl ?_
      refine q_aload_n 0 dX7_nameFor_49 rfl ?_
      refine q_getR (f := 6) cl_X7 (by decide) qw_266 rfl dX7_nameFor_50 (fun _ _ _ => rfl) (fun v23 h24 => ?_)
      refine q_iload_n 1 dX7_nameFor_53 rfl ?_
      refine q_iald dX7_nameFor_54 (fun v25 h26 => ?_)
      refine q_i2l dX7_nameFor_55 ?_
      refine q_cVM (Y2 := Y_X8_tellName) (As := [.int (2 : Int32), .long v25.toInt64]) (b := v21) (st := []) cl_X8 mv_X8_tellName qw_758 dX7_nameFor_56 ⟨Nat.le_of_ble_eq_true rfl, Nat.le_of_ble_eq_true rfl⟩ rfl (fun _ _ => rfl) (Nat.le_of_ble_eq_true rfl) ⟨Nat.le_of_ble_eq_true rfl, Nat.le_of_ble_eq_true rfl⟩ (fun M29 h27 => q_ob_is h27) (fun M29 h27 => m_X8_tellName h27) (fun M29 h27 => ?_)
      refine q_aload_n 0 dX7_nameFor_59 rfl ?_
      refine q_getR (f := 2) cl_X7 (by decide) qw_262 rfl dX7_nameFor_60 (fun _ _ _ => rfl) (fun v30 h31 => ?_)
      refine q_iconst (x := (3 : Int32)) dX7_nameFor_63 rfl ?_
      refine q_aload_n 0 dX7_nameFor_64 rfl ?_
      refine q_getR (f := 7) cl_X7 (by decide) qw_267 rfl dX7_nameFor_65 (fun _ _ _ => rfl) (fun v32 h33 => ?_)
      refine q_iload_n 1 dX7_nameFor_68 rfl ?_
      refine q_iald dX7_nameFor_69 (fun v34 h35 => ?_)
      refine q_i2l dX7_nameFor_70 ?_
      refine q_cVM (Y2 := Y_X8_tellName) (As := [.int (3 : Int32), .long v34.toInt64]) (b := v30) (st := []) cl_X8 mv_X8_tellName qw_758 dX7_nameFor_71 ⟨Nat.le_of_ble_eq_true rfl, Nat.le_of_ble_eq_true rfl⟩ rfl (fun _ _ => rfl) (Nat.le_of_ble_eq_true rfl) ⟨Nat.le_of_ble_eq_true rfl, Nat.le_of_ble_eq_true rfl⟩ (fun M38 h36 => q_ob_is h36) (fun M38 h36 => m_X8_tellName h36) (fun M38 h36 => ?_)
      refine q_aload_n 0 dX7_nameFor_74 rfl ?_
      refine q_getR (f := 2) cl_X7 (by decide) qw_262 rfl dX7_nameFor_75 (fun _ _ _ => rfl) (fun v39 h40 => ?_)
      refine q_iconst (x := (4 : Int32)) dX7_nameFor_78 rfl ?_
      refine q_aload_n 0 dX7_nameFor_79 rfl ?_
      refine q_getR (f := 8) cl_X7 (by decide) qw_268 rfl dX7_nameFor_80 (fun _ _ _ => rfl) (fun v41 h42 => ?_)
      refine q_iload_n 1 dX7_nameFor_83 rfl ?_
      refine q_iald dX7_nameFor_84 (fun v43 h44 => ?_)
      refine q_i2l dX7_nameFor_85 ?_
      refine q_cVM (Y2 := Y_X8_tellName) (As := [.int (4 : Int32), .long v43.toInt64]) (b := v39) (st := []) cl_X8 mv_X8_tellName qw_758 dX7_nameFor_86 ⟨Nat.le_of_ble_eq_true rfl, Nat.le_of_ble_eq_true rfl⟩ rfl (fun _ _ => rfl) (Nat.le_of_ble_eq_true rfl) ⟨Nat.le_of_ble_eq_true rfl, Nat.le_of_ble_eq_true rfl⟩ (fun M47 h45 => q_ob_is h45) (fun M47 h45 => m_X8_tellName h45) (fun M47 h45 => ?_)
      refine q_aload_n 0 dX7_nameFor_89 rfl ?_
      refine q_getR (f := 2) cl_X7 (by decide) qw_262 rfl dX7_nameFor_90 (fun _ _ _ => rfl) (fun v48 h49 => ?_)
      refine q_iconst (x := (5 : Int32)) dX7_nameFor_93 rfl ?_
      refine q_aload_n 0 dX7_nameFor_94 rfl ?_
      refine q_getR (f := 0) cl_X7 (by decide) qw_260 rfl dX7_nameFor_95 (fun _ _ _ => rfl) (fun v50 h51 => ?_)
      refine q_getR (f := 0) cl_X5 (by decide) qw_76 rfl dX7_nameFor_98 (fun _ _ _ => rfl) (fun v52 h53 => ?_)
      refine q_iload_n 1 dX7_nameFor_101 rfl ?_
      refine q_iconst (x := (3 : Int32)) dX7_nameFor_102 rfl ?_
      refine q_cVI (Y2 := Y_X9_at) (As := [.int a1, .int (3 : Int32)]) (b := v52) (st := [.int (5 : Int32), .ref v48]) cl_X9 mv_X9_at qw_751 dX7_nameFor_103 ⟨Nat.le_of_ble_eq_true rfl, Nat.le_of_ble_eq_true rfl⟩ rfl (fun _ _ => rfl) (Nat.le_of_ble_eq_true rfl) ⟨Nat.le_of_ble_eq_true rfl, Nat.le_of_ble_eq_true rfl⟩ (fun v55 h54 => q_ob_is h54) (fun v55 h54 => m_X9_at h54) (fun v55 h54 => ?_)
      refine q_i2l dX7_nameFor_106 ?_
      refine q_cVM (Y2 := Y_X8_tellName) (As := [.int (5 : Int32), .long v55.toInt64]) (b := v48) (st := []) cl_X8 mv_X8_tellName qw_758 dX7_nameFor_107 ⟨Nat.le_of_ble_eq_true rfl, Nat.le_of_ble_eq_true rfl⟩ rfl (fun _ _ => rfl) (Nat.le_of_ble_eq_true rfl) ⟨Nat.le_of_ble_eq_true rfl, Nat.le_of_ble_eq_true rfl⟩ (fun M58 h56 => q_ob_is h56) (fun M58 h56 => m_X8_tellName h56) (fun M58 h56 => ?_)
      refine q_aload_n 0 dX7_nameFor_110 rfl ?_
      refine q_getR (f := 2) cl_X7 (by decide) qw_262 rfl dX7_nameFor_111 (fun _ _ _ => rfl) (fun v59 h60 => ?_)
      refine q_bipush (x := (6 : Int32)) dX7_nameFor_114 rfl ?_
      refine q_aload_n 0 dX7_nameFor_116 rfl ?_
      refine q_getR (f := 0) cl_X7 (by decide) qw_260 rfl dX7_nameFor_117 (fun _ _ _ => rfl) (fun v61 h62 => ?_)
      refine q_getR (f := 0) cl_X5 (by decide) qw_76 rfl dX7_nameFor_120 (fun _ _ _ => rfl) (fun v63 h64 => ?_)
      refine q_iload_n 1 dX7_nameFor_123 rfl ?_
      refine q_iconst (x := (2 : Int32)) dX7_nameFor_124 rfl ?_
      refine q_cVI (Y2 := Y_X9_at) (As := [.int a1, .int (2 : Int32)]) (b := v63) (st := [.int (6 : Int32), .ref v59]) cl_X9 mv_X9_at qw_751 dX7_nameFor_125 ⟨Nat.le_of_ble_eq_true rfl, Nat.le_of_ble_eq_true rfl⟩ rfl (fun _ _ => rfl) (Nat.le_of_ble_eq_true rfl) ⟨Nat.le_of_ble_eq_true rfl, Nat.le_of_ble_eq_true rfl⟩ (fun v66 h65 => q_ob_is h65) (fun v66 h65 => m_X9_at h65) (fun v66 h65 => ?_)
      refine q_i2l dX7_nameFor_128 ?_
      refine q_cVM (Y2 := Y_X8_tellName) (As := [.int (6 : Int32), .long v66.toInt64]) (b := v59) (st := []) cl_X8 mv_X8_tellName qw_758 dX7_nameFor_129 ⟨Nat.le_of_ble_eq_true rfl, Nat.le_of_ble_eq_true rfl⟩ rfl (fun _ _ => rfl) (Nat.le_of_ble_eq_true rfl) ⟨Nat.le_of_ble_eq_true rfl, Nat.le_of_ble_eq_true rfl⟩ (fun M69 h67 => q_ob_is h67) (fun M69 h67 => m_X8_tellName h67) (fun M69 h67 => ?_)
      refine q_aload_n 0 dX7_nameFor_132 rfl ?_
      refine q_getR (f := 2) cl_X7 (by decide) qw_262 rfl dX7_nameFor_133 (fun _ _ _ => rfl) (fun v70 h71 => ?_)
      refine q_bipush (x := (7 : Int32)) dX7_nameFor_136 rfl ?_
      refine q_aload_n 0 dX7_nameFor_138 rfl ?_
      refine q_aload_n 0 dX7_nameFor_139 rfl ?_
      refine q_getR (f := 4) cl_X7 (by decide) qw_264 rfl dX7_nameFor_140 (fun _ _ _ => rfl) (fun v72 h73 => ?_)
      refine q_iload_n 1 dX7_nameFor_143 rfl ?_
      refine q_iald dX7_nameFor_144 (fun v74 h75 => ?_)
      refine q_cVI (Y2 := Y_X7_rankOfWeight) (As := [.int v74]) (b := a0) (st := [.int (7 : Int32), .ref v70]) cl_X7 mv_X7_rankOfWeight qw_763 dX7_nameFor_145 ⟨Nat.le_of_ble_eq_true rfl, Nat.le_of_ble_eq_true rfl⟩ rfl (fun _ _ => rfl) (Nat.le_of_ble_eq_true rfl) ⟨Nat.le_of_ble_eq_true rfl, Nat.le_of_ble_eq_true rfl⟩ (fun v77 h76 => q_ob_is h76) (fun v77 h76 => m_X7_rankOfWeight h76) (fun v77 h76 => ?_)
      refine q_i2l dX7_nameFor_148 ?_
      refine q_cVM (Y2 := Y_X8_tellName) (As := [.int (7 : Int32), .long v77.toInt64]) (b := v70) (st := []) cl_X8 mv_X8_tellName qw_758 dX7_nameFor_149 ⟨Nat.le_of_ble_eq_true rfl, Nat.le_of_ble_eq_true rfl⟩ rfl (fun _ _ => rfl) (Nat.le_of_ble_eq_true rfl) ⟨Nat.le_of_ble_eq_true rfl, Nat.le_of_ble_eq_true rfl⟩ (fun M80 h78 => q_ob_is h78) (fun M80 h78 => m_X8_tellName h78) (fun M80 h78 => ?_)
      exact q_vret dX7_nameFor_152 rfl rfl (Nat.le_of_ble_eq_true rfl) rfl
    · exact q_vret dX7_nameFor_10 rfl rfl (Nat.le_of_ble_eq_true rfl) rfl
theorem dX8_load_0 : decode cX8_load 0 = .ok (.aload_n 0, 1) := by decide +kernel
theorem dX8_load_1 : decode cX8_load 1 = .ok (.iconst 0, 1) := by decide +kernel
theorem dX8_load_2 : decode cX8_load 2 = .ok (.aload_n 0, 1) := by decide +kernel
theorem dX8_load_3 : decode cX8_load 3 = .ok (.getfield 9, 3) := by decide +kernel
theorem dX8_load_6 : decode cX8_load 6 = .ok (.arraylength, 1) := by decide +kernel
theorem dX8_load_7 : decode cX8_load 7 = .ok (.aload_n 1, 1) := by decide +kernel
theorem dX8_load_8 : decode cX8_load 8 = .ok (.iload_n 2, 1) := by decide +kernel
theorem dX8_load_9 : decode cX8_load 9 = .ok (.iload_n 3, 1) := by decide +kernel
theorem dX8_load_10 : decode cX8_load 10 = .ok (.invokevirtual 29, 3) := by decide +kernel
theorem dX8_load_13 : decode cX8_load 13 = .ok (.invokestatic 35, 3) := by decide +kernel
theorem dX8_load_16 : decode cX8_load 16 = .ok (.invokestatic 40, 3) := by decide +kernel
theorem dX8_load_19 : decode cX8_load 19 = .ok (.putfield 43, 3) := by decide +kernel
theorem dX8_load_22 : decode cX8_load 22 = .ok (.iconst 0, 1) := by decide +kernel
theorem dX8_load_23 : decode cX8_load 23 = .ok (.istore 4, 2) := by decide +kernel
theorem dX8_load_25 : decode cX8_load 25 = .ok (.iload 4, 2) := by decide +kernel
theorem dX8_load_27 : decode cX8_load 27 = .ok (.aload_n 0, 1) := by decide +kernel
theorem dX8_load_28 : decode cX8_load 28 = .ok (.getfield 43, 3) := by decide +kernel
theorem dX8_load_31 : decode cX8_load 31 = .ok (.if_icmp .ge 37, 3) := by decide +kernel
theorem dX8_load_34 : decode cX8_load 34 = .ok (.iload 4, 2) := by decide +kernel
theorem dX8_load_36 : decode cX8_load 36 = .ok (.aload_n 0, 1) := by decide +kernel
theorem dX8_load_37 : decode cX8_load 37 = .ok (.getfield 9, 3) := by decide +kernel
theorem dX8_load_40 : decode cX8_load 40 = .ok (.arraylength, 1) := by decide +kernel
theorem dX8_load_41 : decode cX8_load 41 = .ok (.if_icmp .ge 27, 3) := by decide +kernel
theorem dX8_load_44 : decode cX8_load 44 = .ok (.aload_n 0, 1) := by decide +kernel
theorem dX8_load_45 : decode cX8_load 45 = .ok (.getfield 9, 3) := by decide +kernel
theorem dX8_load_48 : decode cX8_load 48 = .ok (.iload 4, 2) := by decide +kernel
theorem dX8_load_50 : decode cX8_load 50 = .ok (.aload_n 1, 1) := by decide +kernel
theorem dX8_load_51 : decode cX8_load 51 = .ok (.iload_n 2, 1) := by decide +kernel
theorem dX8_load_52 : decode cX8_load 52 = .ok (.iload_n 3, 1) := by decide +kernel
theorem dX8_load_53 : decode cX8_load 53 = .ok (.iconst 1, 1) := by decide +kernel
theorem dX8_load_54 : decode cX8_load 54 = .ok (.iadd, 1) := by decide +kernel
theorem dX8_load_55 : decode cX8_load 55 = .ok (.iload 4, 2) := by decide +kernel
theorem dX8_load_57 : decode cX8_load 57 = .ok (.iadd, 1) := by decide +kernel
theorem dX8_load_58 : decode cX8_load 58 = .ok (.invokevirtual 29, 3) := by decide +kernel
theorem dX8_load_61 : decode cX8_load 61 = .ok (.iastore, 1) := by decide +kernel
theorem dX8_load_62 : decode cX8_load 62 = .ok (.iinc 4 1, 3) := by decide +kernel
theorem dX8_load_65 : decode cX8_load 65 = .ok (.goto (-40), 3) := by decide +kernel
theorem dX8_load_68 : decode cX8_load 68 = .ok (.return_, 1) := by decide +kernel
def f_X8_load_b25 (a0 : Nat) (a1 : Nat) (a2 : Int32) (a3 : Int32) : Nat → Int32 → q_Mem → Option q_Mem
  | 0, _, _ => none
  | n + 1, a4, M =>
    (q_gI 7 1 M a0).bind fun v9 =>
    (if a4 < v9 then
      (q_gR 7 0 M a0).bind fun v11 =>
      (q_ln M v11).bind fun v13 =>
      (if a4 < v13 then
        (q_gR 7 0 M a0).bind fun v15 =>
        (f_X9_at M a1 a2 ((a3 + (1 : Int32)) + a4)).bind fun v18 =>
        (q_tI M v15 a4 v18).bind fun M19 =>
        f_X8_load_b25 a0 a1 a2 a3 n (a4 + (1 : Int32)) M19
      else
        some M)
    else
      some M)
def f_X8_load (M : q_Mem) (a0 : Nat) (a1 : Nat) (a2 : Int32) (a3 : Int32) : Option q_Mem :=
  q_ob 7 M a0 ((q_gR 7 0 M a0).bind fun v1 =>
  (q_ln M v1).bind fun v3 =>
  (f_X9_at M a1 a2 a3).bind fun v6 =>
  (q_pI 7 1 M a0 (q_mx (0 : Int32) (q_mi v3 v6))).bind fun M7 =>
  f_X8_load_b25 a0 a1 a2 a3 q_fuel (0 : Int32) M7)
set_option maxRecDepth 20000 in
theorem v_X8_load_b25 {a0 : Nat} {a1 : Nat} {a2 : Int32} {a3 : Int32}  : ∀ (n : Nat) (a4 : Int32) (M : q_Mem), q_V Y_X8_load none (fun x : q_Mem => (none, x)) 0 0 25 [(0, .ref a0), (1, .ref a1), (2, .int a2), (3, .int a3), (4, .int a4)] [] M (f_X8_load_b25 a0 a1 a2 a3 n a4 M) := by
  intro n
  induction n with
  | zero => intro a4 M; exact q_none
  | succ n ih =>
    intro a4 M
    rw [f_X8_load_b25.eq_2]
    refine q_iload 4 dX8_load_25 rfl ?_
    refine q_aload_n 0 dX8_load_27 rfl ?_
    refine q_getI (f := 1) cl_X8 (by decide) qw_194 rfl dX8_load_28 (Or.inl rfl) (fun v9 h10 => ?_)
    refine q_icmp_ge (tgt := 68) dX8_load_31 (by decide) (fun c22 => ?_) (fun c22 => ?_)
    · refine q_iload 4 dX8_load_34 rfl ?_
      refine q_aload_n 0 dX8_load_36 rfl ?_
      refine q_getR (f := 0) cl_X8 (by decide) qw_193 rfl dX8_load_37 (fun _ _ _ => rfl) (fun v11 h12 => ?_)
      refine q_alen dX8_load_40 (fun v13 h14 => ?_)
      refine q_icmp_ge (tgt := 68) dX8_load_41 (by decide) (fun c21 => ?_) (fun c21 => ?_)
      · refine q_aload_n 0 dX8_load_44 rfl ?_
        refine q_getR (f := 0) cl_X8 (by decide) qw_193 rfl dX8_load_45 (fun _ _ _ => rfl) (fun v15 h16 => ?_)
        refine q_iload 4 dX8_load_48 rfl ?_
        refine q_aload_n 1 dX8_load_50 rfl ?_
        refine q_iload_n 2 dX8_load_51 rfl ?_
        refine q_iload_n 3 dX8_load_52 rfl ?_
        refine q_iconst (x := (1 : Int32)) dX8_load_53 rfl ?_
        refine q_iadd dX8_load_54 ?_
        refine q_iload 4 dX8_load_55 rfl ?_
        refine q_iadd dX8_load_57 ?_
        refine q_cVI (Y2 := Y_X9_at) (As := [.int a2, .int ((a3 + (1 : Int32)) + a4)]) (b := a1) (st := [.int a4, .ref v15]) cl_X9 mv_X9_at qw_636 dX8_load_58 ⟨Nat.le_of_ble_eq_true rfl, Nat.le_of_ble_eq_true rfl⟩ rfl (fun _ _ => rfl) (Nat.le_of_ble_eq_true rfl) ⟨Nat.le_of_ble_eq_true rfl, Nat.le_of_ble_eq_true rfl⟩ (fun v18 h17 => q_ob_is h17) (fun v18 h17 => m_X9_at h17) (fun v18 h17 => ?_)
        refine q_iast dX8_load_61 (fun M19 h20 => ?_)
        refine q_iinc 4 (y := (a4 + (1 : Int32))) (ls' := [(4, .int (a4 + (1 : Int32))), (0, .ref a0), (1, .ref a1), (2, .int a2), (3, .int a3)]) dX8_load_62 rfl rfl (by decide) rfl ?_
        refine q_goto (tgt := 25) dX8_load_65 (by decide) ?_
        refine q_sub (ls' := [(0, .ref a0), (1, .ref a1), (2, .int a2), (3, .int a3), (4, .int (a4 + (1 : Int32)))]) [1, 2, 3, 4, 0] rfl ?_
        exact ih _ _
      · exact q_vret dX8_load_68 rfl rfl (Nat.le_of_ble_eq_true rfl) rfl
    · exact q_vret dX8_load_68 rfl rfl (Nat.le_of_ble_eq_true rfl) rfl
set_option maxRecDepth 20000 in
theorem m_X8_load {M : q_Mem} {a0 : Nat} {a1 : Nat} {a2 : Int32} {a3 : Int32} {x : q_Mem} (h : f_X8_load M a0 a1 a2 a3 = some x) : q_C Y_X8_load [.ref a0, .ref a1, .int a2, .int a3] M none x := by
  refine q_met (φ := (fun x : q_Mem => (none, x))) (r := f_X8_load M a0 a1 a2 a3) (by decide +kernel) (Nat.le_of_ble_eq_true rfl) ?_ h (fun _ _ => rfl)
  show q_V Y_X8_load none (fun x : q_Mem => (none, x)) 0 0 0 [(0, .ref a0), (1, .ref a1), (2, .int a2), (3, .int a3)] [] M (f_X8_load M a0 a1 a2 a3)
  unfold f_X8_load
  refine q_obV ?_
  refine q_aload_n 0 dX8_load_0 rfl ?_
  refine q_iconst (x := (0 : Int32)) dX8_load_1 rfl ?_
  refine q_aload_n 0 dX8_load_2 rfl ?_
  refine q_getR (f := 0) cl_X8 (by decide) qw_193 rfl dX8_load_3 (fun _ _ _ => rfl) (fun v1 h2 => ?_)
  refine q_alen dX8_load_6 (fun v3 h4 => ?_)
  refine q_aload_n 1 dX8_load_7 rfl ?_
  refine q_iload_n 2 dX8_load_8 rfl ?_
  refine q_iload_n 3 dX8_load_9 rfl ?_
  refine q_cVI (Y2 := Y_X9_at) (As := [.int a2, .int a3]) (b := a1) (st := [.int v3, .int (0 : Int32), .ref a0]) cl_X9 mv_X9_at qw_636 dX8_load_10 ⟨Nat.le_of_ble_eq_true rfl, Nat.le_of_ble_eq_true rfl⟩ rfl (fun _ _ => rfl) (Nat.le_of_ble_eq_true rfl) ⟨Nat.le_of_ble_eq_true rfl, Nat.le_of_ble_eq_true rfl⟩ (fun v6 h5 => q_ob_is h5) (fun v6 h5 => m_X9_at h5) (fun v6 h5 => ?_)
  refine q_mmin qw_637 qm_mmin_1 qm_2 qm_mmin_3 dX8_load_13 (Nat.le_of_ble_eq_true rfl) (Nat.le_of_ble_eq_true rfl) (Nat.le_of_ble_eq_true rfl) ⟨Nat.le_of_ble_eq_true rfl, Nat.le_of_ble_eq_true rfl⟩ ?_
  refine q_mmax qw_638 qm_mmax_1 qm_2 qm_mmax_3 dX8_load_16 (Nat.le_of_ble_eq_true rfl) (Nat.le_of_ble_eq_true rfl) (Nat.le_of_ble_eq_true rfl) ⟨Nat.le_of_ble_eq_true rfl, Nat.le_of_ble_eq_true rfl⟩ ?_
  refine q_putI (f := 1) cl_X8 (by decide) qw_194 rfl (Or.inl rfl) dX8_load_19 rfl (fun M7 h8 => ?_)
  refine q_iconst (x := (0 : Int32)) dX8_load_22 rfl ?_
  refine q_istore (ls' := [(4, .int (0 : Int32)), (0, .ref a0), (1, .ref a1), (2, .int a2), (3, .int a3)]) dX8_load_23 (by decide) rfl ?_
  refine q_sub (ls' := [(0, .ref a0), (1, .ref a1), (2, .int a2), (3, .int a3), (4, .int (0 : Int32))]) [1, 2, 3, 4, 0] rfl ?_
  exact v_X8_load_b25 _ _ _
theorem dX8_signAt_0 : decode cX8_signAt 0 = .ok (.iload_n 1, 1) := by decide +kernel
theorem dX8_signAt_1 : decode cX8_signAt 1 = .ok (.ifCond .lt 20, 3) := by decide +kernel
theorem dX8_signAt_4 : decode cX8_signAt 4 = .ok (.iload_n 1, 1) := by decide +kernel
theorem dX8_signAt_5 : decode cX8_signAt 5 = .ok (.aload_n 0, 1) := by decide +kernel
theorem dX8_signAt_6 : decode cX8_signAt 6 = .ok (.getfield 43, 3) := by decide +kernel
theorem dX8_signAt_9 : decode cX8_signAt 9 = .ok (.if_icmp .ge 12, 3) := by decide +kernel
theorem dX8_signAt_12 : decode cX8_signAt 12 = .ok (.iload_n 1, 1) := by decide +kernel
theorem dX8_signAt_13 : decode cX8_signAt 13 = .ok (.aload_n 0, 1) := by decide +kernel
theorem dX8_signAt_14 : decode cX8_signAt 14 = .ok (.getfield 9, 3) := by decide +kernel
theorem dX8_signAt_17 : decode cX8_signAt 17 = .ok (.arraylength, 1) := by decide +kernel
theorem dX8_signAt_18 : decode cX8_signAt 18 = .ok (.if_icmp .lt 7, 3) := by decide +kernel
theorem dX8_signAt_21 : decode cX8_signAt 21 = .ok (.iconst 0, 1) := by decide +kernel
theorem dX8_signAt_22 : decode cX8_signAt 22 = .ok (.goto 9, 3) := by decide +kernel
theorem dX8_signAt_25 : decode cX8_signAt 25 = .ok (.aload_n 0, 1) := by decide +kernel
theorem dX8_signAt_26 : decode cX8_signAt 26 = .ok (.getfield 9, 3) := by decide +kernel
theorem dX8_signAt_29 : decode cX8_signAt 29 = .ok (.iload_n 1, 1) := by decide +kernel
theorem dX8_signAt_30 : decode cX8_signAt 30 = .ok (.iaload, 1) := by decide +kernel
theorem dX8_signAt_31 : decode cX8_signAt 31 = .ok (.ireturn, 1) := by decide +kernel
def f_X8_signAt (M : q_Mem) (a0 : Nat) (a1 : Int32) : Option Int32 :=
  q_ob 7 M a0 ((if a1 < 0 then
    some (0 : Int32)
  else
    (q_gI 7 1 M a0).bind fun v1 =>
    (if a1 < v1 then
      (q_gR 7 0 M a0).bind fun v3 =>
      (q_ln M v3).bind fun v5 =>
      (if a1 < v5 then
        (q_gR 7 0 M a0).bind fun v7 =>
        (q_lI M v7 a1).bind fun v9 =>
        some v9
      else
        some (0 : Int32))
    else
      some (0 : Int32))))
set_option maxRecDepth 20000 in
theorem m_X8_signAt {M : q_Mem} {a0 : Nat} {a1 : Int32} {x : Int32} (h : f_X8_signAt M a0 a1 = some x) : q_C Y_X8_signAt [.ref a0, .int a1] M (some (.int x)) M := by
  refine q_met (φ := (fun x : Int32 => (some (.int x), M))) (r := f_X8_signAt M a0 a1) (by decide +kernel) (Nat.le_of_ble_eq_true rfl) ?_ h (fun _ _ => rfl)
  show q_V Y_X8_signAt none (fun x : Int32 => (some (.int x), M)) 0 0 0 [(0, .ref a0), (1, .int a1)] [] M (f_X8_signAt M a0 a1)
  unfold f_X8_signAt
  refine q_obV ?_
  refine q_iload_n 1 dX8_signAt_0 rfl ?_
  refine q_if_lt (tgt := 21) dX8_signAt_1 (by decide) (fun c13 => ?_) (fun c13 => ?_)
  · refine q_iconst (x := (0 : Int32)) dX8_signAt_21 rfl ?_
    refine q_goto (tgt := 31) dX8_signAt_22 (by decide) ?_
    exact q_iret dX8_signAt_31 rfl rfl (Nat.le_of_ble_eq_true rfl) rfl
  · refine q_iload_n 1 dX8_signAt_4 rfl ?_
    refine q_aload_n 0 dX8_signAt_5 rfl ?_
    refine q_getI (f := 1) cl_X8 (by decide) qw_194 rfl dX8_signAt_6 (Or.inl rfl) (fun v1 h2 => ?_)
    refine q_icmp_ge (tgt := 21) dX8_signAt_9 (by decide) (fun c12 => ?_) (fun c12 => ?_)
    · refine q_iload_n 1 dX8_signAt_12 rfl ?_
      refine q_aload_n 0 dX8_signAt_13 rfl ?_
      refine q_getR (f := 0) cl_X8 (by decide) qw_193 rfl dX8_signAt_14 (fun _ _ _ => rfl) (fun v3 h4 => ?_)
      refine q_alen dX8_signAt_17 (fun v5 h6 => ?_)
      refine q_icmp_lt (tgt := 25) dX8_signAt_18 (by decide) (fun c11 => ?_) (fun c11 => ?_)
      · refine q_aload_n 0 dX8_signAt_25 rfl ?_
        refine q_getR (f := 0) cl_X8 (by decide) qw_193 rfl dX8_signAt_26 (fun _ _ _ => rfl) (fun v7 h8 => ?_)
        refine q_iload_n 1 dX8_signAt_29 rfl ?_
        refine q_iald dX8_signAt_30 (fun v9 h10 => ?_)
        exact q_iret dX8_signAt_31 rfl rfl (Nat.le_of_ble_eq_true rfl) rfl
      · refine q_iconst (x := (0 : Int32)) dX8_signAt_21 rfl ?_
        refine q_goto (tgt := 31) dX8_signAt_22 (by decide) ?_
        exact q_iret dX8_signAt_31 rfl rfl (Nat.le_of_ble_eq_true rfl) rfl
    · refine q_iconst (x := (0 : Int32)) dX8_signAt_21 rfl ?_
      refine q_goto (tgt := 31) dX8_signAt_22 (by decide) ?_
      exact q_iret dX8_signAt_31 rfl rfl (Nat.le_of_ble_eq_true rfl) rfl
theorem dX8_isDigit_0 : decode cX8_isDigit 0 = .ok (.iload_n 0, 1) := by decide +kernel
theorem dX8_isDigit_1 : decode cX8_isDigit 1 = .ok (.bipush 48, 2) := by decide +kernel
theorem dX8_isDigit_3 : decode cX8_isDigit 3 = .ok (.if_icmp .lt 13, 3) := by decide +kernel
theorem dX8_isDigit_6 : decode cX8_isDigit 6 = .ok (.iload_n 0, 1) := by decide +kernel
theorem dX8_isDigit_7 : decode cX8_isDigit 7 = .ok (.bipush 57, 2) := by decide +kernel
theorem dX8_isDigit_9 : decode cX8_isDigit 9 = .ok (.if_icmp .gt 7, 3) := by decide +kernel
theorem dX8_isDigit_12 : decode cX8_isDigit 12 = .ok (.iconst 1, 1) := by decide +kernel
theorem dX8_isDigit_13 : decode cX8_isDigit 13 = .ok (.goto 4, 3) := by decide +kernel
theorem dX8_isDigit_16 : decode cX8_isDigit 16 = .ok (.iconst 0, 1) := by decide +kernel
theorem dX8_isDigit_17 : decode cX8_isDigit 17 = .ok (.ireturn, 1) := by decide +kernel
def f_X8_isDigit (M : q_Mem) (a0 : Int32) : Option Int32 :=
  (if a0 < (48 : Int32) then
    some (0 : Int32)
  else
    (if (57 : Int32) < a0 then
      some (0 : Int32)
    else
      some (1 : Int32)))
set_option maxRecDepth 20000 in
theorem m_X8_isDigit {M : q_Mem} {a0 : Int32} {x : Int32} (h : f_X8_isDigit M a0 = some x) : q_C Y_X8_isDigit [.int a0] M (some (.int x)) M := by
  refine q_met (φ := (fun x : Int32 => (some (.int x), M))) (r := f_X8_isDigit M a0) (by decide +kernel) (Nat.le_of_ble_eq_true rfl) ?_ h (fun _ _ => rfl)
  show q_V Y_X8_isDigit none (fun x : Int32 => (some (.int x), M)) 0 0 0 [(0, .int a0)] [] M (f_X8_isDigit M a0)
  unfold f_X8_isDigit
  refine q_iload_n 0 dX8_isDigit_0 rfl ?_
  refine q_bipush (x := (48 : Int32)) dX8_isDigit_1 rfl ?_
  refine q_icmp_lt (tgt := 16) dX8_isDigit_3 (by decide) (fun c2 => ?_) (fun c2 => ?_)
  · refine q_iconst (x := (0 : Int32)) dX8_isDigit_16 rfl ?_
    exact q_zretL dX8_isDigit_17 rfl (Or.inl rfl) rfl (Nat.le_of_ble_eq_true rfl) rfl
  · refine q_iload_n 0 dX8_isDigit_6 rfl ?_
    refine q_bipush (x := (57 : Int32)) dX8_isDigit_7 rfl ?_
    refine q_icmp_gt (tgt := 16) dX8_isDigit_9 (by decide) (fun c1 => ?_) (fun c1 => ?_)
    · refine q_iconst (x := (0 : Int32)) dX8_isDigit_16 rfl ?_
      exact q_zretL dX8_isDigit_17 rfl (Or.inl rfl) rfl (Nat.le_of_ble_eq_true rfl) rfl
    · refine q_iconst (x := (1 : Int32)) dX8_isDigit_12 rfl ?_
      refine q_goto (tgt := 17) dX8_isDigit_13 (by decide) ?_
      exact q_zretL dX8_isDigit_17 rfl (Or.inr rfl) rfl (Nat.le_of_ble_eq_true rfl) rfl
theorem dX8_stop_0 : decode cX8_stop 0 = .ok (.aload_n 0, 1) := by decide +kernel
theorem dX8_stop_1 : decode cX8_stop 1 = .ok (.bipush 10, 2) := by decide +kernel
theorem dX8_stop_3 : decode cX8_stop 3 = .ok (.iload_n 1, 1) := by decide +kernel
theorem dX8_stop_4 : decode cX8_stop 4 = .ok (.imul, 1) := by decide +kernel
theorem dX8_stop_5 : decode cX8_stop 5 = .ok (.iload_n 2, 1) := by decide +kernel
theorem dX8_stop_6 : decode cX8_stop 6 = .ok (.iadd, 1) := by decide +kernel
theorem dX8_stop_7 : decode cX8_stop 7 = .ok (.putfield 63, 3) := by decide +kernel
theorem dX8_stop_10 : decode cX8_stop 10 = .ok (.return_, 1) := by decide +kernel
def f_X8_stop (M : q_Mem) (a0 : Nat) (a1 : Int32) (a2 : Int32) : Option q_Mem :=
  q_ob 7 M a0 ((q_pI 7 11 M a0 (((10 : Int32) * a1) + a2)).bind fun M1 =>
  some M1)
set_option maxRecDepth 20000 in
theorem m_X8_stop {M : q_Mem} {a0 : Nat} {a1 : Int32} {a2 : Int32} {x : q_Mem} (h : f_X8_stop M a0 a1 a2 = some x) : q_C Y_X8_stop [.ref a0, .int a1, .int a2] M none x := by
  refine q_met (φ := (fun x : q_Mem => (none, x))) (r := f_X8_stop M a0 a1 a2) (by decide +kernel) (Nat.le_of_ble_eq_true rfl) ?_ h (fun _ _ => rfl)
  show q_V Y_X8_stop none (fun x : q_Mem => (none, x)) 0 0 0 [(0, .ref a0), (1, .int a1), (2, .int a2)] [] M (f_X8_stop M a0 a1 a2)
  unfold f_X8_stop
  refine q_obV ?_
  refine q_aload_n 0 dX8_stop_0 rfl ?_
  refine q_bipush (x := (10 : Int32)) dX8_stop_1 rfl ?_
  refine q_iload_n 1 dX8_stop_3 rfl ?_
  refine q_imul dX8_stop_4 ?_
  refine q_iload_n 2 dX8_stop_5 rfl ?_
  refine q_iadd dX8_stop_6 ?_
  refine q_putI (f := 11) cl_X8 (by decide) qw_204 rfl (Or.inl rfl) dX8_stop_7 rfl (fun M1 h2 => ?_)
  exact q_vret dX8_stop_10 rfl rfl (Nat.le_of_ble_eq_true rfl) rfl
theorem dX8_topMark_0 : decode cX8_topMark 0 = .ok (.aload_n 0, 1) := by decide +kernel
theorem dX8_topMark_1 : decode cX8_topMark 1 = .ok (.getfield 50, 3) := by decide +kernel
theorem dX8_topMark_4 : decode cX8_topMark 4 = .ok (.ifCond .le 15, 3) := by decide +kernel
theorem dX8_topMark_7 : decode cX8_topMark 7 = .ok (.aload_n 0, 1) := by decide +kernel
theorem dX8_topMark_8 : decode cX8_topMark 8 = .ok (.getfield 50, 3) := by decide +kernel
theorem dX8_topMark_11 : decode cX8_topMark 11 = .ok (.aload_n 0, 1) := by decide +kernel
theorem dX8_topMark_12 : decode cX8_topMark 12 = .ok (.getfield 22, 3) := by decide +kernel
theorem dX8_topMark_15 : decode cX8_topMark 15 = .ok (.arraylength, 1) := by decide +kernel
theorem dX8_topMark_16 : decode cX8_topMark 16 = .ok (.if_icmp .le 7, 3) := by decide +kernel
theorem dX8_topMark_19 : decode cX8_topMark 19 = .ok (.iconst 0, 1) := by decide +kernel
theorem dX8_topMark_20 : decode cX8_topMark 20 = .ok (.goto 14, 3) := by decide +kernel
theorem dX8_topMark_23 : decode cX8_topMark 23 = .ok (.aload_n 0, 1) := by decide +kernel
theorem dX8_topMark_24 : decode cX8_topMark 24 = .ok (.getfield 22, 3) := by decide +kernel
theorem dX8_topMark_27 : decode cX8_topMark 27 = .ok (.aload_n 0, 1) := by decide +kernel
theorem dX8_topMark_28 : decode cX8_topMark 28 = .ok (.getfield 50, 3) := by decide +kernel
theorem dX8_topMark_31 : decode cX8_topMark 31 = .ok (.iconst 1, 1) := by decide +kernel
theorem dX8_topMark_32 : decode cX8_topMark 32 = .ok (.isub, 1) := by decide +kernel
theorem dX8_topMark_33 : decode cX8_topMark 33 = .ok (.iaload, 1) := by decide +kernel
theorem dX8_topMark_34 : decode cX8_topMark 34 = .ok (.ireturn, 1) := by decide +kernel
def f_X8_topMark (M : q_Mem) (a0 : Nat) : Option Int32 :=
  q_ob 7 M a0 ((q_gI 7 7 M a0).bind fun v1 =>
  (if 0 < v1 then
    (q_gI 7 7 M a0).bind fun v3 =>
    (q_gR 7 5 M a0).bind fun v5 =>
    (q_ln M v5).bind fun v7 =>
    (if v7 < v3 then
      some (0 : Int32)
    else
      (q_gR 7 5 M a0).bind fun v9 =>
      (q_gI 7 7 M a0).bind fun v11 =>
      (q_lI M v9 (v11 - (1 : Int32))).bind fun v13 =>
      some v13)
  else
    some (0 : Int32)))
set_option maxRecDepth 20000 in
theorem m_X8_topMark {M : q_Mem} {a0 : Nat} {x : Int32} (h : f_X8_topMark M a0 = some x) : q_C Y_X8_topMark [.ref a0] M (some (.int x)) M := by
  refine q_met (φ := (fun x : Int32 => (some (.int x), M))) (r := f_X8_topMark M a0) (by decide +kernel) (Nat.le_of_ble_eq_true rfl) ?_ h (fun _ _ => rfl)
  show q_V Y_X8_topMark none (fun x : Int32 => (some (.int x), M)) 0 0 0 [(0, .ref a0)] [] M (f_X8_topMark M a0)
  unfold f_X8_topMark
  refine q_obV ?_
  refine q_aload_n 0 dX8_topMark_0 rfl ?_
  refine q_getI (f := 7) cl_X8 (by decide) qw_200 rfl dX8_topMark_1 (Or.inl rfl) (fun v1 h2 => ?_)
  refine q_if_le (tgt := 19) dX8_topMark_4 (by decide) (fun c16 => ?_) (fun c16 => ?_)
  · refine q_aload_n 0 dX8_topMark_7 rfl ?_
    refine q_getI (f := 7) cl_X8 (by decide) qw_200 rfl dX8_topMark_8 (Or.inl rfl) (fun v3 h4 => ?_)
    refine q_aload_n 0 dX8_topMark_11 rfl ?_
    refine q_getR (f := 5) cl_X8 (by decide) qw_198 rfl dX8_topMark_12 (fun _ _ _ => rfl) (fun v5 h6 => ?_)
    refine q_alen dX8_topMark_15 (fun v7 h8 => ?_)
    refine q_icmp_le (tgt := 23) dX8_topMark_16 (by decide) (fun c15 => ?_) (fun c15 => ?_)
    · refine q_iconst (x := (0 : Int32)) dX8_topMark_19 rfl ?_
      refine q_goto (tgt := 34) dX8_topMark_20 (by decide) ?_
      exact q_iret dX8_topMark_34 rfl rfl (Nat.le_of_ble_eq_true rfl) rfl
    · refine q_aload_n 0 dX8_topMark_23 rfl ?_
      refine q_getR (f := 5) cl_X8 (by decide) qw_198 rfl dX8_topMark_24 (fun _ _ _ => rfl) (fun v9 h10 => ?_)
      refine q_aload_n 0 dX8_topMark_27 rfl ?_
      refine q_getI (f := 7) cl_X8 (by decide) qw_200 rfl dX8_topMark_28 (Or.inl rfl) (fun v11 h12 => ?_)
      refine q_iconst (x := (1 : Int32)) dX8_topMark_31 rfl ?_
      refine q_isub dX8_topMark_32 ?_
      refine q_iald dX8_topMark_33 (fun v13 h14 => ?_)
      exact q_iret dX8_topMark_34 rfl rfl (Nat.le_of_ble_eq_true rfl) rfl
  · refine q_iconst (x := (0 : Int32)) dX8_topMark_19 rfl ?_
    refine q_goto (tgt := 34) dX8_topMark_20 (by decide) ?_
    exact q_iret dX8_topMark_34 rfl rfl (Nat.le_of_ble_eq_true rfl) rfl
theorem dX8_popMark_0 : decode cX8_popMark 0 = .ok (.aload_n 0, 1) := by decide +kernel
theorem dX8_popMark_1 : decode cX8_popMark 1 = .ok (.getfield 50, 3) := by decide +kernel
theorem dX8_popMark_4 : decode cX8_popMark 4 = .ok (.ifCond .le 15, 3) := by decide +kernel
theorem dX8_popMark_7 : decode cX8_popMark 7 = .ok (.aload_n 0, 1) := by decide +kernel
theorem dX8_popMark_8 : decode cX8_popMark 8 = .ok (.getfield 50, 3) := by decide +kernel
theorem dX8_popMark_11 : decode cX8_popMark 11 = .ok (.aload_n 0, 1) := by decide +kernel
theorem dX8_popMark_12 : decode cX8_popMark 12 = .ok (.getfield 25, 3) := by decide +kernel
theorem dX8_popMark_15 : decode cX8_popMark 15 = .ok (.arraylength, 1) := by decide +kernel
theorem dX8_popMark_16 : decode cX8_popMark 16 = .ok (.if_icmp .le 5, 3) := by decide +kernel
theorem dX8_popMark_19 : decode cX8_popMark 19 = .ok (.iconst 0, 1) := by decide +kernel
theorem dX8_popMark_20 : decode cX8_popMark 20 = .ok (.ireturn, 1) := by decide +kernel
theorem dX8_popMark_21 : decode cX8_popMark 21 = .ok (.aload_n 0, 1) := by decide +kernel
theorem dX8_popMark_22 : decode cX8_popMark 22 = .ok (.dup, 1) := by decide +kernel
theorem dX8_popMark_23 : decode cX8_popMark 23 = .ok (.getfield 50, 3) := by decide +kernel
theorem dX8_popMark_26 : decode cX8_popMark 26 = .ok (.iconst 1, 1) := by decide +kernel
theorem dX8_popMark_27 : decode cX8_popMark 27 = .ok (.isub, 1) := by decide +kernel
theorem dX8_popMark_28 : decode cX8_popMark 28 = .ok (.putfield 50, 3) := by decide +kernel
theorem dX8_popMark_31 : decode cX8_popMark 31 = .ok (.aload_n 0, 1) := by decide +kernel
theorem dX8_popMark_32 : decode cX8_popMark 32 = .ok (.getfield 25, 3) := by decide +kernel
theorem dX8_popMark_35 : decode cX8_popMark 35 = .ok (.aload_n 0, 1) := by decide +kernel
theorem dX8_popMark_36 : decode cX8_popMark 36 = .ok (.getfield 50, 3) := by decide +kernel
theorem dX8_popMark_39 : decode cX8_popMark 39 = .ok (.baload, 1) := by decide +kernel
theorem dX8_popMark_40 : decode cX8_popMark 40 = .ok (.ifCond .eq 13, 3) := by decide +kernel
theorem dX8_popMark_43 : decode cX8_popMark 43 = .ok (.aload_n 0, 1) := by decide +kernel
theorem dX8_popMark_44 : decode cX8_popMark 44 = .ok (.dup, 1) := by decide +kernel
theorem dX8_popMark_45 : decode cX8_popMark 45 = .ok (.getfield 56, 3) := by decide +kernel
theorem dX8_popMark_48 : decode cX8_popMark 48 = .ok (.iconst 1, 1) := by decide +kernel
theorem dX8_popMark_49 : decode cX8_popMark 49 = .ok (.isub, 1) := by decide +kernel
theorem dX8_popMark_50 : decode cX8_popMark 50 = .ok (.putfield 56, 3) := by decide +kernel
theorem dX8_popMark_53 : decode cX8_popMark 53 = .ok (.aload_n 0, 1) := by decide +kernel
theorem dX8_popMark_54 : decode cX8_popMark 54 = .ok (.getfield 25, 3) := by decide +kernel
theorem dX8_popMark_57 : decode cX8_popMark 57 = .ok (.aload_n 0, 1) := by decide +kernel
theorem dX8_popMark_58 : decode cX8_popMark 58 = .ok (.getfield 50, 3) := by decide +kernel
theorem dX8_popMark_61 : decode cX8_popMark 61 = .ok (.baload, 1) := by decide +kernel
theorem dX8_popMark_62 : decode cX8_popMark 62 = .ok (.ireturn, 1) := by decide +kernel
def f_X8_popMark_b53 (M : q_Mem) (a0 : Nat) : Option (Int32 × q_Mem) :=
  (q_gR 7 6 M a0).bind fun v26 =>
  (q_gI 7 7 M a0).bind fun v28 =>
  (q_lZ M v26 v28).bind fun v30 =>
  (if v30 = 0 ∨ v30 = 1 then some (v30, M) else none)
def f_X8_popMark (M : q_Mem) (a0 : Nat) : Option (Int32 × q_Mem) :=
  q_ob 7 M a0 ((q_gI 7 7 M a0).bind fun v1 =>
  (if 0 < v1 then
    (q_gI 7 7 M a0).bind fun v3 =>
    (q_gR 7 6 M a0).bind fun v5 =>
    (q_ln M v5).bind fun v7 =>
    (if v7 < v3 then
      some ((0 : Int32), M)
    else
      (q_gI 7 7 M a0).bind fun v9 =>
      (q_pI 7 7 M a0 (v9 - (1 : Int32))).bind fun M11 =>
      (q_gR 7 6 M11 a0).bind fun v13 =>
      (q_gI 7 7 M11 a0).bind fun v15 =>
      (q_lZ M11 v13 v15).bind fun v17 =>
      (if v17 = 0 then
        f_X8_popMark_b53 M11 a0
      else
        (q_gI 7 9 M11 a0).bind fun v19 =>
        (q_pI 7 9 M11 a0 (v19 - (1 : Int32))).bind fun M21 =>
        f_X8_popMark_b53 M21 a0))
  else
    some ((0 : Int32), M)))
set_option maxRecDepth 20000 in
theorem v_X8_popMark_b53 {M : q_Mem} {a0 : Nat}  : q_V Y_X8_popMark none (fun x : Int32 × q_Mem => (some (.int x.1), x.2)) 0 0 53 [(0, .ref a0)] [] M (f_X8_popMark_b53 M a0 ) := by
  unfold f_X8_popMark_b53
  refine q_aload_n 0 dX8_popMark_53 rfl ?_
  refine q_getR (f := 6) cl_X8 (by decide) qw_199 rfl dX8_popMark_54 (fun _ _ _ => rfl) (fun v26 h27 => ?_)
  refine q_aload_n 0 dX8_popMark_57 rfl ?_
  refine q_getI (f := 7) cl_X8 (by decide) qw_200 rfl dX8_popMark_58 (Or.inl rfl) (fun v28 h29 => ?_)
  refine q_zald dX8_popMark_61 (fun v30 h31 => ?_)
  exact q_zret dX8_popMark_62 rfl rfl (Nat.le_of_ble_eq_true rfl) rfl
set_option maxRecDepth 20000 in
theorem m_X8_popMark {M : q_Mem} {a0 : Nat} {x : (Int32 × q_Mem)} (h : f_X8_popMark M a0 = some x) : q_C Y_X8_popMark [.ref a0] M (some (.int x.1)) x.2 := by
  refine q_met (φ := (fun x : Int32 × q_Mem => (some (.int x.1), x.2))) (r := f_X8_popMark M a0) (by decide +kernel) (Nat.le_of_ble_eq_true rfl) ?_ h (fun _ _ => rfl)
  show q_V Y_X8_popMark none (fun x : Int32 × q_Mem => (some (.int x.1), x.2)) 0 0 0 [(0, .ref a0)] [] M (f_X8_popMark M a0)
  unfold f_X8_popMark
  refine q_obV ?_
  refine q_aload_n 0 dX8_popMark_0 rfl ?_
  refine q_getI (f := 7) cl_X8 (by decide) qw_200 rfl dX8_popMark_1 (Or.inl rfl) (fun v1 h2 => ?_)
  refine q_if_le (tgt := 19) dX8_popMark_4 (by decide) (fun c25 => ?_) (fun c25 => ?_)
  · refine q_aload_n 0 dX8_popMark_7 rfl ?_
    refine q_getI (f := 7) cl_X8 (by decide) qw_200 rfl dX8_popMark_8 (Or.inl rfl) (fun v3 h4 => ?_)
    refine q_aload_n 0 dX8_popMark_11 rfl ?_
    refine q_getR (f := 6) cl_X8 (by decide) qw_199 rfl dX8_popMark_12 (fun _ _ _ => rfl) (fun v5 h6 => ?_)
    refine q_alen dX8_popMark_15 (fun v7 h8 => ?_)
    refine q_icmp_le (tgt := 21) dX8_popMark_16 (by decide) (fun c24 => ?_) (fun c24 => ?_)
    · refine q_iconst (x := (0 : Int32)) dX8_popMark_19 rfl ?_
      exact q_zretL dX8_popMark_20 rfl (Or.inl rfl) rfl (Nat.le_of_ble_eq_true rfl) rfl
    · refine q_aload_n 0 dX8_popMark_21 rfl ?_
      refine q_dup dX8_popMark_22 rfl ?_
      refine q_getI (f := 7) cl_X8 (by decide) qw_200 rfl dX8_popMark_23 (Or.inl rfl) (fun v9 h10 => ?_)
      refine q_iconst (x := (1 : Int32)) dX8_popMark_26 rfl ?_
      refine q_isub dX8_popMark_27 ?_
      refine q_putI (f := 7) cl_X8 (by decide) qw_200 rfl (Or.inl rfl) dX8_popMark_28 rfl (fun M11 h12 => ?_)
      refine q_aload_n 0 dX8_popMark_31 rfl ?_
      refine q_getR (f := 6) cl_X8 (by decide) qw_199 rfl dX8_popMark_32 (fun _ _ _ => rfl) (fun v13 h14 => ?_)
      refine q_aload_n 0 dX8_popMark_35 rfl ?_
      refine q_getI (f := 7) cl_X8 (by decide) qw_200 rfl dX8_popMark_36 (Or.inl rfl) (fun v15 h16 => ?_)
      refine q_zald dX8_popMark_39 (fun v17 h18 => ?_)
      refine q_if_eq (tgt := 53) dX8_popMark_40 (by decide) (fun c23 => ?_) (fun c23 => ?_)
      · exact v_X8_popMark_b53
      · refine q_aload_n 0 dX8_popMark_43 rfl ?_
        refine q_dup dX8_popMark_44 rfl ?_
        refine q_getI (f := 9) cl_X8 (by decide) qw_202 rfl dX8_popMark_45 (Or.inl rfl) (fun v19 h20 => ?_)
        refine q_iconst (x := (1 : Int32)) dX8_popMark_48 rfl ?_
        refine q_isub dX8_popMark_49 ?_
        refine q_putI (f := 9) cl_X8 (by decide) qw_202 rfl (Or.inl rfl) dX8_popMark_50 rfl (fun M21 h22 => ?_)
        exact v_X8_popMark_b53
  · refine q_iconst (x := (0 : Int32)) dX8_popMark_19 rfl ?_
    exact q_zretL dX8_popMark_20 rfl (Or.inl rfl) rfl (Nat.le_of_ble_eq_true rfl) rfl
theorem dX8_pushValue_0 : decode cX8_pushValue 0 = .ok (.aload_n 0, 1) := by decide +kernel
theorem dX8_pushValue_1 : decode cX8_pushValue 1 = .ok (.getfield 47, 3) := by decide +kernel
theorem dX8_pushValue_4 : decode cX8_pushValue 4 = .ok (.aload_n 0, 1) := by decide +kernel
theorem dX8_pushValue_5 : decode cX8_pushValue 5 = .ok (.getfield 19, 3) := by decide +kernel
theorem dX8_pushValue_8 : decode cX8_pushValue 8 = .ok (.arraylength, 1) := by decide +kernel
theorem dX8_pushValue_9 : decode cX8_pushValue 9 = .ok (.if_icmp .lt 4, 3) := by decide +kernel
theorem dX8_pushValue_12 : decode cX8_pushValue 12 = .ok (.return_, 1) := by decide +kernel
theorem dX8_pushValue_13 : decode cX8_pushValue 13 = .ok (.aload_n 0, 1) := by decide +kernel
theorem dX8_pushValue_14 : decode cX8_pushValue 14 = .ok (.getfield 19, 3) := by decide +kernel
theorem dX8_pushValue_17 : decode cX8_pushValue 17 = .ok (.aload_n 0, 1) := by decide +kernel
theorem dX8_pushValue_18 : decode cX8_pushValue 18 = .ok (.getfield 47, 3) := by decide +kernel
theorem dX8_pushValue_21 : decode cX8_pushValue 21 = .ok (.lload_n 1, 1) := by decide +kernel
theorem dX8_pushValue_22 : decode cX8_pushValue 22 = .ok (.lastore, 1) := by decide +kernel
theorem dX8_pushValue_23 : decode cX8_pushValue 23 = .ok (.aload_n 0, 1) := by decide +kernel
theorem dX8_pushValue_24 : decode cX8_pushValue 24 = .ok (.dup, 1) := by decide +kernel
theorem dX8_pushValue_25 : decode cX8_pushValue 25 = .ok (.getfield 47, 3) := by decide +kernel
theorem dX8_pushValue_28 : decode cX8_pushValue 28 = .ok (.iconst 1, 1) := by decide +kernel
theorem dX8_pushValue_29 : decode cX8_pushValue 29 = .ok (.iadd, 1) := by decide +kernel
theorem dX8_pushValue_30 : decode cX8_pushValue 30 = .ok (.putfield 47, 3) := by decide +kernel
theorem dX8_pushValue_33 : decode cX8_pushValue 33 = .ok (.return_, 1) := by decide +kernel
def f_X8_pushValue (M : q_Mem) (a0 : Nat) (a1 : Int64) : Option q_Mem :=
  q_ob 7 M a0 ((q_gI 7 4 M a0).bind fun v1 =>
  (q_gR 7 3 M a0).bind fun v3 =>
  (q_ln M v3).bind fun v5 =>
  (if v1 < v5 then
    (q_gR 7 3 M a0).bind fun v7 =>
    (q_gI 7 4 M a0).bind fun v9 =>
    (q_tJ M v7 v9 a1).bind fun M11 =>
    (q_gI 7 4 M11 a0).bind fun v13 =>
    (q_pI 7 4 M11 a0 (v13 + (1 : Int32))).bind fun M15 =>
    some M15
  else
    some M))
set_option maxRecDepth 20000 in
theorem m_X8_pushValue {M : q_Mem} {a0 : Nat} {a1 : Int64} {x : q_Mem} (h : f_X8_pushValue M a0 a1 = some x) : q_C Y_X8_pushValue [.ref a0, .long a1] M none x := by
  refine q_met (φ := (fun x : q_Mem => (none, x))) (r := f_X8_pushValue M a0 a1) (by decide +kernel) (Nat.le_of_ble_eq_true rfl) ?_ h (fun _ _ => rfl)
  show q_V Y_X8_pushValue none (fun x : q_Mem => (none, x)) 0 0 0 [(0, .ref a0), (1, .long a1)] [] M (f_X8_pushValue M a0 a1)
  unfold f_X8_pushValue
  refine q_obV ?_
  refine q_aload_n 0 dX8_pushValue_0 rfl ?_
  refine q_getI (f := 4) cl_X8 (by decide) qw_197 rfl dX8_pushValue_1 (Or.inl rfl) (fun v1 h2 => ?_)
  refine q_aload_n 0 dX8_pushValue_4 rfl ?_
  refine q_getR (f := 3) cl_X8 (by decide) qw_196 rfl dX8_pushValue_5 (fun _ _ _ => rfl) (fun v3 h4 => ?_)
  refine q_alen dX8_pushValue_8 (fun v5 h6 => ?_)
  refine q_icmp_lt (tgt := 13) dX8_pushValue_9 (by decide) (fun c17 => ?_) (fun c17 => ?_)
  · refine q_aload_n 0 dX8_pushValue_13 rfl ?_
    refine q_getR (f := 3) cl_X8 (by decide) qw_196 rfl dX8_pushValue_14 (fun _ _ _ => rfl) (fun v7 h8 => ?_)
    refine q_aload_n 0 dX8_pushValue_17 rfl ?_
    refine q_getI (f := 4) cl_X8 (by decide) qw_197 rfl dX8_pushValue_18 (Or.inl rfl) (fun v9 h10 => ?_)
    refine q_lload_n 1 dX8_pushValue_21 rfl ?_
    refine q_last dX8_pushValue_22 (fun M11 h12 => ?_)
    refine q_aload_n 0 dX8_pushValue_23 rfl ?_
    refine q_dup dX8_pushValue_24 rfl ?_
    refine q_getI (f := 4) cl_X8 (by decide) qw_197 rfl dX8_pushValue_25 (Or.inl rfl) (fun v13 h14 => ?_)
    refine q_iconst (x := (1 : Int32)) dX8_pushValue_28 rfl ?_
    refine q_iadd dX8_pushValue_29 ?_
    refine q_putI (f := 4) cl_X8 (by decide) qw_197 rfl (Or.inl rfl) dX8_pushValue_30 rfl (fun M15 h16 => ?_)
    exact q_vret dX8_pushValue_33 rfl rfl (Nat.le_of_ble_eq_true rfl) rfl
  · exact q_vret dX8_pushValue_12 rfl rfl (Nat.le_of_ble_eq_true rfl) rfl
theorem dX8_endUnit_0 : decode cX8_endUnit 0 = .ok (.lload_n 1, 1) := by decide +kernel
theorem dX8_endUnit_1 : decode cX8_endUnit 1 = .ok (.lstore_n 3, 1) := by decide +kernel
theorem dX8_endUnit_2 : decode cX8_endUnit 2 = .ok (.aload_n 0, 1) := by decide +kernel
theorem dX8_endUnit_3 : decode cX8_endUnit 3 = .ok (.getfield 50, 3) := by decide +kernel
theorem dX8_endUnit_6 : decode cX8_endUnit 6 = .ok (.istore 5, 2) := by decide +kernel
theorem dX8_endUnit_8 : decode cX8_endUnit 8 = .ok (.iload 5, 2) := by decide +kernel
theorem dX8_endUnit_10 : decode cX8_endUnit 10 = .ok (.ifCond .le 64, 3) := by decide +kernel
theorem dX8_endUnit_13 : decode cX8_endUnit 13 = .ok (.aload_n 0, 1) := by decide +kernel
theorem dX8_endUnit_14 : decode cX8_endUnit 14 = .ok (.invokevirtual 129, 3) := by decide +kernel
theorem dX8_endUnit_17 : decode cX8_endUnit 17 = .ok (.bipush 33, 2) := by decide +kernel
theorem dX8_endUnit_19 : decode cX8_endUnit 19 = .ok (.if_icmp .eq 13, 3) := by decide +kernel
theorem dX8_endUnit_22 : decode cX8_endUnit 22 = .ok (.aload_n 0, 1) := by decide +kernel
theorem dX8_endUnit_23 : decode cX8_endUnit 23 = .ok (.invokevirtual 129, 3) := by decide +kernel
theorem dX8_endUnit_26 : decode cX8_endUnit 26 = .ok (.sipush 128, 3) := by decide +kernel
theorem dX8_endUnit_29 : decode cX8_endUnit 29 = .ok (.if_icmp .ne 45, 3) := by decide +kernel
theorem dX8_endUnit_32 : decode cX8_endUnit 32 = .ok (.aload_n 0, 1) := by decide +kernel
theorem dX8_endUnit_33 : decode cX8_endUnit 33 = .ok (.invokevirtual 129, 3) := by decide +kernel
theorem dX8_endUnit_36 : decode cX8_endUnit 36 = .ok (.sipush 128, 3) := by decide +kernel
theorem dX8_endUnit_39 : decode cX8_endUnit 39 = .ok (.if_icmp .ne 8, 3) := by decide +kernel
theorem dX8_endUnit_42 : decode cX8_endUnit 42 = .ok (.lload_n 3, 1) := by decide +kernel
theorem dX8_endUnit_43 : decode cX8_endUnit 43 = .ok (.lneg, 1) := by decide +kernel
theorem dX8_endUnit_44 : decode cX8_endUnit 44 = .ok (.goto 18, 3) := by decide +kernel
theorem dX8_endUnit_47 : decode cX8_endUnit 47 = .ok (.lload_n 3, 1) := by decide +kernel
theorem dX8_endUnit_48 : decode cX8_endUnit 48 = .ok (.lconst 0, 1) := by decide +kernel
theorem dX8_endUnit_49 : decode cX8_endUnit 49 = .ok (.lcmp, 1) := by decide +kernel
theorem dX8_endUnit_50 : decode cX8_endUnit 50 = .ok (.ifCond .ne 7, 3) := by decide +kernel
theorem dX8_endUnit_53 : decode cX8_endUnit 53 = .ok (.iconst 1, 1) := by decide +kernel
theorem dX8_endUnit_54 : decode cX8_endUnit 54 = .ok (.goto 4, 3) := by decide +kernel
theorem dX8_endUnit_57 : decode cX8_endUnit 57 = .ok (.iconst 0, 1) := by decide +kernel
theorem dX8_endUnit_58 : decode cX8_endUnit 58 = .ok (.invokestatic 133, 3) := by decide +kernel
theorem dX8_endUnit_61 : decode cX8_endUnit 61 = .ok (.i2l, 1) := by decide +kernel
theorem dX8_endUnit_62 : decode cX8_endUnit 62 = .ok (.lstore_n 3, 1) := by decide +kernel
theorem dX8_endUnit_63 : decode cX8_endUnit 63 = .ok (.aload_n 0, 1) := by decide +kernel
theorem dX8_endUnit_64 : decode cX8_endUnit 64 = .ok (.invokevirtual 137, 3) := by decide +kernel
theorem dX8_endUnit_67 : decode cX8_endUnit 67 = .ok (.pop, 1) := by decide +kernel
theorem dX8_endUnit_68 : decode cX8_endUnit 68 = .ok (.iinc 5 (-1), 3) := by decide +kernel
theorem dX8_endUnit_71 : decode cX8_endUnit 71 = .ok (.goto (-63), 3) := by decide +kernel
theorem dX8_endUnit_74 : decode cX8_endUnit 74 = .ok (.aload_n 0, 1) := by decide +kernel
theorem dX8_endUnit_75 : decode cX8_endUnit 75 = .ok (.lload_n 3, 1) := by decide +kernel
theorem dX8_endUnit_76 : decode cX8_endUnit 76 = .ok (.invokevirtual 141, 3) := by decide +kernel
theorem dX8_endUnit_79 : decode cX8_endUnit 79 = .ok (.aload_n 0, 1) := by decide +kernel
theorem dX8_endUnit_80 : decode cX8_endUnit 80 = .ok (.iconst 0, 1) := by decide +kernel
theorem dX8_endUnit_81 : decode cX8_endUnit 81 = .ok (.putfield 59, 3) := by decide +kernel
theorem dX8_endUnit_84 : decode cX8_endUnit 84 = .ok (.return_, 1) := by decide +kernel
def f_X8_endUnit_b74 (M : q_Mem) (a0 : Nat) (a3 : Int64) : Option q_Mem :=
  (f_X8_pushValue M a0 a3).bind fun M20 =>
  (q_pZ 7 10 M20 a0 (0 : Int32)).bind fun M21 =>
  some M21
def f_X8_endUnit_b62 (kk8 : Int64 → Int32 → q_Mem → Option q_Mem) (M : q_Mem) (a0 : Nat) (a5 : Int32) (s0 : Int64) : Option q_Mem :=
  (f_X8_popMark M a0).bind fun r24 =>
  kk8 s0 (a5 + (-1 : Int32)) r24.2
def f_X8_endUnit_b32 (kk8 : Int64 → Int32 → q_Mem → Option q_Mem) (M : q_Mem) (a0 : Nat) (a3 : Int64) (a5 : Int32) : Option q_Mem :=
  (f_X8_topMark M a0).bind fun v11 =>
  (if v11 = (128 : Int32) then
    f_X8_endUnit_b62 kk8 M a0 a5 (-a3)
  else
    (if a3 = (0 : Int64) then
      (f_X11_asNumber M (1 : Int32)).bind fun v13 =>
      f_X8_endUnit_b62 kk8 M a0 a5 v13.toInt64
    else
      (f_X11_asNumber M (0 : Int32)).bind fun v15 =>
      f_X8_endUnit_b62 kk8 M a0 a5 v15.toInt64))
def f_X8_endUnit_b8 (a0 : Nat) : Nat → Int64 → Int32 → q_Mem → Option q_Mem
  | 0, _, _, _ => none
  | n + 1, a3, a5, M =>
    (if 0 < a5 then
      (f_X8_topMark M a0).bind fun v4 =>
      (if v4 = (33 : Int32) then
        f_X8_endUnit_b32 (f_X8_endUnit_b8 a0 n) M a0 a3 a5
      else
        (f_X8_topMark M a0).bind fun v6 =>
        (if v6 = (128 : Int32) then
          f_X8_endUnit_b32 (f_X8_endUnit_b8 a0 n) M a0 a3 a5
        else
          f_X8_endUnit_b74 M a0 a3))
    else
      f_X8_endUnit_b74 M a0 a3)
def f_X8_endUnit (M : q_Mem) (a0 : Nat) (a1 : Int64) : Option q_Mem :=
  q_ob 7 M a0 ((q_gI 7 7 M a0).bind fun v1 =>
  f_X8_endUnit_b8 a0 q_fuel a1 v1 M)
set_option maxRecDepth 20000 in
theorem v_X8_endUnit_b74 {M : q_Mem} {a0 : Nat} {a3 : Int64}  : q_V Y_X8_endUnit none (fun x : q_Mem => (none, x)) 0 0 74 [(0, .ref a0), (3, .long a3)] [] M (f_X8_endUnit_b74 M a0 a3 ) := by
  unfold f_X8_endUnit_b74
  refine q_aload_n 0 dX8_endUnit_74 rfl ?_
  refine q_lload_n 1 dX8_endUnit_75 rfl ?_
  refine q_cVM (Y2 := Y_X8_pushValue) (As := [.long a3]) (b := a0) (st := []) cl_X8 mv_X8_pushValue qw_673 dX8_endUnit_76 ⟨Nat.le_of_ble_eq_true rfl, Nat.le_of_ble_eq_true rfl⟩ rfl (fun _ _ => rfl) (Nat.le_of_ble_eq_true rfl) ⟨Nat.le_of_ble_eq_true rfl, Nat.le_of_ble_eq_true rfl⟩ (fun M20 h18 => q_ob_is h18) (fun M20 h18 => m_X8_pushValue h18) (fun M20 h18 => ?_)
  refine q_aload_n 0 dX8_endUnit_79 rfl ?_
  refine q_iconst (x := (0 : Int32)) dX8_endUnit_80 rfl ?_
  refine q_putZ (f := 10) cl_X8 (by decide) qw_203 rfl (Or.inl rfl) dX8_endUnit_81 rfl (fun M21 h22 => ?_)
  exact q_vret dX8_endUnit_84 rfl rfl (Nat.le_of_ble_eq_true rfl) rfl
set_option maxRecDepth 20000 in
theorem v_X8_endUnit_b62 {kk8 : Int64 → Int32 → q_Mem → Option q_Mem} {M : q_Mem} {a0 : Nat} {a5 : Int32} {s0 : Int64}  (hk8 : ∀ (a3 : Int64) (a5 : Int32) (M : q_Mem), q_V Y_X8_endUnit none (fun x : q_Mem => (none, x)) 0 0 8 [(0, .ref a0), (3, .long a3), (5, .int a5)] [] M (kk8 a3 a5 M)): q_V Y_X8_endUnit none (fun x : q_Mem => (none, x)) 0 0 62 [(0, .ref a0), (5, .int a5)] [.long s0] M (f_X8_endUnit_b62 kk8 M a0 a5 s0) := by
  unfold f_X8_endUnit_b62
  refine q_lstore_n (ls' := [(3, .long s0), (0, .ref a0), (5, .int a5)]) dX8_endUnit_62 (by decide) rfl ?_
  refine q_aload_n 1 dX8_endUnit_63 rfl ?_
  refine q_cVMI (Y2 := Y_X8_popMark) (As := []) (b := a0) (st := []) cl_X8 mv_X8_popMark qw_669 dX8_endUnit_64 ⟨Nat.le_of_ble_eq_true rfl, Nat.le_of_ble_eq_true rfl⟩ rfl (fun _ _ => rfl) (Nat.le_of_ble_eq_true rfl) ⟨Nat.le_of_ble_eq_true rfl, Nat.le_of_ble_eq_true rfl⟩ (fun r24 h23 => q_ob_is h23) (fun r24 h23 => m_X8_popMark h23) (fun r24 h23 => ?_)
  refine q_pop dX8_endUnit_67 rfl ?_
  refine q_iinc 2 (y := (a5 + (-1 : Int32))) (ls' := [(5, .int (a5 + (-1 : Int32))), (3, .long s0), (0, .ref a0)]) dX8_endUnit_68 rfl rfl (by decide) rfl ?_
  refine q_goto (tgt := 8) dX8_endUnit_71 (by decide) ?_
  refine q_sub (ls' := [(0, .ref a0), (3, .long s0), (5, .int (a5 + (-1 : Int32)))]) [2, 1, 0] rfl ?_
  exact hk8 _ _ _
set_option maxRecDepth 20000 in
theorem v_X8_endUnit_b32 {kk8 : Int64 → Int32 → q_Mem → Option q_Mem} {M : q_Mem} {a0 : Nat} {a3 : Int64} {a5 : Int32}  (hk8 : ∀ (a3 : Int64) (a5 : Int32) (M : q_Mem), q_V Y_X8_endUnit none (fun x : q_Mem => (none, x)) 0 0 8 [(0, .ref a0), (3, .long a3), (5, .int a5)] [] M (kk8 a3 a5 M)): q_V Y_X8_endUnit none (fun x : q_Mem => (none, x)) 0 0 32 [(0, .ref a0), (3, .long a3), (5, .int a5)] [] M (f_X8_endUnit_b32 kk8 M a0 a3 a5 ) := by
  unfold f_X8_endUnit_b32
  refine q_aload_n 0 dX8_endUnit_32 rfl ?_
  refine q_cVI (Y2 := Y_X8_topMark) (As := []) (b := a0) (st := []) cl_X8 mv_X8_topMark qw_664 dX8_endUnit_33 ⟨Nat.le_of_ble_eq_true rfl, Nat.le_of_ble_eq_true rfl⟩ rfl (fun _ _ => rfl) (Nat.le_of_ble_eq_true rfl) ⟨Nat.le_of_ble_eq_true rfl, Nat.le_of_ble_eq_true rfl⟩ (fun v11 h10 => q_ob_is h10) (fun v11 h10 => m_X8_topMark h10) (fun v11 h10 => ?_)
  refine q_sipush (x := (128 : Int32)) dX8_endUnit_36 rfl ?_
  refine q_icmp_ne (tgt := 47) dX8_endUnit_39 (by decide) (fun c17 => ?_) (fun c17 => ?_)
  · refine q_lload_n 1 dX8_endUnit_42 rfl ?_
    refine q_lneg dX8_endUnit_43 ?_
    refine q_goto (tgt := 62) dX8_endUnit_44 (by decide) ?_
    refine q_sub (ls' := [(0, .ref a0), (5, .int a5)]) [0, 2] rfl ?_
    exact v_X8_endUnit_b62 (hk8)
  · refine q_lload_n 1 dX8_endUnit_47 rfl ?_
    refine q_lconst (x := (0 : Int64)) dX8_endUnit_48 rfl ?_
    refine q_lcmp_ne (tgt := 57) dX8_endUnit_49 dX8_endUnit_50 (by decide) (fun c16 => ?_) (fun c16 => ?_)
    · refine q_iconst (x := (1 : Int32)) dX8_endUnit_53 rfl ?_
      refine q_goto (tgt := 58) dX8_endUnit_54 (by decide) ?_
      refine q_cNI (Y2 := Y_X11_asNumber) (As := [.int (1 : Int32)]) (st := []) ms_X11_asNumber (host := "CountyCream") (by decide +kernel) dX8_endUnit_58 ⟨Nat.le_of_ble_eq_true rfl, Nat.le_of_ble_eq_true rfl⟩ rfl (fun _ _ => rfl) (Nat.le_of_ble_eq_true rfl) ⟨Nat.le_of_ble_eq_true rfl, Nat.le_of_ble_eq_true rfl⟩ (fun v13 h12 => m_X11_asNumber h12) (fun v13 h12 => ?_)
      refine q_i2l dX8_endUnit_61 ?_
      refine q_sub (ls' := [(0, .ref a0), (5, .int a5)]) [0, 2] rfl ?_
      exact v_X8_endUnit_b62 (hk8)
    · refine q_iconst (x := (0 : Int32)) dX8_endUnit_57 rfl ?_
      refine q_cNI (Y2 := Y_X11_asNumber) (As := [.int (0 : Int32)]) (st := []) ms_X11_asNumber (host := "CountyCream") (by decide +kernel) dX8_endUnit_58 ⟨Nat.le_of_ble_eq_true rfl, Nat.le_of_ble_eq_true rfl⟩ rfl (fun _ _ => rfl) (Nat.le_of_ble_eq_true rfl) ⟨Nat.le_of_ble_eq_true rfl, Nat.le_of_ble_eq_true rfl⟩ (fun v15 h14 => m_X11_asNumber h14) (fun v15 h14 => ?_)
      refine q_i2l dX8_endUnit_61 ?_
      refine q_sub (ls' := [(0, .ref a0), (5, .int a5)]) [0, 2] rfl ?_
      exact v_X8_endUnit_b62 (hk8)
set_option maxRecDepth 20000 in
theorem v_X8_endUnit_b8 {a0 : Nat}  : ∀ (n : Nat) (a3 : Int64) (a5 : Int32) (M : q_Mem), q_V Y_X8_endUnit none (fun x : q_Mem => (none, x)) 0 0 8 [(0, .ref a0), (3, .long a3), (5, .int a5)] [] M (f_X8_endUnit_b8 a0 n a3 a5 M) := by
  intro n
  induction n with
  | zero => intro a3 a5 M; exact q_none
  | succ n ih =>
    intro a3 a5 M
    rw [f_X8_endUnit_b8.eq_2]
    refine q_iload 2 dX8_endUnit_8 rfl ?_
    refine q_if_le (tgt := 74) dX8_endUnit_10 (by decide) (fun c9 => ?_) (fun c9 => ?_)
    · refine q_aload_n 0 dX8_endUnit_13 rfl ?_
      refine q_cVI (Y2 := Y_X8_topMark) (As := []) (b := a0) (st := []) cl_X8 mv_X8_topMark qw_664 dX8_endUnit_14 ⟨Nat.le_of_ble_eq_true rfl, Nat.le_of_ble_eq_true rfl⟩ rfl (fun _ _ => rfl) (Nat.le_of_ble_eq_true rfl) ⟨Nat.le_of_ble_eq_true rfl, Nat.le_of_ble_eq_true rfl⟩ (fun v4 h3 => q_ob_is h3) (fun v4 h3 => m_X8_topMark h3) (fun v4 h3 => ?_)
      refine q_bipush (x := (33 : Int32)) dX8_endUnit_17 rfl ?_
      refine q_icmp_eq (tgt := 32) dX8_endUnit_19 (by decide) (fun c8 => ?_) (fun c8 => ?_)
      · exact v_X8_endUnit_b32 (ih)
      · refine q_aload_n 0 dX8_endUnit_22 rfl ?_
        refine q_cVI (Y2 := Y_X8_topMark) (As := []) (b := a0) (st := []) cl_X8 mv_X8_topMark qw_664 dX8_endUnit_23 ⟨Nat.le_of_ble_eq_true rfl, Nat.le_of_ble_eq_true rfl⟩ rfl (fun _ _ => rfl) (Nat.le_of_ble_eq_true rfl) ⟨Nat.le_of_ble_eq_true rfl, Nat.le_of_ble_eq_true rfl⟩ (fun v6 h5 => q_ob_is h5) (fun v6 h5 => m_X8_topMark h5) (fun v6 h5 => ?_)
        refine q_sipush (x := (128 : Int32)) dX8_endUnit_26 rfl ?_
        refine q_icmp_ne (tgt := 74) dX8_endUnit_29 (by decide) (fun c7 => ?_) (fun c7 => ?_)
        · exact v_X8_endUnit_b32 (ih)
        · refine q_sub (ls' := [(0, .ref a0), (3, .long a3)]) [0, 1] rfl ?_
          exact v_X8_endUnit_b74
    · refine q_sub (ls' := [(0, .ref a0), (3, .long a3)]) [0, 1] rfl ?_
      exact v_X8_endUnit_b74
set_option maxRecDepth 20000 in
theorem m_X8_endUnit {M : q_Mem} {a0 : Nat} {a1 : Int64} {x : q_Mem} (h : f_X8_endUnit M a0 a1 = some x) : q_C Y_X8_endUnit [.ref a0, .long a1] M none x := by
  refine q_met (φ := (fun x : q_Mem => (none, x))) (r := f_X8_endUnit M a0 a1) (by decide +kernel) (Nat.le_of_ble_eq_true rfl) ?_ h (fun _ _ => rfl)
  show q_V Y_X8_endUnit none (fun x : q_Mem => (none, x)) 0 0 0 [(0, .ref a0), (1, .long a1)] [] M (f_X8_endUnit M a0 a1)
  unfold f_X8_endUnit
  refine q_obV ?_
  refine q_lload_n 1 dX8_endUnit_0 rfl ?_
  refine q_lstore_n (ls' := [(3, .long a1), (0, .ref a0), (1, .long a1)]) dX8_endUnit_1 (by decide) rfl ?_
  refine q_aload_n 1 dX8_endUnit_2 rfl ?_
  refine q_getI (f := 7) cl_X8 (by decide) qw_200 rfl dX8_endUnit_3 (Or.inl rfl) (fun v1 h2 => ?_)
  refine q_istore (ls' := [(5, .int v1), (3, .long a1), (0, .ref a0), (1, .long a1)]) dX8_endUnit_6 (by decide) rfl ?_
  refine q_sub (ls' := [(0, .ref a0), (3, .long a1), (5, .int v1)]) [2, 1, 0] rfl ?_
  exact v_X8_endUnit_b8 _ _ _ _
theorem dX8_readNumber_0 : decode cX8_readNumber 0 = .ok (.lconst 0, 1) := by decide +kernel
theorem dX8_readNumber_1 : decode cX8_readNumber 1 = .ok (.lstore_n 2, 1) := by decide +kernel
theorem dX8_readNumber_2 : decode cX8_readNumber 2 = .ok (.iload_n 1, 1) := by decide +kernel
theorem dX8_readNumber_3 : decode cX8_readNumber 3 = .ok (.istore 4, 2) := by decide +kernel
theorem dX8_readNumber_5 : decode cX8_readNumber 5 = .ok (.iload_n 1, 1) := by decide +kernel
theorem dX8_readNumber_6 : decode cX8_readNumber 6 = .ok (.istore 5, 2) := by decide +kernel
theorem dX8_readNumber_8 : decode cX8_readNumber 8 = .ok (.iload 5, 2) := by decide +kernel
theorem dX8_readNumber_10 : decode cX8_readNumber 10 = .ok (.aload_n 0, 1) := by decide +kernel
theorem dX8_readNumber_11 : decode cX8_readNumber 11 = .ok (.getfield 43, 3) := by decide +kernel
theorem dX8_readNumber_14 : decode cX8_readNumber 14 = .ok (.if_icmp .ge 45, 3) := by decide +kernel
theorem dX8_readNumber_17 : decode cX8_readNumber 17 = .ok (.aload_n 0, 1) := by decide +kernel
theorem dX8_readNumber_18 : decode cX8_readNumber 18 = .ok (.iload 5, 2) := by decide +kernel
theorem dX8_readNumber_20 : decode cX8_readNumber 20 = .ok (.invokevirtual 73, 3) := by decide +kernel
theorem dX8_readNumber_23 : decode cX8_readNumber 23 = .ok (.invokestatic 77, 3) := by decide +kernel
theorem dX8_readNumber_26 : decode cX8_readNumber 26 = .ok (.ifCond .eq 33, 3) := by decide +kernel
theorem dX8_readNumber_29 : decode cX8_readNumber 29 = .ok (.ldc2_w 114, 3) := by decide +kernel
theorem dX8_readNumber_32 : decode cX8_readNumber 32 = .ok (.lload_n 2, 1) := by decide +kernel
theorem dX8_readNumber_33 : decode cX8_readNumber 33 = .ok (.lmul, 1) := by decide +kernel
theorem dX8_readNumber_34 : decode cX8_readNumber 34 = .ok (.aload_n 0, 1) := by decide +kernel
theorem dX8_readNumber_35 : decode cX8_readNumber 35 = .ok (.iload 5, 2) := by decide +kernel
theorem dX8_readNumber_37 : decode cX8_readNumber 37 = .ok (.invokevirtual 73, 3) := by decide +kernel
theorem dX8_readNumber_40 : decode cX8_readNumber 40 = .ok (.i2l, 1) := by decide +kernel
theorem dX8_readNumber_41 : decode cX8_readNumber 41 = .ok (.ladd, 1) := by decide +kernel
theorem dX8_readNumber_42 : decode cX8_readNumber 42 = .ok (.ldc2_w 116, 3) := by decide +kernel
theorem dX8_readNumber_45 : decode cX8_readNumber 45 = .ok (.lsub, 1) := by decide +kernel
theorem dX8_readNumber_46 : decode cX8_readNumber 46 = .ok (.lstore_n 2, 1) := by decide +kernel
theorem dX8_readNumber_47 : decode cX8_readNumber 47 = .ok (.iload 5, 2) := by decide +kernel
theorem dX8_readNumber_49 : decode cX8_readNumber 49 = .ok (.iconst 1, 1) := by decide +kernel
theorem dX8_readNumber_50 : decode cX8_readNumber 50 = .ok (.iadd, 1) := by decide +kernel
theorem dX8_readNumber_51 : decode cX8_readNumber 51 = .ok (.istore 4, 2) := by decide +kernel
theorem dX8_readNumber_53 : decode cX8_readNumber 53 = .ok (.iinc 5 1, 3) := by decide +kernel
theorem dX8_readNumber_56 : decode cX8_readNumber 56 = .ok (.goto (-48), 3) := by decide +kernel
theorem dX8_readNumber_59 : decode cX8_readNumber 59 = .ok (.iload 4, 2) := by decide +kernel
theorem dX8_readNumber_61 : decode cX8_readNumber 61 = .ok (.iload_n 1, 1) := by decide +kernel
theorem dX8_readNumber_62 : decode cX8_readNumber 62 = .ok (.isub, 1) := by decide +kernel
theorem dX8_readNumber_63 : decode cX8_readNumber 63 = .ok (.bipush 6, 2) := by decide +kernel
theorem dX8_readNumber_65 : decode cX8_readNumber 65 = .ok (.if_icmp .le 12, 3) := by decide +kernel
theorem dX8_readNumber_68 : decode cX8_readNumber 68 = .ok (.aload_n 0, 1) := by decide +kernel
theorem dX8_readNumber_69 : decode cX8_readNumber 69 = .ok (.iload_n 1, 1) := by decide +kernel
theorem dX8_readNumber_70 : decode cX8_readNumber 70 = .ok (.iconst 2, 1) := by decide +kernel
theorem dX8_readNumber_71 : decode cX8_readNumber 71 = .ok (.invokevirtual 107, 3) := by decide +kernel
theorem dX8_readNumber_74 : decode cX8_readNumber 74 = .ok (.goto 8, 3) := by decide +kernel
theorem dX8_readNumber_77 : decode cX8_readNumber 77 = .ok (.aload_n 0, 1) := by decide +kernel
theorem dX8_readNumber_78 : decode cX8_readNumber 78 = .ok (.lload_n 2, 1) := by decide +kernel
theorem dX8_readNumber_79 : decode cX8_readNumber 79 = .ok (.invokevirtual 118, 3) := by decide +kernel
theorem dX8_readNumber_82 : decode cX8_readNumber 82 = .ok (.iload 4, 2) := by decide +kernel
theorem dX8_readNumber_84 : decode cX8_readNumber 84 = .ok (.ireturn, 1) := by decide +kernel
def f_X8_readNumber_b59 (M : q_Mem) (a0 : Nat) (a1 : Int32) (a2 : Int64) (a4 : Int32) : Option (Int32 × q_Mem) :=
  (if (6 : Int32) < (a4 - a1) then
    (f_X8_stop M a0 a1 (2 : Int32)).bind fun M13 =>
    some (a4, M13)
  else
    (f_X8_endUnit M a0 a2).bind fun M16 =>
    some (a4, M16))
def f_X8_readNumber_b8 (M : q_Mem) (a0 : Nat) (a1 : Int32) : Nat → Int64 → Int32 → Int32 → Option (Int32 × q_Mem)
  | 0, _, _, _ => none
  | n + 1, a2, a4, a5 =>
    (q_gI 7 1 M a0).bind fun v1 =>
    (if a5 < v1 then
      (f_X8_signAt M a0 a5).bind fun v4 =>
      (f_X8_isDigit M v4).bind fun v6 =>
      (if v6 = 0 then
        f_X8_readNumber_b59 M a0 a1 a2 a4
      else
        (f_X8_signAt M a0 a5).bind fun v8 =>
        f_X8_readNumber_b8 M a0 a1 n ((((10 : Int64) * a2) + v8.toInt64) - (48 : Int64)) (a5 + (1 : Int32)) (a5 + (1 : Int32)))
    else
      f_X8_readNumber_b59 M a0 a1 a2 a4)
def f_X8_readNumber (M : q_Mem) (a0 : Nat) (a1 : Int32) : Option (Int32 × q_Mem) :=
  q_ob 7 M a0 (f_X8_readNumber_b8 M a0 a1 q_fuel (0 : Int64) a1 a1)
set_option maxRecDepth 20000 in
theorem v_X8_readNumber_b59 {M : q_Mem} {a0 : Nat} {a1 : Int32} {a2 : Int64} {a4 : Int32}  : q_V Y_X8_readNumber none (fun x : Int32 × q_Mem => (some (.int x.1), x.2)) 0 0 59 [(0, .ref a0), (1, .int a1), (2, .long a2), (4, .int a4)] [] M (f_X8_readNumber_b59 M a0 a1 a2 a4 ) := by
  unfold f_X8_readNumber_b59
  refine q_iload 3 dX8_readNumber_59 rfl ?_
  refine q_iload_n 1 dX8_readNumber_61 rfl ?_
  refine q_isub dX8_readNumber_62 ?_
  refine q_bipush (x := (6 : Int32)) dX8_readNumber_63 rfl ?_
  refine q_icmp_le (tgt := 77) dX8_readNumber_65 (by decide) (fun c17 => ?_) (fun c17 => ?_)
  · refine q_aload_n 0 dX8_readNumber_68 rfl ?_
    refine q_iload_n 1 dX8_readNumber_69 rfl ?_
    refine q_iconst (x := (2 : Int32)) dX8_readNumber_70 rfl ?_
    refine q_cVM (Y2 := Y_X8_stop) (As := [.int a1, .int (2 : Int32)]) (b := a0) (st := []) cl_X8 mv_X8_stop qw_656 dX8_readNumber_71 ⟨Nat.le_of_ble_eq_true rfl, Nat.le_of_ble_eq_true rfl⟩ rfl (fun _ _ => rfl) (Nat.le_of_ble_eq_true rfl) ⟨Nat.le_of_ble_eq_true rfl, Nat.le_of_ble_eq_true rfl⟩ (fun M13 h11 => q_ob_is h11) (fun M13 h11 => m_X8_stop h11) (fun M13 h11 => ?_)
    refine q_goto (tgt := 82) dX8_readNumber_74 (by decide) ?_
    refine q_iload 3 dX8_readNumber_82 rfl ?_
    exact q_iret dX8_readNumber_84 rfl rfl (Nat.le_of_ble_eq_true rfl) rfl
  · refine q_aload_n 0 dX8_readNumber_77 rfl ?_
    refine q_lload_n 2 dX8_readNumber_78 rfl ?_
    refine q_cVM (Y2 := Y_X8_endUnit) (As := [.long a2]) (b := a0) (st := []) cl_X8 mv_X8_endUnit qw_660 dX8_readNumber_79 ⟨Nat.le_of_ble_eq_true rfl, Nat.le_of_ble_eq_true rfl⟩ rfl (fun _ _ => rfl) (Nat.le_of_ble_eq_true rfl) ⟨Nat.le_of_ble_eq_true rfl, Nat.le_of_ble_eq_true rfl⟩ (fun M16 h14 => q_ob_is h14) (fun M16 h14 => m_X8_endUnit h14) (fun M16 h14 => ?_)
    refine q_iload 3 dX8_readNumber_82 rfl ?_
    exact q_iret dX8_readNumber_84 rfl rfl (Nat.le_of_ble_eq_true rfl) rfl
set_option maxRecDepth 20000 in
theorem v_X8_readNumber_b8 {M : q_Mem} {a0 : Nat} {a1 : Int32}  : ∀ (n : Nat) (a2 : Int64) (a4 : Int32) (a5 : Int32), q_V Y_X8_readNumber none (fun x : Int32 × q_Mem => (some (.int x.1), x.2)) 0 0 8 [(0, .ref a0), (1, .int a1), (2, .long a2), (4, .int a4), (5, .int a5)] [] M (f_X8_readNumber_b8 M a0 a1 n a2 a4 a5) := by
  intro n
  induction n with
  | zero => intro a2 a4 a5; exact q_none
  | succ n ih =>
    intro a2 a4 a5
    rw [f_X8_readNumber_b8.eq_2]
    refine q_iload 4 dX8_readNumber_8 rfl ?_
    refine q_aload_n 0 dX8_readNumber_10 rfl ?_
    refine q_getI (f := 1) cl_X8 (by decide) qw_194 rfl dX8_readNumber_11 (Or.inl rfl) (fun v1 h2 => ?_)
    refine q_icmp_ge (tgt := 59) dX8_readNumber_14 (by decide) (fun c10 => ?_) (fun c10 => ?_)
    · refine q_aload_n 0 dX8_readNumber_17 rfl ?_
      refine q_iload 4 dX8_readNumber_18 rfl ?_
      refine q_cVI (Y2 := Y_X8_signAt) (As := [.int a5]) (b := a0) (st := []) cl_X8 mv_X8_signAt qw_643 dX8_readNumber_20 ⟨Nat.le_of_ble_eq_true rfl, Nat.le_of_ble_eq_true rfl⟩ rfl (fun _ _ => rfl) (Nat.le_of_ble_eq_true rfl) ⟨Nat.le_of_ble_eq_true rfl, Nat.le_of_ble_eq_true rfl⟩ (fun v4 h3 => q_ob_is h3) (fun v4 h3 => m_X8_signAt h3) (fun v4 h3 => ?_)
      refine q_cSI (Y2 := Y_X8_isDigit) (As := [.int v4]) (st := []) ms_X8_isDigit qw_647 dX8_readNumber_23 ⟨Nat.le_of_ble_eq_true rfl, Nat.le_of_ble_eq_true rfl⟩ rfl (fun _ _ => rfl) (Nat.le_of_ble_eq_true rfl) ⟨Nat.le_of_ble_eq_true rfl, Nat.le_of_ble_eq_true rfl⟩ (fun v6 h5 => m_X8_isDigit h5) (fun v6 h5 => ?_)
      refine q_if_eq (tgt := 59) dX8_readNumber_26 (by decide) (fun c9 => ?_) (fun c9 => ?_)
      · refine q_sub (ls' := [(0, .ref a0), (1, .int a1), (2, .long a2), (4, .int a4)]) [0, 1, 2, 3] rfl ?_
        exact v_X8_readNumber_b59
      · refine q_ldc2 (x := (10 : Int64)) qw_654 dX8_readNumber_29 ?_
        refine q_lload_n 2 dX8_readNumber_32 rfl ?_
        refine q_lmul dX8_readNumber_33 ?_
        refine q_aload_n 0 dX8_readNumber_34 rfl ?_
        refine q_iload 4 dX8_readNumber_35 rfl ?_
        refine q_cVI (Y2 := Y_X8_signAt) (As := [.int a5]) (b := a0) (st := [.long ((10 : Int64) * a2)]) cl_X8 mv_X8_signAt qw_643 dX8_readNumber_37 ⟨Nat.le_of_ble_eq_true rfl, Nat.le_of_ble_eq_true rfl⟩ rfl (fun _ _ => rfl) (Nat.le_of_ble_eq_true rfl) ⟨Nat.le_of_ble_eq_true rfl, Nat.le_of_ble_eq_true rfl⟩ (fun v8 h7 => q_ob_is h7) (fun v8 h7 => m_X8_signAt h7) (fun v8 h7 => ?_)
        refine q_i2l dX8_readNumber_40 ?_
        refine q_ladd dX8_readNumber_41 ?_
        refine q_ldc2 (x := (48 : Int64)) qw_655 dX8_readNumber_42 ?_
        refine q_lsub dX8_readNumber_45 ?_
        refine q_lstore_n (ls' := [(2, .long ((((10 : Int64) * a2) + v8.toInt64) - (48 : Int64))), (0, .ref a0), (1, .int a1), (4, .int a4), (5, .int a5)]) dX8_readNumber_46 (by decide) rfl ?_
        refine q_iload 4 dX8_readNumber_47 rfl ?_
        refine q_iconst (x := (1 : Int32)) dX8_readNumber_49 rfl ?_
        refine q_iadd dX8_readNumber_50 ?_
        refine q_istore (ls' := [(4, .int (a5 + (1 : Int32))), (2, .long ((((10 : Int64) * a2) + v8.toInt64) - (48 : Int64))), (0, .ref a0), (1, .int a1), (5, .int a5)]) dX8_readNumber_51 (by decide) rfl ?_
        refine q_iinc 4 (y := (a5 + (1 : Int32))) (ls' := [(5, .int (a5 + (1 : Int32))), (4, .int (a5 + (1 : Int32))), (2, .long ((((10 : Int64) * a2) + v8.toInt64) - (48 : Int64))), (0, .ref a0), (1, .int a1)]) dX8_readNumber_53 rfl rfl (by decide) rfl ?_
        refine q_goto (tgt := 8) dX8_readNumber_56 (by decide) ?_
        refine q_sub (ls' := [(0, .ref a0), (1, .int a1), (2, .long ((((10 : Int64) * a2) + v8.toInt64) - (48 : Int64))), (4, .int (a5 + (1 : Int32))), (5, .int (a5 + (1 : Int32)))]) [3, 4, 2, 1, 0] rfl ?_
        exact ih _ _ _
    · refine q_sub (ls' := [(0, .ref a0), (1, .int a1), (2, .long a2), (4, .int a4)]) [0, 1, 2, 3] rfl ?_
      exact v_X8_readNumber_b59
set_option maxRecDepth 20000 in
theorem m_X8_readNumber {M : q_Mem} {a0 : Nat} {a1 : Int32} {x : (Int32 × q_Mem)} (h : f_X8_readNumber M a0 a1 = some x) : q_C Y_X8_readNumber [.ref a0, .int a1] M (some (.int x.1)) x.2 := by
  refine q_met (φ := (fun x : Int32 × q_Mem => (some (.int x.1), x.2))) (r := f_X8_readNumber M a0 a1) (by decide +kernel) (Nat.le_of_ble_eq_true rfl) ?_ h (fun _ _ => rfl)
  show q_V Y_X8_readNumber none (fun x : Int32 × q_Mem => (some (.int x.1), x.2)) 0 0 0 [(0, .ref a0), (1, .int a1)] [] M (f_X8_readNumber M a0 a1)
  unfold f_X8_readNumber
  refine q_obV ?_
  refine q_lconst (x := (0 : Int64)) dX8_readNumber_0 rfl ?_
  refine q_lstore_n (ls' := [(2, .long (0 : Int64)), (0, .ref a0), (1, .int a1)]) dX8_readNumber_1 (by decide) rfl ?_
  refine q_iload_n 2 dX8_readNumber_2 rfl ?_
  refine q_istore (ls' := [(4, .int a1), (2, .long (0 : Int64)), (0, .ref a0), (1, .int a1)]) dX8_readNumber_3 (by decide) rfl ?_
  refine q_iload_n 3 dX8_readNumber_5 rfl ?_
  refine q_istore (ls' := [(5, .int a1), (4, .int a1), (2, .long (0 : Int64)), (0, .ref a0), (1, .int a1)]) dX8_readNumber_6 (by decide) rfl ?_
  refine q_sub (ls' := [(0, .ref a0), (1, .int a1), (2, .long (0 : Int64)), (4, .int a1), (5, .int a1)]) [3, 4, 2, 1, 0] rfl ?_
  exact v_X8_readNumber_b8 _ _ _ _
theorem dX8_pushMark_0 : decode cX8_pushMark 0 = .ok (.aload_n 0, 1) := by decide +kernel
theorem dX8_pushMark_1 : decode cX8_pushMark 1 = .ok (.getfield 50, 3) := by decide +kernel
theorem dX8_pushMark_4 : decode cX8_pushMark 4 = .ok (.aload_n 0, 1) := by decide +kernel
theorem dX8_pushMark_5 : decode cX8_pushMark 5 = .ok (.getfield 22, 3) := by decide +kernel
theorem dX8_pushMark_8 : decode cX8_pushMark 8 = .ok (.arraylength, 1) := by decide +kernel
theorem dX8_pushMark_9 : decode cX8_pushMark 9 = .ok (.if_icmp .ge 15, 3) := by decide +kernel
theorem dX8_pushMark_12 : decode cX8_pushMark 12 = .ok (.aload_n 0, 1) := by decide +kernel
theorem dX8_pushMark_13 : decode cX8_pushMark 13 = .ok (.getfield 50, 3) := by decide +kernel
theorem dX8_pushMark_16 : decode cX8_pushMark 16 = .ok (.aload_n 0, 1) := by decide +kernel
theorem dX8_pushMark_17 : decode cX8_pushMark 17 = .ok (.getfield 25, 3) := by decide +kernel
theorem dX8_pushMark_20 : decode cX8_pushMark 20 = .ok (.arraylength, 1) := by decide +kernel
theorem dX8_pushMark_21 : decode cX8_pushMark 21 = .ok (.if_icmp .lt 4, 3) := by decide +kernel
theorem dX8_pushMark_24 : decode cX8_pushMark 24 = .ok (.return_, 1) := by decide +kernel
theorem dX8_pushMark_25 : decode cX8_pushMark 25 = .ok (.aload_n 0, 1) := by decide +kernel
theorem dX8_pushMark_26 : decode cX8_pushMark 26 = .ok (.getfield 22, 3) := by decide +kernel
theorem dX8_pushMark_29 : decode cX8_pushMark 29 = .ok (.aload_n 0, 1) := by decide +kernel
theorem dX8_pushMark_30 : decode cX8_pushMark 30 = .ok (.getfield 50, 3) := by decide +kernel
theorem dX8_pushMark_33 : decode cX8_pushMark 33 = .ok (.iload_n 1, 1) := by decide +kernel
theorem dX8_pushMark_34 : decode cX8_pushMark 34 = .ok (.iastore, 1) := by decide +kernel
theorem dX8_pushMark_35 : decode cX8_pushMark 35 = .ok (.aload_n 0, 1) := by decide +kernel
theorem dX8_pushMark_36 : decode cX8_pushMark 36 = .ok (.getfield 25, 3) := by decide +kernel
theorem dX8_pushMark_39 : decode cX8_pushMark 39 = .ok (.aload_n 0, 1) := by decide +kernel
theorem dX8_pushMark_40 : decode cX8_pushMark 40 = .ok (.getfield 50, 3) := by decide +kernel
theorem dX8_pushMark_43 : decode cX8_pushMark 43 = .ok (.iload_n 2, 1) := by decide +kernel
theorem dX8_pushMark_44 : decode cX8_pushMark 44 = .ok (.bastore, 1) := by decide +kernel
theorem dX8_pushMark_45 : decode cX8_pushMark 45 = .ok (.aload_n 0, 1) := by decide +kernel
theorem dX8_pushMark_46 : decode cX8_pushMark 46 = .ok (.dup, 1) := by decide +kernel
theorem dX8_pushMark_47 : decode cX8_pushMark 47 = .ok (.getfield 50, 3) := by decide +kernel
theorem dX8_pushMark_50 : decode cX8_pushMark 50 = .ok (.iconst 1, 1) := by decide +kernel
theorem dX8_pushMark_51 : decode cX8_pushMark 51 = .ok (.iadd, 1) := by decide +kernel
theorem dX8_pushMark_52 : decode cX8_pushMark 52 = .ok (.putfield 50, 3) := by decide +kernel
theorem dX8_pushMark_55 : decode cX8_pushMark 55 = .ok (.iload_n 2, 1) := by decide +kernel
theorem dX8_pushMark_56 : decode cX8_pushMark 56 = .ok (.ifCond .eq 13, 3) := by decide +kernel
theorem dX8_pushMark_59 : decode cX8_pushMark 59 = .ok (.aload_n 0, 1) := by decide +kernel
theorem dX8_pushMark_60 : decode cX8_pushMark 60 = .ok (.dup, 1) := by decide +kernel
theorem dX8_pushMark_61 : decode cX8_pushMark 61 = .ok (.getfield 56, 3) := by decide +kernel
theorem dX8_pushMark_64 : decode cX8_pushMark 64 = .ok (.iconst 1, 1) := by decide +kernel
theorem dX8_pushMark_65 : decode cX8_pushMark 65 = .ok (.iadd, 1) := by decide +kernel
theorem dX8_pushMark_66 : decode cX8_pushMark 66 = .ok (.putfield 56, 3) := by decide +kernel
theorem dX8_pushMark_69 : decode cX8_pushMark 69 = .ok (.return_, 1) := by decide +kernel
def f_X8_pushMark (M : q_Mem) (a0 : Nat) (a1 : Int32) (a2 : Int32) : Option q_Mem :=
  q_ob 7 M a0 ((q_gI 7 7 M a0).bind fun v1 =>
  (q_gR 7 5 M a0).bind fun v3 =>
  (q_ln M v3).bind fun v5 =>
  (if v1 < v5 then
    (q_gI 7 7 M a0).bind fun v7 =>
    (q_gR 7 6 M a0).bind fun v9 =>
    (q_ln M v9).bind fun v11 =>
    (if v7 < v11 then
      (q_gR 7 5 M a0).bind fun v13 =>
      (q_gI 7 7 M a0).bind fun v15 =>
      (q_tI M v13 v15 a1).bind fun M17 =>
      (q_gR 7 6 M17 a0).bind fun v19 =>
      (q_gI 7 7 M17 a0).bind fun v21 =>
      (q_tZ M17 v19 v21 a2).bind fun M23 =>
      (q_gI 7 7 M23 a0).bind fun v25 =>
      (q_pI 7 7 M23 a0 (v25 + (1 : Int32))).bind fun M27 =>
      (if a2 = 0 then
        some M27
      else
        (q_gI 7 9 M27 a0).bind fun v29 =>
        (q_pI 7 9 M27 a0 (v29 + (1 : Int32))).bind fun M31 =>
        some M31)
    else
      some M)
  else
    some M))
set_option maxRecDepth 20000 in
theorem m_X8_pushMark {M : q_Mem} {a0 : Nat} {a1 : Int32} {a2 : Int32} {x : q_Mem} (h : f_X8_pushMark M a0 a1 a2 = some x) : q_C Y_X8_pushMark [.ref a0, .int a1, .int a2] M none x := by
  refine q_met (φ := (fun x : q_Mem => (none, x))) (r := f_X8_pushMark M a0 a1 a2) (by decide +kernel) (Nat.le_of_ble_eq_true rfl) ?_ h (fun _ _ => rfl)
  show q_V Y_X8_pushMark none (fun x : q_Mem => (none, x)) 0 0 0 [(0, .ref a0), (1, .int a1), (2, .int a2)] [] M (f_X8_pushMark M a0 a1 a2)
  unfold f_X8_pushMark
  refine q_obV ?_
  refine q_aload_n 0 dX8_pushMark_0 rfl ?_
  refine q_getI (f := 7) cl_X8 (by decide) qw_200 rfl dX8_pushMark_1 (Or.inl rfl) (fun v1 h2 => ?_)
  refine q_aload_n 0 dX8_pushMark_4 rfl ?_
  refine q_getR (f := 5) cl_X8 (by decide) qw_198 rfl dX8_pushMark_5 (fun _ _ _ => rfl) (fun v3 h4 => ?_)
  refine q_alen dX8_pushMark_8 (fun v5 h6 => ?_)
  refine q_icmp_ge (tgt := 24) dX8_pushMark_9 (by decide) (fun c35 => ?_) (fun c35 => ?_)
  · refine q_aload_n 0 dX8_pushMark_12 rfl ?_
    refine q_getI (f := 7) cl_X8 (by decide) qw_200 rfl dX8_pushMark_13 (Or.inl rfl) (fun v7 h8 => ?_)
    refine q_aload_n 0 dX8_pushMark_16 rfl ?_
    refine q_getR (f := 6) cl_X8 (by decide) qw_199 rfl dX8_pushMark_17 (fun _ _ _ => rfl) (fun v9 h10 => ?_)
    refine q_alen dX8_pushMark_20 (fun v11 h12 => ?_)
    refine q_icmp_lt (tgt := 25) dX8_pushMark_21 (by decide) (fun c34 => ?_) (fun c34 => ?_)
    · refine q_aload_n 0 dX8_pushMark_25 rfl ?_
      refine q_getR (f := 5) cl_X8 (by decide) qw_198 rfl dX8_pushMark_26 (fun _ _ _ => rfl) (fun v13 h14 => ?_)
      refine q_aload_n 0 dX8_pushMark_29 rfl ?_
      refine q_getI (f := 7) cl_X8 (by decide) qw_200 rfl dX8_pushMark_30 (Or.inl rfl) (fun v15 h16 => ?_)
      refine q_iload_n 1 dX8_pushMark_33 rfl ?_
      refine q_iast dX8_pushMark_34 (fun M17 h18 => ?_)
      refine q_aload_n 0 dX8_pushMark_35 rfl ?_
      refine q_getR (f := 6) cl_X8 (by decide) qw_199 rfl dX8_pushMark_36 (fun _ _ _ => rfl) (fun v19 h20 => ?_)
      refine q_aload_n 0 dX8_pushMark_39 rfl ?_
      refine q_getI (f := 7) cl_X8 (by decide) qw_200 rfl dX8_pushMark_40 (Or.inl rfl) (fun v21 h22 => ?_)
      refine q_iload_n 2 dX8_pushMark_43 rfl ?_
      refine q_zast dX8_pushMark_44 (fun M23 h24 => ?_)
      refine q_aload_n 0 dX8_pushMark_45 rfl ?_
      refine q_dup dX8_pushMark_46 rfl ?_
      refine q_getI (f := 7) cl_X8 (by decide) qw_200 rfl dX8_pushMark_47 (Or.inl rfl) (fun v25 h26 => ?_)
      refine q_iconst (x := (1 : Int32)) dX8_pushMark_50 rfl ?_
      refine q_iadd dX8_pushMark_51 ?_
      refine q_putI (f := 7) cl_X8 (by decide) qw_200 rfl (Or.inl rfl) dX8_pushMark_52 rfl (fun M27 h28 => ?_)
      refine q_iload_n 2 dX8_pushMark_55 rfl ?_
      refine q_if_eq (tgt := 69) dX8_pushMark_56 (by decide) (fun c33 => ?_) (fun c33 => ?_)
      · exact q_vret dX8_pushMark_69 rfl rfl (Nat.le_of_ble_eq_true rfl) rfl
      · refine q_aload_n 0 dX8_pushMark_59 rfl ?_
        refine q_dup dX8_pushMark_60 rfl ?_
        refine q_getI (f := 9) cl_X8 (by decide) qw_202 rfl dX8_pushMark_61 (Or.inl rfl) (fun v29 h30 => ?_)
        refine q_iconst (x := (1 : Int32)) dX8_pushMark_64 rfl ?_
        refine q_iadd dX8_pushMark_65 ?_
        refine q_putI (f := 9) cl_X8 (by decide) qw_202 rfl (Or.inl rfl) dX8_pushMark_66 rfl (fun M31 h32 => ?_)
        exact q_vret dX8_pushMark_69 rfl rfl (Nat.le_of_ble_eq_true rfl) rfl
    · exact q_vret dX8_pushMark_24 rfl rfl (Nat.le_of_ble_eq_true rfl) rfl
  · exact q_vret dX8_pushMark_24 rfl rfl (Nat.le_of_ble_eq_true rfl) rfl
theorem dX8_nameOf_0 : decode cX8_nameOf 0 = .ok (.iload_n 0, 1) := by decide +kernel
theorem dX8_nameOf_1 : decode cX8_nameOf 1 = .ok (.tableswitch 117 99 119 #[111, 117, 117, 101, 117, 117, 117, 117, 117, 117, 109, 103, 105, 117, 117, 114, 117, 107, 117, 117, 99], 99) := by decide +kernel
theorem dX8_nameOf_100 : decode cX8_nameOf 100 = .ok (.iconst 0, 1) := by decide +kernel
theorem dX8_nameOf_101 : decode cX8_nameOf 101 = .ok (.ireturn, 1) := by decide +kernel
theorem dX8_nameOf_102 : decode cX8_nameOf 102 = .ok (.iconst 1, 1) := by decide +kernel
theorem dX8_nameOf_103 : decode cX8_nameOf 103 = .ok (.ireturn, 1) := by decide +kernel
theorem dX8_nameOf_104 : decode cX8_nameOf 104 = .ok (.iconst 2, 1) := by decide +kernel
theorem dX8_nameOf_105 : decode cX8_nameOf 105 = .ok (.ireturn, 1) := by decide +kernel
theorem dX8_nameOf_106 : decode cX8_nameOf 106 = .ok (.iconst 3, 1) := by decide +kernel
theorem dX8_nameOf_107 : decode cX8_nameOf 107 = .ok (.ireturn, 1) := by decide +kernel
theorem dX8_nameOf_108 : decode cX8_nameOf 108 = .ok (.iconst 4, 1) := by decide +kernel
theorem dX8_nameOf_109 : decode cX8_nameOf 109 = .ok (.ireturn, 1) := by decide +kernel
theorem dX8_nameOf_110 : decode cX8_nameOf 110 = .ok (.iconst 5, 1) := by decide +kernel
theorem dX8_nameOf_111 : decode cX8_nameOf 111 = .ok (.ireturn, 1) := by decide +kernel
theorem dX8_nameOf_112 : decode cX8_nameOf 112 = .ok (.bipush 6, 2) := by decide +kernel
theorem dX8_nameOf_114 : decode cX8_nameOf 114 = .ok (.ireturn, 1) := by decide +kernel
theorem dX8_nameOf_115 : decode cX8_nameOf 115 = .ok (.bipush 7, 2) := by decide +kernel
theorem dX8_nameOf_117 : decode cX8_nameOf 117 = .ok (.ireturn, 1) := by decide +kernel
theorem dX8_nameOf_118 : decode cX8_nameOf 118 = .ok (.iconst (-1), 1) := by decide +kernel
theorem dX8_nameOf_119 : decode cX8_nameOf 119 = .ok (.ireturn, 1) := by decide +kernel
def f_X8_nameOf (M : q_Mem) (a0 : Int32) : Option Int32 :=
  (if a0 < 99 then
    some (-1 : Int32)
  else
   (if a0 = 99 then
    some (6 : Int32)
   else
   (if a0 = 100 then
    some (-1 : Int32)
   else
   (if a0 = 101 then
    some (-1 : Int32)
   else
   (if a0 = 102 then
    some (1 : Int32)
   else
   (if a0 = 103 then
    some (-1 : Int32)
   else
   (if a0 = 104 then
    some (-1 : Int32)
   else
   (if a0 = 105 then
    some (-1 : Int32)
   else
   (if a0 = 106 then
    some (-1 : Int32)
   else
   (if a0 = 107 then
    some (-1 : Int32)
   else
   (if a0 = 108 then
    some (-1 : Int32)
   else
   (if a0 = 109 then
    some (5 : Int32)
   else
   (if a0 = 110 then
    some (2 : Int32)
   else
   (if a0 = 111 then
    some (3 : Int32)
   else
   (if a0 = 112 then
    some (-1 : Int32)
   else
   (if a0 = 113 then
    some (-1 : Int32)
   else
   (if a0 = 114 then
    some (7 : Int32)
   else
   (if a0 = 115 then
    some (-1 : Int32)
   else
   (if a0 = 116 then
    some (4 : Int32)
   else
   (if a0 = 117 then
    some (-1 : Int32)
   else
   (if a0 = 118 then
    some (-1 : Int32)
   else
   (if a0 = 119 then
    some (0 : Int32)
   else
   some (-1 : Int32)))))))))))))))))))))))
set_option maxRecDepth 20000 in
theorem m_X8_nameOf {M : q_Mem} {a0 : Int32} {x : Int32} (h : f_X8_nameOf M a0 = some x) : q_C Y_X8_nameOf [.int a0] M (some (.int x)) M := by
  refine q_met (φ := (fun x : Int32 => (some (.int x), M))) (r := f_X8_nameOf M a0) (by decide +kernel) (Nat.le_of_ble_eq_true rfl) ?_ h (fun _ _ => rfl)
  show q_V Y_X8_nameOf none (fun x : Int32 => (some (.int x), M)) 0 0 0 [(0, .int a0)] [] M (f_X8_nameOf M a0)
  unfold f_X8_nameOf
  refine q_iload_n 0 dX8_nameOf_0 rfl ?_
  refine q_ifV (fun c1 => ?_) (fun c1 => ?_)
  · refine q_tabOut (tgt := 118) dX8_nameOf_1 (Or.inl (q_lt c1 rfl)) (by decide) ?_
    refine q_iconst (x := (-1 : Int32)) dX8_nameOf_118 rfl ?_
    exact q_iret dX8_nameOf_119 rfl rfl (Nat.le_of_ble_eq_true rfl) rfl
  · have b2 := q_nlt (b := 99) c1 rfl
    refine q_ifV (fun c3 => ?_) (fun c3 => ?_)
    · refine q_tabIn (tgt := 112) 99 dX8_nameOf_1 c3 (by decide) (by decide) rfl (by decide) ?_
      refine q_bipush (x := (6 : Int32)) dX8_nameOf_112 rfl ?_
      exact q_iret dX8_nameOf_114 rfl rfl (Nat.le_of_ble_eq_true rfl) rfl
    · have b4 := q_step (c := 100) b2 c3 rfl (by decide)
      refine q_ifV (fun c5 => ?_) (fun c5 => ?_)
      · refine q_tabIn (tgt := 118) 100 dX8_nameOf_1 c5 (by decide) (by decide) rfl (by decide) ?_
        refine q_iconst (x := (-1 : Int32)) dX8_nameOf_118 rfl ?_
        exact q_iret dX8_nameOf_119 rfl rfl (Nat.le_of_ble_eq_true rfl) rfl
      · have b6 := q_step (c := 101) b4 c5 rfl (by decide)
        refine q_ifV (fun c7 => ?_) (fun c7 => ?_)
        · refine q_tabIn (tgt := 118) 101 dX8_nameOf_1 c7 (by decide) (by decide) rfl (by decide) ?_
          refine q_iconst (x := (-1 : Int32)) dX8_nameOf_118 rfl ?_
          exact q_iret dX8_nameOf_119 rfl rfl (Nat.le_of_ble_eq_true rfl) rfl
        · have b8 := q_step (c := 102) b6 c7 rfl (by decide)
          refine q_ifV (fun c9 => ?_) (fun c9 => ?_)
          · refine q_tabIn (tgt := 102) 102 dX8_nameOf_1 c9 (by decide) (by decide) rfl (by decide) ?_
            refine q_iconst (x := (1 : Int32)) dX8_nameOf_102 rfl ?_
            exact q_iret dX8_nameOf_103 rfl rfl (Nat.le_of_ble_eq_true rfl) rfl
          · have b10 := q_step (c := 103) b8 c9 rfl (by decide)
            refine q_ifV (fun c11 => ?_) (fun c11 => ?_)
            · refine q_tabIn (tgt := 118) 103 dX8_nameOf_1 c11 (by decide) (by decide) rfl (by decide) ?_
              refine q_iconst (x := (-1 : Int32)) dX8_nameOf_118 rfl ?_
              exact q_iret dX8_nameOf_119 rfl rfl (Nat.le_of_ble_eq_true rfl) rfl
            · have b12 := q_step (c := 104) b10 c11 rfl (by decide)
              refine q_ifV (fun c13 => ?_) (fun c13 => ?_)
              · refine q_tabIn (tgt := 118) 104 dX8_nameOf_1 c13 (by decide) (by decide) rfl (by decide) ?_
                refine q_iconst (x := (-1 : Int32)) dX8_nameOf_118 rfl ?_
                exact q_iret dX8_nameOf_119 rfl rfl (Nat.le_of_ble_eq_true rfl) rfl
              · have b14 := q_step (c := 105) b12 c13 rfl (by decide)
                refine q_ifV (fun c15 => ?_) (fun c15 => ?_)
                · refine q_tabIn (tgt := 118) 105 dX8_nameOf_1 c15 (by decide) (by decide) rfl (by decide) ?_
                  refine q_iconst (x := (-1 : Int32)) dX8_nameOf_118 rfl ?_
                  exact q_iret dX8_nameOf_119 rfl rfl (Nat.le_of_ble_eq_true rfl) rfl
                · have b16 := q_step (c := 106) b14 c15 rfl (by decide)
                  refine q_ifV (fun c17 => ?_) (fun c17 => ?_)
                  · refine q_tabIn (tgt := 118) 106 dX8_nameOf_1 c17 (by decide) (by decide) rfl (by decide) ?_
                    refine q_iconst (x := (-1 : Int32)) dX8_nameOf_118 rfl ?_
                    exact q_iret dX8_nameOf_119 rfl rfl (Nat.le_of_ble_eq_true rfl) rfl
                  · have b18 := q_step (c := 107) b16 c17 rfl (by decide)
                    refine q_ifV (fun c19 => ?_) (fun c19 => ?_)
                    · refine q_tabIn (tgt := 118) 107 dX8_nameOf_1 c19 (by decide) (by decide) rfl (by decide) ?_
                      refine q_iconst (x := (-1 : Int32)) dX8_nameOf_118 rfl ?_
                      exact q_iret dX8_nameOf_119 rfl rfl (Nat.le_of_ble_eq_true rfl) rfl
                    · have b20 := q_step (c := 108) b18 c19 rfl (by decide)
                      refine q_ifV (fun c21 => ?_) (fun c21 => ?_)
                      · refine q_tabIn (tgt := 118) 108 dX8_nameOf_1 c21 (by decide) (by decide) rfl (by decide) ?_
                        refine q_iconst (x := (-1 : Int32)) dX8_nameOf_118 rfl ?_
                        exact q_iret dX8_nameOf_119 rfl rfl (Nat.le_of_ble_eq_true rfl) rfl
                      · have b22 := q_step (c := 109) b20 c21 rfl (by decide)
                        refine q_ifV (fun c23 => ?_) (fun c23 => ?_)
                        · refine q_tabIn (tgt := 110) 109 dX8_nameOf_1 c23 (by decide) (by decide) rfl (by decide) ?_
                          refine q_iconst (x := (5 : Int32)) dX8_nameOf_110 rfl ?_
                          exact q_iret dX8_nameOf_111 rfl rfl (Nat.le_of_ble_eq_true rfl) rfl
                        · have b24 := q_step (c := 110) b22 c23 rfl (by decide)
                          refine q_ifV (fun c25 => ?_) (fun c25 => ?_)
                          · refine q_tabIn (tgt := 104) 110 dX8_nameOf_1 c25 (by decide) (by decide) rfl (by decide) ?_
                            refine q_iconst (x := (2 : Int32)) dX8_nameOf_104 rfl ?_
                            exact q_iret dX8_nameOf_105 rfl rfl (Nat.le_of_ble_eq_true rfl) rfl
                          · have b26 := q_step (c := 111) b24 c25 rfl (by decide)
                            refine q_ifV (fun c27 => ?_) (fun c27 => ?_)
                            · refine q_tabIn (tgt := 106) 111 dX8_nameOf_1 c27 (by decide) (by decide) rfl (by decide) ?_
                              refine q_iconst (x := (3 : Int32)) dX8_nameOf_106 rfl ?_
                              exact q_iret dX8_nameOf_107 rfl rfl (Nat.le_of_ble_eq_true rfl) rfl
                            · have b28 := q_step (c := 112) b26 c27 rfl (by decide)
                              refine q_ifV (fun c29 => ?_) (fun c29 => ?_)
                              · refine q_tabIn (tgt := 118) 112 dX8_nameOf_1 c29 (by decide) (by decide) rfl (by decide) ?_
                                refine q_iconst (x := (-1 : Int32)) dX8_nameOf_118 rfl ?_
                                exact q_iret dX8_nameOf_119 rfl rfl (Nat.le_of_ble_eq_true rfl) rfl
                              · have b30 := q_step (c := 113) b28 c29 rfl (by decide)
                                refine q_ifV (fun c31 => ?_) (fun c31 => ?_)
                                · refine q_tabIn (tgt := 118) 113 dX8_nameOf_1 c31 (by decide) (by decide) rfl (by decide) ?_
                                  refine q_iconst (x := (-1 : Int32)) dX8_nameOf_118 rfl ?_
                                  exact q_iret dX8_nameOf_119 rfl rfl (Nat.le_of_ble_eq_true rfl) rfl
                                · have b32 := q_step (c := 114) b30 c31 rfl (by decide)
                                  refine q_ifV (fun c33 => ?_) (fun c33 => ?_)
                                  · refine q_tabIn (tgt := 115) 114 dX8_nameOf_1 c33 (by decide) (by decide) rfl (by decide) ?_
                                    refine q_bipush (x := (7 : Int32)) dX8_nameOf_115 rfl ?_
                                    exact q_iret dX8_nameOf_117 rfl rfl (Nat.le_of_ble_eq_true rfl) rfl
                                  · have b34 := q_step (c := 115) b32 c33 rfl (by decide)
                                    refine q_ifV (fun c35 => ?_) (fun c35 => ?_)
                                    · refine q_tabIn (tgt := 118) 115 dX8_nameOf_1 c35 (by decide) (by decide) rfl (by decide) ?_
                                      refine q_iconst (x := (-1 : Int32)) dX8_nameOf_118 rfl ?_
                                      exact q_iret dX8_nameOf_119 rfl rfl (Nat.le_of_ble_eq_true rfl) rfl
                                    · have b36 := q_step (c := 116) b34 c35 rfl (by decide)
                                      refine q_ifV (fun c37 => ?_) (fun c37 => ?_)
                                      · refine q_tabIn (tgt := 108) 116 dX8_nameOf_1 c37 (by decide) (by decide) rfl (by decide) ?_
                                        refine q_iconst (x := (4 : Int32)) dX8_nameOf_108 rfl ?_
                                        exact q_iret dX8_nameOf_109 rfl rfl (Nat.le_of_ble_eq_true rfl) rfl
                                      · have b38 := q_step (c := 117) b36 c37 rfl (by decide)
                                        refine q_ifV (fun c39 => ?_) (fun c39 => ?_)
                                        · refine q_tabIn (tgt := 118) 117 dX8_nameOf_1 c39 (by decide) (by decide) rfl (by decide) ?_
                                          refine q_iconst (x := (-1 : Int32)) dX8_nameOf_118 rfl ?_
                                          exact q_iret dX8_nameOf_119 rfl rfl (Nat.le_of_ble_eq_true rfl) rfl
                                        · have b40 := q_step (c := 118) b38 c39 rfl (by decide)
                                          refine q_ifV (fun c41 => ?_) (fun c41 => ?_)
                                          · refine q_tabIn (tgt := 118) 118 dX8_nameOf_1 c41 (by decide) (by decide) rfl (by decide) ?_
                                            refine q_iconst (x := (-1 : Int32)) dX8_nameOf_118 rfl ?_
                                            exact q_iret dX8_nameOf_119 rfl rfl (Nat.le_of_ble_eq_true rfl) rfl
                                          · have b42 := q_step (c := 119) b40 c41 rfl (by decide)
                                            refine q_ifV (fun c43 => ?_) (fun c43 => ?_)
                                            · refine q_tabIn (tgt := 100) 119 dX8_nameOf_1 c43 (by decide) (by decide) rfl (by decide) ?_
                                              refine q_iconst (x := (0 : Int32)) dX8_nameOf_100 rfl ?_
                                              exact q_iret dX8_nameOf_101 rfl rfl (Nat.le_of_ble_eq_true rfl) rfl
                                            · have b44 := q_step (c := 120) b42 c43 rfl (by decide)
                                              refine q_tabOut (tgt := 118) dX8_nameOf_1 (Or.inr (Int.lt_of_lt_of_le (by decide) b44)) (by decide) ?_
                                              refine q_iconst (x := (-1 : Int32)) dX8_nameOf_118 rfl ?_
                                              exact q_iret dX8_nameOf_119 rfl rfl (Nat.le_of_ble_eq_true rfl) rfl
