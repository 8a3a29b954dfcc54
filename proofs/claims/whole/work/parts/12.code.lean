theorem dX11_change_0 : decode cX11_change 0 = .ok (.aload_n 0, 1) := by decide +kernel
theorem dX11_change_1 : decode cX11_change 1 = .ok (.getfield 12, 3) := by decide +kernel
theorem dX11_change_4 : decode cX11_change 4 = .ok (.getfield 100, 3) := by decide +kernel
theorem dX11_change_7 : decode cX11_change 7 = .ok (.iload_n 1, 1) := by decide +kernel
theorem dX11_change_8 : decode cX11_change 8 = .ok (.invokevirtual 117, 3) := by decide +kernel
theorem dX11_change_11 : decode cX11_change 11 = .ok (.ifCond .eq 13, 3) := by decide +kernel
theorem dX11_change_14 : decode cX11_change 14 = .ok (.iload_n 2, 1) := by decide +kernel
theorem dX11_change_15 : decode cX11_change 15 = .ok (.iconst 0, 1) := by decide +kernel
theorem dX11_change_16 : decode cX11_change 16 = .ok (.bipush 60, 2) := by decide +kernel
theorem dX11_change_18 : decode cX11_change 18 = .ok (.invokestatic 96, 3) := by decide +kernel
theorem dX11_change_21 : decode cX11_change 21 = .ok (.ifCond .ne 6, 3) := by decide +kernel
theorem dX11_change_24 : decode cX11_change 24 = .ok (.bipush (-2), 2) := by decide +kernel
theorem dX11_change_26 : decode cX11_change 26 = .ok (.ireturn, 1) := by decide +kernel
theorem dX11_change_27 : decode cX11_change 27 = .ok (.aload_n 0, 1) := by decide +kernel
theorem dX11_change_28 : decode cX11_change 28 = .ok (.getfield 12, 3) := by decide +kernel
theorem dX11_change_31 : decode cX11_change 31 = .ok (.getfield 100, 3) := by decide +kernel
theorem dX11_change_34 : decode cX11_change 34 = .ok (.iload_n 1, 1) := by decide +kernel
theorem dX11_change_35 : decode cX11_change 35 = .ok (.iconst 2, 1) := by decide +kernel
theorem dX11_change_36 : decode cX11_change 36 = .ok (.iload_n 2, 1) := by decide +kernel
theorem dX11_change_37 : decode cX11_change 37 = .ok (.invokevirtual 113, 3) := by decide +kernel
theorem dX11_change_40 : decode cX11_change 40 = .ok (.aload_n 0, 1) := by decide +kernel
theorem dX11_change_41 : decode cX11_change 41 = .ok (.getfield 12, 3) := by decide +kernel
theorem dX11_change_44 : decode cX11_change 44 = .ok (.getfield 100, 3) := by decide +kernel
theorem dX11_change_47 : decode cX11_change 47 = .ok (.iload_n 1, 1) := by decide +kernel
theorem dX11_change_48 : decode cX11_change 48 = .ok (.iconst 3, 1) := by decide +kernel
theorem dX11_change_49 : decode cX11_change 49 = .ok (.iload_n 3, 1) := by decide +kernel
theorem dX11_change_50 : decode cX11_change 50 = .ok (.invokestatic 109, 3) := by decide +kernel
theorem dX11_change_53 : decode cX11_change 53 = .ok (.invokevirtual 113, 3) := by decide +kernel
theorem dX11_change_56 : decode cX11_change 56 = .ok (.iconst 1, 1) := by decide +kernel
theorem dX11_change_57 : decode cX11_change 57 = .ok (.ireturn, 1) := by decide +kernel
def f_X11_change (M : q_Mem) (a0 : Nat) (a1 : Int32) (a2 : Int32) (a3 : Int32) : Option (Int32 × q_Mem) :=
  q_ob 10 M a0 ((q_gR 10 0 M a0).bind fun v1 =>
  (q_gR 4 0 M v1).bind fun v3 =>
  (f_X9_has M v3 a1).bind fun v6 =>
  (if v6 = 0 then
    some ((-2 : Int32), M)
  else
    (f_X11_within M a2 (0 : Int32) (60 : Int32)).bind fun v8 =>
    (if v8 = 0 then
      some ((-2 : Int32), M)
    else
      (q_gR 10 0 M a0).bind fun v9 =>
      (q_gR 4 0 M v9).bind fun v11 =>
      (f_X9_put M v11 a1 (2 : Int32) a2).bind fun M15 =>
      (q_gR 10 0 M15 a0).bind fun v16 =>
      (q_gR 4 0 M15 v16).bind fun v18 =>
      (f_X11_asNumber M15 a3).bind fun v21 =>
      (f_X9_put M15 v18 a1 (3 : Int32) v21).bind fun M24 =>
      some ((1 : Int32), M24))))
set_option maxRecDepth 20000 in
theorem m_X11_change {M : q_Mem} {a0 : Nat} {a1 : Int32} {a2 : Int32} {a3 : Int32} {x : (Int32 × q_Mem)} (h : f_X11_change M a0 a1 a2 a3 = some x) : q_C Y_X11_change [.ref a0, .int a1, .int a2, .int a3] M (some (.int x.1)) x.2 := by
  refine q_met (φ := (fun x : Int32 × q_Mem => (some (.int x.1), x.2))) (r := f_X11_change M a0 a1 a2 a3) (by decide +kernel) (Nat.le_of_ble_eq_true rfl) ?_ h (fun _ _ => rfl)
  show q_V Y_X11_change none (fun x : Int32 × q_Mem => (some (.int x.1), x.2)) 0 0 0 [(0, .ref a0), (1, .int a1), (2, .int a2), (3, .int a3)] [] M (f_X11_change M a0 a1 a2 a3)
  unfold f_X11_change
  refine q_obV ?_
  refine q_aload_n 0 dX11_change_0 rfl ?_
  refine q_getR (f := 0) cl_X11 (by decide) qw_367 rfl dX11_change_1 (fun _ _ _ => rfl) (fun v1 h2 => ?_)
  refine q_getR (f := 0) cl_X5 (by decide) qw_72 rfl dX11_change_4 (fun _ _ _ => rfl) (fun v3 h4 => ?_)
  refine q_iload_n 1 dX11_change_7 rfl ?_
  refine q_cVI (Y2 := Y_X9_has) (As := [.int a1]) (b := v3) (st := []) cl_X9 mv_X9_has qw_420 dX11_change_8 ⟨Nat.le_of_ble_eq_true rfl, Nat.le_of_ble_eq_true rfl⟩ rfl (fun _ _ => rfl) (Nat.le_of_ble_eq_true rfl) ⟨Nat.le_of_ble_eq_true rfl, Nat.le_of_ble_eq_true rfl⟩ (fun v6 h5 => q_ob_is h5) (fun v6 h5 => m_X9_has h5) (fun v6 h5 => ?_)
  refine q_if_eq (tgt := 24) dX11_change_11 (by decide) (fun c26 => ?_) (fun c26 => ?_)
  · refine q_bipush (x := (-2 : Int32)) dX11_change_24 rfl ?_
    exact q_iret dX11_change_26 rfl rfl (Nat.le_of_ble_eq_true rfl) rfl
  · refine q_iload_n 2 dX11_change_14 rfl ?_
    refine q_iconst (x := (0 : Int32)) dX11_change_15 rfl ?_
    refine q_bipush (x := (60 : Int32)) dX11_change_16 rfl ?_
    refine q_cSI (Y2 := Y_X11_within) (As := [.int a2, .int (0 : Int32), .int (60 : Int32)]) (st := []) ms_X11_within qw_408 dX11_change_18 ⟨Nat.le_of_ble_eq_true rfl, Nat.le_of_ble_eq_true rfl⟩ rfl (fun _ _ => rfl) (Nat.le_of_ble_eq_true rfl) ⟨Nat.le_of_ble_eq_true rfl, Nat.le_of_ble_eq_true rfl⟩ (fun v8 h7 => m_X11_within h7) (fun v8 h7 => ?_)
    refine q_if_ne (tgt := 27) dX11_change_21 (by decide) (fun c25 => ?_) (fun c25 => ?_)
    · refine q_bipush (x := (-2 : Int32)) dX11_change_24 rfl ?_
      exact q_iret dX11_change_26 rfl rfl (Nat.le_of_ble_eq_true rfl) rfl
    · refine q_aload_n 0 dX11_change_27 rfl ?_
      refine q_getR (f := 0) cl_X11 (by decide) qw_367 rfl dX11_change_28 (fun _ _ _ => rfl) (fun v9 h10 => ?_)
      refine q_getR (f := 0) cl_X5 (by decide) qw_72 rfl dX11_change_31 (fun _ _ _ => rfl) (fun v11 h12 => ?_)
      refine q_iload_n 1 dX11_change_34 rfl ?_
      refine q_iconst (x := (2 : Int32)) dX11_change_35 rfl ?_
      refine q_iload_n 2 dX11_change_36 rfl ?_
      refine q_cVM (Y2 := Y_X9_put) (As := [.int a1, .int (2 : Int32), .int a2]) (b := v11) (st := []) cl_X9 mv_X9_put qw_415 dX11_change_37 ⟨Nat.le_of_ble_eq_true rfl, Nat.le_of_ble_eq_true rfl⟩ rfl (fun _ _ => rfl) (Nat.le_of_ble_eq_true rfl) ⟨Nat.le_of_ble_eq_true rfl, Nat.le_of_ble_eq_true rfl⟩ (fun M15 h13 => q_ob_is h13) (fun M15 h13 => m_X9_put h13) (fun M15 h13 => ?_)
      refine q_aload_n 0 dX11_change_40 rfl ?_
      refine q_getR (f := 0) cl_X11 (by decide) qw_367 rfl dX11_change_41 (fun _ _ _ => rfl) (fun v16 h17 => ?_)
      refine q_getR (f := 0) cl_X5 (by decide) qw_72 rfl dX11_change_44 (fun _ _ _ => rfl) (fun v18 h19 => ?_)
      refine q_iload_n 1 dX11_change_47 rfl ?_
      refine q_iconst (x := (3 : Int32)) dX11_change_48 rfl ?_
      refine q_iload_n 3 dX11_change_49 rfl ?_
      refine q_cSI (Y2 := Y_X11_asNumber) (As := [.int a3]) (st := [.int (3 : Int32), .int a1, .ref v18]) ms_X11_asNumber qw_412 dX11_change_50 ⟨Nat.le_of_ble_eq_true rfl, Nat.le_of_ble_eq_true rfl⟩ rfl (fun _ _ => rfl) (Nat.le_of_ble_eq_true rfl) ⟨Nat.le_of_ble_eq_true rfl, Nat.le_of_ble_eq_true rfl⟩ (fun v21 h20 => m_X11_asNumber h20) (fun v21 h20 => ?_)
      refine q_cVM (Y2 := Y_X9_put) (As := [.int a1, .int (3 : Int32), .int v21]) (b := v18) (st := []) cl_X9 mv_X9_put qw_415 dX11_change_53 ⟨Nat.le_of_ble_eq_true rfl, Nat.le_of_ble_eq_true rfl⟩ rfl (fun _ _ => rfl) (Nat.le_of_ble_eq_true rfl) ⟨Nat.le_of_ble_eq_true rfl, Nat.le_of_ble_eq_true rfl⟩ (fun M24 h22 => q_ob_is h22) (fun M24 h22 => m_X9_put h22) (fun M24 h22 => ?_)
      refine q_iconst (x := (1 : Int32)) dX11_change_56 rfl ?_
      exact q_iret dX11_change_57 rfl rfl (Nat.le_of_ble_eq_true rfl) rfl
theorem dX11_isDay_0 : decode cX11_isDay 0 = .ok (.iload_n 0, 1) := by decide +kernel
theorem dX11_isDay_1 : decode cX11_isDay 1 = .ok (.iconst 0, 1) := by decide +kernel
theorem dX11_isDay_2 : decode cX11_isDay 2 = .ok (.sipush 195, 3) := by decide +kernel
theorem dX11_isDay_5 : decode cX11_isDay 5 = .ok (.invokestatic 96, 3) := by decide +kernel
theorem dX11_isDay_8 : decode cX11_isDay 8 = .ok (.ireturn, 1) := by decide +kernel
def f_X11_isDay (M : q_Mem) (a0 : Int32) : Option Int32 :=
  (f_X11_within M a0 (0 : Int32) (195 : Int32)).bind fun v2 =>
  (if v2 = 0 ∨ v2 = 1 then some v2 else none)
set_option maxRecDepth 20000 in
theorem m_X11_isDay {M : q_Mem} {a0 : Int32} {x : Int32} (h : f_X11_isDay M a0 = some x) : q_C Y_X11_isDay [.int a0] M (some (.int x)) M := by
  refine q_met (φ := (fun x : Int32 => (some (.int x), M))) (r := f_X11_isDay M a0) (by decide +kernel) (Nat.le_of_ble_eq_true rfl) ?_ h (fun _ _ => rfl)
  show q_V Y_X11_isDay none (fun x : Int32 => (some (.int x), M)) 0 0 0 [(0, .int a0)] [] M (f_X11_isDay M a0)
  unfold f_X11_isDay
  refine q_iload_n 0 dX11_isDay_0 rfl ?_
  refine q_iconst (x := (0 : Int32)) dX11_isDay_1 rfl ?_
  refine q_sipush (x := (195 : Int32)) dX11_isDay_2 rfl ?_
  refine q_cSI (Y2 := Y_X11_within) (As := [.int a0, .int (0 : Int32), .int (195 : Int32)]) (st := []) ms_X11_within qw_408 dX11_isDay_5 ⟨Nat.le_of_ble_eq_true rfl, Nat.le_of_ble_eq_true rfl⟩ rfl (fun _ _ => rfl) (Nat.le_of_ble_eq_true rfl) ⟨Nat.le_of_ble_eq_true rfl, Nat.le_of_ble_eq_true rfl⟩ (fun v2 h1 => m_X11_within h1) (fun v2 h1 => ?_)
  exact q_zret dX11_isDay_8 rfl rfl (Nat.le_of_ble_eq_true rfl) rfl
theorem dX11_can_0 : decode cX11_can 0 = .ok (.aload_n 0, 1) := by decide +kernel
theorem dX11_can_1 : decode cX11_can 1 = .ok (.getfield 12, 3) := by decide +kernel
theorem dX11_can_4 : decode cX11_can 4 = .ok (.getfield 100, 3) := by decide +kernel
theorem dX11_can_7 : decode cX11_can 7 = .ok (.iload_n 1, 1) := by decide +kernel
theorem dX11_can_8 : decode cX11_can 8 = .ok (.invokevirtual 117, 3) := by decide +kernel
theorem dX11_can_11 : decode cX11_can 11 = .ok (.ifCond .eq 21, 3) := by decide +kernel
theorem dX11_can_14 : decode cX11_can 14 = .ok (.iload_n 2, 1) := by decide +kernel
theorem dX11_can_15 : decode cX11_can 15 = .ok (.invokestatic 121, 3) := by decide +kernel
theorem dX11_can_18 : decode cX11_can 18 = .ok (.ifCond .eq 14, 3) := by decide +kernel
theorem dX11_can_21 : decode cX11_can 21 = .ok (.iload_n 3, 1) := by decide +kernel
theorem dX11_can_22 : decode cX11_can 22 = .ok (.iconst 1, 1) := by decide +kernel
theorem dX11_can_23 : decode cX11_can 23 = .ok (.sipush 1000, 3) := by decide +kernel
theorem dX11_can_26 : decode cX11_can 26 = .ok (.invokestatic 96, 3) := by decide +kernel
theorem dX11_can_29 : decode cX11_can 29 = .ok (.ifCond .ne 6, 3) := by decide +kernel
theorem dX11_can_32 : decode cX11_can 32 = .ok (.bipush (-2), 2) := by decide +kernel
theorem dX11_can_34 : decode cX11_can 34 = .ok (.ireturn, 1) := by decide +kernel
theorem dX11_can_35 : decode cX11_can 35 = .ok (.aload_n 0, 1) := by decide +kernel
theorem dX11_can_36 : decode cX11_can 36 = .ok (.getfield 12, 3) := by decide +kernel
theorem dX11_can_39 : decode cX11_can 39 = .ok (.getfield 124, 3) := by decide +kernel
theorem dX11_can_42 : decode cX11_can 42 = .ok (.iload_n 1, 1) := by decide +kernel
theorem dX11_can_43 : decode cX11_can 43 = .ok (.iload_n 2, 1) := by decide +kernel
theorem dX11_can_44 : decode cX11_can 44 = .ok (.iload_n 3, 1) := by decide +kernel
theorem dX11_can_45 : decode cX11_can 45 = .ok (.invokevirtual 103, 3) := by decide +kernel
theorem dX11_can_48 : decode cX11_can 48 = .ok (.ireturn, 1) := by decide +kernel
def f_X11_can (M : q_Mem) (a0 : Nat) (a1 : Int32) (a2 : Int32) (a3 : Int32) : Option (Int32 × q_Mem) :=
  q_ob 10 M a0 ((q_gR 10 0 M a0).bind fun v1 =>
  (q_gR 4 0 M v1).bind fun v3 =>
  (f_X9_has M v3 a1).bind fun v6 =>
  (if v6 = 0 then
    some ((-2 : Int32), M)
  else
    (f_X11_isDay M a2).bind fun v8 =>
    (if v8 = 0 then
      some ((-2 : Int32), M)
    else
      (f_X11_within M a3 (1 : Int32) (1000 : Int32)).bind fun v10 =>
      (if v10 = 0 then
        some ((-2 : Int32), M)
      else
        (q_gR 10 0 M a0).bind fun v11 =>
        (q_gR 4 1 M v11).bind fun v13 =>
        (f_X9_come M v13 a1 a2 a3).bind fun r16 =>
        some (r16.1, r16.2)))))
set_option maxRecDepth 20000 in
theorem m_X11_can {M : q_Mem} {a0 : Nat} {a1 : Int32} {a2 : Int32} {a3 : Int32} {x : (Int32 × q_Mem)} (h : f_X11_can M a0 a1 a2 a3 = some x) : q_C Y_X11_can [.ref a0, .int a1, .int a2, .int a3] M (some (.int x.1)) x.2 := by
  refine q_met (φ := (fun x : Int32 × q_Mem => (some (.int x.1), x.2))) (r := f_X11_can M a0 a1 a2 a3) (by decide +kernel) (Nat.le_of_ble_eq_true rfl) ?_ h (fun _ _ => rfl)
  show q_V Y_X11_can none (fun x : Int32 × q_Mem => (some (.int x.1), x.2)) 0 0 0 [(0, .ref a0), (1, .int a1), (2, .int a2), (3, .int a3)] [] M (f_X11_can M a0 a1 a2 a3)
  unfold f_X11_can
  refine q_obV ?_
  refine q_aload_n 0 dX11_can_0 rfl ?_
  refine q_getR (f := 0) cl_X11 (by decide) qw_367 rfl dX11_can_1 (fun _ _ _ => rfl) (fun v1 h2 => ?_)
  refine q_getR (f := 0) cl_X5 (by decide) qw_72 rfl dX11_can_4 (fun _ _ _ => rfl) (fun v3 h4 => ?_)
  refine q_iload_n 1 dX11_can_7 rfl ?_
  refine q_cVI (Y2 := Y_X9_has) (As := [.int a1]) (b := v3) (st := []) cl_X9 mv_X9_has qw_420 dX11_can_8 ⟨Nat.le_of_ble_eq_true rfl, Nat.le_of_ble_eq_true rfl⟩ rfl (fun _ _ => rfl) (Nat.le_of_ble_eq_true rfl) ⟨Nat.le_of_ble_eq_true rfl, Nat.le_of_ble_eq_true rfl⟩ (fun v6 h5 => q_ob_is h5) (fun v6 h5 => m_X9_has h5) (fun v6 h5 => ?_)
  refine q_if_eq (tgt := 32) dX11_can_11 (by decide) (fun c19 => ?_) (fun c19 => ?_)
  · refine q_bipush (x := (-2 : Int32)) dX11_can_32 rfl ?_
    exact q_iret dX11_can_34 rfl rfl (Nat.le_of_ble_eq_true rfl) rfl
  · refine q_iload_n 2 dX11_can_14 rfl ?_
    refine q_cSI (Y2 := Y_X11_isDay) (As := [.int a2]) (st := []) ms_X11_isDay qw_428 dX11_can_15 ⟨Nat.le_of_ble_eq_true rfl, Nat.le_of_ble_eq_true rfl⟩ rfl (fun _ _ => rfl) (Nat.le_of_ble_eq_true rfl) ⟨Nat.le_of_ble_eq_true rfl, Nat.le_of_ble_eq_true rfl⟩ (fun v8 h7 => m_X11_isDay h7) (fun v8 h7 => ?_)
    refine q_if_eq (tgt := 32) dX11_can_18 (by decide) (fun c18 => ?_) (fun c18 => ?_)
    · refine q_bipush (x := (-2 : Int32)) dX11_can_32 rfl ?_
      exact q_iret dX11_can_34 rfl rfl (Nat.le_of_ble_eq_true rfl) rfl
    · refine q_iload_n 3 dX11_can_21 rfl ?_
      refine q_iconst (x := (1 : Int32)) dX11_can_22 rfl ?_
      refine q_sipush (x := (1000 : Int32)) dX11_can_23 rfl ?_
      refine q_cSI (Y2 := Y_X11_within) (As := [.int a3, .int (1 : Int32), .int (1000 : Int32)]) (st := []) ms_X11_within qw_408 dX11_can_26 ⟨Nat.le_of_ble_eq_true rfl, Nat.le_of_ble_eq_true rfl⟩ rfl (fun _ _ => rfl) (Nat.le_of_ble_eq_true rfl) ⟨Nat.le_of_ble_eq_true rfl, Nat.le_of_ble_eq_true rfl⟩ (fun v10 h9 => m_X11_within h9) (fun v10 h9 => ?_)
      refine q_if_ne (tgt := 35) dX11_can_29 (by decide) (fun c17 => ?_) (fun c17 => ?_)
      · refine q_bipush (x := (-2 : Int32)) dX11_can_32 rfl ?_
        exact q_iret dX11_can_34 rfl rfl (Nat.le_of_ble_eq_true rfl) rfl
      · refine q_aload_n 0 dX11_can_35 rfl ?_
        refine q_getR (f := 0) cl_X11 (by decide) qw_367 rfl dX11_can_36 (fun _ _ _ => rfl) (fun v11 h12 => ?_)
        refine q_getR (f := 1) cl_X5 (by decide) qw_80 rfl dX11_can_39 (fun _ _ _ => rfl) (fun v13 h14 => ?_)
        refine q_iload_n 1 dX11_can_42 rfl ?_
        refine q_iload_n 2 dX11_can_43 rfl ?_
        refine q_iload_n 3 dX11_can_44 rfl ?_
        refine q_cVMI (Y2 := Y_X9_come) (As := [.int a1, .int a2, .int a3]) (b := v13) (st := []) cl_X9 mv_X9_come qw_411 dX11_can_45 ⟨Nat.le_of_ble_eq_true rfl, Nat.le_of_ble_eq_true rfl⟩ rfl (fun _ _ => rfl) (Nat.le_of_ble_eq_true rfl) ⟨Nat.le_of_ble_eq_true rfl, Nat.le_of_ble_eq_true rfl⟩ (fun r16 h15 => q_ob_is h15) (fun r16 h15 => m_X9_come h15) (fun r16 h15 => ?_)
        exact q_iret dX11_can_48 rfl rfl (Nat.le_of_ble_eq_true rfl) rfl
theorem dX11_isHand_0 : decode cX11_isHand 0 = .ok (.iload_n 0, 1) := by decide +kernel
theorem dX11_isHand_1 : decode cX11_isHand 1 = .ok (.iconst 0, 1) := by decide +kernel
theorem dX11_isHand_2 : decode cX11_isHand 2 = .ok (.iconst 3, 1) := by decide +kernel
theorem dX11_isHand_3 : decode cX11_isHand 3 = .ok (.invokestatic 96, 3) := by decide +kernel
theorem dX11_isHand_6 : decode cX11_isHand 6 = .ok (.ireturn, 1) := by decide +kernel
def f_X11_isHand (M : q_Mem) (a0 : Int32) : Option Int32 :=
  (f_X11_within M a0 (0 : Int32) (3 : Int32)).bind fun v2 =>
  (if v2 = 0 ∨ v2 = 1 then some v2 else none)
set_option maxRecDepth 20000 in
theorem m_X11_isHand {M : q_Mem} {a0 : Int32} {x : Int32} (h : f_X11_isHand M a0 = some x) : q_C Y_X11_isHand [.int a0] M (some (.int x)) M := by
  refine q_met (φ := (fun x : Int32 => (some (.int x), M))) (r := f_X11_isHand M a0) (by decide +kernel) (Nat.le_of_ble_eq_true rfl) ?_ h (fun _ _ => rfl)
  show q_V Y_X11_isHand none (fun x : Int32 => (some (.int x), M)) 0 0 0 [(0, .int a0)] [] M (f_X11_isHand M a0)
  unfold f_X11_isHand
  refine q_iload_n 0 dX11_isHand_0 rfl ?_
  refine q_iconst (x := (0 : Int32)) dX11_isHand_1 rfl ?_
  refine q_iconst (x := (3 : Int32)) dX11_isHand_2 rfl ?_
  refine q_cSI (Y2 := Y_X11_within) (As := [.int a0, .int (0 : Int32), .int (3 : Int32)]) (st := []) ms_X11_within qw_408 dX11_isHand_3 ⟨Nat.le_of_ble_eq_true rfl, Nat.le_of_ble_eq_true rfl⟩ rfl (fun _ _ => rfl) (Nat.le_of_ble_eq_true rfl) ⟨Nat.le_of_ble_eq_true rfl, Nat.le_of_ble_eq_true rfl⟩ (fun v2 h1 => m_X11_within h1) (fun v2 h1 => ?_)
  exact q_zret dX11_isHand_6 rfl rfl (Nat.le_of_ble_eq_true rfl) rfl
theorem dX11_test_0 : decode cX11_test 0 = .ok (.aload_n 0, 1) := by decide +kernel
theorem dX11_test_1 : decode cX11_test 1 = .ok (.getfield 12, 3) := by decide +kernel
theorem dX11_test_4 : decode cX11_test 4 = .ok (.getfield 100, 3) := by decide +kernel
theorem dX11_test_7 : decode cX11_test 7 = .ok (.iload_n 1, 1) := by decide +kernel
theorem dX11_test_8 : decode cX11_test 8 = .ok (.invokevirtual 117, 3) := by decide +kernel
theorem dX11_test_11 : decode cX11_test 11 = .ok (.ifCond .eq 17, 3) := by decide +kernel
theorem dX11_test_14 : decode cX11_test 14 = .ok (.iload_n 2, 1) := by decide +kernel
theorem dX11_test_15 : decode cX11_test 15 = .ok (.invokestatic 121, 3) := by decide +kernel
theorem dX11_test_18 : decode cX11_test 18 = .ok (.ifCond .eq 10, 3) := by decide +kernel
theorem dX11_test_21 : decode cX11_test 21 = .ok (.iload_n 3, 1) := by decide +kernel
theorem dX11_test_22 : decode cX11_test 22 = .ok (.invokestatic 127, 3) := by decide +kernel
theorem dX11_test_25 : decode cX11_test 25 = .ok (.ifCond .ne 6, 3) := by decide +kernel
theorem dX11_test_28 : decode cX11_test 28 = .ok (.bipush (-2), 2) := by decide +kernel
theorem dX11_test_30 : decode cX11_test 30 = .ok (.ireturn, 1) := by decide +kernel
theorem dX11_test_31 : decode cX11_test 31 = .ok (.iload 4, 2) := by decide +kernel
theorem dX11_test_33 : decode cX11_test 33 = .ok (.bipush (-7), 2) := by decide +kernel
theorem dX11_test_35 : decode cX11_test 35 = .ok (.if_icmp .eq 18, 3) := by decide +kernel
theorem dX11_test_38 : decode cX11_test 38 = .ok (.iload 4, 2) := by decide +kernel
theorem dX11_test_40 : decode cX11_test 40 = .ok (.iconst 0, 1) := by decide +kernel
theorem dX11_test_41 : decode cX11_test 41 = .ok (.sipush 1000, 3) := by decide +kernel
theorem dX11_test_44 : decode cX11_test 44 = .ok (.invokestatic 96, 3) := by decide +kernel
theorem dX11_test_47 : decode cX11_test 47 = .ok (.ifCond .ne 6, 3) := by decide +kernel
theorem dX11_test_50 : decode cX11_test 50 = .ok (.bipush (-2), 2) := by decide +kernel
theorem dX11_test_52 : decode cX11_test 52 = .ok (.ireturn, 1) := by decide +kernel
theorem dX11_test_53 : decode cX11_test 53 = .ok (.iload 5, 2) := by decide +kernel
theorem dX11_test_55 : decode cX11_test 55 = .ok (.iload_n 2, 1) := by decide +kernel
theorem dX11_test_56 : decode cX11_test 56 = .ok (.sipush 195, 3) := by decide +kernel
theorem dX11_test_59 : decode cX11_test 59 = .ok (.invokestatic 96, 3) := by decide +kernel
theorem dX11_test_62 : decode cX11_test 62 = .ok (.ifCond .ne 6, 3) := by decide +kernel
theorem dX11_test_65 : decode cX11_test 65 = .ok (.bipush (-2), 2) := by decide +kernel
theorem dX11_test_67 : decode cX11_test 67 = .ok (.ireturn, 1) := by decide +kernel
theorem dX11_test_68 : decode cX11_test 68 = .ok (.aload_n 0, 1) := by decide +kernel
theorem dX11_test_69 : decode cX11_test 69 = .ok (.getfield 12, 3) := by decide +kernel
theorem dX11_test_72 : decode cX11_test 72 = .ok (.getfield 130, 3) := by decide +kernel
theorem dX11_test_75 : decode cX11_test 75 = .ok (.iload_n 1, 1) := by decide +kernel
theorem dX11_test_76 : decode cX11_test 76 = .ok (.iload_n 2, 1) := by decide +kernel
theorem dX11_test_77 : decode cX11_test 77 = .ok (.iload_n 3, 1) := by decide +kernel
theorem dX11_test_78 : decode cX11_test 78 = .ok (.invokevirtual 103, 3) := by decide +kernel
theorem dX11_test_81 : decode cX11_test 81 = .ok (.istore 6, 2) := by decide +kernel
theorem dX11_test_83 : decode cX11_test 83 = .ok (.aload_n 0, 1) := by decide +kernel
theorem dX11_test_84 : decode cX11_test 84 = .ok (.getfield 12, 3) := by decide +kernel
theorem dX11_test_87 : decode cX11_test 87 = .ok (.getfield 130, 3) := by decide +kernel
theorem dX11_test_90 : decode cX11_test 90 = .ok (.iload 6, 2) := by decide +kernel
theorem dX11_test_92 : decode cX11_test 92 = .ok (.iconst 3, 1) := by decide +kernel
theorem dX11_test_93 : decode cX11_test 93 = .ok (.iload 4, 2) := by decide +kernel
theorem dX11_test_95 : decode cX11_test 95 = .ok (.invokevirtual 113, 3) := by decide +kernel
theorem dX11_test_98 : decode cX11_test 98 = .ok (.aload_n 0, 1) := by decide +kernel
theorem dX11_test_99 : decode cX11_test 99 = .ok (.getfield 12, 3) := by decide +kernel
theorem dX11_test_102 : decode cX11_test 102 = .ok (.getfield 130, 3) := by decide +kernel
theorem dX11_test_105 : decode cX11_test 105 = .ok (.iload 6, 2) := by decide +kernel
theorem dX11_test_107 : decode cX11_test 107 = .ok (.iconst 4, 1) := by decide +kernel
theorem dX11_test_108 : decode cX11_test 108 = .ok (.iload 5, 2) := by decide +kernel
theorem dX11_test_110 : decode cX11_test 110 = .ok (.invokevirtual 113, 3) := by decide +kernel
theorem dX11_test_113 : decode cX11_test 113 = .ok (.iload 6, 2) := by decide +kernel
theorem dX11_test_115 : decode cX11_test 115 = .ok (.ireturn, 1) := by decide +kernel
def f_X11_test_b53 (M : q_Mem) (a0 : Nat) (a1 : Int32) (a2 : Int32) (a3 : Int32) (a4 : Int32) (a5 : Int32) : Option (Int32 × q_Mem) :=
  (f_X11_within M a5 a2 (195 : Int32)).bind fun v19 =>
  (if v19 = 0 then
    some ((-2 : Int32), M)
  else
    (q_gR 10 0 M a0).bind fun v20 =>
    (q_gR 4 2 M v20).bind fun v22 =>
    (f_X9_come M v22 a1 a2 a3).bind fun r25 =>
    (q_gR 10 0 r25.2 a0).bind fun v26 =>
    (q_gR 4 2 r25.2 v26).bind fun v28 =>
    (f_X9_put r25.2 v28 r25.1 (3 : Int32) a4).bind fun M32 =>
    (q_gR 10 0 M32 a0).bind fun v33 =>
    (q_gR 4 2 M32 v33).bind fun v35 =>
    (f_X9_put M32 v35 r25.1 (4 : Int32) a5).bind fun M39 =>
    some (r25.1, M39))
def f_X11_test (M : q_Mem) (a0 : Nat) (a1 : Int32) (a2 : Int32) (a3 : Int32) (a4 : Int32) (a5 : Int32) : Option (Int32 × q_Mem) :=
  q_ob 10 M a0 ((q_gR 10 0 M a0).bind fun v1 =>
  (q_gR 4 0 M v1).bind fun v3 =>
  (f_X9_has M v3 a1).bind fun v6 =>
  (if v6 = 0 then
    some ((-2 : Int32), M)
  else
    (f_X11_isDay M a2).bind fun v8 =>
    (if v8 = 0 then
      some ((-2 : Int32), M)
    else
      (f_X11_isHand M a3).bind fun v10 =>
      (if v10 = 0 then
        some ((-2 : Int32), M)
      else
        (if a4 = (-7 : Int32) then
          f_X11_test_b53 M a0 a1 a2 a3 a4 a5
        else
          (f_X11_within M a4 (0 : Int32) (1000 : Int32)).bind fun v12 =>
          (if v12 = 0 then
            some ((-2 : Int32), M)
          else
            f_X11_test_b53 M a0 a1 a2 a3 a4 a5))))))
set_option maxRecDepth 20000 in
theorem v_X11_test_b53 {M : q_Mem} {a0 : Nat} {a1 : Int32} {a2 : Int32} {a3 : Int32} {a4 : Int32} {a5 : Int32}  : q_V Y_X11_test none (fun x : Int32 × q_Mem => (some (.int x.1), x.2)) 0 0 53 [(0, .ref a0), (1, .int a1), (2, .int a2), (3, .int a3), (4, .int a4), (5, .int a5)] [] M (f_X11_test_b53 M a0 a1 a2 a3 a4 a5 ) := by
  unfold f_X11_test_b53
  refine q_iload 5 dX11_test_53 rfl ?_
  refine q_iload_n 2 dX11_test_55 rfl ?_
  refine q_sipush (x := (195 : Int32)) dX11_test_56 rfl ?_
  refine q_cSI (Y2 := Y_X11_within) (As := [.int a5, .int a2, .int (195 : Int32)]) (st := []) ms_X11_within qw_408 dX11_test_59 ⟨Nat.le_of_ble_eq_true rfl, Nat.le_of_ble_eq_true rfl⟩ rfl (fun _ _ => rfl) (Nat.le_of_ble_eq_true rfl) ⟨Nat.le_of_ble_eq_true rfl, Nat.le_of_ble_eq_true rfl⟩ (fun v19 h18 => m_X11_within h18) (fun v19 h18 => ?_)
  refine q_if_ne (tgt := 68) dX11_test_62 (by decide) (fun c40 => ?_) (fun c40 => ?_)
  · refine q_bipush (x := (-2 : Int32)) dX11_test_65 rfl ?_
    exact q_iret dX11_test_67 rfl rfl (Nat.le_of_ble_eq_true rfl) rfl
  · refine q_aload_n 0 dX11_test_68 rfl ?_
    refine q_getR (f := 0) cl_X11 (by decide) qw_367 rfl dX11_test_69 (fun _ _ _ => rfl) (fun v20 h21 => ?_)
    refine q_getR (f := 2) cl_X5 (by decide) qw_85 rfl dX11_test_72 (fun _ _ _ => rfl) (fun v22 h23 => ?_)
    refine q_iload_n 1 dX11_test_75 rfl ?_
    refine q_iload_n 2 dX11_test_76 rfl ?_
    refine q_iload_n 3 dX11_test_77 rfl ?_
    refine q_cVMI (Y2 := Y_X9_come) (As := [.int a1, .int a2, .int a3]) (b := v22) (st := []) cl_X9 mv_X9_come qw_411 dX11_test_78 ⟨Nat.le_of_ble_eq_true rfl, Nat.le_of_ble_eq_true rfl⟩ rfl (fun _ _ => rfl) (Nat.le_of_ble_eq_true rfl) ⟨Nat.le_of_ble_eq_true rfl, Nat.le_of_ble_eq_true rfl⟩ (fun r25 h24 => q_ob_is h24) (fun r25 h24 => m_X9_come h24) (fun r25 h24 => ?_)
    refine q_istore (ls' := [(6, .int r25.1), (0, .ref a0), (1, .int a1), (2, .int a2), (3, .int a3), (4, .int a4), (5, .int a5)]) dX11_test_81 (by decide) rfl ?_
    refine q_aload_n 1 dX11_test_83 rfl ?_
    refine q_getR (f := 0) cl_X11 (by decide) qw_367 rfl dX11_test_84 (fun _ _ _ => rfl) (fun v26 h27 => ?_)
    refine q_getR (f := 2) cl_X5 (by decide) qw_85 rfl dX11_test_87 (fun _ _ _ => rfl) (fun v28 h29 => ?_)
    refine q_iload 0 dX11_test_90 rfl ?_
    refine q_iconst (x := (3 : Int32)) dX11_test_92 rfl ?_
    refine q_iload 5 dX11_test_93 rfl ?_
    refine q_cVM (Y2 := Y_X9_put) (As := [.int r25.1, .int (3 : Int32), .int a4]) (b := v28) (st := []) cl_X9 mv_X9_put qw_415 dX11_test_95 ⟨Nat.le_of_ble_eq_true rfl, Nat.le_of_ble_eq_true rfl⟩ rfl (fun _ _ => rfl) (Nat.le_of_ble_eq_true rfl) ⟨Nat.le_of_ble_eq_true rfl, Nat.le_of_ble_eq_true rfl⟩ (fun M32 h30 => q_ob_is h30) (fun M32 h30 => m_X9_put h30) (fun M32 h30 => ?_)
    refine q_aload_n 1 dX11_test_98 rfl ?_
    refine q_getR (f := 0) cl_X11 (by decide) qw_367 rfl dX11_test_99 (fun _ _ _ => rfl) (fun v33 h34 => ?_)
    refine q_getR (f := 2) cl_X5 (by decide) qw_85 rfl dX11_test_102 (fun _ _ _ => rfl) (fun v35 h36 => ?_)
    refine q_iload 0 dX11_test_105 rfl ?_
    refine q_iconst (x := (4 : Int32)) dX11_test_107 rfl ?_
    refine q_iload 6 dX11_test_108 rfl ?_
    refine q_cVM (Y2 := Y_X9_put) (As := [.int r25.1, .int (4 : Int32), .int a5]) (b := v35) (st := []) cl_X9 mv_X9_put qw_415 dX11_test_110 ⟨Nat.le_of_ble_eq_true rfl, Nat.le_of_ble_eq_true rfl⟩ rfl (fun _ _ => rfl) (Nat.le_of_ble_eq_true rfl) ⟨Nat.le_of_ble_eq_true rfl, Nat.le_of_ble_eq_true rfl⟩ (fun M39 h37 => q_ob_is h37) (fun M39 h37 => m_X9_put h37) (fun M39 h37 => ?_)
    refine q_iload 0 dX11_test_113 rfl ?_
    exact q_iret dX11_test_115 rfl rfl (Nat.le_of_ble_eq_true rfl) rfl
set_option maxRecDepth 20000 in
theorem m_X11_test {M : q_Mem} {a0 : Nat} {a1 : Int32} {a2 : Int32} {a3 : Int32} {a4 : Int32} {a5 : Int32} {x : (Int32 × q_Mem)} (h : f_X11_test M a0 a1 a2 a3 a4 a5 = some x) : q_C Y_X11_test [.ref a0, .int a1, .int a2, .int a3, .int a4, .int a5] M (some (.int x.1)) x.2 := by
  refine q_met (φ := (fun x : Int32 × q_Mem => (some (.int x.1), x.2))) (r := f_X11_test M a0 a1 a2 a3 a4 a5) (by decide +kernel) (Nat.le_of_ble_eq_true rfl) ?_ h (fun _ _ => rfl)
  show q_V Y_X11_test none (fun x : Int32 × q_Mem => (some (.int x.1), x.2)) 0 0 0 [(0, .ref a0), (1, .int a1), (2, .int a2), (3, .int a3), (4, .int a4), (5, .int a5)] [] M (f_X11_test M a0 a1 a2 a3 a4 a5)
  unfold f_X11_test
  refine q_obV ?_
  refine q_aload_n 0 dX11_test_0 rfl ?_
  refine q_getR (f := 0) cl_X11 (by decide) qw_367 rfl dX11_test_1 (fun _ _ _ => rfl) (fun v1 h2 => ?_)
  refine q_getR (f := 0) cl_X5 (by decide) qw_72 rfl dX11_test_4 (fun _ _ _ => rfl) (fun v3 h4 => ?_)
  refine q_iload_n 1 dX11_test_7 rfl ?_
  refine q_cVI (Y2 := Y_X9_has) (As := [.int a1]) (b := v3) (st := []) cl_X9 mv_X9_has qw_420 dX11_test_8 ⟨Nat.le_of_ble_eq_true rfl, Nat.le_of_ble_eq_true rfl⟩ rfl (fun _ _ => rfl) (Nat.le_of_ble_eq_true rfl) ⟨Nat.le_of_ble_eq_true rfl, Nat.le_of_ble_eq_true rfl⟩ (fun v6 h5 => q_ob_is h5) (fun v6 h5 => m_X9_has h5) (fun v6 h5 => ?_)
  refine q_if_eq (tgt := 28) dX11_test_11 (by decide) (fun c17 => ?_) (fun c17 => ?_)
  · refine q_bipush (x := (-2 : Int32)) dX11_test_28 rfl ?_
    exact q_iret dX11_test_30 rfl rfl (Nat.le_of_ble_eq_true rfl) rfl
  · refine q_iload_n 2 dX11_test_14 rfl ?_
    refine q_cSI (Y2 := Y_X11_isDay) (As := [.int a2]) (st := []) ms_X11_isDay qw_428 dX11_test_15 ⟨Nat.le_of_ble_eq_true rfl, Nat.le_of_ble_eq_true rfl⟩ rfl (fun _ _ => rfl) (Nat.le_of_ble_eq_true rfl) ⟨Nat.le_of_ble_eq_true rfl, Nat.le_of_ble_eq_true rfl⟩ (fun v8 h7 => m_X11_isDay h7) (fun v8 h7 => ?_)
    refine q_if_eq (tgt := 28) dX11_test_18 (by decide) (fun c16 => ?_) (fun c16 => ?_)
    · refine q_bipush (x := (-2 : Int32)) dX11_test_28 rfl ?_
      exact q_iret dX11_test_30 rfl rfl (Nat.le_of_ble_eq_true rfl) rfl
    · refine q_iload_n 3 dX11_test_21 rfl ?_
      refine q_cSI (Y2 := Y_X11_isHand) (As := [.int a3]) (st := []) ms_X11_isHand qw_435 dX11_test_22 ⟨Nat.le_of_ble_eq_true rfl, Nat.le_of_ble_eq_true rfl⟩ rfl (fun _ _ => rfl) (Nat.le_of_ble_eq_true rfl) ⟨Nat.le_of_ble_eq_true rfl, Nat.le_of_ble_eq_true rfl⟩ (fun v10 h9 => m_X11_isHand h9) (fun v10 h9 => ?_)
      refine q_if_ne (tgt := 31) dX11_test_25 (by decide) (fun c15 => ?_) (fun c15 => ?_)
      · refine q_bipush (x := (-2 : Int32)) dX11_test_28 rfl ?_
        exact q_iret dX11_test_30 rfl rfl (Nat.le_of_ble_eq_true rfl) rfl
      · refine q_iload 4 dX11_test_31 rfl ?_
        refine q_bipush (x := (-7 : Int32)) dX11_test_33 rfl ?_
        refine q_icmp_eq (tgt := 53) dX11_test_35 (by decide) (fun c14 => ?_) (fun c14 => ?_)
        · exact v_X11_test_b53
        · refine q_iload 4 dX11_test_38 rfl ?_
          refine q_iconst (x := (0 : Int32)) dX11_test_40 rfl ?_
          refine q_sipush (x := (1000 : Int32)) dX11_test_41 rfl ?_
          refine q_cSI (Y2 := Y_X11_within) (As := [.int a4, .int (0 : Int32), .int (1000 : Int32)]) (st := []) ms_X11_within qw_408 dX11_test_44 ⟨Nat.le_of_ble_eq_true rfl, Nat.le_of_ble_eq_true rfl⟩ rfl (fun _ _ => rfl) (Nat.le_of_ble_eq_true rfl) ⟨Nat.le_of_ble_eq_true rfl, Nat.le_of_ble_eq_true rfl⟩ (fun v12 h11 => m_X11_within h11) (fun v12 h11 => ?_)
          refine q_if_ne (tgt := 53) dX11_test_47 (by decide) (fun c13 => ?_) (fun c13 => ?_)
          · refine q_bipush (x := (-2 : Int32)) dX11_test_50 rfl ?_
            exact q_iret dX11_test_52 rfl rfl (Nat.le_of_ble_eq_true rfl) rfl
          · exact v_X11_test_b53
theorem dX11_right_0 : decode cX11_right 0 = .ok (.aload_n 0, 1) := by decide +kernel
theorem dX11_right_1 : decode cX11_right 1 = .ok (.getfield 12, 3) := by decide +kernel
theorem dX11_right_4 : decode cX11_right 4 = .ok (.getfield 130, 3) := by decide +kernel
theorem dX11_right_7 : decode cX11_right 7 = .ok (.astore 4, 2) := by decide +kernel
theorem dX11_right_9 : decode cX11_right 9 = .ok (.aload 4, 2) := by decide +kernel
theorem dX11_right_11 : decode cX11_right 11 = .ok (.iload_n 1, 1) := by decide +kernel
theorem dX11_right_12 : decode cX11_right 12 = .ok (.invokevirtual 117, 3) := by decide +kernel
theorem dX11_right_15 : decode cX11_right 15 = .ok (.ifCond .eq 14, 3) := by decide +kernel
theorem dX11_right_18 : decode cX11_right 18 = .ok (.iload_n 2, 1) := by decide +kernel
theorem dX11_right_19 : decode cX11_right 19 = .ok (.iconst 0, 1) := by decide +kernel
theorem dX11_right_20 : decode cX11_right 20 = .ok (.sipush 1000, 3) := by decide +kernel
theorem dX11_right_23 : decode cX11_right 23 = .ok (.invokestatic 96, 3) := by decide +kernel
theorem dX11_right_26 : decode cX11_right 26 = .ok (.ifCond .ne 6, 3) := by decide +kernel
theorem dX11_right_29 : decode cX11_right 29 = .ok (.bipush (-2), 2) := by decide +kernel
theorem dX11_right_31 : decode cX11_right 31 = .ok (.ireturn, 1) := by decide +kernel
theorem dX11_right_32 : decode cX11_right 32 = .ok (.iload_n 3, 1) := by decide +kernel
theorem dX11_right_33 : decode cX11_right 33 = .ok (.aload 4, 2) := by decide +kernel
theorem dX11_right_35 : decode cX11_right 35 = .ok (.iload_n 1, 1) := by decide +kernel
theorem dX11_right_36 : decode cX11_right 36 = .ok (.iconst 4, 1) := by decide +kernel
theorem dX11_right_37 : decode cX11_right 37 = .ok (.invokevirtual 133, 3) := by decide +kernel
theorem dX11_right_40 : decode cX11_right 40 = .ok (.sipush 195, 3) := by decide +kernel
theorem dX11_right_43 : decode cX11_right 43 = .ok (.invokestatic 96, 3) := by decide +kernel
theorem dX11_right_46 : decode cX11_right 46 = .ok (.ifCond .ne 6, 3) := by decide +kernel
theorem dX11_right_49 : decode cX11_right 49 = .ok (.bipush (-2), 2) := by decide +kernel
theorem dX11_right_51 : decode cX11_right 51 = .ok (.ireturn, 1) := by decide +kernel
theorem dX11_right_52 : decode cX11_right 52 = .ok (.aload 4, 2) := by decide +kernel
theorem dX11_right_54 : decode cX11_right 54 = .ok (.iload_n 1, 1) := by decide +kernel
theorem dX11_right_55 : decode cX11_right 55 = .ok (.bipush 6, 2) := by decide +kernel
theorem dX11_right_57 : decode cX11_right 57 = .ok (.invokevirtual 133, 3) := by decide +kernel
theorem dX11_right_60 : decode cX11_right 60 = .ok (.iconst (-1), 1) := by decide +kernel
theorem dX11_right_61 : decode cX11_right 61 = .ok (.if_icmp .eq 6, 3) := by decide +kernel
theorem dX11_right_64 : decode cX11_right 64 = .ok (.bipush (-3), 2) := by decide +kernel
theorem dX11_right_66 : decode cX11_right 66 = .ok (.ireturn, 1) := by decide +kernel
theorem dX11_right_67 : decode cX11_right 67 = .ok (.aload 4, 2) := by decide +kernel
theorem dX11_right_69 : decode cX11_right 69 = .ok (.iload_n 1, 1) := by decide +kernel
theorem dX11_right_70 : decode cX11_right 70 = .ok (.iconst 5, 1) := by decide +kernel
theorem dX11_right_71 : decode cX11_right 71 = .ok (.iload_n 2, 1) := by decide +kernel
theorem dX11_right_72 : decode cX11_right 72 = .ok (.invokevirtual 113, 3) := by decide +kernel
theorem dX11_right_75 : decode cX11_right 75 = .ok (.aload 4, 2) := by decide +kernel
theorem dX11_right_77 : decode cX11_right 77 = .ok (.iload_n 1, 1) := by decide +kernel
theorem dX11_right_78 : decode cX11_right 78 = .ok (.bipush 6, 2) := by decide +kernel
theorem dX11_right_80 : decode cX11_right 80 = .ok (.iload_n 3, 1) := by decide +kernel
theorem dX11_right_81 : decode cX11_right 81 = .ok (.invokevirtual 113, 3) := by decide +kernel
theorem dX11_right_84 : decode cX11_right 84 = .ok (.iconst 1, 1) := by decide +kernel
theorem dX11_right_85 : decode cX11_right 85 = .ok (.ireturn, 1) := by decide +kernel
def f_X11_right (M : q_Mem) (a0 : Nat) (a1 : Int32) (a2 : Int32) (a3 : Int32) : Option (Int32 × q_Mem) :=
  q_ob 10 M a0 ((q_gR 10 0 M a0).bind fun v1 =>
  (q_gR 4 2 M v1).bind fun v3 =>
  (f_X9_has M v3 a1).bind fun v6 =>
  (if v6 = 0 then
    some ((-2 : Int32), M)
  else
    (f_X11_within M a2 (0 : Int32) (1000 : Int32)).bind fun v8 =>
    (if v8 = 0 then
      some ((-2 : Int32), M)
    else
      (f_X9_at M v3 a1 (4 : Int32)).bind fun v10 =>
      (f_X11_within M a3 v10 (195 : Int32)).bind fun v12 =>
      (if v12 = 0 then
        some ((-2 : Int32), M)
      else
        (f_X9_at M v3 a1 (6 : Int32)).bind fun v14 =>
        (if v14 = (-1 : Int32) then
          (f_X9_put M v3 a1 (5 : Int32) a2).bind fun M17 =>
          (f_X9_put M17 v3 a1 (6 : Int32) a3).bind fun M20 =>
          some ((1 : Int32), M20)
        else
          some ((-3 : Int32), M))))))
set_option maxRecDepth 20000 in
theorem m_X11_right {M : q_Mem} {a0 : Nat} {a1 : Int32} {a2 : Int32} {a3 : Int32} {x : (Int32 × q_Mem)} (h : f_X11_right M a0 a1 a2 a3 = some x) : q_C Y_X11_right [.ref a0, .int a1, .int a2, .int a3] M (some (.int x.1)) x.2 := by
  refine q_met (φ := (fun x : Int32 × q_Mem => (some (.int x.1), x.2))) (r := f_X11_right M a0 a1 a2 a3) (by decide +kernel) (Nat.le_of_ble_eq_true rfl) ?_ h (fun _ _ => rfl)
  show q_V Y_X11_right none (fun x : Int32 × q_Mem => (some (.int x.1), x.2)) 0 0 0 [(0, .ref a0), (1, .int a1), (2, .int a2), (3, .int a3)] [] M (f_X11_right M a0 a1 a2 a3)
  unfold f_X11_right
  refine q_obV ?_
  refine q_aload_n 0 dX11_right_0 rfl ?_
  refine q_getR (f := 0) cl_X11 (by decide) qw_367 rfl dX11_right_1 (fun _ _ _ => rfl) (fun v1 h2 => ?_)
  refine q_getR (f := 2) cl_X5 (by decide) qw_85 rfl dX11_right_4 (fun _ _ _ => rfl) (fun v3 h4 => ?_)
  refine q_astore (ls' := [(4, .ref v3), (0, .ref a0), (1, .int a1), (2, .int a2), (3, .int a3)]) dX11_right_7 (by decide) rfl ?_
  refine q_aload 0 dX11_right_9 rfl ?_
  refine q_iload_n 2 dX11_right_11 rfl ?_
  refine q_cVI (Y2 := Y_X9_has) (As := [.int a1]) (b := v3) (st := []) cl_X9 mv_X9_has qw_420 dX11_right_12 ⟨Nat.le_of_ble_eq_true rfl, Nat.le_of_ble_eq_true rfl⟩ rfl (fun _ _ => rfl) (Nat.le_of_ble_eq_true rfl) ⟨Nat.le_of_ble_eq_true rfl, Nat.le_of_ble_eq_true rfl⟩ (fun v6 h5 => q_ob_is h5) (fun v6 h5 => m_X9_has h5) (fun v6 h5 => ?_)
  refine q_if_eq (tgt := 29) dX11_right_15 (by decide) (fun c24 => ?_) (fun c24 => ?_)
  · refine q_bipush (x := (-2 : Int32)) dX11_right_29 rfl ?_
    exact q_iret dX11_right_31 rfl rfl (Nat.le_of_ble_eq_true rfl) rfl
  · refine q_iload_n 3 dX11_right_18 rfl ?_
    refine q_iconst (x := (0 : Int32)) dX11_right_19 rfl ?_
    refine q_sipush (x := (1000 : Int32)) dX11_right_20 rfl ?_
    refine q_cSI (Y2 := Y_X11_within) (As := [.int a2, .int (0 : Int32), .int (1000 : Int32)]) (st := []) ms_X11_within qw_408 dX11_right_23 ⟨Nat.le_of_ble_eq_true rfl, Nat.le_of_ble_eq_true rfl⟩ rfl (fun _ _ => rfl) (Nat.le_of_ble_eq_true rfl) ⟨Nat.le_of_ble_eq_true rfl, Nat.le_of_ble_eq_true rfl⟩ (fun v8 h7 => m_X11_within h7) (fun v8 h7 => ?_)
    refine q_if_ne (tgt := 32) dX11_right_26 (by decide) (fun c23 => ?_) (fun c23 => ?_)
    · refine q_bipush (x := (-2 : Int32)) dX11_right_29 rfl ?_
      exact q_iret dX11_right_31 rfl rfl (Nat.le_of_ble_eq_true rfl) rfl
    · refine q_iload_n 4 dX11_right_32 rfl ?_
      refine q_aload 0 dX11_right_33 rfl ?_
      refine q_iload_n 2 dX11_right_35 rfl ?_
      refine q_iconst (x := (4 : Int32)) dX11_right_36 rfl ?_
      refine q_cVI (Y2 := Y_X9_at) (As := [.int a1, .int (4 : Int32)]) (b := v3) (st := [.int a3]) cl_X9 mv_X9_at qw_442 dX11_right_37 ⟨Nat.le_of_ble_eq_true rfl, Nat.le_of_ble_eq_true rfl⟩ rfl (fun _ _ => rfl) (Nat.le_of_ble_eq_true rfl) ⟨Nat.le_of_ble_eq_true rfl, Nat.le_of_ble_eq_true rfl⟩ (fun v10 h9 => q_ob_is h9) (fun v10 h9 => m_X9_at h9) (fun v10 h9 => ?_)
      refine q_sipush (x := (195 : Int32)) dX11_right_40 rfl ?_
      refine q_cSI (Y2 := Y_X11_within) (As := [.int a3, .int v10, .int (195 : Int32)]) (st := []) ms_X11_within qw_408 dX11_right_43 ⟨Nat.le_of_ble_eq_true rfl, Nat.le_of_ble_eq_true rfl⟩ rfl (fun _ _ => rfl) (Nat.le_of_ble_eq_true rfl) ⟨Nat.le_of_ble_eq_true rfl, Nat.le_of_ble_eq_true rfl⟩ (fun v12 h11 => m_X11_within h11) (fun v12 h11 => ?_)
      refine q_if_ne (tgt := 52) dX11_right_46 (by decide) (fun c22 => ?_) (fun c22 => ?_)
      · refine q_bipush (x := (-2 : Int32)) dX11_right_49 rfl ?_
        exact q_iret dX11_right_51 rfl rfl (Nat.le_of_ble_eq_true rfl) rfl
      · refine q_aload 0 dX11_right_52 rfl ?_
        refine q_iload_n 2 dX11_right_54 rfl ?_
        refine q_bipush (x := (6 : Int32)) dX11_right_55 rfl ?_
        refine q_cVI (Y2 := Y_X9_at) (As := [.int a1, .int (6 : Int32)]) (b := v3) (st := []) cl_X9 mv_X9_at qw_442 dX11_right_57 ⟨Nat.le_of_ble_eq_true rfl, Nat.le_of_ble_eq_true rfl⟩ rfl (fun _ _ => rfl) (Nat.le_of_ble_eq_true rfl) ⟨Nat.le_of_ble_eq_true rfl, Nat.le_of_ble_eq_true rfl⟩ (fun v14 h13 => q_ob_is h13) (fun v14 h13 => m_X9_at h13) (fun v14 h13 => ?_)
        refine q_iconst (x := (-1 : Int32)) dX11_right_60 rfl ?_
        refine q_icmp_eq (tgt := 67) dX11_right_61 (by decide) (fun c21 => ?_) (fun c21 => ?_)
        · refine q_aload 0 dX11_right_67 rfl ?_
          refine q_iload_n 2 dX11_right_69 rfl ?_
          refine q_iconst (x := (5 : Int32)) dX11_right_70 rfl ?_
          refine q_iload_n 3 dX11_right_71 rfl ?_
          refine q_cVM (Y2 := Y_X9_put) (As := [.int a1, .int (5 : Int32), .int a2]) (b := v3) (st := []) cl_X9 mv_X9_put qw_415 dX11_right_72 ⟨Nat.le_of_ble_eq_true rfl, Nat.le_of_ble_eq_true rfl⟩ rfl (fun _ _ => rfl) (Nat.le_of_ble_eq_true rfl) ⟨Nat.le_of_ble_eq_true rfl, Nat.le_of_ble_eq_true rfl⟩ (fun M17 h15 => q_ob_is h15) (fun M17 h15 => m_X9_put h15) (fun M17 h15 => ?_)
          refine q_aload 0 dX11_right_75 rfl ?_
          refine q_iload_n 2 dX11_right_77 rfl ?_
          refine q_bipush (x := (6 : Int32)) dX11_right_78 rfl ?_
          refine q_iload_n 4 dX11_right_80 rfl ?_
          refine q_cVM (Y2 := Y_X9_put) (As := [.int a1, .int (6 : Int32), .int a3]) (b := v3) (st := []) cl_X9 mv_X9_put qw_415 dX11_right_81 ⟨Nat.le_of_ble_eq_true rfl, Nat.le_of_ble_eq_true rfl⟩ rfl (fun _ _ => rfl) (Nat.le_of_ble_eq_true rfl) ⟨Nat.le_of_ble_eq_true rfl, Nat.le_of_ble_eq_true rfl⟩ (fun M20 h18 => q_ob_is h18) (fun M20 h18 => m_X9_put h18) (fun M20 h18 => ?_)
          refine q_iconst (x := (1 : Int32)) dX11_right_84 rfl ?_
          exact q_iret dX11_right_85 rfl rfl (Nat.le_of_ble_eq_true rfl) rfl
        · refine q_bipush (x := (-3 : Int32)) dX11_right_64 rfl ?_
          exact q_iret dX11_right_66 rfl rfl (Nat.le_of_ble_eq_true rfl) rfl
theorem dX11_bias_0 : decode cX11_bias 0 = .ok (.iload_n 1, 1) := by decide +kernel
theorem dX11_bias_1 : decode cX11_bias 1 = .ok (.invokestatic 127, 3) := by decide +kernel
theorem dX11_bias_4 : decode cX11_bias 4 = .ok (.ifCond .eq 14, 3) := by decide +kernel
theorem dX11_bias_7 : decode cX11_bias 7 = .ok (.iload_n 2, 1) := by decide +kernel
theorem dX11_bias_8 : decode cX11_bias 8 = .ok (.bipush (-50), 2) := by decide +kernel
theorem dX11_bias_10 : decode cX11_bias 10 = .ok (.bipush 50, 2) := by decide +kernel
theorem dX11_bias_12 : decode cX11_bias 12 = .ok (.invokestatic 96, 3) := by decide +kernel
theorem dX11_bias_15 : decode cX11_bias 15 = .ok (.ifCond .ne 7, 3) := by decide +kernel
theorem dX11_bias_18 : decode cX11_bias 18 = .ok (.sipush (-1000), 3) := by decide +kernel
theorem dX11_bias_21 : decode cX11_bias 21 = .ok (.ireturn, 1) := by decide +kernel
theorem dX11_bias_22 : decode cX11_bias 22 = .ok (.aload_n 0, 1) := by decide +kernel
theorem dX11_bias_23 : decode cX11_bias 23 = .ok (.getfield 12, 3) := by decide +kernel
theorem dX11_bias_26 : decode cX11_bias 26 = .ok (.getfield 137, 3) := by decide +kernel
theorem dX11_bias_29 : decode cX11_bias 29 = .ok (.iload_n 1, 1) := by decide +kernel
theorem dX11_bias_30 : decode cX11_bias 30 = .ok (.iaload, 1) := by decide +kernel
theorem dX11_bias_31 : decode cX11_bias 31 = .ok (.istore_n 3, 1) := by decide +kernel
theorem dX11_bias_32 : decode cX11_bias 32 = .ok (.aload_n 0, 1) := by decide +kernel
theorem dX11_bias_33 : decode cX11_bias 33 = .ok (.getfield 12, 3) := by decide +kernel
theorem dX11_bias_36 : decode cX11_bias 36 = .ok (.getfield 137, 3) := by decide +kernel
theorem dX11_bias_39 : decode cX11_bias 39 = .ok (.iload_n 1, 1) := by decide +kernel
theorem dX11_bias_40 : decode cX11_bias 40 = .ok (.iload_n 2, 1) := by decide +kernel
theorem dX11_bias_41 : decode cX11_bias 41 = .ok (.iastore, 1) := by decide +kernel
theorem dX11_bias_42 : decode cX11_bias 42 = .ok (.iload_n 3, 1) := by decide +kernel
theorem dX11_bias_43 : decode cX11_bias 43 = .ok (.ireturn, 1) := by decide +kernel
def f_X11_bias (M : q_Mem) (a0 : Nat) (a1 : Int32) (a2 : Int32) : Option (Int32 × q_Mem) :=
  q_ob 10 M a0 ((f_X11_isHand M a1).bind fun v2 =>
  (if v2 = 0 then
    some ((-1000 : Int32), M)
  else
    (f_X11_within M a2 (-50 : Int32) (50 : Int32)).bind fun v4 =>
    (if v4 = 0 then
      some ((-1000 : Int32), M)
    else
      (q_gR 10 0 M a0).bind fun v5 =>
      (q_gR 4 11 M v5).bind fun v7 =>
      (q_lI M v7 a1).bind fun v9 =>
      (q_gR 10 0 M a0).bind fun v11 =>
      (q_gR 4 11 M v11).bind fun v13 =>
      (q_tI M v13 a1 a2).bind fun M15 =>
      some (v9, M15))))
set_option maxRecDepth 20000 in
theorem m_X11_bias {M : q_Mem} {a0 : Nat} {a1 : Int32} {a2 : Int32} {x : (Int32 × q_Mem)} (h : f_X11_bias M a0 a1 a2 = some x) : q_C Y_X11_bias [.ref a0, .int a1, .int a2] M (some (.int x.1)) x.2 := by
  refine q_met (φ := (fun x : Int32 × q_Mem => (some (.int x.1), x.2))) (r := f_X11_bias M a0 a1 a2) (by decide +kernel) (Nat.le_of_ble_eq_true rfl) ?_ h (fun _ _ => rfl)
  show q_V Y_X11_bias none (fun x : Int32 × q_Mem => (some (.int x.1), x.2)) 0 0 0 [(0, .ref a0), (1, .int a1), (2, .int a2)] [] M (f_X11_bias M a0 a1 a2)
  unfold f_X11_bias
  refine q_obV ?_
  refine q_iload_n 1 dX11_bias_0 rfl ?_
  refine q_cSI (Y2 := Y_X11_isHand) (As := [.int a1]) (st := []) ms_X11_isHand qw_435 dX11_bias_1 ⟨Nat.le_of_ble_eq_true rfl, Nat.le_of_ble_eq_true rfl⟩ rfl (fun _ _ => rfl) (Nat.le_of_ble_eq_true rfl) ⟨Nat.le_of_ble_eq_true rfl, Nat.le_of_ble_eq_true rfl⟩ (fun v2 h1 => m_X11_isHand h1) (fun v2 h1 => ?_)
  refine q_if_eq (tgt := 18) dX11_bias_4 (by decide) (fun c18 => ?_) (fun c18 => ?_)
  · refine q_sipush (x := (-1000 : Int32)) dX11_bias_18 rfl ?_
    exact q_iret dX11_bias_21 rfl rfl (Nat.le_of_ble_eq_true rfl) rfl
  · refine q_iload_n 2 dX11_bias_7 rfl ?_
    refine q_bipush (x := (-50 : Int32)) dX11_bias_8 rfl ?_
    refine q_bipush (x := (50 : Int32)) dX11_bias_10 rfl ?_
    refine q_cSI (Y2 := Y_X11_within) (As := [.int a2, .int (-50 : Int32), .int (50 : Int32)]) (st := []) ms_X11_within qw_408 dX11_bias_12 ⟨Nat.le_of_ble_eq_true rfl, Nat.le_of_ble_eq_true rfl⟩ rfl (fun _ _ => rfl) (Nat.le_of_ble_eq_true rfl) ⟨Nat.le_of_ble_eq_true rfl, Nat.le_of_ble_eq_true rfl⟩ (fun v4 h3 => m_X11_within h3) (fun v4 h3 => ?_)
    refine q_if_ne (tgt := 22) dX11_bias_15 (by decide) (fun c17 => ?_) (fun c17 => ?_)
    · refine q_sipush (x := (-1000 : Int32)) dX11_bias_18 rfl ?_
      exact q_iret dX11_bias_21 rfl rfl (Nat.le_of_ble_eq_true rfl) rfl
    · refine q_aload_n 0 dX11_bias_22 rfl ?_
      refine q_getR (f := 0) cl_X11 (by decide) qw_367 rfl dX11_bias_23 (fun _ _ _ => rfl) (fun v5 h6 => ?_)
      refine q_getR (f := 11) cl_X5 (by decide) qw_111 rfl dX11_bias_26 (fun _ _ _ => rfl) (fun v7 h8 => ?_)
      refine q_iload_n 1 dX11_bias_29 rfl ?_
      refine q_iald dX11_bias_30 (fun v9 h10 => ?_)
      refine q_istore_n (ls' := [(3, .int v9), (0, .ref a0), (1, .int a1), (2, .int a2)]) dX11_bias_31 (by decide) rfl ?_
      refine q_aload_n 1 dX11_bias_32 rfl ?_
      refine q_getR (f := 0) cl_X11 (by decide) qw_367 rfl dX11_bias_33 (fun _ _ _ => rfl) (fun v11 h12 => ?_)
      refine q_getR (f := 11) cl_X5 (by decide) qw_111 rfl dX11_bias_36 (fun _ _ _ => rfl) (fun v13 h14 => ?_)
      refine q_iload_n 2 dX11_bias_39 rfl ?_
      refine q_iload_n 3 dX11_bias_40 rfl ?_
      refine q_iast dX11_bias_41 (fun M15 h16 => ?_)
      refine q_iload_n 0 dX11_bias_42 rfl ?_
      exact q_iret dX11_bias_43 rfl rfl (Nat.le_of_ble_eq_true rfl) rfl
theorem dX11_period_0 : decode cX11_period 0 = .ok (.iload_n 1, 1) := by decide +kernel
theorem dX11_period_1 : decode cX11_period 1 = .ok (.iconst 1, 1) := by decide +kernel
theorem dX11_period_2 : decode cX11_period 2 = .ok (.bipush 28, 2) := by decide +kernel
theorem dX11_period_4 : decode cX11_period 4 = .ok (.invokestatic 96, 3) := by decide +kernel
theorem dX11_period_7 : decode cX11_period 7 = .ok (.ifCond .ne 6, 3) := by decide +kernel
theorem dX11_period_10 : decode cX11_period 10 = .ok (.bipush (-2), 2) := by decide +kernel
theorem dX11_period_12 : decode cX11_period 12 = .ok (.ireturn, 1) := by decide +kernel
theorem dX11_period_13 : decode cX11_period 13 = .ok (.aload_n 0, 1) := by decide +kernel
theorem dX11_period_14 : decode cX11_period 14 = .ok (.getfield 12, 3) := by decide +kernel
theorem dX11_period_17 : decode cX11_period 17 = .ok (.getfield 141, 3) := by decide +kernel
theorem dX11_period_20 : decode cX11_period 20 = .ok (.istore_n 2, 1) := by decide +kernel
theorem dX11_period_21 : decode cX11_period 21 = .ok (.aload_n 0, 1) := by decide +kernel
theorem dX11_period_22 : decode cX11_period 22 = .ok (.getfield 12, 3) := by decide +kernel
theorem dX11_period_25 : decode cX11_period 25 = .ok (.iload_n 1, 1) := by decide +kernel
theorem dX11_period_26 : decode cX11_period 26 = .ok (.putfield 141, 3) := by decide +kernel
theorem dX11_period_29 : decode cX11_period 29 = .ok (.iload_n 2, 1) := by decide +kernel
theorem dX11_period_30 : decode cX11_period 30 = .ok (.ireturn, 1) := by decide +kernel
def f_X11_period (M : q_Mem) (a0 : Nat) (a1 : Int32) : Option (Int32 × q_Mem) :=
  q_ob 10 M a0 ((f_X11_within M a1 (1 : Int32) (28 : Int32)).bind fun v2 =>
  (if v2 = 0 then
    some ((-2 : Int32), M)
  else
    (q_gR 10 0 M a0).bind fun v3 =>
    (q_gI 4 13 M v3).bind fun v5 =>
    (q_gR 10 0 M a0).bind fun v7 =>
    (q_pI 4 13 M v7 a1).bind fun M9 =>
    some (v5, M9)))
set_option maxRecDepth 20000 in
theorem m_X11_period {M : q_Mem} {a0 : Nat} {a1 : Int32} {x : (Int32 × q_Mem)} (h : f_X11_period M a0 a1 = some x) : q_C Y_X11_period [.ref a0, .int a1] M (some (.int x.1)) x.2 := by
  refine q_met (φ := (fun x : Int32 × q_Mem => (some (.int x.1), x.2))) (r := f_X11_period M a0 a1) (by decide +kernel) (Nat.le_of_ble_eq_true rfl) ?_ h (fun _ _ => rfl)
  show q_V Y_X11_period none (fun x : Int32 × q_Mem => (some (.int x.1), x.2)) 0 0 0 [(0, .ref a0), (1, .int a1)] [] M (f_X11_period M a0 a1)
  unfold f_X11_period
  refine q_obV ?_
  refine q_iload_n 1 dX11_period_0 rfl ?_
  refine q_iconst (x := (1 : Int32)) dX11_period_1 rfl ?_
  refine q_bipush (x := (28 : Int32)) dX11_period_2 rfl ?_
  refine q_cSI (Y2 := Y_X11_within) (As := [.int a1, .int (1 : Int32), .int (28 : Int32)]) (st := []) ms_X11_within qw_408 dX11_period_4 ⟨Nat.le_of_ble_eq_true rfl, Nat.le_of_ble_eq_true rfl⟩ rfl (fun _ _ => rfl) (Nat.le_of_ble_eq_true rfl) ⟨Nat.le_of_ble_eq_true rfl, Nat.le_of_ble_eq_true rfl⟩ (fun v2 h1 => m_X11_within h1) (fun v2 h1 => ?_)
  refine q_if_ne (tgt := 13) dX11_period_7 (by decide) (fun c11 => ?_) (fun c11 => ?_)
  · refine q_bipush (x := (-2 : Int32)) dX11_period_10 rfl ?_
    exact q_iret dX11_period_12 rfl rfl (Nat.le_of_ble_eq_true rfl) rfl
  · refine q_aload_n 0 dX11_period_13 rfl ?_
    refine q_getR (f := 0) cl_X11 (by decide) qw_367 rfl dX11_period_14 (fun _ _ _ => rfl) (fun v3 h4 => ?_)
    refine q_getI (f := 13) cl_X5 (by decide) qw_115 rfl dX11_period_17 (Or.inl rfl) (fun v5 h6 => ?_)
    refine q_istore_n (ls' := [(2, .int v5), (0, .ref a0), (1, .int a1)]) dX11_period_20 (by decide) rfl ?_
    refine q_aload_n 1 dX11_period_21 rfl ?_
    refine q_getR (f := 0) cl_X11 (by decide) qw_367 rfl dX11_period_22 (fun _ _ _ => rfl) (fun v7 h8 => ?_)
    refine q_iload_n 2 dX11_period_25 rfl ?_
    refine q_putI (f := 13) cl_X5 (by decide) qw_115 rfl (Or.inl rfl) dX11_period_26 rfl (fun M9 h10 => ?_)
    refine q_iload_n 0 dX11_period_29 rfl ?_
    exact q_iret dX11_period_30 rfl rfl (Nat.le_of_ble_eq_true rfl) rfl
theorem dX11_rate_0 : decode cX11_rate 0 = .ok (.aload_n 0, 1) := by decide +kernel
theorem dX11_rate_1 : decode cX11_rate 1 = .ok (.getfield 12, 3) := by decide +kernel
theorem dX11_rate_4 : decode cX11_rate 4 = .ok (.getfield 130, 3) := by decide +kernel
theorem dX11_rate_7 : decode cX11_rate 7 = .ok (.iload_n 1, 1) := by decide +kernel
theorem dX11_rate_8 : decode cX11_rate 8 = .ok (.invokevirtual 117, 3) := by decide +kernel
theorem dX11_rate_11 : decode cX11_rate 11 = .ok (.ifCond .eq 10, 3) := by decide +kernel
theorem dX11_rate_14 : decode cX11_rate 14 = .ok (.iload_n 2, 1) := by decide +kernel
theorem dX11_rate_15 : decode cX11_rate 15 = .ok (.invokestatic 121, 3) := by decide +kernel
theorem dX11_rate_18 : decode cX11_rate 18 = .ok (.ifCond .ne 6, 3) := by decide +kernel
theorem dX11_rate_21 : decode cX11_rate 21 = .ok (.bipush (-2), 2) := by decide +kernel
theorem dX11_rate_23 : decode cX11_rate 23 = .ok (.ireturn, 1) := by decide +kernel
theorem dX11_rate_24 : decode cX11_rate 24 = .ok (.aload_n 0, 1) := by decide +kernel
theorem dX11_rate_25 : decode cX11_rate 25 = .ok (.getfield 29, 3) := by decide +kernel
theorem dX11_rate_28 : decode cX11_rate 28 = .ok (.iload_n 1, 1) := by decide +kernel
theorem dX11_rate_29 : decode cX11_rate 29 = .ok (.iload_n 2, 1) := by decide +kernel
theorem dX11_rate_30 : decode cX11_rate 30 = .ok (.invokevirtual 145, 3) := by decide +kernel
theorem dX11_rate_33 : decode cX11_rate 33 = .ok (.ireturn, 1) := by decide +kernel
def f_X11_rate (M : q_Mem) (a0 : Nat) (a1 : Int32) (a2 : Int32) : Option Int32 :=
  q_ob 10 M a0 ((q_gR 10 0 M a0).bind fun v1 =>
  (q_gR 4 2 M v1).bind fun v3 =>
  (f_X9_has M v3 a1).bind fun v6 =>
  (if v6 = 0 then
    some (-2 : Int32)
  else
    (f_X11_isDay M a2).bind fun v8 =>
    (if v8 = 0 then
      some (-2 : Int32)
    else
      (q_gR 10 3 M a0).bind fun v9 =>
      (f_X6_rateAsKnown M v9 a1 a2).bind fun v12 =>
      some v12)))
set_option maxRecDepth 20000 in
theorem m_X11_rate {M : q_Mem} {a0 : Nat} {a1 : Int32} {a2 : Int32} {x : Int32} (h : f_X11_rate M a0 a1 a2 = some x) : q_C Y_X11_rate [.ref a0, .int a1, .int a2] M (some (.int x)) M := by
  refine q_met (φ := (fun x : Int32 => (some (.int x), M))) (r := f_X11_rate M a0 a1 a2) (by decide +kernel) (Nat.le_of_ble_eq_true rfl) ?_ h (fun _ _ => rfl)
  show q_V Y_X11_rate none (fun x : Int32 => (some (.int x), M)) 0 0 0 [(0, .ref a0), (1, .int a1), (2, .int a2)] [] M (f_X11_rate M a0 a1 a2)
  unfold f_X11_rate
  refine q_obV ?_
  refine q_aload_n 0 dX11_rate_0 rfl ?_
  refine q_getR (f := 0) cl_X11 (by decide) qw_367 rfl dX11_rate_1 (fun _ _ _ => rfl) (fun v1 h2 => ?_)
  refine q_getR (f := 2) cl_X5 (by decide) qw_85 rfl dX11_rate_4 (fun _ _ _ => rfl) (fun v3 h4 => ?_)
  refine q_iload_n 1 dX11_rate_7 rfl ?_
  refine q_cVI (Y2 := Y_X9_has) (As := [.int a1]) (b := v3) (st := []) cl_X9 mv_X9_has qw_420 dX11_rate_8 ⟨Nat.le_of_ble_eq_true rfl, Nat.le_of_ble_eq_true rfl⟩ rfl (fun _ _ => rfl) (Nat.le_of_ble_eq_true rfl) ⟨Nat.le_of_ble_eq_true rfl, Nat.le_of_ble_eq_true rfl⟩ (fun v6 h5 => q_ob_is h5) (fun v6 h5 => m_X9_has h5) (fun v6 h5 => ?_)
  refine q_if_eq (tgt := 21) dX11_rate_11 (by decide) (fun c14 => ?_) (fun c14 => ?_)
  · refine q_bipush (x := (-2 : Int32)) dX11_rate_21 rfl ?_
    exact q_iret dX11_rate_23 rfl rfl (Nat.le_of_ble_eq_true rfl) rfl
  · refine q_iload_n 2 dX11_rate_14 rfl ?_
    refine q_cSI (Y2 := Y_X11_isDay) (As := [.int a2]) (st := []) ms_X11_isDay qw_428 dX11_rate_15 ⟨Nat.le_of_ble_eq_true rfl, Nat.le_of_ble_eq_true rfl⟩ rfl (fun _ _ => rfl) (Nat.le_of_ble_eq_true rfl) ⟨Nat.le_of_ble_eq_true rfl, Nat.le_of_ble_eq_true rfl⟩ (fun v8 h7 => m_X11_isDay h7) (fun v8 h7 => ?_)
    refine q_if_ne (tgt := 24) dX11_rate_18 (by decide) (fun c13 => ?_) (fun c13 => ?_)
    · refine q_bipush (x := (-2 : Int32)) dX11_rate_21 rfl ?_
      exact q_iret dX11_rate_23 rfl rfl (Nat.le_of_ble_eq_true rfl) rfl
    · refine q_aload_n 0 dX11_rate_24 rfl ?_
      refine q_getR (f := 3) cl_X11 (by decide) qw_370 rfl dX11_rate_25 (fun _ _ _ => rfl) (fun v9 h10 => ?_)
      refine q_iload_n 1 dX11_rate_28 rfl ?_
      refine q_iload_n 2 dX11_rate_29 rfl ?_
      refine q_cVI (Y2 := Y_X6_rateAsKnown) (As := [.int a1, .int a2]) (b := v9) (st := []) cl_X6 mv_X6_rateAsKnown qw_458 dX11_rate_30 ⟨Nat.le_of_ble_eq_true rfl, Nat.le_of_ble_eq_true rfl⟩ rfl (fun _ _ => rfl) (Nat.le_of_ble_eq_true rfl) ⟨Nat.le_of_ble_eq_true rfl, Nat.le_of_ble_eq_true rfl⟩ (fun v12 h11 => q_ob_is h11) (fun v12 h11 => m_X6_rateAsKnown h11) (fun v12 h11 => ?_)
      exact q_iret dX11_rate_33 rfl rfl (Nat.le_of_ble_eq_true rfl) rfl
theorem dX11_canRate_0 : decode cX11_canRate 0 = .ok (.aload_n 0, 1) := by decide +kernel
theorem dX11_canRate_1 : decode cX11_canRate 1 = .ok (.getfield 12, 3) := by decide +kernel
theorem dX11_canRate_4 : decode cX11_canRate 4 = .ok (.getfield 124, 3) := by decide +kernel
theorem dX11_canRate_7 : decode cX11_canRate 7 = .ok (.iload_n 1, 1) := by decide +kernel
theorem dX11_canRate_8 : decode cX11_canRate 8 = .ok (.invokevirtual 117, 3) := by decide +kernel
theorem dX11_canRate_11 : decode cX11_canRate 11 = .ok (.ifCond .eq 10, 3) := by decide +kernel
theorem dX11_canRate_14 : decode cX11_canRate 14 = .ok (.iload_n 2, 1) := by decide +kernel
theorem dX11_canRate_15 : decode cX11_canRate 15 = .ok (.invokestatic 121, 3) := by decide +kernel
theorem dX11_canRate_18 : decode cX11_canRate 18 = .ok (.ifCond .ne 6, 3) := by decide +kernel
theorem dX11_canRate_21 : decode cX11_canRate 21 = .ok (.bipush (-2), 2) := by decide +kernel
theorem dX11_canRate_23 : decode cX11_canRate 23 = .ok (.ireturn, 1) := by decide +kernel
theorem dX11_canRate_24 : decode cX11_canRate 24 = .ok (.aload_n 0, 1) := by decide +kernel
theorem dX11_canRate_25 : decode cX11_canRate 25 = .ok (.getfield 29, 3) := by decide +kernel
theorem dX11_canRate_28 : decode cX11_canRate 28 = .ok (.iload_n 2, 1) := by decide +kernel
theorem dX11_canRate_29 : decode cX11_canRate 29 = .ok (.invokevirtual 148, 3) := by decide +kernel
theorem dX11_canRate_32 : decode cX11_canRate 32 = .ok (.aload_n 0, 1) := by decide +kernel
theorem dX11_canRate_33 : decode cX11_canRate 33 = .ok (.getfield 29, 3) := by decide +kernel
theorem dX11_canRate_36 : decode cX11_canRate 36 = .ok (.iload_n 1, 1) := by decide +kernel
theorem dX11_canRate_37 : decode cX11_canRate 37 = .ok (.invokevirtual 152, 3) := by decide +kernel
theorem dX11_canRate_40 : decode cX11_canRate 40 = .ok (.ireturn, 1) := by decide +kernel
def f_X11_canRate (M : q_Mem) (a0 : Nat) (a1 : Int32) (a2 : Int32) : Option (Int32 × q_Mem) :=
  q_ob 10 M a0 ((q_gR 10 0 M a0).bind fun v1 =>
  (q_gR 4 1 M v1).bind fun v3 =>
  (f_X9_has M v3 a1).bind fun v6 =>
  (if v6 = 0 then
    some ((-2 : Int32), M)
  else
    (f_X11_isDay M a2).bind fun v8 =>
    (if v8 = 0 then
      some ((-2 : Int32), M)
    else
      (q_gR 10 3 M a0).bind fun v9 =>
      (f_X6_learn M v9 a2).bind fun M13 =>
      (q_gR 10 3 M13 a0).bind fun v14 =>
      (f_X6_rateOfCan M13 v14 a1).bind fun v17 =>
      some (v17, M13))))
set_option maxRecDepth 20000 in
theorem m_X11_canRate {M : q_Mem} {a0 : Nat} {a1 : Int32} {a2 : Int32} {x : (Int32 × q_Mem)} (h : f_X11_canRate M a0 a1 a2 = some x) : q_C Y_X11_canRate [.ref a0, .int a1, .int a2] M (some (.int x.1)) x.2 := by
  refine q_met (φ := (fun x : Int32 × q_Mem => (some (.int x.1), x.2))) (r := f_X11_canRate M a0 a1 a2) (by decide +kernel) (Nat.le_of_ble_eq_true rfl) ?_ h (fun _ _ => rfl)
  show q_V Y_X11_canRate none (fun x : Int32 × q_Mem => (some (.int x.1), x.2)) 0 0 0 [(0, .ref a0), (1, .int a1), (2, .int a2)] [] M (f_X11_canRate M a0 a1 a2)
  unfold f_X11_canRate
  refine q_obV ?_
  refine q_aload_n 0 dX11_canRate_0 rfl ?_
  refine q_getR (f := 0) cl_X11 (by decide) qw_367 rfl dX11_canRate_1 (fun _ _ _ => rfl) (fun v1 h2 => ?_)
  refine q_getR (f := 1) cl_X5 (by decide) qw_80 rfl dX11_canRate_4 (fun _ _ _ => rfl) (fun v3 h4 => ?_)
  refine q_iload_n 1 dX11_canRate_7 rfl ?_
  refine q_cVI (Y2 := Y_X9_has) (As := [.int a1]) (b := v3) (st := []) cl_X9 mv_X9_has qw_420 dX11_canRate_8 ⟨Nat.le_of_ble_eq_true rfl, Nat.le_of_ble_eq_true rfl⟩ rfl (fun _ _ => rfl) (Nat.le_of_ble_eq_true rfl) ⟨Nat.le_of_ble_eq_true rfl, Nat.le_of_ble_eq_true rfl⟩ (fun v6 h5 => q_ob_is h5) (fun v6 h5 => m_X9_has h5) (fun v6 h5 => ?_)
  refine q_if_eq (tgt := 21) dX11_canRate_11 (by decide) (fun c19 => ?_) (fun c19 => ?_)
  · refine q_bipush (x := (-2 : Int32)) dX11_canRate_21 rfl ?_
    exact q_iret dX11_canRate_23 rfl rfl (Nat.le_of_ble_eq_true rfl) rfl
  · refine q_iload_n 2 dX11_canRate_14 rfl ?_
    refine q_cSI (Y2 := Y_X11_isDay) (As := [.int a2]) (st := []) ms_X11_isDay qw_428 dX11_canRate_15 ⟨Nat.le_of_ble_eq_true rfl, Nat.le_of_ble_eq_true rfl⟩ rfl (fun _ _ => rfl) (Nat.le_of_ble_eq_true rfl) ⟨Nat.le_of_ble_eq_true rfl, Nat.le_of_ble_eq_true rfl⟩ (fun v8 h7 => m_X11_isDay h7) (fun v8 h7 => ?_)
    refine q_if_ne (tgt := 24) dX11_canRate_18 (by decide) (fun c18 => ?_) (fun c18 => ?_)
    · refine q_bipush (x := (-2 : Int32)) dX11_canRate_21 rfl ?_
      exact q_iret dX11_canRate_23 rfl rfl (Nat.le_of_ble_eq_true rfl) rfl
    · refine q_aload_n 0 dX11_canRate_24 rfl ?_
      refine q_getR (f := 3) cl_X11 (by decide) qw_370 rfl dX11_canRate_25 (fun _ _ _ => rfl) (fun v9 h10 => ?_)
      refine q_iload_n 2 dX11_canRate_28 rfl ?_
      refine q_cVM (Y2 := Y_X6_learn) (As := [.int a2]) (b := v9) (st := []) cl_X6 mv_X6_learn qw_491 dX11_canRate_29 ⟨Nat.le_of_ble_eq_true rfl, Nat.le_of_ble_eq_true rfl⟩ rfl (fun _ _ => rfl) (Nat.le_of_ble_eq_true rfl) ⟨Nat.le_of_ble_eq_true rfl, Nat.le_of_ble_eq_true rfl⟩ (fun M13 h11 => q_ob_is h11) (fun M13 h11 => m_X6_learn h11) (fun M13 h11 => ?_)
      refine q_aload_n 0 dX11_canRate_32 rfl ?_
      refine q_getR (f := 3) cl_X11 (by decide) qw_370 rfl dX11_canRate_33 (fun _ _ _ => rfl) (fun v14 h15 => ?_)
      refine q_iload_n 1 dX11_canRate_36 rfl ?_
      refine q_cVI (Y2 := Y_X6_rateOfCan) (As := [.int a1]) (b := v14) (st := []) cl_X6 mv_X6_rateOfCan qw_496 dX11_canRate_37 ⟨Nat.le_of_ble_eq_true rfl, Nat.le_of_ble_eq_true rfl⟩ rfl (fun _ _ => rfl) (Nat.le_of_ble_eq_true rfl) ⟨Nat.le_of_ble_eq_true rfl, Nat.le_of_ble_eq_true rfl⟩ (fun v17 h16 => q_ob_is h16) (fun v17 h16 => m_X6_rateOfCan h16) (fun v17 h16 => ?_)
      exact q_iret dX11_canRate_40 rfl rfl (Nat.le_of_ble_eq_true rfl) rfl
theorem dX11_isWeek_0 : decode cX11_isWeek 0 = .ok (.iload_n 0, 1) := by decide +kernel
theorem dX11_isWeek_1 : decode cX11_isWeek 1 = .ok (.iconst 0, 1) := by decide +kernel
theorem dX11_isWeek_2 : decode cX11_isWeek 2 = .ok (.bipush 27, 2) := by decide +kernel
theorem dX11_isWeek_4 : decode cX11_isWeek 4 = .ok (.invokestatic 96, 3) := by decide +kernel
theorem dX11_isWeek_7 : decode cX11_isWeek 7 = .ok (.ireturn, 1) := by decide +kernel
def f_X11_isWeek (M : q_Mem) (a0 : Int32) : Option Int32 :=
  (f_X11_within M a0 (0 : Int32) (27 : Int32)).bind fun v2 =>
  (if v2 = 0 ∨ v2 = 1 then some v2 else none)
set_option maxRecDepth 20000 in
theorem m_X11_isWeek {M : q_Mem} {a0 : Int32} {x : Int32} (h : f_X11_isWeek M a0 = some x) : q_C Y_X11_isWeek [.int a0] M (some (.int x)) M := by
  refine q_met (φ := (fun x : Int32 => (some (.int x), M))) (r := f_X11_isWeek M a0) (by decide +kernel) (Nat.le_of_ble_eq_true rfl) ?_ h (fun _ _ => rfl)
  show q_V Y_X11_isWeek none (fun x : Int32 => (some (.int x), M)) 0 0 0 [(0, .int a0)] [] M (f_X11_isWeek M a0)
  unfold f_X11_isWeek
  refine q_iload_n 0 dX11_isWeek_0 rfl ?_
  refine q_iconst (x := (0 : Int32)) dX11_isWeek_1 rfl ?_
  refine q_bipush (x := (27 : Int32)) dX11_isWeek_2 rfl ?_
  refine q_cSI (Y2 := Y_X11_within) (As := [.int a0, .int (0 : Int32), .int (27 : Int32)]) (st := []) ms_X11_within qw_408 dX11_isWeek_4 ⟨Nat.le_of_ble_eq_true rfl, Nat.le_of_ble_eq_true rfl⟩ rfl (fun _ _ => rfl) (Nat.le_of_ble_eq_true rfl) ⟨Nat.le_of_ble_eq_true rfl, Nat.le_of_ble_eq_true rfl⟩ (fun v2 h1 => m_X11_within h1) (fun v2 h1 => ?_)
  exact q_zret dX11_isWeek_7 rfl rfl (Nat.le_of_ble_eq_true rfl) rfl
theorem dX11_fat_0 : decode cX11_fat 0 = .ok (.aload_n 0, 1) := by decide +kernel
theorem dX11_fat_1 : decode cX11_fat 1 = .ok (.getfield 12, 3) := by decide +kernel
theorem dX11_fat_4 : decode cX11_fat 4 = .ok (.getfield 100, 3) := by decide +kernel
theorem dX11_fat_7 : decode cX11_fat 7 = .ok (.iload_n 1, 1) := by decide +kernel
theorem dX11_fat_8 : decode cX11_fat 8 = .ok (.invokevirtual 117, 3) := by decide +kernel
theorem dX11_fat_11 : decode cX11_fat 11 = .ok (.ifCond .eq 17, 3) := by decide +kernel
theorem dX11_fat_14 : decode cX11_fat 14 = .ok (.iload_n 2, 1) := by decide +kernel
theorem dX11_fat_15 : decode cX11_fat 15 = .ok (.invokestatic 156, 3) := by decide +kernel
theorem dX11_fat_18 : decode cX11_fat 18 = .ok (.ifCond .eq 10, 3) := by decide +kernel
theorem dX11_fat_21 : decode cX11_fat 21 = .ok (.iload_n 3, 1) := by decide +kernel
theorem dX11_fat_22 : decode cX11_fat 22 = .ok (.invokestatic 121, 3) := by decide +kernel
theorem dX11_fat_25 : decode cX11_fat 25 = .ok (.ifCond .ne 7, 3) := by decide +kernel
theorem dX11_fat_28 : decode cX11_fat 28 = .ok (.ldc2_w 159, 3) := by decide +kernel
theorem dX11_fat_31 : decode cX11_fat 31 = .ok (.lreturn, 1) := by decide +kernel
theorem dX11_fat_32 : decode cX11_fat 32 = .ok (.aload_n 0, 1) := by decide +kernel
theorem dX11_fat_33 : decode cX11_fat 33 = .ok (.getfield 29, 3) := by decide +kernel
theorem dX11_fat_36 : decode cX11_fat 36 = .ok (.iload_n 3, 1) := by decide +kernel
theorem dX11_fat_37 : decode cX11_fat 37 = .ok (.invokevirtual 148, 3) := by decide +kernel
theorem dX11_fat_40 : decode cX11_fat 40 = .ok (.aload_n 0, 1) := by decide +kernel
theorem dX11_fat_41 : decode cX11_fat 41 = .ok (.getfield 29, 3) := by decide +kernel
theorem dX11_fat_44 : decode cX11_fat 44 = .ok (.iload_n 1, 1) := by decide +kernel
theorem dX11_fat_45 : decode cX11_fat 45 = .ok (.iload_n 2, 1) := by decide +kernel
theorem dX11_fat_46 : decode cX11_fat 46 = .ok (.invokevirtual 161, 3) := by decide +kernel
theorem dX11_fat_49 : decode cX11_fat 49 = .ok (.lreturn, 1) := by decide +kernel
def f_X11_fat (M : q_Mem) (a0 : Nat) (a1 : Int32) (a2 : Int32) (a3 : Int32) : Option (Int64 × q_Mem) :=
  q_ob 10 M a0 ((q_gR 10 0 M a0).bind fun v1 =>
  (q_gR 4 0 M v1).bind fun v3 =>
  (f_X9_has M v3 a1).bind fun v6 =>
  (if v6 = 0 then
    some ((-2 : Int64), M)
  else
    (f_X11_isWeek M a2).bind fun v8 =>
    (if v8 = 0 then
      some ((-2 : Int64), M)
    else
      (f_X11_isDay M a3).bind fun v10 =>
      (if v10 = 0 then
        some ((-2 : Int64), M)
      else
        (q_gR 10 3 M a0).bind fun v11 =>
        (f_X6_learn M v11 a3).bind fun M15 =>
        (q_gR 10 3 M15 a0).bind fun v16 =>
        (f_X6_fatOfWeek M15 v16 a1 a2).bind fun v19 =>
        some (v19, M15)))))
set_option maxRecDepth 20000 in
theorem m_X11_fat {M : q_Mem} {a0 : Nat} {a1 : Int32} {a2 : Int32} {a3 : Int32} {x : (Int64 × q_Mem)} (h : f_X11_fat M a0 a1 a2 a3 = some x) : q_C Y_X11_fat [.ref a0, .int a1, .int a2, .int a3] M (some (.long x.1)) x.2 := by
  refine q_met (φ := (fun x : Int64 × q_Mem => (some (.long x.1), x.2))) (r := f_X11_fat M a0 a1 a2 a3) (by decide +kernel) (Nat.le_of_ble_eq_true rfl) ?_ h (fun _ _ => rfl)
  show q_V Y_X11_fat none (fun x : Int64 × q_Mem => (some (.long x.1), x.2)) 0 0 0 [(0, .ref a0), (1, .int a1), (2, .int a2), (3, .int a3)] [] M (f_X11_fat M a0 a1 a2 a3)
  unfold f_X11_fat
  refine q_obV ?_
  refine q_aload_n 0 dX11_fat_0 rfl ?_
  refine q_getR (f := 0) cl_X11 (by decide) qw_367 rfl dX11_fat_1 (fun _ _ _ => rfl) (fun v1 h2 => ?_)
  refine q_getR (f := 0) cl_X5 (by decide) qw_72 rfl dX11_fat_4 (fun _ _ _ => rfl) (fun v3 h4 => ?_)
  refine q_iload_n 1 dX11_fat_7 rfl ?_
  refine q_cVI (Y2 := Y_X9_has) (As := [.int a1]) (b := v3) (st := []) cl_X9 mv_X9_has qw_420 dX11_fat_8 ⟨Nat.le_of_ble_eq_true rfl, Nat.le_of_ble_eq_true rfl⟩ rfl (fun _ _ => rfl) (Nat.le_of_ble_eq_true rfl) ⟨Nat.le_of_ble_eq_true rfl, Nat.le_of_ble_eq_true rfl⟩ (fun v6 h5 => q_ob_is h5) (fun v6 h5 => m_X9_has h5) (fun v6 h5 => ?_)
  refine q_if_eq (tgt := 28) dX11_fat_11 (by decide) (fun c22 => ?_) (fun c22 => ?_)
  · refine q_ldc2 (x := (-2 : Int64)) qw_515 dX11_fat_28 ?_
    exact q_lret dX11_fat_31 rfl rfl (Nat.le_of_ble_eq_true rfl) rfl
  · refine q_iload_n 2 dX11_fat_14 rfl ?_
    refine q_cSI (Y2 := Y_X11_isWeek) (As := [.int a2]) (st := []) ms_X11_isWeek qw_512 dX11_fat_15 ⟨Nat.le_of_ble_eq_true rfl, Nat.le_of_ble_eq_true rfl⟩ rfl (fun _ _ => rfl) (Nat.le_of_ble_eq_true rfl) ⟨Nat.le_of_ble_eq_true rfl, Nat.le_of_ble_eq_true rfl⟩ (fun v8 h7 => m_X11_isWeek h7) (fun v8 h7 => ?_)
    refine q_if_eq (tgt := 28) dX11_fat_18 (by decide) (fun c21 => ?_) (fun c21 => ?_)
    · refine q_ldc2 (x := (-2 : Int64)) qw_515 dX11_fat_28 ?_
      exact q_lret dX11_fat_31 rfl rfl (Nat.le_of_ble_eq_true rfl) rfl
    · refine q_iload_n 3 dX11_fat_21 rfl ?_
      refine q_cSI (Y2 := Y_X11_isDay) (As := [.int a3]) (st := []) ms_X11_isDay qw_428 dX11_fat_22 ⟨Nat.le_of_ble_eq_true rfl, Nat.le_of_ble_eq_true rfl⟩ rfl (fun _ _ => rfl) (Nat.le_of_ble_eq_true rfl) ⟨Nat.le_of_ble_eq_true rfl, Nat.le_of_ble_eq_true rfl⟩ (fun v10 h9 => m_X11_isDay h9) (fun v10 h9 => ?_)
      refine q_if_ne (tgt := 32) dX11_fat_25 (by decide) (fun c20 => ?_) (fun c20 => ?_)
      · refine q_ldc2 (x := (-2 : Int64)) qw_515 dX11_fat_28 ?_
        exact q_lret dX11_fat_31 rfl rfl (Nat.le_of_ble_eq_true rfl) rfl
      · refine q_aload_n 0 dX11_fat_32 rfl ?_
        refine q_getR (f := 3) cl_X11 (by decide) qw_370 rfl dX11_fat_33 (fun _ _ _ => rfl) (fun v11 h12 => ?_)
        refine q_iload_n 3 dX11_fat_36 rfl ?_
        refine q_cVM (Y2 := Y_X6_learn) (As := [.int a3]) (b := v11) (st := []) cl_X6 mv_X6_learn qw_491 dX11_fat_37 ⟨Nat.le_of_ble_eq_true rfl, Nat.le_of_ble_eq_true rfl⟩ rfl (fun _ _ => rfl) (Nat.le_of_ble_eq_true rfl) ⟨Nat.le_of_ble_eq_true rfl, Nat.le_of_ble_eq_true rfl⟩ (fun M15 h13 => q_ob_is h13) (fun M15 h13 => m_X6_learn h13) (fun M15 h13 => ?_)
        refine q_aload_n 0 dX11_fat_40 rfl ?_
        refine q_getR (f := 3) cl_X11 (by decide) qw_370 rfl dX11_fat_41 (fun _ _ _ => rfl) (fun v16 h17 => ?_)
        refine q_iload_n 1 dX11_fat_44 rfl ?_
        refine q_iload_n 2 dX11_fat_45 rfl ?_
        refine q_cVJ (Y2 := Y_X6_fatOfWeek) (As := [.int a1, .int a2]) (b := v16) (st := []) cl_X6 mv_X6_fatOfWeek qw_516 dX11_fat_46 ⟨Nat.le_of_ble_eq_true rfl, Nat.le_of_ble_eq_true rfl⟩ rfl (fun _ _ => rfl) (Nat.le_of_ble_eq_true rfl) ⟨Nat.le_of_ble_eq_true rfl, Nat.le_of_ble_eq_true rfl⟩ (fun v19 h18 => q_ob_is h18) (fun v19 h18 => m_X6_fatOfWeek h18) (fun v19 h18 => ?_)
        exact q_lret dX11_fat_49 rfl rfl (Nat.le_of_ble_eq_true rfl) rfl
theorem dX11_churn_0 : decode cX11_churn 0 = .ok (.iload_n 1, 1) := by decide +kernel
theorem dX11_churn_1 : decode cX11_churn 1 = .ok (.invokestatic 121, 3) := by decide +kernel
theorem dX11_churn_4 : decode cX11_churn 4 = .ok (.ifCond .eq 14, 3) := by decide +kernel
theorem dX11_churn_7 : decode cX11_churn 7 = .ok (.iload_n 2, 1) := by decide +kernel
theorem dX11_churn_8 : decode cX11_churn 8 = .ok (.bipush 40, 2) := by decide +kernel
theorem dX11_churn_10 : decode cX11_churn 10 = .ok (.bipush 80, 2) := by decide +kernel
theorem dX11_churn_12 : decode cX11_churn 12 = .ok (.invokestatic 96, 3) := by decide +kernel
theorem dX11_churn_15 : decode cX11_churn 15 = .ok (.ifCond .ne 6, 3) := by decide +kernel
theorem dX11_churn_18 : decode cX11_churn 18 = .ok (.bipush (-2), 2) := by decide +kernel
theorem dX11_churn_20 : decode cX11_churn 20 = .ok (.ireturn, 1) := by decide +kernel
theorem dX11_churn_21 : decode cX11_churn 21 = .ok (.aload_n 0, 1) := by decide +kernel
theorem dX11_churn_22 : decode cX11_churn 22 = .ok (.getfield 12, 3) := by decide +kernel
theorem dX11_churn_25 : decode cX11_churn 25 = .ok (.getfield 165, 3) := by decide +kernel
theorem dX11_churn_28 : decode cX11_churn 28 = .ok (.iload_n 1, 1) := by decide +kernel
theorem dX11_churn_29 : decode cX11_churn 29 = .ok (.iload_n 2, 1) := by decide +kernel
theorem dX11_churn_30 : decode cX11_churn 30 = .ok (.iconst (-1), 1) := by decide +kernel
theorem dX11_churn_31 : decode cX11_churn 31 = .ok (.invokevirtual 103, 3) := by decide +kernel
theorem dX11_churn_34 : decode cX11_churn 34 = .ok (.ireturn, 1) := by decide +kernel
def f_X11_churn (M : q_Mem) (a0 : Nat) (a1 : Int32) (a2 : Int32) : Option (Int32 × q_Mem) :=
  q_ob 10 M a0 ((f_X11_isDay M a1).bind fun v2 =>
  (if v2 = 0 then
    some ((-2 : Int32), M)
  else
    (f_X11_within M a2 (40 : Int32) (80 : Int32)).bind fun v4 =>
    (if v4 = 0 then
      some ((-2 : Int32), M)
    else
      (q_gR 10 0 M a0).bind fun v5 =>
      (q_gR 4 3 M v5).bind fun v7 =>
      (f_X9_come M v7 a1 a2 (-1 : Int32)).bind fun r10 =>
      some (r10.1, r10.2))))
set_option maxRecDepth 20000 in
theorem m_X11_churn {M : q_Mem} {a0 : Nat} {a1 : Int32} {a2 : Int32} {x : (Int32 × q_Mem)} (h : f_X11_churn M a0 a1 a2 = some x) : q_C Y_X11_churn [.ref a0, .int a1, .int a2] M (some (.int x.1)) x.2 := by
  refine q_met (φ := (fun x : Int32 × q_Mem => (some (.int x.1), x.2))) (r := f_X11_churn M a0 a1 a2) (by decide +kernel) (Nat.le_of_ble_eq_true rfl) ?_ h (fun _ _ => rfl)
  show q_V Y_X11_churn none (fun x : Int32 × q_Mem => (some (.int x.1), x.2)) 0 0 0 [(0, .ref a0), (1, .int a1), (2, .int a2)] [] M (f_X11_churn M a0 a1 a2)
  unfold f_X11_churn
  refine q_obV ?_
  refine q_iload_n 1 dX11_churn_0 rfl ?_
  refine q_cSI (Y2 := Y_X11_isDay) (As := [.int a1]) (st := []) ms_X11_isDay qw_428 dX11_churn_1 ⟨Nat.le_of_ble_eq_true rfl, Nat.le_of_ble_eq_true rfl⟩ rfl (fun _ _ => rfl) (Nat.le_of_ble_eq_true rfl) ⟨Nat.le_of_ble_eq_true rfl, Nat.le_of_ble_eq_true rfl⟩ (fun v2 h1 => m_X11_isDay h1) (fun v2 h1 => ?_)
  refine q_if_eq (tgt := 18) dX11_churn_4 (by decide) (fun c12 => ?_) (fun c12 => ?_)
  · refine q_bipush (x := (-2 : Int32)) dX11_churn_18 rfl ?_
    exact q_iret dX11_churn_20 rfl rfl (Nat.le_of_ble_eq_true rfl) rfl
  · refine q_iload_n 2 dX11_churn_7 rfl ?_
    refine q_bipush (x := (40 : Int32)) dX11_churn_8 rfl ?_
    refine q_bipush (x := (80 : Int32)) dX11_churn_10 rfl ?_
    refine q_cSI (Y2 := Y_X11_within) (As := [.int a2, .int (40 : Int32), .int (80 : Int32)]) (st := []) ms_X11_within qw_408 dX11_churn_12 ⟨Nat.le_of_ble_eq_true rfl, Nat.le_of_ble_eq_true rfl⟩ rfl (fun _ _ => rfl) (Nat.le_of_ble_eq_true rfl) ⟨Nat.le_of_ble_eq_true rfl, Nat.le_of_ble_eq_true rfl⟩ (fun v4 h3 => m_X11_within h3) (fun v4 h3 => ?_)
    refine q_if_ne (tgt := 21) dX11_churn_15 (by decide) (fun c11 => ?_) (fun c11 => ?_)
    · refine q_bipush (x := (-2 : Int32)) dX11_churn_18 rfl ?_
      exact q_iret dX11_churn_20 rfl rfl (Nat.le_of_ble_eq_true rfl) rfl
    · refine q_aload_n 0 dX11_churn_21 rfl ?_
      refine q_getR (f := 0) cl_X11 (by decide) qw_367 rfl dX11_churn_22 (fun _ _ _ => rfl) (fun v5 h6 => ?_)
      refine q_getR (f := 3) cl_X5 (by decide) qw_89 rfl dX11_churn_25 (fun _ _ _ => rfl) (fun v7 h8 => ?_)
      refine q_iload_n 1 dX11_churn_28 rfl ?_
      refine q_iload_n 2 dX11_churn_29 rfl ?_
      refine q_iconst (x := (-1 : Int32)) dX11_churn_30 rfl ?_
      refine q_cVMI (Y2 := Y_X9_come) (As := [.int a1, .int a2, .int (-1 : Int32)]) (b := v7) (st := []) cl_X9 mv_X9_come qw_411 dX11_churn_31 ⟨Nat.le_of_ble_eq_true rfl, Nat.le_of_ble_eq_true rfl⟩ rfl (fun _ _ => rfl) (Nat.le_of_ble_eq_true rfl) ⟨Nat.le_of_ble_eq_true rfl, Nat.le_of_ble_eq_true rfl⟩ (fun r10 h9 => q_ob_is h9) (fun r10 h9 => m_X9_come h9) (fun r10 h9 => ?_)
      exact q_iret dX11_churn_34 rfl rfl (Nat.le_of_ble_eq_true rfl) rfl
theorem dX11_fill_0 : decode cX11_fill 0 = .ok (.aload_n 0, 1) := by decide +kernel
theorem dX11_fill_1 : decode cX11_fill 1 = .ok (.getfield 12, 3) := by decide +kernel
theorem dX11_fill_4 : decode cX11_fill 4 = .ok (.getfield 165, 3) := by decide +kernel
theorem dX11_fill_7 : decode cX11_fill 7 = .ok (.iload_n 1, 1) := by decide +kernel
theorem dX11_fill_8 : decode cX11_fill 8 = .ok (.invokevirtual 117, 3) := by decide +kernel
theorem dX11_fill_11 : decode cX11_fill 11 = .ok (.ifCond .eq 17, 3) := by decide +kernel
theorem dX11_fill_14 : decode cX11_fill 14 = .ok (.aload_n 0, 1) := by decide +kernel
theorem dX11_fill_15 : decode cX11_fill 15 = .ok (.getfield 12, 3) := by decide +kernel
theorem dX11_fill_18 : decode cX11_fill 18 = .ok (.getfield 124, 3) := by decide +kernel
theorem dX11_fill_21 : decode cX11_fill 21 = .ok (.iload_n 2, 1) := by decide +kernel
theorem dX11_fill_22 : decode cX11_fill 22 = .ok (.invokevirtual 117, 3) := by decide +kernel
theorem dX11_fill_25 : decode cX11_fill 25 = .ok (.ifCond .ne 6, 3) := by decide +kernel
theorem dX11_fill_28 : decode cX11_fill 28 = .ok (.bipush (-2), 2) := by decide +kernel
theorem dX11_fill_30 : decode cX11_fill 30 = .ok (.ireturn, 1) := by decide +kernel
theorem dX11_fill_31 : decode cX11_fill 31 = .ok (.aload_n 0, 1) := by decide +kernel
theorem dX11_fill_32 : decode cX11_fill 32 = .ok (.getfield 12, 3) := by decide +kernel
theorem dX11_fill_35 : decode cX11_fill 35 = .ok (.getfield 124, 3) := by decide +kernel
theorem dX11_fill_38 : decode cX11_fill 38 = .ok (.iload_n 2, 1) := by decide +kernel
theorem dX11_fill_39 : decode cX11_fill 39 = .ok (.iconst 3, 1) := by decide +kernel
theorem dX11_fill_40 : decode cX11_fill 40 = .ok (.invokevirtual 133, 3) := by decide +kernel
theorem dX11_fill_43 : decode cX11_fill 43 = .ok (.iconst (-1), 1) := by decide +kernel
theorem dX11_fill_44 : decode cX11_fill 44 = .ok (.if_icmp .eq 6, 3) := by decide +kernel
theorem dX11_fill_47 : decode cX11_fill 47 = .ok (.bipush (-3), 2) := by decide +kernel
theorem dX11_fill_49 : decode cX11_fill 49 = .ok (.ireturn, 1) := by decide +kernel
theorem dX11_fill_50 : decode cX11_fill 50 = .ok (.aload_n 0, 1) := by decide +kernel
theorem dX11_fill_51 : decode cX11_fill 51 = .ok (.getfield 12, 3) := by decide +kernel
theorem dX11_fill_54 : decode cX11_fill 54 = .ok (.getfield 165, 3) := by decide +kernel
theorem dX11_fill_57 : decode cX11_fill 57 = .ok (.iload_n 1, 1) := by decide +kernel
theorem dX11_fill_58 : decode cX11_fill 58 = .ok (.iconst 0, 1) := by decide +kernel
theorem dX11_fill_59 : decode cX11_fill 59 = .ok (.invokevirtual 133, 3) := by decide +kernel
theorem dX11_fill_62 : decode cX11_fill 62 = .ok (.aload_n 0, 1) := by decide +kernel
theorem dX11_fill_63 : decode cX11_fill 63 = .ok (.getfield 12, 3) := by decide +kernel
theorem dX11_fill_66 : decode cX11_fill 66 = .ok (.getfield 124, 3) := by decide +kernel
theorem dX11_fill_69 : decode cX11_fill 69 = .ok (.iload_n 2, 1) := by decide +kernel
theorem dX11_fill_70 : decode cX11_fill 70 = .ok (.iconst 1, 1) := by decide +kernel
theorem dX11_fill_71 : decode cX11_fill 71 = .ok (.invokevirtual 133, 3) := by decide +kernel
theorem dX11_fill_74 : decode cX11_fill 74 = .ok (.isub, 1) := by decide +kernel
theorem dX11_fill_75 : decode cX11_fill 75 = .ok (.istore_n 3, 1) := by decide +kernel
theorem dX11_fill_76 : decode cX11_fill 76 = .ok (.iload_n 3, 1) := by decide +kernel
theorem dX11_fill_77 : decode cX11_fill 77 = .ok (.iconst 0, 1) := by decide +kernel
theorem dX11_fill_78 : decode cX11_fill 78 = .ok (.bipush 9, 2) := by decide +kernel
theorem dX11_fill_80 : decode cX11_fill 80 = .ok (.invokestatic 96, 3) := by decide +kernel
theorem dX11_fill_83 : decode cX11_fill 83 = .ok (.ifCond .ne 6, 3) := by decide +kernel
theorem dX11_fill_86 : decode cX11_fill 86 = .ok (.bipush (-3), 2) := by decide +kernel
theorem dX11_fill_88 : decode cX11_fill 88 = .ok (.ireturn, 1) := by decide +kernel
theorem dX11_fill_89 : decode cX11_fill 89 = .ok (.aload_n 0, 1) := by decide +kernel
theorem dX11_fill_90 : decode cX11_fill 90 = .ok (.getfield 12, 3) := by decide +kernel
theorem dX11_fill_93 : decode cX11_fill 93 = .ok (.getfield 124, 3) := by decide +kernel
theorem dX11_fill_96 : decode cX11_fill 96 = .ok (.iload_n 2, 1) := by decide +kernel
theorem dX11_fill_97 : decode cX11_fill 97 = .ok (.iconst 3, 1) := by decide +kernel
theorem dX11_fill_98 : decode cX11_fill 98 = .ok (.iload_n 1, 1) := by decide +kernel
theorem dX11_fill_99 : decode cX11_fill 99 = .ok (.invokevirtual 113, 3) := by decide +kernel
theorem dX11_fill_102 : decode cX11_fill 102 = .ok (.iconst 1, 1) := by decide +kernel
theorem dX11_fill_103 : decode cX11_fill 103 = .ok (.ireturn, 1) := by decide +kernel
def f_X11_fill (M : q_Mem) (a0 : Nat) (a1 : Int32) (a2 : Int32) : Option (Int32 × q_Mem) :=
  q_ob 10 M a0 ((q_gR 10 0 M a0).bind fun v1 =>
  (q_gR 4 3 M v1).bind fun v3 =>
  (f_X9_has M v3 a1).bind fun v6 =>
  (if v6 = 0 then
    some ((-2 : Int32), M)
  else
    (q_gR 10 0 M a0).bind fun v7 =>
    (q_gR 4 1 M v7).bind fun v9 =>
    (f_X9_has M v9 a2).bind fun v12 =>
    (if v12 = 0 then
      some ((-2 : Int32), M)
    else
      (q_gR 10 0 M a0).bind fun v13 =>
      (q_gR 4 1 M v13).bind fun v15 =>
      (f_X9_at M v15 a2 (3 : Int32)).bind fun v18 =>
      (if v18 = (-1 : Int32) then
        (q_gR 10 0 M a0).bind fun v19 =>
        (q_gR 4 3 M v19).bind fun v21 =>
        (f_X9_at M v21 a1 (0 : Int32)).bind fun v24 =>
        (q_gR 10 0 M a0).bind fun v25 =>
        (q_gR 4 1 M v25).bind fun v27 =>
        (f_X9_at M v27 a2 (1 : Int32)).bind fun v30 =>
        (f_X11_within M (v24 - v30) (0 : Int32) (9 : Int32)).bind fun v32 =>
        (if v32 = 0 then
          some ((-3 : Int32), M)
        else
          (q_gR 10 0 M a0).bind fun v33 =>
          (q_gR 4 1 M v33).bind fun v35 =>
          (f_X9_put M v35 a2 (3 : Int32) a1).bind fun M39 =>
          some ((1 : Int32), M39))
      else
        some ((-3 : Int32), M)))))
set_option maxRecDepth 20000 in
theorem m_X11_fill {M : q_Mem} {a0 : Nat} {a1 : Int32} {a2 : Int32} {x : (Int32 × q_Mem)} (h : f_X11_fill M a0 a1 a2 = some x) : q_C Y_X11_fill [.ref a0, .int a1, .int a2] M (some (.int x.1)) x.2 := by
  refine q_met (φ := (fun x : Int32 × q_Mem => (some (.int x.1), x.2))) (r := f_X11_fill M a0 a1 a2) (by decide +kernel) (Nat.le_of_ble_eq_true rfl) ?_ h (fun _ _ => rfl)
  show q_V Y_X11_fill none (fun x : Int32 × q_Mem => (some (.int x.1), x.2)) 0 0 0 [(0, .ref a0), (1, .int a1), (2, .int a2)] [] M (f_X11_fill M a0 a1 a2)
  unfold f_X11_fill
  refine q_obV ?_
  refine q_aload_n 0 dX11_fill_0 rfl ?_
  refine q_getR (f := 0) cl_X11 (by decide) qw_367 rfl dX11_fill_1 (fun _ _ _ => rfl) (fun v1 h2 => ?_)
  refine q_getR (f := 3) cl_X5 (by decide) qw_89 rfl dX11_fill_4 (fun _ _ _ => rfl) (fun v3 h4 => ?_)
  refine q_iload_n 1 dX11_fill_7 rfl ?_
  refine q_cVI (Y2 := Y_X9_has) (As := [.int a1]) (b := v3) (st := []) cl_X9 mv_X9_has qw_420 dX11_fill_8 ⟨Nat.le_of_ble_eq_true rfl, Nat.le_of_ble_eq_true rfl⟩ rfl (fun _ _ => rfl) (Nat.le_of_ble_eq_true rfl) ⟨Nat.le_of_ble_eq_true rfl, Nat.le_of_ble_eq_true rfl⟩ (fun v6 h5 => q_ob_is h5) (fun v6 h5 => m_X9_has h5) (fun v6 h5 => ?_)
  refine q_if_eq (tgt := 28) dX11_fill_11 (by decide) (fun c43 => ?_) (fun c43 => ?_)
  · refine q_bipush (x := (-2 : Int32)) dX11_fill_28 rfl ?_
    exact q_iret dX11_fill_30 rfl rfl (Nat.le_of_ble_eq_true rfl) rfl
  · refine q_aload_n 0 dX11_fill_14 rfl ?_
    refine q_getR (f := 0) cl_X11 (by decide) qw_367 rfl dX11_fill_15 (fun _ _ _ => rfl) (fun v7 h8 => ?_)
    refine q_getR (f := 1) cl_X5 (by decide) qw_80 rfl dX11_fill_18 (fun _ _ _ => rfl) (fun v9 h10 => ?_)
    refine q_iload_n 2 dX11_fill_21 rfl ?_
    refine q_cVI (Y2 := Y_X9_has) (As := [.int a2]) (b := v9) (st := []) cl_X9 mv_X9_has qw_420 dX11_fill_22 ⟨Nat.le_of_ble_eq_true rfl, Nat.le_of_ble_eq_true rfl⟩ rfl (fun _ _ => rfl) (Nat.le_of_ble_eq_true rfl) ⟨Nat.le_of_ble_eq_true rfl, Nat.le_of_ble_eq_true rfl⟩ (fun v12 h11 => q_ob_is h11) (fun v12 h11 => m_X9_has h11) (fun v12 h11 => ?_)
    refine q_if_ne (tgt := 31) dX11_fill_25 (by decide) (fun c42 => ?_) (fun c42 => ?_)
    · refine q_bipush (x := (-2 : Int32)) dX11_fill_28 rfl ?_
      exact q_iret dX11_fill_30 rfl rfl (Nat.le_of_ble_eq_true rfl) rfl
    · refine q_aload_n 0 dX11_fill_31 rfl ?_
      refine q_getR (f := 0) cl_X11 (by decide) qw_367 rfl dX11_fill_32 (fun _ _ _ => rfl) (fun v13 h14 => ?_)
      refine q_getR (f := 1) cl_X5 (by decide) qw_80 rfl dX11_fill_35 (fun _ _ _ => rfl) (fun v15 h16 => ?_)
      refine q_iload_n 2 dX11_fill_38 rfl ?_
      refine q_iconst (x := (3 : Int32)) dX11_fill_39 rfl ?_
      refine q_cVI (Y2 := Y_X9_at) (As := [.int a2, .int (3 : Int32)]) (b := v15) (st := []) cl_X9 mv_X9_at qw_442 dX11_fill_40 ⟨Nat.le_of_ble_eq_true rfl, Nat.le_of_ble_eq_true rfl⟩ rfl (fun _ _ => rfl) (Nat.le_of_ble_eq_true rfl) ⟨Nat.le_of_ble_eq_true rfl, Nat.le_of_ble_eq_true rfl⟩ (fun v18 h17 => q_ob_is h17) (fun v18 h17 => m_X9_at h17) (fun v18 h17 => ?_)
      refine q_iconst (x := (-1 : Int32)) dX11_fill_43 rfl ?_
      refine q_icmp_eq (tgt := 50) dX11_fill_44 (by decide) (fun c41 => ?_) (fun c41 => ?_)
      · refine q_aload_n 0 dX11_fill_50 rfl ?_
        refine q_getR (f := 0) cl_X11 (by decide) qw_367 rfl dX11_fill_51 (fun _ _ _ => rfl) (fun v19 h20 => ?_)
        refine q_getR (f := 3) cl_X5 (by decide) qw_89 rfl dX11_fill_54 (fun _ _ _ => rfl) (fun v21 h22 => ?_)
        refine q_iload_n 1 dX11_fill_57 rfl ?_
        refine q_iconst (x := (0 : Int32)) dX11_fill_58 rfl ?_
        refine q_cVI (Y2 := Y_X9_at) (As := [.int a1, .int (0 : Int32)]) (b := v21) (st := []) cl_X9 mv_X9_at qw_442 dX11_fill_59 ⟨Nat.le_of_ble_eq_true rfl, Nat.le_of_ble_eq_true rfl⟩ rfl (fun _ _ => rfl) (Nat.le_of_ble_eq_true rfl) ⟨Nat.le_of_ble_eq_true rfl, Nat.le_of_ble_eq_true rfl⟩ (fun v24 h23 => q_ob_is h23) (fun v24 h23 => m_X9_at h23) (fun v24 h23 => ?_)
        refine q_aload_n 0 dX11_fill_62 rfl ?_
        refine q_getR (f := 0) cl_X11 (by decide) qw_367 rfl dX11_fill_63 (fun _ _ _ => rfl) (fun v25 h26 => ?_)
        refine q_getR (f := 1) cl_X5 (by decide) qw_80 rfl dX11_fill_66 (fun _ _ _ => rfl) (fun v27 h28 => ?_)
        refine q_iload_n 2 dX11_fill_69 rfl ?_
        refine q_iconst (x := (1 : Int32)) dX11_fill_70 rfl ?_
        refine q_cVI (Y2 := Y_X9_at) (As := [.int a2, .int (1 : Int32)]) (b := v27) (st := [.int v24]) cl_X9 mv_X9_at qw_442 dX11_fill_71 ⟨Nat.le_of_ble_eq_true rfl, Nat.le_of_ble_eq_true rfl⟩ rfl (fun _ _ => rfl) (Nat.le_of_ble_eq_true rfl) ⟨Nat.le_of_ble_eq_true rfl, Nat.le_of_ble_eq_true rfl⟩ (fun v30 h29 => q_ob_is h29) (fun v30 h29 => m_X9_at h29) (fun v30 h29 => ?_)
        refine q_isub dX11_fill_74 ?_
        refine q_istore_n (ls' := [(3, .int (v24 - v30)), (0, .ref a0), (1, .int a1), (2, .int a2)]) dX11_fill_75 (by decide) rfl ?_
        refine q_iload_n 0 dX11_fill_76 rfl ?_
        refine q_iconst (x := (0 : Int32)) dX11_fill_77 rfl ?_
        refine q_bipush (x := (9 : Int32)) dX11_fill_78 rfl ?_
        refine q_cSI (Y2 := Y_X11_within) (As := [.int (v24 - v30), .int (0 : Int32), .int (9 : Int32)]) (st := []) ms_X11_within qw_408 dX11_fill_80 ⟨Nat.le_of_ble_eq_true rfl, Nat.le_of_ble_eq_true rfl⟩ rfl (fun _ _ => rfl) (Nat.le_of_ble_eq_true rfl) ⟨Nat.le_of_ble_eq_true rfl, Nat.le_of_ble_eq_true rfl⟩ (fun v32 h31 => m_X11_within h31) (fun v32 h31 => ?_)
        refine q_if_ne (tgt := 89) dX11_fill_83 (by decide) (fun c40 => ?_) (fun c40 => ?_)
        · refine q_bipush (x := (-3 : Int32)) dX11_fill_86 rfl ?_
          exact q_iret dX11_fill_88 rfl rfl (Nat.le_of_ble_eq_true rfl) rfl
        · refine q_aload_n 1 dX11_fill_89 rfl ?_
          refine q_getR (f := 0) cl_X11 (by decide) qw_367 rfl dX11_fill_90 (fun _ _ _ => rfl) (fun v33 h34 => ?_)
          refine q_getR (f := 1) cl_X5 (by decide) qw_80 rfl dX11_fill_93 (fun _ _ _ => rfl) (fun v35 h36 => ?_)
          refine q_iload_n 3 dX11_fill_96 rfl ?_
          refine q_iconst (x := (3 : Int32)) dX11_fill_97 rfl ?_
          refine q_iload_n 2 dX11_fill_98 rfl ?_
          refine q_cVM (Y2 := Y_X9_put) (As := [.int a2, .int (3 : Int32), .int a1]) (b := v35) (st := []) cl_X9 mv_X9_put qw_415 dX11_fill_99 ⟨Nat.le_of_ble_eq_true rfl, Nat.le_of_ble_eq_true rfl⟩ rfl (fun _ _ => rfl) (Nat.le_of_ble_eq_true rfl) ⟨Nat.le_of_ble_eq_true rfl, Nat.le_of_ble_eq_true rfl⟩ (fun M39 h37 => q_ob_is h37) (fun M39 h37 => m_X9_put h37) (fun M39 h37 => ?_)
          refine q_iconst (x := (1 : Int32)) dX11_fill_102 rfl ?_
          exact q_iret dX11_fill_103 rfl rfl (Nat.le_of_ble_eq_true rfl) rfl
      · refine q_bipush (x := (-3 : Int32)) dX11_fill_47 rfl ?_
        exact q_iret dX11_fill_49 rfl rfl (Nat.le_of_ble_eq_true rfl) rfl
theorem dX11_about_0 : decode cX11_about 0 = .ok (.aload_n 0, 1) := by decide +kernel
theorem dX11_about_1 : decode cX11_about 1 = .ok (.getfield 12, 3) := by decide +kernel
theorem dX11_about_4 : decode cX11_about 4 = .ok (.getfield 165, 3) := by decide +kernel
theorem dX11_about_7 : decode cX11_about 7 = .ok (.iload_n 1, 1) := by decide +kernel
theorem dX11_about_8 : decode cX11_about 8 = .ok (.invokevirtual 117, 3) := by decide +kernel
theorem dX11_about_11 : decode cX11_about 11 = .ok (.ifCond .eq 10, 3) := by decide +kernel
theorem dX11_about_14 : decode cX11_about 14 = .ok (.iload_n 2, 1) := by decide +kernel
theorem dX11_about_15 : decode cX11_about 15 = .ok (.invokestatic 121, 3) := by decide +kernel
theorem dX11_about_18 : decode cX11_about 18 = .ok (.ifCond .ne 7, 3) := by decide +kernel
theorem dX11_about_21 : decode cX11_about 21 = .ok (.ldc2_w 159, 3) := by decide +kernel
theorem dX11_about_24 : decode cX11_about 24 = .ok (.lreturn, 1) := by decide +kernel
theorem dX11_about_25 : decode cX11_about 25 = .ok (.aload_n 0, 1) := by decide +kernel
theorem dX11_about_26 : decode cX11_about 26 = .ok (.getfield 29, 3) := by decide +kernel
theorem dX11_about_29 : decode cX11_about 29 = .ok (.iload_n 2, 1) := by decide +kernel
theorem dX11_about_30 : decode cX11_about 30 = .ok (.invokevirtual 148, 3) := by decide +kernel
theorem dX11_about_33 : decode cX11_about 33 = .ok (.iload_n 3, 1) := by decide +kernel
theorem dX11_about_34 : decode cX11_about 34 = .ok (.tableswitch 111 0 6 #[42, 52, 62, 72, 81, 91, 101], 42) := by decide +kernel
theorem dX11_about_76 : decode cX11_about 76 = .ok (.aload_n 0, 1) := by decide +kernel
theorem dX11_about_77 : decode cX11_about 77 = .ok (.getfield 38, 3) := by decide +kernel
theorem dX11_about_80 : decode cX11_about 80 = .ok (.iload_n 1, 1) := by decide +kernel
theorem dX11_about_81 : decode cX11_about 81 = .ok (.invokevirtual 168, 3) := by decide +kernel
theorem dX11_about_84 : decode cX11_about 84 = .ok (.i2l, 1) := by decide +kernel
theorem dX11_about_85 : decode cX11_about 85 = .ok (.lreturn, 1) := by decide +kernel
theorem dX11_about_86 : decode cX11_about 86 = .ok (.aload_n 0, 1) := by decide +kernel
theorem dX11_about_87 : decode cX11_about 87 = .ok (.getfield 38, 3) := by decide +kernel
theorem dX11_about_90 : decode cX11_about 90 = .ok (.iload_n 1, 1) := by decide +kernel
theorem dX11_about_91 : decode cX11_about 91 = .ok (.invokevirtual 171, 3) := by decide +kernel
theorem dX11_about_94 : decode cX11_about 94 = .ok (.i2l, 1) := by decide +kernel
theorem dX11_about_95 : decode cX11_about 95 = .ok (.lreturn, 1) := by decide +kernel
theorem dX11_about_96 : decode cX11_about 96 = .ok (.aload_n 0, 1) := by decide +kernel
theorem dX11_about_97 : decode cX11_about 97 = .ok (.getfield 38, 3) := by decide +kernel
theorem dX11_about_100 : decode cX11_about 100 = .ok (.iload_n 1, 1) := by decide +kernel
theorem dX11_about_101 : decode cX11_about 101 = .ok (.iconst (-1), 1) := by decide +kernel
theorem dX11_about_102 : decode cX11_about 102 = .ok (.invokevirtual 174, 3) := by decide +kernel
theorem dX11_about_105 : decode cX11_about 105 = .ok (.lreturn, 1) := by decide +kernel
theorem dX11_about_106 : decode cX11_about 106 = .ok (.aload_n 0, 1) := by decide +kernel
theorem dX11_about_107 : decode cX11_about 107 = .ok (.getfield 38, 3) := by decide +kernel
theorem dX11_about_110 : decode cX11_about 110 = .ok (.iload_n 1, 1) := by decide +kernel
theorem dX11_about_111 : decode cX11_about 111 = .ok (.invokevirtual 177, 3) := by decide +kernel
theorem dX11_about_114 : decode cX11_about 114 = .ok (.lreturn, 1) := by decide +kernel
theorem dX11_about_115 : decode cX11_about 115 = .ok (.aload_n 0, 1) := by decide +kernel
theorem dX11_about_116 : decode cX11_about 116 = .ok (.getfield 38, 3) := by decide +kernel
theorem dX11_about_119 : decode cX11_about 119 = .ok (.iload_n 1, 1) := by decide +kernel
theorem dX11_about_120 : decode cX11_about 120 = .ok (.invokevirtual 181, 3) := by decide +kernel
theorem dX11_about_123 : decode cX11_about 123 = .ok (.i2l, 1) := by decide +kernel
theorem dX11_about_124 : decode cX11_about 124 = .ok (.lreturn, 1) := by decide +kernel
theorem dX11_about_125 : decode cX11_about 125 = .ok (.aload_n 0, 1) := by decide +kernel
theorem dX11_about_126 : decode cX11_about 126 = .ok (.getfield 38, 3) := by decide +kernel
theorem dX11_about_129 : decode cX11_about 129 = .ok (.iload_n 1, 1) := by decide +kernel
theorem dX11_about_130 : decode cX11_about 130 = .ok (.invokevirtual 184, 3) := by decide +kernel
theorem dX11_about_133 : decode cX11_about 133 = .ok (.i2l, 1) := by decide +kernel
theorem dX11_about_134 : decode cX11_about 134 = .ok (.lreturn, 1) := by decide +kernel
theorem dX11_about_135 : decode cX11_about 135 = .ok (.aload_n 0, 1) := by decide +kernel
theorem dX11_about_136 : decode cX11_about 136 = .ok (.getfield 38, 3) := by decide +kernel
theorem dX11_about_139 : decode cX11_about 139 = .ok (.iload_n 1, 1) := by decide +kernel
theorem dX11_about_140 : decode cX11_about 140 = .ok (.iload_n 2, 1) := by decide +kernel
theorem dX11_about_141 : decode cX11_about 141 = .ok (.invokevirtual 187, 3) := by decide +kernel
theorem dX11_about_144 : decode cX11_about 144 = .ok (.lreturn, 1) := by decide +kernel
theorem dX11_about_145 : decode cX11_about 145 = .ok (.ldc2_w 159, 3) := by decide +kernel
theorem dX11_about_148 : decode cX11_about 148 = .ok (.lreturn, 1) := by decide +kernel
def f_X11_about (M : q_Mem) (a0 : Nat) (a1 : Int32) (a2 : Int32) (a3 : Int32) : Option (Int64 × q_Mem) :=
  q_ob 10 M a0 ((q_gR 10 0 M a0).bind fun v1 =>
  (q_gR 4 3 M v1).bind fun v3 =>
  (f_X9_has M v3 a1).bind fun v6 =>
  (if v6 = 0 then
    some ((-2 : Int64), M)
  else
    (f_X11_isDay M a2).bind fun v8 =>
    (if v8 = 0 then
      some ((-2 : Int64), M)
    else
      (q_gR 10 3 M a0).bind fun v9 =>
      (f_X6_learn M v9 a2).bind fun M13 =>
      (if a3 < 0 then
        some ((-2 : Int64), M13)
      else
       (if a3 = 0 then
        (q_gR 10 4 M13 a0).bind fun v16 =>
        (f_X4_howManyCans M13 v16 a1).bind fun v19 =>
        some (v19.toInt64, M13)
       else
       (if a3 = 1 then
        (q_gR 10 4 M13 a0).bind fun v22 =>
        (f_X4_lossOf M13 v22 a1).bind fun v25 =>
        some (v25.toInt64, M13)
       else
       (if a3 = 2 then
        (q_gR 10 4 M13 a0).bind fun v28 =>
        (f_X4_fatOf M13 v28 a1 (-1 : Int32)).bind fun v31 =>
        some (v31, M13)
       else
       (if a3 = 3 then
        (q_gR 10 4 M13 a0).bind fun v34 =>
        (f_X4_butterOf M13 v34 a1).bind fun v37 =>
        some (v37, M13)
       else
       (if a3 = 4 then
        (q_gR 10 4 M13 a0).bind fun v40 =>
        (f_X4_agrees M13 v40 a1).bind fun v43 =>
        some (v43.toInt64, M13)
       else
       (if a3 = 5 then
        (q_gR 10 4 M13 a0).bind fun v46 =>
        (f_X4_howManyBoxes M13 v46 a1).bind fun v49 =>
        some (v49.toInt64, M13)
       else
       (if a3 = 6 then
        (q_gR 10 4 M13 a0).bind fun v52 =>
        (f_X4_penceOf M13 v52 a1 a2).bind fun v55 =>
        some (v55, M13)
       else
       some ((-2 : Int64), M13))))))))))))
set_option maxRecDepth 20000 in
theorem m_X11_about {M : q_Mem} {a0 : Nat} {a1 : Int32} {a2 : Int32} {a3 : Int32} {x : (Int64 × q_Mem)} (h : f_X11_about M a0 a1 a2 a3 = some x) : q_C Y_X11_about [.ref a0, .int a1, .int a2, .int a3] M (some (.long x.1)) x.2 := by
  refine q_met (φ := (fun x : Int64 × q_Mem => (some (.long x.1), x.2))) (r := f_X11_about M a0 a1 a2 a3) (by decide +kernel) (Nat.le_of_ble_eq_true rfl) ?_ h (fun _ _ => rfl)
  show q_V Y_X11_about none (fun x : Int64 × q_Mem => (some (.long x.1), x.2)) 0 0 0 [(0, .ref a0), (1, .int a1), (2, .int a2), (3, .int a3)] [] M (f_X11_about M a0 a1 a2 a3)
  unfold f_X11_about
  refine q_obV ?_
  refine q_aload_n 0 dX11_about_0 rfl ?_
  refine q_getR (f := 0) cl_X11 (by decide) qw_367 rfl dX11_about_1 (fun _ _ _ => rfl) (fun v1 h2 => ?_)
  refine q_getR (f := 3) cl_X5 (by decide) qw_89 rfl dX11_about_4 (fun _ _ _ => rfl) (fun v3 h4 => ?_)
  refine q_iload_n 1 dX11_about_7 rfl ?_
  refine q_cVI (Y2 := Y_X9_has) (As := [.int a1]) (b := v3) (st := []) cl_X9 mv_X9_has qw_420 dX11_about_8 ⟨Nat.le_of_ble_eq_true rfl, Nat.le_of_ble_eq_true rfl⟩ rfl (fun _ _ => rfl) (Nat.le_of_ble_eq_true rfl) ⟨Nat.le_of_ble_eq_true rfl, Nat.le_of_ble_eq_true rfl⟩ (fun v6 h5 => q_ob_is h5) (fun v6 h5 => m_X9_has h5) (fun v6 h5 => ?_)
  refine q_if_eq (tgt := 21) dX11_about_11 (by decide) (fun c59 => ?_) (fun c59 => ?_)
  · refine q_ldc2 (x := (-2 : Int64)) qw_515 dX11_about_21 ?_
    exact q_lret dX11_about_24 rfl rfl (Nat.le_of_ble_eq_true rfl) rfl
  · refine q_iload_n 2 dX11_about_14 rfl ?_
    refine q_cSI (Y2 := Y_X11_isDay) (As := [.int a2]) (st := []) ms_X11_isDay qw_428 dX11_about_15 ⟨Nat.le_of_ble_eq_true rfl, Nat.le_of_ble_eq_true rfl⟩ rfl (fun _ _ => rfl) (Nat.le_of_ble_eq_true rfl) ⟨Nat.le_of_ble_eq_true rfl, Nat.le_of_ble_eq_true rfl⟩ (fun v8 h7 => m_X11_isDay h7) (fun v8 h7 => ?_)
    refine q_if_ne (tgt := 25) dX11_about_18 (by decide) (fun c58 => ?_) (fun c58 => ?_)
    · refine q_ldc2 (x := (-2 : Int64)) qw_515 dX11_about_21 ?_
      exact q_lret dX11_about_24 rfl rfl (Nat.le_of_ble_eq_true rfl) rfl
    · refine q_aload_n 0 dX11_about_25 rfl ?_
      refine q_getR (f := 3) cl_X11 (by decide) qw_370 rfl dX11_about_26 (fun _ _ _ => rfl) (fun v9 h10 => ?_)
      refine q_iload_n 2 dX11_about_29 rfl ?_
      refine q_cVM (Y2 := Y_X6_learn) (As := [.int a2]) (b := v9) (st := []) cl_X6 mv_X6_learn qw_491 dX11_about_30 ⟨Nat.le_of_ble_eq_true rfl, Nat.le_of_ble_eq_true rfl⟩ rfl (fun _ _ => rfl) (Nat.le_of_ble_eq_true rfl) ⟨Nat.le_of_ble_eq_true rfl, Nat.le_of_ble_eq_true rfl⟩ (fun M13 h11 => q_ob_is h11) (fun M13 h11 => m_X6_learn h11) (fun M13 h11 => ?_)
      refine q_iload_n 3 dX11_about_33 rfl ?_
      refine q_ifV (fun c14 => ?_) (fun c14 => ?_)
      · refine q_tabOut (tgt := 145) dX11_about_34 (Or.inl (q_lt c14 rfl)) (by decide) ?_
        refine q_ldc2 (x := (-2 : Int64)) qw_515 dX11_about_145 ?_
        exact q_lret dX11_about_148 rfl rfl (Nat.le_of_ble_eq_true rfl) rfl
      · have b15 := q_nlt (b := 0) c14 rfl
        refine q_ifV (fun c20 => ?_) (fun c20 => ?_)
        · refine q_tabIn (tgt := 76) 0 dX11_about_34 c20 (by decide) (by decide) rfl (by decide) ?_
          refine q_aload_n 0 dX11_about_76 rfl ?_
          refine q_getR (f := 4) cl_X11 (by decide) qw_371 rfl dX11_about_77 (fun _ _ _ => rfl) (fun v16 h17 => ?_)
          refine q_iload_n 1 dX11_about_80 rfl ?_
          refine q_cVI (Y2 := Y_X4_howManyCans) (As := [.int a1]) (b := v16) (st := []) cl_X4 mv_X4_howManyCans qw_537 dX11_about_81 ⟨Nat.le_of_ble_eq_true rfl, Nat.le_of_ble_eq_true rfl⟩ rfl (fun _ _ => rfl) (Nat.le_of_ble_eq_true rfl) ⟨Nat.le_of_ble_eq_true rfl, Nat.le_of_ble_eq_true rfl⟩ (fun v19 h18 => q_ob_is h18) (fun v19 h18 => m_X4_howManyCans h18) (fun v19 h18 => ?_)
          refine q_i2l dX11_about_84 ?_
          exact q_lret dX11_about_85 rfl rfl (Nat.le_of_ble_eq_true rfl) rfl
        · have b21 := q_step (c := 1) b15 c20 rfl (by decide)
          refine q_ifV (fun c26 => ?_) (fun c26 => ?_)
          · refine q_tabIn (tgt := 86) 1 dX11_about_34 c26 (by decide) (by decide) rfl (by decide) ?_
            refine q_aload_n 0 dX11_about_86 rfl ?_
            refine q_getR (f := 4) cl_X11 (by decide) qw_371 rfl dX11_about_87 (fun _ _ _ => rfl) (fun v22 h23 => ?_)
            refine q_iload_n 1 dX11_about_90 rfl ?_
            refine q_cVI (Y2 := Y_X4_lossOf) (As := [.int a1]) (b := v22) (st := []) cl_X4 mv_X4_lossOf qw_542 dX11_about_91 ⟨Nat.le_of_ble_eq_true rfl, Nat.le_of_ble_eq_true rfl⟩ rfl (fun _ _ => rfl) (Nat.le_of_ble_eq_true rfl) ⟨Nat.le_of_ble_eq_true rfl, Nat.le_of_ble_eq_true rfl⟩ (fun v25 h24 => q_ob_is h24) (fun v25 h24 => m_X4_lossOf h24) (fun v25 h24 => ?_)
            refine q_i2l dX11_about_94 ?_
            exact q_lret dX11_about_95 rfl rfl (Nat.le_of_ble_eq_true rfl) rfl
          · have b27 := q_step (c := 2) b21 c26 rfl (by decide)
            refine q_ifV (fun c32 => ?_) (fun c32 => ?_)
            · refine q_tabIn (tgt := 96) 2 dX11_about_34 c32 (by decide) (by decide) rfl (by decide) ?_
              refine q_aload_n 0 dX11_about_96 rfl ?_
              refine q_getR (f := 4) cl_X11 (by decide) qw_371 rfl dX11_about_97 (fun _ _ _ => rfl) (fun v28 h29 => ?_)
              refine q_iload_n 1 dX11_about_100 rfl ?_
              refine q_iconst (x := (-1 : Int32)) dX11_about_101 rfl ?_
              refine q_cVJ (Y2 := Y_X4_fatOf) (As := [.int a1, .int (-1 : Int32)]) (b := v28) (st := []) cl_X4 mv_X4_fatOf qw_550 dX11_about_102 ⟨Nat.le_of_ble_eq_true rfl, Nat.le_of_ble_eq_true rfl⟩ rfl (fun _ _ => rfl) (Nat.le_of_ble_eq_true rfl) ⟨Nat.le_of_ble_eq_true rfl, Nat.le_of_ble_eq_true rfl⟩ (fun v31 h30 => q_ob_is h30) (fun v31 h30 => m_X4_fatOf h30) (fun v31 h30 => ?_)
              exact q_lret dX11_about_105 rfl rfl (Nat.le_of_ble_eq_true rfl) rfl
            · have b33 := q_step (c := 3) b27 c32 rfl (by decide)
              refine q_ifV (fun c38 => ?_) (fun c38 => ?_)
              · refine q_tabIn (tgt := 106) 3 dX11_about_34 c38 (by decide) (by decide) rfl (by decide) ?_
                refine q_aload_n 0 dX11_about_106 rfl ?_
                refine q_getR (f := 4) cl_X11 (by decide) qw_371 rfl dX11_about_107 (fun _ _ _ => rfl) (fun v34 h35 => ?_)
                refine q_iload_n 1 dX11_about_110 rfl ?_
                refine q_cVJ (Y2 := Y_X4_butterOf) (As := [.int a1]) (b := v34) (st := []) cl_X4 mv_X4_butterOf qw_555 dX11_about_111 ⟨Nat.le_of_ble_eq_true rfl, Nat.le_of_ble_eq_true rfl⟩ rfl (fun _ _ => rfl) (Nat.le_of_ble_eq_true rfl) ⟨Nat.le_of_ble_eq_true rfl, Nat.le_of_ble_eq_true rfl⟩ (fun v37 h36 => q_ob_is h36) (fun v37 h36 => m_X4_butterOf h36) (fun v37 h36 => ?_)
                exact q_lret dX11_about_114 rfl rfl (Nat.le_of_ble_eq_true rfl) rfl
              · have b39 := q_step (c := 4) b33 c38 rfl (by decide)
                refine q_ifV (fun c44 => ?_) (fun c44 => ?_)
                · refine q_tabIn (tgt := 115) 4 dX11_about_34 c44 (by decide) (by decide) rfl (by decide) ?_
                  refine q_aload_n 0 dX11_about_115 rfl ?_
                  refine q_getR (f := 4) cl_X11 (by decide) qw_371 rfl dX11_about_116 (fun _ _ _ => rfl) (fun v40 h41 => ?_)
                  refine q_iload_n 1 dX11_about_119 rfl ?_
                  refine q_cVI (Y2 := Y_X4_agrees) (As := [.int a1]) (b := v40) (st := []) cl_X4 mv_X4_agrees qw_562 dX11_about_120 ⟨Nat.le_of_ble_eq_true rfl, Nat.le_of_ble_eq_true rfl⟩ rfl (fun _ _ => rfl) (Nat.le_of_ble_eq_true rfl) ⟨Nat.le_of_ble_eq_true rfl, Nat.le_of_ble_eq_true rfl⟩ (fun v43 h42 => q_ob_is h42) (fun v43 h42 => m_X4_agrees h42) (fun v43 h42 => ?_)
                  refine q_i2l dX11_about_123 ?_
                  exact q_lret dX11_about_124 rfl rfl (Nat.le_of_ble_eq_true rfl) rfl
                · have b45 := q_step (c := 5) b39 c44 rfl (by decide)
                  refine q_ifV (fun c50 => ?_) (fun c50 => ?_)
                  · refine q_tabIn (tgt := 125) 5 dX11_about_34 c50 (by decide) (by decide) rfl (by decide) ?_
                    refine q_aload_n 0 dX11_about_125 rfl ?_
                    refine q_getR (f := 4) cl_X11 (by decide) qw_371 rfl dX11_about_126 (fun _ _ _ => rfl) (fun v46 h47 => ?_)
                    refine q_iload_n 1 dX11_about_129 rfl ?_
                    refine q_cVI (Y2 := Y_X4_howManyBoxes) (As := [.int a1]) (b := v46) (st := []) cl_X4 mv_X4_howManyBoxes qw_572 dX11_about_130 ⟨Nat.le_of_ble_eq_true rfl, Nat.le_of_ble_eq_true rfl⟩ rfl (fun _ _ => rfl) (Nat.le_of_ble_eq_true rfl) ⟨Nat.le_of_ble_eq_true rfl, Nat.le_of_ble_eq_true rfl⟩ (fun v49 h48 => q_ob_is h48) (fun v49 h48 => m_X4_howManyBoxes h48) (fun v49 h48 => ?_)
                    refine q_i2l dX11_about_133 ?_
                    exact q_lret dX11_about_134 rfl rfl (Nat.le_of_ble_eq_true rfl) rfl
                  · have b51 := q_step (c := 6) b45 c50 rfl (by decide)
                    refine q_ifV (fun c56 => ?_) (fun c56 => ?_)
                    · refine q_tabIn (tgt := 135) 6 dX11_about_34 c56 (by decide) (by decide) rfl (by decide) ?_
                      refine q_aload_n 0 dX11_about_135 rfl ?_
                      refine q_getR (f := 4) cl_X11 (by decide) qw_371 rfl dX11_about_136 (fun _ _ _ => rfl) (fun v52 h53 => ?_)
                      refine q_iload_n 1 dX11_about_139 rfl ?_
                      refine q_iload_n 2 dX11_about_140 rfl ?_
                      refine q_cVJ (Y2 := Y_X4_penceOf) (As := [.int a1, .int a2]) (b := v52) (st := []) cl_X4 mv_X4_penceOf qw_576 dX11_about_141 ⟨Nat.le_of_ble_eq_true rfl, Nat.le_of_ble_eq_true rfl⟩ rfl (fun _ _ => rfl) (Nat.le_of_ble_eq_true rfl) ⟨Nat.le_of_ble_eq_true rfl, Nat.le_of_ble_eq_true rfl⟩ (fun v55 h54 => q_ob_is h54) (fun v55 h54 => m_X4_penceOf h54) (fun v55 h54 => ?_)
                      exact q_lret dX11_about_144 rfl rfl (Nat.le_of_ble_eq_true rfl) rfl
                    · have b57 := q_step (c := 7) b51 c56 rfl (by decide)
                      refine q_tabOut (tgt := 145) dX11_about_34 (Or.inr (Int.lt_of_lt_of_le (by decide) b57)) (by decide) ?_
                      refine q_ldc2 (x := (-2 : Int64)) qw_515 dX11_about_145 ?_
                      exact q_lret dX11_about_148 rfl rfl (Nat.le_of_ble_eq_true rfl) rfl
theorem dX11_out_0 : decode cX11_out 0 = .ok (.aload_n 0, 1) := by decide +kernel
theorem dX11_out_1 : decode cX11_out 1 = .ok (.getfield 12, 3) := by decide +kernel
theorem dX11_out_4 : decode cX11_out 4 = .ok (.getfield 165, 3) := by decide +kernel
theorem dX11_out_7 : decode cX11_out 7 = .ok (.iload_n 1, 1) := by decide +kernel
theorem dX11_out_8 : decode cX11_out 8 = .ok (.invokevirtual 117, 3) := by decide +kernel
theorem dX11_out_11 : decode cX11_out 11 = .ok (.ifCond .eq 13, 3) := by decide +kernel
theorem dX11_out_14 : decode cX11_out 14 = .ok (.iload_n 2, 1) := by decide +kernel
theorem dX11_out_15 : decode cX11_out 15 = .ok (.iconst 0, 1) := by decide +kernel
theorem dX11_out_16 : decode cX11_out 16 = .ok (.ldc 190, 2) := by decide +kernel
theorem dX11_out_18 : decode cX11_out 18 = .ok (.invokestatic 96, 3) := by decide +kernel
theorem dX11_out_21 : decode cX11_out 21 = .ok (.ifCond .ne 6, 3) := by decide +kernel
theorem dX11_out_24 : decode cX11_out 24 = .ok (.bipush (-2), 2) := by decide +kernel
theorem dX11_out_26 : decode cX11_out 26 = .ok (.ireturn, 1) := by decide +kernel
theorem dX11_out_27 : decode cX11_out 27 = .ok (.aload_n 0, 1) := by decide +kernel
theorem dX11_out_28 : decode cX11_out 28 = .ok (.getfield 12, 3) := by decide +kernel
theorem dX11_out_31 : decode cX11_out 31 = .ok (.getfield 165, 3) := by decide +kernel
theorem dX11_out_34 : decode cX11_out 34 = .ok (.iload_n 1, 1) := by decide +kernel
theorem dX11_out_35 : decode cX11_out 35 = .ok (.iconst 2, 1) := by decide +kernel
theorem dX11_out_36 : decode cX11_out 36 = .ok (.invokevirtual 133, 3) := by decide +kernel
theorem dX11_out_39 : decode cX11_out 39 = .ok (.iconst (-1), 1) := by decide +kernel
theorem dX11_out_40 : decode cX11_out 40 = .ok (.if_icmp .eq 6, 3) := by decide +kernel
theorem dX11_out_43 : decode cX11_out 43 = .ok (.bipush (-3), 2) := by decide +kernel
theorem dX11_out_45 : decode cX11_out 45 = .ok (.ireturn, 1) := by decide +kernel
theorem dX11_out_46 : decode cX11_out 46 = .ok (.aload_n 0, 1) := by decide +kernel
theorem dX11_out_47 : decode cX11_out 47 = .ok (.getfield 12, 3) := by decide +kernel
theorem dX11_out_50 : decode cX11_out 50 = .ok (.getfield 165, 3) := by decide +kernel
theorem dX11_out_53 : decode cX11_out 53 = .ok (.iload_n 1, 1) := by decide +kernel
theorem dX11_out_54 : decode cX11_out 54 = .ok (.iconst 2, 1) := by decide +kernel
theorem dX11_out_55 : decode cX11_out 55 = .ok (.iload_n 2, 1) := by decide +kernel
theorem dX11_out_56 : decode cX11_out 56 = .ok (.invokevirtual 113, 3) := by decide +kernel
theorem dX11_out_59 : decode cX11_out 59 = .ok (.iconst 1, 1) := by decide +kernel
theorem dX11_out_60 : decode cX11_out 60 = .ok (.ireturn, 1) := by decide +kernel
def f_X11_out (M : q_Mem) (a0 : Nat) (a1 : Int32) (a2 : Int32) : Option (Int32 × q_Mem) :=
  q_ob 10 M a0 ((q_gR 10 0 M a0).bind fun v1 =>
  (q_gR 4 3 M v1).bind fun v3 =>
  (f_X9_has M v3 a1).bind fun v6 =>
  (if v6 = 0 then
    some ((-2 : Int32), M)
  else
    (f_X11_within M a2 (0 : Int32) (300000000 : Int32)).bind fun v8 =>
    (if v8 = 0 then
      some ((-2 : Int32), M)
    else
      (q_gR 10 0 M a0).bind fun v9 =>
      (q_gR 4 3 M v9).bind fun v11 =>
      (f_X9_at M v11 a1 (2 : Int32)).bind fun v14 =>
      (if v14 = (-1 : Int32) then
        (q_gR 10 0 M a0).bind fun v15 =>
        (q_gR 4 3 M v15).bind fun v17 =>
        (f_X9_put M v17 a1 (2 : Int32) a2).bind fun M21 =>
        some ((1 : Int32), M21)
      else
        some ((-3 : Int32), M)))))
set_option maxRecDepth 20000 in
theorem m_X11_out {M : q_Mem} {a0 : Nat} {a1 : Int32} {a2 : Int32} {x : (Int32 × q_Mem)} (h : f_X11_out M a0 a1 a2 = some x) : q_C Y_X11_out [.ref a0, .int a1, .int a2] M (some (.int x.1)) x.2 := by
  refine q_met (φ := (fun x : Int32 × q_Mem => (some (.int x.1), x.2))) (r := f_X11_out M a0 a1 a2) (by decide +kernel) (Nat.le_of_ble_eq_true rfl) ?_ h (fun _ _ => rfl)
  show q_V Y_X11_out none (fun x : Int32 × q_Mem => (some (.int x.1), x.2)) 0 0 0 [(0, .ref a0), (1, .int a1), (2, .int a2)] [] M (f_X11_out M a0 a1 a2)
  unfold f_X11_out
  refine q_obV ?_
  refine q_aload_n 0 dX11_out_0 rfl ?_
  refine q_getR (f := 0) cl_X11 (by decide) qw_367 rfl dX11_out_1 (fun _ _ _ => rfl) (fun v1 h2 => ?_)
  refine q_getR (f := 3) cl_X5 (by decide) qw_89 rfl dX11_out_4 (fun _ _ _ => rfl) (fun v3 h4 => ?_)
  refine q_iload_n 1 dX11_out_7 rfl ?_
  refine q_cVI (Y2 := Y_X9_has) (As := [.int a1]) (b := v3) (st := []) cl_X9 mv_X9_has qw_420 dX11_out_8 ⟨Nat.le_of_ble_eq_true rfl, Nat.le_of_ble_eq_true rfl⟩ rfl (fun _ _ => rfl) (Nat.le_of_ble_eq_true rfl) ⟨Nat.le_of_ble_eq_true rfl, Nat.le_of_ble_eq_true rfl⟩ (fun v6 h5 => q_ob_is h5) (fun v6 h5 => m_X9_has h5) (fun v6 h5 => ?_)
  refine q_if_eq (tgt := 24) dX11_out_11 (by decide) (fun c24 => ?_) (fun c24 => ?_)
  · refine q_bipush (x := (-2 : Int32)) dX11_out_24 rfl ?_
    exact q_iret dX11_out_26 rfl rfl (Nat.le_of_ble_eq_true rfl) rfl
  · refine q_iload_n 2 dX11_out_14 rfl ?_
    refine q_iconst (x := (0 : Int32)) dX11_out_15 rfl ?_
    refine q_ldc (x := (300000000 : Int32)) qw_584 dX11_out_16 ?_
    refine q_cSI (Y2 := Y_X11_within) (As := [.int a2, .int (0 : Int32), .int (300000000 : Int32)]) (st := []) ms_X11_within qw_408 dX11_out_18 ⟨Nat.le_of_ble_eq_true rfl, Nat.le_of_ble_eq_true rfl⟩ rfl (fun _ _ => rfl) (Nat.le_of_ble_eq_true rfl) ⟨Nat.le_of_ble_eq_true rfl, Nat.le_of_ble_eq_true rfl⟩ (fun v8 h7 => m_X11_within h7) (fun v8 h7 => ?_)
    refine q_if_ne (tgt := 27) dX11_out_21 (by decide) (fun c23 => ?_) (fun c23 => ?_)
    · refine q_bipush (x := (-2 : Int32)) dX11_out_24 rfl ?_
      exact q_iret dX11_out_26 rfl rfl (Nat.le_of_ble_eq_true rfl) rfl
    · refine q_aload_n 0 dX11_out_27 rfl ?_
      refine q_getR (f := 0) cl_X11 (by decide) qw_367 rfl dX11_out_28 (fun _ _ _ => rfl) (fun v9 h10 => ?_)
      refine q_getR (f := 3) cl_X5 (by decide) qw_89 rfl dX11_out_31 (fun _ _ _ => rfl) (fun v11 h12 => ?_)
      refine q_iload_n 1 dX11_out_34 rfl ?_
      refine q_iconst (x := (2 : Int32)) dX11_out_35 rfl ?_
      refine q_cVI (Y2 := Y_X9_at) (As := [.int a1, .int (2 : Int32)]) (b := v11) (st := []) cl_X9 mv_X9_at qw_442 dX11_out_36 ⟨Nat.le_of_ble_eq_true rfl, Nat.le_of_ble_eq_true rfl⟩ rfl (fun _ _ => rfl) (Nat.le_of_ble_eq_true rfl) ⟨Nat.le_of_ble_eq_true rfl, Nat.le_of_ble_eq_true rfl⟩ (fun v14 h13 => q_ob_is h13) (fun v14 h13 => m_X9_at h13) (fun v14 h13 => ?_)
      refine q_iconst (x := (-1 : Int32)) dX11_out_39 rfl ?_
      refine q_icmp_eq (tgt := 46) dX11_out_40 (by decide) (fun c22 => ?_) (fun c22 => ?_)
      · refine q_aload_n 0 dX11_out_46 rfl ?_
        refine q_getR (f := 0) cl_X11 (by decide) qw_367 rfl dX11_out_47 (fun _ _ _ => rfl) (fun v15 h16 => ?_)
        refine q_getR (f := 3) cl_X5 (by decide) qw_89 rfl dX11_out_50 (fun _ _ _ => rfl) (fun v17 h18 => ?_)
        refine q_iload_n 1 dX11_out_53 rfl ?_
        refine q_iconst (x := (2 : Int32)) dX11_out_54 rfl ?_
        refine q_iload_n 2 dX11_out_55 rfl ?_
        refine q_cVM (Y2 := Y_X9_put) (As := [.int a1, .int (2 : Int32), .int a2]) (b := v17) (st := []) cl_X9 mv_X9_put qw_415 dX11_out_56 ⟨Nat.le_of_ble_eq_true rfl, Nat.le_of_ble_eq_true rfl⟩ rfl (fun _ _ => rfl) (Nat.le_of_ble_eq_true rfl) ⟨Nat.le_of_ble_eq_true rfl, Nat.le_of_ble_eq_true rfl⟩ (fun M21 h19 => q_ob_is h19) (fun M21 h19 => m_X9_put h19) (fun M21 h19 => ?_)
        refine q_iconst (x := (1 : Int32)) dX11_out_59 rfl ?_
        exact q_iret dX11_out_60 rfl rfl (Nat.le_of_ble_eq_true rfl) rfl
      · refine q_bipush (x := (-3 : Int32)) dX11_out_43 rfl ?_
        exact q_iret dX11_out_45 rfl rfl (Nat.le_of_ble_eq_true rfl) rfl
theorem dX11_box_0 : decode cX11_box 0 = .ok (.aload_n 0, 1) := by decide +kernel
theorem dX11_box_1 : decode cX11_box 1 = .ok (.getfield 12, 3) := by decide +kernel
theorem dX11_box_4 : decode cX11_box 4 = .ok (.getfield 165, 3) := by decide +kernel
theorem dX11_box_7 : decode cX11_box 7 = .ok (.iload_n 1, 1) := by decide +kernel
theorem dX11_box_8 : decode cX11_box 8 = .ok (.invokevirtual 117, 3) := by decide +kernel
theorem dX11_box_11 : decode cX11_box 11 = .ok (.ifCond .ne 6, 3) := by decide +kernel
theorem dX11_box_14 : decode cX11_box 14 = .ok (.bipush (-2), 2) := by decide +kernel
theorem dX11_box_16 : decode cX11_box 16 = .ok (.ireturn, 1) := by decide +kernel
theorem dX11_box_17 : decode cX11_box 17 = .ok (.aload_n 0, 1) := by decide +kernel
theorem dX11_box_18 : decode cX11_box 18 = .ok (.getfield 12, 3) := by decide +kernel
theorem dX11_box_21 : decode cX11_box 21 = .ok (.getfield 191, 3) := by decide +kernel
theorem dX11_box_24 : decode cX11_box 24 = .ok (.iload_n 1, 1) := by decide +kernel
theorem dX11_box_25 : decode cX11_box 25 = .ok (.iconst (-1), 1) := by decide +kernel
theorem dX11_box_26 : decode cX11_box 26 = .ok (.iconst (-1), 1) := by decide +kernel
theorem dX11_box_27 : decode cX11_box 27 = .ok (.invokevirtual 103, 3) := by decide +kernel
theorem dX11_box_30 : decode cX11_box 30 = .ok (.ireturn, 1) := by decide +kernel
def f_X11_box (M : q_Mem) (a0 : Nat) (a1 : Int32) : Option (Int32 × q_Mem) :=
  q_ob 10 M a0 ((q_gR 10 0 M a0).bind fun v1 =>
  (q_gR 4 3 M v1).bind fun v3 =>
  (f_X9_has M v3 a1).bind fun v6 =>
  (if v6 = 0 then
    some ((-2 : Int32), M)
  else
    (q_gR 10 0 M a0).bind fun v7 =>
    (q_gR 4 4 M v7).bind fun v9 =>
    (f_X9_come M v9 a1 (-1 : Int32) (-1 : Int32)).bind fun r12 =>
    some (r12.1, r12.2)))
set_option maxRecDepth 20000 in
theorem m_X11_box {M : q_Mem} {a0 : Nat} {a1 : Int32} {x : (Int32 × q_Mem)} (h : f_X11_box M a0 a1 = some x) : q_C Y_X11_box [.ref a0, .int a1] M (some (.int x.1)) x.2 := by
  refine q_met (φ := (fun x : Int32 × q_Mem => (some (.int x.1), x.2))) (r := f_X11_box M a0 a1) (by decide +kernel) (Nat.le_of_ble_eq_true rfl) ?_ h (fun _ _ => rfl)
  show q_V Y_X11_box none (fun x : Int32 × q_Mem => (some (.int x.1), x.2)) 0 0 0 [(0, .ref a0), (1, .int a1)] [] M (f_X11_box M a0 a1)
  unfold f_X11_box
  refine q_obV ?_
  refine q_aload_n 0 dX11_box_0 rfl ?_
  refine q_getR (f := 0) cl_X11 (by decide) qw_367 rfl dX11_box_1 (fun _ _ _ => rfl) (fun v1 h2 => ?_)
  refine q_getR (f := 3) cl_X5 (by decide) qw_89 rfl dX11_box_4 (fun _ _ _ => rfl) (fun v3 h4 => ?_)
  refine q_iload_n 1 dX11_box_7 rfl ?_
  refine q_cVI (Y2 := Y_X9_has) (As := [.int a1]) (b := v3) (st := []) cl_X9 mv_X9_has qw_420 dX11_box_8 ⟨Nat.le_of_ble_eq_true rfl, Nat.le_of_ble_eq_true rfl⟩ rfl (fun _ _ => rfl) (Nat.le_of_ble_eq_true rfl) ⟨Nat.le_of_ble_eq_true rfl, Nat.le_of_ble_eq_true rfl⟩ (fun v6 h5 => q_ob_is h5) (fun v6 h5 => m_X9_has h5) (fun v6 h5 => ?_)
  refine q_if_ne (tgt := 17) dX11_box_11 (by decide) (fun c13 => ?_) (fun c13 => ?_)
  · refine q_bipush (x := (-2 : Int32)) dX11_box_14 rfl ?_
    exact q_iret dX11_box_16 rfl rfl (Nat.le_of_ble_eq_true rfl) rfl
  · refine q_aload_n 0 dX11_box_17 rfl ?_
    refine q_getR (f := 0) cl_X11 (by decide) qw_367 rfl dX11_box_18 (fun _ _ _ => rfl) (fun v7 h8 => ?_)
    refine q_getR (f := 4) cl_X5 (by decide) qw_93 rfl dX11_box_21 (fun _ _ _ => rfl) (fun v9 h10 => ?_)
    refine q_iload_n 1 dX11_box_24 rfl ?_
    refine q_iconst (x := (-1 : Int32)) dX11_box_25 rfl ?_
    refine q_iconst (x := (-1 : Int32)) dX11_box_26 rfl ?_
    refine q_cVMI (Y2 := Y_X9_come) (As := [.int a1, .int (-1 : Int32), .int (-1 : Int32)]) (b := v9) (st := []) cl_X9 mv_X9_come qw_411 dX11_box_27 ⟨Nat.le_of_ble_eq_true rfl, Nat.le_of_ble_eq_true rfl⟩ rfl (fun _ _ => rfl) (Nat.le_of_ble_eq_true rfl) ⟨Nat.le_of_ble_eq_true rfl, Nat.le_of_ble_eq_true rfl⟩ (fun r12 h11 => q_ob_is h11) (fun r12 h11 => m_X9_come h11) (fun r12 h11 => ?_)
    exact q_iret dX11_box_30 rfl rfl (Nat.le_of_ble_eq_true rfl) rfl
theorem dX11_sell_0 : decode cX11_sell 0 = .ok (.aload_n 0, 1) := by decide +kernel
theorem dX11_sell_1 : decode cX11_sell 1 = .ok (.getfield 12, 3) := by decide +kernel
theorem dX11_sell_4 : decode cX11_sell 4 = .ok (.getfield 191, 3) := by decide +kernel
theorem dX11_sell_7 : decode cX11_sell 7 = .ok (.astore 4, 2) := by decide +kernel
theorem dX11_sell_9 : decode cX11_sell 9 = .ok (.aload 4, 2) := by decide +kernel
theorem dX11_sell_11 : decode cX11_sell 11 = .ok (.iload_n 1, 1) := by decide +kernel
theorem dX11_sell_12 : decode cX11_sell 12 = .ok (.invokevirtual 117, 3) := by decide +kernel
theorem dX11_sell_15 : decode cX11_sell 15 = .ok (.ifCond .eq 13, 3) := by decide +kernel
theorem dX11_sell_18 : decode cX11_sell 18 = .ok (.iload_n 2, 1) := by decide +kernel
theorem dX11_sell_19 : decode cX11_sell 19 = .ok (.iconst 0, 1) := by decide +kernel
theorem dX11_sell_20 : decode cX11_sell 20 = .ok (.ldc 194, 2) := by decide +kernel
theorem dX11_sell_22 : decode cX11_sell 22 = .ok (.invokestatic 96, 3) := by decide +kernel
theorem dX11_sell_25 : decode cX11_sell 25 = .ok (.ifCond .ne 6, 3) := by decide +kernel
theorem dX11_sell_28 : decode cX11_sell 28 = .ok (.bipush (-2), 2) := by decide +kernel
theorem dX11_sell_30 : decode cX11_sell 30 = .ok (.ireturn, 1) := by decide +kernel
theorem dX11_sell_31 : decode cX11_sell 31 = .ok (.aload_n 0, 1) := by decide +kernel
theorem dX11_sell_32 : decode cX11_sell 32 = .ok (.getfield 12, 3) := by decide +kernel
theorem dX11_sell_35 : decode cX11_sell 35 = .ok (.getfield 165, 3) := by decide +kernel
theorem dX11_sell_38 : decode cX11_sell 38 = .ok (.aload 4, 2) := by decide +kernel
theorem dX11_sell_40 : decode cX11_sell 40 = .ok (.iload_n 1, 1) := by decide +kernel
theorem dX11_sell_41 : decode cX11_sell 41 = .ok (.iconst 0, 1) := by decide +kernel
theorem dX11_sell_42 : decode cX11_sell 42 = .ok (.invokevirtual 133, 3) := by decide +kernel
theorem dX11_sell_45 : decode cX11_sell 45 = .ok (.iconst 0, 1) := by decide +kernel
theorem dX11_sell_46 : decode cX11_sell 46 = .ok (.invokevirtual 133, 3) := by decide +kernel
theorem dX11_sell_49 : decode cX11_sell 49 = .ok (.istore 5, 2) := by decide +kernel
theorem dX11_sell_51 : decode cX11_sell 51 = .ok (.iload_n 3, 1) := by decide +kernel
theorem dX11_sell_52 : decode cX11_sell 52 = .ok (.iload 5, 2) := by decide +kernel
theorem dX11_sell_54 : decode cX11_sell 54 = .ok (.sipush 195, 3) := by decide +kernel
theorem dX11_sell_57 : decode cX11_sell 57 = .ok (.invokestatic 96, 3) := by decide +kernel
theorem dX11_sell_60 : decode cX11_sell 60 = .ok (.ifCond .ne 6, 3) := by decide +kernel
theorem dX11_sell_63 : decode cX11_sell 63 = .ok (.bipush (-2), 2) := by decide +kernel
theorem dX11_sell_65 : decode cX11_sell 65 = .ok (.ireturn, 1) := by decide +kernel
theorem dX11_sell_66 : decode cX11_sell 66 = .ok (.aload 4, 2) := by decide +kernel
theorem dX11_sell_68 : decode cX11_sell 68 = .ok (.iload_n 1, 1) := by decide +kernel
theorem dX11_sell_69 : decode cX11_sell 69 = .ok (.iconst 2, 1) := by decide +kernel
theorem dX11_sell_70 : decode cX11_sell 70 = .ok (.invokevirtual 133, 3) := by decide +kernel
theorem dX11_sell_73 : decode cX11_sell 73 = .ok (.iconst (-1), 1) := by decide +kernel
theorem dX11_sell_74 : decode cX11_sell 74 = .ok (.if_icmp .eq 6, 3) := by decide +kernel
theorem dX11_sell_77 : decode cX11_sell 77 = .ok (.bipush (-3), 2) := by decide +kernel
theorem dX11_sell_79 : decode cX11_sell 79 = .ok (.ireturn, 1) := by decide +kernel
theorem dX11_sell_80 : decode cX11_sell 80 = .ok (.aload 4, 2) := by decide +kernel
theorem dX11_sell_82 : decode cX11_sell 82 = .ok (.iload_n 1, 1) := by decide +kernel
theorem dX11_sell_83 : decode cX11_sell 83 = .ok (.iconst 1, 1) := by decide +kernel
theorem dX11_sell_84 : decode cX11_sell 84 = .ok (.iload_n 2, 1) := by decide +kernel
theorem dX11_sell_85 : decode cX11_sell 85 = .ok (.invokevirtual 113, 3) := by decide +kernel
theorem dX11_sell_88 : decode cX11_sell 88 = .ok (.aload 4, 2) := by decide +kernel
theorem dX11_sell_90 : decode cX11_sell 90 = .ok (.iload_n 1, 1) := by decide +kernel
theorem dX11_sell_91 : decode cX11_sell 91 = .ok (.iconst 2, 1) := by decide +kernel
theorem dX11_sell_92 : decode cX11_sell 92 = .ok (.iload_n 3, 1) := by decide +kernel
theorem dX11_sell_93 : decode cX11_sell 93 = .ok (.invokevirtual 113, 3) := by decide +kernel
theorem dX11_sell_96 : decode cX11_sell 96 = .ok (.iconst 1, 1) := by decide +kernel
theorem dX11_sell_97 : decode cX11_sell 97 = .ok (.ireturn, 1) := by decide +kernel
def f_X11_sell (M : q_Mem) (a0 : Nat) (a1 : Int32) (a2 : Int32) (a3 : Int32) : Option (Int32 × q_Mem) :=
  q_ob 10 M a0 ((q_gR 10 0 M a0).bind fun v1 =>
  (q_gR 4 4 M v1).bind fun v3 =>
  (f_X9_has M v3 a1).bind fun v6 =>
  (if v6 = 0 then
    some ((-2 : Int32), M)
  else
    (f_X11_within M a2 (0 : Int32) (1000000 : Int32)).bind fun v8 =>
    (if v8 = 0 then
      some ((-2 : Int32), M)
    else
      (q_gR 10 0 M a0).bind fun v9 =>
      (q_gR 4 3 M v9).bind fun v11 =>
      (f_X9_at M v3 a1 (0 : Int32)).bind fun v14 =>
      (f_X9_at M v11 v14 (0 : Int32)).bind fun v16 =>
      (f_X11_within M a3 v16 (195 : Int32)).bind fun v18 =>
      (if v18 = 0 then
        some ((-2 : Int32), M)
      else
        (f_X9_at M v3 a1 (2 : Int32)).bind fun v20 =>
        (if v20 = (-1 : Int32) then
          (f_X9_put M v3 a1 (1 : Int32) a2).bind fun M23 =>
          (f_X9_put M23 v3 a1 (2 : Int32) a3).bind fun M26 =>
          some ((1 : Int32), M26)
        else
          some ((-3 : Int32), M))))))
set_option maxRecDepth 20000 in
theorem m_X11_sell {M : q_Mem} {a0 : Nat} {a1 : Int32} {a2 : Int32} {a3 : Int32} {x : (Int32 × q_Mem)} (h : f_X11_sell M a0 a1 a2 a3 = some x) : q_C Y_X11_sell [.ref a0, .int a1, .int a2, .int a3] M (some (.int x.1)) x.2 := by
  refine q_met (φ := (fun x : Int32 × q_Mem => (some (.int x.1), x.2))) (r := f_X11_sell M a0 a1 a2 a3) (by decide +kernel) (Nat.le_of_ble_eq_true rfl) ?_ h (fun _ _ => rfl)
  show q_V Y_X11_sell none (fun x : Int32 × q_Mem => (some (.int x.1), x.2)) 0 0 0 [(0, .ref a0), (1, .int a1), (2, .int a2), (3, .int a3)] [] M (f_X11_sell M a0 a1 a2 a3)
  unfold f_X11_sell
  refine q_obV ?_
  refine q_aload_n 0 dX11_sell_0 rfl ?_
  refine q_getR (f := 0) cl_X11 (by decide) qw_367 rfl dX11_sell_1 (fun _ _ _ => rfl) (fun v1 h2 => ?_)
  refine q_getR (f := 4) cl_X5 (by decide) qw_93 rfl dX11_sell_4 (fun _ _ _ => rfl) (fun v3 h4 => ?_)
  refine q_astore (ls' := [(4, .ref v3), (0, .ref a0), (1, .int a1), (2, .int a2), (3, .int a3)]) dX11_sell_7 (by decide) rfl ?_
  refine q_aload 0 dX11_sell_9 rfl ?_
  refine q_iload_n 2 dX11_sell_11 rfl ?_
  refine q_cVI (Y2 := Y_X9_has) (As := [.int a1]) (b := v3) (st := []) cl_X9 mv_X9_has qw_420 dX11_sell_12 ⟨Nat.le_of_ble_eq_true rfl, Nat.le_of_ble_eq_true rfl⟩ rfl (fun _ _ => rfl) (Nat.le_of_ble_eq_true rfl) ⟨Nat.le_of_ble_eq_true rfl, Nat.le_of_ble_eq_true rfl⟩ (fun v6 h5 => q_ob_is h5) (fun v6 h5 => m_X9_has h5) (fun v6 h5 => ?_)
  refine q_if_eq (tgt := 28) dX11_sell_15 (by decide) (fun c30 => ?_) (fun c30 => ?_)
  · refine q_bipush (x := (-2 : Int32)) dX11_sell_28 rfl ?_
    exact q_iret dX11_sell_30 rfl rfl (Nat.le_of_ble_eq_true rfl) rfl
  · refine q_iload_n 3 dX11_sell_18 rfl ?_
    refine q_iconst (x := (0 : Int32)) dX11_sell_19 rfl ?_
    refine q_ldc (x := (1000000 : Int32)) qw_593 dX11_sell_20 ?_
    refine q_cSI (Y2 := Y_X11_within) (As := [.int a2, .int (0 : Int32), .int (1000000 : Int32)]) (st := []) ms_X11_within qw_408 dX11_sell_22 ⟨Nat.le_of_ble_eq_true rfl, Nat.le_of_ble_eq_true rfl⟩ rfl (fun _ _ => rfl) (Nat.le_of_ble_eq_true rfl) ⟨Nat.le_of_ble_eq_true rfl, Nat.le_of_ble_eq_true rfl⟩ (fun v8 h7 => m_X11_within h7) (fun v8 h7 => ?_)
    refine q_if_ne (tgt := 31) dX11_sell_25 (by decide) (fun c29 => ?_) (fun c29 => ?_)
    · refine q_bipush (x := (-2 : Int32)) dX11_sell_28 rfl ?_
      exact q_iret dX11_sell_30 rfl rfl (Nat.le_of_ble_eq_true rfl) rfl
    · refine q_aload_n 1 dX11_sell_31 rfl ?_
      refine q_getR (f := 0) cl_X11 (by decide) qw_367 rfl dX11_sell_32 (fun _ _ _ => rfl) (fun v9 h10 => ?_)
      refine q_getR (f := 3) cl_X5 (by decide) qw_89 rfl dX11_sell_35 (fun _ _ _ => rfl) (fun v11 h12 => ?_)
      refine q_aload 0 dX11_sell_38 rfl ?_
      refine q_iload_n 2 dX11_sell_40 rfl ?_
      refine q_iconst (x := (0 : Int32)) dX11_sell_41 rfl ?_
      refine q_cVI (Y2 := Y_X9_at) (As := [.int a1, .int (0 : Int32)]) (b := v3) (st := [.ref v11]) cl_X9 mv_X9_at qw_442 dX11_sell_42 ⟨Nat.le_of_ble_eq_true rfl, Nat.le_of_ble_eq_true rfl⟩ rfl (fun _ _ => rfl) (Nat.le_of_ble_eq_true rfl) ⟨Nat.le_of_ble_eq_true rfl, Nat.le_of_ble_eq_true rfl⟩ (fun v14 h13 => q_ob_is h13) (fun v14 h13 => m_X9_at h13) (fun v14 h13 => ?_)
      refine q_iconst (x := (0 : Int32)) dX11_sell_45 rfl ?_
      refine q_cVI (Y2 := Y_X9_at) (As := [.int v14, .int (0 : Int32)]) (b := v11) (st := []) cl_X9 mv_X9_at qw_442 dX11_sell_46 ⟨Nat.le_of_ble_eq_true rfl, Nat.le_of_ble_eq_true rfl⟩ rfl (fun _ _ => rfl) (Nat.le_of_ble_eq_true rfl) ⟨Nat.le_of_ble_eq_true rfl, Nat.le_of_ble_eq_true rfl⟩ (fun v16 h15 => q_ob_is h15) (fun v16 h15 => m_X9_at h15) (fun v16 h15 => ?_)
      refine q_istore (ls' := [(5, .int v16), (4, .ref v3), (0, .ref a0), (1, .int a1), (2, .int a2), (3, .int a3)]) dX11_sell_49 (by decide) rfl ?_
      refine q_iload_n 5 dX11_sell_51 rfl ?_
      refine q_iload 0 dX11_sell_52 rfl ?_
      refine q_sipush (x := (195 : Int32)) dX11_sell_54 rfl ?_
      refine q_cSI (Y2 := Y_X11_within) (As := [.int a3, .int v16, .int (195 : Int32)]) (st := []) ms_X11_within qw_408 dX11_sell_57 ⟨Nat.le_of_ble_eq_true rfl, Nat.le_of_ble_eq_true rfl⟩ rfl (fun _ _ => rfl) (Nat.le_of_ble_eq_true rfl) ⟨Nat.le_of_ble_eq_true rfl, Nat.le_of_ble_eq_true rfl⟩ (fun v18 h17 => m_X11_within h17) (fun v18 h17 => ?_)
      refine q_if_ne (tgt := 66) dX11_sell_60 (by decide) (fun c28 => ?_) (fun c28 => ?_)
      · refine q_bipush (x := (-2 : Int32)) dX11_sell_63 rfl ?_
        exact q_iret dX11_sell_65 rfl rfl (Nat.le_of_ble_eq_true rfl) rfl
      · refine q_aload 1 dX11_sell_66 rfl ?_
        refine q_iload_n 3 dX11_sell_68 rfl ?_
        refine q_iconst (x := (2 : Int32)) dX11_sell_69 rfl ?_
        refine q_cVI (Y2 := Y_X9_at) (As := [.int a1, .int (2 : Int32)]) (b := v3) (st := []) cl_X9 mv_X9_at qw_442 dX11_sell_70 ⟨Nat.le_of_ble_eq_true rfl, Nat.le_of_ble_eq_true rfl⟩ rfl (fun _ _ => rfl) (Nat.le_of_ble_eq_true rfl) ⟨Nat.le_of_ble_eq_true rfl, Nat.le_of_ble_eq_true rfl⟩ (fun v20 h19 => q_ob_is h19) (fun v20 h19 => m_X9_at h19) (fun v20 h19 => ?_)
        refine q_iconst (x := (-1 : Int32)) dX11_sell_73 rfl ?_
        refine q_icmp_eq (tgt := 80) dX11_sell_74 (by decide) (fun c27 => ?_) (fun c27 => ?_)
        · refine q_aload 1 dX11_sell_80 rfl ?_
          refine q_iload_n 3 dX11_sell_82 rfl ?_
          refine q_iconst (x := (1 : Int32)) dX11_sell_83 rfl ?_
          refine q_iload_n 4 dX11_sell_84 rfl ?_
          refine q_cVM (Y2 := Y_X9_put) (As := [.int a1, .int (1 : Int32), .int a2]) (b := v3) (st := []) cl_X9 mv_X9_put qw_415 dX11_sell_85 ⟨Nat.le_of_ble_eq_true rfl, Nat.le_of_ble_eq_true rfl⟩ rfl (fun _ _ => rfl) (Nat.le_of_ble_eq_true rfl) ⟨Nat.le_of_ble_eq_true rfl, Nat.le_of_ble_eq_true rfl⟩ (fun M23 h21 => q_ob_is h21) (fun M23 h21 => m_X9_put h21) (fun M23 h21 => ?_)
          refine q_aload 1 dX11_sell_88 rfl ?_
          refine q_iload_n 3 dX11_sell_90 rfl ?_
          refine q_iconst (x := (2 : Int32)) dX11_sell_91 rfl ?_
          refine q_iload_n 5 dX11_sell_92 rfl ?_
          refine q_cVM (Y2 := Y_X9_put) (As := [.int a1, .int (2 : Int32), .int a3]) (b := v3) (st := []) cl_X9 mv_X9_put qw_415 dX11_sell_93 ⟨Nat.le_of_ble_eq_true rfl, Nat.le_of_ble_eq_true rfl⟩ rfl (fun _ _ => rfl) (Nat.le_of_ble_eq_true rfl) ⟨Nat.le_of_ble_eq_true rfl, Nat.le_of_ble_eq_true rfl⟩ (fun M26 h24 => q_ob_is h24) (fun M26 h24 => m_X9_put h24) (fun M26 h24 => ?_)
          refine q_iconst (x := (1 : Int32)) dX11_sell_96 rfl ?_
          exact q_iret dX11_sell_97 rfl rfl (Nat.le_of_ble_eq_true rfl) rfl
        · refine q_bipush (x := (-3 : Int32)) dX11_sell_77 rfl ?_
          exact q_iret dX11_sell_79 rfl rfl (Nat.le_of_ble_eq_true rfl) rfl
theorem dX11_grade_0 : decode cX11_grade 0 = .ok (.aload_n 0, 1) := by decide +kernel
theorem dX11_grade_1 : decode cX11_grade 1 = .ok (.getfield 12, 3) := by decide +kernel
theorem dX11_grade_4 : decode cX11_grade 4 = .ok (.getfield 191, 3) := by decide +kernel
theorem dX11_grade_7 : decode cX11_grade 7 = .ok (.iload_n 1, 1) := by decide +kernel
theorem dX11_grade_8 : decode cX11_grade 8 = .ok (.invokevirtual 117, 3) := by decide +kernel
theorem dX11_grade_11 : decode cX11_grade 11 = .ok (.ifCond .eq 22, 3) := by decide +kernel
theorem dX11_grade_14 : decode cX11_grade 14 = .ok (.iload_n 2, 1) := by decide +kernel
theorem dX11_grade_15 : decode cX11_grade 15 = .ok (.iconst 0, 1) := by decide +kernel
theorem dX11_grade_16 : decode cX11_grade 16 = .ok (.iconst 1, 1) := by decide +kernel
theorem dX11_grade_17 : decode cX11_grade 17 = .ok (.invokestatic 96, 3) := by decide +kernel
theorem dX11_grade_20 : decode cX11_grade 20 = .ok (.ifCond .eq 13, 3) := by decide +kernel
theorem dX11_grade_23 : decode cX11_grade 23 = .ok (.iload_n 3, 1) := by decide +kernel
theorem dX11_grade_24 : decode cX11_grade 24 = .ok (.iconst 0, 1) := by decide +kernel
theorem dX11_grade_25 : decode cX11_grade 25 = .ok (.bipush 100, 2) := by decide +kernel
theorem dX11_grade_27 : decode cX11_grade 27 = .ok (.invokestatic 96, 3) := by decide +kernel
theorem dX11_grade_30 : decode cX11_grade 30 = .ok (.ifCond .ne 6, 3) := by decide +kernel
theorem dX11_grade_33 : decode cX11_grade 33 = .ok (.bipush (-2), 2) := by decide +kernel
theorem dX11_grade_35 : decode cX11_grade 35 = .ok (.ireturn, 1) := by decide +kernel
theorem dX11_grade_36 : decode cX11_grade 36 = .ok (.aload_n 0, 1) := by decide +kernel
theorem dX11_grade_37 : decode cX11_grade 37 = .ok (.getfield 12, 3) := by decide +kernel
theorem dX11_grade_40 : decode cX11_grade 40 = .ok (.getfield 191, 3) := by decide +kernel
theorem dX11_grade_43 : decode cX11_grade 43 = .ok (.iload_n 1, 1) := by decide +kernel
theorem dX11_grade_44 : decode cX11_grade 44 = .ok (.iconst 3, 1) := by decide +kernel
theorem dX11_grade_45 : decode cX11_grade 45 = .ok (.iload_n 2, 1) := by decide +kernel
theorem dX11_grade_46 : decode cX11_grade 46 = .ok (.iadd, 1) := by decide +kernel
theorem dX11_grade_47 : decode cX11_grade 47 = .ok (.invokevirtual 133, 3) := by decide +kernel
theorem dX11_grade_50 : decode cX11_grade 50 = .ok (.istore 4, 2) := by decide +kernel
theorem dX11_grade_52 : decode cX11_grade 52 = .ok (.aload_n 0, 1) := by decide +kernel
theorem dX11_grade_53 : decode cX11_grade 53 = .ok (.getfield 12, 3) := by decide +kernel
theorem dX11_grade_56 : decode cX11_grade 56 = .ok (.getfield 191, 3) := by decide +kernel
theorem dX11_grade_59 : decode cX11_grade 59 = .ok (.iload_n 1, 1) := by decide +kernel
theorem dX11_grade_60 : decode cX11_grade 60 = .ok (.iconst 3, 1) := by decide +kernel
theorem dX11_grade_61 : decode cX11_grade 61 = .ok (.iload_n 2, 1) := by decide +kernel
theorem dX11_grade_62 : decode cX11_grade 62 = .ok (.iadd, 1) := by decide +kernel
theorem dX11_grade_63 : decode cX11_grade 63 = .ok (.iload_n 3, 1) := by decide +kernel
theorem dX11_grade_64 : decode cX11_grade 64 = .ok (.invokevirtual 113, 3) := by decide +kernel
theorem dX11_grade_67 : decode cX11_grade 67 = .ok (.iload 4, 2) := by decide +kernel
theorem dX11_grade_69 : decode cX11_grade 69 = .ok (.ireturn, 1) := by decide +kernel
def f_X11_grade (M : q_Mem) (a0 : Nat) (a1 : Int32) (a2 : Int32) (a3 : Int32) : Option (Int32 × q_Mem) :=
  q_ob 10 M a0 ((q_gR 10 0 M a0).bind fun v1 =>
  (q_gR 4 4 M v1).bind fun v3 =>
  (f_X9_has M v3 a1).bind fun v6 =>
  (if v6 = 0 then
    some ((-2 : Int32), M)
  else
    (f_X11_within M a2 (0 : Int32) (1 : Int32)).bind fun v8 =>
    (if v8 = 0 then
      some ((-2 : Int32), M)
    else
      (f_X11_within M a3 (0 : Int32) (100 : Int32)).bind fun v10 =>
      (if v10 = 0 then
        some ((-2 : Int32), M)
      else
        (q_gR 10 0 M a0).bind fun v11 =>
        (q_gR 4 4 M v11).bind fun v13 =>
        (f_X9_at M v13 a1 ((3 : Int32) + a2)).bind fun v16 =>
        (q_gR 10 0 M a0).bind fun v17 =>
        (q_gR 4 4 M v17).bind fun v19 =>
        (f_X9_put M v19 a1 ((3 : Int32) + a2) a3).bind fun M23 =>
        some (v16, M23)))))
set_option maxRecDepth 20000 in
theorem m_X11_grade {M : q_Mem} {a0 : Nat} {a1 : Int32} {a2 : Int32} {a3 : Int32} {x : (Int32 × q_Mem)} (h : f_X11_grade M a0 a1 a2 a3 = some x) : q_C Y_X11_grade [.ref a0, .int a1, .int a2, .int a3] M (some (.int x.1)) x.2 := by
  refine q_met (φ := (fun x : Int32 × q_Mem => (some (.int x.1), x.2))) (r := f_X11_grade M a0 a1 a2 a3) (by decide +kernel) (Nat.le_of_ble_eq_true rfl) ?_ h (fun _ _ => rfl)
  show q_V Y_X11_grade none (fun x : Int32 × q_Mem => (some (.int x.1), x.2)) 0 0 0 [(0, .ref a0), (1, .int a1), (2, .int a2), (3, .int a3)] [] M (f_X11_grade M a0 a1 a2 a3)
  unfold f_X11_grade
  refine q_obV ?_
  refine q_aload_n 0 dX11_grade_0 rfl ?_
  refine q_getR (f := 0) cl_X11 (by decide) qw_367 rfl dX11_grade_1 (fun _ _ _ => rfl) (fun v1 h2 => ?_)
  refine q_getR (f := 4) cl_X5 (by decide) qw_93 rfl dX11_grade_4 (fun _ _ _ => rfl) (fun v3 h4 => ?_)
  refine q_iload_n 1 dX11_grade_7 rfl ?_
  refine q_cVI (Y2 := Y_X9_has) (As := [.int a1]) (b := v3) (st := []) cl_X9 mv_X9_has qw_420 dX11_grade_8 ⟨Nat.le_of_ble_eq_true rfl, Nat.le_of_ble_eq_true rfl⟩ rfl (fun _ _ => rfl) (Nat.le_of_ble_eq_true rfl) ⟨Nat.le_of_ble_eq_true rfl, Nat.le_of_ble_eq_true rfl⟩ (fun v6 h5 => q_ob_is h5) (fun v6 h5 => m_X9_has h5) (fun v6 h5 => ?_)
  refine q_if_eq (tgt := 33) dX11_grade_11 (by decide) (fun c26 => ?_) (fun c26 => ?_)
  · refine q_bipush (x := (-2 : Int32)) dX11_grade_33 rfl ?_
    exact q_iret dX11_grade_35 rfl rfl (Nat.le_of_ble_eq_true rfl) rfl
  · refine q_iload_n 2 dX11_grade_14 rfl ?_
    refine q_iconst (x := (0 : Int32)) dX11_grade_15 rfl ?_
    refine q_iconst (x := (1 : Int32)) dX11_grade_16 rfl ?_
    refine q_cSI (Y2 := Y_X11_within) (As := [.int a2, .int (0 : Int32), .int (1 : Int32)]) (st := []) ms_X11_within qw_408 dX11_grade_17 ⟨Nat.le_of_ble_eq_true rfl, Nat.le_of_ble_eq_true rfl⟩ rfl (fun _ _ => rfl) (Nat.le_of_ble_eq_true rfl) ⟨Nat.le_of_ble_eq_true rfl, Nat.le_of_ble_eq_true rfl⟩ (fun v8 h7 => m_X11_within h7) (fun v8 h7 => ?_)
    refine q_if_eq (tgt := 33) dX11_grade_20 (by decide) (fun c25 => ?_) (fun c25 => ?_)
    · refine q_bipush (x := (-2 : Int32)) dX11_grade_33 rfl ?_
      exact q_iret dX11_grade_35 rfl rfl (Nat.le_of_ble_eq_true rfl) rfl
    · refine q_iload_n 3 dX11_grade_23 rfl ?_
      refine q_iconst (x := (0 : Int32)) dX11_grade_24 rfl ?_
      refine q_bipush (x := (100 : Int32)) dX11_grade_25 rfl ?_
      refine q_cSI (Y2 := Y_X11_within) (As := [.int a3, .int (0 : Int32), .int (100 : Int32)]) (st := []) ms_X11_within qw_408 dX11_grade_27 ⟨Nat.le_of_ble_eq_true rfl, Nat.le_of_ble_eq_true rfl⟩ rfl (fun _ _ => rfl) (Nat.le_of_ble_eq_true rfl) ⟨Nat.le_of_ble_eq_true rfl, Nat.le_of_ble_eq_true rfl⟩ (fun v10 h9 => m_X11_within h9) (fun v10 h9 => ?_)
      refine q_if_ne (tgt := 36) dX11_grade_30 (by decide) (fun c24 => ?_) (fun c24 => ?_)
      · refine q_bipush (x := (-2 : Int32)) dX11_grade_33 rfl ?_
        exact q_iret dX11_grade_35 rfl rfl (Nat.le_of_ble_eq_true rfl) rfl
      · refine q_aload_n 0 dX11_grade_36 rfl ?_
        refine q_getR (f := 0) cl_X11 (by decide) qw_367 rfl dX11_grade_37 (fun _ _ _ => rfl) (fun v11 h12 => ?_)
        refine q_getR (f := 4) cl_X5 (by decide) qw_93 rfl dX11_grade_40 (fun _ _ _ => rfl) (fun v13 h14 => ?_)
        refine q_iload_n 1 dX11_grade_43 rfl ?_
        refine q_iconst (x := (3 : Int32)) dX11_grade_44 rfl ?_
        refine q_iload_n 2 dX11_grade_45 rfl ?_
        refine q_iadd dX11_grade_46 ?_
        refine q_cVI (Y2 := Y_X9_at) (As := [.int a1, .int ((3 : Int32) + a2)]) (b := v13) (st := []) cl_X9 mv_X9_at qw_442 dX11_grade_47 ⟨Nat.le_of_ble_eq_true rfl, Nat.le_of_ble_eq_true rfl⟩ rfl (fun _ _ => rfl) (Nat.le_of_ble_eq_true rfl) ⟨Nat.le_of_ble_eq_true rfl, Nat.le_of_ble_eq_true rfl⟩ (fun v16 h15 => q_ob_is h15) (fun v16 h15 => m_X9_at h15) (fun v16 h15 => ?_)
        refine q_istore (ls' := [(4, .int v16), (0, .ref a0), (1, .int a1), (2, .int a2), (3, .int a3)]) dX11_grade_50 (by decide) rfl ?_
        refine q_aload_n 1 dX11_grade_52 rfl ?_
        refine q_getR (f := 0) cl_X11 (by decide) qw_367 rfl dX11_grade_53 (fun _ _ _ => rfl) (fun v17 h18 => ?_)
        refine q_getR (f := 4) cl_X5 (by decide) qw_93 rfl dX11_grade_56 (fun _ _ _ => rfl) (fun v19 h20 => ?_)
        refine q_iload_n 2 dX11_grade_59 rfl ?_
        refine q_iconst (x := (3 : Int32)) dX11_grade_60 rfl ?_
        refine q_iload_n 3 dX11_grade_61 rfl ?_
        refine q_iadd dX11_grade_62 ?_
        refine q_iload_n 4 dX11_grade_63 rfl ?_
        refine q_cVM (Y2 := Y_X9_put) (As := [.int a1, .int ((3 : Int32) + a2), .int a3]) (b := v19) (st := []) cl_X9 mv_X9_put qw_415 dX11_grade_64 ⟨Nat.le_of_ble_eq_true rfl, Nat.le_of_ble_eq_true rfl⟩ rfl (fun _ _ => rfl) (Nat.le_of_ble_eq_true rfl) ⟨Nat.le_of_ble_eq_true rfl, Nat.le_of_ble_eq_true rfl⟩ (fun M23 h21 => q_ob_is h21) (fun M23 h21 => m_X9_put h21) (fun M23 h21 => ?_)
        refine q_iload 0 dX11_grade_67 rfl ?_
        exact q_iret dX11_grade_69 rfl rfl (Nat.le_of_ble_eq_true rfl) rfl
theorem dX11_lean_0 : decode cX11_lean 0 = .ok (.aload_n 0, 1) := by decide +kernel
theorem dX11_lean_1 : decode cX11_lean 1 = .ok (.getfield 38, 3) := by decide +kernel
theorem dX11_lean_4 : decode cX11_lean 4 = .ok (.invokevirtual 195, 3) := by decide +kernel
theorem dX11_lean_7 : decode cX11_lean 7 = .ok (.ireturn, 1) := by decide +kernel
def f_X11_lean (M : q_Mem) (a0 : Nat) : Option Int32 :=
  q_ob 10 M a0 ((q_gR 10 4 M a0).bind fun v1 =>
  (f_X4_leanOfGraders M v1).bind fun v4 =>
  some v4)
set_option maxRecDepth 20000 in
theorem m_X11_lean {M : q_Mem} {a0 : Nat} {x : Int32} (h : f_X11_lean M a0 = some x) : q_C Y_X11_lean [.ref a0] M (some (.int x)) M := by
  refine q_met (φ := (fun x : Int32 => (some (.int x), M))) (r := f_X11_lean M a0) (by decide +kernel) (Nat.le_of_ble_eq_true rfl) ?_ h (fun _ _ => rfl)
  show q_V Y_X11_lean none (fun x : Int32 => (some (.int x), M)) 0 0 0 [(0, .ref a0)] [] M (f_X11_lean M a0)
  unfold f_X11_lean
  refine q_obV ?_
  refine q_aload_n 0 dX11_lean_0 rfl ?_
  refine q_getR (f := 4) cl_X11 (by decide) qw_371 rfl dX11_lean_1 (fun _ _ _ => rfl) (fun v1 h2 => ?_)
  refine q_cVI (Y2 := Y_X4_leanOfGraders) (As := []) (b := v1) (st := []) cl_X4 mv_X4_leanOfGraders qw_602 dX11_lean_4 ⟨Nat.le_of_ble_eq_true rfl, Nat.le_of_ble_eq_true rfl⟩ rfl (fun _ _ => rfl) (Nat.le_of_ble_eq_true rfl) ⟨Nat.le_of_ble_eq_true rfl, Nat.le_of_ble_eq_true rfl⟩ (fun v4 h3 => q_ob_is h3) (fun v4 h3 => m_X4_leanOfGraders h3) (fun v4 h3 => ?_)
  exact q_iret dX11_lean_7 rfl rfl (Nat.le_of_ble_eq_true rfl) rfl
theorem dX11_lot_0 : decode cX11_lot 0 = .ok (.aload_n 0, 1) := by decide +kernel
theorem dX11_lot_1 : decode cX11_lot 1 = .ok (.getfield 12, 3) := by decide +kernel
theorem dX11_lot_4 : decode cX11_lot 4 = .ok (.getfield 165, 3) := by decide +kernel
theorem dX11_lot_7 : decode cX11_lot 7 = .ok (.iload_n 1, 1) := by decide +kernel
theorem dX11_lot_8 : decode cX11_lot 8 = .ok (.invokevirtual 117, 3) := by decide +kernel
theorem dX11_lot_11 : decode cX11_lot 11 = .ok (.ifCond .eq 12, 3) := by decide +kernel
theorem dX11_lot_14 : decode cX11_lot 14 = .ok (.iload_n 2, 1) := by decide +kernel
theorem dX11_lot_15 : decode cX11_lot 15 = .ok (.iconst 0, 1) := by decide +kernel
theorem dX11_lot_16 : decode cX11_lot 16 = .ok (.iconst 3, 1) := by decide +kernel
theorem dX11_lot_17 : decode cX11_lot 17 = .ok (.invokestatic 96, 3) := by decide +kernel
theorem dX11_lot_20 : decode cX11_lot 20 = .ok (.ifCond .ne 7, 3) := by decide +kernel
theorem dX11_lot_23 : decode cX11_lot 23 = .ok (.sipush (-1000), 3) := by decide +kernel
theorem dX11_lot_26 : decode cX11_lot 26 = .ok (.ireturn, 1) := by decide +kernel
theorem dX11_lot_27 : decode cX11_lot 27 = .ok (.aload_n 0, 1) := by decide +kernel
theorem dX11_lot_28 : decode cX11_lot 28 = .ok (.getfield 38, 3) := by decide +kernel
theorem dX11_lot_31 : decode cX11_lot 31 = .ok (.iload_n 1, 1) := by decide +kernel
theorem dX11_lot_32 : decode cX11_lot 32 = .ok (.iload_n 2, 1) := by decide +kernel
theorem dX11_lot_33 : decode cX11_lot 33 = .ok (.invokevirtual 199, 3) := by decide +kernel
theorem dX11_lot_36 : decode cX11_lot 36 = .ok (.ireturn, 1) := by decide +kernel
def f_X11_lot (M : q_Mem) (a0 : Nat) (a1 : Int32) (a2 : Int32) : Option Int32 :=
  q_ob 10 M a0 ((q_gR 10 0 M a0).bind fun v1 =>
  (q_gR 4 3 M v1).bind fun v3 =>
  (f_X9_has M v3 a1).bind fun v6 =>
  (if v6 = 0 then
    some (-1000 : Int32)
  else
    (f_X11_within M a2 (0 : Int32) (3 : Int32)).bind fun v8 =>
    (if v8 = 0 then
      some (-1000 : Int32)
    else
      (q_gR 10 4 M a0).bind fun v9 =>
      (f_X4_lotOf M v9 a1 a2).bind fun v12 =>
      some v12)))
set_option maxRecDepth 20000 in
theorem m_X11_lot {M : q_Mem} {a0 : Nat} {a1 : Int32} {a2 : Int32} {x : Int32} (h : f_X11_lot M a0 a1 a2 = some x) : q_C Y_X11_lot [.ref a0, .int a1, .int a2] M (some (.int x)) M := by
  refine q_met (φ := (fun x : Int32 => (some (.int x), M))) (r := f_X11_lot M a0 a1 a2) (by decide +kernel) (Nat.le_of_ble_eq_true rfl) ?_ h (fun _ _ => rfl)
  show q_V Y_X11_lot none (fun x : Int32 => (some (.int x), M)) 0 0 0 [(0, .ref a0), (1, .int a1), (2, .int a2)] [] M (f_X11_lot M a0 a1 a2)
  unfold f_X11_lot
  refine q_obV ?_
  refine q_aload_n 0 dX11_lot_0 rfl ?_
  refine q_getR (f := 0) cl_X11 (by decide) qw_367 rfl dX11_lot_1 (fun _ _ _ => rfl) (fun v1 h2 => ?_)
  refine q_getR (f := 3) cl_X5 (by decide) qw_89 rfl dX11_lot_4 (fun _ _ _ => rfl) (fun v3 h4 => ?_)
  refine q_iload_n 1 dX11_lot_7 rfl ?_
  refine q_cVI (Y2 := Y_X9_has) (As := [.int a1]) (b := v3) (st := []) cl_X9 mv_X9_has qw_420 dX11_lot_8 ⟨Nat.le_of_ble_eq_true rfl, Nat.le_of_ble_eq_true rfl⟩ rfl (fun _ _ => rfl) (Nat.le_of_ble_eq_true rfl) ⟨Nat.le_of_ble_eq_true rfl, Nat.le_of_ble_eq_true rfl⟩ (fun v6 h5 => q_ob_is h5) (fun v6 h5 => m_X9_has h5) (fun v6 h5 => ?_)
  refine q_if_eq (tgt := 23) dX11_lot_11 (by decide) (fun c14 => ?_) (fun c14 => ?_)
  · refine q_sipush (x := (-1000 : Int32)) dX11_lot_23 rfl ?_
    exact q_iret dX11_lot_26 rfl rfl (Nat.le_of_ble_eq_true rfl) rfl
  · refine q_iload_n 2 dX11_lot_14 rfl ?_
    refine q_iconst (x := (0 : Int32)) dX11_lot_15 rfl ?_
    refine q_iconst (x := (3 : Int32)) dX11_lot_16 rfl ?_
    refine q_cSI (Y2 := Y_X11_within) (As := [.int a2, .int (0 : Int32), .int (3 : Int32)]) (st := []) ms_X11_within qw_408 dX11_lot_17 ⟨Nat.le_of_ble_eq_true rfl, Nat.le_of_ble_eq_true rfl⟩ rfl (fun _ _ => rfl) (Nat.le_of_ble_eq_true rfl) ⟨Nat.le_of_ble_eq_true rfl, Nat.le_of_ble_eq_true rfl⟩ (fun v8 h7 => m_X11_within h7) (fun v8 h7 => ?_)
    refine q_if_ne (tgt := 27) dX11_lot_20 (by decide) (fun c13 => ?_) (fun c13 => ?_)
    · refine q_sipush (x := (-1000 : Int32)) dX11_lot_23 rfl ?_
      exact q_iret dX11_lot_26 rfl rfl (Nat.le_of_ble_eq_true rfl) rfl
    · refine q_aload_n 0 dX11_lot_27 rfl ?_
      refine q_getR (f := 4) cl_X11 (by decide) qw_371 rfl dX11_lot_28 (fun _ _ _ => rfl) (fun v9 h10 => ?_)
      refine q_iload_n 1 dX11_lot_31 rfl ?_
      refine q_iload_n 2 dX11_lot_32 rfl ?_
      refine q_cVI (Y2 := Y_X4_lotOf) (As := [.int a1, .int a2]) (b := v9) (st := []) cl_X4 mv_X4_lotOf qw_610 dX11_lot_33 ⟨Nat.le_of_ble_eq_true rfl, Nat.le_of_ble_eq_true rfl⟩ rfl (fun _ _ => rfl) (Nat.le_of_ble_eq_true rfl) ⟨Nat.le_of_ble_eq_true rfl, Nat.le_of_ble_eq_true rfl⟩ (fun v12 h11 => q_ob_is h11) (fun v12 h11 => m_X4_lotOf h11) (fun v12 h11 => ?_)
      exact q_iret dX11_lot_36 rfl rfl (Nat.le_of_ble_eq_true rfl) rfl
theorem dX11_lead_0 : decode cX11_lead 0 = .ok (.aload_n 0, 1) := by decide +kernel
theorem dX11_lead_1 : decode cX11_lead 1 = .ok (.getfield 12, 3) := by decide +kernel
theorem dX11_lead_4 : decode cX11_lead 4 = .ok (.getfield 165, 3) := by decide +kernel
theorem dX11_lead_7 : decode cX11_lead 7 = .ok (.iload_n 1, 1) := by decide +kernel
theorem dX11_lead_8 : decode cX11_lead 8 = .ok (.invokevirtual 117, 3) := by decide +kernel
theorem dX11_lead_11 : decode cX11_lead 11 = .ok (.ifCond .eq 24, 3) := by decide +kernel
theorem dX11_lead_14 : decode cX11_lead 14 = .ok (.aload_n 0, 1) := by decide +kernel
theorem dX11_lead_15 : decode cX11_lead 15 = .ok (.getfield 12, 3) := by decide +kernel
theorem dX11_lead_18 : decode cX11_lead 18 = .ok (.getfield 100, 3) := by decide +kernel
theorem dX11_lead_21 : decode cX11_lead 21 = .ok (.iload_n 2, 1) := by decide +kernel
theorem dX11_lead_22 : decode cX11_lead 22 = .ok (.invokevirtual 117, 3) := by decide +kernel
theorem dX11_lead_25 : decode cX11_lead 25 = .ok (.ifCond .eq 10, 3) := by decide +kernel
theorem dX11_lead_28 : decode cX11_lead 28 = .ok (.iload_n 3, 1) := by decide +kernel
theorem dX11_lead_29 : decode cX11_lead 29 = .ok (.invokestatic 121, 3) := by decide +kernel
theorem dX11_lead_32 : decode cX11_lead 32 = .ok (.ifCond .ne 7, 3) := by decide +kernel
theorem dX11_lead_35 : decode cX11_lead 35 = .ok (.ldc2_w 159, 3) := by decide +kernel
theorem dX11_lead_38 : decode cX11_lead 38 = .ok (.lreturn, 1) := by decide +kernel
theorem dX11_lead_39 : decode cX11_lead 39 = .ok (.aload_n 0, 1) := by decide +kernel
theorem dX11_lead_40 : decode cX11_lead 40 = .ok (.getfield 29, 3) := by decide +kernel
theorem dX11_lead_43 : decode cX11_lead 43 = .ok (.iload_n 3, 1) := by decide +kernel
theorem dX11_lead_44 : decode cX11_lead 44 = .ok (.invokevirtual 148, 3) := by decide +kernel
theorem dX11_lead_47 : decode cX11_lead 47 = .ok (.aload_n 0, 1) := by decide +kernel
theorem dX11_lead_48 : decode cX11_lead 48 = .ok (.getfield 38, 3) := by decide +kernel
theorem dX11_lead_51 : decode cX11_lead 51 = .ok (.iload_n 1, 1) := by decide +kernel
theorem dX11_lead_52 : decode cX11_lead 52 = .ok (.iload_n 2, 1) := by decide +kernel
theorem dX11_lead_53 : decode cX11_lead 53 = .ok (.invokevirtual 174, 3) := by decide +kernel
theorem dX11_lead_56 : decode cX11_lead 56 = .ok (.lreturn, 1) := by decide +kernel
def f_X11_lead (M : q_Mem) (a0 : Nat) (a1 : Int32) (a2 : Int32) (a3 : Int32) : Option (Int64 × q_Mem) :=
  q_ob 10 M a0 ((q_gR 10 0 M a0).bind fun v1 =>
  (q_gR 4 3 M v1).bind fun v3 =>
  (f_X9_has M v3 a1).bind fun v6 =>
  (if v6 = 0 then
    some ((-2 : Int64), M)
  else
    (q_gR 10 0 M a0).bind fun v7 =>
    (q_gR 4 0 M v7).bind fun v9 =>
    (f_X9_has M v9 a2).bind fun v12 =>
    (if v12 = 0 then
      some ((-2 : Int64), M)
    else
      (f_X11_isDay M a3).bind fun v14 =>
      (if v14 = 0 then
        some ((-2 : Int64), M)
      else
        (q_gR 10 3 M a0).bind fun v15 =>
        (f_X6_learn M v15 a3).bind fun M19 =>
        (q_gR 10 4 M19 a0).bind fun v20 =>
        (f_X4_fatOf M19 v20 a1 a2).bind fun v23 =>
        some (v23, M19)))))
set_option maxRecDepth 20000 in
theorem m_X11_lead {M : q_Mem} {a0 : Nat} {a1 : Int32} {a2 : Int32} {a3 : Int32} {x : (Int64 × q_Mem)} (h : f_X11_lead M a0 a1 a2 a3 = some x) : q_C Y_X11_lead [.ref a0, .int a1, .int a2, .int a3] M (some (.long x.1)) x.2 := by
  refine q_met (φ := (fun x : Int64 × q_Mem => (some (.long x.1), x.2))) (r := f_X11_lead M a0 a1 a2 a3) (by decide +kernel) (Nat.le_of_ble_eq_true rfl) ?_ h (fun _ _ => rfl)
  show q_V Y_X11_lead none (fun x : Int64 × q_Mem => (some (.long x.1), x.2)) 0 0 0 [(0, .ref a0), (1, .int a1), (2, .int a2), (3, .int a3)] [] M (f_X11_lead M a0 a1 a2 a3)
  unfold f_X11_lead
  refine q_obV ?_
  refine q_aload_n 0 dX11_lead_0 rfl ?_
  refine q_getR (f := 0) cl_X11 (by decide) qw_367 rfl dX11_lead_1 (fun _ _ _ => rfl) (fun v1 h2 => ?_)
  refine q_getR (f := 3) cl_X5 (by decide) qw_89 rfl dX11_lead_4 (fun _ _ _ => rfl) (fun v3 h4 => ?_)
  refine q_iload_n 1 dX11_lead_7 rfl ?_
  refine q_cVI (Y2 := Y_X9_has) (As := [.int a1]) (b := v3) (st := []) cl_X9 mv_X9_has qw_420 dX11_lead_8 ⟨Nat.le_of_ble_eq_true rfl, Nat.le_of_ble_eq_true rfl⟩ rfl (fun _ _ => rfl) (Nat.le_of_ble_eq_true rfl) ⟨Nat.le_of_ble_eq_true rfl, Nat.le_of_ble_eq_true rfl⟩ (fun v6 h5 => q_ob_is h5) (fun v6 h5 => m_X9_has h5) (fun v6 h5 => ?_)
  refine q_if_eq (tgt := 35) dX11_lead_11 (by decide) (fun c26 => ?_) (fun c26 => ?_)
  · refine q_ldc2 (x := (-2 : Int64)) qw_515 dX11_lead_35 ?_
    exact q_lret dX11_lead_38 rfl rfl (Nat.le_of_ble_eq_true rfl) rfl
  · refine q_aload_n 0 dX11_lead_14 rfl ?_
    refine q_getR (f := 0) cl_X11 (by decide) qw_367 rfl dX11_lead_15 (fun _ _ _ => rfl) (fun v7 h8 => ?_)
    refine q_getR (f := 0) cl_X5 (by decide) qw_72 rfl dX11_lead_18 (fun _ _ _ => rfl) (fun v9 h10 => ?_)
    refine q_iload_n 2 dX11_lead_21 rfl ?_
    refine q_cVI (Y2 := Y_X9_has) (As := [.int a2]) (b := v9) (st := []) cl_X9 mv_X9_has qw_420 dX11_lead_22 ⟨Nat.le_of_ble_eq_true rfl, Nat.le_of_ble_eq_true rfl⟩ rfl (fun _ _ => rfl) (Nat.le_of_ble_eq_true rfl) ⟨Nat.le_of_ble_eq_true rfl, Nat.le_of_ble_eq_true rfl⟩ (fun v12 h11 => q_ob_is h11) (fun v12 h11 => m_X9_has h11) (fun v12 h11 => ?_)
    refine q_if_eq (tgt := 35) dX11_lead_25 (by decide) (fun c25 => ?_) (fun c25 => ?_)
    · refine q_ldc2 (x := (-2 : Int64)) qw_515 dX11_lead_35 ?_
      exact q_lret dX11_lead_38 rfl rfl (Nat.le_of_ble_eq_true rfl) rfl
    · refine q_iload_n 3 dX11_lead_28 rfl ?_
      refine q_cSI (Y2 := Y_X11_isDay) (As := [.int a3]) (st := []) ms_X11_isDay qw_428 dX11_lead_29 ⟨Nat.le_of_ble_eq_true rfl, Nat.le_of_ble_eq_true rfl⟩ rfl (fun _ _ => rfl) (Nat.le_of_ble_eq_true rfl) ⟨Nat.le_of_ble_eq_true rfl, Nat.le_of_ble_eq_true rfl⟩ (fun v14 h13 => m_X11_isDay h13) (fun v14 h13 => ?_)
      refine q_if_ne (tgt := 39) dX11_lead_32 (by decide) (fun c24 => ?_) (fun c24 => ?_)
      · refine q_ldc2 (x := (-2 : Int64)) qw_515 dX11_lead_35 ?_
        exact q_lret dX11_lead_38 rfl rfl (Nat.le_of_ble_eq_true rfl) rfl
      · refine q_aload_n 0 dX11_lead_39 rfl ?_
        refine q_getR (f := 3) cl_X11 (by decide) qw_370 rfl dX11_lead_40 (fun _ _ _ => rfl) (fun v15 h16 => ?_)
        refine q_iload_n 3 dX11_lead_43 rfl ?_
        refine q_cVM (Y2 := Y_X6_learn) (As := [.int a3]) (b := v15) (st := []) cl_X6 mv_X6_learn qw_491 dX11_lead_44 ⟨Nat.le_of_ble_eq_true rfl, Nat.le_of_ble_eq_true rfl⟩ rfl (fun _ _ => rfl) (Nat.le_of_ble_eq_true rfl) ⟨Nat.le_of_ble_eq_true rfl, Nat.le_of_ble_eq_true rfl⟩ (fun M19 h17 => q_ob_is h17) (fun M19 h17 => m_X6_learn h17) (fun M19 h17 => ?_)
        refine q_aload_n 0 dX11_lead_47 rfl ?_
        refine q_getR (f := 4) cl_X11 (by decide) qw_371 rfl dX11_lead_48 (fun _ _ _ => rfl) (fun v20 h21 => ?_)
        refine q_iload_n 1 dX11_lead_51 rfl ?_
        refine q_iload_n 2 dX11_lead_52 rfl ?_
        refine q_cVJ (Y2 := Y_X4_fatOf) (As := [.int a1, .int a2]) (b := v20) (st := []) cl_X4 mv_X4_fatOf qw_550 dX11_lead_53 ⟨Nat.le_of_ble_eq_true rfl, Nat.le_of_ble_eq_true rfl⟩ rfl (fun _ _ => rfl) (Nat.le_of_ble_eq_true rfl) ⟨Nat.le_of_ble_eq_true rfl, Nat.le_of_ble_eq_true rfl⟩ (fun v23 h22 => q_ob_is h22) (fun v23 h22 => m_X4_fatOf h22) (fun v23 h22 => ?_)
        exact q_lret dX11_lead_56 rfl rfl (Nat.le_of_ble_eq_true rfl) rfl
theorem dX11_write_0 : decode cX11_write 0 = .ok (.aload_n 0, 1) := by decide +kernel
theorem dX11_write_1 : decode cX11_write 1 = .ok (.getfield 12, 3) := by decide +kernel
theorem dX11_write_4 : decode cX11_write 4 = .ok (.getfield 202, 3) := by decide +kernel
theorem dX11_write_7 : decode cX11_write 7 = .ok (.astore_n 3, 1) := by decide +kernel
theorem dX11_write_8 : decode cX11_write 8 = .ok (.aload_n 3, 1) := by decide +kernel
theorem dX11_write_9 : decode cX11_write 9 = .ok (.iload_n 1, 1) := by decide +kernel
theorem dX11_write_10 : decode cX11_write 10 = .ok (.invokevirtual 117, 3) := by decide +kernel
theorem dX11_write_13 : decode cX11_write 13 = .ok (.ifCond .eq 13, 3) := by decide +kernel
theorem dX11_write_16 : decode cX11_write 16 = .ok (.iload_n 2, 1) := by decide +kernel
theorem dX11_write_17 : decode cX11_write 17 = .ok (.iconst 0, 1) := by decide +kernel
theorem dX11_write_18 : decode cX11_write 18 = .ok (.bipush 127, 2) := by decide +kernel
theorem dX11_write_20 : decode cX11_write 20 = .ok (.invokestatic 96, 3) := by decide +kernel
theorem dX11_write_23 : decode cX11_write 23 = .ok (.ifCond .ne 6, 3) := by decide +kernel
theorem dX11_write_26 : decode cX11_write 26 = .ok (.bipush (-2), 2) := by decide +kernel
theorem dX11_write_28 : decode cX11_write 28 = .ok (.ireturn, 1) := by decide +kernel
theorem dX11_write_29 : decode cX11_write 29 = .ok (.aload_n 3, 1) := by decide +kernel
theorem dX11_write_30 : decode cX11_write 30 = .ok (.iload_n 1, 1) := by decide +kernel
theorem dX11_write_31 : decode cX11_write 31 = .ok (.iconst 0, 1) := by decide +kernel
theorem dX11_write_32 : decode cX11_write 32 = .ok (.invokevirtual 133, 3) := by decide +kernel
theorem dX11_write_35 : decode cX11_write 35 = .ok (.istore 4, 2) := by decide +kernel
theorem dX11_write_37 : decode cX11_write 37 = .ok (.iload 4, 2) := by decide +kernel
theorem dX11_write_39 : decode cX11_write 39 = .ok (.bipush 60, 2) := by decide +kernel
theorem dX11_write_41 : decode cX11_write 41 = .ok (.if_icmp .lt 6, 3) := by decide +kernel
theorem dX11_write_44 : decode cX11_write 44 = .ok (.bipush (-4), 2) := by decide +kernel
theorem dX11_write_46 : decode cX11_write 46 = .ok (.ireturn, 1) := by decide +kernel
theorem dX11_write_47 : decode cX11_write 47 = .ok (.aload_n 3, 1) := by decide +kernel
theorem dX11_write_48 : decode cX11_write 48 = .ok (.iload_n 1, 1) := by decide +kernel
theorem dX11_write_49 : decode cX11_write 49 = .ok (.iconst 1, 1) := by decide +kernel
theorem dX11_write_50 : decode cX11_write 50 = .ok (.iload 4, 2) := by decide +kernel
theorem dX11_write_52 : decode cX11_write 52 = .ok (.iadd, 1) := by decide +kernel
theorem dX11_write_53 : decode cX11_write 53 = .ok (.iload_n 2, 1) := by decide +kernel
theorem dX11_write_54 : decode cX11_write 54 = .ok (.invokevirtual 113, 3) := by decide +kernel
theorem dX11_write_57 : decode cX11_write 57 = .ok (.aload_n 3, 1) := by decide +kernel
theorem dX11_write_58 : decode cX11_write 58 = .ok (.iload_n 1, 1) := by decide +kernel
theorem dX11_write_59 : decode cX11_write 59 = .ok (.iconst 0, 1) := by decide +kernel
theorem dX11_write_60 : decode cX11_write 60 = .ok (.iload 4, 2) := by decide +kernel
theorem dX11_write_62 : decode cX11_write 62 = .ok (.iconst 1, 1) := by decide +kernel
theorem dX11_write_63 : decode cX11_write 63 = .ok (.iadd, 1) := by decide +kernel
theorem dX11_write_64 : decode cX11_write 64 = .ok (.invokevirtual 113, 3) := by decide +kernel
theorem dX11_write_67 : decode cX11_write 67 = .ok (.iload 4, 2) := by decide +kernel
theorem dX11_write_69 : decode cX11_write 69 = .ok (.iconst 1, 1) := by decide +kernel
theorem dX11_write_70 : decode cX11_write 70 = .ok (.iadd, 1) := by decide +kernel
theorem dX11_write_71 : decode cX11_write 71 = .ok (.ireturn, 1) := by decide +kernel
def f_X11_write (M : q_Mem) (a0 : Nat) (a1 : Int32) (a2 : Int32) : Option (Int32 × q_Mem) :=
  q_ob 10 M a0 ((q_gR 10 0 M a0).bind fun v1 =>
  (q_gR 4 5 M v1).bind fun v3 =>
  (f_X9_has M v3 a1).bind fun v6 =>
  (if v6 = 0 then
    some ((-2 : Int32), M)
  else
    (f_X11_within M a2 (0 : Int32) (127 : Int32)).bind fun v8 =>
    (if v8 = 0 then
      some ((-2 : Int32), M)
    else
      (f_X9_at M v3 a1 (0 : Int32)).bind fun v10 =>
      (if v10 < (60 : Int32) then
        (f_X9_put M v3 a1 ((1 : Int32) + v10) a2).bind fun M13 =>
        (f_X9_put M13 v3 a1 (0 : Int32) (v10 + (1 : Int32))).bind fun M16 =>
        some ((v10 + (1 : Int32)), M16)
      else
        some ((-4 : Int32), M)))))
set_option maxRecDepth 20000 in
theorem m_X11_write {M : q_Mem} {a0 : Nat} {a1 : Int32} {a2 : Int32} {x : (Int32 × q_Mem)} (h : f_X11_write M a0 a1 a2 = some x) : q_C Y_X11_write [.ref a0, .int a1, .int a2] M (some (.int x.1)) x.2 := by
  refine q_met (φ := (fun x : Int32 × q_Mem => (some (.int x.1), x.2))) (r := f_X11_write M a0 a1 a2) (by decide +kernel) (Nat.le_of_ble_eq_true rfl) ?_ h (fun _ _ => rfl)
  show q_V Y_X11_write none (fun x : Int32 × q_Mem => (some (.int x.1), x.2)) 0 0 0 [(0, .ref a0), (1, .int a1), (2, .int a2)] [] M (f_X11_write M a0 a1 a2)
  unfold f_X11_write
  refine q_obV ?_
  refine q_aload_n 0 dX11_write_0 rfl ?_
  refine q_getR (f := 0) cl_X11 (by decide) qw_367 rfl dX11_write_1 (fun _ _ _ => rfl) (fun v1 h2 => ?_)
  refine q_getR (f := 5) cl_X5 (by decide) qw_96 rfl dX11_write_4 (fun _ _ _ => rfl) (fun v3 h4 => ?_)
  refine q_astore_n (ls' := [(3, .ref v3), (0, .ref a0), (1, .int a1), (2, .int a2)]) dX11_write_7 (by decide) rfl ?_
  refine q_aload_n 0 dX11_write_8 rfl ?_
  refine q_iload_n 2 dX11_write_9 rfl ?_
  refine q_cVI (Y2 := Y_X9_has) (As := [.int a1]) (b := v3) (st := []) cl_X9 mv_X9_has qw_420 dX11_write_10 ⟨Nat.le_of_ble_eq_true rfl, Nat.le_of_ble_eq_true rfl⟩ rfl (fun _ _ => rfl) (Nat.le_of_ble_eq_true rfl) ⟨Nat.le_of_ble_eq_true rfl, Nat.le_of_ble_eq_true rfl⟩ (fun v6 h5 => q_ob_is h5) (fun v6 h5 => m_X9_has h5) (fun v6 h5 => ?_)
  refine q_if_eq (tgt := 26) dX11_write_13 (by decide) (fun c19 => ?_) (fun c19 => ?_)
  · refine q_bipush (x := (-2 : Int32)) dX11_write_26 rfl ?_
    exact q_iret dX11_write_28 rfl rfl (Nat.le_of_ble_eq_true rfl) rfl
  · refine q_iload_n 3 dX11_write_16 rfl ?_
    refine q_iconst (x := (0 : Int32)) dX11_write_17 rfl ?_
    refine q_bipush (x := (127 : Int32)) dX11_write_18 rfl ?_
    refine q_cSI (Y2 := Y_X11_within) (As := [.int a2, .int (0 : Int32), .int (127 : Int32)]) (st := []) ms_X11_within qw_408 dX11_write_20 ⟨Nat.le_of_ble_eq_true rfl, Nat.le_of_ble_eq_true rfl⟩ rfl (fun _ _ => rfl) (Nat.le_of_ble_eq_true rfl) ⟨Nat.le_of_ble_eq_true rfl, Nat.le_of_ble_eq_true rfl⟩ (fun v8 h7 => m_X11_within h7) (fun v8 h7 => ?_)
    refine q_if_ne (tgt := 29) dX11_write_23 (by decide) (fun c18 => ?_) (fun c18 => ?_)
    · refine q_bipush (x := (-2 : Int32)) dX11_write_26 rfl ?_
      exact q_iret dX11_write_28 rfl rfl (Nat.le_of_ble_eq_true rfl) rfl
    · refine q_aload_n 0 dX11_write_29 rfl ?_
      refine q_iload_n 2 dX11_write_30 rfl ?_
      refine q_iconst (x := (0 : Int32)) dX11_write_31 rfl ?_
      refine q_cVI (Y2 := Y_X9_at) (As := [.int a1, .int (0 : Int32)]) (b := v3) (st := []) cl_X9 mv_X9_at qw_442 dX11_write_32 ⟨Nat.le_of_ble_eq_true rfl, Nat.le_of_ble_eq_true rfl⟩ rfl (fun _ _ => rfl) (Nat.le_of_ble_eq_true rfl) ⟨Nat.le_of_ble_eq_true rfl, Nat.le_of_ble_eq_true rfl⟩ (fun v10 h9 => q_ob_is h9) (fun v10 h9 => m_X9_at h9) (fun v10 h9 => ?_)
      refine q_istore (ls' := [(4, .int v10), (3, .ref v3), (0, .ref a0), (1, .int a1), (2, .int a2)]) dX11_write_35 (by decide) rfl ?_
      refine q_iload 0 dX11_write_37 rfl ?_
      refine q_bipush (x := (60 : Int32)) dX11_write_39 rfl ?_
      refine q_icmp_lt (tgt := 47) dX11_write_41 (by decide) (fun c17 => ?_) (fun c17 => ?_)
      · refine q_aload_n 1 dX11_write_47 rfl ?_
        refine q_iload_n 3 dX11_write_48 rfl ?_
        refine q_iconst (x := (1 : Int32)) dX11_write_49 rfl ?_
        refine q_iload 0 dX11_write_50 rfl ?_
        refine q_iadd dX11_write_52 ?_
        refine q_iload_n 4 dX11_write_53 rfl ?_
        refine q_cVM (Y2 := Y_X9_put) (As := [.int a1, .int ((1 : Int32) + v10), .int a2]) (b := v3) (st := []) cl_X9 mv_X9_put qw_415 dX11_write_54 ⟨Nat.le_of_ble_eq_true rfl, Nat.le_of_ble_eq_true rfl⟩ rfl (fun _ _ => rfl) (Nat.le_of_ble_eq_true rfl) ⟨Nat.le_of_ble_eq_true rfl, Nat.le_of_ble_eq_true rfl⟩ (fun M13 h11 => q_ob_is h11) (fun M13 h11 => m_X9_put h11) (fun M13 h11 => ?_)
        refine q_aload_n 1 dX11_write_57 rfl ?_
        refine q_iload_n 3 dX11_write_58 rfl ?_
        refine q_iconst (x := (0 : Int32)) dX11_write_59 rfl ?_
        refine q_iload 0 dX11_write_60 rfl ?_
        refine q_iconst (x := (1 : Int32)) dX11_write_62 rfl ?_
        refine q_iadd dX11_write_63 ?_
        refine q_cVM (Y2 := Y_X9_put) (As := [.int a1, .int (0 : Int32), .int (v10 + (1 : Int32))]) (b := v3) (st := []) cl_X9 mv_X9_put qw_415 dX11_write_64 ⟨Nat.le_of_ble_eq_true rfl, Nat.le_of_ble_eq_true rfl⟩ rfl (fun _ _ => rfl) (Nat.le_of_ble_eq_true rfl) ⟨Nat.le_of_ble_eq_true rfl, Nat.le_of_ble_eq_true rfl⟩ (fun M16 h14 => q_ob_is h14) (fun M16 h14 => m_X9_put h14) (fun M16 h14 => ?_)
        refine q_iload 0 dX11_write_67 rfl ?_
        refine q_iconst (x := (1 : Int32)) dX11_write_69 rfl ?_
        refine q_iadd dX11_write_70 ?_
        exact q_iret dX11_write_71 rfl rfl (Nat.le_of_ble_eq_true rfl) rfl
      · refine q_bipush (x := (-4 : Int32)) dX11_write_44 rfl ?_
        exact q_iret dX11_write_46 rfl rfl (Nat.le_of_ble_eq_true rfl) rfl
theorem dX11_erase_0 : decode cX11_erase 0 = .ok (.aload_n 0, 1) := by decide +kernel
theorem dX11_erase_1 : decode cX11_erase 1 = .ok (.getfield 12, 3) := by decide +kernel
theorem dX11_erase_4 : decode cX11_erase 4 = .ok (.getfield 202, 3) := by decide +kernel
theorem dX11_erase_7 : decode cX11_erase 7 = .ok (.iload_n 1, 1) := by decide +kernel
theorem dX11_erase_8 : decode cX11_erase 8 = .ok (.invokevirtual 117, 3) := by decide +kernel
theorem dX11_erase_11 : decode cX11_erase 11 = .ok (.ifCond .ne 6, 3) := by decide +kernel
theorem dX11_erase_14 : decode cX11_erase 14 = .ok (.bipush (-2), 2) := by decide +kernel
theorem dX11_erase_16 : decode cX11_erase 16 = .ok (.ireturn, 1) := by decide +kernel
theorem dX11_erase_17 : decode cX11_erase 17 = .ok (.aload_n 0, 1) := by decide +kernel
theorem dX11_erase_18 : decode cX11_erase 18 = .ok (.getfield 12, 3) := by decide +kernel
theorem dX11_erase_21 : decode cX11_erase 21 = .ok (.getfield 202, 3) := by decide +kernel
theorem dX11_erase_24 : decode cX11_erase 24 = .ok (.iload_n 1, 1) := by decide +kernel
theorem dX11_erase_25 : decode cX11_erase 25 = .ok (.iconst 0, 1) := by decide +kernel
theorem dX11_erase_26 : decode cX11_erase 26 = .ok (.invokevirtual 133, 3) := by decide +kernel
theorem dX11_erase_29 : decode cX11_erase 29 = .ok (.istore_n 2, 1) := by decide +kernel
theorem dX11_erase_30 : decode cX11_erase 30 = .ok (.aload_n 0, 1) := by decide +kernel
theorem dX11_erase_31 : decode cX11_erase 31 = .ok (.getfield 12, 3) := by decide +kernel
theorem dX11_erase_34 : decode cX11_erase 34 = .ok (.getfield 202, 3) := by decide +kernel
theorem dX11_erase_37 : decode cX11_erase 37 = .ok (.iload_n 1, 1) := by decide +kernel
theorem dX11_erase_38 : decode cX11_erase 38 = .ok (.iconst 0, 1) := by decide +kernel
theorem dX11_erase_39 : decode cX11_erase 39 = .ok (.iconst 0, 1) := by decide +kernel
theorem dX11_erase_40 : decode cX11_erase 40 = .ok (.invokevirtual 113, 3) := by decide +kernel
theorem dX11_erase_43 : decode cX11_erase 43 = .ok (.iload_n 2, 1) := by decide +kernel
theorem dX11_erase_44 : decode cX11_erase 44 = .ok (.ireturn, 1) := by decide +kernel
def f_X11_erase (M : q_Mem) (a0 : Nat) (a1 : Int32) : Option (Int32 × q_Mem) :=
  q_ob 10 M a0 ((q_gR 10 0 M a0).bind fun v1 =>
  (q_gR 4 5 M v1).bind fun v3 =>
  (f_X9_has M v3 a1).bind fun v6 =>
  (if v6 = 0 then
    some ((-2 : Int32), M)
  else
    (q_gR 10 0 M a0).bind fun v7 =>
    (q_gR 4 5 M v7).bind fun v9 =>
    (f_X9_at M v9 a1 (0 : Int32)).bind fun v12 =>
    (q_gR 10 0 M a0).bind fun v13 =>
    (q_gR 4 5 M v13).bind fun v15 =>
    (f_X9_put M v15 a1 (0 : Int32) (0 : Int32)).bind fun M19 =>
    some (v12, M19)))
set_option maxRecDepth 20000 in
theorem m_X11_erase {M : q_Mem} {a0 : Nat} {a1 : Int32} {x : (Int32 × q_Mem)} (h : f_X11_erase M a0 a1 = some x) : q_C Y_X11_erase [.ref a0, .int a1] M (some (.int x.1)) x.2 := by
  refine q_met (φ := (fun x : Int32 × q_Mem => (some (.int x.1), x.2))) (r := f_X11_erase M a0 a1) (by decide +kernel) (Nat.le_of_ble_eq_true rfl) ?_ h (fun _ _ => rfl)
  show q_V Y_X11_erase none (fun x : Int32 × q_Mem => (some (.int x.1), x.2)) 0 0 0 [(0, .ref a0), (1, .int a1)] [] M (f_X11_erase M a0 a1)
  unfold f_X11_erase
  refine q_obV ?_
  refine q_aload_n 0 dX11_erase_0 rfl ?_
  refine q_getR (f := 0) cl_X11 (by decide) qw_367 rfl dX11_erase_1 (fun _ _ _ => rfl) (fun v1 h2 => ?_)
  refine q_getR (f := 5) cl_X5 (by decide) qw_96 rfl dX11_erase_4 (fun _ _ _ => rfl) (fun v3 h4 => ?_)
  refine q_iload_n 1 dX11_erase_7 rfl ?_
  refine q_cVI (Y2 := Y_X9_has) (As := [.int a1]) (b := v3) (st := []) cl_X9 mv_X9_has qw_420 dX11_erase_8 ⟨Nat.le_of_ble_eq_true rfl, Nat.le_of_ble_eq_true rfl⟩ rfl (fun _ _ => rfl) (Nat.le_of_ble_eq_true rfl) ⟨Nat.le_of_ble_eq_true rfl, Nat.le_of_ble_eq_true rfl⟩ (fun v6 h5 => q_ob_is h5) (fun v6 h5 => m_X9_has h5) (fun v6 h5 => ?_)
  refine q_if_ne (tgt := 17) dX11_erase_11 (by decide) (fun c20 => ?_) (fun c20 => ?_)
  · refine q_bipush (x := (-2 : Int32)) dX11_erase_14 rfl ?_
    exact q_iret dX11_erase_16 rfl rfl (Nat.le_of_ble_eq_true rfl) rfl
  · refine q_aload_n 0 dX11_erase_17 rfl ?_
    refine q_getR (f := 0) cl_X11 (by decide) qw_367 rfl dX11_erase_18 (fun _ _ _ => rfl) (fun v7 h8 => ?_)
    refine q_getR (f := 5) cl_X5 (by decide) qw_96 rfl dX11_erase_21 (fun _ _ _ => rfl) (fun v9 h10 => ?_)
    refine q_iload_n 1 dX11_erase_24 rfl ?_
    refine q_iconst (x := (0 : Int32)) dX11_erase_25 rfl ?_
    refine q_cVI (Y2 := Y_X9_at) (As := [.int a1, .int (0 : Int32)]) (b := v9) (st := []) cl_X9 mv_X9_at qw_442 dX11_erase_26 ⟨Nat.le_of_ble_eq_true rfl, Nat.le_of_ble_eq_true rfl⟩ rfl (fun _ _ => rfl) (Nat.le_of_ble_eq_true rfl) ⟨Nat.le_of_ble_eq_true rfl, Nat.le_of_ble_eq_true rfl⟩ (fun v12 h11 => q_ob_is h11) (fun v12 h11 => m_X9_at h11) (fun v12 h11 => ?_)
    refine q_istore_n (ls' := [(2, .int v12), (0, .ref a0), (1, .int a1)]) dX11_erase_29 (by decide) rfl ?_
    refine q_aload_n 1 dX11_erase_30 rfl ?_
    refine q_getR (f := 0) cl_X11 (by decide) qw_367 rfl dX11_erase_31 (fun _ _ _ => rfl) (fun v13 h14 => ?_)
    refine q_getR (f := 5) cl_X5 (by decide) qw_96 rfl dX11_erase_34 (fun _ _ _ => rfl) (fun v15 h16 => ?_)
    refine q_iload_n 2 dX11_erase_37 rfl ?_
    refine q_iconst (x := (0 : Int32)) dX11_erase_38 rfl ?_
    refine q_iconst (x := (0 : Int32)) dX11_erase_39 rfl ?_
    refine q_cVM (Y2 := Y_X9_put) (As := [.int a1, .int (0 : Int32), .int (0 : Int32)]) (b := v15) (st := []) cl_X9 mv_X9_put qw_415 dX11_erase_40 ⟨Nat.le_of_ble_eq_true rfl, Nat.le_of_ble_eq_true rfl⟩ rfl (fun _ _ => rfl) (Nat.le_of_ble_eq_true rfl) ⟨Nat.le_of_ble_eq_true rfl, Nat.le_of_ble_eq_true rfl⟩ (fun M19 h17 => q_ob_is h17) (fun M19 h17 => m_X9_put h17) (fun M19 h17 => ?_)
    refine q_iload_n 0 dX11_erase_43 rfl ?_
    exact q_iret dX11_erase_44 rfl rfl (Nat.le_of_ble_eq_true rfl) rfl
theorem dX11_fault_0 : decode cX11_fault 0 = .ok (.aload_n 0, 1) := by decide +kernel
theorem dX11_fault_1 : decode cX11_fault 1 = .ok (.getfield 12, 3) := by decide +kernel
theorem dX11_fault_4 : decode cX11_fault 4 = .ok (.getfield 202, 3) := by decide +kernel
theorem dX11_fault_7 : decode cX11_fault 7 = .ok (.iload_n 1, 1) := by decide +kernel
theorem dX11_fault_8 : decode cX11_fault 8 = .ok (.invokevirtual 117, 3) := by decide +kernel
theorem dX11_fault_11 : decode cX11_fault 11 = .ok (.ifCond .ne 6, 3) := by decide +kernel
theorem dX11_fault_14 : decode cX11_fault 14 = .ok (.bipush (-2), 2) := by decide +kernel
theorem dX11_fault_16 : decode cX11_fault 16 = .ok (.ireturn, 1) := by decide +kernel
theorem dX11_fault_17 : decode cX11_fault 17 = .ok (.aload_n 0, 1) := by decide +kernel
theorem dX11_fault_18 : decode cX11_fault 18 = .ok (.getfield 45, 3) := by decide +kernel
theorem dX11_fault_21 : decode cX11_fault 21 = .ok (.aload_n 0, 1) := by decide +kernel
theorem dX11_fault_22 : decode cX11_fault 22 = .ok (.getfield 12, 3) := by decide +kernel
theorem dX11_fault_25 : decode cX11_fault 25 = .ok (.getfield 202, 3) := by decide +kernel
theorem dX11_fault_28 : decode cX11_fault 28 = .ok (.iload_n 1, 1) := by decide +kernel
theorem dX11_fault_29 : decode cX11_fault 29 = .ok (.iconst 0, 1) := by decide +kernel
theorem dX11_fault_30 : decode cX11_fault 30 = .ok (.invokevirtual 205, 3) := by decide +kernel
theorem dX11_fault_33 : decode cX11_fault 33 = .ok (.aload_n 0, 1) := by decide +kernel
theorem dX11_fault_34 : decode cX11_fault 34 = .ok (.getfield 45, 3) := by decide +kernel
theorem dX11_fault_37 : decode cX11_fault 37 = .ok (.invokevirtual 209, 3) := by decide +kernel
theorem dX11_fault_40 : decode cX11_fault 40 = .ok (.ireturn, 1) := by decide +kernel
def f_X11_fault (M : q_Mem) (a0 : Nat) (a1 : Int32) : Option (Int32 × q_Mem) :=
  q_ob 10 M a0 ((q_gR 10 0 M a0).bind fun v1 =>
  (q_gR 4 5 M v1).bind fun v3 =>
  (f_X9_has M v3 a1).bind fun v6 =>
  (if v6 = 0 then
    some ((-2 : Int32), M)
  else
    (q_gR 10 5 M a0).bind fun v7 =>
    (q_gR 10 0 M a0).bind fun v9 =>
    (q_gR 4 5 M v9).bind fun v11 =>
    (f_X8_load M v7 v11 a1 (0 : Int32)).bind fun M15 =>
    (q_gR 10 5 M15 a0).bind fun v16 =>
    (f_X8_read M15 v16).bind fun r19 =>
    some (r19.1, r19.2)))
set_option maxRecDepth 20000 in
theorem m_X11_fault {M : q_Mem} {a0 : Nat} {a1 : Int32} {x : (Int32 × q_Mem)} (h : f_X11_fault M a0 a1 = some x) : q_C Y_X11_fault [.ref a0, .int a1] M (some (.int x.1)) x.2 := by
  refine q_met (φ := (fun x : Int32 × q_Mem => (some (.int x.1), x.2))) (r := f_X11_fault M a0 a1) (by decide +kernel) (Nat.le_of_ble_eq_true rfl) ?_ h (fun _ _ => rfl)
  show q_V Y_X11_fault none (fun x : Int32 × q_Mem => (some (.int x.1), x.2)) 0 0 0 [(0, .ref a0), (1, .int a1)] [] M (f_X11_fault M a0 a1)
  unfold f_X11_fault
  refine q_obV ?_
  refine q_aload_n 0 dX11_fault_0 rfl ?_
  refine q_getR (f := 0) cl_X11 (by decide) qw_367 rfl dX11_fault_1 (fun _ _ _ => rfl) (fun v1 h2 => ?_)
  refine q_getR (f := 5) cl_X5 (by decide) qw_96 rfl dX11_fault_4 (fun _ _ _ => rfl) (fun v3 h4 => ?_)
  refine q_iload_n 1 dX11_fault_7 rfl ?_
  refine q_cVI (Y2 := Y_X9_has) (As := [.int a1]) (b := v3) (st := []) cl_X9 mv_X9_has qw_420 dX11_fault_8 ⟨Nat.le_of_ble_eq_true rfl, Nat.le_of_ble_eq_true rfl⟩ rfl (fun _ _ => rfl) (Nat.le_of_ble_eq_true rfl) ⟨Nat.le_of_ble_eq_true rfl, Nat.le_of_ble_eq_true rfl⟩ (fun v6 h5 => q_ob_is h5) (fun v6 h5 => m_X9_has h5) (fun v6 h5 => ?_)
  refine q_if_ne (tgt := 17) dX11_fault_11 (by decide) (fun c20 => ?_) (fun c20 => ?_)
  · refine q_bipush (x := (-2 : Int32)) dX11_fault_14 rfl ?_
    exact q_iret dX11_fault_16 rfl rfl (Nat.le_of_ble_eq_true rfl) rfl
  · refine q_aload_n 0 dX11_fault_17 rfl ?_
    refine q_getR (f := 5) cl_X11 (by decide) qw_372 rfl dX11_fault_18 (fun _ _ _ => rfl) (fun v7 h8 => ?_)
    refine q_aload_n 0 dX11_fault_21 rfl ?_
    refine q_getR (f := 0) cl_X11 (by decide) qw_367 rfl dX11_fault_22 (fun _ _ _ => rfl) (fun v9 h10 => ?_)
    refine q_getR (f := 5) cl_X5 (by decide) qw_96 rfl dX11_fault_25 (fun _ _ _ => rfl) (fun v11 h12 => ?_)
    refine q_iload_n 1 dX11_fault_28 rfl ?_
    refine q_iconst (x := (0 : Int32)) dX11_fault_29 rfl ?_
    refine q_cVM (Y2 := Y_X8_load) (As := [.ref v11, .int a1, .int (0 : Int32)]) (b := v7) (st := []) cl_X8 mv_X8_load qw_632 dX11_fault_30 ⟨Nat.le_of_ble_eq_true rfl, Nat.le_of_ble_eq_true rfl⟩ rfl (fun _ _ => rfl) (Nat.le_of_ble_eq_true rfl) ⟨Nat.le_of_ble_eq_true rfl, Nat.le_of_ble_eq_true rfl⟩ (fun M15 h13 => q_ob_is h13) (fun M15 h13 => m_X8_load h13) (fun M15 h13 => ?_)
    refine q_aload_n 0 dX11_fault_33 rfl ?_
    refine q_getR (f := 5) cl_X11 (by decide) qw_372 rfl dX11_fault_34 (fun _ _ _ => rfl) (fun v16 h17 => ?_)
    refine q_cVMI (Y2 := Y_X8_read) (As := []) (b := v16) (st := []) cl_X8 mv_X8_read qw_639 dX11_fault_37 ⟨Nat.le_of_ble_eq_true rfl, Nat.le_of_ble_eq_true rfl⟩ rfl (fun _ _ => rfl) (Nat.le_of_ble_eq_true rfl) ⟨Nat.le_of_ble_eq_true rfl, Nat.le_of_ble_eq_true rfl⟩ (fun r19 h18 => q_ob_is h18) (fun r19 h18 => m_X8_read h18) (fun r19 h18 => ?_)
    exact q_iret dX11_fault_40 rfl rfl (Nat.le_of_ble_eq_true rfl) rfl
theorem dX11_tells_0 : decode cX11_tells 0 = .ok (.aload_n 0, 1) := by decide +kernel
theorem dX11_tells_1 : decode cX11_tells 1 = .ok (.getfield 12, 3) := by decide +kernel
theorem dX11_tells_4 : decode cX11_tells 4 = .ok (.getfield 202, 3) := by decide +kernel
theorem dX11_tells_7 : decode cX11_tells 7 = .ok (.iload_n 1, 1) := by decide +kernel
theorem dX11_tells_8 : decode cX11_tells 8 = .ok (.invokevirtual 117, 3) := by decide +kernel
theorem dX11_tells_11 : decode cX11_tells 11 = .ok (.ifCond .eq 17, 3) := by decide +kernel
theorem dX11_tells_14 : decode cX11_tells 14 = .ok (.aload_n 0, 1) := by decide +kernel
theorem dX11_tells_15 : decode cX11_tells 15 = .ok (.getfield 12, 3) := by decide +kernel
theorem dX11_tells_18 : decode cX11_tells 18 = .ok (.getfield 100, 3) := by decide +kernel
theorem dX11_tells_21 : decode cX11_tells 21 = .ok (.iload_n 2, 1) := by decide +kernel
theorem dX11_tells_22 : decode cX11_tells 22 = .ok (.invokevirtual 117, 3) := by decide +kernel
theorem dX11_tells_25 : decode cX11_tells 25 = .ok (.ifCond .ne 7, 3) := by decide +kernel
theorem dX11_tells_28 : decode cX11_tells 28 = .ok (.ldc2_w 212, 3) := by decide +kernel
theorem dX11_tells_31 : decode cX11_tells 31 = .ok (.lreturn, 1) := by decide +kernel
theorem dX11_tells_32 : decode cX11_tells 32 = .ok (.iload_n 3, 1) := by decide +kernel
theorem dX11_tells_33 : decode cX11_tells 33 = .ok (.invokestatic 156, 3) := by decide +kernel
theorem dX11_tells_36 : decode cX11_tells 36 = .ok (.ifCond .eq 11, 3) := by decide +kernel
theorem dX11_tells_39 : decode cX11_tells 39 = .ok (.iload 4, 2) := by decide +kernel
theorem dX11_tells_41 : decode cX11_tells 41 = .ok (.invokestatic 121, 3) := by decide +kernel
theorem dX11_tells_44 : decode cX11_tells 44 = .ok (.ifCond .ne 7, 3) := by decide +kernel
theorem dX11_tells_47 : decode cX11_tells 47 = .ok (.ldc2_w 212, 3) := by decide +kernel
theorem dX11_tells_50 : decode cX11_tells 50 = .ok (.lreturn, 1) := by decide +kernel
theorem dX11_tells_51 : decode cX11_tells 51 = .ok (.aload_n 0, 1) := by decide +kernel
theorem dX11_tells_52 : decode cX11_tells 52 = .ok (.getfield 45, 3) := by decide +kernel
theorem dX11_tells_55 : decode cX11_tells 55 = .ok (.aload_n 0, 1) := by decide +kernel
theorem dX11_tells_56 : decode cX11_tells 56 = .ok (.getfield 12, 3) := by decide +kernel
theorem dX11_tells_59 : decode cX11_tells 59 = .ok (.getfield 202, 3) := by decide +kernel
theorem dX11_tells_62 : decode cX11_tells 62 = .ok (.iload_n 1, 1) := by decide +kernel
theorem dX11_tells_63 : decode cX11_tells 63 = .ok (.iconst 0, 1) := by decide +kernel
theorem dX11_tells_64 : decode cX11_tells 64 = .ok (.invokevirtual 205, 3) := by decide +kernel
theorem dX11_tells_67 : decode cX11_tells 67 = .ok (.aload_n 0, 1) := by decide +kernel
theorem dX11_tells_68 : decode cX11_tells 68 = .ok (.getfield 61, 3) := by decide +kernel
theorem dX11_tells_71 : decode cX11_tells 71 = .ok (.iload_n 3, 1) := by decide +kernel
theorem dX11_tells_72 : decode cX11_tells 72 = .ok (.iload 4, 2) := by decide +kernel
theorem dX11_tells_74 : decode cX11_tells 74 = .ok (.invokevirtual 214, 3) := by decide +kernel
theorem dX11_tells_77 : decode cX11_tells 77 = .ok (.aload_n 0, 1) := by decide +kernel
theorem dX11_tells_78 : decode cX11_tells 78 = .ok (.getfield 61, 3) := by decide +kernel
theorem dX11_tells_81 : decode cX11_tells 81 = .ok (.iload_n 2, 1) := by decide +kernel
theorem dX11_tells_82 : decode cX11_tells 82 = .ok (.invokevirtual 218, 3) := by decide +kernel
theorem dX11_tells_85 : decode cX11_tells 85 = .ok (.aload_n 0, 1) := by decide +kernel
theorem dX11_tells_86 : decode cX11_tells 86 = .ok (.getfield 45, 3) := by decide +kernel
theorem dX11_tells_89 : decode cX11_tells 89 = .ok (.invokevirtual 209, 3) := by decide +kernel
theorem dX11_tells_92 : decode cX11_tells 92 = .ok (.iconst (-1), 1) := by decide +kernel
theorem dX11_tells_93 : decode cX11_tells 93 = .ok (.if_icmp .eq 7, 3) := by decide +kernel
theorem dX11_tells_96 : decode cX11_tells 96 = .ok (.ldc2_w 221, 3) := by decide +kernel
theorem dX11_tells_99 : decode cX11_tells 99 = .ok (.lreturn, 1) := by decide +kernel
theorem dX11_tells_100 : decode cX11_tells 100 = .ok (.aload_n 0, 1) := by decide +kernel
theorem dX11_tells_101 : decode cX11_tells 101 = .ok (.getfield 45, 3) := by decide +kernel
theorem dX11_tells_104 : decode cX11_tells 104 = .ok (.getfield 223, 3) := by decide +kernel
theorem dX11_tells_107 : decode cX11_tells 107 = .ok (.ifCond .eq 9, 3) := by decide +kernel
theorem dX11_tells_110 : decode cX11_tells 110 = .ok (.ldc2_w 227, 3) := by decide +kernel
theorem dX11_tells_113 : decode cX11_tells 113 = .ok (.goto 10, 3) := by decide +kernel
theorem dX11_tells_116 : decode cX11_tells 116 = .ok (.aload_n 0, 1) := by decide +kernel
theorem dX11_tells_117 : decode cX11_tells 117 = .ok (.getfield 45, 3) := by decide +kernel
theorem dX11_tells_120 : decode cX11_tells 120 = .ok (.getfield 229, 3) := by decide +kernel
theorem dX11_tells_123 : decode cX11_tells 123 = .ok (.lreturn, 1) := by decide +kernel
def f_X11_tells (M : q_Mem) (a0 : Nat) (a1 : Int32) (a2 : Int32) (a3 : Int32) (a4 : Int32) : Option (Int64 × q_Mem) :=
  q_ob 10 M a0 ((q_gR 10 0 M a0).bind fun v1 =>
  (q_gR 4 5 M v1).bind fun v3 =>
  (f_X9_has M v3 a1).bind fun v6 =>
  (if v6 = 0 then
    some ((-2000000000000000000 : Int64), M)
  else
    (q_gR 10 0 M a0).bind fun v7 =>
    (q_gR 4 0 M v7).bind fun v9 =>
    (f_X9_has M v9 a2).bind fun v12 =>
    (if v12 = 0 then
      some ((-2000000000000000000 : Int64), M)
    else
      (f_X11_isWeek M a3).bind fun v14 =>
      (if v14 = 0 then
        some ((-2000000000000000000 : Int64), M)
      else
        (f_X11_isDay M a4).bind fun v16 =>
        (if v16 = 0 then
          some ((-2000000000000000000 : Int64), M)
        else
          (q_gR 10 5 M a0).bind fun v17 =>
          (q_gR 10 0 M a0).bind fun v19 =>
          (q_gR 4 5 M v19).bind fun v21 =>
          (f_X8_load M v17 v21 a1 (0 : Int32)).bind fun M25 =>
          (q_gR 10 7 M25 a0).bind fun v26 =>
          (f_X7_gather M25 v26 a3 a4).bind fun M30 =>
          (q_gR 10 7 M30 a0).bind fun v31 =>
          (f_X7_nameFor M30 v31 a2).bind fun M35 =>
          (q_gR 10 5 M35 a0).bind fun v36 =>
          (f_X8_read M35 v36).bind fun r39 =>
          (if r39.1 = (-1 : Int32) then
            (q_gR 10 5 r39.2 a0).bind fun v40 =>
            (q_gI 7 12 r39.2 v40).bind fun v42 =>
            (if v42 = 0 then
              (q_gR 10 5 r39.2 a0).bind fun v44 =>
              (q_gJ 7 13 r39.2 v44).bind fun v46 =>
              some (v46, r39.2)
            else
              some ((-1000000000000000000 : Int64), r39.2))
          else
            some ((-3000000000000000000 : Int64), r39.2)))))))
set_option maxRecDepth 20000 in
theorem m_X11_tells {M : q_Mem} {a0 : Nat} {a1 : Int32} {a2 : Int32} {a3 : Int32} {a4 : Int32} {x : (Int64 × q_Mem)} (h : f_X11_tells M a0 a1 a2 a3 a4 = some x) : q_C Y_X11_tells [.ref a0, .int a1, .int a2, .int a3, .int a4] M (some (.long x.1)) x.2 := by
  refine q_met (φ := (fun x : Int64 × q_Mem => (some (.long x.1), x.2))) (r := f_X11_tells M a0 a1 a2 a3 a4) (by decide +kernel) (Nat.le_of_ble_eq_true rfl) ?_ h (fun _ _ => rfl)
  show q_V Y_X11_tells none (fun x : Int64 × q_Mem => (some (.long x.1), x.2)) 0 0 0 [(0, .ref a0), (1, .int a1), (2, .int a2), (3, .int a3), (4, .int a4)] [] M (f_X11_tells M a0 a1 a2 a3 a4)
  unfold f_X11_tells
  refine q_obV ?_
  refine q_aload_n 0 dX11_tells_0 rfl ?_
  refine q_getR (f := 0) cl_X11 (by decide) qw_367 rfl dX11_tells_1 (fun _ _ _ => rfl) (fun v1 h2 => ?_)
  refine q_getR (f := 5) cl_X5 (by decide) qw_96 rfl dX11_tells_4 (fun _ _ _ => rfl) (fun v3 h4 => ?_)
  refine q_iload_n 1 dX11_tells_7 rfl ?_
  refine q_cVI (Y2 := Y_X9_has) (As := [.int a1]) (b := v3) (st := []) cl_X9 mv_X9_has qw_420 dX11_tells_8 ⟨Nat.le_of_ble_eq_true rfl, Nat.le_of_ble_eq_true rfl⟩ rfl (fun _ _ => rfl) (Nat.le_of_ble_eq_true rfl) ⟨Nat.le_of_ble_eq_true rfl, Nat.le_of_ble_eq_true rfl⟩ (fun v6 h5 => q_ob_is h5) (fun v6 h5 => m_X9_has h5) (fun v6 h5 => ?_)
  refine q_if_eq (tgt := 28) dX11_tells_11 (by decide) (fun c53 => ?_) (fun c53 => ?_)
  · refine q_ldc2 (x := (-2000000000000000000 : Int64)) qw_735 dX11_tells_28 ?_
    exact q_lret dX11_tells_31 rfl rfl (Nat.le_of_ble_eq_true rfl) rfl
  · refine q_aload_n 0 dX11_tells_14 rfl ?_
    refine q_getR (f := 0) cl_X11 (by decide) qw_367 rfl dX11_tells_15 (fun _ _ _ => rfl) (fun v7 h8 => ?_)
    refine q_getR (f := 0) cl_X5 (by decide) qw_72 rfl dX11_tells_18 (fun _ _ _ => rfl) (fun v9 h10 => ?_)
    refine q_iload_n 2 dX11_tells_21 rfl ?_
    refine q_cVI (Y2 := Y_X9_has) (As := [.int a2]) (b := v9) (st := []) cl_X9 mv_X9_has qw_420 dX11_tells_22 ⟨Nat.le_of_ble_eq_true rfl, Nat.le_of_ble_eq_true rfl⟩ rfl (fun _ _ => rfl) (Nat.le_of_ble_eq_true rfl) ⟨Nat.le_of_ble_eq_true rfl, Nat.le_of_ble_eq_true rfl⟩ (fun v12 h11 => q_ob_is h11) (fun v12 h11 => m_X9_has h11) (fun v12 h11 => ?_)
    refine q_if_ne (tgt := 32) dX11_tells_25 (by decide) (fun c52 => ?_) (fun c52 => ?_)
    · refine q_ldc2 (x := (-2000000000000000000 : Int64)) qw_735 dX11_tells_28 ?_
      exact q_lret dX11_tells_31 rfl rfl (Nat.le_of_ble_eq_true rfl) rfl
    · refine q_iload_n 3 dX11_tells_32 rfl ?_
      refine q_cSI (Y2 := Y_X11_isWeek) (As := [.int a3]) (st := []) ms_X11_isWeek qw_512 dX11_tells_33 ⟨Nat.le_of_ble_eq_true rfl, Nat.le_of_ble_eq_true rfl⟩ rfl (fun _ _ => rfl) (Nat.le_of_ble_eq_true rfl) ⟨Nat.le_of_ble_eq_true rfl, Nat.le_of_ble_eq_true rfl⟩ (fun v14 h13 => m_X11_isWeek h13) (fun v14 h13 => ?_)
      refine q_if_eq (tgt := 47) dX11_tells_36 (by decide) (fun c51 => ?_) (fun c51 => ?_)
      · refine q_ldc2 (x := (-2000000000000000000 : Int64)) qw_735 dX11_tells_47 ?_
        exact q_lret dX11_tells_50 rfl rfl (Nat.le_of_ble_eq_true rfl) rfl
      · refine q_iload 4 dX11_tells_39 rfl ?_
        refine q_cSI (Y2 := Y_X11_isDay) (As := [.int a4]) (st := []) ms_X11_isDay qw_428 dX11_tells_41 ⟨Nat.le_of_ble_eq_true rfl, Nat.le_of_ble_eq_true rfl⟩ rfl (fun _ _ => rfl) (Nat.le_of_ble_eq_true rfl) ⟨Nat.le_of_ble_eq_true rfl, Nat.le_of_ble_eq_true rfl⟩ (fun v16 h15 => m_X11_isDay h15) (fun v16 h15 => ?_)
        refine q_if_ne (tgt := 51) dX11_tells_44 (by decide) (fun c50 => ?_) (fun c50 => ?_)
        · refine q_ldc2 (x := (-2000000000000000000 : Int64)) qw_735 dX11_tells_47 ?_
          exact q_lret dX11_tells_50 rfl rfl (Nat.le_of_ble_eq_true rfl) rfl
        · refine q_aload_n 0 dX11_tells_51 rfl ?_
          refine q_getR (f := 5) cl_X11 (by decide) qw_372 rfl dX11_tells_52 (fun _ _ _ => rfl) (fun v17 h18 => ?_)
          refine q_aload_n 0 dX11_tells_55 rfl ?_
          refine q_getR (f := 0) cl_X11 (by decide) qw_367 rfl dX11_tells_56 (fun _ _ _ => rfl) (fun v19 h20 => ?_)
          refine q_getR (f := 5) cl_X5 (by decide) qw_96 rfl dX11_tells_59 (fun _ _ _ => rfl) (fun v21 h22 => ?_)
          refine q_iload_n 1 dX11_tells_62 rfl ?_
          refine q_iconst (x := (0 : Int32)) dX11_tells_63 rfl ?_
          refine q_cVM (Y2 := Y_X8_load) (As := [.ref v21, .int a1, .int (0 : Int32)]) (b := v17) (st := []) cl_X8 mv_X8_load qw_632 dX11_tells_64 ⟨Nat.le_of_ble_eq_true rfl, Nat.le_of_ble_eq_true rfl⟩ rfl (fun _ _ => rfl) (Nat.le_of_ble_eq_true rfl) ⟨Nat.le_of_ble_eq_true rfl, Nat.le_of_ble_eq_true rfl⟩ (fun M25 h23 => q_ob_is h23) (fun M25 h23 => m_X8_load h23) (fun M25 h23 => ?_)
          refine q_aload_n 0 dX11_tells_67 rfl ?_
          refine q_getR (f := 7) cl_X11 (by decide) qw_374 rfl dX11_tells_68 (fun _ _ _ => rfl) (fun v26 h27 => ?_)
          refine q_iload_n 3 dX11_tells_71 rfl ?_
          refine q_iload 4 dX11_tells_72 rfl ?_
          refine q_cVM (Y2 := Y_X7_gather) (As := [.int a3, .int a4]) (b := v26) (st := []) cl_X7 mv_X7_gather qw_736 dX11_tells_74 ⟨Nat.le_of_ble_eq_true rfl, Nat.le_of_ble_eq_true rfl⟩ rfl (fun _ _ => rfl) (Nat.le_of_ble_eq_true rfl) ⟨Nat.le_of_ble_eq_true rfl, Nat.le_of_ble_eq_true rfl⟩ (fun M30 h28 => q_ob_is h28) (fun M30 h28 => m_X7_gather h28) (fun M30 h28 => ?_)
          refine q_aload_n 0 dX11_tells_77 rfl ?_
          refine q_getR (f := 7) cl_X11 (by decide) qw_374 rfl dX11_tells_78 (fun _ _ _ => rfl) (fun v31 h32 => ?_)
          refine q_iload_n 2 dX11_tells_81 rfl ?_
          refine q_cVM (Y2 := Y_X7_nameFor) (As := [.int a2]) (b := v31) (st := []) cl_X7 mv_X7_nameFor qw_754 dX11_tells_82 ⟨Nat.le_of_ble_eq_true rfl, Nat.le_of_ble_eq_true rfl⟩ rfl (fun _ _ => rfl) (Nat.le_of_ble_eq_true rfl) ⟨Nat.le_of_ble_eq_true rfl, Nat.le_of_ble_eq_true rfl⟩ (fun M35 h33 => q_ob_is h33) (fun M35 h33 => m_X7_nameFor h33) (fun M35 h33 => ?_)
          refine q_aload_n 0 dX11_tells_85 rfl ?_
          refine q_getR (f := 5) cl_X11 (by decide) qw_372 rfl dX11_tells_86 (fun _ _ _ => rfl) (fun v36 h37 => ?_)
          refine q_cVMI (Y2 := Y_X8_read) (As := []) (b := v36) (st := []) cl_X8 mv_X8_read qw_639 dX11_tells_89 ⟨Nat.le_of_ble_eq_true rfl, Nat.le_of_ble_eq_true rfl⟩ rfl (fun _ _ => rfl) (Nat.le_of_ble_eq_true rfl) ⟨Nat.le_of_ble_eq_true rfl, Nat.le_of_ble_eq_true rfl⟩ (fun r39 h38 => q_ob_is h38) (fun r39 h38 => m_X8_read h38) (fun r39 h38 => ?_)
          refine q_iconst (x := (-1 : Int32)) dX11_tells_92 rfl ?_
          refine q_icmp_eq (tgt := 100) dX11_tells_93 (by decide) (fun c49 => ?_) (fun c49 => ?_)
          · refine q_aload_n 0 dX11_tells_100 rfl ?_
            refine q_getR (f := 5) cl_X11 (by decide) qw_372 rfl dX11_tells_101 (fun _ _ _ => rfl) (fun v40 h41 => ?_)
            refine q_getI (f := 12) cl_X8 (by decide) qw_207 rfl dX11_tells_104 (Or.inr rfl) (fun v42 h43 => ?_)
            refine q_if_eq (tgt := 116) dX11_tells_107 (by decide) (fun c48 => ?_) (fun c48 => ?_)
            · refine q_aload_n 0 dX11_tells_116 rfl ?_
              refine q_getR (f := 5) cl_X11 (by decide) qw_372 rfl dX11_tells_117 (fun _ _ _ => rfl) (fun v44 h45 => ?_)
              refine q_getJ (f := 13) cl_X8 (by decide) qw_210 rfl dX11_tells_120 rfl (fun v46 h47 => ?_)
              exact q_lret dX11_tells_123 rfl rfl (Nat.le_of_ble_eq_true rfl) rfl
            · refine q_ldc2 (x := (-1000000000000000000 : Int64)) qw_768 dX11_tells_110 ?_
              refine q_goto (tgt := 123) dX11_tells_113 (by decide) ?_
              exact q_lret dX11_tells_123 rfl rfl (Nat.le_of_ble_eq_true rfl) rfl
          · refine q_ldc2 (x := (-3000000000000000000 : Int64)) qw_767 dX11_tells_96 ?_
            exact q_lret dX11_tells_99 rfl rfl (Nat.le_of_ble_eq_true rfl) rfl
theorem dX11_motion_0 : decode cX11_motion 0 = .ok (.aload_n 0, 1) := by decide +kernel
theorem dX11_motion_1 : decode cX11_motion 1 = .ok (.getfield 12, 3) := by decide +kernel
theorem dX11_motion_4 : decode cX11_motion 4 = .ok (.getfield 202, 3) := by decide +kernel
theorem dX11_motion_7 : decode cX11_motion 7 = .ok (.iload_n 1, 1) := by decide +kernel
theorem dX11_motion_8 : decode cX11_motion 8 = .ok (.invokevirtual 117, 3) := by decide +kernel
theorem dX11_motion_11 : decode cX11_motion 11 = .ok (.ifCond .eq 10, 3) := by decide +kernel
theorem dX11_motion_14 : decode cX11_motion 14 = .ok (.iload_n 2, 1) := by decide +kernel
theorem dX11_motion_15 : decode cX11_motion 15 = .ok (.invokestatic 121, 3) := by decide +kernel
theorem dX11_motion_18 : decode cX11_motion 18 = .ok (.ifCond .ne 6, 3) := by decide +kernel
theorem dX11_motion_21 : decode cX11_motion 21 = .ok (.bipush (-2), 2) := by decide +kernel
theorem dX11_motion_23 : decode cX11_motion 23 = .ok (.ireturn, 1) := by decide +kernel
theorem dX11_motion_24 : decode cX11_motion 24 = .ok (.aload_n 0, 1) := by decide +kernel
theorem dX11_motion_25 : decode cX11_motion 25 = .ok (.getfield 45, 3) := by decide +kernel
theorem dX11_motion_28 : decode cX11_motion 28 = .ok (.aload_n 0, 1) := by decide +kernel
theorem dX11_motion_29 : decode cX11_motion 29 = .ok (.getfield 12, 3) := by decide +kernel
theorem dX11_motion_32 : decode cX11_motion 32 = .ok (.getfield 202, 3) := by decide +kernel
theorem dX11_motion_35 : decode cX11_motion 35 = .ok (.iload_n 1, 1) := by decide +kernel
theorem dX11_motion_36 : decode cX11_motion 36 = .ok (.iconst 0, 1) := by decide +kernel
theorem dX11_motion_37 : decode cX11_motion 37 = .ok (.invokevirtual 205, 3) := by decide +kernel
theorem dX11_motion_40 : decode cX11_motion 40 = .ok (.aload_n 0, 1) := by decide +kernel
theorem dX11_motion_41 : decode cX11_motion 41 = .ok (.getfield 45, 3) := by decide +kernel
theorem dX11_motion_44 : decode cX11_motion 44 = .ok (.invokevirtual 209, 3) := by decide +kernel
theorem dX11_motion_47 : decode cX11_motion 47 = .ok (.iconst (-1), 1) := by decide +kernel
theorem dX11_motion_48 : decode cX11_motion 48 = .ok (.if_icmp .eq 6, 3) := by decide +kernel
theorem dX11_motion_51 : decode cX11_motion 51 = .ok (.bipush (-3), 2) := by decide +kernel
theorem dX11_motion_53 : decode cX11_motion 53 = .ok (.ireturn, 1) := by decide +kernel
theorem dX11_motion_54 : decode cX11_motion 54 = .ok (.aload_n 0, 1) := by decide +kernel
theorem dX11_motion_55 : decode cX11_motion 55 = .ok (.getfield 52, 3) := by decide +kernel
theorem dX11_motion_58 : decode cX11_motion 58 = .ok (.iload_n 1, 1) := by decide +kernel
theorem dX11_motion_59 : decode cX11_motion 59 = .ok (.iload_n 2, 1) := by decide +kernel
theorem dX11_motion_60 : decode cX11_motion 60 = .ok (.iload_n 3, 1) := by decide +kernel
theorem dX11_motion_61 : decode cX11_motion 61 = .ok (.invokestatic 109, 3) := by decide +kernel
theorem dX11_motion_64 : decode cX11_motion 64 = .ok (.invokevirtual 233, 3) := by decide +kernel
theorem dX11_motion_67 : decode cX11_motion 67 = .ok (.ireturn, 1) := by decide +kernel
def f_X11_motion (M : q_Mem) (a0 : Nat) (a1 : Int32) (a2 : Int32) (a3 : Int32) : Option (Int32 × q_Mem) :=
  q_ob 10 M a0 ((q_gR 10 0 M a0).bind fun v1 =>
  (q_gR 4 5 M v1).bind fun v3 =>
  (f_X9_has M v3 a1).bind fun v6 =>
  (if v6 = 0 then
    some ((-2 : Int32), M)
  else
    (f_X11_isDay M a2).bind fun v8 =>
    (if v8 = 0 then
      some ((-2 : Int32), M)
    else
      (q_gR 10 5 M a0).bind fun v9 =>
      (q_gR 10 0 M a0).bind fun v11 =>
      (q_gR 4 5 M v11).bind fun v13 =>
      (f_X8_load M v9 v13 a1 (0 : Int32)).bind fun M17 =>
      (q_gR 10 5 M17 a0).bind fun v18 =>
      (f_X8_read M17 v18).bind fun r21 =>
      (if r21.1 = (-1 : Int32) then
        (q_gR 10 6 r21.2 a0).bind fun v22 =>
        (f_X11_asNumber r21.2 a3).bind fun v25 =>
        (f_X0_propose r21.2 v22 a1 a2 v25).bind fun r27 =>
        some (r27.1, r27.2)
      else
        some ((-3 : Int32), r21.2)))))
set_option maxRecDepth 20000 in
theorem m_X11_motion {M : q_Mem} {a0 : Nat} {a1 : Int32} {a2 : Int32} {a3 : Int32} {x : (Int32 × q_Mem)} (h : f_X11_motion M a0 a1 a2 a3 = some x) : q_C Y_X11_motion [.ref a0, .int a1, .int a2, .int a3] M (some (.int x.1)) x.2 := by
  refine q_met (φ := (fun x : Int32 × q_Mem => (some (.int x.1), x.2))) (r := f_X11_motion M a0 a1 a2 a3) (by decide +kernel) (Nat.le_of_ble_eq_true rfl) ?_ h (fun _ _ => rfl)
  show q_V Y_X11_motion none (fun x : Int32 × q_Mem => (some (.int x.1), x.2)) 0 0 0 [(0, .ref a0), (1, .int a1), (2, .int a2), (3, .int a3)] [] M (f_X11_motion M a0 a1 a2 a3)
  unfold f_X11_motion
  refine q_obV ?_
  refine q_aload_n 0 dX11_motion_0 rfl ?_
  refine q_getR (f := 0) cl_X11 (by decide) qw_367 rfl dX11_motion_1 (fun _ _ _ => rfl) (fun v1 h2 => ?_)
  refine q_getR (f := 5) cl_X5 (by decide) qw_96 rfl dX11_motion_4 (fun _ _ _ => rfl) (fun v3 h4 => ?_)
  refine q_iload_n 1 dX11_motion_7 rfl ?_
  refine q_cVI (Y2 := Y_X9_has) (As := [.int a1]) (b := v3) (st := []) cl_X9 mv_X9_has qw_420 dX11_motion_8 ⟨Nat.le_of_ble_eq_true rfl, Nat.le_of_ble_eq_true rfl⟩ rfl (fun _ _ => rfl) (Nat.le_of_ble_eq_true rfl) ⟨Nat.le_of_ble_eq_true rfl, Nat.le_of_ble_eq_true rfl⟩ (fun v6 h5 => q_ob_is h5) (fun v6 h5 => m_X9_has h5) (fun v6 h5 => ?_)
  refine q_if_eq (tgt := 21) dX11_motion_11 (by decide) (fun c30 => ?_) (fun c30 => ?_)
  · refine q_bipush (x := (-2 : Int32)) dX11_motion_21 rfl ?_
    exact q_iret dX11_motion_23 rfl rfl (Nat.le_of_ble_eq_true rfl) rfl
  · refine q_iload_n 2 dX11_motion_14 rfl ?_
    refine q_cSI (Y2 := Y_X11_isDay) (As := [.int a2]) (st := []) ms_X11_isDay qw_428 dX11_motion_15 ⟨Nat.le_of_ble_eq_true rfl, Nat.le_of_ble_eq_true rfl⟩ rfl (fun _ _ => rfl) (Nat.le_of_ble_eq_true rfl) ⟨Nat.le_of_ble_eq_true rfl, Nat.le_of_ble_eq_true rfl⟩ (fun v8 h7 => m_X11_isDay h7) (fun v8 h7 => ?_)
    refine q_if_ne (tgt := 24) dX11_motion_18 (by decide) (fun c29 => ?_) (fun c29 => ?_)
    · refine q_bipush (x := (-2 : Int32)) dX11_motion_21 rfl ?_
      exact q_iret dX11_motion_23 rfl rfl (Nat.le_of_ble_eq_true rfl) rfl
    · refine q_aload_n 0 dX11_motion_24 rfl ?_
      refine q_getR (f := 5) cl_X11 (by decide) qw_372 rfl dX11_motion_25 (fun _ _ _ => rfl) (fun v9 h10 => ?_)
      refine q_aload_n 0 dX11_motion_28 rfl ?_
      refine q_getR (f := 0) cl_X11 (by decide) qw_367 rfl dX11_motion_29 (fun _ _ _ => rfl) (fun v11 h12 => ?_)
      refine q_getR (f := 5) cl_X5 (by decide) qw_96 rfl dX11_motion_32 (fun _ _ _ => rfl) (fun v13 h14 => ?_)
      refine q_iload_n 1 dX11_motion_35 rfl ?_
      refine q_iconst (x := (0 : Int32)) dX11_motion_36 rfl ?_
      refine q_cVM (Y2 := Y_X8_load) (As := [.ref v13, .int a1, .int (0 : Int32)]) (b := v9) (st := []) cl_X8 mv_X8_load qw_632 dX11_motion_37 ⟨Nat.le_of_ble_eq_true rfl, Nat.le_of_ble_eq_true rfl⟩ rfl (fun _ _ => rfl) (Nat.le_of_ble_eq_true rfl) ⟨Nat.le_of_ble_eq_true rfl, Nat.le_of_ble_eq_true rfl⟩ (fun M17 h15 => q_ob_is h15) (fun M17 h15 => m_X8_load h15) (fun M17 h15 => ?_)
      refine q_aload_n 0 dX11_motion_40 rfl ?_
      refine q_getR (f := 5) cl_X11 (by decide) qw_372 rfl dX11_motion_41 (fun _ _ _ => rfl) (fun v18 h19 => ?_)
      refine q_cVMI (Y2 := Y_X8_read) (As := []) (b := v18) (st := []) cl_X8 mv_X8_read qw_639 dX11_motion_44 ⟨Nat.le_of_ble_eq_true rfl, Nat.le_of_ble_eq_true rfl⟩ rfl (fun _ _ => rfl) (Nat.le_of_ble_eq_true rfl) ⟨Nat.le_of_ble_eq_true rfl, Nat.le_of_ble_eq_true rfl⟩ (fun r21 h20 => q_ob_is h20) (fun r21 h20 => m_X8_read h20) (fun r21 h20 => ?_)
      refine q_iconst (x := (-1 : Int32)) dX11_motion_47 rfl ?_
      refine q_icmp_eq (tgt := 54) dX11_motion_48 (by decide) (fun c28 => ?_) (fun c28 => ?_)
      · refine q_aload_n 0 dX11_motion_54 rfl ?_
        refine q_getR (f := 6) cl_X11 (by decide) qw_373 rfl dX11_motion_55 (fun _ _ _ => rfl) (fun v22 h23 => ?_)
        refine q_iload_n 1 dX11_motion_58 rfl ?_
        refine q_iload_n 2 dX11_motion_59 rfl ?_
        refine q_iload_n 3 dX11_motion_60 rfl ?_
        refine q_cSI (Y2 := Y_X11_asNumber) (As := [.int a3]) (st := [.int a2, .int a1, .ref v22]) ms_X11_asNumber qw_412 dX11_motion_61 ⟨Nat.le_of_ble_eq_true rfl, Nat.le_of_ble_eq_true rfl⟩ rfl (fun _ _ => rfl) (Nat.le_of_ble_eq_true rfl) ⟨Nat.le_of_ble_eq_true rfl, Nat.le_of_ble_eq_true rfl⟩ (fun v25 h24 => m_X11_asNumber h24) (fun v25 h24 => ?_)
        refine q_cVMI (Y2 := Y_X0_propose) (As := [.int a1, .int a2, .int v25]) (b := v22) (st := []) cl_X0 mv_X0_propose qw_773 dX11_motion_64 ⟨Nat.le_of_ble_eq_true rfl, Nat.le_of_ble_eq_true rfl⟩ rfl (fun _ _ => rfl) (Nat.le_of_ble_eq_true rfl) ⟨Nat.le_of_ble_eq_true rfl, Nat.le_of_ble_eq_true rfl⟩ (fun r27 h26 => q_ob_is h26) (fun r27 h26 => m_X0_propose h26) (fun r27 h26 => ?_)
        exact q_iret dX11_motion_67 rfl rfl (Nat.le_of_ble_eq_true rfl) rfl
      · refine q_bipush (x := (-3 : Int32)) dX11_motion_51 rfl ?_
        exact q_iret dX11_motion_53 rfl rfl (Nat.le_of_ble_eq_true rfl) rfl
theorem dX11_vote_0 : decode cX11_vote 0 = .ok (.aload_n 0, 1) := by decide +kernel
theorem dX11_vote_1 : decode cX11_vote 1 = .ok (.getfield 12, 3) := by decide +kernel
theorem dX11_vote_4 : decode cX11_vote 4 = .ok (.getfield 236, 3) := by decide +kernel
theorem dX11_vote_7 : decode cX11_vote 7 = .ok (.astore 4, 2) := by decide +kernel
theorem dX11_vote_9 : decode cX11_vote 9 = .ok (.aload 4, 2) := by decide +kernel
theorem dX11_vote_11 : decode cX11_vote 11 = .ok (.iload_n 1, 1) := by decide +kernel
theorem dX11_vote_12 : decode cX11_vote 12 = .ok (.invokevirtual 117, 3) := by decide +kernel
theorem dX11_vote_15 : decode cX11_vote 15 = .ok (.ifCond .eq 26, 3) := by decide +kernel
theorem dX11_vote_18 : decode cX11_vote 18 = .ok (.aload_n 0, 1) := by decide +kernel
theorem dX11_vote_19 : decode cX11_vote 19 = .ok (.getfield 12, 3) := by decide +kernel
theorem dX11_vote_22 : decode cX11_vote 22 = .ok (.getfield 100, 3) := by decide +kernel
theorem dX11_vote_25 : decode cX11_vote 25 = .ok (.iload_n 2, 1) := by decide +kernel
theorem dX11_vote_26 : decode cX11_vote 26 = .ok (.invokevirtual 117, 3) := by decide +kernel
theorem dX11_vote_29 : decode cX11_vote 29 = .ok (.ifCond .eq 12, 3) := by decide +kernel
theorem dX11_vote_32 : decode cX11_vote 32 = .ok (.iload_n 3, 1) := by decide +kernel
theorem dX11_vote_33 : decode cX11_vote 33 = .ok (.iconst (-1), 1) := by decide +kernel
theorem dX11_vote_34 : decode cX11_vote 34 = .ok (.iconst 1, 1) := by decide +kernel
theorem dX11_vote_35 : decode cX11_vote 35 = .ok (.invokestatic 96, 3) := by decide +kernel
theorem dX11_vote_38 : decode cX11_vote 38 = .ok (.ifCond .ne 6, 3) := by decide +kernel
theorem dX11_vote_41 : decode cX11_vote 41 = .ok (.bipush (-10), 2) := by decide +kernel
theorem dX11_vote_43 : decode cX11_vote 43 = .ok (.ireturn, 1) := by decide +kernel
theorem dX11_vote_44 : decode cX11_vote 44 = .ok (.aload_n 0, 1) := by decide +kernel
theorem dX11_vote_45 : decode cX11_vote 45 = .ok (.getfield 12, 3) := by decide +kernel
theorem dX11_vote_48 : decode cX11_vote 48 = .ok (.getfield 100, 3) := by decide +kernel
theorem dX11_vote_51 : decode cX11_vote 51 = .ok (.iload_n 2, 1) := by decide +kernel
theorem dX11_vote_52 : decode cX11_vote 52 = .ok (.iconst 3, 1) := by decide +kernel
theorem dX11_vote_53 : decode cX11_vote 53 = .ok (.invokevirtual 133, 3) := by decide +kernel
theorem dX11_vote_56 : decode cX11_vote 56 = .ok (.iconst 1, 1) := by decide +kernel
theorem dX11_vote_57 : decode cX11_vote 57 = .ok (.if_icmp .ne 14, 3) := by decide +kernel
theorem dX11_vote_60 : decode cX11_vote 60 = .ok (.aload 4, 2) := by decide +kernel
theorem dX11_vote_62 : decode cX11_vote 62 = .ok (.iload_n 1, 1) := by decide +kernel
theorem dX11_vote_63 : decode cX11_vote 63 = .ok (.iconst 2, 1) := by decide +kernel
theorem dX11_vote_64 : decode cX11_vote 64 = .ok (.invokevirtual 133, 3) := by decide +kernel
theorem dX11_vote_67 : decode cX11_vote 67 = .ok (.iconst 1, 1) := by decide +kernel
theorem dX11_vote_68 : decode cX11_vote 68 = .ok (.if_icmp .ne 6, 3) := by decide +kernel
theorem dX11_vote_71 : decode cX11_vote 71 = .ok (.bipush (-20), 2) := by decide +kernel
theorem dX11_vote_73 : decode cX11_vote 73 = .ok (.ireturn, 1) := by decide +kernel
theorem dX11_vote_74 : decode cX11_vote 74 = .ok (.aload 4, 2) := by decide +kernel
theorem dX11_vote_76 : decode cX11_vote 76 = .ok (.iload_n 1, 1) := by decide +kernel
theorem dX11_vote_77 : decode cX11_vote 77 = .ok (.bipush 64, 2) := by decide +kernel
theorem dX11_vote_79 : decode cX11_vote 79 = .ok (.iload_n 2, 1) := by decide +kernel
theorem dX11_vote_80 : decode cX11_vote 80 = .ok (.iadd, 1) := by decide +kernel
theorem dX11_vote_81 : decode cX11_vote 81 = .ok (.invokevirtual 133, 3) := by decide +kernel
theorem dX11_vote_84 : decode cX11_vote 84 = .ok (.istore 5, 2) := by decide +kernel
theorem dX11_vote_86 : decode cX11_vote 86 = .ok (.aload 4, 2) := by decide +kernel
theorem dX11_vote_88 : decode cX11_vote 88 = .ok (.iload_n 1, 1) := by decide +kernel
theorem dX11_vote_89 : decode cX11_vote 89 = .ok (.bipush 64, 2) := by decide +kernel
theorem dX11_vote_91 : decode cX11_vote 91 = .ok (.iload_n 2, 1) := by decide +kernel
theorem dX11_vote_92 : decode cX11_vote 92 = .ok (.iadd, 1) := by decide +kernel
theorem dX11_vote_93 : decode cX11_vote 93 = .ok (.iload_n 3, 1) := by decide +kernel
theorem dX11_vote_94 : decode cX11_vote 94 = .ok (.invokevirtual 113, 3) := by decide +kernel
theorem dX11_vote_97 : decode cX11_vote 97 = .ok (.iload 5, 2) := by decide +kernel
theorem dX11_vote_99 : decode cX11_vote 99 = .ok (.ireturn, 1) := by decide +kernel
def f_X11_vote (M : q_Mem) (a0 : Nat) (a1 : Int32) (a2 : Int32) (a3 : Int32) : Option (Int32 × q_Mem) :=
  q_ob 10 M a0 ((q_gR 10 0 M a0).bind fun v1 =>
  (q_gR 4 6 M v1).bind fun v3 =>
  (f_X9_has M v3 a1).bind fun v6 =>
  (if v6 = 0 then
    some ((-10 : Int32), M)
  else
    (q_gR 10 0 M a0).bind fun v7 =>
    (q_gR 4 0 M v7).bind fun v9 =>
    (f_X9_has M v9 a2).bind fun v12 =>
    (if v12 = 0 then
      some ((-10 : Int32), M)
    else
      (f_X11_within M a3 (-1 : Int32) (1 : Int32)).bind fun v14 =>
      (if v14 = 0 then
        some ((-10 : Int32), M)
      else
        (q_gR 10 0 M a0).bind fun v15 =>
        (q_gR 4 0 M v15).bind fun v17 =>
        (f_X9_at M v17 a2 (3 : Int32)).bind fun v20 =>
        (if v20 = (1 : Int32) then
          (f_X9_at M v3 a1 (2 : Int32)).bind fun v22 =>
          (if v22 = (1 : Int32) then
            some ((-20 : Int32), M)
          else
            (f_X9_at M v3 a1 ((64 : Int32) + a2)).bind fun v24 =>
            (f_X9_put M v3 a1 ((64 : Int32) + a2) a3).bind fun M27 =>
            some (v24, M27))
        else
          some ((-20 : Int32), M))))))
set_option maxRecDepth 20000 in
theorem m_X11_vote {M : q_Mem} {a0 : Nat} {a1 : Int32} {a2 : Int32} {a3 : Int32} {x : (Int32 × q_Mem)} (h : f_X11_vote M a0 a1 a2 a3 = some x) : q_C Y_X11_vote [.ref a0, .int a1, .int a2, .int a3] M (some (.int x.1)) x.2 := by
  refine q_met (φ := (fun x : Int32 × q_Mem => (some (.int x.1), x.2))) (r := f_X11_vote M a0 a1 a2 a3) (by decide +kernel) (Nat.le_of_ble_eq_true rfl) ?_ h (fun _ _ => rfl)
  show q_V Y_X11_vote none (fun x : Int32 × q_Mem => (some (.int x.1), x.2)) 0 0 0 [(0, .ref a0), (1, .int a1), (2, .int a2), (3, .int a3)] [] M (f_X11_vote M a0 a1 a2 a3)
  unfold f_X11_vote
  refine q_obV ?_
  refine q_aload_n 0 dX11_vote_0 rfl ?_
  refine q_getR (f := 0) cl_X11 (by decide) qw_367 rfl dX11_vote_1 (fun _ _ _ => rfl) (fun v1 h2 => ?_)
  refine q_getR (f := 6) cl_X5 (by decide) qw_100 rfl dX11_vote_4 (fun _ _ _ => rfl) (fun v3 h4 => ?_)
  refine q_astore (ls' := [(4, .ref v3), (0, .ref a0), (1, .int a1), (2, .int a2), (3, .int a3)]) dX11_vote_7 (by decide) rfl ?_
  refine q_aload 0 dX11_vote_9 rfl ?_
  refine q_iload_n 2 dX11_vote_11 rfl ?_
  refine q_cVI (Y2 := Y_X9_has) (As := [.int a1]) (b := v3) (st := []) cl_X9 mv_X9_has qw_420 dX11_vote_12 ⟨Nat.le_of_ble_eq_true rfl, Nat.le_of_ble_eq_true rfl⟩ rfl (fun _ _ => rfl) (Nat.le_of_ble_eq_true rfl) ⟨Nat.le_of_ble_eq_true rfl, Nat.le_of_ble_eq_true rfl⟩ (fun v6 h5 => q_ob_is h5) (fun v6 h5 => m_X9_has h5) (fun v6 h5 => ?_)
  refine q_if_eq (tgt := 41) dX11_vote_15 (by decide) (fun c32 => ?_) (fun c32 => ?_)
  · refine q_bipush (x := (-10 : Int32)) dX11_vote_41 rfl ?_
    exact q_iret dX11_vote_43 rfl rfl (Nat.le_of_ble_eq_true rfl) rfl
  · refine q_aload_n 1 dX11_vote_18 rfl ?_
    refine q_getR (f := 0) cl_X11 (by decide) qw_367 rfl dX11_vote_19 (fun _ _ _ => rfl) (fun v7 h8 => ?_)
    refine q_getR (f := 0) cl_X5 (by decide) qw_72 rfl dX11_vote_22 (fun _ _ _ => rfl) (fun v9 h10 => ?_)
    refine q_iload_n 3 dX11_vote_25 rfl ?_
    refine q_cVI (Y2 := Y_X9_has) (As := [.int a2]) (b := v9) (st := []) cl_X9 mv_X9_has qw_420 dX11_vote_26 ⟨Nat.le_of_ble_eq_true rfl, Nat.le_of_ble_eq_true rfl⟩ rfl (fun _ _ => rfl) (Nat.le_of_ble_eq_true rfl) ⟨Nat.le_of_ble_eq_true rfl, Nat.le_of_ble_eq_true rfl⟩ (fun v12 h11 => q_ob_is h11) (fun v12 h11 => m_X9_has h11) (fun v12 h11 => ?_)
    refine q_if_eq (tgt := 41) dX11_vote_29 (by decide) (fun c31 => ?_) (fun c31 => ?_)
    · refine q_bipush (x := (-10 : Int32)) dX11_vote_41 rfl ?_
      exact q_iret dX11_vote_43 rfl rfl (Nat.le_of_ble_eq_true rfl) rfl
    · refine q_iload_n 4 dX11_vote_32 rfl ?_
      refine q_iconst (x := (-1 : Int32)) dX11_vote_33 rfl ?_
      refine q_iconst (x := (1 : Int32)) dX11_vote_34 rfl ?_
      refine q_cSI (Y2 := Y_X11_within) (As := [.int a3, .int (-1 : Int32), .int (1 : Int32)]) (st := []) ms_X11_within qw_408 dX11_vote_35 ⟨Nat.le_of_ble_eq_true rfl, Nat.le_of_ble_eq_true rfl⟩ rfl (fun _ _ => rfl) (Nat.le_of_ble_eq_true rfl) ⟨Nat.le_of_ble_eq_true rfl, Nat.le_of_ble_eq_true rfl⟩ (fun v14 h13 => m_X11_within h13) (fun v14 h13 => ?_)
      refine q_if_ne (tgt := 44) dX11_vote_38 (by decide) (fun c30 => ?_) (fun c30 => ?_)
      · refine q_bipush (x := (-10 : Int32)) dX11_vote_41 rfl ?_
        exact q_iret dX11_vote_43 rfl rfl (Nat.le_of_ble_eq_true rfl) rfl
      · refine q_aload_n 1 dX11_vote_44 rfl ?_
        refine q_getR (f := 0) cl_X11 (by decide) qw_367 rfl dX11_vote_45 (fun _ _ _ => rfl) (fun v15 h16 => ?_)
        refine q_getR (f := 0) cl_X5 (by decide) qw_72 rfl dX11_vote_48 (fun _ _ _ => rfl) (fun v17 h18 => ?_)
        refine q_iload_n 3 dX11_vote_51 rfl ?_
        refine q_iconst (x := (3 : Int32)) dX11_vote_52 rfl ?_
        refine q_cVI (Y2 := Y_X9_at) (As := [.int a2, .int (3 : Int32)]) (b := v17) (st := []) cl_X9 mv_X9_at qw_442 dX11_vote_53 ⟨Nat.le_of_ble_eq_true rfl, Nat.le_of_ble_eq_true rfl⟩ rfl (fun _ _ => rfl) (Nat.le_of_ble_eq_true rfl) ⟨Nat.le_of_ble_eq_true rfl, Nat.le_of_ble_eq_true rfl⟩ (fun v20 h19 => q_ob_is h19) (fun v20 h19 => m_X9_at h19) (fun v20 h19 => ?_)
        refine q_iconst (x := (1 : Int32)) dX11_vote_56 rfl ?_
        refine q_icmp_ne (tgt := 71) dX11_vote_57 (by decide) (fun c29 => ?_) (fun c29 => ?_)
        · refine q_aload 0 dX11_vote_60 rfl ?_
          refine q_iload_n 2 dX11_vote_62 rfl ?_
          refine q_iconst (x := (2 : Int32)) dX11_vote_63 rfl ?_
          refine q_cVI (Y2 := Y_X9_at) (As := [.int a1, .int (2 : Int32)]) (b := v3) (st := []) cl_X9 mv_X9_at qw_442 dX11_vote_64 ⟨Nat.le_of_ble_eq_true rfl, Nat.le_of_ble_eq_true rfl⟩ rfl (fun _ _ => rfl) (Nat.le_of_ble_eq_true rfl) ⟨Nat.le_of_ble_eq_true rfl, Nat.le_of_ble_eq_true rfl⟩ (fun v22 h21 => q_ob_is h21) (fun v22 h21 => m_X9_at h21) (fun v22 h21 => ?_)
          refine q_iconst (x := (1 : Int32)) dX11_vote_67 rfl ?_
          refine q_icmp_ne (tgt := 74) dX11_vote_68 (by decide) (fun c28 => ?_) (fun c28 => ?_)
          · refine q_bipush (x := (-20 : Int32)) dX11_vote_71 rfl ?_
            exact q_iret dX11_vote_73 rfl rfl (Nat.le_of_ble_eq_true rfl) rfl
          · refine q_aload 0 dX11_vote_74 rfl ?_
            refine q_iload_n 2 dX11_vote_76 rfl ?_
            refine q_bipush (x := (64 : Int32)) dX11_vote_77 rfl ?_
            refine q_iload_n 3 dX11_vote_79 rfl ?_
            refine q_iadd dX11_vote_80 ?_
            refine q_cVI (Y2 := Y_X9_at) (As := [.int a1, .int ((64 : Int32) + a2)]) (b := v3) (st := []) cl_X9 mv_X9_at qw_442 dX11_vote_81 ⟨Nat.le_of_ble_eq_true rfl, Nat.le_of_ble_eq_true rfl⟩ rfl (fun _ _ => rfl) (Nat.le_of_ble_eq_true rfl) ⟨Nat.le_of_ble_eq_true rfl, Nat.le_of_ble_eq_true rfl⟩ (fun v24 h23 => q_ob_is h23) (fun v24 h23 => m_X9_at h23) (fun v24 h23 => ?_)
            refine q_istore (ls' := [(5, .int v24), (4, .ref v3), (0, .ref a0), (1, .int a1), (2, .int a2), (3, .int a3)]) dX11_vote_84 (by decide) rfl ?_
            refine q_aload 1 dX11_vote_86 rfl ?_
            refine q_iload_n 3 dX11_vote_88 rfl ?_
            refine q_bipush (x := (64 : Int32)) dX11_vote_89 rfl ?_
            refine q_iload_n 4 dX11_vote_91 rfl ?_
            refine q_iadd dX11_vote_92 ?_
            refine q_iload_n 5 dX11_vote_93 rfl ?_
            refine q_cVM (Y2 := Y_X9_put) (As := [.int a1, .int ((64 : Int32) + a2), .int a3]) (b := v3) (st := []) cl_X9 mv_X9_put qw_415 dX11_vote_94 ⟨Nat.le_of_ble_eq_true rfl, Nat.le_of_ble_eq_true rfl⟩ rfl (fun _ _ => rfl) (Nat.le_of_ble_eq_true rfl) ⟨Nat.le_of_ble_eq_true rfl, Nat.le_of_ble_eq_true rfl⟩ (fun M27 h25 => q_ob_is h25) (fun M27 h25 => m_X9_put h25) (fun M27 h25 => ?_)
            refine q_iload 0 dX11_vote_97 rfl ?_
            exact q_iret dX11_vote_99 rfl rfl (Nat.le_of_ble_eq_true rfl) rfl
        · refine q_bipush (x := (-20 : Int32)) dX11_vote_71 rfl ?_
          exact q_iret dX11_vote_73 rfl rfl (Nat.le_of_ble_eq_true rfl) rfl
theorem dX11_tear_0 : decode cX11_tear 0 = .ok (.aload_n 0, 1) := by decide +kernel
theorem dX11_tear_1 : decode cX11_tear 1 = .ok (.getfield 12, 3) := by decide +kernel
theorem dX11_tear_4 : decode cX11_tear 4 = .ok (.getfield 236, 3) := by decide +kernel
theorem dX11_tear_7 : decode cX11_tear 7 = .ok (.iload_n 1, 1) := by decide +kernel
theorem dX11_tear_8 : decode cX11_tear 8 = .ok (.invokevirtual 117, 3) := by decide +kernel
theorem dX11_tear_11 : decode cX11_tear 11 = .ok (.ifCond .ne 6, 3) := by decide +kernel
theorem dX11_tear_14 : decode cX11_tear 14 = .ok (.bipush (-2), 2) := by decide +kernel
theorem dX11_tear_16 : decode cX11_tear 16 = .ok (.ireturn, 1) := by decide +kernel
theorem dX11_tear_17 : decode cX11_tear 17 = .ok (.aload_n 0, 1) := by decide +kernel
theorem dX11_tear_18 : decode cX11_tear 18 = .ok (.getfield 12, 3) := by decide +kernel
theorem dX11_tear_21 : decode cX11_tear 21 = .ok (.getfield 236, 3) := by decide +kernel
theorem dX11_tear_24 : decode cX11_tear 24 = .ok (.iload_n 1, 1) := by decide +kernel
theorem dX11_tear_25 : decode cX11_tear 25 = .ok (.iconst 2, 1) := by decide +kernel
theorem dX11_tear_26 : decode cX11_tear 26 = .ok (.invokevirtual 133, 3) := by decide +kernel
theorem dX11_tear_29 : decode cX11_tear 29 = .ok (.iload_n 2, 1) := by decide +kernel
theorem dX11_tear_30 : decode cX11_tear 30 = .ok (.invokestatic 109, 3) := by decide +kernel
theorem dX11_tear_33 : decode cX11_tear 33 = .ok (.if_icmp .ne 6, 3) := by decide +kernel
theorem dX11_tear_36 : decode cX11_tear 36 = .ok (.bipush (-3), 2) := by decide +kernel
theorem dX11_tear_38 : decode cX11_tear 38 = .ok (.ireturn, 1) := by decide +kernel
theorem dX11_tear_39 : decode cX11_tear 39 = .ok (.aload_n 0, 1) := by decide +kernel
theorem dX11_tear_40 : decode cX11_tear 40 = .ok (.getfield 12, 3) := by decide +kernel
theorem dX11_tear_43 : decode cX11_tear 43 = .ok (.getfield 236, 3) := by decide +kernel
theorem dX11_tear_46 : decode cX11_tear 46 = .ok (.iload_n 1, 1) := by decide +kernel
theorem dX11_tear_47 : decode cX11_tear 47 = .ok (.iconst 2, 1) := by decide +kernel
theorem dX11_tear_48 : decode cX11_tear 48 = .ok (.iload_n 2, 1) := by decide +kernel
theorem dX11_tear_49 : decode cX11_tear 49 = .ok (.invokestatic 109, 3) := by decide +kernel
theorem dX11_tear_52 : decode cX11_tear 52 = .ok (.invokevirtual 113, 3) := by decide +kernel
theorem dX11_tear_55 : decode cX11_tear 55 = .ok (.iconst 1, 1) := by decide +kernel
theorem dX11_tear_56 : decode cX11_tear 56 = .ok (.ireturn, 1) := by decide +kernel
def f_X11_tear (M : q_Mem) (a0 : Nat) (a1 : Int32) (a2 : Int32) : Option (Int32 × q_Mem) :=
  q_ob 10 M a0 ((q_gR 10 0 M a0).bind fun v1 =>
  (q_gR 4 6 M v1).bind fun v3 =>
  (f_X9_has M v3 a1).bind fun v6 =>
  (if v6 = 0 then
    some ((-2 : Int32), M)
  else
    (q_gR 10 0 M a0).bind fun v7 =>
    (q_gR 4 6 M v7).bind fun v9 =>
    (f_X9_at M v9 a1 (2 : Int32)).bind fun v12 =>
    (f_X11_asNumber M a2).bind fun v14 =>
    (if v12 = v14 then
      some ((-3 : Int32), M)
    else
      (q_gR 10 0 M a0).bind fun v15 =>
      (q_gR 4 6 M v15).bind fun v17 =>
      (f_X11_asNumber M a2).bind fun v20 =>
      (f_X9_put M v17 a1 (2 : Int32) v20).bind fun M23 =>
      some ((1 : Int32), M23))))
set_option maxRecDepth 20000 in
theorem m_X11_tear {M : q_Mem} {a0 : Nat} {a1 : Int32} {a2 : Int32} {x : (Int32 × q_Mem)} (h : f_X11_tear M a0 a1 a2 = some x) : q_C Y_X11_tear [.ref a0, .int a1, .int a2] M (some (.int x.1)) x.2 := by
  refine q_met (φ := (fun x : Int32 × q_Mem => (some (.int x.1), x.2))) (r := f_X11_tear M a0 a1 a2) (by decide +kernel) (Nat.le_of_ble_eq_true rfl) ?_ h (fun _ _ => rfl)
  show q_V Y_X11_tear none (fun x : Int32 × q_Mem => (some (.int x.1), x.2)) 0 0 0 [(0, .ref a0), (1, .int a1), (2, .int a2)] [] M (f_X11_tear M a0 a1 a2)
  unfold f_X11_tear
  refine q_obV ?_
  refine q_aload_n 0 dX11_tear_0 rfl ?_
  refine q_getR (f := 0) cl_X11 (by decide) qw_367 rfl dX11_tear_1 (fun _ _ _ => rfl) (fun v1 h2 => ?_)
  refine q_getR (f := 6) cl_X5 (by decide) qw_100 rfl dX11_tear_4 (fun _ _ _ => rfl) (fun v3 h4 => ?_)
  refine q_iload_n 1 dX11_tear_7 rfl ?_
  refine q_cVI (Y2 := Y_X9_has) (As := [.int a1]) (b := v3) (st := []) cl_X9 mv_X9_has qw_420 dX11_tear_8 ⟨Nat.le_of_ble_eq_true rfl, Nat.le_of_ble_eq_true rfl⟩ rfl (fun _ _ => rfl) (Nat.le_of_ble_eq_true rfl) ⟨Nat.le_of_ble_eq_true rfl, Nat.le_of_ble_eq_true rfl⟩ (fun v6 h5 => q_ob_is h5) (fun v6 h5 => m_X9_has h5) (fun v6 h5 => ?_)
  refine q_if_ne (tgt := 17) dX11_tear_11 (by decide) (fun c25 => ?_) (fun c25 => ?_)
  · refine q_bipush (x := (-2 : Int32)) dX11_tear_14 rfl ?_
    exact q_iret dX11_tear_16 rfl rfl (Nat.le_of_ble_eq_true rfl) rfl
  · refine q_aload_n 0 dX11_tear_17 rfl ?_
    refine q_getR (f := 0) cl_X11 (by decide) qw_367 rfl dX11_tear_18 (fun _ _ _ => rfl) (fun v7 h8 => ?_)
    refine q_getR (f := 6) cl_X5 (by decide) qw_100 rfl dX11_tear_21 (fun _ _ _ => rfl) (fun v9 h10 => ?_)
    refine q_iload_n 1 dX11_tear_24 rfl ?_
    refine q_iconst (x := (2 : Int32)) dX11_tear_25 rfl ?_
    refine q_cVI (Y2 := Y_X9_at) (As := [.int a1, .int (2 : Int32)]) (b := v9) (st := []) cl_X9 mv_X9_at qw_442 dX11_tear_26 ⟨Nat.le_of_ble_eq_true rfl, Nat.le_of_ble_eq_true rfl⟩ rfl (fun _ _ => rfl) (Nat.le_of_ble_eq_true rfl) ⟨Nat.le_of_ble_eq_true rfl, Nat.le_of_ble_eq_true rfl⟩ (fun v12 h11 => q_ob_is h11) (fun v12 h11 => m_X9_at h11) (fun v12 h11 => ?_)
    refine q_iload_n 2 dX11_tear_29 rfl ?_
    refine q_cSI (Y2 := Y_X11_asNumber) (As := [.int a2]) (st := [.int v12]) ms_X11_asNumber qw_412 dX11_tear_30 ⟨Nat.le_of_ble_eq_true rfl, Nat.le_of_ble_eq_true rfl⟩ rfl (fun _ _ => rfl) (Nat.le_of_ble_eq_true rfl) ⟨Nat.le_of_ble_eq_true rfl, Nat.le_of_ble_eq_true rfl⟩ (fun v14 h13 => m_X11_asNumber h13) (fun v14 h13 => ?_)
    refine q_icmp_ne (tgt := 39) dX11_tear_33 (by decide) (fun c24 => ?_) (fun c24 => ?_)
    · refine q_bipush (x := (-3 : Int32)) dX11_tear_36 rfl ?_
      exact q_iret dX11_tear_38 rfl rfl (Nat.le_of_ble_eq_true rfl) rfl
    · refine q_aload_n 0 dX11_tear_39 rfl ?_
      refine q_getR (f := 0) cl_X11 (by decide) qw_367 rfl dX11_tear_40 (fun _ _ _ => rfl) (fun v15 h16 => ?_)
      refine q_getR (f := 6) cl_X5 (by decide) qw_100 rfl dX11_tear_43 (fun _ _ _ => rfl) (fun v17 h18 => ?_)
      refine q_iload_n 1 dX11_tear_46 rfl ?_
      refine q_iconst (x := (2 : Int32)) dX11_tear_47 rfl ?_
      refine q_iload_n 2 dX11_tear_48 rfl ?_
      refine q_cSI (Y2 := Y_X11_asNumber) (As := [.int a2]) (st := [.int (2 : Int32), .int a1, .ref v17]) ms_X11_asNumber qw_412 dX11_tear_49 ⟨Nat.le_of_ble_eq_true rfl, Nat.le_of_ble_eq_true rfl⟩ rfl (fun _ _ => rfl) (Nat.le_of_ble_eq_true rfl) ⟨Nat.le_of_ble_eq_true rfl, Nat.le_of_ble_eq_true rfl⟩ (fun v20 h19 => m_X11_asNumber h19) (fun v20 h19 => ?_)
      refine q_cVM (Y2 := Y_X9_put) (As := [.int a1, .int (2 : Int32), .int v20]) (b := v17) (st := []) cl_X9 mv_X9_put qw_415 dX11_tear_52 ⟨Nat.le_of_ble_eq_true rfl, Nat.le_of_ble_eq_true rfl⟩ rfl (fun _ _ => rfl) (Nat.le_of_ble_eq_true rfl) ⟨Nat.le_of_ble_eq_true rfl, Nat.le_of_ble_eq_true rfl⟩ (fun M23 h21 => q_ob_is h21) (fun M23 h21 => m_X9_put h21) (fun M23 h21 => ?_)
      refine q_iconst (x := (1 : Int32)) dX11_tear_55 rfl ?_
      exact q_iret dX11_tear_56 rfl rfl (Nat.le_of_ble_eq_true rfl) rfl
theorem dX11_motionAt_0 : decode cX11_motionAt 0 = .ok (.aload_n 0, 1) := by decide +kernel
theorem dX11_motionAt_1 : decode cX11_motionAt 1 = .ok (.getfield 12, 3) := by decide +kernel
theorem dX11_motionAt_4 : decode cX11_motionAt 4 = .ok (.getfield 236, 3) := by decide +kernel
theorem dX11_motionAt_7 : decode cX11_motionAt 7 = .ok (.iload_n 1, 1) := by decide +kernel
theorem dX11_motionAt_8 : decode cX11_motionAt 8 = .ok (.invokevirtual 117, 3) := by decide +kernel
theorem dX11_motionAt_11 : decode cX11_motionAt 11 = .ok (.ifCond .eq 12, 3) := by decide +kernel
theorem dX11_motionAt_14 : decode cX11_motionAt 14 = .ok (.iload_n 2, 1) := by decide +kernel
theorem dX11_motionAt_15 : decode cX11_motionAt 15 = .ok (.iconst 0, 1) := by decide +kernel
theorem dX11_motionAt_16 : decode cX11_motionAt 16 = .ok (.iconst 4, 1) := by decide +kernel
theorem dX11_motionAt_17 : decode cX11_motionAt 17 = .ok (.invokestatic 96, 3) := by decide +kernel
theorem dX11_motionAt_20 : decode cX11_motionAt 20 = .ok (.ifCond .ne 6, 3) := by decide +kernel
theorem dX11_motionAt_23 : decode cX11_motionAt 23 = .ok (.bipush (-2), 2) := by decide +kernel
theorem dX11_motionAt_25 : decode cX11_motionAt 25 = .ok (.ireturn, 1) := by decide +kernel
theorem dX11_motionAt_26 : decode cX11_motionAt 26 = .ok (.aload_n 0, 1) := by decide +kernel
theorem dX11_motionAt_27 : decode cX11_motionAt 27 = .ok (.getfield 52, 3) := by decide +kernel
theorem dX11_motionAt_30 : decode cX11_motionAt 30 = .ok (.iload_n 1, 1) := by decide +kernel
theorem dX11_motionAt_31 : decode cX11_motionAt 31 = .ok (.iload_n 2, 1) := by decide +kernel
theorem dX11_motionAt_32 : decode cX11_motionAt 32 = .ok (.invokevirtual 239, 3) := by decide +kernel
theorem dX11_motionAt_35 : decode cX11_motionAt 35 = .ok (.ireturn, 1) := by decide +kernel
def f_X11_motionAt (M : q_Mem) (a0 : Nat) (a1 : Int32) (a2 : Int32) : Option Int32 :=
  q_ob 10 M a0 ((q_gR 10 0 M a0).bind fun v1 =>
  (q_gR 4 6 M v1).bind fun v3 =>
  (f_X9_has M v3 a1).bind fun v6 =>
  (if v6 = 0 then
    some (-2 : Int32)
  else
    (f_X11_within M a2 (0 : Int32) (4 : Int32)).bind fun v8 =>
    (if v8 = 0 then
      some (-2 : Int32)
    else
      (q_gR 10 6 M a0).bind fun v9 =>
      (f_X0_tellOf M v9 a1 a2).bind fun v12 =>
      some v12)))
set_option maxRecDepth 20000 in
theorem m_X11_motionAt {M : q_Mem} {a0 : Nat} {a1 : Int32} {a2 : Int32} {x : Int32} (h : f_X11_motionAt M a0 a1 a2 = some x) : q_C Y_X11_motionAt [.ref a0, .int a1, .int a2] M (some (.int x)) M := by
  refine q_met (φ := (fun x : Int32 => (some (.int x), M))) (r := f_X11_motionAt M a0 a1 a2) (by decide +kernel) (Nat.le_of_ble_eq_true rfl) ?_ h (fun _ _ => rfl)
  show q_V Y_X11_motionAt none (fun x : Int32 => (some (.int x), M)) 0 0 0 [(0, .ref a0), (1, .int a1), (2, .int a2)] [] M (f_X11_motionAt M a0 a1 a2)
  unfold f_X11_motionAt
  refine q_obV ?_
  refine q_aload_n 0 dX11_motionAt_0 rfl ?_
  refine q_getR (f := 0) cl_X11 (by decide) qw_367 rfl dX11_motionAt_1 (fun _ _ _ => rfl) (fun v1 h2 => ?_)
  refine q_getR (f := 6) cl_X5 (by decide) qw_100 rfl dX11_motionAt_4 (fun _ _ _ => rfl) (fun v3 h4 => ?_)
  refine q_iload_n 1 dX11_motionAt_7 rfl ?_
  refine q_cVI (Y2 := Y_X9_has) (As := [.int a1]) (b := v3) (st := []) cl_X9 mv_X9_has qw_420 dX11_motionAt_8 ⟨Nat.le_of_ble_eq_true rfl, Nat.le_of_ble_eq_true rfl⟩ rfl (fun _ _ => rfl) (Nat.le_of_ble_eq_true rfl) ⟨Nat.le_of_ble_eq_true rfl, Nat.le_of_ble_eq_true rfl⟩ (fun v6 h5 => q_ob_is h5) (fun v6 h5 => m_X9_has h5) (fun v6 h5 => ?_)
  refine q_if_eq (tgt := 23) dX11_motionAt_11 (by decide) (fun c14 => ?_) (fun c14 => ?_)
  · refine q_bipush (x := (-2 : Int32)) dX11_motionAt_23 rfl ?_
    exact q_iret dX11_motionAt_25 rfl rfl (Nat.le_of_ble_eq_true rfl) rfl
  · refine q_iload_n 2 dX11_motionAt_14 rfl ?_
    refine q_iconst (x := (0 : Int32)) dX11_motionAt_15 rfl ?_
    refine q_iconst (x := (4 : Int32)) dX11_motionAt_16 rfl ?_
    refine q_cSI (Y2 := Y_X11_within) (As := [.int a2, .int (0 : Int32), .int (4 : Int32)]) (st := []) ms_X11_within qw_408 dX11_motionAt_17 ⟨Nat.le_of_ble_eq_true rfl, Nat.le_of_ble_eq_true rfl⟩ rfl (fun _ _ => rfl) (Nat.le_of_ble_eq_true rfl) ⟨Nat.le_of_ble_eq_true rfl, Nat.le_of_ble_eq_true rfl⟩ (fun v8 h7 => m_X11_within h7) (fun v8 h7 => ?_)
    refine q_if_ne (tgt := 26) dX11_motionAt_20 (by decide) (fun c13 => ?_) (fun c13 => ?_)
    · refine q_bipush (x := (-2 : Int32)) dX11_motionAt_23 rfl ?_
      exact q_iret dX11_motionAt_25 rfl rfl (Nat.le_of_ble_eq_true rfl) rfl
    · refine q_aload_n 0 dX11_motionAt_26 rfl ?_
      refine q_getR (f := 6) cl_X11 (by decide) qw_373 rfl dX11_motionAt_27 (fun _ _ _ => rfl) (fun v9 h10 => ?_)
      refine q_iload_n 1 dX11_motionAt_30 rfl ?_
      refine q_iload_n 2 dX11_motionAt_31 rfl ?_
      refine q_cVI (Y2 := Y_X0_tellOf) (As := [.int a1, .int a2]) (b := v9) (st := []) cl_X0 mv_X0_tellOf qw_792 dX11_motionAt_32 ⟨Nat.le_of_ble_eq_true rfl, Nat.le_of_ble_eq_true rfl⟩ rfl (fun _ _ => rfl) (Nat.le_of_ble_eq_true rfl) ⟨Nat.le_of_ble_eq_true rfl, Nat.le_of_ble_eq_true rfl⟩ (fun v12 h11 => q_ob_is h11) (fun v12 h11 => m_X0_tellOf h11) (fun v12 h11 => ?_)
      exact q_iret dX11_motionAt_35 rfl rfl (Nat.le_of_ble_eq_true rfl) rfl
theorem dX11_force_0 : decode cX11_force 0 = .ok (.iload_n 1, 1) := by decide +kernel
theorem dX11_force_1 : decode cX11_force 1 = .ok (.invokestatic 121, 3) := by decide +kernel
theorem dX11_force_4 : decode cX11_force 4 = .ok (.ifCond .ne 6, 3) := by decide +kernel
theorem dX11_force_7 : decode cX11_force 7 = .ok (.bipush (-2), 2) := by decide +kernel
theorem dX11_force_9 : decode cX11_force 9 = .ok (.ireturn, 1) := by decide +kernel
theorem dX11_force_10 : decode cX11_force 10 = .ok (.aload_n 0, 1) := by decide +kernel
theorem dX11_force_11 : decode cX11_force 11 = .ok (.getfield 52, 3) := by decide +kernel
theorem dX11_force_14 : decode cX11_force 14 = .ok (.iload_n 1, 1) := by decide +kernel
theorem dX11_force_15 : decode cX11_force 15 = .ok (.invokevirtual 242, 3) := by decide +kernel
theorem dX11_force_18 : decode cX11_force 18 = .ok (.ireturn, 1) := by decide +kernel
def f_X11_force (M : q_Mem) (a0 : Nat) (a1 : Int32) : Option Int32 :=
  q_ob 10 M a0 ((f_X11_isDay M a1).bind fun v2 =>
  (if v2 = 0 then
    some (-2 : Int32)
  else
    (q_gR 10 6 M a0).bind fun v3 =>
    (f_X0_inForce M v3 a1).bind fun v6 =>
    some v6))
set_option maxRecDepth 20000 in
theorem m_X11_force {M : q_Mem} {a0 : Nat} {a1 : Int32} {x : Int32} (h : f_X11_force M a0 a1 = some x) : q_C Y_X11_force [.ref a0, .int a1] M (some (.int x)) M := by
  refine q_met (φ := (fun x : Int32 => (some (.int x), M))) (r := f_X11_force M a0 a1) (by decide +kernel) (Nat.le_of_ble_eq_true rfl) ?_ h (fun _ _ => rfl)
  show q_V Y_X11_force none (fun x : Int32 => (some (.int x), M)) 0 0 0 [(0, .ref a0), (1, .int a1)] [] M (f_X11_force M a0 a1)
  unfold f_X11_force
  refine q_obV ?_
  refine q_iload_n 1 dX11_force_0 rfl ?_
  refine q_cSI (Y2 := Y_X11_isDay) (As := [.int a1]) (st := []) ms_X11_isDay qw_428 dX11_force_1 ⟨Nat.le_of_ble_eq_true rfl, Nat.le_of_ble_eq_true rfl⟩ rfl (fun _ _ => rfl) (Nat.le_of_ble_eq_true rfl) ⟨Nat.le_of_ble_eq_true rfl, Nat.le_of_ble_eq_true rfl⟩ (fun v2 h1 => m_X11_isDay h1) (fun v2 h1 => ?_)
  refine q_if_ne (tgt := 10) dX11_force_4 (by decide) (fun c7 => ?_) (fun c7 => ?_)
  · refine q_bipush (x := (-2 : Int32)) dX11_force_7 rfl ?_
    exact q_iret dX11_force_9 rfl rfl (Nat.le_of_ble_eq_true rfl) rfl
  · refine q_aload_n 0 dX11_force_10 rfl ?_
    refine q_getR (f := 6) cl_X11 (by decide) qw_373 rfl dX11_force_11 (fun _ _ _ => rfl) (fun v3 h4 => ?_)
    refine q_iload_n 1 dX11_force_14 rfl ?_
    refine q_cVI (Y2 := Y_X0_inForce) (As := [.int a1]) (b := v3) (st := []) cl_X0 mv_X0_inForce qw_809 dX11_force_15 ⟨Nat.le_of_ble_eq_true rfl, Nat.le_of_ble_eq_true rfl⟩ rfl (fun _ _ => rfl) (Nat.le_of_ble_eq_true rfl) ⟨Nat.le_of_ble_eq_true rfl, Nat.le_of_ble_eq_true rfl⟩ (fun v6 h5 => q_ob_is h5) (fun v6 h5 => m_X0_inForce h5) (fun v6 h5 => ?_)
    exact q_iret dX11_force_18 rfl rfl (Nat.le_of_ble_eq_true rfl) rfl
theorem dX11_money_0 : decode cX11_money 0 = .ok (.iload_n 1, 1) := by decide +kernel
theorem dX11_money_1 : decode cX11_money 1 = .ok (.invokestatic 156, 3) := by decide +kernel
theorem dX11_money_4 : decode cX11_money 4 = .ok (.ifCond .eq 10, 3) := by decide +kernel
theorem dX11_money_7 : decode cX11_money 7 = .ok (.iload_n 2, 1) := by decide +kernel
theorem dX11_money_8 : decode cX11_money 8 = .ok (.invokestatic 121, 3) := by decide +kernel
theorem dX11_money_11 : decode cX11_money 11 = .ok (.ifCond .ne 7, 3) := by decide +kernel
theorem dX11_money_14 : decode cX11_money 14 = .ok (.ldc2_w 159, 3) := by decide +kernel
theorem dX11_money_17 : decode cX11_money 17 = .ok (.lreturn, 1) := by decide +kernel
theorem dX11_money_18 : decode cX11_money 18 = .ok (.aload_n 0, 1) := by decide +kernel
theorem dX11_money_19 : decode cX11_money 19 = .ok (.getfield 61, 3) := by decide +kernel
theorem dX11_money_22 : decode cX11_money 22 = .ok (.iload_n 1, 1) := by decide +kernel
theorem dX11_money_23 : decode cX11_money 23 = .ok (.iload_n 2, 1) := by decide +kernel
theorem dX11_money_24 : decode cX11_money 24 = .ok (.invokevirtual 245, 3) := by decide +kernel
theorem dX11_money_27 : decode cX11_money 27 = .ok (.lreturn, 1) := by decide +kernel
def f_X11_money (M : q_Mem) (a0 : Nat) (a1 : Int32) (a2 : Int32) : Option Int64 :=
  q_ob 10 M a0 ((f_X11_isWeek M a1).bind fun v2 =>
  (if v2 = 0 then
    some (-2 : Int64)
  else
    (f_X11_isDay M a2).bind fun v4 =>
    (if v4 = 0 then
      some (-2 : Int64)
    else
      (q_gR 10 7 M a0).bind fun v5 =>
      (f_X7_penceOfWeek M v5 a1 a2).bind fun v8 =>
      some v8)))
set_option maxRecDepth 20000 in
theorem m_X11_money {M : q_Mem} {a0 : Nat} {a1 : Int32} {a2 : Int32} {x : Int64} (h : f_X11_money M a0 a1 a2 = some x) : q_C Y_X11_money [.ref a0, .int a1, .int a2] M (some (.long x)) M := by
  refine q_met (φ := (fun x : Int64 => (some (.long x), M))) (r := f_X11_money M a0 a1 a2) (by decide +kernel) (Nat.le_of_ble_eq_true rfl) ?_ h (fun _ _ => rfl)
  show q_V Y_X11_money none (fun x : Int64 => (some (.long x), M)) 0 0 0 [(0, .ref a0), (1, .int a1), (2, .int a2)] [] M (f_X11_money M a0 a1 a2)
  unfold f_X11_money
  refine q_obV ?_
  refine q_iload_n 1 dX11_money_0 rfl ?_
  refine q_cSI (Y2 := Y_X11_isWeek) (As := [.int a1]) (st := []) ms_X11_isWeek qw_512 dX11_money_1 ⟨Nat.le_of_ble_eq_true rfl, Nat.le_of_ble_eq_true rfl⟩ rfl (fun _ _ => rfl) (Nat.le_of_ble_eq_true rfl) ⟨Nat.le_of_ble_eq_true rfl, Nat.le_of_ble_eq_true rfl⟩ (fun v2 h1 => m_X11_isWeek h1) (fun v2 h1 => ?_)
  refine q_if_eq (tgt := 14) dX11_money_4 (by decide) (fun c10 => ?_) (fun c10 => ?_)
  · refine q_ldc2 (x := (-2 : Int64)) qw_515 dX11_money_14 ?_
    exact q_lret dX11_money_17 rfl rfl (Nat.le_of_ble_eq_true rfl) rfl
  · refine q_iload_n 2 dX11_money_7 rfl ?_
    refine q_cSI (Y2 := Y_X11_isDay) (As := [.int a2]) (st := []) ms_X11_isDay qw_428 dX11_money_8 ⟨Nat.le_of_ble_eq_true rfl, Nat.le_of_ble_eq_true rfl⟩ rfl (fun _ _ => rfl) (Nat.le_of_ble_eq_true rfl) ⟨Nat.le_of_ble_eq_true rfl, Nat.le_of_ble_eq_true rfl⟩ (fun v4 h3 => m_X11_isDay h3) (fun v4 h3 => ?_)
    refine q_if_ne (tgt := 18) dX11_money_11 (by decide) (fun c9 => ?_) (fun c9 => ?_)
    · refine q_ldc2 (x := (-2 : Int64)) qw_515 dX11_money_14 ?_
      exact q_lret dX11_money_17 rfl rfl (Nat.le_of_ble_eq_true rfl) rfl
    · refine q_aload_n 0 dX11_money_18 rfl ?_
      refine q_getR (f := 7) cl_X11 (by decide) qw_374 rfl dX11_money_19 (fun _ _ _ => rfl) (fun v5 h6 => ?_)
      refine q_iload_n 1 dX11_money_22 rfl ?_
      refine q_iload_n 2 dX11_money_23 rfl ?_
      refine q_cVJ (Y2 := Y_X7_penceOfWeek) (As := [.int a1, .int a2]) (b := v5) (st := []) cl_X7 mv_X7_penceOfWeek qw_817 dX11_money_24 ⟨Nat.le_of_ble_eq_true rfl, Nat.le_of_ble_eq_true rfl⟩ rfl (fun _ _ => rfl) (Nat.le_of_ble_eq_true rfl) ⟨Nat.le_of_ble_eq_true rfl, Nat.le_of_ble_eq_true rfl⟩ (fun v8 h7 => q_ob_is h7) (fun v8 h7 => m_X7_penceOfWeek h7) (fun v8 h7 => ?_)
      exact q_lret dX11_money_27 rfl rfl (Nat.le_of_ble_eq_true rfl) rfl
theorem dX11_pay_0 : decode cX11_pay 0 = .ok (.iload_n 1, 1) := by decide +kernel
theorem dX11_pay_1 : decode cX11_pay 1 = .ok (.invokestatic 156, 3) := by decide +kernel
theorem dX11_pay_4 : decode cX11_pay 4 = .ok (.ifCond .eq 24, 3) := by decide +kernel
theorem dX11_pay_7 : decode cX11_pay 7 = .ok (.aload_n 0, 1) := by decide +kernel
theorem dX11_pay_8 : decode cX11_pay 8 = .ok (.getfield 12, 3) := by decide +kernel
theorem dX11_pay_11 : decode cX11_pay 11 = .ok (.getfield 100, 3) := by decide +kernel
theorem dX11_pay_14 : decode cX11_pay 14 = .ok (.iload_n 2, 1) := by decide +kernel
theorem dX11_pay_15 : decode cX11_pay 15 = .ok (.invokevirtual 117, 3) := by decide +kernel
theorem dX11_pay_18 : decode cX11_pay 18 = .ok (.ifCond .eq 10, 3) := by decide +kernel
theorem dX11_pay_21 : decode cX11_pay 21 = .ok (.iload_n 3, 1) := by decide +kernel
theorem dX11_pay_22 : decode cX11_pay 22 = .ok (.invokestatic 121, 3) := by decide +kernel
theorem dX11_pay_25 : decode cX11_pay 25 = .ok (.ifCond .ne 7, 3) := by decide +kernel
theorem dX11_pay_28 : decode cX11_pay 28 = .ok (.ldc2_w 159, 3) := by decide +kernel
theorem dX11_pay_31 : decode cX11_pay 31 = .ok (.lreturn, 1) := by decide +kernel
theorem dX11_pay_32 : decode cX11_pay 32 = .ok (.aload_n 0, 1) := by decide +kernel
theorem dX11_pay_33 : decode cX11_pay 33 = .ok (.getfield 61, 3) := by decide +kernel
theorem dX11_pay_36 : decode cX11_pay 36 = .ok (.iload_n 1, 1) := by decide +kernel
theorem dX11_pay_37 : decode cX11_pay 37 = .ok (.iload_n 3, 1) := by decide +kernel
theorem dX11_pay_38 : decode cX11_pay 38 = .ok (.invokevirtual 214, 3) := by decide +kernel
theorem dX11_pay_41 : decode cX11_pay 41 = .ok (.aload_n 0, 1) := by decide +kernel
theorem dX11_pay_42 : decode cX11_pay 42 = .ok (.getfield 61, 3) := by decide +kernel
theorem dX11_pay_45 : decode cX11_pay 45 = .ok (.iload_n 1, 1) := by decide +kernel
theorem dX11_pay_46 : decode cX11_pay 46 = .ok (.invokevirtual 248, 3) := by decide +kernel
theorem dX11_pay_49 : decode cX11_pay 49 = .ok (.aload_n 0, 1) := by decide +kernel
theorem dX11_pay_50 : decode cX11_pay 50 = .ok (.getfield 61, 3) := by decide +kernel
theorem dX11_pay_53 : decode cX11_pay 53 = .ok (.iload_n 2, 1) := by decide +kernel
theorem dX11_pay_54 : decode cX11_pay 54 = .ok (.aload_n 0, 1) := by decide +kernel
theorem dX11_pay_55 : decode cX11_pay 55 = .ok (.getfield 61, 3) := by decide +kernel
theorem dX11_pay_58 : decode cX11_pay 58 = .ok (.iload_n 1, 1) := by decide +kernel
theorem dX11_pay_59 : decode cX11_pay 59 = .ok (.iload_n 3, 1) := by decide +kernel
theorem dX11_pay_60 : decode cX11_pay 60 = .ok (.invokevirtual 245, 3) := by decide +kernel
theorem dX11_pay_63 : decode cX11_pay 63 = .ok (.invokevirtual 251, 3) := by decide +kernel
theorem dX11_pay_66 : decode cX11_pay 66 = .ok (.lreturn, 1) := by decide +kernel
def f_X11_pay (M : q_Mem) (a0 : Nat) (a1 : Int32) (a2 : Int32) (a3 : Int32) : Option (Int64 × q_Mem) :=
  q_ob 10 M a0 ((f_X11_isWeek M a1).bind fun v2 =>
  (if v2 = 0 then
    some ((-2 : Int64), M)
  else
    (q_gR 10 0 M a0).bind fun v3 =>
    (q_gR 4 0 M v3).bind fun v5 =>
    (f_X9_has M v5 a2).bind fun v8 =>
    (if v8 = 0 then
      some ((-2 : Int64), M)
    else
      (f_X11_isDay M a3).bind fun v10 =>
      (if v10 = 0 then
        some ((-2 : Int64), M)
      else
        (q_gR 10 7 M a0).bind fun v11 =>
        (f_X7_gather M v11 a1 a3).bind fun M15 =>
        (q_gR 10 7 M15 a0).bind fun v16 =>
        (f_X7_findShares M15 v16 a1).bind fun M20 =>
        (q_gR 10 7 M20 a0).bind fun v21 =>
        (q_gR 10 7 M20 a0).bind fun v23 =>
        (f_X7_penceOfWeek M20 v23 a1 a3).bind fun v26 =>
        (f_X7_partOf M20 v21 a2 v26).bind fun v28 =>
        some (v28, M20)))))
set_option maxRecDepth 20000 in
theorem m_X11_pay {M : q_Mem} {a0 : Nat} {a1 : Int32} {a2 : Int32} {a3 : Int32} {x : (Int64 × q_Mem)} (h : f_X11_pay M a0 a1 a2 a3 = some x) : q_C Y_X11_pay [.ref a0, .int a1, .int a2, .int a3] M (some (.long x.1)) x.2 := by
  refine q_met (φ := (fun x : Int64 × q_Mem => (some (.long x.1), x.2))) (r := f_X11_pay M a0 a1 a2 a3) (by decide +kernel) (Nat.le_of_ble_eq_true rfl) ?_ h (fun _ _ => rfl)
  show q_V Y_X11_pay none (fun x : Int64 × q_Mem => (some (.long x.1), x.2)) 0 0 0 [(0, .ref a0), (1, .int a1), (2, .int a2), (3, .int a3)] [] M (f_X11_pay M a0 a1 a2 a3)
  unfold f_X11_pay
  refine q_obV ?_
  refine q_iload_n 1 dX11_pay_0 rfl ?_
  refine q_cSI (Y2 := Y_X11_isWeek) (As := [.int a1]) (st := []) ms_X11_isWeek qw_512 dX11_pay_1 ⟨Nat.le_of_ble_eq_true rfl, Nat.le_of_ble_eq_true rfl⟩ rfl (fun _ _ => rfl) (Nat.le_of_ble_eq_true rfl) ⟨Nat.le_of_ble_eq_true rfl, Nat.le_of_ble_eq_true rfl⟩ (fun v2 h1 => m_X11_isWeek h1) (fun v2 h1 => ?_)
  refine q_if_eq (tgt := 28) dX11_pay_4 (by decide) (fun c31 => ?_) (fun c31 => ?_)
  · refine q_ldc2 (x := (-2 : Int64)) qw_515 dX11_pay_28 ?_
    exact q_lret dX11_pay_31 rfl rfl (Nat.le_of_ble_eq_true rfl) rfl
  · refine q_aload_n 0 dX11_pay_7 rfl ?_
    refine q_getR (f := 0) cl_X11 (by decide) qw_367 rfl dX11_pay_8 (fun _ _ _ => rfl) (fun v3 h4 => ?_)
    refine q_getR (f := 0) cl_X5 (by decide) qw_72 rfl dX11_pay_11 (fun _ _ _ => rfl) (fun v5 h6 => ?_)
    refine q_iload_n 2 dX11_pay_14 rfl ?_
    refine q_cVI (Y2 := Y_X9_has) (As := [.int a2]) (b := v5) (st := []) cl_X9 mv_X9_has qw_420 dX11_pay_15 ⟨Nat.le_of_ble_eq_true rfl, Nat.le_of_ble_eq_true rfl⟩ rfl (fun _ _ => rfl) (Nat.le_of_ble_eq_true rfl) ⟨Nat.le_of_ble_eq_true rfl, Nat.le_of_ble_eq_true rfl⟩ (fun v8 h7 => q_ob_is h7) (fun v8 h7 => m_X9_has h7) (fun v8 h7 => ?_)
    refine q_if_eq (tgt := 28) dX11_pay_18 (by decide) (fun c30 => ?_) (fun c30 => ?_)
    · refine q_ldc2 (x := (-2 : Int64)) qw_515 dX11_pay_28 ?_
      exact q_lret dX11_pay_31 rfl rfl (Nat.le_of_ble_eq_true rfl) rfl
    · refine q_iload_n 3 dX11_pay_21 rfl ?_
      refine q_cSI (Y2 := Y_X11_isDay) (As := [.int a3]) (st := []) ms_X11_isDay qw_428 dX11_pay_22 ⟨Nat.le_of_ble_eq_true rfl, Nat.le_of_ble_eq_true rfl⟩ rfl (fun _ _ => rfl) (Nat.le_of_ble_eq_true rfl) ⟨Nat.le_of_ble_eq_true rfl, Nat.le_of_ble_eq_true rfl⟩ (fun v10 h9 => m_X11_isDay h9) (fun v10 h9 => ?_)
      refine q_if_ne (tgt := 32) dX11_pay_25 (by decide) (fun c29 => ?_) (fun c29 => ?_)
      · refine q_ldc2 (x := (-2 : Int64)) qw_515 dX11_pay_28 ?_
        exact q_lret dX11_pay_31 rfl rfl (Nat.le_of_ble_eq_true rfl) rfl
      · refine q_aload_n 0 dX11_pay_32 rfl ?_
        refine q_getR (f := 7) cl_X11 (by decide) qw_374 rfl dX11_pay_33 (fun _ _ _ => rfl) (fun v11 h12 => ?_)
        refine q_iload_n 1 dX11_pay_36 rfl ?_
        refine q_iload_n 3 dX11_pay_37 rfl ?_
        refine q_cVM (Y2 := Y_X7_gather) (As := [.int a1, .int a3]) (b := v11) (st := []) cl_X7 mv_X7_gather qw_736 dX11_pay_38 ⟨Nat.le_of_ble_eq_true rfl, Nat.le_of_ble_eq_true rfl⟩ rfl (fun _ _ => rfl) (Nat.le_of_ble_eq_true rfl) ⟨Nat.le_of_ble_eq_true rfl, Nat.le_of_ble_eq_true rfl⟩ (fun M15 h13 => q_ob_is h13) (fun M15 h13 => m_X7_gather h13) (fun M15 h13 => ?_)
        refine q_aload_n 0 dX11_pay_41 rfl ?_
        refine q_getR (f := 7) cl_X11 (by decide) qw_374 rfl dX11_pay_42 (fun _ _ _ => rfl) (fun v16 h17 => ?_)
        refine q_iload_n 1 dX11_pay_45 rfl ?_
        refine q_cVM (Y2 := Y_X7_findShares) (As := [.int a1]) (b := v16) (st := []) cl_X7 mv_X7_findShares qw_825 dX11_pay_46 ⟨Nat.le_of_ble_eq_true rfl, Nat.le_of_ble_eq_true rfl⟩ rfl (fun _ _ => rfl) (Nat.le_of_ble_eq_true rfl) ⟨Nat.le_of_ble_eq_true rfl, Nat.le_of_ble_eq_true rfl⟩ (fun M20 h18 => q_ob_is h18) (fun M20 h18 => m_X7_findShares h18) (fun M20 h18 => ?_)
        refine q_aload_n 0 dX11_pay_49 rfl ?_
        refine q_getR (f := 7) cl_X11 (by decide) qw_374 rfl dX11_pay_50 (fun _ _ _ => rfl) (fun v21 h22 => ?_)
        refine q_iload_n 2 dX11_pay_53 rfl ?_
        refine q_aload_n 0 dX11_pay_54 rfl ?_
        refine q_getR (f := 7) cl_X11 (by decide) qw_374 rfl dX11_pay_55 (fun _ _ _ => rfl) (fun v23 h24 => ?_)
        refine q_iload_n 1 dX11_pay_58 rfl ?_
        refine q_iload_n 3 dX11_pay_59 rfl ?_
        refine q_cVJ (Y2 := Y_X7_penceOfWeek) (As := [.int a1, .int a3]) (b := v23) (st := [.int a2, .ref v21]) cl_X7 mv_X7_penceOfWeek qw_817 dX11_pay_60 ⟨Nat.le_of_ble_eq_true rfl, Nat.le_of_ble_eq_true rfl⟩ rfl (fun _ _ => rfl) (Nat.le_of_ble_eq_true rfl) ⟨Nat.le_of_ble_eq_true rfl, Nat.le_of_ble_eq_true rfl⟩ (fun v26 h25 => q_ob_is h25) (fun v26 h25 => m_X7_penceOfWeek h25) (fun v26 h25 => ?_)
        refine q_cVJ (Y2 := Y_X7_partOf) (As := [.int a2, .long v26]) (b := v21) (st := []) cl_X7 mv_X7_partOf qw_840 dX11_pay_63 ⟨Nat.le_of_ble_eq_true rfl, Nat.le_of_ble_eq_true rfl⟩ rfl (fun _ _ => rfl) (Nat.le_of_ble_eq_true rfl) ⟨Nat.le_of_ble_eq_true rfl, Nat.le_of_ble_eq_true rfl⟩ (fun v28 h27 => q_ob_is h27) (fun v28 h27 => m_X7_partOf h27) (fun v28 h27 => ?_)
        exact q_lret dX11_pay_66 rfl rfl (Nat.le_of_ble_eq_true rfl) rfl
theorem dX11_share_0 : decode cX11_share 0 = .ok (.iload_n 1, 1) := by decide +kernel
theorem dX11_share_1 : decode cX11_share 1 = .ok (.invokestatic 156, 3) := by decide +kernel
theorem dX11_share_4 : decode cX11_share 4 = .ok (.ifCond .eq 24, 3) := by decide +kernel
theorem dX11_share_7 : decode cX11_share 7 = .ok (.aload_n 0, 1) := by decide +kernel
theorem dX11_share_8 : decode cX11_share 8 = .ok (.getfield 12, 3) := by decide +kernel
theorem dX11_share_11 : decode cX11_share 11 = .ok (.getfield 100, 3) := by decide +kernel
theorem dX11_share_14 : decode cX11_share 14 = .ok (.iload_n 2, 1) := by decide +kernel
theorem dX11_share_15 : decode cX11_share 15 = .ok (.invokevirtual 117, 3) := by decide +kernel
theorem dX11_share_18 : decode cX11_share 18 = .ok (.ifCond .eq 10, 3) := by decide +kernel
theorem dX11_share_21 : decode cX11_share 21 = .ok (.iload_n 3, 1) := by decide +kernel
theorem dX11_share_22 : decode cX11_share 22 = .ok (.invokestatic 121, 3) := by decide +kernel
theorem dX11_share_25 : decode cX11_share 25 = .ok (.ifCond .ne 7, 3) := by decide +kernel
theorem dX11_share_28 : decode cX11_share 28 = .ok (.ldc2_w 159, 3) := by decide +kernel
theorem dX11_share_31 : decode cX11_share 31 = .ok (.lreturn, 1) := by decide +kernel
theorem dX11_share_32 : decode cX11_share 32 = .ok (.aload_n 0, 1) := by decide +kernel
theorem dX11_share_33 : decode cX11_share 33 = .ok (.getfield 61, 3) := by decide +kernel
theorem dX11_share_36 : decode cX11_share 36 = .ok (.iload_n 1, 1) := by decide +kernel
theorem dX11_share_37 : decode cX11_share 37 = .ok (.iload_n 3, 1) := by decide +kernel
theorem dX11_share_38 : decode cX11_share 38 = .ok (.invokevirtual 214, 3) := by decide +kernel
theorem dX11_share_41 : decode cX11_share 41 = .ok (.aload_n 0, 1) := by decide +kernel
theorem dX11_share_42 : decode cX11_share 42 = .ok (.getfield 61, 3) := by decide +kernel
theorem dX11_share_45 : decode cX11_share 45 = .ok (.iload_n 1, 1) := by decide +kernel
theorem dX11_share_46 : decode cX11_share 46 = .ok (.invokevirtual 248, 3) := by decide +kernel
theorem dX11_share_49 : decode cX11_share 49 = .ok (.iload_n 2, 1) := by decide +kernel
theorem dX11_share_50 : decode cX11_share 50 = .ok (.bipush 20, 2) := by decide +kernel
theorem dX11_share_52 : decode cX11_share 52 = .ok (.if_icmp .ge 15, 3) := by decide +kernel
theorem dX11_share_55 : decode cX11_share 55 = .ok (.aload_n 0, 1) := by decide +kernel
theorem dX11_share_56 : decode cX11_share 56 = .ok (.getfield 61, 3) := by decide +kernel
theorem dX11_share_59 : decode cX11_share 59 = .ok (.getfield 255, 3) := by decide +kernel
theorem dX11_share_62 : decode cX11_share 62 = .ok (.iload_n 2, 1) := by decide +kernel
theorem dX11_share_63 : decode cX11_share 63 = .ok (.laload, 1) := by decide +kernel
theorem dX11_share_64 : decode cX11_share 64 = .ok (.goto 4, 3) := by decide +kernel
theorem dX11_share_67 : decode cX11_share 67 = .ok (.lconst 0, 1) := by decide +kernel
theorem dX11_share_68 : decode cX11_share 68 = .ok (.lreturn, 1) := by decide +kernel
def f_X11_share (M : q_Mem) (a0 : Nat) (a1 : Int32) (a2 : Int32) (a3 : Int32) : Option (Int64 × q_Mem) :=
  q_ob 10 M a0 ((f_X11_isWeek M a1).bind fun v2 =>
  (if v2 = 0 then
    some ((-2 : Int64), M)
  else
    (q_gR 10 0 M a0).bind fun v3 =>
    (q_gR 4 0 M v3).bind fun v5 =>
    (f_X9_has M v5 a2).bind fun v8 =>
    (if v8 = 0 then
      some ((-2 : Int64), M)
    else
      (f_X11_isDay M a3).bind fun v10 =>
      (if v10 = 0 then
        some ((-2 : Int64), M)
      else
        (q_gR 10 7 M a0).bind fun v11 =>
        (f_X7_gather M v11 a1 a3).bind fun M15 =>
        (q_gR 10 7 M15 a0).bind fun v16 =>
        (f_X7_findShares M15 v16 a1).bind fun M20 =>
        (if a2 < (20 : Int32) then
          (q_gR 10 7 M20 a0).bind fun v21 =>
          (q_gR 6 9 M20 v21).bind fun v23 =>
          (q_lJ M20 v23 a2).bind fun v25 =>
          some (v25, M20)
        else
          some ((0 : Int64), M20))))))
set_option maxRecDepth 20000 in
theorem m_X11_share {M : q_Mem} {a0 : Nat} {a1 : Int32} {a2 : Int32} {a3 : Int32} {x : (Int64 × q_Mem)} (h : f_X11_share M a0 a1 a2 a3 = some x) : q_C Y_X11_share [.ref a0, .int a1, .int a2, .int a3] M (some (.long x.1)) x.2 := by
  refine q_met (φ := (fun x : Int64 × q_Mem => (some (.long x.1), x.2))) (r := f_X11_share M a0 a1 a2 a3) (by decide +kernel) (Nat.le_of_ble_eq_true rfl) ?_ h (fun _ _ => rfl)
  show q_V Y_X11_share none (fun x : Int64 × q_Mem => (some (.long x.1), x.2)) 0 0 0 [(0, .ref a0), (1, .int a1), (2, .int a2), (3, .int a3)] [] M (f_X11_share M a0 a1 a2 a3)
  unfold f_X11_share
  refine q_obV ?_
  refine q_iload_n 1 dX11_share_0 rfl ?_
  refine q_cSI (Y2 := Y_X11_isWeek) (As := [.int a1]) (st := []) ms_X11_isWeek qw_512 dX11_share_1 ⟨Nat.le_of_ble_eq_true rfl, Nat.le_of_ble_eq_true rfl⟩ rfl (fun _ _ => rfl) (Nat.le_of_ble_eq_true rfl) ⟨Nat.le_of_ble_eq_true rfl, Nat.le_of_ble_eq_true rfl⟩ (fun v2 h1 => m_X11_isWeek h1) (fun v2 h1 => ?_)
  refine q_if_eq (tgt := 28) dX11_share_4 (by decide) (fun c30 => ?_) (fun c30 => ?_)
  · refine q_ldc2 (x := (-2 : Int64)) qw_515 dX11_share_28 ?_
    exact q_lret dX11_share_31 rfl rfl (Nat.le_of_ble_eq_true rfl) rfl
  · refine q_aload_n 0 dX11_share_7 rfl ?_
    refine q_getR (f := 0) cl_X11 (by decide) qw_367 rfl dX11_share_8 (fun _ _ _ => rfl) (fun v3 h4 => ?_)
    refine q_getR (f := 0) cl_X5 (by decide) qw_72 rfl dX11_share_11 (fun _ _ _ => rfl) (fun v5 h6 => ?_)
    refine q_iload_n 2 dX11_share_14 rfl ?_
    refine q_cVI (Y2 := Y_X9_has) (As := [.int a2]) (b := v5) (st := []) cl_X9 mv_X9_has qw_420 dX11_share_15 ⟨Nat.le_of_ble_eq_true rfl, Nat.le_of_ble_eq_true rfl⟩ rfl (fun _ _ => rfl) (Nat.le_of_ble_eq_true rfl) ⟨Nat.le_of_ble_eq_true rfl, Nat.le_of_ble_eq_true rfl⟩ (fun v8 h7 => q_ob_is h7) (fun v8 h7 => m_X9_has h7) (fun v8 h7 => ?_)
    refine q_if_eq (tgt := 28) dX11_share_18 (by decide) (fun c29 => ?_) (fun c29 => ?_)
    · refine q_ldc2 (x := (-2 : Int64)) qw_515 dX11_share_28 ?_
      exact q_lret dX11_share_31 rfl rfl (Nat.le_of_ble_eq_true rfl) rfl
    · refine q_iload_n 3 dX11_share_21 rfl ?_
      refine q_cSI (Y2 := Y_X11_isDay) (As := [.int a3]) (st := []) ms_X11_isDay qw_428 dX11_share_22 ⟨Nat.le_of_ble_eq_true rfl, Nat.le_of_ble_eq_true rfl⟩ rfl (fun _ _ => rfl) (Nat.le_of_ble_eq_true rfl) ⟨Nat.le_of_ble_eq_true rfl, Nat.le_of_ble_eq_true rfl⟩ (fun v10 h9 => m_X11_isDay h9) (fun v10 h9 => ?_)
      refine q_if_ne (tgt := 32) dX11_share_25 (by decide) (fun c28 => ?_) (fun c28 => ?_)
      · refine q_ldc2 (x := (-2 : Int64)) qw_515 dX11_share_28 ?_
        exact q_lret dX11_share_31 rfl rfl (Nat.le_of_ble_eq_true rfl) rfl
      · refine q_aload_n 0 dX11_share_32 rfl ?_
        refine q_getR (f := 7) cl_X11 (by decide) qw_374 rfl dX11_share_33 (fun _ _ _ => rfl) (fun v11 h12 => ?_)
        refine q_iload_n 1 dX11_share_36 rfl ?_
        refine q_iload_n 3 dX11_share_37 rfl ?_
        refine q_cVM (Y2 := Y_X7_gather) (As := [.int a1, .int a3]) (b := v11) (st := []) cl_X7 mv_X7_gather qw_736 dX11_share_38 ⟨Nat.le_of_ble_eq_true rfl, Nat.le_of_ble_eq_true rfl⟩ rfl (fun _ _ => rfl) (Nat.le_of_ble_eq_true rfl) ⟨Nat.le_of_ble_eq_true rfl, Nat.le_of_ble_eq_true rfl⟩ (fun M15 h13 => q_ob_is h13) (fun M15 h13 => m_X7_gather h13) (fun M15 h13 => ?_)
        refine q_aload_n 0 dX11_share_41 rfl ?_
        refine q_getR (f := 7) cl_X11 (by decide) qw_374 rfl dX11_share_42 (fun _ _ _ => rfl) (fun v16 h17 => ?_)
        refine q_iload_n 1 dX11_share_45 rfl ?_
        refine q_cVM (Y2 := Y_X7_findShares) (As := [.int a1]) (b := v16) (st := []) cl_X7 mv_X7_findShares qw_825 dX11_share_46 ⟨Nat.le_of_ble_eq_true rfl, Nat.le_of_ble_eq_true rfl⟩ rfl (fun _ _ => rfl) (Nat.le_of_ble_eq_true rfl) ⟨Nat.le_of_ble_eq_true rfl, Nat.le_of_ble_eq_true rfl⟩ (fun M20 h18 => q_ob_is h18) (fun M20 h18 => m_X7_findShares h18) (fun M20 h18 => ?_)
        refine q_iload_n 2 dX11_share_49 rfl ?_
        refine q_bipush (x := (20 : Int32)) dX11_share_50 rfl ?_
        refine q_icmp_ge (tgt := 67) dX11_share_52 (by decide) (fun c27 => ?_) (fun c27 => ?_)
        · refine q_aload_n 0 dX11_share_55 rfl ?_
          refine q_getR (f := 7) cl_X11 (by decide) qw_374 rfl dX11_share_56 (fun _ _ _ => rfl) (fun v21 h22 => ?_)
          refine q_getR (f := 9) cl_X7 (by decide) qw_270 rfl dX11_share_59 (fun _ _ _ => rfl) (fun v23 h24 => ?_)
          refine q_iload_n 2 dX11_share_62 rfl ?_
          refine q_lald dX11_share_63 (fun v25 h26 => ?_)
          refine q_goto (tgt := 68) dX11_share_64 (by decide) ?_
          exact q_lret dX11_share_68 rfl rfl (Nat.le_of_ble_eq_true rfl) rfl
        · refine q_lconst (x := (0 : Int64)) dX11_share_67 rfl ?_
          exact q_lret dX11_share_68 rfl rfl (Nat.le_of_ble_eq_true rfl) rfl
theorem dX11_watered_0 : decode cX11_watered 0 = .ok (.aload_n 0, 1) := by decide +kernel
theorem dX11_watered_1 : decode cX11_watered 1 = .ok (.getfield 12, 3) := by decide +kernel
theorem dX11_watered_4 : decode cX11_watered 4 = .ok (.getfield 100, 3) := by decide +kernel
theorem dX11_watered_7 : decode cX11_watered 7 = .ok (.iload_n 1, 1) := by decide +kernel
theorem dX11_watered_8 : decode cX11_watered 8 = .ok (.invokevirtual 117, 3) := by decide +kernel
theorem dX11_watered_11 : decode cX11_watered 11 = .ok (.ifCond .eq 17, 3) := by decide +kernel
theorem dX11_watered_14 : decode cX11_watered 14 = .ok (.iload_n 2, 1) := by decide +kernel
theorem dX11_watered_15 : decode cX11_watered 15 = .ok (.invokestatic 156, 3) := by decide +kernel
theorem dX11_watered_18 : decode cX11_watered 18 = .ok (.ifCond .eq 10, 3) := by decide +kernel
theorem dX11_watered_21 : decode cX11_watered 21 = .ok (.iload_n 3, 1) := by decide +kernel
theorem dX11_watered_22 : decode cX11_watered 22 = .ok (.invokestatic 121, 3) := by decide +kernel
theorem dX11_watered_25 : decode cX11_watered 25 = .ok (.ifCond .ne 6, 3) := by decide +kernel
theorem dX11_watered_28 : decode cX11_watered 28 = .ok (.bipush (-2), 2) := by decide +kernel
theorem dX11_watered_30 : decode cX11_watered 30 = .ok (.ireturn, 1) := by decide +kernel
theorem dX11_watered_31 : decode cX11_watered 31 = .ok (.aload_n 0, 1) := by decide +kernel
theorem dX11_watered_32 : decode cX11_watered 32 = .ok (.getfield 29, 3) := by decide +kernel
theorem dX11_watered_35 : decode cX11_watered 35 = .ok (.iload_n 3, 1) := by decide +kernel
theorem dX11_watered_36 : decode cX11_watered 36 = .ok (.invokevirtual 148, 3) := by decide +kernel
theorem dX11_watered_39 : decode cX11_watered 39 = .ok (.aload_n 0, 1) := by decide +kernel
theorem dX11_watered_40 : decode cX11_watered 40 = .ok (.getfield 29, 3) := by decide +kernel
theorem dX11_watered_43 : decode cX11_watered 43 = .ok (.iload_n 1, 1) := by decide +kernel
theorem dX11_watered_44 : decode cX11_watered 44 = .ok (.iload_n 2, 1) := by decide +kernel
theorem dX11_watered_45 : decode cX11_watered 45 = .ok (.invokevirtual 259, 3) := by decide +kernel
theorem dX11_watered_48 : decode cX11_watered 48 = .ok (.ireturn, 1) := by decide +kernel
def f_X11_watered (M : q_Mem) (a0 : Nat) (a1 : Int32) (a2 : Int32) (a3 : Int32) : Option (Int32 × q_Mem) :=
  q_ob 10 M a0 ((q_gR 10 0 M a0).bind fun v1 =>
  (q_gR 4 0 M v1).bind fun v3 =>
  (f_X9_has M v3 a1).bind fun v6 =>
  (if v6 = 0 then
    some ((-2 : Int32), M)
  else
    (f_X11_isWeek M a2).bind fun v8 =>
    (if v8 = 0 then
      some ((-2 : Int32), M)
    else
      (f_X11_isDay M a3).bind fun v10 =>
      (if v10 = 0 then
        some ((-2 : Int32), M)
      else
        (q_gR 10 3 M a0).bind fun v11 =>
        (f_X6_learn M v11 a3).bind fun M15 =>
        (q_gR 10 3 M15 a0).bind fun v16 =>
        (f_X6_signsOfWater M15 v16 a1 a2).bind fun v19 =>
        some (v19, M15)))))
set_option maxRecDepth 20000 in
theorem m_X11_watered {M : q_Mem} {a0 : Nat} {a1 : Int32} {a2 : Int32} {a3 : Int32} {x : (Int32 × q_Mem)} (h : f_X11_watered M a0 a1 a2 a3 = some x) : q_C Y_X11_watered [.ref a0, .int a1, .int a2, .int a3] M (some (.int x.1)) x.2 := by
  refine q_met (φ := (fun x : Int32 × q_Mem => (some (.int x.1), x.2))) (r := f_X11_watered M a0 a1 a2 a3) (by decide +kernel) (Nat.le_of_ble_eq_true rfl) ?_ h (fun _ _ => rfl)
  show q_V Y_X11_watered none (fun x : Int32 × q_Mem => (some (.int x.1), x.2)) 0 0 0 [(0, .ref a0), (1, .int a1), (2, .int a2), (3, .int a3)] [] M (f_X11_watered M a0 a1 a2 a3)
  unfold f_X11_watered
  refine q_obV ?_
  refine q_aload_n 0 dX11_watered_0 rfl ?_
  refine q_getR (f := 0) cl_X11 (by decide) qw_367 rfl dX11_watered_1 (fun _ _ _ => rfl) (fun v1 h2 => ?_)
  refine q_getR (f := 0) cl_X5 (by decide) qw_72 rfl dX11_watered_4 (fun _ _ _ => rfl) (fun v3 h4 => ?_)
  refine q_iload_n 1 dX11_watered_7 rfl ?_
  refine q_cVI (Y2 := Y_X9_has) (As := [.int a1]) (b := v3) (st := []) cl_X9 mv_X9_has qw_420 dX11_watered_8 ⟨Nat.le_of_ble_eq_true rfl, Nat.le_of_ble_eq_true rfl⟩ rfl (fun _ _ => rfl) (Nat.le_of_ble_eq_true rfl) ⟨Nat.le_of_ble_eq_true rfl, Nat.le_of_ble_eq_true rfl⟩ (fun v6 h5 => q_ob_is h5) (fun v6 h5 => m_X9_has h5) (fun v6 h5 => ?_)
  refine q_if_eq (tgt := 28) dX11_watered_11 (by decide) (fun c22 => ?_) (fun c22 => ?_)
  · refine q_bipush (x := (-2 : Int32)) dX11_watered_28 rfl ?_
    exact q_iret dX11_watered_30 rfl rfl (Nat.le_of_ble_eq_true rfl) rfl
  · refine q_iload_n 2 dX11_watered_14 rfl ?_
    refine q_cSI (Y2 := Y_X11_isWeek) (As := [.int a2]) (st := []) ms_X11_isWeek qw_512 dX11_watered_15 ⟨Nat.le_of_ble_eq_true rfl, Nat.le_of_ble_eq_true rfl⟩ rfl (fun _ _ => rfl) (Nat.le_of_ble_eq_true rfl) ⟨Nat.le_of_ble_eq_true rfl, Nat.le_of_ble_eq_true rfl⟩ (fun v8 h7 => m_X11_isWeek h7) (fun v8 h7 => ?_)
    refine q_if_eq (tgt := 28) dX11_watered_18 (by decide) (fun c21 => ?_) (fun c21 => ?_)
    · refine q_bipush (x := (-2 : Int32)) dX11_watered_28 rfl ?_
      exact q_iret dX11_watered_30 rfl rfl (Nat.le_of_ble_eq_true rfl) rfl
    · refine q_iload_n 3 dX11_watered_21 rfl ?_
      refine q_cSI (Y2 := Y_X11_isDay) (As := [.int a3]) (st := []) ms_X11_isDay qw_428 dX11_watered_22 ⟨Nat.le_of_ble_eq_true rfl, Nat.le_of_ble_eq_true rfl⟩ rfl (fun _ _ => rfl) (Nat.le_of_ble_eq_true rfl) ⟨Nat.le_of_ble_eq_true rfl, Nat.le_of_ble_eq_true rfl⟩ (fun v10 h9 => m_X11_isDay h9) (fun v10 h9 => ?_)
      refine q_if_ne (tgt := 31) dX11_watered_25 (by decide) (fun c20 => ?_) (fun c20 => ?_)
      · refine q_bipush (x := (-2 : Int32)) dX11_watered_28 rfl ?_
        exact q_iret dX11_watered_30 rfl rfl (Nat.le_of_ble_eq_true rfl) rfl
      · refine q_aload_n 0 dX11_watered_31 rfl ?_
        refine q_getR (f := 3) cl_X11 (by decide) qw_370 rfl dX11_watered_32 (fun _ _ _ => rfl) (fun v11 h12 => ?_)
        refine q_iload_n 3 dX11_watered_35 rfl ?_
        refine q_cVM (Y2 := Y_X6_learn) (As := [.int a3]) (b := v11) (st := []) cl_X6 mv_X6_learn qw_491 dX11_watered_36 ⟨Nat.le_of_ble_eq_true rfl, Nat.le_of_ble_eq_true rfl⟩ rfl (fun _ _ => rfl) (Nat.le_of_ble_eq_true rfl) ⟨Nat.le_of_ble_eq_true rfl, Nat.le_of_ble_eq_true rfl⟩ (fun M15 h13 => q_ob_is h13) (fun M15 h13 => m_X6_learn h13) (fun M15 h13 => ?_)
        refine q_aload_n 0 dX11_watered_39 rfl ?_
        refine q_getR (f := 3) cl_X11 (by decide) qw_370 rfl dX11_watered_40 (fun _ _ _ => rfl) (fun v16 h17 => ?_)
        refine q_iload_n 1 dX11_watered_43 rfl ?_
        refine q_iload_n 2 dX11_watered_44 rfl ?_
        refine q_cVI (Y2 := Y_X6_signsOfWater) (As := [.int a1, .int a2]) (b := v16) (st := []) cl_X6 mv_X6_signsOfWater qw_853 dX11_watered_45 ⟨Nat.le_of_ble_eq_true rfl, Nat.le_of_ble_eq_true rfl⟩ rfl (fun _ _ => rfl) (Nat.le_of_ble_eq_true rfl) ⟨Nat.le_of_ble_eq_true rfl, Nat.le_of_ble_eq_true rfl⟩ (fun v19 h18 => q_ob_is h18) (fun v19 h18 => m_X6_signsOfWater h18) (fun v19 h18 => ?_)
        exact q_iret dX11_watered_48 rfl rfl (Nat.le_of_ble_eq_true rfl) rfl
theorem dX11_sour_0 : decode cX11_sour 0 = .ok (.iload_n 1, 1) := by decide +kernel
theorem dX11_sour_1 : decode cX11_sour 1 = .ok (.iconst 1, 1) := by decide +kernel
theorem dX11_sour_2 : decode cX11_sour 2 = .ok (.sipush 2000, 3) := by decide +kernel
theorem dX11_sour_5 : decode cX11_sour 5 = .ok (.invokestatic 96, 3) := by decide +kernel
theorem dX11_sour_8 : decode cX11_sour 8 = .ok (.ifCond .ne 6, 3) := by decide +kernel
theorem dX11_sour_11 : decode cX11_sour 11 = .ok (.bipush (-2), 2) := by decide +kernel
theorem dX11_sour_13 : decode cX11_sour 13 = .ok (.ireturn, 1) := by decide +kernel
theorem dX11_sour_14 : decode cX11_sour 14 = .ok (.aload_n 0, 1) := by decide +kernel
theorem dX11_sour_15 : decode cX11_sour 15 = .ok (.getfield 12, 3) := by decide +kernel
theorem dX11_sour_18 : decode cX11_sour 18 = .ok (.getfield 262, 3) := by decide +kernel
theorem dX11_sour_21 : decode cX11_sour 21 = .ok (.istore_n 2, 1) := by decide +kernel
theorem dX11_sour_22 : decode cX11_sour 22 = .ok (.aload_n 0, 1) := by decide +kernel
theorem dX11_sour_23 : decode cX11_sour 23 = .ok (.getfield 12, 3) := by decide +kernel
theorem dX11_sour_26 : decode cX11_sour 26 = .ok (.iload_n 1, 1) := by decide +kernel
theorem dX11_sour_27 : decode cX11_sour 27 = .ok (.putfield 262, 3) := by decide +kernel
theorem dX11_sour_30 : decode cX11_sour 30 = .ok (.iload_n 2, 1) := by decide +kernel
theorem dX11_sour_31 : decode cX11_sour 31 = .ok (.ireturn, 1) := by decide +kernel
def f_X11_sour (M : q_Mem) (a0 : Nat) (a1 : Int32) : Option (Int32 × q_Mem) :=
  q_ob 10 M a0 ((f_X11_within M a1 (1 : Int32) (2000 : Int32)).bind fun v2 =>
  (if v2 = 0 then
    some ((-2 : Int32), M)
  else
    (q_gR 10 0 M a0).bind fun v3 =>
    (q_gI 4 14 M v3).bind fun v5 =>
    (q_gR 10 0 M a0).bind fun v7 =>
    (q_pI 4 14 M v7 a1).bind fun M9 =>
    some (v5, M9)))
set_option maxRecDepth 20000 in
theorem m_X11_sour {M : q_Mem} {a0 : Nat} {a1 : Int32} {x : (Int32 × q_Mem)} (h : f_X11_sour M a0 a1 = some x) : q_C Y_X11_sour [.ref a0, .int a1] M (some (.int x.1)) x.2 := by
  refine q_met (φ := (fun x : Int32 × q_Mem => (some (.int x.1), x.2))) (r := f_X11_sour M a0 a1) (by decide +kernel) (Nat.le_of_ble_eq_true rfl) ?_ h (fun _ _ => rfl)
  show q_V Y_X11_sour none (fun x : Int32 × q_Mem => (some (.int x.1), x.2)) 0 0 0 [(0, .ref a0), (1, .int a1)] [] M (f_X11_sour M a0 a1)
  unfold f_X11_sour
  refine q_obV ?_
  refine q_iload_n 1 dX11_sour_0 rfl ?_
  refine q_iconst (x := (1 : Int32)) dX11_sour_1 rfl ?_
  refine q_sipush (x := (2000 : Int32)) dX11_sour_2 rfl ?_
  refine q_cSI (Y2 := Y_X11_within) (As := [.int a1, .int (1 : Int32), .int (2000 : Int32)]) (st := []) ms_X11_within qw_408 dX11_sour_5 ⟨Nat.le_of_ble_eq_true rfl, Nat.le_of_ble_eq_true rfl⟩ rfl (fun _ _ => rfl) (Nat.le_of_ble_eq_true rfl) ⟨Nat.le_of_ble_eq_true rfl, Nat.le_of_ble_eq_true rfl⟩ (fun v2 h1 => m_X11_within h1) (fun v2 h1 => ?_)
  refine q_if_ne (tgt := 14) dX11_sour_8 (by decide) (fun c11 => ?_) (fun c11 => ?_)
  · refine q_bipush (x := (-2 : Int32)) dX11_sour_11 rfl ?_
    exact q_iret dX11_sour_13 rfl rfl (Nat.le_of_ble_eq_true rfl) rfl
  · refine q_aload_n 0 dX11_sour_14 rfl ?_
    refine q_getR (f := 0) cl_X11 (by decide) qw_367 rfl dX11_sour_15 (fun _ _ _ => rfl) (fun v3 h4 => ?_)
    refine q_getI (f := 14) cl_X5 (by decide) qw_119 rfl dX11_sour_18 (Or.inl rfl) (fun v5 h6 => ?_)
    refine q_istore_n (ls' := [(2, .int v5), (0, .ref a0), (1, .int a1)]) dX11_sour_21 (by decide) rfl ?_
    refine q_aload_n 1 dX11_sour_22 rfl ?_
    refine q_getR (f := 0) cl_X11 (by decide) qw_367 rfl dX11_sour_23 (fun _ _ _ => rfl) (fun v7 h8 => ?_)
    refine q_iload_n 2 dX11_sour_26 rfl ?_
    refine q_putI (f := 14) cl_X5 (by decide) qw_119 rfl (Or.inl rfl) dX11_sour_27 rfl (fun M9 h10 => ?_)
    refine q_iload_n 0 dX11_sour_30 rfl ?_
    exact q_iret dX11_sour_31 rfl rfl (Nat.le_of_ble_eq_true rfl) rfl
theorem dX11_isSet_0 : decode cX11_isSet 0 = .ok (.iload_n 0, 1) := by decide +kernel
theorem dX11_isSet_1 : decode cX11_isSet 1 = .ok (.ifCond .lt 16, 3) := by decide +kernel
theorem dX11_isSet_4 : decode cX11_isSet 4 = .ok (.iload_n 0, 1) := by decide +kernel
theorem dX11_isSet_5 : decode cX11_isSet 5 = .ok (.aload_n 1, 1) := by decide +kernel
theorem dX11_isSet_6 : decode cX11_isSet 6 = .ok (.getfield 283, 3) := by decide +kernel
theorem dX11_isSet_9 : decode cX11_isSet 9 = .ok (.ishr, 1) := by decide +kernel
theorem dX11_isSet_10 : decode cX11_isSet 10 = .ok (.ifCond .ne 7, 3) := by decide +kernel
theorem dX11_isSet_13 : decode cX11_isSet 13 = .ok (.iconst 1, 1) := by decide +kernel
theorem dX11_isSet_14 : decode cX11_isSet 14 = .ok (.goto 4, 3) := by decide +kernel
theorem dX11_isSet_17 : decode cX11_isSet 17 = .ok (.iconst 0, 1) := by decide +kernel
theorem dX11_isSet_18 : decode cX11_isSet 18 = .ok (.ireturn, 1) := by decide +kernel
def f_X11_isSet (M : q_Mem) (a0 : Int32) (a1 : Nat) : Option Int32 :=
  (if a0 < 0 then
    some (0 : Int32)
  else
    (q_gI 8 3 M a1).bind fun v1 =>
    (if (a0 >>> (v1 &&& 31)) = 0 then
      some (1 : Int32)
    else
      some (0 : Int32)))
set_option maxRecDepth 20000 in
theorem m_X11_isSet {M : q_Mem} {a0 : Int32} {a1 : Nat} {x : Int32} (h : f_X11_isSet M a0 a1 = some x) : q_C Y_X11_isSet [.int a0, .ref a1] M (some (.int x)) M := by
  refine q_met (φ := (fun x : Int32 => (some (.int x), M))) (r := f_X11_isSet M a0 a1) (by decide +kernel) (Nat.le_of_ble_eq_true rfl) ?_ h (fun _ _ => rfl)
  show q_V Y_X11_isSet none (fun x : Int32 => (some (.int x), M)) 0 0 0 [(0, .int a0), (1, .ref a1)] [] M (f_X11_isSet M a0 a1)
  unfold f_X11_isSet
  refine q_iload_n 0 dX11_isSet_0 rfl ?_
  refine q_if_lt (tgt := 17) dX11_isSet_1 (by decide) (fun c4 => ?_) (fun c4 => ?_)
  · refine q_iconst (x := (0 : Int32)) dX11_isSet_17 rfl ?_
    exact q_zretL dX11_isSet_18 rfl (Or.inl rfl) rfl (Nat.le_of_ble_eq_true rfl) rfl
  · refine q_iload_n 0 dX11_isSet_4 rfl ?_
    refine q_aload_n 1 dX11_isSet_5 rfl ?_
    refine q_getI (f := 3) cl_X9 (by decide) qw_52 rfl dX11_isSet_6 (Or.inl rfl) (fun v1 h2 => ?_)
    refine q_ishr dX11_isSet_9 ?_
    refine q_if_ne (tgt := 17) dX11_isSet_10 (by decide) (fun c3 => ?_) (fun c3 => ?_)
    · refine q_iconst (x := (1 : Int32)) dX11_isSet_13 rfl ?_
      refine q_goto (tgt := 18) dX11_isSet_14 (by decide) ?_
      exact q_zretL dX11_isSet_18 rfl (Or.inr rfl) rfl (Nat.le_of_ble_eq_true rfl) rfl
    · refine q_iconst (x := (0 : Int32)) dX11_isSet_17 rfl ?_
      exact q_zretL dX11_isSet_18 rfl (Or.inl rfl) rfl (Nat.le_of_ble_eq_true rfl) rfl
theorem dX11_route_0 : decode cX11_route 0 = .ok (.iload_n 1, 1) := by decide +kernel
theorem dX11_route_1 : decode cX11_route 1 = .ok (.aload_n 0, 1) := by decide +kernel
theorem dX11_route_2 : decode cX11_route 2 = .ok (.getfield 12, 3) := by decide +kernel
theorem dX11_route_5 : decode cX11_route 5 = .ok (.getfield 100, 3) := by decide +kernel
theorem dX11_route_8 : decode cX11_route 8 = .ok (.invokestatic 265, 3) := by decide +kernel
theorem dX11_route_11 : decode cX11_route 11 = .ok (.ifCond .ne 6, 3) := by decide +kernel
theorem dX11_route_14 : decode cX11_route 14 = .ok (.bipush (-2), 2) := by decide +kernel
theorem dX11_route_16 : decode cX11_route 16 = .ok (.ireturn, 1) := by decide +kernel
theorem dX11_route_17 : decode cX11_route 17 = .ok (.iload_n 1, 1) := by decide +kernel
theorem dX11_route_18 : decode cX11_route 18 = .ok (.invokestatic 269, 3) := by decide +kernel
theorem dX11_route_21 : decode cX11_route 21 = .ok (.bipush 8, 2) := by decide +kernel
theorem dX11_route_23 : decode cX11_route 23 = .ok (.if_icmp .le 6, 3) := by decide +kernel
theorem dX11_route_26 : decode cX11_route 26 = .ok (.bipush (-3), 2) := by decide +kernel
theorem dX11_route_28 : decode cX11_route 28 = .ok (.ireturn, 1) := by decide +kernel
theorem dX11_route_29 : decode cX11_route 29 = .ok (.aload_n 0, 1) := by decide +kernel
theorem dX11_route_30 : decode cX11_route 30 = .ok (.getfield 68, 3) := by decide +kernel
theorem dX11_route_33 : decode cX11_route 33 = .ok (.iload_n 1, 1) := by decide +kernel
theorem dX11_route_34 : decode cX11_route 34 = .ok (.invokevirtual 274, 3) := by decide +kernel
theorem dX11_route_37 : decode cX11_route 37 = .ok (.aload_n 0, 1) := by decide +kernel
theorem dX11_route_38 : decode cX11_route 38 = .ok (.getfield 68, 3) := by decide +kernel
theorem dX11_route_41 : decode cX11_route 41 = .ok (.getfield 277, 3) := by decide +kernel
theorem dX11_route_44 : decode cX11_route 44 = .ok (.ireturn, 1) := by decide +kernel
def f_X11_route (M : q_Mem) (a0 : Nat) (a1 : Int32) : Option (Int32 × q_Mem) :=
  q_ob 10 M a0 ((q_gR 10 0 M a0).bind fun v1 =>
  (q_gR 4 0 M v1).bind fun v3 =>
  (f_X11_isSet M a1 v3).bind fun v6 =>
  (if v6 = 0 then
    some ((-2 : Int32), M)
  else
    (f_J6_bitCount_0f7a4 M a1).bind fun v8 =>
    (if (8 : Int32) < v8 then
      some ((-3 : Int32), M)
    else
      (q_gR 10 8 M a0).bind fun v9 =>
      (f_X3_plan M v9 a1).bind fun M13 =>
      (q_gR 10 8 M13 a0).bind fun v14 =>
      (q_gI 2 7 M13 v14).bind fun v16 =>
      some (v16, M13))))
set_option maxRecDepth 20000 in
theorem m_X11_route {M : q_Mem} {a0 : Nat} {a1 : Int32} {x : (Int32 × q_Mem)} (h : f_X11_route M a0 a1 = some x) : q_C Y_X11_route [.ref a0, .int a1] M (some (.int x.1)) x.2 := by
  refine q_met (φ := (fun x : Int32 × q_Mem => (some (.int x.1), x.2))) (r := f_X11_route M a0 a1) (by decide +kernel) (Nat.le_of_ble_eq_true rfl) ?_ h (fun _ _ => rfl)
  show q_V Y_X11_route none (fun x : Int32 × q_Mem => (some (.int x.1), x.2)) 0 0 0 [(0, .ref a0), (1, .int a1)] [] M (f_X11_route M a0 a1)
  unfold f_X11_route
  refine q_obV ?_
  refine q_iload_n 1 dX11_route_0 rfl ?_
  refine q_aload_n 0 dX11_route_1 rfl ?_
  refine q_getR (f := 0) cl_X11 (by decide) qw_367 rfl dX11_route_2 (fun _ _ _ => rfl) (fun v1 h2 => ?_)
  refine q_getR (f := 0) cl_X5 (by decide) qw_72 rfl dX11_route_5 (fun _ _ _ => rfl) (fun v3 h4 => ?_)
  refine q_cSI (Y2 := Y_X11_isSet) (As := [.int a1, .ref v3]) (st := []) ms_X11_isSet qw_869 dX11_route_8 ⟨Nat.le_of_ble_eq_true rfl, Nat.le_of_ble_eq_true rfl⟩ rfl (fun _ _ => rfl) (Nat.le_of_ble_eq_true rfl) ⟨Nat.le_of_ble_eq_true rfl, Nat.le_of_ble_eq_true rfl⟩ (fun v6 h5 => m_X11_isSet h5) (fun v6 h5 => ?_)
  refine q_if_ne (tgt := 17) dX11_route_11 (by decide) (fun c19 => ?_) (fun c19 => ?_)
  · refine q_bipush (x := (-2 : Int32)) dX11_route_14 rfl ?_
    exact q_iret dX11_route_16 rfl rfl (Nat.le_of_ble_eq_true rfl) rfl
  · refine q_iload_n 1 dX11_route_17 rfl ?_
    refine q_cSI (Y2 := Y_J6_bitCount_0f7a4) (As := [.int a1]) (st := []) ms_J6_bitCount_0f7a4 qw_872 dX11_route_18 ⟨Nat.le_of_ble_eq_true rfl, Nat.le_of_ble_eq_true rfl⟩ rfl (fun _ _ => rfl) (Nat.le_of_ble_eq_true rfl) ⟨Nat.le_of_ble_eq_true rfl, Nat.le_of_ble_eq_true rfl⟩ (fun v8 h7 => m_J6_bitCount_0f7a4 h7) (fun v8 h7 => ?_)
    refine q_bipush (x := (8 : Int32)) dX11_route_21 rfl ?_
    refine q_icmp_le (tgt := 29) dX11_route_23 (by decide) (fun c18 => ?_) (fun c18 => ?_)
    · refine q_bipush (x := (-3 : Int32)) dX11_route_26 rfl ?_
      exact q_iret dX11_route_28 rfl rfl (Nat.le_of_ble_eq_true rfl) rfl
    · refine q_aload_n 0 dX11_route_29 rfl ?_
      refine q_getR (f := 8) cl_X11 (by decide) qw_375 rfl dX11_route_30 (fun _ _ _ => rfl) (fun v9 h10 => ?_)
      refine q_iload_n 1 dX11_route_33 rfl ?_
      refine q_cVM (Y2 := Y_X3_plan) (As := [.int a1]) (b := v9) (st := []) cl_X3 mv_X3_plan qw_878 dX11_route_34 ⟨Nat.le_of_ble_eq_true rfl, Nat.le_of_ble_eq_true rfl⟩ rfl (fun _ _ => rfl) (Nat.le_of_ble_eq_true rfl) ⟨Nat.le_of_ble_eq_true rfl, Nat.le_of_ble_eq_true rfl⟩ (fun M13 h11 => q_ob_is h11) (fun M13 h11 => m_X3_plan h11) (fun M13 h11 => ?_)
      refine q_aload_n 0 dX11_route_37 rfl ?_
      refine q_getR (f := 8) cl_X11 (by decide) qw_375 rfl dX11_route_38 (fun _ _ _ => rfl) (fun v14 h15 => ?_)
      refine q_getI (f := 7) cl_X3 (by decide) qw_306 rfl dX11_route_41 (Or.inl rfl) (fun v16 h17 => ?_)
      exact q_iret dX11_route_44 rfl rfl (Nat.le_of_ble_eq_true rfl) rfl
theorem dX11_routeAt_0 : decode cX11_routeAt 0 = .ok (.iload_n 1, 1) := by decide +kernel
theorem dX11_routeAt_1 : decode cX11_routeAt 1 = .ok (.aload_n 0, 1) := by decide +kernel
theorem dX11_routeAt_2 : decode cX11_routeAt 2 = .ok (.getfield 12, 3) := by decide +kernel
theorem dX11_routeAt_5 : decode cX11_routeAt 5 = .ok (.getfield 100, 3) := by decide +kernel
theorem dX11_routeAt_8 : decode cX11_routeAt 8 = .ok (.invokestatic 265, 3) := by decide +kernel
theorem dX11_routeAt_11 : decode cX11_routeAt 11 = .ok (.ifCond .eq 7, 3) := by decide +kernel
theorem dX11_routeAt_14 : decode cX11_routeAt 14 = .ok (.iload_n 2, 1) := by decide +kernel
theorem dX11_routeAt_15 : decode cX11_routeAt 15 = .ok (.ifCond .ge 6, 3) := by decide +kernel
theorem dX11_routeAt_18 : decode cX11_routeAt 18 = .ok (.bipush (-2), 2) := by decide +kernel
theorem dX11_routeAt_20 : decode cX11_routeAt 20 = .ok (.ireturn, 1) := by decide +kernel
theorem dX11_routeAt_21 : decode cX11_routeAt 21 = .ok (.iload_n 1, 1) := by decide +kernel
theorem dX11_routeAt_22 : decode cX11_routeAt 22 = .ok (.invokestatic 269, 3) := by decide +kernel
theorem dX11_routeAt_25 : decode cX11_routeAt 25 = .ok (.bipush 8, 2) := by decide +kernel
theorem dX11_routeAt_27 : decode cX11_routeAt 27 = .ok (.if_icmp .le 6, 3) := by decide +kernel
theorem dX11_routeAt_30 : decode cX11_routeAt 30 = .ok (.bipush (-3), 2) := by decide +kernel
theorem dX11_routeAt_32 : decode cX11_routeAt 32 = .ok (.ireturn, 1) := by decide +kernel
theorem dX11_routeAt_33 : decode cX11_routeAt 33 = .ok (.aload_n 0, 1) := by decide +kernel
theorem dX11_routeAt_34 : decode cX11_routeAt 34 = .ok (.getfield 68, 3) := by decide +kernel
theorem dX11_routeAt_37 : decode cX11_routeAt 37 = .ok (.iload_n 1, 1) := by decide +kernel
theorem dX11_routeAt_38 : decode cX11_routeAt 38 = .ok (.invokevirtual 274, 3) := by decide +kernel
theorem dX11_routeAt_41 : decode cX11_routeAt 41 = .ok (.aload_n 0, 1) := by decide +kernel
theorem dX11_routeAt_42 : decode cX11_routeAt 42 = .ok (.getfield 68, 3) := by decide +kernel
theorem dX11_routeAt_45 : decode cX11_routeAt 45 = .ok (.iload_n 2, 1) := by decide +kernel
theorem dX11_routeAt_46 : decode cX11_routeAt 46 = .ok (.invokevirtual 280, 3) := by decide +kernel
theorem dX11_routeAt_49 : decode cX11_routeAt 49 = .ok (.ireturn, 1) := by decide +kernel
def f_X11_routeAt (M : q_Mem) (a0 : Nat) (a1 : Int32) (a2 : Int32) : Option (Int32 × q_Mem) :=
  q_ob 10 M a0 ((q_gR 10 0 M a0).bind fun v1 =>
  (q_gR 4 0 M v1).bind fun v3 =>
  (f_X11_isSet M a1 v3).bind fun v6 =>
  (if v6 = 0 then
    some ((-2 : Int32), M)
  else
    (if a2 < 0 then
      some ((-2 : Int32), M)
    else
      (f_J6_bitCount_0f7a4 M a1).bind fun v8 =>
      (if (8 : Int32) < v8 then
        some ((-3 : Int32), M)
      else
        (q_gR 10 8 M a0).bind fun v9 =>
        (f_X3_plan M v9 a1).bind fun M13 =>
        (q_gR 10 8 M13 a0).bind fun v14 =>
        (f_X3_stopAt M13 v14 a2).bind fun v17 =>
        some (v17, M13)))))
set_option maxRecDepth 20000 in
theorem m_X11_routeAt {M : q_Mem} {a0 : Nat} {a1 : Int32} {a2 : Int32} {x : (Int32 × q_Mem)} (h : f_X11_routeAt M a0 a1 a2 = some x) : q_C Y_X11_routeAt [.ref a0, .int a1, .int a2] M (some (.int x.1)) x.2 := by
  refine q_met (φ := (fun x : Int32 × q_Mem => (some (.int x.1), x.2))) (r := f_X11_routeAt M a0 a1 a2) (by decide +kernel) (Nat.le_of_ble_eq_true rfl) ?_ h (fun _ _ => rfl)
  show q_V Y_X11_routeAt none (fun x : Int32 × q_Mem => (some (.int x.1), x.2)) 0 0 0 [(0, .ref a0), (1, .int a1), (2, .int a2)] [] M (f_X11_routeAt M a0 a1 a2)
  unfold f_X11_routeAt
  refine q_obV ?_
  refine q_iload_n 1 dX11_routeAt_0 rfl ?_
  refine q_aload_n 0 dX11_routeAt_1 rfl ?_
  refine q_getR (f := 0) cl_X11 (by decide) qw_367 rfl dX11_routeAt_2 (fun _ _ _ => rfl) (fun v1 h2 => ?_)
  refine q_getR (f := 0) cl_X5 (by decide) qw_72 rfl dX11_routeAt_5 (fun _ _ _ => rfl) (fun v3 h4 => ?_)
  refine q_cSI (Y2 := Y_X11_isSet) (As := [.int a1, .ref v3]) (st := []) ms_X11_isSet qw_869 dX11_routeAt_8 ⟨Nat.le_of_ble_eq_true rfl, Nat.le_of_ble_eq_true rfl⟩ rfl (fun _ _ => rfl) (Nat.le_of_ble_eq_true rfl) ⟨Nat.le_of_ble_eq_true rfl, Nat.le_of_ble_eq_true rfl⟩ (fun v6 h5 => m_X11_isSet h5) (fun v6 h5 => ?_)
  refine q_if_eq (tgt := 18) dX11_routeAt_11 (by decide) (fun c20 => ?_) (fun c20 => ?_)
  · refine q_bipush (x := (-2 : Int32)) dX11_routeAt_18 rfl ?_
    exact q_iret dX11_routeAt_20 rfl rfl (Nat.le_of_ble_eq_true rfl) rfl
  · refine q_iload_n 2 dX11_routeAt_14 rfl ?_
    refine q_if_ge (tgt := 21) dX11_routeAt_15 (by decide) (fun c19 => ?_) (fun c19 => ?_)
    · refine q_bipush (x := (-2 : Int32)) dX11_routeAt_18 rfl ?_
      exact q_iret dX11_routeAt_20 rfl rfl (Nat.le_of_ble_eq_true rfl) rfl
    · refine q_iload_n 1 dX11_routeAt_21 rfl ?_
      refine q_cSI (Y2 := Y_J6_bitCount_0f7a4) (As := [.int a1]) (st := []) ms_J6_bitCount_0f7a4 qw_872 dX11_routeAt_22 ⟨Nat.le_of_ble_eq_true rfl, Nat.le_of_ble_eq_true rfl⟩ rfl (fun _ _ => rfl) (Nat.le_of_ble_eq_true rfl) ⟨Nat.le_of_ble_eq_true rfl, Nat.le_of_ble_eq_true rfl⟩ (fun v8 h7 => m_J6_bitCount_0f7a4 h7) (fun v8 h7 => ?_)
      refine q_bipush (x := (8 : Int32)) dX11_routeAt_25 rfl ?_
      refine q_icmp_le (tgt := 33) dX11_routeAt_27 (by decide) (fun c18 => ?_) (fun c18 => ?_)
      · refine q_bipush (x := (-3 : Int32)) dX11_routeAt_30 rfl ?_
        exact q_iret dX11_routeAt_32 rfl rfl (Nat.le_of_ble_eq_true rfl) rfl
      · refine q_aload_n 0 dX11_routeAt_33 rfl ?_
        refine q_getR (f := 8) cl_X11 (by decide) qw_375 rfl dX11_routeAt_34 (fun _ _ _ => rfl) (fun v9 h10 => ?_)
        refine q_iload_n 1 dX11_routeAt_37 rfl ?_
        refine q_cVM (Y2 := Y_X3_plan) (As := [.int a1]) (b := v9) (st := []) cl_X3 mv_X3_plan qw_878 dX11_routeAt_38 ⟨Nat.le_of_ble_eq_true rfl, Nat.le_of_ble_eq_true rfl⟩ rfl (fun _ _ => rfl) (Nat.le_of_ble_eq_true rfl) ⟨Nat.le_of_ble_eq_true rfl, Nat.le_of_ble_eq_true rfl⟩ (fun M13 h11 => q_ob_is h11) (fun M13 h11 => m_X3_plan h11) (fun M13 h11 => ?_)
        refine q_aload_n 0 dX11_routeAt_41 rfl ?_
        refine q_getR (f := 8) cl_X11 (by decide) qw_375 rfl dX11_routeAt_42 (fun _ _ _ => rfl) (fun v14 h15 => ?_)
        refine q_iload_n 2 dX11_routeAt_45 rfl ?_
        refine q_cVI (Y2 := Y_X3_stopAt) (As := [.int a2]) (b := v14) (st := []) cl_X3 mv_X3_stopAt qw_938 dX11_routeAt_46 ⟨Nat.le_of_ble_eq_true rfl, Nat.le_of_ble_eq_true rfl⟩ rfl (fun _ _ => rfl) (Nat.le_of_ble_eq_true rfl) ⟨Nat.le_of_ble_eq_true rfl, Nat.le_of_ble_eq_true rfl⟩ (fun v17 h16 => q_ob_is h16) (fun v17 h16 => m_X3_stopAt h16) (fun v17 h16 => ?_)
        exact q_iret dX11_routeAt_49 rfl rfl (Nat.le_of_ble_eq_true rfl) rfl
theorem dX11_cream_0 : decode cX11_cream 0 = .ok (.iload_n 1, 1) := by decide +kernel
theorem dX11_cream_1 : decode cX11_cream 1 = .ok (.iconst 1, 1) := by decide +kernel
theorem dX11_cream_2 : decode cX11_cream 2 = .ok (.ldc 194, 2) := by decide +kernel
theorem dX11_cream_4 : decode cX11_cream 4 = .ok (.invokestatic 96, 3) := by decide +kernel
theorem dX11_cream_7 : decode cX11_cream 7 = .ok (.ifCond .eq 24, 3) := by decide +kernel
theorem dX11_cream_10 : decode cX11_cream 10 = .ok (.iload_n 2, 1) := by decide +kernel
theorem dX11_cream_11 : decode cX11_cream 11 = .ok (.bipush 40, 2) := by decide +kernel
theorem dX11_cream_13 : decode cX11_cream 13 = .ok (.bipush 80, 2) := by decide +kernel
theorem dX11_cream_15 : decode cX11_cream 15 = .ok (.invokestatic 96, 3) := by decide +kernel
theorem dX11_cream_18 : decode cX11_cream 18 = .ok (.ifCond .eq 13, 3) := by decide +kernel
theorem dX11_cream_21 : decode cX11_cream 21 = .ok (.iload_n 3, 1) := by decide +kernel
theorem dX11_cream_22 : decode cX11_cream 22 = .ok (.iconst 0, 1) := by decide +kernel
theorem dX11_cream_23 : decode cX11_cream 23 = .ok (.bipush 9, 2) := by decide +kernel
theorem dX11_cream_25 : decode cX11_cream 25 = .ok (.invokestatic 96, 3) := by decide +kernel
theorem dX11_cream_28 : decode cX11_cream 28 = .ok (.ifCond .ne 6, 3) := by decide +kernel
theorem dX11_cream_31 : decode cX11_cream 31 = .ok (.bipush (-2), 2) := by decide +kernel
theorem dX11_cream_33 : decode cX11_cream 33 = .ok (.ireturn, 1) := by decide +kernel
theorem dX11_cream_34 : decode cX11_cream 34 = .ok (.aload_n 0, 1) := by decide +kernel
theorem dX11_cream_35 : decode cX11_cream 35 = .ok (.getfield 12, 3) := by decide +kernel
theorem dX11_cream_38 : decode cX11_cream 38 = .ok (.getfield 74, 3) := by decide +kernel
theorem dX11_cream_41 : decode cX11_cream 41 = .ok (.iload_n 1, 1) := by decide +kernel
theorem dX11_cream_42 : decode cX11_cream 42 = .ok (.iload_n 2, 1) := by decide +kernel
theorem dX11_cream_43 : decode cX11_cream 43 = .ok (.iload_n 3, 1) := by decide +kernel
theorem dX11_cream_44 : decode cX11_cream 44 = .ok (.invokevirtual 103, 3) := by decide +kernel
theorem dX11_cream_47 : decode cX11_cream 47 = .ok (.ireturn, 1) := by decide +kernel
def f_X11_cream (M : q_Mem) (a0 : Nat) (a1 : Int32) (a2 : Int32) (a3 : Int32) : Option (Int32 × q_Mem) :=
  q_ob 10 M a0 ((f_X11_within M a1 (1 : Int32) (1000000 : Int32)).bind fun v2 =>
  (if v2 = 0 then
    some ((-2 : Int32), M)
  else
    (f_X11_within M a2 (40 : Int32) (80 : Int32)).bind fun v4 =>
    (if v4 = 0 then
      some ((-2 : Int32), M)
    else
      (f_X11_within M a3 (0 : Int32) (9 : Int32)).bind fun v6 =>
      (if v6 = 0 then
        some ((-2 : Int32), M)
      else
        (q_gR 10 0 M a0).bind fun v7 =>
        (q_gR 4 7 M v7).bind fun v9 =>
        (f_X9_come M v9 a1 a2 a3).bind fun r12 =>
        some (r12.1, r12.2)))))
set_option maxRecDepth 20000 in
theorem m_X11_cream {M : q_Mem} {a0 : Nat} {a1 : Int32} {a2 : Int32} {a3 : Int32} {x : (Int32 × q_Mem)} (h : f_X11_cream M a0 a1 a2 a3 = some x) : q_C Y_X11_cream [.ref a0, .int a1, .int a2, .int a3] M (some (.int x.1)) x.2 := by
  refine q_met (φ := (fun x : Int32 × q_Mem => (some (.int x.1), x.2))) (r := f_X11_cream M a0 a1 a2 a3) (by decide +kernel) (Nat.le_of_ble_eq_true rfl) ?_ h (fun _ _ => rfl)
  show q_V Y_X11_cream none (fun x : Int32 × q_Mem => (some (.int x.1), x.2)) 0 0 0 [(0, .ref a0), (1, .int a1), (2, .int a2), (3, .int a3)] [] M (f_X11_cream M a0 a1 a2 a3)
  unfold f_X11_cream
  refine q_obV ?_
  refine q_iload_n 1 dX11_cream_0 rfl ?_
  refine q_iconst (x := (1 : Int32)) dX11_cream_1 rfl ?_
  refine q_ldc (x := (1000000 : Int32)) qw_593 dX11_cream_2 ?_
  refine q_cSI (Y2 := Y_X11_within) (As := [.int a1, .int (1 : Int32), .int (1000000 : Int32)]) (st := []) ms_X11_within qw_408 dX11_cream_4 ⟨Nat.le_of_ble_eq_true rfl, Nat.le_of_ble_eq_true rfl⟩ rfl (fun _ _ => rfl) (Nat.le_of_ble_eq_true rfl) ⟨Nat.le_of_ble_eq_true rfl, Nat.le_of_ble_eq_true rfl⟩ (fun v2 h1 => m_X11_within h1) (fun v2 h1 => ?_)
  refine q_if_eq (tgt := 31) dX11_cream_7 (by decide) (fun c15 => ?_) (fun c15 => ?_)
  · refine q_bipush (x := (-2 : Int32)) dX11_cream_31 rfl ?_
    exact q_iret dX11_cream_33 rfl rfl (Nat.le_of_ble_eq_true rfl) rfl
  · refine q_iload_n 2 dX11_cream_10 rfl ?_
    refine q_bipush (x := (40 : Int32)) dX11_cream_11 rfl ?_
    refine q_bipush (x := (80 : Int32)) dX11_cream_13 rfl ?_
    refine q_cSI (Y2 := Y_X11_within) (As := [.int a2, .int (40 : Int32), .int (80 : Int32)]) (st := []) ms_X11_within qw_408 dX11_cream_15 ⟨Nat.le_of_ble_eq_true rfl, Nat.le_of_ble_eq_true rfl⟩ rfl (fun _ _ => rfl) (Nat.le_of_ble_eq_true rfl) ⟨Nat.le_of_ble_eq_true rfl, Nat.le_of_ble_eq_true rfl⟩ (fun v4 h3 => m_X11_within h3) (fun v4 h3 => ?_)
    refine q_if_eq (tgt := 31) dX11_cream_18 (by decide) (fun c14 => ?_) (fun c14 => ?_)
    · refine q_bipush (x := (-2 : Int32)) dX11_cream_31 rfl ?_
      exact q_iret dX11_cream_33 rfl rfl (Nat.le_of_ble_eq_true rfl) rfl
    · refine q_iload_n 3 dX11_cream_21 rfl ?_
      refine q_iconst (x := (0 : Int32)) dX11_cream_22 rfl ?_
      refine q_bipush (x := (9 : Int32)) dX11_cream_23 rfl ?_
      refine q_cSI (Y2 := Y_X11_within) (As := [.int a3, .int (0 : Int32), .int (9 : Int32)]) (st := []) ms_X11_within qw_408 dX11_cream_25 ⟨Nat.le_of_ble_eq_true rfl, Nat.le_of_ble_eq_true rfl⟩ rfl (fun _ _ => rfl) (Nat.le_of_ble_eq_true rfl) ⟨Nat.le_of_ble_eq_true rfl, Nat.le_of_ble_eq_true rfl⟩ (fun v6 h5 => m_X11_within h5) (fun v6 h5 => ?_)
      refine q_if_ne (tgt := 34) dX11_cream_28 (by decide) (fun c13 => ?_) (fun c13 => ?_)
      · refine q_bipush (x := (-2 : Int32)) dX11_cream_31 rfl ?_
        exact q_iret dX11_cream_33 rfl rfl (Nat.le_of_ble_eq_true rfl) rfl
      · refine q_aload_n 0 dX11_cream_34 rfl ?_
        refine q_getR (f := 0) cl_X11 (by decide) qw_367 rfl dX11_cream_35 (fun _ _ _ => rfl) (fun v7 h8 => ?_)
        refine q_getR (f := 7) cl_X5 (by decide) qw_102 rfl dX11_cream_38 (fun _ _ _ => rfl) (fun v9 h10 => ?_)
        refine q_iload_n 1 dX11_cream_41 rfl ?_
        refine q_iload_n 2 dX11_cream_42 rfl ?_
        refine q_iload_n 3 dX11_cream_43 rfl ?_
        refine q_cVMI (Y2 := Y_X9_come) (As := [.int a1, .int a2, .int a3]) (b := v9) (st := []) cl_X9 mv_X9_come qw_411 dX11_cream_44 ⟨Nat.le_of_ble_eq_true rfl, Nat.le_of_ble_eq_true rfl⟩ rfl (fun _ _ => rfl) (Nat.le_of_ble_eq_true rfl) ⟨Nat.le_of_ble_eq_true rfl, Nat.le_of_ble_eq_true rfl⟩ (fun r12 h11 => q_ob_is h11) (fun r12 h11 => m_X9_come h11) (fun r12 h11 => ?_)
        exact q_iret dX11_cream_47 rfl rfl (Nat.le_of_ble_eq_true rfl) rfl
theorem dX11_drain_0 : decode cX11_drain 0 = .ok (.aload_n 0, 1) := by decide +kernel
theorem dX11_drain_1 : decode cX11_drain 1 = .ok (.getfield 12, 3) := by decide +kernel
theorem dX11_drain_4 : decode cX11_drain 4 = .ok (.getfield 74, 3) := by decide +kernel
theorem dX11_drain_7 : decode cX11_drain 7 = .ok (.getfield 283, 3) := by decide +kernel
theorem dX11_drain_10 : decode cX11_drain 10 = .ok (.istore_n 1, 1) := by decide +kernel
theorem dX11_drain_11 : decode cX11_drain 11 = .ok (.aload_n 0, 1) := by decide +kernel
theorem dX11_drain_12 : decode cX11_drain 12 = .ok (.getfield 12, 3) := by decide +kernel
theorem dX11_drain_15 : decode cX11_drain 15 = .ok (.getfield 74, 3) := by decide +kernel
theorem dX11_drain_18 : decode cX11_drain 18 = .ok (.iconst 0, 1) := by decide +kernel
theorem dX11_drain_19 : decode cX11_drain 19 = .ok (.putfield 283, 3) := by decide +kernel
theorem dX11_drain_22 : decode cX11_drain 22 = .ok (.iload_n 1, 1) := by decide +kernel
theorem dX11_drain_23 : decode cX11_drain 23 = .ok (.ireturn, 1) := by decide +kernel
def f_X11_drain (M : q_Mem) (a0 : Nat) : Option (Int32 × q_Mem) :=
  q_ob 10 M a0 ((q_gR 10 0 M a0).bind fun v1 =>
  (q_gR 4 7 M v1).bind fun v3 =>
  (q_gI 8 3 M v3).bind fun v5 =>
  (q_gR 10 0 M a0).bind fun v7 =>
  (q_gR 4 7 M v7).bind fun v9 =>
  (q_pI 8 3 M v9 (0 : Int32)).bind fun M11 =>
  some (v5, M11))
set_option maxRecDepth 20000 in
theorem m_X11_drain {M : q_Mem} {a0 : Nat} {x : (Int32 × q_Mem)} (h : f_X11_drain M a0 = some x) : q_C Y_X11_drain [.ref a0] M (some (.int x.1)) x.2 := by
  refine q_met (φ := (fun x : Int32 × q_Mem => (some (.int x.1), x.2))) (r := f_X11_drain M a0) (by decide +kernel) (Nat.le_of_ble_eq_true rfl) ?_ h (fun _ _ => rfl)
  show q_V Y_X11_drain none (fun x : Int32 × q_Mem => (some (.int x.1), x.2)) 0 0 0 [(0, .ref a0)] [] M (f_X11_drain M a0)
  unfold f_X11_drain
  refine q_obV ?_
  refine q_aload_n 0 dX11_drain_0 rfl ?_
  refine q_getR (f := 0) cl_X11 (by decide) qw_367 rfl dX11_drain_1 (fun _ _ _ => rfl) (fun v1 h2 => ?_)
  refine q_getR (f := 7) cl_X5 (by decide) qw_102 rfl dX11_drain_4 (fun _ _ _ => rfl) (fun v3 h4 => ?_)
  refine q_getI (f := 3) cl_X9 (by decide) qw_52 rfl dX11_drain_7 (Or.inl rfl) (fun v5 h6 => ?_)
  refine q_istore_n (ls' := [(1, .int v5), (0, .ref a0)]) dX11_drain_10 (by decide) rfl ?_
  refine q_aload_n 1 dX11_drain_11 rfl ?_
  refine q_getR (f := 0) cl_X11 (by decide) qw_367 rfl dX11_drain_12 (fun _ _ _ => rfl) (fun v7 h8 => ?_)
  refine q_getR (f := 7) cl_X5 (by decide) qw_102 rfl dX11_drain_15 (fun _ _ _ => rfl) (fun v9 h10 => ?_)
  refine q_iconst (x := (0 : Int32)) dX11_drain_18 rfl ?_
  refine q_putI (f := 3) cl_X9 (by decide) qw_52 rfl (Or.inl rfl) dX11_drain_19 rfl (fun M11 h12 => ?_)
  refine q_iload_n 0 dX11_drain_22 rfl ?_
  exact q_iret dX11_drain_23 rfl rfl (Nat.le_of_ble_eq_true rfl) rfl
