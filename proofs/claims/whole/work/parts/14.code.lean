theorem dX12_right_0 : decode cX12_right 0 = .ok (.aload_n 0, 1) := by decide +kernel
theorem dX12_right_1 : decode cX12_right 1 = .ok (.iconst 2, 1) := by decide +kernel
theorem dX12_right_2 : decode cX12_right 2 = .ok (.iload_n 1, 1) := by decide +kernel
theorem dX12_right_3 : decode cX12_right 3 = .ok (.invokevirtual 86, 3) := by decide +kernel
theorem dX12_right_6 : decode cX12_right 6 = .ok (.ifCond .eq 39, 3) := by decide +kernel
theorem dX12_right_9 : decode cX12_right 9 = .ok (.iload_n 2, 1) := by decide +kernel
theorem dX12_right_10 : decode cX12_right 10 = .ok (.iconst 0, 1) := by decide +kernel
theorem dX12_right_11 : decode cX12_right 11 = .ok (.sipush 1000, 3) := by decide +kernel
theorem dX12_right_14 : decode cX12_right 14 = .ok (.invokestatic 78, 3) := by decide +kernel
theorem dX12_right_17 : decode cX12_right 17 = .ok (.ifCond .eq 28, 3) := by decide +kernel
theorem dX12_right_20 : decode cX12_right 20 = .ok (.iload_n 3, 1) := by decide +kernel
theorem dX12_right_21 : decode cX12_right 21 = .ok (.aload_n 0, 1) := by decide +kernel
theorem dX12_right_22 : decode cX12_right 22 = .ok (.getfield 7, 3) := by decide +kernel
theorem dX12_right_25 : decode cX12_right 25 = .ok (.sipush 1300, 3) := by decide +kernel
theorem dX12_right_28 : decode cX12_right 28 = .ok (.bipush 7, 2) := by decide +kernel
theorem dX12_right_30 : decode cX12_right 30 = .ok (.iload_n 1, 1) := by decide +kernel
theorem dX12_right_31 : decode cX12_right 31 = .ok (.imul, 1) := by decide +kernel
theorem dX12_right_32 : decode cX12_right 32 = .ok (.iadd, 1) := by decide +kernel
theorem dX12_right_33 : decode cX12_right 33 = .ok (.iconst 4, 1) := by decide +kernel
theorem dX12_right_34 : decode cX12_right 34 = .ok (.iadd, 1) := by decide +kernel
theorem dX12_right_35 : decode cX12_right 35 = .ok (.iaload, 1) := by decide +kernel
theorem dX12_right_36 : decode cX12_right 36 = .ok (.sipush 195, 3) := by decide +kernel
theorem dX12_right_39 : decode cX12_right 39 = .ok (.invokestatic 78, 3) := by decide +kernel
theorem dX12_right_42 : decode cX12_right 42 = .ok (.ifCond .ne 6, 3) := by decide +kernel
theorem dX12_right_45 : decode cX12_right 45 = .ok (.bipush (-2), 2) := by decide +kernel
theorem dX12_right_47 : decode cX12_right 47 = .ok (.ireturn, 1) := by decide +kernel
theorem dX12_right_48 : decode cX12_right 48 = .ok (.sipush 1300, 3) := by decide +kernel
theorem dX12_right_51 : decode cX12_right 51 = .ok (.bipush 7, 2) := by decide +kernel
theorem dX12_right_53 : decode cX12_right 53 = .ok (.iload_n 1, 1) := by decide +kernel
theorem dX12_right_54 : decode cX12_right 54 = .ok (.imul, 1) := by decide +kernel
theorem dX12_right_55 : decode cX12_right 55 = .ok (.iadd, 1) := by decide +kernel
theorem dX12_right_56 : decode cX12_right 56 = .ok (.istore 4, 2) := by decide +kernel
theorem dX12_right_58 : decode cX12_right 58 = .ok (.aload_n 0, 1) := by decide +kernel
theorem dX12_right_59 : decode cX12_right 59 = .ok (.getfield 7, 3) := by decide +kernel
theorem dX12_right_62 : decode cX12_right 62 = .ok (.iload 4, 2) := by decide +kernel
theorem dX12_right_64 : decode cX12_right 64 = .ok (.iconst 5, 1) := by decide +kernel
theorem dX12_right_65 : decode cX12_right 65 = .ok (.iadd, 1) := by decide +kernel
theorem dX12_right_66 : decode cX12_right 66 = .ok (.iaload, 1) := by decide +kernel
theorem dX12_right_67 : decode cX12_right 67 = .ok (.iconst (-1), 1) := by decide +kernel
theorem dX12_right_68 : decode cX12_right 68 = .ok (.if_icmp .eq 6, 3) := by decide +kernel
theorem dX12_right_71 : decode cX12_right 71 = .ok (.bipush (-3), 2) := by decide +kernel
theorem dX12_right_73 : decode cX12_right 73 = .ok (.ireturn, 1) := by decide +kernel
theorem dX12_right_74 : decode cX12_right 74 = .ok (.aload_n 0, 1) := by decide +kernel
theorem dX12_right_75 : decode cX12_right 75 = .ok (.getfield 7, 3) := by decide +kernel
theorem dX12_right_78 : decode cX12_right 78 = .ok (.iload 4, 2) := by decide +kernel
theorem dX12_right_80 : decode cX12_right 80 = .ok (.iconst 5, 1) := by decide +kernel
theorem dX12_right_81 : decode cX12_right 81 = .ok (.iadd, 1) := by decide +kernel
theorem dX12_right_82 : decode cX12_right 82 = .ok (.iload_n 2, 1) := by decide +kernel
theorem dX12_right_83 : decode cX12_right 83 = .ok (.iastore, 1) := by decide +kernel
theorem dX12_right_84 : decode cX12_right 84 = .ok (.aload_n 0, 1) := by decide +kernel
theorem dX12_right_85 : decode cX12_right 85 = .ok (.getfield 7, 3) := by decide +kernel
theorem dX12_right_88 : decode cX12_right 88 = .ok (.iload 4, 2) := by decide +kernel
theorem dX12_right_90 : decode cX12_right 90 = .ok (.bipush 6, 2) := by decide +kernel
theorem dX12_right_92 : decode cX12_right 92 = .ok (.iadd, 1) := by decide +kernel
theorem dX12_right_93 : decode cX12_right 93 = .ok (.iload_n 3, 1) := by decide +kernel
theorem dX12_right_94 : decode cX12_right 94 = .ok (.iastore, 1) := by decide +kernel
theorem dX12_right_95 : decode cX12_right 95 = .ok (.iconst 1, 1) := by decide +kernel
theorem dX12_right_96 : decode cX12_right 96 = .ok (.ireturn, 1) := by decide +kernel
def f_X12_right (M : q_Mem) (a0 : Nat) (a1 : Int32) (a2 : Int32) (a3 : Int32) : Option (Int32 × q_Mem) :=
  q_ob 11 M a0 ((f_X12_is M a0 (2 : Int32) a1).bind fun v2 =>
  (if v2 = 0 then
    some ((-2 : Int32), M)
  else
    (f_X12_in M a2 (0 : Int32) (1000 : Int32)).bind fun v4 =>
    (if v4 = 0 then
      some ((-2 : Int32), M)
    else
      (q_gR 11 0 M a0).bind fun v5 =>
      (q_lI M v5 (((1300 : Int32) + ((7 : Int32) * a1)) + (4 : Int32))).bind fun v7 =>
      (f_X12_in M a3 v7 (195 : Int32)).bind fun v10 =>
      (if v10 = 0 then
        some ((-2 : Int32), M)
      else
        (q_gR 11 0 M a0).bind fun v11 =>
        (q_lI M v11 (((1300 : Int32) + ((7 : Int32) * a1)) + (5 : Int32))).bind fun v13 =>
        (if v13 = (-1 : Int32) then
          (q_gR 11 0 M a0).bind fun v15 =>
          (q_tI M v15 (((1300 : Int32) + ((7 : Int32) * a1)) + (5 : Int32)) a2).bind fun M17 =>
          (q_gR 11 0 M17 a0).bind fun v19 =>
          (q_tI M17 v19 (((1300 : Int32) + ((7 : Int32) * a1)) + (6 : Int32)) a3).bind fun M21 =>
          some ((1 : Int32), M21)
        else
          some ((-3 : Int32), M))))))
set_option maxRecDepth 20000 in
theorem m_X12_right {M : q_Mem} {a0 : Nat} {a1 : Int32} {a2 : Int32} {a3 : Int32} {x : (Int32 × q_Mem)} (h : f_X12_right M a0 a1 a2 a3 = some x) : q_C Y_X12_right [.ref a0, .int a1, .int a2, .int a3] M (some (.int x.1)) x.2 := by
  refine q_met (φ := (fun x : Int32 × q_Mem => (some (.int x.1), x.2))) (r := f_X12_right M a0 a1 a2 a3) (by decide +kernel) (Nat.le_of_ble_eq_true rfl) ?_ h (fun _ _ => rfl)
  show q_V Y_X12_right none (fun x : Int32 × q_Mem => (some (.int x.1), x.2)) 0 0 0 [(0, .ref a0), (1, .int a1), (2, .int a2), (3, .int a3)] [] M (f_X12_right M a0 a1 a2 a3)
  unfold f_X12_right
  refine q_obV ?_
  refine q_aload_n 0 dX12_right_0 rfl ?_
  refine q_iconst (x := (2 : Int32)) dX12_right_1 rfl ?_
  refine q_iload_n 1 dX12_right_2 rfl ?_
  refine q_cVI (Y2 := Y_X12_is) (As := [.int (2 : Int32), .int a1]) (b := a0) (st := []) cl_X12 mv_X12_is qw_1225 dX12_right_3 ⟨Nat.le_of_ble_eq_true rfl, Nat.le_of_ble_eq_true rfl⟩ rfl (fun _ _ => rfl) (Nat.le_of_ble_eq_true rfl) ⟨Nat.le_of_ble_eq_true rfl, Nat.le_of_ble_eq_true rfl⟩ (fun v2 h1 => q_ob_is h1) (fun v2 h1 => m_X12_is h1) (fun v2 h1 => ?_)
  refine q_if_eq (tgt := 45) dX12_right_6 (by decide) (fun c26 => ?_) (fun c26 => ?_)
  · refine q_bipush (x := (-2 : Int32)) dX12_right_45 rfl ?_
    exact q_iret dX12_right_47 rfl rfl (Nat.le_of_ble_eq_true rfl) rfl
  · refine q_iload_n 2 dX12_right_9 rfl ?_
    refine q_iconst (x := (0 : Int32)) dX12_right_10 rfl ?_
    refine q_sipush (x := (1000 : Int32)) dX12_right_11 rfl ?_
    refine q_cSI (Y2 := Y_X12_in) (As := [.int a2, .int (0 : Int32), .int (1000 : Int32)]) (st := []) ms_X12_in qw_1214 dX12_right_14 ⟨Nat.le_of_ble_eq_true rfl, Nat.le_of_ble_eq_true rfl⟩ rfl (fun _ _ => rfl) (Nat.le_of_ble_eq_true rfl) ⟨Nat.le_of_ble_eq_true rfl, Nat.le_of_ble_eq_true rfl⟩ (fun v4 h3 => m_X12_in h3) (fun v4 h3 => ?_)
    refine q_if_eq (tgt := 45) dX12_right_17 (by decide) (fun c25 => ?_) (fun c25 => ?_)
    · refine q_bipush (x := (-2 : Int32)) dX12_right_45 rfl ?_
      exact q_iret dX12_right_47 rfl rfl (Nat.le_of_ble_eq_true rfl) rfl
    · refine q_iload_n 3 dX12_right_20 rfl ?_
      refine q_aload_n 0 dX12_right_21 rfl ?_
      refine q_getR (f := 0) cl_X12 (by decide) qw_1117 rfl dX12_right_22 (fun _ _ _ => rfl) (fun v5 h6 => ?_)
      refine q_sipush (x := (1300 : Int32)) dX12_right_25 rfl ?_
      refine q_bipush (x := (7 : Int32)) dX12_right_28 rfl ?_
      refine q_iload_n 1 dX12_right_30 rfl ?_
      refine q_imul dX12_right_31 ?_
      refine q_iadd dX12_right_32 ?_
      refine q_iconst (x := (4 : Int32)) dX12_right_33 rfl ?_
      refine q_iadd dX12_right_34 ?_
      refine q_iald dX12_right_35 (fun v7 h8 => ?_)
      refine q_sipush (x := (195 : Int32)) dX12_right_36 rfl ?_
      refine q_cSI (Y2 := Y_X12_in) (As := [.int a3, .int v7, .int (195 : Int32)]) (st := []) ms_X12_in qw_1214 dX12_right_39 ⟨Nat.le_of_ble_eq_true rfl, Nat.le_of_ble_eq_true rfl⟩ rfl (fun _ _ => rfl) (Nat.le_of_ble_eq_true rfl) ⟨Nat.le_of_ble_eq_true rfl, Nat.le_of_ble_eq_true rfl⟩ (fun v10 h9 => m_X12_in h9) (fun v10 h9 => ?_)
      refine q_if_ne (tgt := 48) dX12_right_42 (by decide) (fun c24 => ?_) (fun c24 => ?_)
      · refine q_bipush (x := (-2 : Int32)) dX12_right_45 rfl ?_
        exact q_iret dX12_right_47 rfl rfl (Nat.le_of_ble_eq_true rfl) rfl
      · refine q_sipush (x := (1300 : Int32)) dX12_right_48 rfl ?_
        refine q_bipush (x := (7 : Int32)) dX12_right_51 rfl ?_
        refine q_iload_n 1 dX12_right_53 rfl ?_
        refine q_imul dX12_right_54 ?_
        refine q_iadd dX12_right_55 ?_
        refine q_istore (ls' := [(4, .int ((1300 : Int32) + ((7 : Int32) * a1))), (0, .ref a0), (1, .int a1), (2, .int a2), (3, .int a3)]) dX12_right_56 (by decide) rfl ?_
        refine q_aload_n 1 dX12_right_58 rfl ?_
        refine q_getR (f := 0) cl_X12 (by decide) qw_1117 rfl dX12_right_59 (fun _ _ _ => rfl) (fun v11 h12 => ?_)
        refine q_iload 0 dX12_right_62 rfl ?_
        refine q_iconst (x := (5 : Int32)) dX12_right_64 rfl ?_
        refine q_iadd dX12_right_65 ?_
        refine q_iald dX12_right_66 (fun v13 h14 => ?_)
        refine q_iconst (x := (-1 : Int32)) dX12_right_67 rfl ?_
        refine q_icmp_eq (tgt := 74) dX12_right_68 (by decide) (fun c23 => ?_) (fun c23 => ?_)
        · refine q_aload_n 1 dX12_right_74 rfl ?_
          refine q_getR (f := 0) cl_X12 (by decide) qw_1117 rfl dX12_right_75 (fun _ _ _ => rfl) (fun v15 h16 => ?_)
          refine q_iload 0 dX12_right_78 rfl ?_
          refine q_iconst (x := (5 : Int32)) dX12_right_80 rfl ?_
          refine q_iadd dX12_right_81 ?_
          refine q_iload_n 3 dX12_right_82 rfl ?_
          refine q_iast dX12_right_83 (fun M17 h18 => ?_)
          refine q_aload_n 1 dX12_right_84 rfl ?_
          refine q_getR (f := 0) cl_X12 (by decide) qw_1117 rfl dX12_right_85 (fun _ _ _ => rfl) (fun v19 h20 => ?_)
          refine q_iload 0 dX12_right_88 rfl ?_
          refine q_bipush (x := (6 : Int32)) dX12_right_90 rfl ?_
          refine q_iadd dX12_right_92 ?_
          refine q_iload_n 4 dX12_right_93 rfl ?_
          refine q_iast dX12_right_94 (fun M21 h22 => ?_)
          refine q_iconst (x := (1 : Int32)) dX12_right_95 rfl ?_
          exact q_iret dX12_right_96 rfl rfl (Nat.le_of_ble_eq_true rfl) rfl
        · refine q_bipush (x := (-3 : Int32)) dX12_right_71 rfl ?_
          exact q_iret dX12_right_73 rfl rfl (Nat.le_of_ble_eq_true rfl) rfl
theorem dX12_bias_0 : decode cX12_bias 0 = .ok (.iload_n 1, 1) := by decide +kernel
theorem dX12_bias_1 : decode cX12_bias 1 = .ok (.iconst 0, 1) := by decide +kernel
theorem dX12_bias_2 : decode cX12_bias 2 = .ok (.iconst 3, 1) := by decide +kernel
theorem dX12_bias_3 : decode cX12_bias 3 = .ok (.invokestatic 78, 3) := by decide +kernel
theorem dX12_bias_6 : decode cX12_bias 6 = .ok (.ifCond .eq 14, 3) := by decide +kernel
theorem dX12_bias_9 : decode cX12_bias 9 = .ok (.iload_n 2, 1) := by decide +kernel
theorem dX12_bias_10 : decode cX12_bias 10 = .ok (.bipush (-50), 2) := by decide +kernel
theorem dX12_bias_12 : decode cX12_bias 12 = .ok (.bipush 50, 2) := by decide +kernel
theorem dX12_bias_14 : decode cX12_bias 14 = .ok (.invokestatic 78, 3) := by decide +kernel
theorem dX12_bias_17 : decode cX12_bias 17 = .ok (.ifCond .ne 7, 3) := by decide +kernel
theorem dX12_bias_20 : decode cX12_bias 20 = .ok (.sipush (-1000), 3) := by decide +kernel
theorem dX12_bias_23 : decode cX12_bias 23 = .ok (.ireturn, 1) := by decide +kernel
theorem dX12_bias_24 : decode cX12_bias 24 = .ok (.aload_n 0, 1) := by decide +kernel
theorem dX12_bias_25 : decode cX12_bias 25 = .ok (.getfield 7, 3) := by decide +kernel
theorem dX12_bias_28 : decode cX12_bias 28 = .ok (.bipush 13, 2) := by decide +kernel
theorem dX12_bias_30 : decode cX12_bias 30 = .ok (.iload_n 1, 1) := by decide +kernel
theorem dX12_bias_31 : decode cX12_bias 31 = .ok (.iadd, 1) := by decide +kernel
theorem dX12_bias_32 : decode cX12_bias 32 = .ok (.iaload, 1) := by decide +kernel
theorem dX12_bias_33 : decode cX12_bias 33 = .ok (.istore_n 3, 1) := by decide +kernel
theorem dX12_bias_34 : decode cX12_bias 34 = .ok (.aload_n 0, 1) := by decide +kernel
theorem dX12_bias_35 : decode cX12_bias 35 = .ok (.getfield 7, 3) := by decide +kernel
theorem dX12_bias_38 : decode cX12_bias 38 = .ok (.bipush 13, 2) := by decide +kernel
theorem dX12_bias_40 : decode cX12_bias 40 = .ok (.iload_n 1, 1) := by decide +kernel
theorem dX12_bias_41 : decode cX12_bias 41 = .ok (.iadd, 1) := by decide +kernel
theorem dX12_bias_42 : decode cX12_bias 42 = .ok (.iload_n 2, 1) := by decide +kernel
theorem dX12_bias_43 : decode cX12_bias 43 = .ok (.iastore, 1) := by decide +kernel
theorem dX12_bias_44 : decode cX12_bias 44 = .ok (.iload_n 3, 1) := by decide +kernel
theorem dX12_bias_45 : decode cX12_bias 45 = .ok (.ireturn, 1) := by decide +kernel
def f_X12_bias (M : q_Mem) (a0 : Nat) (a1 : Int32) (a2 : Int32) : Option (Int32 × q_Mem) :=
  q_ob 11 M a0 ((f_X12_in M a1 (0 : Int32) (3 : Int32)).bind fun v2 =>
  (if v2 = 0 then
    some ((-1000 : Int32), M)
  else
    (f_X12_in M a2 (-50 : Int32) (50 : Int32)).bind fun v4 =>
    (if v4 = 0 then
      some ((-1000 : Int32), M)
    else
      (q_gR 11 0 M a0).bind fun v5 =>
      (q_lI M v5 ((13 : Int32) + a1)).bind fun v7 =>
      (q_gR 11 0 M a0).bind fun v9 =>
      (q_tI M v9 ((13 : Int32) + a1) a2).bind fun M11 =>
      some (v7, M11))))
set_option maxRecDepth 20000 in
theorem m_X12_bias {M : q_Mem} {a0 : Nat} {a1 : Int32} {a2 : Int32} {x : (Int32 × q_Mem)} (h : f_X12_bias M a0 a1 a2 = some x) : q_C Y_X12_bias [.ref a0, .int a1, .int a2] M (some (.int x.1)) x.2 := by
  refine q_met (φ := (fun x : Int32 × q_Mem => (some (.int x.1), x.2))) (r := f_X12_bias M a0 a1 a2) (by decide +kernel) (Nat.le_of_ble_eq_true rfl) ?_ h (fun _ _ => rfl)
  show q_V Y_X12_bias none (fun x : Int32 × q_Mem => (some (.int x.1), x.2)) 0 0 0 [(0, .ref a0), (1, .int a1), (2, .int a2)] [] M (f_X12_bias M a0 a1 a2)
  unfold f_X12_bias
  refine q_obV ?_
  refine q_iload_n 1 dX12_bias_0 rfl ?_
  refine q_iconst (x := (0 : Int32)) dX12_bias_1 rfl ?_
  refine q_iconst (x := (3 : Int32)) dX12_bias_2 rfl ?_
  refine q_cSI (Y2 := Y_X12_in) (As := [.int a1, .int (0 : Int32), .int (3 : Int32)]) (st := []) ms_X12_in qw_1214 dX12_bias_3 ⟨Nat.le_of_ble_eq_true rfl, Nat.le_of_ble_eq_true rfl⟩ rfl (fun _ _ => rfl) (Nat.le_of_ble_eq_true rfl) ⟨Nat.le_of_ble_eq_true rfl, Nat.le_of_ble_eq_true rfl⟩ (fun v2 h1 => m_X12_in h1) (fun v2 h1 => ?_)
  refine q_if_eq (tgt := 20) dX12_bias_6 (by decide) (fun c14 => ?_) (fun c14 => ?_)
  · refine q_sipush (x := (-1000 : Int32)) dX12_bias_20 rfl ?_
    exact q_iret dX12_bias_23 rfl rfl (Nat.le_of_ble_eq_true rfl) rfl
  · refine q_iload_n 2 dX12_bias_9 rfl ?_
    refine q_bipush (x := (-50 : Int32)) dX12_bias_10 rfl ?_
    refine q_bipush (x := (50 : Int32)) dX12_bias_12 rfl ?_
    refine q_cSI (Y2 := Y_X12_in) (As := [.int a2, .int (-50 : Int32), .int (50 : Int32)]) (st := []) ms_X12_in qw_1214 dX12_bias_14 ⟨Nat.le_of_ble_eq_true rfl, Nat.le_of_ble_eq_true rfl⟩ rfl (fun _ _ => rfl) (Nat.le_of_ble_eq_true rfl) ⟨Nat.le_of_ble_eq_true rfl, Nat.le_of_ble_eq_true rfl⟩ (fun v4 h3 => m_X12_in h3) (fun v4 h3 => ?_)
    refine q_if_ne (tgt := 24) dX12_bias_17 (by decide) (fun c13 => ?_) (fun c13 => ?_)
    · refine q_sipush (x := (-1000 : Int32)) dX12_bias_20 rfl ?_
      exact q_iret dX12_bias_23 rfl rfl (Nat.le_of_ble_eq_true rfl) rfl
    · refine q_aload_n 0 dX12_bias_24 rfl ?_
      refine q_getR (f := 0) cl_X12 (by decide) qw_1117 rfl dX12_bias_25 (fun _ _ _ => rfl) (fun v5 h6 => ?_)
      refine q_bipush (x := (13 : Int32)) dX12_bias_28 rfl ?_
      refine q_iload_n 1 dX12_bias_30 rfl ?_
      refine q_iadd dX12_bias_31 ?_
      refine q_iald dX12_bias_32 (fun v7 h8 => ?_)
      refine q_istore_n (ls' := [(3, .int v7), (0, .ref a0), (1, .int a1), (2, .int a2)]) dX12_bias_33 (by decide) rfl ?_
      refine q_aload_n 1 dX12_bias_34 rfl ?_
      refine q_getR (f := 0) cl_X12 (by decide) qw_1117 rfl dX12_bias_35 (fun _ _ _ => rfl) (fun v9 h10 => ?_)
      refine q_bipush (x := (13 : Int32)) dX12_bias_38 rfl ?_
      refine q_iload_n 2 dX12_bias_40 rfl ?_
      refine q_iadd dX12_bias_41 ?_
      refine q_iload_n 3 dX12_bias_42 rfl ?_
      refine q_iast dX12_bias_43 (fun M11 h12 => ?_)
      refine q_iload_n 0 dX12_bias_44 rfl ?_
      exact q_iret dX12_bias_45 rfl rfl (Nat.le_of_ble_eq_true rfl) rfl
theorem dX12_period_0 : decode cX12_period 0 = .ok (.iload_n 1, 1) := by decide +kernel
theorem dX12_period_1 : decode cX12_period 1 = .ok (.iconst 1, 1) := by decide +kernel
theorem dX12_period_2 : decode cX12_period 2 = .ok (.bipush 28, 2) := by decide +kernel
theorem dX12_period_4 : decode cX12_period 4 = .ok (.invokestatic 78, 3) := by decide +kernel
theorem dX12_period_7 : decode cX12_period 7 = .ok (.ifCond .ne 6, 3) := by decide +kernel
theorem dX12_period_10 : decode cX12_period 10 = .ok (.bipush (-2), 2) := by decide +kernel
theorem dX12_period_12 : decode cX12_period 12 = .ok (.ireturn, 1) := by decide +kernel
theorem dX12_period_13 : decode cX12_period 13 = .ok (.aload_n 0, 1) := by decide +kernel
theorem dX12_period_14 : decode cX12_period 14 = .ok (.getfield 7, 3) := by decide +kernel
theorem dX12_period_17 : decode cX12_period 17 = .ok (.bipush 10, 2) := by decide +kernel
theorem dX12_period_19 : decode cX12_period 19 = .ok (.iaload, 1) := by decide +kernel
theorem dX12_period_20 : decode cX12_period 20 = .ok (.istore_n 2, 1) := by decide +kernel
theorem dX12_period_21 : decode cX12_period 21 = .ok (.aload_n 0, 1) := by decide +kernel
theorem dX12_period_22 : decode cX12_period 22 = .ok (.getfield 7, 3) := by decide +kernel
theorem dX12_period_25 : decode cX12_period 25 = .ok (.bipush 10, 2) := by decide +kernel
theorem dX12_period_27 : decode cX12_period 27 = .ok (.iload_n 1, 1) := by decide +kernel
theorem dX12_period_28 : decode cX12_period 28 = .ok (.iastore, 1) := by decide +kernel
theorem dX12_period_29 : decode cX12_period 29 = .ok (.iload_n 2, 1) := by decide +kernel
theorem dX12_period_30 : decode cX12_period 30 = .ok (.ireturn, 1) := by decide +kernel
def f_X12_period (M : q_Mem) (a0 : Nat) (a1 : Int32) : Option (Int32 × q_Mem) :=
  q_ob 11 M a0 ((f_X12_in M a1 (1 : Int32) (28 : Int32)).bind fun v2 =>
  (if v2 = 0 then
    some ((-2 : Int32), M)
  else
    (q_gR 11 0 M a0).bind fun v3 =>
    (q_lI M v3 (10 : Int32)).bind fun v5 =>
    (q_gR 11 0 M a0).bind fun v7 =>
    (q_tI M v7 (10 : Int32) a1).bind fun M9 =>
    some (v5, M9)))
set_option maxRecDepth 20000 in
theorem m_X12_period {M : q_Mem} {a0 : Nat} {a1 : Int32} {x : (Int32 × q_Mem)} (h : f_X12_period M a0 a1 = some x) : q_C Y_X12_period [.ref a0, .int a1] M (some (.int x.1)) x.2 := by
  refine q_met (φ := (fun x : Int32 × q_Mem => (some (.int x.1), x.2))) (r := f_X12_period M a0 a1) (by decide +kernel) (Nat.le_of_ble_eq_true rfl) ?_ h (fun _ _ => rfl)
  show q_V Y_X12_period none (fun x : Int32 × q_Mem => (some (.int x.1), x.2)) 0 0 0 [(0, .ref a0), (1, .int a1)] [] M (f_X12_period M a0 a1)
  unfold f_X12_period
  refine q_obV ?_
  refine q_iload_n 1 dX12_period_0 rfl ?_
  refine q_iconst (x := (1 : Int32)) dX12_period_1 rfl ?_
  refine q_bipush (x := (28 : Int32)) dX12_period_2 rfl ?_
  refine q_cSI (Y2 := Y_X12_in) (As := [.int a1, .int (1 : Int32), .int (28 : Int32)]) (st := []) ms_X12_in qw_1214 dX12_period_4 ⟨Nat.le_of_ble_eq_true rfl, Nat.le_of_ble_eq_true rfl⟩ rfl (fun _ _ => rfl) (Nat.le_of_ble_eq_true rfl) ⟨Nat.le_of_ble_eq_true rfl, Nat.le_of_ble_eq_true rfl⟩ (fun v2 h1 => m_X12_in h1) (fun v2 h1 => ?_)
  refine q_if_ne (tgt := 13) dX12_period_7 (by decide) (fun c11 => ?_) (fun c11 => ?_)
  · refine q_bipush (x := (-2 : Int32)) dX12_period_10 rfl ?_
    exact q_iret dX12_period_12 rfl rfl (Nat.le_of_ble_eq_true rfl) rfl
  · refine q_aload_n 0 dX12_period_13 rfl ?_
    refine q_getR (f := 0) cl_X12 (by decide) qw_1117 rfl dX12_period_14 (fun _ _ _ => rfl) (fun v3 h4 => ?_)
    refine q_bipush (x := (10 : Int32)) dX12_period_17 rfl ?_
    refine q_iald dX12_period_19 (fun v5 h6 => ?_)
    refine q_istore_n (ls' := [(2, .int v5), (0, .ref a0), (1, .int a1)]) dX12_period_20 (by decide) rfl ?_
    refine q_aload_n 1 dX12_period_21 rfl ?_
    refine q_getR (f := 0) cl_X12 (by decide) qw_1117 rfl dX12_period_22 (fun _ _ _ => rfl) (fun v7 h8 => ?_)
    refine q_bipush (x := (10 : Int32)) dX12_period_25 rfl ?_
    refine q_iload_n 2 dX12_period_27 rfl ?_
    refine q_iast dX12_period_28 (fun M9 h10 => ?_)
    refine q_iload_n 0 dX12_period_29 rfl ?_
    exact q_iret dX12_period_30 rfl rfl (Nat.le_of_ble_eq_true rfl) rfl
theorem dX12_isKnown_0 : decode cX12_isKnown 0 = .ok (.aload_n 0, 1) := by decide +kernel
theorem dX12_isKnown_1 : decode cX12_isKnown 1 = .ok (.getfield 7, 3) := by decide +kernel
theorem dX12_isKnown_4 : decode cX12_isKnown 4 = .ok (.sipush 1300, 3) := by decide +kernel
theorem dX12_isKnown_7 : decode cX12_isKnown 7 = .ok (.bipush 7, 2) := by decide +kernel
theorem dX12_isKnown_9 : decode cX12_isKnown 9 = .ok (.iload_n 1, 1) := by decide +kernel
theorem dX12_isKnown_10 : decode cX12_isKnown 10 = .ok (.imul, 1) := by decide +kernel
theorem dX12_isKnown_11 : decode cX12_isKnown 11 = .ok (.iadd, 1) := by decide +kernel
theorem dX12_isKnown_12 : decode cX12_isKnown 12 = .ok (.iconst 4, 1) := by decide +kernel
theorem dX12_isKnown_13 : decode cX12_isKnown 13 = .ok (.iadd, 1) := by decide +kernel
theorem dX12_isKnown_14 : decode cX12_isKnown 14 = .ok (.iaload, 1) := by decide +kernel
theorem dX12_isKnown_15 : decode cX12_isKnown 15 = .ok (.iload_n 2, 1) := by decide +kernel
theorem dX12_isKnown_16 : decode cX12_isKnown 16 = .ok (.if_icmp .gt 7, 3) := by decide +kernel
theorem dX12_isKnown_19 : decode cX12_isKnown 19 = .ok (.iconst 1, 1) := by decide +kernel
theorem dX12_isKnown_20 : decode cX12_isKnown 20 = .ok (.goto 4, 3) := by decide +kernel
theorem dX12_isKnown_23 : decode cX12_isKnown 23 = .ok (.iconst 0, 1) := by decide +kernel
theorem dX12_isKnown_24 : decode cX12_isKnown 24 = .ok (.ireturn, 1) := by decide +kernel
def f_X12_isKnown (M : q_Mem) (a0 : Nat) (a1 : Int32) (a2 : Int32) : Option Int32 :=
  q_ob 11 M a0 ((q_gR 11 0 M a0).bind fun v1 =>
  (q_lI M v1 (((1300 : Int32) + ((7 : Int32) * a1)) + (4 : Int32))).bind fun v3 =>
  (if a2 < v3 then
    some (0 : Int32)
  else
    some (1 : Int32)))
set_option maxRecDepth 20000 in
theorem m_X12_isKnown {M : q_Mem} {a0 : Nat} {a1 : Int32} {a2 : Int32} {x : Int32} (h : f_X12_isKnown M a0 a1 a2 = some x) : q_C Y_X12_isKnown [.ref a0, .int a1, .int a2] M (some (.int x)) M := by
  refine q_met (φ := (fun x : Int32 => (some (.int x), M))) (r := f_X12_isKnown M a0 a1 a2) (by decide +kernel) (Nat.le_of_ble_eq_true rfl) ?_ h (fun _ _ => rfl)
  show q_V Y_X12_isKnown none (fun x : Int32 => (some (.int x), M)) 0 0 0 [(0, .ref a0), (1, .int a1), (2, .int a2)] [] M (f_X12_isKnown M a0 a1 a2)
  unfold f_X12_isKnown
  refine q_obV ?_
  refine q_aload_n 0 dX12_isKnown_0 rfl ?_
  refine q_getR (f := 0) cl_X12 (by decide) qw_1117 rfl dX12_isKnown_1 (fun _ _ _ => rfl) (fun v1 h2 => ?_)
  refine q_sipush (x := (1300 : Int32)) dX12_isKnown_4 rfl ?_
  refine q_bipush (x := (7 : Int32)) dX12_isKnown_7 rfl ?_
  refine q_iload_n 1 dX12_isKnown_9 rfl ?_
  refine q_imul dX12_isKnown_10 ?_
  refine q_iadd dX12_isKnown_11 ?_
  refine q_iconst (x := (4 : Int32)) dX12_isKnown_12 rfl ?_
  refine q_iadd dX12_isKnown_13 ?_
  refine q_iald dX12_isKnown_14 (fun v3 h4 => ?_)
  refine q_iload_n 2 dX12_isKnown_15 rfl ?_
  refine q_icmp_gt (tgt := 23) dX12_isKnown_16 (by decide) (fun c5 => ?_) (fun c5 => ?_)
  · refine q_iconst (x := (0 : Int32)) dX12_isKnown_23 rfl ?_
    exact q_zretL dX12_isKnown_24 rfl (Or.inl rfl) rfl (Nat.le_of_ble_eq_true rfl) rfl
  · refine q_iconst (x := (1 : Int32)) dX12_isKnown_19 rfl ?_
    refine q_goto (tgt := 24) dX12_isKnown_20 (by decide) ?_
    exact q_zretL dX12_isKnown_24 rfl (Or.inr rfl) rfl (Nat.le_of_ble_eq_true rfl) rfl
theorem dX12_numberOf_0 : decode cX12_numberOf 0 = .ok (.sipush 1300, 3) := by decide +kernel
theorem dX12_numberOf_3 : decode cX12_numberOf 3 = .ok (.bipush 7, 2) := by decide +kernel
theorem dX12_numberOf_5 : decode cX12_numberOf 5 = .ok (.iload_n 1, 1) := by decide +kernel
theorem dX12_numberOf_6 : decode cX12_numberOf 6 = .ok (.imul, 1) := by decide +kernel
theorem dX12_numberOf_7 : decode cX12_numberOf 7 = .ok (.iadd, 1) := by decide +kernel
theorem dX12_numberOf_8 : decode cX12_numberOf 8 = .ok (.istore_n 3, 1) := by decide +kernel
theorem dX12_numberOf_9 : decode cX12_numberOf 9 = .ok (.aload_n 0, 1) := by decide +kernel
theorem dX12_numberOf_10 : decode cX12_numberOf 10 = .ok (.getfield 7, 3) := by decide +kernel
theorem dX12_numberOf_13 : decode cX12_numberOf 13 = .ok (.iload_n 3, 1) := by decide +kernel
theorem dX12_numberOf_14 : decode cX12_numberOf 14 = .ok (.iconst 5, 1) := by decide +kernel
theorem dX12_numberOf_15 : decode cX12_numberOf 15 = .ok (.iadd, 1) := by decide +kernel
theorem dX12_numberOf_16 : decode cX12_numberOf 16 = .ok (.iaload, 1) := by decide +kernel
theorem dX12_numberOf_17 : decode cX12_numberOf 17 = .ok (.iconst (-1), 1) := by decide +kernel
theorem dX12_numberOf_18 : decode cX12_numberOf 18 = .ok (.if_icmp .eq 27, 3) := by decide +kernel
theorem dX12_numberOf_21 : decode cX12_numberOf 21 = .ok (.aload_n 0, 1) := by decide +kernel
theorem dX12_numberOf_22 : decode cX12_numberOf 22 = .ok (.getfield 7, 3) := by decide +kernel
theorem dX12_numberOf_25 : decode cX12_numberOf 25 = .ok (.iload_n 3, 1) := by decide +kernel
theorem dX12_numberOf_26 : decode cX12_numberOf 26 = .ok (.bipush 6, 2) := by decide +kernel
theorem dX12_numberOf_28 : decode cX12_numberOf 28 = .ok (.iadd, 1) := by decide +kernel
theorem dX12_numberOf_29 : decode cX12_numberOf 29 = .ok (.iaload, 1) := by decide +kernel
theorem dX12_numberOf_30 : decode cX12_numberOf 30 = .ok (.iload_n 2, 1) := by decide +kernel
theorem dX12_numberOf_31 : decode cX12_numberOf 31 = .ok (.if_icmp .gt 14, 3) := by decide +kernel
theorem dX12_numberOf_34 : decode cX12_numberOf 34 = .ok (.aload_n 0, 1) := by decide +kernel
theorem dX12_numberOf_35 : decode cX12_numberOf 35 = .ok (.getfield 7, 3) := by decide +kernel
theorem dX12_numberOf_38 : decode cX12_numberOf 38 = .ok (.iload_n 3, 1) := by decide +kernel
theorem dX12_numberOf_39 : decode cX12_numberOf 39 = .ok (.iconst 5, 1) := by decide +kernel
theorem dX12_numberOf_40 : decode cX12_numberOf 40 = .ok (.iadd, 1) := by decide +kernel
theorem dX12_numberOf_41 : decode cX12_numberOf 41 = .ok (.iaload, 1) := by decide +kernel
theorem dX12_numberOf_42 : decode cX12_numberOf 42 = .ok (.goto 11, 3) := by decide +kernel
theorem dX12_numberOf_45 : decode cX12_numberOf 45 = .ok (.aload_n 0, 1) := by decide +kernel
theorem dX12_numberOf_46 : decode cX12_numberOf 46 = .ok (.getfield 7, 3) := by decide +kernel
theorem dX12_numberOf_49 : decode cX12_numberOf 49 = .ok (.iload_n 3, 1) := by decide +kernel
theorem dX12_numberOf_50 : decode cX12_numberOf 50 = .ok (.iconst 3, 1) := by decide +kernel
theorem dX12_numberOf_51 : decode cX12_numberOf 51 = .ok (.iadd, 1) := by decide +kernel
theorem dX12_numberOf_52 : decode cX12_numberOf 52 = .ok (.iaload, 1) := by decide +kernel
theorem dX12_numberOf_53 : decode cX12_numberOf 53 = .ok (.ireturn, 1) := by decide +kernel
def f_X12_numberOf_b45 (M : q_Mem) (a0 : Nat) (a3 : Int32) : Option Int32 :=
  (q_gR 11 0 M a0).bind fun v15 =>
  (q_lI M v15 (a3 + (3 : Int32))).bind fun v17 =>
  some v17
def f_X12_numberOf (M : q_Mem) (a0 : Nat) (a1 : Int32) (a2 : Int32) : Option Int32 :=
  q_ob 11 M a0 ((q_gR 11 0 M a0).bind fun v1 =>
  (q_lI M v1 (((1300 : Int32) + ((7 : Int32) * a1)) + (5 : Int32))).bind fun v3 =>
  (if v3 = (-1 : Int32) then
    f_X12_numberOf_b45 M a0 ((1300 : Int32) + ((7 : Int32) * a1))
  else
    (q_gR 11 0 M a0).bind fun v5 =>
    (q_lI M v5 (((1300 : Int32) + ((7 : Int32) * a1)) + (6 : Int32))).bind fun v7 =>
    (if a2 < v7 then
      f_X12_numberOf_b45 M a0 ((1300 : Int32) + ((7 : Int32) * a1))
    else
      (q_gR 11 0 M a0).bind fun v9 =>
      (q_lI M v9 (((1300 : Int32) + ((7 : Int32) * a1)) + (5 : Int32))).bind fun v11 =>
      some v11)))
set_option maxRecDepth 20000 in
theorem v_X12_numberOf_b45 {M : q_Mem} {a0 : Nat} {a3 : Int32}  : q_V Y_X12_numberOf none (fun x : Int32 => (some (.int x), M)) 0 0 45 [(0, .ref a0), (3, .int a3)] [] M (f_X12_numberOf_b45 M a0 a3 ) := by
  unfold f_X12_numberOf_b45
  refine q_aload_n 0 dX12_numberOf_45 rfl ?_
  refine q_getR (f := 0) cl_X12 (by decide) qw_1117 rfl dX12_numberOf_46 (fun _ _ _ => rfl) (fun v15 h16 => ?_)
  refine q_iload_n 1 dX12_numberOf_49 rfl ?_
  refine q_iconst (x := (3 : Int32)) dX12_numberOf_50 rfl ?_
  refine q_iadd dX12_numberOf_51 ?_
  refine q_iald dX12_numberOf_52 (fun v17 h18 => ?_)
  exact q_iret dX12_numberOf_53 rfl rfl (Nat.le_of_ble_eq_true rfl) rfl
set_option maxRecDepth 20000 in
theorem m_X12_numberOf {M : q_Mem} {a0 : Nat} {a1 : Int32} {a2 : Int32} {x : Int32} (h : f_X12_numberOf M a0 a1 a2 = some x) : q_C Y_X12_numberOf [.ref a0, .int a1, .int a2] M (some (.int x)) M := by
  refine q_met (φ := (fun x : Int32 => (some (.int x), M))) (r := f_X12_numberOf M a0 a1 a2) (by decide +kernel) (Nat.le_of_ble_eq_true rfl) ?_ h (fun _ _ => rfl)
  show q_V Y_X12_numberOf none (fun x : Int32 => (some (.int x), M)) 0 0 0 [(0, .ref a0), (1, .int a1), (2, .int a2)] [] M (f_X12_numberOf M a0 a1 a2)
  unfold f_X12_numberOf
  refine q_obV ?_
  refine q_sipush (x := (1300 : Int32)) dX12_numberOf_0 rfl ?_
  refine q_bipush (x := (7 : Int32)) dX12_numberOf_3 rfl ?_
  refine q_iload_n 1 dX12_numberOf_5 rfl ?_
  refine q_imul dX12_numberOf_6 ?_
  refine q_iadd dX12_numberOf_7 ?_
  refine q_istore_n (ls' := [(3, .int ((1300 : Int32) + ((7 : Int32) * a1))), (0, .ref a0), (1, .int a1), (2, .int a2)]) dX12_numberOf_8 (by decide) rfl ?_
  refine q_aload_n 1 dX12_numberOf_9 rfl ?_
  refine q_getR (f := 0) cl_X12 (by decide) qw_1117 rfl dX12_numberOf_10 (fun _ _ _ => rfl) (fun v1 h2 => ?_)
  refine q_iload_n 0 dX12_numberOf_13 rfl ?_
  refine q_iconst (x := (5 : Int32)) dX12_numberOf_14 rfl ?_
  refine q_iadd dX12_numberOf_15 ?_
  refine q_iald dX12_numberOf_16 (fun v3 h4 => ?_)
  refine q_iconst (x := (-1 : Int32)) dX12_numberOf_17 rfl ?_
  refine q_icmp_eq (tgt := 45) dX12_numberOf_18 (by decide) (fun c14 => ?_) (fun c14 => ?_)
  · refine q_sub (ls' := [(0, .ref a0), (3, .int ((1300 : Int32) + ((7 : Int32) * a1)))]) [1, 0] rfl ?_
    exact v_X12_numberOf_b45
  · refine q_aload_n 1 dX12_numberOf_21 rfl ?_
    refine q_getR (f := 0) cl_X12 (by decide) qw_1117 rfl dX12_numberOf_22 (fun _ _ _ => rfl) (fun v5 h6 => ?_)
    refine q_iload_n 0 dX12_numberOf_25 rfl ?_
    refine q_bipush (x := (6 : Int32)) dX12_numberOf_26 rfl ?_
    refine q_iadd dX12_numberOf_28 ?_
    refine q_iald dX12_numberOf_29 (fun v7 h8 => ?_)
    refine q_iload_n 3 dX12_numberOf_30 rfl ?_
    refine q_icmp_gt (tgt := 45) dX12_numberOf_31 (by decide) (fun c13 => ?_) (fun c13 => ?_)
    · refine q_sub (ls' := [(0, .ref a0), (3, .int ((1300 : Int32) + ((7 : Int32) * a1)))]) [1, 0] rfl ?_
      exact v_X12_numberOf_b45
    · refine q_aload_n 1 dX12_numberOf_34 rfl ?_
      refine q_getR (f := 0) cl_X12 (by decide) qw_1117 rfl dX12_numberOf_35 (fun _ _ _ => rfl) (fun v9 h10 => ?_)
      refine q_iload_n 0 dX12_numberOf_38 rfl ?_
      refine q_iconst (x := (5 : Int32)) dX12_numberOf_39 rfl ?_
      refine q_iadd dX12_numberOf_40 ?_
      refine q_iald dX12_numberOf_41 (fun v11 h12 => ?_)
      refine q_goto (tgt := 53) dX12_numberOf_42 (by decide) ?_
      exact q_iret dX12_numberOf_53 rfl rfl (Nat.le_of_ble_eq_true rfl) rfl
theorem dX12_leant_0 : decode cX12_leant 0 = .ok (.aload_n 0, 1) := by decide +kernel
theorem dX12_leant_1 : decode cX12_leant 1 = .ok (.iload_n 1, 1) := by decide +kernel
theorem dX12_leant_2 : decode cX12_leant 2 = .ok (.iload_n 2, 1) := by decide +kernel
theorem dX12_leant_3 : decode cX12_leant 3 = .ok (.invokevirtual 94, 3) := by decide +kernel
theorem dX12_leant_6 : decode cX12_leant 6 = .ok (.aload_n 0, 1) := by decide +kernel
theorem dX12_leant_7 : decode cX12_leant 7 = .ok (.getfield 7, 3) := by decide +kernel
theorem dX12_leant_10 : decode cX12_leant 10 = .ok (.bipush 13, 2) := by decide +kernel
theorem dX12_leant_12 : decode cX12_leant 12 = .ok (.aload_n 0, 1) := by decide +kernel
theorem dX12_leant_13 : decode cX12_leant 13 = .ok (.getfield 7, 3) := by decide +kernel
theorem dX12_leant_16 : decode cX12_leant 16 = .ok (.sipush 1300, 3) := by decide +kernel
theorem dX12_leant_19 : decode cX12_leant 19 = .ok (.bipush 7, 2) := by decide +kernel
theorem dX12_leant_21 : decode cX12_leant 21 = .ok (.iload_n 1, 1) := by decide +kernel
theorem dX12_leant_22 : decode cX12_leant 22 = .ok (.imul, 1) := by decide +kernel
theorem dX12_leant_23 : decode cX12_leant 23 = .ok (.iadd, 1) := by decide +kernel
theorem dX12_leant_24 : decode cX12_leant 24 = .ok (.iconst 2, 1) := by decide +kernel
theorem dX12_leant_25 : decode cX12_leant 25 = .ok (.iadd, 1) := by decide +kernel
theorem dX12_leant_26 : decode cX12_leant 26 = .ok (.iaload, 1) := by decide +kernel
theorem dX12_leant_27 : decode cX12_leant 27 = .ok (.iadd, 1) := by decide +kernel
theorem dX12_leant_28 : decode cX12_leant 28 = .ok (.iaload, 1) := by decide +kernel
theorem dX12_leant_29 : decode cX12_leant 29 = .ok (.isub, 1) := by decide +kernel
theorem dX12_leant_30 : decode cX12_leant 30 = .ok (.istore_n 3, 1) := by decide +kernel
theorem dX12_leant_31 : decode cX12_leant 31 = .ok (.iload_n 3, 1) := by decide +kernel
theorem dX12_leant_32 : decode cX12_leant 32 = .ok (.ifCond .ge 7, 3) := by decide +kernel
theorem dX12_leant_35 : decode cX12_leant 35 = .ok (.iconst 0, 1) := by decide +kernel
theorem dX12_leant_36 : decode cX12_leant 36 = .ok (.goto 17, 3) := by decide +kernel
theorem dX12_leant_39 : decode cX12_leant 39 = .ok (.iload_n 3, 1) := by decide +kernel
theorem dX12_leant_40 : decode cX12_leant 40 = .ok (.sipush 1000, 3) := by decide +kernel
theorem dX12_leant_43 : decode cX12_leant 43 = .ok (.if_icmp .le 9, 3) := by decide +kernel
theorem dX12_leant_46 : decode cX12_leant 46 = .ok (.sipush 1000, 3) := by decide +kernel
theorem dX12_leant_49 : decode cX12_leant 49 = .ok (.goto 4, 3) := by decide +kernel
theorem dX12_leant_52 : decode cX12_leant 52 = .ok (.iload_n 3, 1) := by decide +kernel
theorem dX12_leant_53 : decode cX12_leant 53 = .ok (.ireturn, 1) := by decide +kernel
def f_X12_leant (M : q_Mem) (a0 : Nat) (a1 : Int32) (a2 : Int32) : Option Int32 :=
  q_ob 11 M a0 ((f_X12_numberOf M a0 a1 a2).bind fun v2 =>
  (q_gR 11 0 M a0).bind fun v3 =>
  (q_gR 11 0 M a0).bind fun v5 =>
  (q_lI M v5 (((1300 : Int32) + ((7 : Int32) * a1)) + (2 : Int32))).bind fun v7 =>
  (q_lI M v3 ((13 : Int32) + v7)).bind fun v9 =>
  (if (v2 - v9) < 0 then
    some (0 : Int32)
  else
    (if (1000 : Int32) < (v2 - v9) then
      some (1000 : Int32)
    else
      some (v2 - v9))))
set_option maxRecDepth 20000 in
theorem m_X12_leant {M : q_Mem} {a0 : Nat} {a1 : Int32} {a2 : Int32} {x : Int32} (h : f_X12_leant M a0 a1 a2 = some x) : q_C Y_X12_leant [.ref a0, .int a1, .int a2] M (some (.int x)) M := by
  refine q_met (φ := (fun x : Int32 => (some (.int x), M))) (r := f_X12_leant M a0 a1 a2) (by decide +kernel) (Nat.le_of_ble_eq_true rfl) ?_ h (fun _ _ => rfl)
  show q_V Y_X12_leant none (fun x : Int32 => (some (.int x), M)) 0 0 0 [(0, .ref a0), (1, .int a1), (2, .int a2)] [] M (f_X12_leant M a0 a1 a2)
  unfold f_X12_leant
  refine q_obV ?_
  refine q_aload_n 0 dX12_leant_0 rfl ?_
  refine q_iload_n 1 dX12_leant_1 rfl ?_
  refine q_iload_n 2 dX12_leant_2 rfl ?_
  refine q_cVI (Y2 := Y_X12_numberOf) (As := [.int a1, .int a2]) (b := a0) (st := []) cl_X12 mv_X12_numberOf qw_1264 dX12_leant_3 ⟨Nat.le_of_ble_eq_true rfl, Nat.le_of_ble_eq_true rfl⟩ rfl (fun _ _ => rfl) (Nat.le_of_ble_eq_true rfl) ⟨Nat.le_of_ble_eq_true rfl, Nat.le_of_ble_eq_true rfl⟩ (fun v2 h1 => q_ob_is h1) (fun v2 h1 => m_X12_numberOf h1) (fun v2 h1 => ?_)
  refine q_aload_n 0 dX12_leant_6 rfl ?_
  refine q_getR (f := 0) cl_X12 (by decide) qw_1117 rfl dX12_leant_7 (fun _ _ _ => rfl) (fun v3 h4 => ?_)
  refine q_bipush (x := (13 : Int32)) dX12_leant_10 rfl ?_
  refine q_aload_n 0 dX12_leant_12 rfl ?_
  refine q_getR (f := 0) cl_X12 (by decide) qw_1117 rfl dX12_leant_13 (fun _ _ _ => rfl) (fun v5 h6 => ?_)
  refine q_sipush (x := (1300 : Int32)) dX12_leant_16 rfl ?_
  refine q_bipush (x := (7 : Int32)) dX12_leant_19 rfl ?_
  refine q_iload_n 1 dX12_leant_21 rfl ?_
  refine q_imul dX12_leant_22 ?_
  refine q_iadd dX12_leant_23 ?_
  refine q_iconst (x := (2 : Int32)) dX12_leant_24 rfl ?_
  refine q_iadd dX12_leant_25 ?_
  refine q_iald dX12_leant_26 (fun v7 h8 => ?_)
  refine q_iadd dX12_leant_27 ?_
  refine q_iald dX12_leant_28 (fun v9 h10 => ?_)
  refine q_isub dX12_leant_29 ?_
  refine q_istore_n (ls' := [(3, .int (v2 - v9)), (0, .ref a0), (1, .int a1), (2, .int a2)]) dX12_leant_30 (by decide) rfl ?_
  refine q_iload_n 0 dX12_leant_31 rfl ?_
  refine q_if_ge (tgt := 39) dX12_leant_32 (by decide) (fun c12 => ?_) (fun c12 => ?_)
  · refine q_iconst (x := (0 : Int32)) dX12_leant_35 rfl ?_
    refine q_goto (tgt := 53) dX12_leant_36 (by decide) ?_
    exact q_iret dX12_leant_53 rfl rfl (Nat.le_of_ble_eq_true rfl) rfl
  · refine q_iload_n 0 dX12_leant_39 rfl ?_
    refine q_sipush (x := (1000 : Int32)) dX12_leant_40 rfl ?_
    refine q_icmp_le (tgt := 52) dX12_leant_43 (by decide) (fun c11 => ?_) (fun c11 => ?_)
    · refine q_sipush (x := (1000 : Int32)) dX12_leant_46 rfl ?_
      refine q_goto (tgt := 53) dX12_leant_49 (by decide) ?_
      exact q_iret dX12_leant_53 rfl rfl (Nat.le_of_ble_eq_true rfl) rfl
    · refine q_iload_n 0 dX12_leant_52 rfl ?_
      exact q_iret dX12_leant_53 rfl rfl (Nat.le_of_ble_eq_true rfl) rfl
theorem dX12_isAhead_0 : decode cX12_isAhead 0 = .ok (.aload_n 0, 1) := by decide +kernel
theorem dX12_isAhead_1 : decode cX12_isAhead 1 = .ok (.getfield 7, 3) := by decide +kernel
theorem dX12_isAhead_4 : decode cX12_isAhead 4 = .ok (.sipush 1300, 3) := by decide +kernel
theorem dX12_isAhead_7 : decode cX12_isAhead 7 = .ok (.bipush 7, 2) := by decide +kernel
theorem dX12_isAhead_9 : decode cX12_isAhead 9 = .ok (.iload_n 1, 1) := by decide +kernel
theorem dX12_isAhead_10 : decode cX12_isAhead 10 = .ok (.imul, 1) := by decide +kernel
theorem dX12_isAhead_11 : decode cX12_isAhead 11 = .ok (.iadd, 1) := by decide +kernel
theorem dX12_isAhead_12 : decode cX12_isAhead 12 = .ok (.iconst 1, 1) := by decide +kernel
theorem dX12_isAhead_13 : decode cX12_isAhead 13 = .ok (.iadd, 1) := by decide +kernel
theorem dX12_isAhead_14 : decode cX12_isAhead 14 = .ok (.iaload, 1) := by decide +kernel
theorem dX12_isAhead_15 : decode cX12_isAhead 15 = .ok (.istore_n 3, 1) := by decide +kernel
theorem dX12_isAhead_16 : decode cX12_isAhead 16 = .ok (.aload_n 0, 1) := by decide +kernel
theorem dX12_isAhead_17 : decode cX12_isAhead 17 = .ok (.getfield 7, 3) := by decide +kernel
theorem dX12_isAhead_20 : decode cX12_isAhead 20 = .ok (.sipush 1300, 3) := by decide +kernel
theorem dX12_isAhead_23 : decode cX12_isAhead 23 = .ok (.bipush 7, 2) := by decide +kernel
theorem dX12_isAhead_25 : decode cX12_isAhead 25 = .ok (.iload_n 2, 1) := by decide +kernel
theorem dX12_isAhead_26 : decode cX12_isAhead 26 = .ok (.imul, 1) := by decide +kernel
theorem dX12_isAhead_27 : decode cX12_isAhead 27 = .ok (.iadd, 1) := by decide +kernel
theorem dX12_isAhead_28 : decode cX12_isAhead 28 = .ok (.iconst 1, 1) := by decide +kernel
theorem dX12_isAhead_29 : decode cX12_isAhead 29 = .ok (.iadd, 1) := by decide +kernel
theorem dX12_isAhead_30 : decode cX12_isAhead 30 = .ok (.iaload, 1) := by decide +kernel
theorem dX12_isAhead_31 : decode cX12_isAhead 31 = .ok (.istore 4, 2) := by decide +kernel
theorem dX12_isAhead_33 : decode cX12_isAhead 33 = .ok (.iload_n 3, 1) := by decide +kernel
theorem dX12_isAhead_34 : decode cX12_isAhead 34 = .ok (.iload 4, 2) := by decide +kernel
theorem dX12_isAhead_36 : decode cX12_isAhead 36 = .ok (.if_icmp .lt 14, 3) := by decide +kernel
theorem dX12_isAhead_39 : decode cX12_isAhead 39 = .ok (.iload_n 3, 1) := by decide +kernel
theorem dX12_isAhead_40 : decode cX12_isAhead 40 = .ok (.iload 4, 2) := by decide +kernel
theorem dX12_isAhead_42 : decode cX12_isAhead 42 = .ok (.if_icmp .ne 12, 3) := by decide +kernel
theorem dX12_isAhead_45 : decode cX12_isAhead 45 = .ok (.iload_n 1, 1) := by decide +kernel
theorem dX12_isAhead_46 : decode cX12_isAhead 46 = .ok (.iload_n 2, 1) := by decide +kernel
theorem dX12_isAhead_47 : decode cX12_isAhead 47 = .ok (.if_icmp .ge 7, 3) := by decide +kernel
theorem dX12_isAhead_50 : decode cX12_isAhead 50 = .ok (.iconst 1, 1) := by decide +kernel
theorem dX12_isAhead_51 : decode cX12_isAhead 51 = .ok (.goto 4, 3) := by decide +kernel
theorem dX12_isAhead_54 : decode cX12_isAhead 54 = .ok (.iconst 0, 1) := by decide +kernel
theorem dX12_isAhead_55 : decode cX12_isAhead 55 = .ok (.ireturn, 1) := by decide +kernel
def f_X12_isAhead (M : q_Mem) (a0 : Nat) (a1 : Int32) (a2 : Int32) : Option Int32 :=
  q_ob 11 M a0 ((q_gR 11 0 M a0).bind fun v1 =>
  (q_lI M v1 (((1300 : Int32) + ((7 : Int32) * a1)) + (1 : Int32))).bind fun v3 =>
  (q_gR 11 0 M a0).bind fun v5 =>
  (q_lI M v5 (((1300 : Int32) + ((7 : Int32) * a2)) + (1 : Int32))).bind fun v7 =>
  (if v3 < v7 then
    some (1 : Int32)
  else
    (if v3 = v7 then
      (if a1 < a2 then
        some (1 : Int32)
      else
        some (0 : Int32))
    else
      some (0 : Int32))))
set_option maxRecDepth 20000 in
theorem m_X12_isAhead {M : q_Mem} {a0 : Nat} {a1 : Int32} {a2 : Int32} {x : Int32} (h : f_X12_isAhead M a0 a1 a2 = some x) : q_C Y_X12_isAhead [.ref a0, .int a1, .int a2] M (some (.int x)) M := by
  refine q_met (φ := (fun x : Int32 => (some (.int x), M))) (r := f_X12_isAhead M a0 a1 a2) (by decide +kernel) (Nat.le_of_ble_eq_true rfl) ?_ h (fun _ _ => rfl)
  show q_V Y_X12_isAhead none (fun x : Int32 => (some (.int x), M)) 0 0 0 [(0, .ref a0), (1, .int a1), (2, .int a2)] [] M (f_X12_isAhead M a0 a1 a2)
  unfold f_X12_isAhead
  refine q_obV ?_
  refine q_aload_n 0 dX12_isAhead_0 rfl ?_
  refine q_getR (f := 0) cl_X12 (by decide) qw_1117 rfl dX12_isAhead_1 (fun _ _ _ => rfl) (fun v1 h2 => ?_)
  refine q_sipush (x := (1300 : Int32)) dX12_isAhead_4 rfl ?_
  refine q_bipush (x := (7 : Int32)) dX12_isAhead_7 rfl ?_
  refine q_iload_n 1 dX12_isAhead_9 rfl ?_
  refine q_imul dX12_isAhead_10 ?_
  refine q_iadd dX12_isAhead_11 ?_
  refine q_iconst (x := (1 : Int32)) dX12_isAhead_12 rfl ?_
  refine q_iadd dX12_isAhead_13 ?_
  refine q_iald dX12_isAhead_14 (fun v3 h4 => ?_)
  refine q_istore_n (ls' := [(3, .int v3), (0, .ref a0), (1, .int a1), (2, .int a2)]) dX12_isAhead_15 (by decide) rfl ?_
  refine q_aload_n 1 dX12_isAhead_16 rfl ?_
  refine q_getR (f := 0) cl_X12 (by decide) qw_1117 rfl dX12_isAhead_17 (fun _ _ _ => rfl) (fun v5 h6 => ?_)
  refine q_sipush (x := (1300 : Int32)) dX12_isAhead_20 rfl ?_
  refine q_bipush (x := (7 : Int32)) dX12_isAhead_23 rfl ?_
  refine q_iload_n 3 dX12_isAhead_25 rfl ?_
  refine q_imul dX12_isAhead_26 ?_
  refine q_iadd dX12_isAhead_27 ?_
  refine q_iconst (x := (1 : Int32)) dX12_isAhead_28 rfl ?_
  refine q_iadd dX12_isAhead_29 ?_
  refine q_iald dX12_isAhead_30 (fun v7 h8 => ?_)
  refine q_istore (ls' := [(4, .int v7), (3, .int v3), (0, .ref a0), (1, .int a1), (2, .int a2)]) dX12_isAhead_31 (by decide) rfl ?_
  refine q_iload_n 1 dX12_isAhead_33 rfl ?_
  refine q_iload 0 dX12_isAhead_34 rfl ?_
  refine q_icmp_lt (tgt := 50) dX12_isAhead_36 (by decide) (fun c11 => ?_) (fun c11 => ?_)
  · refine q_iconst (x := (1 : Int32)) dX12_isAhead_50 rfl ?_
    refine q_goto (tgt := 55) dX12_isAhead_51 (by decide) ?_
    exact q_zretL dX12_isAhead_55 rfl (Or.inr rfl) rfl (Nat.le_of_ble_eq_true rfl) rfl
  · refine q_iload_n 1 dX12_isAhead_39 rfl ?_
    refine q_iload 0 dX12_isAhead_40 rfl ?_
    refine q_icmp_ne (tgt := 54) dX12_isAhead_42 (by decide) (fun c10 => ?_) (fun c10 => ?_)
    · refine q_iload_n 3 dX12_isAhead_45 rfl ?_
      refine q_iload_n 4 dX12_isAhead_46 rfl ?_
      refine q_icmp_ge (tgt := 54) dX12_isAhead_47 (by decide) (fun c9 => ?_) (fun c9 => ?_)
      · refine q_iconst (x := (1 : Int32)) dX12_isAhead_50 rfl ?_
        refine q_goto (tgt := 55) dX12_isAhead_51 (by decide) ?_
        exact q_zretL dX12_isAhead_55 rfl (Or.inr rfl) rfl (Nat.le_of_ble_eq_true rfl) rfl
      · refine q_iconst (x := (0 : Int32)) dX12_isAhead_54 rfl ?_
        exact q_zretL dX12_isAhead_55 rfl (Or.inl rfl) rfl (Nat.le_of_ble_eq_true rfl) rfl
    · refine q_iconst (x := (0 : Int32)) dX12_isAhead_54 rfl ?_
      exact q_zretL dX12_isAhead_55 rfl (Or.inl rfl) rfl (Nat.le_of_ble_eq_true rfl) rfl
theorem dX12_rateOf_0 : decode cX12_rateOf 0 = .ok (.aload_n 0, 1) := by decide +kernel
theorem dX12_rateOf_1 : decode cX12_rateOf 1 = .ok (.iload_n 1, 1) := by decide +kernel
theorem dX12_rateOf_2 : decode cX12_rateOf 2 = .ok (.iload_n 2, 1) := by decide +kernel
theorem dX12_rateOf_3 : decode cX12_rateOf 3 = .ok (.invokevirtual 98, 3) := by decide +kernel
theorem dX12_rateOf_6 : decode cX12_rateOf 6 = .ok (.ifCond .ne 5, 3) := by decide +kernel
theorem dX12_rateOf_9 : decode cX12_rateOf 9 = .ok (.iconst (-1), 1) := by decide +kernel
theorem dX12_rateOf_10 : decode cX12_rateOf 10 = .ok (.ireturn, 1) := by decide +kernel
theorem dX12_rateOf_11 : decode cX12_rateOf 11 = .ok (.aload_n 0, 1) := by decide +kernel
theorem dX12_rateOf_12 : decode cX12_rateOf 12 = .ok (.iload_n 1, 1) := by decide +kernel
theorem dX12_rateOf_13 : decode cX12_rateOf 13 = .ok (.iload_n 2, 1) := by decide +kernel
theorem dX12_rateOf_14 : decode cX12_rateOf 14 = .ok (.invokevirtual 94, 3) := by decide +kernel
theorem dX12_rateOf_17 : decode cX12_rateOf 17 = .ok (.bipush (-7), 2) := by decide +kernel
theorem dX12_rateOf_19 : decode cX12_rateOf 19 = .ok (.if_icmp .eq 10, 3) := by decide +kernel
theorem dX12_rateOf_22 : decode cX12_rateOf 22 = .ok (.aload_n 0, 1) := by decide +kernel
theorem dX12_rateOf_23 : decode cX12_rateOf 23 = .ok (.iload_n 1, 1) := by decide +kernel
theorem dX12_rateOf_24 : decode cX12_rateOf 24 = .ok (.iload_n 2, 1) := by decide +kernel
theorem dX12_rateOf_25 : decode cX12_rateOf 25 = .ok (.invokevirtual 101, 3) := by decide +kernel
theorem dX12_rateOf_28 : decode cX12_rateOf 28 = .ok (.ireturn, 1) := by decide +kernel
theorem dX12_rateOf_29 : decode cX12_rateOf 29 = .ok (.iconst (-1), 1) := by decide +kernel
theorem dX12_rateOf_30 : decode cX12_rateOf 30 = .ok (.istore_n 3, 1) := by decide +kernel
theorem dX12_rateOf_31 : decode cX12_rateOf 31 = .ok (.iconst 0, 1) := by decide +kernel
theorem dX12_rateOf_32 : decode cX12_rateOf 32 = .ok (.istore 4, 2) := by decide +kernel
theorem dX12_rateOf_34 : decode cX12_rateOf 34 = .ok (.iload 4, 2) := by decide +kernel
theorem dX12_rateOf_36 : decode cX12_rateOf 36 = .ok (.aload_n 0, 1) := by decide +kernel
theorem dX12_rateOf_37 : decode cX12_rateOf 37 = .ok (.getfield 7, 3) := by decide +kernel
theorem dX12_rateOf_40 : decode cX12_rateOf 40 = .ok (.iconst 2, 1) := by decide +kernel
theorem dX12_rateOf_41 : decode cX12_rateOf 41 = .ok (.iaload, 1) := by decide +kernel
theorem dX12_rateOf_42 : decode cX12_rateOf 42 = .ok (.if_icmp .ge 105, 3) := by decide +kernel
theorem dX12_rateOf_45 : decode cX12_rateOf 45 = .ok (.aload_n 0, 1) := by decide +kernel
theorem dX12_rateOf_46 : decode cX12_rateOf 46 = .ok (.getfield 7, 3) := by decide +kernel
theorem dX12_rateOf_49 : decode cX12_rateOf 49 = .ok (.sipush 1300, 3) := by decide +kernel
theorem dX12_rateOf_52 : decode cX12_rateOf 52 = .ok (.bipush 7, 2) := by decide +kernel
theorem dX12_rateOf_54 : decode cX12_rateOf 54 = .ok (.iload 4, 2) := by decide +kernel
theorem dX12_rateOf_56 : decode cX12_rateOf 56 = .ok (.imul, 1) := by decide +kernel
theorem dX12_rateOf_57 : decode cX12_rateOf 57 = .ok (.iadd, 1) := by decide +kernel
theorem dX12_rateOf_58 : decode cX12_rateOf 58 = .ok (.iaload, 1) := by decide +kernel
theorem dX12_rateOf_59 : decode cX12_rateOf 59 = .ok (.aload_n 0, 1) := by decide +kernel
theorem dX12_rateOf_60 : decode cX12_rateOf 60 = .ok (.getfield 7, 3) := by decide +kernel
theorem dX12_rateOf_63 : decode cX12_rateOf 63 = .ok (.sipush 1300, 3) := by decide +kernel
theorem dX12_rateOf_66 : decode cX12_rateOf 66 = .ok (.bipush 7, 2) := by decide +kernel
theorem dX12_rateOf_68 : decode cX12_rateOf 68 = .ok (.iload_n 1, 1) := by decide +kernel
theorem dX12_rateOf_69 : decode cX12_rateOf 69 = .ok (.imul, 1) := by decide +kernel
theorem dX12_rateOf_70 : decode cX12_rateOf 70 = .ok (.iadd, 1) := by decide +kernel
theorem dX12_rateOf_71 : decode cX12_rateOf 71 = .ok (.iaload, 1) := by decide +kernel
theorem dX12_rateOf_72 : decode cX12_rateOf 72 = .ok (.if_icmp .ne 39, 3) := by decide +kernel
theorem dX12_rateOf_75 : decode cX12_rateOf 75 = .ok (.aload_n 0, 1) := by decide +kernel
theorem dX12_rateOf_76 : decode cX12_rateOf 76 = .ok (.iload 4, 2) := by decide +kernel
theorem dX12_rateOf_78 : decode cX12_rateOf 78 = .ok (.iload_n 2, 1) := by decide +kernel
theorem dX12_rateOf_79 : decode cX12_rateOf 79 = .ok (.invokevirtual 98, 3) := by decide +kernel
theorem dX12_rateOf_82 : decode cX12_rateOf 82 = .ok (.ifCond .eq 29, 3) := by decide +kernel
theorem dX12_rateOf_85 : decode cX12_rateOf 85 = .ok (.aload_n 0, 1) := by decide +kernel
theorem dX12_rateOf_86 : decode cX12_rateOf 86 = .ok (.iload 4, 2) := by decide +kernel
theorem dX12_rateOf_88 : decode cX12_rateOf 88 = .ok (.iload_n 2, 1) := by decide +kernel
theorem dX12_rateOf_89 : decode cX12_rateOf 89 = .ok (.invokevirtual 94, 3) := by decide +kernel
theorem dX12_rateOf_92 : decode cX12_rateOf 92 = .ok (.bipush (-7), 2) := by decide +kernel
theorem dX12_rateOf_94 : decode cX12_rateOf 94 = .ok (.if_icmp .eq 17, 3) := by decide +kernel
theorem dX12_rateOf_97 : decode cX12_rateOf 97 = .ok (.aload_n 0, 1) := by decide +kernel
theorem dX12_rateOf_98 : decode cX12_rateOf 98 = .ok (.iload 4, 2) := by decide +kernel
theorem dX12_rateOf_100 : decode cX12_rateOf 100 = .ok (.iload_n 1, 1) := by decide +kernel
theorem dX12_rateOf_101 : decode cX12_rateOf 101 = .ok (.invokevirtual 104, 3) := by decide +kernel
theorem dX12_rateOf_104 : decode cX12_rateOf 104 = .ok (.ifCond .eq 7, 3) := by decide +kernel
theorem dX12_rateOf_107 : decode cX12_rateOf 107 = .ok (.iconst 1, 1) := by decide +kernel
theorem dX12_rateOf_108 : decode cX12_rateOf 108 = .ok (.goto 4, 3) := by decide +kernel
theorem dX12_rateOf_111 : decode cX12_rateOf 111 = .ok (.iconst 0, 1) := by decide +kernel
theorem dX12_rateOf_112 : decode cX12_rateOf 112 = .ok (.istore 5, 2) := by decide +kernel
theorem dX12_rateOf_114 : decode cX12_rateOf 114 = .ok (.iload 5, 2) := by decide +kernel
theorem dX12_rateOf_116 : decode cX12_rateOf 116 = .ok (.ifCond .eq 23, 3) := by decide +kernel
theorem dX12_rateOf_119 : decode cX12_rateOf 119 = .ok (.iload_n 3, 1) := by decide +kernel
theorem dX12_rateOf_120 : decode cX12_rateOf 120 = .ok (.iconst (-1), 1) := by decide +kernel
theorem dX12_rateOf_121 : decode cX12_rateOf 121 = .ok (.if_icmp .eq 13, 3) := by decide +kernel
theorem dX12_rateOf_124 : decode cX12_rateOf 124 = .ok (.aload_n 0, 1) := by decide +kernel
theorem dX12_rateOf_125 : decode cX12_rateOf 125 = .ok (.iload_n 3, 1) := by decide +kernel
theorem dX12_rateOf_126 : decode cX12_rateOf 126 = .ok (.iload 4, 2) := by decide +kernel
theorem dX12_rateOf_128 : decode cX12_rateOf 128 = .ok (.invokevirtual 104, 3) := by decide +kernel
theorem dX12_rateOf_131 : decode cX12_rateOf 131 = .ok (.ifCond .eq 8, 3) := by decide +kernel
theorem dX12_rateOf_134 : decode cX12_rateOf 134 = .ok (.iload 4, 2) := by decide +kernel
theorem dX12_rateOf_136 : decode cX12_rateOf 136 = .ok (.goto 4, 3) := by decide +kernel
theorem dX12_rateOf_139 : decode cX12_rateOf 139 = .ok (.iload_n 3, 1) := by decide +kernel
theorem dX12_rateOf_140 : decode cX12_rateOf 140 = .ok (.istore_n 3, 1) := by decide +kernel
theorem dX12_rateOf_141 : decode cX12_rateOf 141 = .ok (.iinc 4 1, 3) := by decide +kernel
theorem dX12_rateOf_144 : decode cX12_rateOf 144 = .ok (.goto (-110), 3) := by decide +kernel
theorem dX12_rateOf_147 : decode cX12_rateOf 147 = .ok (.iload_n 3, 1) := by decide +kernel
theorem dX12_rateOf_148 : decode cX12_rateOf 148 = .ok (.iconst (-1), 1) := by decide +kernel
theorem dX12_rateOf_149 : decode cX12_rateOf 149 = .ok (.if_icmp .ne 9, 3) := by decide +kernel
theorem dX12_rateOf_152 : decode cX12_rateOf 152 = .ok (.sipush 350, 3) := by decide +kernel
theorem dX12_rateOf_155 : decode cX12_rateOf 155 = .ok (.goto 9, 3) := by decide +kernel
theorem dX12_rateOf_158 : decode cX12_rateOf 158 = .ok (.aload_n 0, 1) := by decide +kernel
theorem dX12_rateOf_159 : decode cX12_rateOf 159 = .ok (.iload_n 3, 1) := by decide +kernel
theorem dX12_rateOf_160 : decode cX12_rateOf 160 = .ok (.iload_n 2, 1) := by decide +kernel
theorem dX12_rateOf_161 : decode cX12_rateOf 161 = .ok (.invokevirtual 101, 3) := by decide +kernel
theorem dX12_rateOf_164 : decode cX12_rateOf 164 = .ok (.ireturn, 1) := by decide +kernel
def f_X12_rateOf_b147 (M : q_Mem) (a0 : Nat) (a2 : Int32) (a3 : Int32) : Option Int32 :=
  (if a3 = (-1 : Int32) then
    some (350 : Int32)
  else
    (f_X12_leant M a0 a3 a2).bind fun v38 =>
    some v38)
def f_X12_rateOf_b134 (kk34 : Int32 → Int32 → Option Int32) (M : q_Mem) (a0 : Nat) (a1 : Int32) (a2 : Int32) (a4 : Int32) : Option Int32 :=
  kk34 a4 (a4 + (1 : Int32))
def f_X12_rateOf_b112 (kk34 : Int32 → Int32 → Option Int32) (M : q_Mem) (a0 : Nat) (a1 : Int32) (a2 : Int32) (a3 : Int32) (a4 : Int32) (s0 : Int32) : Option Int32 :=
  (if s0 = 0 then
    kk34 a3 (a4 + (1 : Int32))
  else
    (if a3 = (-1 : Int32) then
      f_X12_rateOf_b134 kk34 M a0 a1 a2 a4
    else
      (f_X12_isAhead M a0 a3 a4).bind fun v33 =>
      (if v33 = 0 then
        kk34 a3 (a4 + (1 : Int32))
      else
        f_X12_rateOf_b134 kk34 M a0 a1 a2 a4)))
def f_X12_rateOf_b34 (M : q_Mem) (a0 : Nat) (a1 : Int32) (a2 : Int32) : Nat → Int32 → Int32 → Option Int32
  | 0, _, _ => none
  | n + 1, a3, a4 =>
    (q_gR 11 0 M a0).bind fun v9 =>
    (q_lI M v9 (2 : Int32)).bind fun v11 =>
    (if a4 < v11 then
      (q_gR 11 0 M a0).bind fun v13 =>
      (q_lI M v13 ((1300 : Int32) + ((7 : Int32) * a4))).bind fun v15 =>
      (q_gR 11 0 M a0).bind fun v17 =>
      (q_lI M v17 ((1300 : Int32) + ((7 : Int32) * a1))).bind fun v19 =>
      (if v15 = v19 then
        (f_X12_isKnown M a0 a4 a2).bind fun v22 =>
        (if v22 = 0 then
          f_X12_rateOf_b112 (f_X12_rateOf_b34 M a0 a1 a2 n) M a0 a1 a2 a3 a4 (0 : Int32)
        else
          (f_X12_numberOf M a0 a4 a2).bind fun v24 =>
          (if v24 = (-7 : Int32) then
            f_X12_rateOf_b112 (f_X12_rateOf_b34 M a0 a1 a2 n) M a0 a1 a2 a3 a4 (0 : Int32)
          else
            (f_X12_isAhead M a0 a4 a1).bind fun v26 =>
            (if v26 = 0 then
              f_X12_rateOf_b112 (f_X12_rateOf_b34 M a0 a1 a2 n) M a0 a1 a2 a3 a4 (0 : Int32)
            else
              f_X12_rateOf_b112 (f_X12_rateOf_b34 M a0 a1 a2 n) M a0 a1 a2 a3 a4 (1 : Int32))))
      else
        f_X12_rateOf_b112 (f_X12_rateOf_b34 M a0 a1 a2 n) M a0 a1 a2 a3 a4 (0 : Int32))
    else
      f_X12_rateOf_b147 M a0 a2 a3)
def f_X12_rateOf (M : q_Mem) (a0 : Nat) (a1 : Int32) (a2 : Int32) : Option Int32 :=
  q_ob 11 M a0 ((f_X12_isKnown M a0 a1 a2).bind fun v2 =>
  (if v2 = 0 then
    some (-1 : Int32)
  else
    (f_X12_numberOf M a0 a1 a2).bind fun v4 =>
    (if v4 = (-7 : Int32) then
      f_X12_rateOf_b34 M a0 a1 a2 q_fuel (-1 : Int32) (0 : Int32)
    else
      (f_X12_leant M a0 a1 a2).bind fun v6 =>
      some v6)))
set_option maxRecDepth 20000 in
theorem v_X12_rateOf_b147 {M : q_Mem} {a0 : Nat} {a2 : Int32} {a3 : Int32}  : q_V Y_X12_rateOf none (fun x : Int32 => (some (.int x), M)) 0 0 147 [(0, .ref a0), (2, .int a2), (3, .int a3)] [] M (f_X12_rateOf_b147 M a0 a2 a3 ) := by
  unfold f_X12_rateOf_b147
  refine q_iload_n 2 dX12_rateOf_147 rfl ?_
  refine q_iconst (x := (-1 : Int32)) dX12_rateOf_148 rfl ?_
  refine q_icmp_ne (tgt := 158) dX12_rateOf_149 (by decide) (fun c39 => ?_) (fun c39 => ?_)
  · refine q_sipush (x := (350 : Int32)) dX12_rateOf_152 rfl ?_
    refine q_goto (tgt := 164) dX12_rateOf_155 (by decide) ?_
    exact q_iret dX12_rateOf_164 rfl rfl (Nat.le_of_ble_eq_true rfl) rfl
  · refine q_aload_n 0 dX12_rateOf_158 rfl ?_
    refine q_iload_n 2 dX12_rateOf_159 rfl ?_
    refine q_iload_n 1 dX12_rateOf_160 rfl ?_
    refine q_cVI (Y2 := Y_X12_leant) (As := [.int a3, .int a2]) (b := a0) (st := []) cl_X12 mv_X12_leant qw_1268 dX12_rateOf_161 ⟨Nat.le_of_ble_eq_true rfl, Nat.le_of_ble_eq_true rfl⟩ rfl (fun _ _ => rfl) (Nat.le_of_ble_eq_true rfl) ⟨Nat.le_of_ble_eq_true rfl, Nat.le_of_ble_eq_true rfl⟩ (fun v38 h37 => q_ob_is h37) (fun v38 h37 => m_X12_leant h37) (fun v38 h37 => ?_)
    exact q_iret dX12_rateOf_164 rfl rfl (Nat.le_of_ble_eq_true rfl) rfl
set_option maxRecDepth 20000 in
theorem v_X12_rateOf_b134 {kk34 : Int32 → Int32 → Option Int32} {M : q_Mem} {a0 : Nat} {a1 : Int32} {a2 : Int32} {a4 : Int32}  (hk34 : ∀ (a3 : Int32) (a4 : Int32), q_V Y_X12_rateOf none (fun x : Int32 => (some (.int x), M)) 0 0 34 [(0, .ref a0), (1, .int a1), (2, .int a2), (3, .int a3), (4, .int a4)] [] M (kk34 a3 a4)): q_V Y_X12_rateOf none (fun x : Int32 => (some (.int x), M)) 0 0 134 [(0, .ref a0), (1, .int a1), (2, .int a2), (4, .int a4)] [] M (f_X12_rateOf_b134 kk34 M a0 a1 a2 a4 ) := by
  unfold f_X12_rateOf_b134
  refine q_iload 3 dX12_rateOf_134 rfl ?_
  refine q_goto (tgt := 140) dX12_rateOf_136 (by decide) ?_
  refine q_istore_n (ls' := [(3, .int a4), (0, .ref a0), (1, .int a1), (2, .int a2), (4, .int a4)]) dX12_rateOf_140 (by decide) rfl ?_
  refine q_iinc 4 (y := (a4 + (1 : Int32))) (ls' := [(4, .int (a4 + (1 : Int32))), (3, .int a4), (0, .ref a0), (1, .int a1), (2, .int a2)]) dX12_rateOf_141 rfl rfl (by decide) rfl ?_
  refine q_goto (tgt := 34) dX12_rateOf_144 (by decide) ?_
  refine q_sub (ls' := [(0, .ref a0), (1, .int a1), (2, .int a2), (3, .int a4), (4, .int (a4 + (1 : Int32)))]) [2, 3, 4, 1, 0] rfl ?_
  exact hk34 _ _
set_option maxRecDepth 20000 in
theorem v_X12_rateOf_b112 {kk34 : Int32 → Int32 → Option Int32} {M : q_Mem} {a0 : Nat} {a1 : Int32} {a2 : Int32} {a3 : Int32} {a4 : Int32} {s0 : Int32}  (hk34 : ∀ (a3 : Int32) (a4 : Int32), q_V Y_X12_rateOf none (fun x : Int32 => (some (.int x), M)) 0 0 34 [(0, .ref a0), (1, .int a1), (2, .int a2), (3, .int a3), (4, .int a4)] [] M (kk34 a3 a4)): q_V Y_X12_rateOf none (fun x : Int32 => (some (.int x), M)) 0 0 112 [(0, .ref a0), (1, .int a1), (2, .int a2), (3, .int a3), (4, .int a4)] [.int s0] M (f_X12_rateOf_b112 kk34 M a0 a1 a2 a3 a4 s0) := by
  unfold f_X12_rateOf_b112
  refine q_istore (ls' := [(5, .int s0), (0, .ref a0), (1, .int a1), (2, .int a2), (3, .int a3), (4, .int a4)]) dX12_rateOf_112 (by decide) rfl ?_
  refine q_iload 0 dX12_rateOf_114 rfl ?_
  refine q_if_eq (tgt := 139) dX12_rateOf_116 (by decide) (fun c36 => ?_) (fun c36 => ?_)
  · refine q_iload_n 4 dX12_rateOf_139 rfl ?_
    refine q_istore_n (ls' := [(3, .int a3), (5, .int s0), (0, .ref a0), (1, .int a1), (2, .int a2), (4, .int a4)]) dX12_rateOf_140 (by decide) rfl ?_
    refine q_iinc 5 (y := (a4 + (1 : Int32))) (ls' := [(4, .int (a4 + (1 : Int32))), (3, .int a3), (5, .int s0), (0, .ref a0), (1, .int a1), (2, .int a2)]) dX12_rateOf_141 rfl rfl (by decide) rfl ?_
    refine q_goto (tgt := 34) dX12_rateOf_144 (by decide) ?_
    refine q_sub (ls' := [(0, .ref a0), (1, .int a1), (2, .int a2), (3, .int a3), (4, .int (a4 + (1 : Int32)))]) [3, 4, 5, 1, 0] rfl ?_
    exact hk34 _ _
  · refine q_iload_n 4 dX12_rateOf_119 rfl ?_
    refine q_iconst (x := (-1 : Int32)) dX12_rateOf_120 rfl ?_
    refine q_icmp_eq (tgt := 134) dX12_rateOf_121 (by decide) (fun c35 => ?_) (fun c35 => ?_)
    · refine q_sub (ls' := [(0, .ref a0), (1, .int a1), (2, .int a2), (4, .int a4)]) [1, 2, 3, 5] rfl ?_
      exact v_X12_rateOf_b134 (hk34)
    · refine q_aload_n 1 dX12_rateOf_124 rfl ?_
      refine q_iload_n 4 dX12_rateOf_125 rfl ?_
      refine q_iload 5 dX12_rateOf_126 rfl ?_
      refine q_cVI (Y2 := Y_X12_isAhead) (As := [.int a3, .int a4]) (b := a0) (st := []) cl_X12 mv_X12_isAhead qw_1272 dX12_rateOf_128 ⟨Nat.le_of_ble_eq_true rfl, Nat.le_of_ble_eq_true rfl⟩ rfl (fun _ _ => rfl) (Nat.le_of_ble_eq_true rfl) ⟨Nat.le_of_ble_eq_true rfl, Nat.le_of_ble_eq_true rfl⟩ (fun v33 h32 => q_ob_is h32) (fun v33 h32 => m_X12_isAhead h32) (fun v33 h32 => ?_)
      refine q_if_eq (tgt := 139) dX12_rateOf_131 (by decide) (fun c34 => ?_) (fun c34 => ?_)
      · refine q_iload_n 4 dX12_rateOf_139 rfl ?_
        refine q_istore_n (ls' := [(3, .int a3), (5, .int s0), (0, .ref a0), (1, .int a1), (2, .int a2), (4, .int a4)]) dX12_rateOf_140 (by decide) rfl ?_
        refine q_iinc 5 (y := (a4 + (1 : Int32))) (ls' := [(4, .int (a4 + (1 : Int32))), (3, .int a3), (5, .int s0), (0, .ref a0), (1, .int a1), (2, .int a2)]) dX12_rateOf_141 rfl rfl (by decide) rfl ?_
        refine q_goto (tgt := 34) dX12_rateOf_144 (by decide) ?_
        refine q_sub (ls' := [(0, .ref a0), (1, .int a1), (2, .int a2), (3, .int a3), (4, .int (a4 + (1 : Int32)))]) [3, 4, 5, 1, 0] rfl ?_
        exact hk34 _ _
      · refine q_sub (ls' := [(0, .ref a0), (1, .int a1), (2, .int a2), (4, .int a4)]) [1, 2, 3, 5] rfl ?_
        exact v_X12_rateOf_b134 (hk34)
set_option maxRecDepth 20000 in
theorem v_X12_rateOf_b34 {M : q_Mem} {a0 : Nat} {a1 : Int32} {a2 : Int32}  : ∀ (n : Nat) (a3 : Int32) (a4 : Int32), q_V Y_X12_rateOf none (fun x : Int32 => (some (.int x), M)) 0 0 34 [(0, .ref a0), (1, .int a1), (2, .int a2), (3, .int a3), (4, .int a4)] [] M (f_X12_rateOf_b34 M a0 a1 a2 n a3 a4) := by
  intro n
  induction n with
  | zero => intro a3 a4; exact q_none
  | succ n ih =>
    intro a3 a4
    rw [f_X12_rateOf_b34.eq_2]
    refine q_iload 4 dX12_rateOf_34 rfl ?_
    refine q_aload_n 0 dX12_rateOf_36 rfl ?_
    refine q_getR (f := 0) cl_X12 (by decide) qw_1117 rfl dX12_rateOf_37 (fun _ _ _ => rfl) (fun v9 h10 => ?_)
    refine q_iconst (x := (2 : Int32)) dX12_rateOf_40 rfl ?_
    refine q_iald dX12_rateOf_41 (fun v11 h12 => ?_)
    refine q_icmp_ge (tgt := 147) dX12_rateOf_42 (by decide) (fun c31 => ?_) (fun c31 => ?_)
    · refine q_aload_n 0 dX12_rateOf_45 rfl ?_
      refine q_getR (f := 0) cl_X12 (by decide) qw_1117 rfl dX12_rateOf_46 (fun _ _ _ => rfl) (fun v13 h14 => ?_)
      refine q_sipush (x := (1300 : Int32)) dX12_rateOf_49 rfl ?_
      refine q_bipush (x := (7 : Int32)) dX12_rateOf_52 rfl ?_
      refine q_iload 4 dX12_rateOf_54 rfl ?_
      refine q_imul dX12_rateOf_56 ?_
      refine q_iadd dX12_rateOf_57 ?_
      refine q_iald dX12_rateOf_58 (fun v15 h16 => ?_)
      refine q_aload_n 0 dX12_rateOf_59 rfl ?_
      refine q_getR (f := 0) cl_X12 (by decide) qw_1117 rfl dX12_rateOf_60 (fun _ _ _ => rfl) (fun v17 h18 => ?_)
      refine q_sipush (x := (1300 : Int32)) dX12_rateOf_63 rfl ?_
      refine q_bipush (x := (7 : Int32)) dX12_rateOf_66 rfl ?_
      refine q_iload_n 1 dX12_rateOf_68 rfl ?_
      refine q_imul dX12_rateOf_69 ?_
      refine q_iadd dX12_rateOf_70 ?_
      refine q_iald dX12_rateOf_71 (fun v19 h20 => ?_)
      refine q_icmp_ne (tgt := 111) dX12_rateOf_72 (by decide) (fun c30 => ?_) (fun c30 => ?_)
      · refine q_aload_n 0 dX12_rateOf_75 rfl ?_
        refine q_iload 4 dX12_rateOf_76 rfl ?_
        refine q_iload_n 2 dX12_rateOf_78 rfl ?_
        refine q_cVI (Y2 := Y_X12_isKnown) (As := [.int a4, .int a2]) (b := a0) (st := []) cl_X12 mv_X12_isKnown qw_1260 dX12_rateOf_79 ⟨Nat.le_of_ble_eq_true rfl, Nat.le_of_ble_eq_true rfl⟩ rfl (fun _ _ => rfl) (Nat.le_of_ble_eq_true rfl) ⟨Nat.le_of_ble_eq_true rfl, Nat.le_of_ble_eq_true rfl⟩ (fun v22 h21 => q_ob_is h21) (fun v22 h21 => m_X12_isKnown h21) (fun v22 h21 => ?_)
        refine q_if_eq (tgt := 111) dX12_rateOf_82 (by decide) (fun c29 => ?_) (fun c29 => ?_)
        · refine q_iconst (x := (0 : Int32)) dX12_rateOf_111 rfl ?_
          exact v_X12_rateOf_b112 (ih)
        · refine q_aload_n 0 dX12_rateOf_85 rfl ?_
          refine q_iload 4 dX12_rateOf_86 rfl ?_
          refine q_iload_n 2 dX12_rateOf_88 rfl ?_
          refine q_cVI (Y2 := Y_X12_numberOf) (As := [.int a4, .int a2]) (b := a0) (st := []) cl_X12 mv_X12_numberOf qw_1264 dX12_rateOf_89 ⟨Nat.le_of_ble_eq_true rfl, Nat.le_of_ble_eq_true rfl⟩ rfl (fun _ _ => rfl) (Nat.le_of_ble_eq_true rfl) ⟨Nat.le_of_ble_eq_true rfl, Nat.le_of_ble_eq_true rfl⟩ (fun v24 h23 => q_ob_is h23) (fun v24 h23 => m_X12_numberOf h23) (fun v24 h23 => ?_)
          refine q_bipush (x := (-7 : Int32)) dX12_rateOf_92 rfl ?_
          refine q_icmp_eq (tgt := 111) dX12_rateOf_94 (by decide) (fun c28 => ?_) (fun c28 => ?_)
          · refine q_iconst (x := (0 : Int32)) dX12_rateOf_111 rfl ?_
            exact v_X12_rateOf_b112 (ih)
          · refine q_aload_n 0 dX12_rateOf_97 rfl ?_
            refine q_iload 4 dX12_rateOf_98 rfl ?_
            refine q_iload_n 1 dX12_rateOf_100 rfl ?_
            refine q_cVI (Y2 := Y_X12_isAhead) (As := [.int a4, .int a1]) (b := a0) (st := []) cl_X12 mv_X12_isAhead qw_1272 dX12_rateOf_101 ⟨Nat.le_of_ble_eq_true rfl, Nat.le_of_ble_eq_true rfl⟩ rfl (fun _ _ => rfl) (Nat.le_of_ble_eq_true rfl) ⟨Nat.le_of_ble_eq_true rfl, Nat.le_of_ble_eq_true rfl⟩ (fun v26 h25 => q_ob_is h25) (fun v26 h25 => m_X12_isAhead h25) (fun v26 h25 => ?_)
            refine q_if_eq (tgt := 111) dX12_rateOf_104 (by decide) (fun c27 => ?_) (fun c27 => ?_)
            · refine q_iconst (x := (0 : Int32)) dX12_rateOf_111 rfl ?_
              exact v_X12_rateOf_b112 (ih)
            · refine q_iconst (x := (1 : Int32)) dX12_rateOf_107 rfl ?_
              refine q_goto (tgt := 112) dX12_rateOf_108 (by decide) ?_
              exact v_X12_rateOf_b112 (ih)
      · refine q_iconst (x := (0 : Int32)) dX12_rateOf_111 rfl ?_
        exact v_X12_rateOf_b112 (ih)
    · refine q_sub (ls' := [(0, .ref a0), (2, .int a2), (3, .int a3)]) [0, 2, 3] rfl ?_
      exact v_X12_rateOf_b147
set_option maxRecDepth 20000 in
theorem m_X12_rateOf {M : q_Mem} {a0 : Nat} {a1 : Int32} {a2 : Int32} {x : Int32} (h : f_X12_rateOf M a0 a1 a2 = some x) : q_C Y_X12_rateOf [.ref a0, .int a1, .int a2] M (some (.int x)) M := by
  refine q_met (φ := (fun x : Int32 => (some (.int x), M))) (r := f_X12_rateOf M a0 a1 a2) (by decide +kernel) (Nat.le_of_ble_eq_true rfl) ?_ h (fun _ _ => rfl)
  show q_V Y_X12_rateOf none (fun x : Int32 => (some (.int x), M)) 0 0 0 [(0, .ref a0), (1, .int a1), (2, .int a2)] [] M (f_X12_rateOf M a0 a1 a2)
  unfold f_X12_rateOf
  refine q_obV ?_
  refine q_aload_n 0 dX12_rateOf_0 rfl ?_
  refine q_iload_n 1 dX12_rateOf_1 rfl ?_
  refine q_iload_n 2 dX12_rateOf_2 rfl ?_
  refine q_cVI (Y2 := Y_X12_isKnown) (As := [.int a1, .int a2]) (b := a0) (st := []) cl_X12 mv_X12_isKnown qw_1260 dX12_rateOf_3 ⟨Nat.le_of_ble_eq_true rfl, Nat.le_of_ble_eq_true rfl⟩ rfl (fun _ _ => rfl) (Nat.le_of_ble_eq_true rfl) ⟨Nat.le_of_ble_eq_true rfl, Nat.le_of_ble_eq_true rfl⟩ (fun v2 h1 => q_ob_is h1) (fun v2 h1 => m_X12_isKnown h1) (fun v2 h1 => ?_)
  refine q_if_ne (tgt := 11) dX12_rateOf_6 (by decide) (fun c8 => ?_) (fun c8 => ?_)
  · refine q_iconst (x := (-1 : Int32)) dX12_rateOf_9 rfl ?_
    exact q_iret dX12_rateOf_10 rfl rfl (Nat.le_of_ble_eq_true rfl) rfl
  · refine q_aload_n 0 dX12_rateOf_11 rfl ?_
    refine q_iload_n 1 dX12_rateOf_12 rfl ?_
    refine q_iload_n 2 dX12_rateOf_13 rfl ?_
    refine q_cVI (Y2 := Y_X12_numberOf) (As := [.int a1, .int a2]) (b := a0) (st := []) cl_X12 mv_X12_numberOf qw_1264 dX12_rateOf_14 ⟨Nat.le_of_ble_eq_true rfl, Nat.le_of_ble_eq_true rfl⟩ rfl (fun _ _ => rfl) (Nat.le_of_ble_eq_true rfl) ⟨Nat.le_of_ble_eq_true rfl, Nat.le_of_ble_eq_true rfl⟩ (fun v4 h3 => q_ob_is h3) (fun v4 h3 => m_X12_numberOf h3) (fun v4 h3 => ?_)
    refine q_bipush (x := (-7 : Int32)) dX12_rateOf_17 rfl ?_
    refine q_icmp_eq (tgt := 29) dX12_rateOf_19 (by decide) (fun c7 => ?_) (fun c7 => ?_)
    · refine q_iconst (x := (-1 : Int32)) dX12_rateOf_29 rfl ?_
      refine q_istore_n (ls' := [(3, .int (-1 : Int32)), (0, .ref a0), (1, .int a1), (2, .int a2)]) dX12_rateOf_30 (by decide) rfl ?_
      refine q_iconst (x := (0 : Int32)) dX12_rateOf_31 rfl ?_
      refine q_istore (ls' := [(4, .int (0 : Int32)), (3, .int (-1 : Int32)), (0, .ref a0), (1, .int a1), (2, .int a2)]) dX12_rateOf_32 (by decide) rfl ?_
      refine q_sub (ls' := [(0, .ref a0), (1, .int a1), (2, .int a2), (3, .int (-1 : Int32)), (4, .int (0 : Int32))]) [2, 3, 4, 1, 0] rfl ?_
      exact v_X12_rateOf_b34 _ _ _
    · refine q_aload_n 0 dX12_rateOf_22 rfl ?_
      refine q_iload_n 1 dX12_rateOf_23 rfl ?_
      refine q_iload_n 2 dX12_rateOf_24 rfl ?_
      refine q_cVI (Y2 := Y_X12_leant) (As := [.int a1, .int a2]) (b := a0) (st := []) cl_X12 mv_X12_leant qw_1268 dX12_rateOf_25 ⟨Nat.le_of_ble_eq_true rfl, Nat.le_of_ble_eq_true rfl⟩ rfl (fun _ _ => rfl) (Nat.le_of_ble_eq_true rfl) ⟨Nat.le_of_ble_eq_true rfl, Nat.le_of_ble_eq_true rfl⟩ (fun v6 h5 => q_ob_is h5) (fun v6 h5 => m_X12_leant h5) (fun v6 h5 => ?_)
      exact q_iret dX12_rateOf_28 rfl rfl (Nat.le_of_ble_eq_true rfl) rfl
theorem dX12_findRates_0 : decode cX12_findRates 0 = .ok (.iconst 0, 1) := by decide +kernel
theorem dX12_findRates_1 : decode cX12_findRates 1 = .ok (.istore_n 2, 1) := by decide +kernel
theorem dX12_findRates_2 : decode cX12_findRates 2 = .ok (.iload_n 2, 1) := by decide +kernel
theorem dX12_findRates_3 : decode cX12_findRates 3 = .ok (.aload_n 0, 1) := by decide +kernel
theorem dX12_findRates_4 : decode cX12_findRates 4 = .ok (.getfield 7, 3) := by decide +kernel
theorem dX12_findRates_7 : decode cX12_findRates 7 = .ok (.iconst 2, 1) := by decide +kernel
theorem dX12_findRates_8 : decode cX12_findRates 8 = .ok (.iaload, 1) := by decide +kernel
theorem dX12_findRates_9 : decode cX12_findRates 9 = .ok (.if_icmp .ge 21, 3) := by decide +kernel
theorem dX12_findRates_12 : decode cX12_findRates 12 = .ok (.aload_n 0, 1) := by decide +kernel
theorem dX12_findRates_13 : decode cX12_findRates 13 = .ok (.getfield 20, 3) := by decide +kernel
theorem dX12_findRates_16 : decode cX12_findRates 16 = .ok (.iload_n 2, 1) := by decide +kernel
theorem dX12_findRates_17 : decode cX12_findRates 17 = .ok (.aload_n 0, 1) := by decide +kernel
theorem dX12_findRates_18 : decode cX12_findRates 18 = .ok (.iload_n 2, 1) := by decide +kernel
theorem dX12_findRates_19 : decode cX12_findRates 19 = .ok (.iload_n 1, 1) := by decide +kernel
theorem dX12_findRates_20 : decode cX12_findRates 20 = .ok (.invokevirtual 107, 3) := by decide +kernel
theorem dX12_findRates_23 : decode cX12_findRates 23 = .ok (.iastore, 1) := by decide +kernel
theorem dX12_findRates_24 : decode cX12_findRates 24 = .ok (.iinc 2 1, 3) := by decide +kernel
theorem dX12_findRates_27 : decode cX12_findRates 27 = .ok (.goto (-25), 3) := by decide +kernel
theorem dX12_findRates_30 : decode cX12_findRates 30 = .ok (.return_, 1) := by decide +kernel
def f_X12_findRates_b2 (a0 : Nat) (a1 : Int32) : Nat → Int32 → q_Mem → Option q_Mem
  | 0, _, _ => none
  | n + 1, a2, M =>
    (q_gR 11 0 M a0).bind fun v1 =>
    (q_lI M v1 (2 : Int32)).bind fun v3 =>
    (if a2 < v3 then
      (q_gR 11 3 M a0).bind fun v5 =>
      (f_X12_rateOf M a0 a2 a1).bind fun v8 =>
      (q_tI M v5 a2 v8).bind fun M9 =>
      f_X12_findRates_b2 a0 a1 n (a2 + (1 : Int32)) M9
    else
      some M)
def f_X12_findRates (M : q_Mem) (a0 : Nat) (a1 : Int32) : Option q_Mem :=
  q_ob 11 M a0 (f_X12_findRates_b2 a0 a1 q_fuel (0 : Int32) M)
set_option maxRecDepth 20000 in
theorem v_X12_findRates_b2 {a0 : Nat} {a1 : Int32}  : ∀ (n : Nat) (a2 : Int32) (M : q_Mem), q_V Y_X12_findRates none (fun x : q_Mem => (none, x)) 0 0 2 [(0, .ref a0), (1, .int a1), (2, .int a2)] [] M (f_X12_findRates_b2 a0 a1 n a2 M) := by
  intro n
  induction n with
  | zero => intro a2 M; exact q_none
  | succ n ih =>
    intro a2 M
    rw [f_X12_findRates_b2.eq_2]
    refine q_iload_n 2 dX12_findRates_2 rfl ?_
    refine q_aload_n 0 dX12_findRates_3 rfl ?_
    refine q_getR (f := 0) cl_X12 (by decide) qw_1117 rfl dX12_findRates_4 (fun _ _ _ => rfl) (fun v1 h2 => ?_)
    refine q_iconst (x := (2 : Int32)) dX12_findRates_7 rfl ?_
    refine q_iald dX12_findRates_8 (fun v3 h4 => ?_)
    refine q_icmp_ge (tgt := 30) dX12_findRates_9 (by decide) (fun c11 => ?_) (fun c11 => ?_)
    · refine q_aload_n 0 dX12_findRates_12 rfl ?_
      refine q_getR (f := 3) cl_X12 (by decide) qw_1120 rfl dX12_findRates_13 (fun _ _ _ => rfl) (fun v5 h6 => ?_)
      refine q_iload_n 2 dX12_findRates_16 rfl ?_
      refine q_aload_n 0 dX12_findRates_17 rfl ?_
      refine q_iload_n 2 dX12_findRates_18 rfl ?_
      refine q_iload_n 1 dX12_findRates_19 rfl ?_
      refine q_cVI (Y2 := Y_X12_rateOf) (As := [.int a2, .int a1]) (b := a0) (st := [.int a2, .ref v5]) cl_X12 mv_X12_rateOf qw_1256 dX12_findRates_20 ⟨Nat.le_of_ble_eq_true rfl, Nat.le_of_ble_eq_true rfl⟩ rfl (fun _ _ => rfl) (Nat.le_of_ble_eq_true rfl) ⟨Nat.le_of_ble_eq_true rfl, Nat.le_of_ble_eq_true rfl⟩ (fun v8 h7 => q_ob_is h7) (fun v8 h7 => m_X12_rateOf h7) (fun v8 h7 => ?_)
      refine q_iast dX12_findRates_23 (fun M9 h10 => ?_)
      refine q_iinc 2 (y := (a2 + (1 : Int32))) (ls' := [(2, .int (a2 + (1 : Int32))), (0, .ref a0), (1, .int a1)]) dX12_findRates_24 rfl rfl (by decide) rfl ?_
      refine q_goto (tgt := 2) dX12_findRates_27 (by decide) ?_
      refine q_sub (ls' := [(0, .ref a0), (1, .int a1), (2, .int (a2 + (1 : Int32)))]) [1, 2, 0] rfl ?_
      exact ih _ _
    · exact q_vret dX12_findRates_30 rfl rfl (Nat.le_of_ble_eq_true rfl) rfl
set_option maxRecDepth 20000 in
theorem m_X12_findRates {M : q_Mem} {a0 : Nat} {a1 : Int32} {x : q_Mem} (h : f_X12_findRates M a0 a1 = some x) : q_C Y_X12_findRates [.ref a0, .int a1] M none x := by
  refine q_met (φ := (fun x : q_Mem => (none, x))) (r := f_X12_findRates M a0 a1) (by decide +kernel) (Nat.le_of_ble_eq_true rfl) ?_ h (fun _ _ => rfl)
  show q_V Y_X12_findRates none (fun x : q_Mem => (none, x)) 0 0 0 [(0, .ref a0), (1, .int a1)] [] M (f_X12_findRates M a0 a1)
  unfold f_X12_findRates
  refine q_obV ?_
  refine q_iconst (x := (0 : Int32)) dX12_findRates_0 rfl ?_
  refine q_istore_n (ls' := [(2, .int (0 : Int32)), (0, .ref a0), (1, .int a1)]) dX12_findRates_1 (by decide) rfl ?_
  refine q_sub (ls' := [(0, .ref a0), (1, .int a1), (2, .int (0 : Int32))]) [1, 2, 0] rfl ?_
  exact v_X12_findRates_b2 _ _ _
theorem dX12_rate_0 : decode cX12_rate 0 = .ok (.aload_n 0, 1) := by decide +kernel
theorem dX12_rate_1 : decode cX12_rate 1 = .ok (.iconst 2, 1) := by decide +kernel
theorem dX12_rate_2 : decode cX12_rate 2 = .ok (.iload_n 1, 1) := by decide +kernel
theorem dX12_rate_3 : decode cX12_rate 3 = .ok (.invokevirtual 86, 3) := by decide +kernel
theorem dX12_rate_6 : decode cX12_rate 6 = .ok (.ifCond .eq 19, 3) := by decide +kernel
theorem dX12_rate_9 : decode cX12_rate 9 = .ok (.iload_n 2, 1) := by decide +kernel
theorem dX12_rate_10 : decode cX12_rate 10 = .ok (.invokestatic 90, 3) := by decide +kernel
theorem dX12_rate_13 : decode cX12_rate 13 = .ok (.ifCond .eq 12, 3) := by decide +kernel
theorem dX12_rate_16 : decode cX12_rate 16 = .ok (.aload_n 0, 1) := by decide +kernel
theorem dX12_rate_17 : decode cX12_rate 17 = .ok (.iload_n 1, 1) := by decide +kernel
theorem dX12_rate_18 : decode cX12_rate 18 = .ok (.iload_n 2, 1) := by decide +kernel
theorem dX12_rate_19 : decode cX12_rate 19 = .ok (.invokevirtual 107, 3) := by decide +kernel
theorem dX12_rate_22 : decode cX12_rate 22 = .ok (.goto 5, 3) := by decide +kernel
theorem dX12_rate_25 : decode cX12_rate 25 = .ok (.bipush (-2), 2) := by decide +kernel
theorem dX12_rate_27 : decode cX12_rate 27 = .ok (.ireturn, 1) := by decide +kernel
def f_X12_rate (M : q_Mem) (a0 : Nat) (a1 : Int32) (a2 : Int32) : Option Int32 :=
  q_ob 11 M a0 ((f_X12_is M a0 (2 : Int32) a1).bind fun v2 =>
  (if v2 = 0 then
    some (-2 : Int32)
  else
    (f_X12_isDay M a2).bind fun v4 =>
    (if v4 = 0 then
      some (-2 : Int32)
    else
      (f_X12_rateOf M a0 a1 a2).bind fun v6 =>
      some v6)))
set_option maxRecDepth 20000 in
theorem m_X12_rate {M : q_Mem} {a0 : Nat} {a1 : Int32} {a2 : Int32} {x : Int32} (h : f_X12_rate M a0 a1 a2 = some x) : q_C Y_X12_rate [.ref a0, .int a1, .int a2] M (some (.int x)) M := by
  refine q_met (φ := (fun x : Int32 => (some (.int x), M))) (r := f_X12_rate M a0 a1 a2) (by decide +kernel) (Nat.le_of_ble_eq_true rfl) ?_ h (fun _ _ => rfl)
  show q_V Y_X12_rate none (fun x : Int32 => (some (.int x), M)) 0 0 0 [(0, .ref a0), (1, .int a1), (2, .int a2)] [] M (f_X12_rate M a0 a1 a2)
  unfold f_X12_rate
  refine q_obV ?_
  refine q_aload_n 0 dX12_rate_0 rfl ?_
  refine q_iconst (x := (2 : Int32)) dX12_rate_1 rfl ?_
  refine q_iload_n 1 dX12_rate_2 rfl ?_
  refine q_cVI (Y2 := Y_X12_is) (As := [.int (2 : Int32), .int a1]) (b := a0) (st := []) cl_X12 mv_X12_is qw_1225 dX12_rate_3 ⟨Nat.le_of_ble_eq_true rfl, Nat.le_of_ble_eq_true rfl⟩ rfl (fun _ _ => rfl) (Nat.le_of_ble_eq_true rfl) ⟨Nat.le_of_ble_eq_true rfl, Nat.le_of_ble_eq_true rfl⟩ (fun v2 h1 => q_ob_is h1) (fun v2 h1 => m_X12_is h1) (fun v2 h1 => ?_)
  refine q_if_eq (tgt := 25) dX12_rate_6 (by decide) (fun c8 => ?_) (fun c8 => ?_)
  · refine q_bipush (x := (-2 : Int32)) dX12_rate_25 rfl ?_
    exact q_iret dX12_rate_27 rfl rfl (Nat.le_of_ble_eq_true rfl) rfl
  · refine q_iload_n 2 dX12_rate_9 rfl ?_
    refine q_cSI (Y2 := Y_X12_isDay) (As := [.int a2]) (st := []) ms_X12_isDay qw_1233 dX12_rate_10 ⟨Nat.le_of_ble_eq_true rfl, Nat.le_of_ble_eq_true rfl⟩ rfl (fun _ _ => rfl) (Nat.le_of_ble_eq_true rfl) ⟨Nat.le_of_ble_eq_true rfl, Nat.le_of_ble_eq_true rfl⟩ (fun v4 h3 => m_X12_isDay h3) (fun v4 h3 => ?_)
    refine q_if_eq (tgt := 25) dX12_rate_13 (by decide) (fun c7 => ?_) (fun c7 => ?_)
    · refine q_bipush (x := (-2 : Int32)) dX12_rate_25 rfl ?_
      exact q_iret dX12_rate_27 rfl rfl (Nat.le_of_ble_eq_true rfl) rfl
    · refine q_aload_n 0 dX12_rate_16 rfl ?_
      refine q_iload_n 1 dX12_rate_17 rfl ?_
      refine q_iload_n 2 dX12_rate_18 rfl ?_
      refine q_cVI (Y2 := Y_X12_rateOf) (As := [.int a1, .int a2]) (b := a0) (st := []) cl_X12 mv_X12_rateOf qw_1256 dX12_rate_19 ⟨Nat.le_of_ble_eq_true rfl, Nat.le_of_ble_eq_true rfl⟩ rfl (fun _ _ => rfl) (Nat.le_of_ble_eq_true rfl) ⟨Nat.le_of_ble_eq_true rfl, Nat.le_of_ble_eq_true rfl⟩ (fun v6 h5 => q_ob_is h5) (fun v6 h5 => m_X12_rateOf h5) (fun v6 h5 => ?_)
      refine q_goto (tgt := 27) dX12_rate_22 (by decide) ?_
      exact q_iret dX12_rate_27 rfl rfl (Nat.le_of_ble_eq_true rfl) rfl
theorem dX12_farmRate_0 : decode cX12_farmRate 0 = .ok (.iconst (-1), 1) := by decide +kernel
theorem dX12_farmRate_1 : decode cX12_farmRate 1 = .ok (.istore_n 3, 1) := by decide +kernel
theorem dX12_farmRate_2 : decode cX12_farmRate 2 = .ok (.iconst 0, 1) := by decide +kernel
theorem dX12_farmRate_3 : decode cX12_farmRate 3 = .ok (.istore 4, 2) := by decide +kernel
theorem dX12_farmRate_5 : decode cX12_farmRate 5 = .ok (.iconst 0, 1) := by decide +kernel
theorem dX12_farmRate_6 : decode cX12_farmRate 6 = .ok (.istore 5, 2) := by decide +kernel
theorem dX12_farmRate_8 : decode cX12_farmRate 8 = .ok (.iconst 0, 1) := by decide +kernel
theorem dX12_farmRate_9 : decode cX12_farmRate 9 = .ok (.istore 6, 2) := by decide +kernel
theorem dX12_farmRate_11 : decode cX12_farmRate 11 = .ok (.iload 6, 2) := by decide +kernel
theorem dX12_farmRate_13 : decode cX12_farmRate 13 = .ok (.aload_n 0, 1) := by decide +kernel
theorem dX12_farmRate_14 : decode cX12_farmRate 14 = .ok (.getfield 7, 3) := by decide +kernel
theorem dX12_farmRate_17 : decode cX12_farmRate 17 = .ok (.iconst 2, 1) := by decide +kernel
theorem dX12_farmRate_18 : decode cX12_farmRate 18 = .ok (.iaload, 1) := by decide +kernel
theorem dX12_farmRate_19 : decode cX12_farmRate 19 = .ok (.if_icmp .ge 122, 3) := by decide +kernel
theorem dX12_farmRate_22 : decode cX12_farmRate 22 = .ok (.aload_n 0, 1) := by decide +kernel
theorem dX12_farmRate_23 : decode cX12_farmRate 23 = .ok (.getfield 7, 3) := by decide +kernel
theorem dX12_farmRate_26 : decode cX12_farmRate 26 = .ok (.sipush 1300, 3) := by decide +kernel
theorem dX12_farmRate_29 : decode cX12_farmRate 29 = .ok (.bipush 7, 2) := by decide +kernel
theorem dX12_farmRate_31 : decode cX12_farmRate 31 = .ok (.iload 6, 2) := by decide +kernel
theorem dX12_farmRate_33 : decode cX12_farmRate 33 = .ok (.imul, 1) := by decide +kernel
theorem dX12_farmRate_34 : decode cX12_farmRate 34 = .ok (.iadd, 1) := by decide +kernel
theorem dX12_farmRate_35 : decode cX12_farmRate 35 = .ok (.iconst 1, 1) := by decide +kernel
theorem dX12_farmRate_36 : decode cX12_farmRate 36 = .ok (.iadd, 1) := by decide +kernel
theorem dX12_farmRate_37 : decode cX12_farmRate 37 = .ok (.iaload, 1) := by decide +kernel
theorem dX12_farmRate_38 : decode cX12_farmRate 38 = .ok (.aload_n 0, 1) := by decide +kernel
theorem dX12_farmRate_39 : decode cX12_farmRate 39 = .ok (.getfield 7, 3) := by decide +kernel
theorem dX12_farmRate_42 : decode cX12_farmRate 42 = .ok (.bipush 10, 2) := by decide +kernel
theorem dX12_farmRate_44 : decode cX12_farmRate 44 = .ok (.iaload, 1) := by decide +kernel
theorem dX12_farmRate_45 : decode cX12_farmRate 45 = .ok (.idiv, 1) := by decide +kernel
theorem dX12_farmRate_46 : decode cX12_farmRate 46 = .ok (.istore 7, 2) := by decide +kernel
theorem dX12_farmRate_48 : decode cX12_farmRate 48 = .ok (.aload_n 0, 1) := by decide +kernel
theorem dX12_farmRate_49 : decode cX12_farmRate 49 = .ok (.getfield 7, 3) := by decide +kernel
theorem dX12_farmRate_52 : decode cX12_farmRate 52 = .ok (.sipush 1300, 3) := by decide +kernel
theorem dX12_farmRate_55 : decode cX12_farmRate 55 = .ok (.bipush 7, 2) := by decide +kernel
theorem dX12_farmRate_57 : decode cX12_farmRate 57 = .ok (.iload 6, 2) := by decide +kernel
theorem dX12_farmRate_59 : decode cX12_farmRate 59 = .ok (.imul, 1) := by decide +kernel
theorem dX12_farmRate_60 : decode cX12_farmRate 60 = .ok (.iadd, 1) := by decide +kernel
theorem dX12_farmRate_61 : decode cX12_farmRate 61 = .ok (.iaload, 1) := by decide +kernel
theorem dX12_farmRate_62 : decode cX12_farmRate 62 = .ok (.iload_n 1, 1) := by decide +kernel
theorem dX12_farmRate_63 : decode cX12_farmRate 63 = .ok (.if_icmp .ne 72, 3) := by decide +kernel
theorem dX12_farmRate_66 : decode cX12_farmRate 66 = .ok (.aload_n 0, 1) := by decide +kernel
theorem dX12_farmRate_67 : decode cX12_farmRate 67 = .ok (.getfield 20, 3) := by decide +kernel
theorem dX12_farmRate_70 : decode cX12_farmRate 70 = .ok (.iload 6, 2) := by decide +kernel
theorem dX12_farmRate_72 : decode cX12_farmRate 72 = .ok (.iaload, 1) := by decide +kernel
theorem dX12_farmRate_73 : decode cX12_farmRate 73 = .ok (.iconst (-1), 1) := by decide +kernel
theorem dX12_farmRate_74 : decode cX12_farmRate 74 = .ok (.if_icmp .eq 61, 3) := by decide +kernel
theorem dX12_farmRate_77 : decode cX12_farmRate 77 = .ok (.iload 7, 2) := by decide +kernel
theorem dX12_farmRate_79 : decode cX12_farmRate 79 = .ok (.iload_n 2, 1) := by decide +kernel
theorem dX12_farmRate_80 : decode cX12_farmRate 80 = .ok (.if_icmp .gt 55, 3) := by decide +kernel
theorem dX12_farmRate_83 : decode cX12_farmRate 83 = .ok (.iload 7, 2) := by decide +kernel
theorem dX12_farmRate_85 : decode cX12_farmRate 85 = .ok (.iload_n 3, 1) := by decide +kernel
theorem dX12_farmRate_86 : decode cX12_farmRate 86 = .ok (.if_icmp .lt 49, 3) := by decide +kernel
theorem dX12_farmRate_89 : decode cX12_farmRate 89 = .ok (.iload 7, 2) := by decide +kernel
theorem dX12_farmRate_91 : decode cX12_farmRate 91 = .ok (.iload_n 3, 1) := by decide +kernel
theorem dX12_farmRate_92 : decode cX12_farmRate 92 = .ok (.if_icmp .le 7, 3) := by decide +kernel
theorem dX12_farmRate_95 : decode cX12_farmRate 95 = .ok (.iconst 0, 1) := by decide +kernel
theorem dX12_farmRate_96 : decode cX12_farmRate 96 = .ok (.goto 5, 3) := by decide +kernel
theorem dX12_farmRate_99 : decode cX12_farmRate 99 = .ok (.iload 4, 2) := by decide +kernel
theorem dX12_farmRate_101 : decode cX12_farmRate 101 = .ok (.istore 4, 2) := by decide +kernel
theorem dX12_farmRate_103 : decode cX12_farmRate 103 = .ok (.iload 7, 2) := by decide +kernel
theorem dX12_farmRate_105 : decode cX12_farmRate 105 = .ok (.iload_n 3, 1) := by decide +kernel
theorem dX12_farmRate_106 : decode cX12_farmRate 106 = .ok (.if_icmp .le 7, 3) := by decide +kernel
theorem dX12_farmRate_109 : decode cX12_farmRate 109 = .ok (.iconst 0, 1) := by decide +kernel
theorem dX12_farmRate_110 : decode cX12_farmRate 110 = .ok (.goto 5, 3) := by decide +kernel
theorem dX12_farmRate_113 : decode cX12_farmRate 113 = .ok (.iload 5, 2) := by decide +kernel
theorem dX12_farmRate_115 : decode cX12_farmRate 115 = .ok (.istore 5, 2) := by decide +kernel
theorem dX12_farmRate_117 : decode cX12_farmRate 117 = .ok (.iload 7, 2) := by decide +kernel
theorem dX12_farmRate_119 : decode cX12_farmRate 119 = .ok (.istore_n 3, 1) := by decide +kernel
theorem dX12_farmRate_120 : decode cX12_farmRate 120 = .ok (.iload 4, 2) := by decide +kernel
theorem dX12_farmRate_122 : decode cX12_farmRate 122 = .ok (.aload_n 0, 1) := by decide +kernel
theorem dX12_farmRate_123 : decode cX12_farmRate 123 = .ok (.getfield 20, 3) := by decide +kernel
theorem dX12_farmRate_126 : decode cX12_farmRate 126 = .ok (.iload 6, 2) := by decide +kernel
theorem dX12_farmRate_128 : decode cX12_farmRate 128 = .ok (.iaload, 1) := by decide +kernel
theorem dX12_farmRate_129 : decode cX12_farmRate 129 = .ok (.iadd, 1) := by decide +kernel
theorem dX12_farmRate_130 : decode cX12_farmRate 130 = .ok (.istore 4, 2) := by decide +kernel
theorem dX12_farmRate_132 : decode cX12_farmRate 132 = .ok (.iinc 5 1, 3) := by decide +kernel
theorem dX12_farmRate_135 : decode cX12_farmRate 135 = .ok (.iinc 6 1, 3) := by decide +kernel
theorem dX12_farmRate_138 : decode cX12_farmRate 138 = .ok (.goto (-127), 3) := by decide +kernel
theorem dX12_farmRate_141 : decode cX12_farmRate 141 = .ok (.iload 5, 2) := by decide +kernel
theorem dX12_farmRate_143 : decode cX12_farmRate 143 = .ok (.ifCond .ne 9, 3) := by decide +kernel
theorem dX12_farmRate_146 : decode cX12_farmRate 146 = .ok (.sipush 350, 3) := by decide +kernel
theorem dX12_farmRate_149 : decode cX12_farmRate 149 = .ok (.goto 8, 3) := by decide +kernel
theorem dX12_farmRate_152 : decode cX12_farmRate 152 = .ok (.iload 4, 2) := by decide +kernel
theorem dX12_farmRate_154 : decode cX12_farmRate 154 = .ok (.iload 5, 2) := by decide +kernel
theorem dX12_farmRate_156 : decode cX12_farmRate 156 = .ok (.idiv, 1) := by decide +kernel
theorem dX12_farmRate_157 : decode cX12_farmRate 157 = .ok (.ireturn, 1) := by decide +kernel
def f_X12_farmRate_b141 (M : q_Mem) (a4 : Int32) (a5 : Int32) : Option Int32 :=
  (if a5 = 0 then
    some (350 : Int32)
  else
    (q_dv a4 a5).bind fun v30 =>
    some v30)
def f_X12_farmRate_b115 (kk11 : Int32 → Int32 → Int32 → Int32 → Option Int32) (M : q_Mem) (a0 : Nat) (a1 : Int32) (a2 : Int32) (a4 : Int32) (a6 : Int32) (a7 : Int32) (s0 : Int32) : Option Int32 :=
  (q_gR 11 3 M a0).bind fun v33 =>
  (q_lI M v33 a6).bind fun v35 =>
  kk11 a7 (a4 + v35) (s0 + (1 : Int32)) (a6 + (1 : Int32))
def f_X12_farmRate_b101 (kk11 : Int32 → Int32 → Int32 → Int32 → Option Int32) (M : q_Mem) (a0 : Nat) (a1 : Int32) (a2 : Int32) (a3 : Int32) (a5 : Int32) (a6 : Int32) (a7 : Int32) (s0 : Int32) : Option Int32 :=
  (if a3 < a7 then
    f_X12_farmRate_b115 kk11 M a0 a1 a2 s0 a6 a7 (0 : Int32)
  else
    f_X12_farmRate_b115 kk11 M a0 a1 a2 s0 a6 a7 a5)
def f_X12_farmRate_b11 (M : q_Mem) (a0 : Nat) (a1 : Int32) (a2 : Int32) : Nat → Int32 → Int32 → Int32 → Int32 → Option Int32
  | 0, _, _, _, _ => none
  | n + 1, a3, a4, a5, a6 =>
    (q_gR 11 0 M a0).bind fun v1 =>
    (q_lI M v1 (2 : Int32)).bind fun v3 =>
    (if a6 < v3 then
      (q_gR 11 0 M a0).bind fun v5 =>
      (q_lI M v5 (((1300 : Int32) + ((7 : Int32) * a6)) + (1 : Int32))).bind fun v7 =>
      (q_gR 11 0 M a0).bind fun v9 =>
      (q_lI M v9 (10 : Int32)).bind fun v11 =>
      (q_dv v7 v11).bind fun v13 =>
      (q_gR 11 0 M a0).bind fun v15 =>
      (q_lI M v15 ((1300 : Int32) + ((7 : Int32) * a6))).bind fun v17 =>
      (if v17 = a1 then
        (q_gR 11 3 M a0).bind fun v19 =>
        (q_lI M v19 a6).bind fun v21 =>
        (if v21 = (-1 : Int32) then
          f_X12_farmRate_b11 M a0 a1 a2 n a3 a4 a5 (a6 + (1 : Int32))
        else
          (if a2 < v13 then
            f_X12_farmRate_b11 M a0 a1 a2 n a3 a4 a5 (a6 + (1 : Int32))
          else
            (if v13 < a3 then
              f_X12_farmRate_b11 M a0 a1 a2 n a3 a4 a5 (a6 + (1 : Int32))
            else
              (if a3 < v13 then
                f_X12_farmRate_b101 (f_X12_farmRate_b11 M a0 a1 a2 n) M a0 a1 a2 a3 a5 a6 v13 (0 : Int32)
              else
                f_X12_farmRate_b101 (f_X12_farmRate_b11 M a0 a1 a2 n) M a0 a1 a2 a3 a5 a6 v13 a4))))
      else
        f_X12_farmRate_b11 M a0 a1 a2 n a3 a4 a5 (a6 + (1 : Int32)))
    else
      f_X12_farmRate_b141 M a4 a5)
def f_X12_farmRate (M : q_Mem) (a0 : Nat) (a1 : Int32) (a2 : Int32) : Option Int32 :=
  q_ob 11 M a0 (f_X12_farmRate_b11 M a0 a1 a2 q_fuel (-1 : Int32) (0 : Int32) (0 : Int32) (0 : Int32))
set_option maxRecDepth 20000 in
theorem v_X12_farmRate_b141 {M : q_Mem} {a4 : Int32} {a5 : Int32}  : q_V Y_X12_farmRate none (fun x : Int32 => (some (.int x), M)) 0 0 141 [(4, .int a4), (5, .int a5)] [] M (f_X12_farmRate_b141 M a4 a5 ) := by
  unfold f_X12_farmRate_b141
  refine q_iload 1 dX12_farmRate_141 rfl ?_
  refine q_if_ne (tgt := 152) dX12_farmRate_143 (by decide) (fun c32 => ?_) (fun c32 => ?_)
  · refine q_sipush (x := (350 : Int32)) dX12_farmRate_146 rfl ?_
    refine q_goto (tgt := 157) dX12_farmRate_149 (by decide) ?_
    exact q_iret dX12_farmRate_157 rfl rfl (Nat.le_of_ble_eq_true rfl) rfl
  · refine q_iload 0 dX12_farmRate_152 rfl ?_
    refine q_iload 1 dX12_farmRate_154 rfl ?_
    refine q_idiv dX12_farmRate_156 (fun v30 h31 => ?_)
    exact q_iret dX12_farmRate_157 rfl rfl (Nat.le_of_ble_eq_true rfl) rfl
set_option maxRecDepth 20000 in
theorem v_X12_farmRate_b115 {kk11 : Int32 → Int32 → Int32 → Int32 → Option Int32} {M : q_Mem} {a0 : Nat} {a1 : Int32} {a2 : Int32} {a4 : Int32} {a6 : Int32} {a7 : Int32} {s0 : Int32}  (hk11 : ∀ (a3 : Int32) (a4 : Int32) (a5 : Int32) (a6 : Int32), q_V Y_X12_farmRate none (fun x : Int32 => (some (.int x), M)) 0 0 11 [(0, .ref a0), (1, .int a1), (2, .int a2), (3, .int a3), (4, .int a4), (5, .int a5), (6, .int a6)] [] M (kk11 a3 a4 a5 a6)): q_V Y_X12_farmRate none (fun x : Int32 => (some (.int x), M)) 0 0 115 [(0, .ref a0), (1, .int a1), (2, .int a2), (4, .int a4), (6, .int a6), (7, .int a7)] [.int s0] M (f_X12_farmRate_b115 kk11 M a0 a1 a2 a4 a6 a7 s0) := by
  unfold f_X12_farmRate_b115
  refine q_istore (ls' := [(5, .int s0), (0, .ref a0), (1, .int a1), (2, .int a2), (4, .int a4), (6, .int a6), (7, .int a7)]) dX12_farmRate_115 (by decide) rfl ?_
  refine q_iload 6 dX12_farmRate_117 rfl ?_
  refine q_istore_n (ls' := [(3, .int a7), (5, .int s0), (0, .ref a0), (1, .int a1), (2, .int a2), (4, .int a4), (6, .int a6), (7, .int a7)]) dX12_farmRate_119 (by decide) rfl ?_
  refine q_iload 5 dX12_farmRate_120 rfl ?_
  refine q_aload_n 2 dX12_farmRate_122 rfl ?_
  refine q_getR (f := 3) cl_X12 (by decide) qw_1120 rfl dX12_farmRate_123 (fun _ _ _ => rfl) (fun v33 h34 => ?_)
  refine q_iload 6 dX12_farmRate_126 rfl ?_
  refine q_iald dX12_farmRate_128 (fun v35 h36 => ?_)
  refine q_iadd dX12_farmRate_129 ?_
  refine q_istore (ls' := [(4, .int (a4 + v35)), (3, .int a7), (5, .int s0), (0, .ref a0), (1, .int a1), (2, .int a2), (6, .int a6), (7, .int a7)]) dX12_farmRate_130 (by decide) rfl ?_
  refine q_iinc 2 (y := (s0 + (1 : Int32))) (ls' := [(5, .int (s0 + (1 : Int32))), (4, .int (a4 + v35)), (3, .int a7), (0, .ref a0), (1, .int a1), (2, .int a2), (6, .int a6), (7, .int a7)]) dX12_farmRate_132 rfl rfl (by decide) rfl ?_
  refine q_iinc 6 (y := (a6 + (1 : Int32))) (ls' := [(6, .int (a6 + (1 : Int32))), (5, .int (s0 + (1 : Int32))), (4, .int (a4 + v35)), (3, .int a7), (0, .ref a0), (1, .int a1), (2, .int a2), (7, .int a7)]) dX12_farmRate_135 rfl rfl (by decide) rfl ?_
  refine q_goto (tgt := 11) dX12_farmRate_138 (by decide) ?_
  refine q_sub (ls' := [(0, .ref a0), (1, .int a1), (2, .int a2), (3, .int a7), (4, .int (a4 + v35)), (5, .int (s0 + (1 : Int32))), (6, .int (a6 + (1 : Int32)))]) [4, 5, 6, 3, 2, 1, 0] rfl ?_
  exact hk11 _ _ _ _
set_option maxRecDepth 20000 in
theorem v_X12_farmRate_b101 {kk11 : Int32 → Int32 → Int32 → Int32 → Option Int32} {M : q_Mem} {a0 : Nat} {a1 : Int32} {a2 : Int32} {a3 : Int32} {a5 : Int32} {a6 : Int32} {a7 : Int32} {s0 : Int32}  (hk11 : ∀ (a3 : Int32) (a4 : Int32) (a5 : Int32) (a6 : Int32), q_V Y_X12_farmRate none (fun x : Int32 => (some (.int x), M)) 0 0 11 [(0, .ref a0), (1, .int a1), (2, .int a2), (3, .int a3), (4, .int a4), (5, .int a5), (6, .int a6)] [] M (kk11 a3 a4 a5 a6)): q_V Y_X12_farmRate none (fun x : Int32 => (some (.int x), M)) 0 0 101 [(0, .ref a0), (1, .int a1), (2, .int a2), (3, .int a3), (5, .int a5), (6, .int a6), (7, .int a7)] [.int s0] M (f_X12_farmRate_b101 kk11 M a0 a1 a2 a3 a5 a6 a7 s0) := by
  unfold f_X12_farmRate_b101
  refine q_istore (ls' := [(4, .int s0), (0, .ref a0), (1, .int a1), (2, .int a2), (3, .int a3), (5, .int a5), (6, .int a6), (7, .int a7)]) dX12_farmRate_101 (by decide) rfl ?_
  refine q_iload 7 dX12_farmRate_103 rfl ?_
  refine q_iload_n 4 dX12_farmRate_105 rfl ?_
  refine q_icmp_le (tgt := 113) dX12_farmRate_106 (by decide) (fun c29 => ?_) (fun c29 => ?_)
  · refine q_iconst (x := (0 : Int32)) dX12_farmRate_109 rfl ?_
    refine q_goto (tgt := 115) dX12_farmRate_110 (by decide) ?_
    refine q_sub (ls' := [(0, .ref a0), (1, .int a1), (2, .int a2), (4, .int s0), (6, .int a6), (7, .int a7)]) [1, 2, 3, 0, 6, 7] rfl ?_
    exact v_X12_farmRate_b115 (hk11)
  · refine q_iload 5 dX12_farmRate_113 rfl ?_
    refine q_sub (ls' := [(0, .ref a0), (1, .int a1), (2, .int a2), (4, .int s0), (6, .int a6), (7, .int a7)]) [1, 2, 3, 0, 6, 7] rfl ?_
    exact v_X12_farmRate_b115 (hk11)
set_option maxRecDepth 20000 in
theorem v_X12_farmRate_b11 {M : q_Mem} {a0 : Nat} {a1 : Int32} {a2 : Int32}  : ∀ (n : Nat) (a3 : Int32) (a4 : Int32) (a5 : Int32) (a6 : Int32), q_V Y_X12_farmRate none (fun x : Int32 => (some (.int x), M)) 0 0 11 [(0, .ref a0), (1, .int a1), (2, .int a2), (3, .int a3), (4, .int a4), (5, .int a5), (6, .int a6)] [] M (f_X12_farmRate_b11 M a0 a1 a2 n a3 a4 a5 a6) := by
  intro n
  induction n with
  | zero => intro a3 a4 a5 a6; exact q_none
  | succ n ih =>
    intro a3 a4 a5 a6
    rw [f_X12_farmRate_b11.eq_2]
    refine q_iload 6 dX12_farmRate_11 rfl ?_
    refine q_aload_n 0 dX12_farmRate_13 rfl ?_
    refine q_getR (f := 0) cl_X12 (by decide) qw_1117 rfl dX12_farmRate_14 (fun _ _ _ => rfl) (fun v1 h2 => ?_)
    refine q_iconst (x := (2 : Int32)) dX12_farmRate_17 rfl ?_
    refine q_iald dX12_farmRate_18 (fun v3 h4 => ?_)
    refine q_icmp_ge (tgt := 141) dX12_farmRate_19 (by decide) (fun c28 => ?_) (fun c28 => ?_)
    · refine q_aload_n 0 dX12_farmRate_22 rfl ?_
      refine q_getR (f := 0) cl_X12 (by decide) qw_1117 rfl dX12_farmRate_23 (fun _ _ _ => rfl) (fun v5 h6 => ?_)
      refine q_sipush (x := (1300 : Int32)) dX12_farmRate_26 rfl ?_
      refine q_bipush (x := (7 : Int32)) dX12_farmRate_29 rfl ?_
      refine q_iload 6 dX12_farmRate_31 rfl ?_
      refine q_imul dX12_farmRate_33 ?_
      refine q_iadd dX12_farmRate_34 ?_
      refine q_iconst (x := (1 : Int32)) dX12_farmRate_35 rfl ?_
      refine q_iadd dX12_farmRate_36 ?_
      refine q_iald dX12_farmRate_37 (fun v7 h8 => ?_)
      refine q_aload_n 0 dX12_farmRate_38 rfl ?_
      refine q_getR (f := 0) cl_X12 (by decide) qw_1117 rfl dX12_farmRate_39 (fun _ _ _ => rfl) (fun v9 h10 => ?_)
      refine q_bipush (x := (10 : Int32)) dX12_farmRate_42 rfl ?_
      refine q_iald dX12_farmRate_44 (fun v11 h12 => ?_)
      refine q_idiv dX12_farmRate_45 (fun v13 h14 => ?_)
      refine q_istore (ls' := [(7, .int v13), (0, .ref a0), (1, .int a1), (2, .int a2), (3, .int a3), (4, .int a4), (5, .int a5), (6, .int a6)]) dX12_farmRate_46 (by decide) rfl ?_
      refine q_aload_n 1 dX12_farmRate_48 rfl ?_
      refine q_getR (f := 0) cl_X12 (by decide) qw_1117 rfl dX12_farmRate_49 (fun _ _ _ => rfl) (fun v15 h16 => ?_)
      refine q_sipush (x := (1300 : Int32)) dX12_farmRate_52 rfl ?_
      refine q_bipush (x := (7 : Int32)) dX12_farmRate_55 rfl ?_
      refine q_iload 7 dX12_farmRate_57 rfl ?_
      refine q_imul dX12_farmRate_59 ?_
      refine q_iadd dX12_farmRate_60 ?_
      refine q_iald dX12_farmRate_61 (fun v17 h18 => ?_)
      refine q_iload_n 2 dX12_farmRate_62 rfl ?_
      refine q_icmp_ne (tgt := 135) dX12_farmRate_63 (by decide) (fun c27 => ?_) (fun c27 => ?_)
      · refine q_aload_n 1 dX12_farmRate_66 rfl ?_
        refine q_getR (f := 3) cl_X12 (by decide) qw_1120 rfl dX12_farmRate_67 (fun _ _ _ => rfl) (fun v19 h20 => ?_)
        refine q_iload 7 dX12_farmRate_70 rfl ?_
        refine q_iald dX12_farmRate_72 (fun v21 h22 => ?_)
        refine q_iconst (x := (-1 : Int32)) dX12_farmRate_73 rfl ?_
        refine q_icmp_eq (tgt := 135) dX12_farmRate_74 (by decide) (fun c26 => ?_) (fun c26 => ?_)
        · refine q_iinc 7 (y := (a6 + (1 : Int32))) (ls' := [(6, .int (a6 + (1 : Int32))), (7, .int v13), (0, .ref a0), (1, .int a1), (2, .int a2), (3, .int a3), (4, .int a4), (5, .int a5)]) dX12_farmRate_135 rfl rfl (by decide) rfl ?_
          refine q_goto (tgt := 11) dX12_farmRate_138 (by decide) ?_
          refine q_sub (ls' := [(0, .ref a0), (1, .int a1), (2, .int a2), (3, .int a3), (4, .int a4), (5, .int a5), (6, .int (a6 + (1 : Int32)))]) [2, 3, 4, 5, 6, 7, 0] rfl ?_
          exact ih _ _ _ _
        · refine q_iload 0 dX12_farmRate_77 rfl ?_
          refine q_iload_n 3 dX12_farmRate_79 rfl ?_
          refine q_icmp_gt (tgt := 135) dX12_farmRate_80 (by decide) (fun c25 => ?_) (fun c25 => ?_)
          · refine q_iinc 7 (y := (a6 + (1 : Int32))) (ls' := [(6, .int (a6 + (1 : Int32))), (7, .int v13), (0, .ref a0), (1, .int a1), (2, .int a2), (3, .int a3), (4, .int a4), (5, .int a5)]) dX12_farmRate_135 rfl rfl (by decide) rfl ?_
            refine q_goto (tgt := 11) dX12_farmRate_138 (by decide) ?_
            refine q_sub (ls' := [(0, .ref a0), (1, .int a1), (2, .int a2), (3, .int a3), (4, .int a4), (5, .int a5), (6, .int (a6 + (1 : Int32)))]) [2, 3, 4, 5, 6, 7, 0] rfl ?_
            exact ih _ _ _ _
          · refine q_iload 0 dX12_farmRate_83 rfl ?_
            refine q_iload_n 4 dX12_farmRate_85 rfl ?_
            refine q_icmp_lt (tgt := 135) dX12_farmRate_86 (by decide) (fun c24 => ?_) (fun c24 => ?_)
            · refine q_iinc 7 (y := (a6 + (1 : Int32))) (ls' := [(6, .int (a6 + (1 : Int32))), (7, .int v13), (0, .ref a0), (1, .int a1), (2, .int a2), (3, .int a3), (4, .int a4), (5, .int a5)]) dX12_farmRate_135 rfl rfl (by decide) rfl ?_
              refine q_goto (tgt := 11) dX12_farmRate_138 (by decide) ?_
              refine q_sub (ls' := [(0, .ref a0), (1, .int a1), (2, .int a2), (3, .int a3), (4, .int a4), (5, .int a5), (6, .int (a6 + (1 : Int32)))]) [2, 3, 4, 5, 6, 7, 0] rfl ?_
              exact ih _ _ _ _
            · refine q_iload 0 dX12_farmRate_89 rfl ?_
              refine q_iload_n 4 dX12_farmRate_91 rfl ?_
              refine q_icmp_le (tgt := 99) dX12_farmRate_92 (by decide) (fun c23 => ?_) (fun c23 => ?_)
              · refine q_iconst (x := (0 : Int32)) dX12_farmRate_95 rfl ?_
                refine q_goto (tgt := 101) dX12_farmRate_96 (by decide) ?_
                refine q_sub (ls' := [(0, .ref a0), (1, .int a1), (2, .int a2), (3, .int a3), (5, .int a5), (6, .int a6), (7, .int v13)]) [1, 2, 3, 4, 6, 7, 0] rfl ?_
                exact v_X12_farmRate_b101 (ih)
              · refine q_iload 5 dX12_farmRate_99 rfl ?_
                refine q_sub (ls' := [(0, .ref a0), (1, .int a1), (2, .int a2), (3, .int a3), (5, .int a5), (6, .int a6), (7, .int v13)]) [1, 2, 3, 4, 6, 7, 0] rfl ?_
                exact v_X12_farmRate_b101 (ih)
      · refine q_iinc 7 (y := (a6 + (1 : Int32))) (ls' := [(6, .int (a6 + (1 : Int32))), (7, .int v13), (0, .ref a0), (1, .int a1), (2, .int a2), (3, .int a3), (4, .int a4), (5, .int a5)]) dX12_farmRate_135 rfl rfl (by decide) rfl ?_
        refine q_goto (tgt := 11) dX12_farmRate_138 (by decide) ?_
        refine q_sub (ls' := [(0, .ref a0), (1, .int a1), (2, .int a2), (3, .int a3), (4, .int a4), (5, .int a5), (6, .int (a6 + (1 : Int32)))]) [2, 3, 4, 5, 6, 7, 0] rfl ?_
        exact ih _ _ _ _
    · refine q_sub (ls' := [(4, .int a4), (5, .int a5)]) [4, 5] rfl ?_
      exact v_X12_farmRate_b141
set_option maxRecDepth 20000 in
theorem m_X12_farmRate {M : q_Mem} {a0 : Nat} {a1 : Int32} {a2 : Int32} {x : Int32} (h : f_X12_farmRate M a0 a1 a2 = some x) : q_C Y_X12_farmRate [.ref a0, .int a1, .int a2] M (some (.int x)) M := by
  refine q_met (φ := (fun x : Int32 => (some (.int x), M))) (r := f_X12_farmRate M a0 a1 a2) (by decide +kernel) (Nat.le_of_ble_eq_true rfl) ?_ h (fun _ _ => rfl)
  show q_V Y_X12_farmRate none (fun x : Int32 => (some (.int x), M)) 0 0 0 [(0, .ref a0), (1, .int a1), (2, .int a2)] [] M (f_X12_farmRate M a0 a1 a2)
  unfold f_X12_farmRate
  refine q_obV ?_
  refine q_iconst (x := (-1 : Int32)) dX12_farmRate_0 rfl ?_
  refine q_istore_n (ls' := [(3, .int (-1 : Int32)), (0, .ref a0), (1, .int a1), (2, .int a2)]) dX12_farmRate_1 (by decide) rfl ?_
  refine q_iconst (x := (0 : Int32)) dX12_farmRate_2 rfl ?_
  refine q_istore (ls' := [(4, .int (0 : Int32)), (3, .int (-1 : Int32)), (0, .ref a0), (1, .int a1), (2, .int a2)]) dX12_farmRate_3 (by decide) rfl ?_
  refine q_iconst (x := (0 : Int32)) dX12_farmRate_5 rfl ?_
  refine q_istore (ls' := [(5, .int (0 : Int32)), (4, .int (0 : Int32)), (3, .int (-1 : Int32)), (0, .ref a0), (1, .int a1), (2, .int a2)]) dX12_farmRate_6 (by decide) rfl ?_
  refine q_iconst (x := (0 : Int32)) dX12_farmRate_8 rfl ?_
  refine q_istore (ls' := [(6, .int (0 : Int32)), (5, .int (0 : Int32)), (4, .int (0 : Int32)), (3, .int (-1 : Int32)), (0, .ref a0), (1, .int a1), (2, .int a2)]) dX12_farmRate_9 (by decide) rfl ?_
  refine q_sub (ls' := [(0, .ref a0), (1, .int a1), (2, .int a2), (3, .int (-1 : Int32)), (4, .int (0 : Int32)), (5, .int (0 : Int32)), (6, .int (0 : Int32))]) [4, 5, 6, 3, 2, 1, 0] rfl ?_
  exact v_X12_farmRate_b11 _ _ _ _ _
theorem dX12_rateOfCan_0 : decode cX12_rateOfCan 0 = .ok (.bipush 100, 2) := by decide +kernel
theorem dX12_rateOfCan_2 : decode cX12_rateOfCan 2 = .ok (.iconst 4, 1) := by decide +kernel
theorem dX12_rateOfCan_3 : decode cX12_rateOfCan 3 = .ok (.iload_n 1, 1) := by decide +kernel
theorem dX12_rateOfCan_4 : decode cX12_rateOfCan 4 = .ok (.imul, 1) := by decide +kernel
theorem dX12_rateOfCan_5 : decode cX12_rateOfCan 5 = .ok (.iadd, 1) := by decide +kernel
theorem dX12_rateOfCan_6 : decode cX12_rateOfCan 6 = .ok (.istore_n 2, 1) := by decide +kernel
theorem dX12_rateOfCan_7 : decode cX12_rateOfCan 7 = .ok (.aload_n 0, 1) := by decide +kernel
theorem dX12_rateOfCan_8 : decode cX12_rateOfCan 8 = .ok (.aload_n 0, 1) := by decide +kernel
theorem dX12_rateOfCan_9 : decode cX12_rateOfCan 9 = .ok (.getfield 7, 3) := by decide +kernel
theorem dX12_rateOfCan_12 : decode cX12_rateOfCan 12 = .ok (.iload_n 2, 1) := by decide +kernel
theorem dX12_rateOfCan_13 : decode cX12_rateOfCan 13 = .ok (.iaload, 1) := by decide +kernel
theorem dX12_rateOfCan_14 : decode cX12_rateOfCan 14 = .ok (.aload_n 0, 1) := by decide +kernel
theorem dX12_rateOfCan_15 : decode cX12_rateOfCan 15 = .ok (.getfield 7, 3) := by decide +kernel
theorem dX12_rateOfCan_18 : decode cX12_rateOfCan 18 = .ok (.iload_n 2, 1) := by decide +kernel
theorem dX12_rateOfCan_19 : decode cX12_rateOfCan 19 = .ok (.iconst 1, 1) := by decide +kernel
theorem dX12_rateOfCan_20 : decode cX12_rateOfCan 20 = .ok (.iadd, 1) := by decide +kernel
theorem dX12_rateOfCan_21 : decode cX12_rateOfCan 21 = .ok (.iaload, 1) := by decide +kernel
theorem dX12_rateOfCan_22 : decode cX12_rateOfCan 22 = .ok (.aload_n 0, 1) := by decide +kernel
theorem dX12_rateOfCan_23 : decode cX12_rateOfCan 23 = .ok (.getfield 7, 3) := by decide +kernel
theorem dX12_rateOfCan_26 : decode cX12_rateOfCan 26 = .ok (.bipush 10, 2) := by decide +kernel
theorem dX12_rateOfCan_28 : decode cX12_rateOfCan 28 = .ok (.iaload, 1) := by decide +kernel
theorem dX12_rateOfCan_29 : decode cX12_rateOfCan 29 = .ok (.idiv, 1) := by decide +kernel
theorem dX12_rateOfCan_30 : decode cX12_rateOfCan 30 = .ok (.invokevirtual 110, 3) := by decide +kernel
theorem dX12_rateOfCan_33 : decode cX12_rateOfCan 33 = .ok (.ireturn, 1) := by decide +kernel
def f_X12_rateOfCan (M : q_Mem) (a0 : Nat) (a1 : Int32) : Option Int32 :=
  q_ob 11 M a0 ((q_gR 11 0 M a0).bind fun v1 =>
  (q_lI M v1 ((100 : Int32) + ((4 : Int32) * a1))).bind fun v3 =>
  (q_gR 11 0 M a0).bind fun v5 =>
  (q_lI M v5 (((100 : Int32) + ((4 : Int32) * a1)) + (1 : Int32))).bind fun v7 =>
  (q_gR 11 0 M a0).bind fun v9 =>
  (q_lI M v9 (10 : Int32)).bind fun v11 =>
  (q_dv v7 v11).bind fun v13 =>
  (f_X12_farmRate M a0 v3 v13).bind fun v16 =>
  some v16)
set_option maxRecDepth 20000 in
theorem m_X12_rateOfCan {M : q_Mem} {a0 : Nat} {a1 : Int32} {x : Int32} (h : f_X12_rateOfCan M a0 a1 = some x) : q_C Y_X12_rateOfCan [.ref a0, .int a1] M (some (.int x)) M := by
  refine q_met (φ := (fun x : Int32 => (some (.int x), M))) (r := f_X12_rateOfCan M a0 a1) (by decide +kernel) (Nat.le_of_ble_eq_true rfl) ?_ h (fun _ _ => rfl)
  show q_V Y_X12_rateOfCan none (fun x : Int32 => (some (.int x), M)) 0 0 0 [(0, .ref a0), (1, .int a1)] [] M (f_X12_rateOfCan M a0 a1)
  unfold f_X12_rateOfCan
  refine q_obV ?_
  refine q_bipush (x := (100 : Int32)) dX12_rateOfCan_0 rfl ?_
  refine q_iconst (x := (4 : Int32)) dX12_rateOfCan_2 rfl ?_
  refine q_iload_n 1 dX12_rateOfCan_3 rfl ?_
  refine q_imul dX12_rateOfCan_4 ?_
  refine q_iadd dX12_rateOfCan_5 ?_
  refine q_istore_n (ls' := [(2, .int ((100 : Int32) + ((4 : Int32) * a1))), (0, .ref a0), (1, .int a1)]) dX12_rateOfCan_6 (by decide) rfl ?_
  refine q_aload_n 1 dX12_rateOfCan_7 rfl ?_
  refine q_aload_n 1 dX12_rateOfCan_8 rfl ?_
  refine q_getR (f := 0) cl_X12 (by decide) qw_1117 rfl dX12_rateOfCan_9 (fun _ _ _ => rfl) (fun v1 h2 => ?_)
  refine q_iload_n 0 dX12_rateOfCan_12 rfl ?_
  refine q_iald dX12_rateOfCan_13 (fun v3 h4 => ?_)
  refine q_aload_n 1 dX12_rateOfCan_14 rfl ?_
  refine q_getR (f := 0) cl_X12 (by decide) qw_1117 rfl dX12_rateOfCan_15 (fun _ _ _ => rfl) (fun v5 h6 => ?_)
  refine q_iload_n 0 dX12_rateOfCan_18 rfl ?_
  refine q_iconst (x := (1 : Int32)) dX12_rateOfCan_19 rfl ?_
  refine q_iadd dX12_rateOfCan_20 ?_
  refine q_iald dX12_rateOfCan_21 (fun v7 h8 => ?_)
  refine q_aload_n 1 dX12_rateOfCan_22 rfl ?_
  refine q_getR (f := 0) cl_X12 (by decide) qw_1117 rfl dX12_rateOfCan_23 (fun _ _ _ => rfl) (fun v9 h10 => ?_)
  refine q_bipush (x := (10 : Int32)) dX12_rateOfCan_26 rfl ?_
  refine q_iald dX12_rateOfCan_28 (fun v11 h12 => ?_)
  refine q_idiv dX12_rateOfCan_29 (fun v13 h14 => ?_)
  refine q_cVI (Y2 := Y_X12_farmRate) (As := [.int v3, .int v13]) (b := a0) (st := []) cl_X12 mv_X12_farmRate qw_1288 dX12_rateOfCan_30 ⟨Nat.le_of_ble_eq_true rfl, Nat.le_of_ble_eq_true rfl⟩ rfl (fun _ _ => rfl) (Nat.le_of_ble_eq_true rfl) ⟨Nat.le_of_ble_eq_true rfl, Nat.le_of_ble_eq_true rfl⟩ (fun v16 h15 => q_ob_is h15) (fun v16 h15 => m_X12_farmRate h15) (fun v16 h15 => ?_)
  exact q_iret dX12_rateOfCan_33 rfl rfl (Nat.le_of_ble_eq_true rfl) rfl
theorem dX12_canRate_0 : decode cX12_canRate 0 = .ok (.aload_n 0, 1) := by decide +kernel
theorem dX12_canRate_1 : decode cX12_canRate 1 = .ok (.iconst 1, 1) := by decide +kernel
theorem dX12_canRate_2 : decode cX12_canRate 2 = .ok (.iload_n 1, 1) := by decide +kernel
theorem dX12_canRate_3 : decode cX12_canRate 3 = .ok (.invokevirtual 86, 3) := by decide +kernel
theorem dX12_canRate_6 : decode cX12_canRate 6 = .ok (.ifCond .eq 10, 3) := by decide +kernel
theorem dX12_canRate_9 : decode cX12_canRate 9 = .ok (.iload_n 2, 1) := by decide +kernel
theorem dX12_canRate_10 : decode cX12_canRate 10 = .ok (.invokestatic 90, 3) := by decide +kernel
theorem dX12_canRate_13 : decode cX12_canRate 13 = .ok (.ifCond .ne 6, 3) := by decide +kernel
theorem dX12_canRate_16 : decode cX12_canRate 16 = .ok (.bipush (-2), 2) := by decide +kernel
theorem dX12_canRate_18 : decode cX12_canRate 18 = .ok (.ireturn, 1) := by decide +kernel
theorem dX12_canRate_19 : decode cX12_canRate 19 = .ok (.aload_n 0, 1) := by decide +kernel
theorem dX12_canRate_20 : decode cX12_canRate 20 = .ok (.iload_n 2, 1) := by decide +kernel
theorem dX12_canRate_21 : decode cX12_canRate 21 = .ok (.invokevirtual 113, 3) := by decide +kernel
theorem dX12_canRate_24 : decode cX12_canRate 24 = .ok (.aload_n 0, 1) := by decide +kernel
theorem dX12_canRate_25 : decode cX12_canRate 25 = .ok (.iload_n 1, 1) := by decide +kernel
theorem dX12_canRate_26 : decode cX12_canRate 26 = .ok (.invokevirtual 117, 3) := by decide +kernel
theorem dX12_canRate_29 : decode cX12_canRate 29 = .ok (.ireturn, 1) := by decide +kernel
def f_X12_canRate (M : q_Mem) (a0 : Nat) (a1 : Int32) (a2 : Int32) : Option (Int32 × q_Mem) :=
  q_ob 11 M a0 ((f_X12_is M a0 (1 : Int32) a1).bind fun v2 =>
  (if v2 = 0 then
    some ((-2 : Int32), M)
  else
    (f_X12_isDay M a2).bind fun v4 =>
    (if v4 = 0 then
      some ((-2 : Int32), M)
    else
      (f_X12_findRates M a0 a2).bind fun M7 =>
      (f_X12_rateOfCan M7 a0 a1).bind fun v9 =>
      some (v9, M7))))
set_option maxRecDepth 20000 in
theorem m_X12_canRate {M : q_Mem} {a0 : Nat} {a1 : Int32} {a2 : Int32} {x : (Int32 × q_Mem)} (h : f_X12_canRate M a0 a1 a2 = some x) : q_C Y_X12_canRate [.ref a0, .int a1, .int a2] M (some (.int x.1)) x.2 := by
  refine q_met (φ := (fun x : Int32 × q_Mem => (some (.int x.1), x.2))) (r := f_X12_canRate M a0 a1 a2) (by decide +kernel) (Nat.le_of_ble_eq_true rfl) ?_ h (fun _ _ => rfl)
  show q_V Y_X12_canRate none (fun x : Int32 × q_Mem => (some (.int x.1), x.2)) 0 0 0 [(0, .ref a0), (1, .int a1), (2, .int a2)] [] M (f_X12_canRate M a0 a1 a2)
  unfold f_X12_canRate
  refine q_obV ?_
  refine q_aload_n 0 dX12_canRate_0 rfl ?_
  refine q_iconst (x := (1 : Int32)) dX12_canRate_1 rfl ?_
  refine q_iload_n 1 dX12_canRate_2 rfl ?_
  refine q_cVI (Y2 := Y_X12_is) (As := [.int (1 : Int32), .int a1]) (b := a0) (st := []) cl_X12 mv_X12_is qw_1225 dX12_canRate_3 ⟨Nat.le_of_ble_eq_true rfl, Nat.le_of_ble_eq_true rfl⟩ rfl (fun _ _ => rfl) (Nat.le_of_ble_eq_true rfl) ⟨Nat.le_of_ble_eq_true rfl, Nat.le_of_ble_eq_true rfl⟩ (fun v2 h1 => q_ob_is h1) (fun v2 h1 => m_X12_is h1) (fun v2 h1 => ?_)
  refine q_if_eq (tgt := 16) dX12_canRate_6 (by decide) (fun c11 => ?_) (fun c11 => ?_)
  · refine q_bipush (x := (-2 : Int32)) dX12_canRate_16 rfl ?_
    exact q_iret dX12_canRate_18 rfl rfl (Nat.le_of_ble_eq_true rfl) rfl
  · refine q_iload_n 2 dX12_canRate_9 rfl ?_
    refine q_cSI (Y2 := Y_X12_isDay) (As := [.int a2]) (st := []) ms_X12_isDay qw_1233 dX12_canRate_10 ⟨Nat.le_of_ble_eq_true rfl, Nat.le_of_ble_eq_true rfl⟩ rfl (fun _ _ => rfl) (Nat.le_of_ble_eq_true rfl) ⟨Nat.le_of_ble_eq_true rfl, Nat.le_of_ble_eq_true rfl⟩ (fun v4 h3 => m_X12_isDay h3) (fun v4 h3 => ?_)
    refine q_if_ne (tgt := 19) dX12_canRate_13 (by decide) (fun c10 => ?_) (fun c10 => ?_)
    · refine q_bipush (x := (-2 : Int32)) dX12_canRate_16 rfl ?_
      exact q_iret dX12_canRate_18 rfl rfl (Nat.le_of_ble_eq_true rfl) rfl
    · refine q_aload_n 0 dX12_canRate_19 rfl ?_
      refine q_iload_n 2 dX12_canRate_20 rfl ?_
      refine q_cVM (Y2 := Y_X12_findRates) (As := [.int a2]) (b := a0) (st := []) cl_X12 mv_X12_findRates qw_1280 dX12_canRate_21 ⟨Nat.le_of_ble_eq_true rfl, Nat.le_of_ble_eq_true rfl⟩ rfl (fun _ _ => rfl) (Nat.le_of_ble_eq_true rfl) ⟨Nat.le_of_ble_eq_true rfl, Nat.le_of_ble_eq_true rfl⟩ (fun M7 h5 => q_ob_is h5) (fun M7 h5 => m_X12_findRates h5) (fun M7 h5 => ?_)
      refine q_aload_n 0 dX12_canRate_24 rfl ?_
      refine q_iload_n 1 dX12_canRate_25 rfl ?_
      refine q_cVI (Y2 := Y_X12_rateOfCan) (As := [.int a1]) (b := a0) (st := []) cl_X12 mv_X12_rateOfCan qw_1284 dX12_canRate_26 ⟨Nat.le_of_ble_eq_true rfl, Nat.le_of_ble_eq_true rfl⟩ rfl (fun _ _ => rfl) (Nat.le_of_ble_eq_true rfl) ⟨Nat.le_of_ble_eq_true rfl, Nat.le_of_ble_eq_true rfl⟩ (fun v9 h8 => q_ob_is h8) (fun v9 h8 => m_X12_rateOfCan h8) (fun v9 h8 => ?_)
      exact q_iret dX12_canRate_29 rfl rfl (Nat.le_of_ble_eq_true rfl) rfl
theorem dX12_fatOf_0 : decode cX12_fatOf 0 = .ok (.aload_n 0, 1) := by decide +kernel
theorem dX12_fatOf_1 : decode cX12_fatOf 1 = .ok (.getfield 7, 3) := by decide +kernel
theorem dX12_fatOf_4 : decode cX12_fatOf 4 = .ok (.bipush 100, 2) := by decide +kernel
theorem dX12_fatOf_6 : decode cX12_fatOf 6 = .ok (.iconst 4, 1) := by decide +kernel
theorem dX12_fatOf_7 : decode cX12_fatOf 7 = .ok (.iload_n 1, 1) := by decide +kernel
theorem dX12_fatOf_8 : decode cX12_fatOf 8 = .ok (.imul, 1) := by decide +kernel
theorem dX12_fatOf_9 : decode cX12_fatOf 9 = .ok (.iadd, 1) := by decide +kernel
theorem dX12_fatOf_10 : decode cX12_fatOf 10 = .ok (.iconst 2, 1) := by decide +kernel
theorem dX12_fatOf_11 : decode cX12_fatOf 11 = .ok (.iadd, 1) := by decide +kernel
theorem dX12_fatOf_12 : decode cX12_fatOf 12 = .ok (.iaload, 1) := by decide +kernel
theorem dX12_fatOf_13 : decode cX12_fatOf 13 = .ok (.i2l, 1) := by decide +kernel
theorem dX12_fatOf_14 : decode cX12_fatOf 14 = .ok (.aload_n 0, 1) := by decide +kernel
theorem dX12_fatOf_15 : decode cX12_fatOf 15 = .ok (.iload_n 1, 1) := by decide +kernel
theorem dX12_fatOf_16 : decode cX12_fatOf 16 = .ok (.invokevirtual 117, 3) := by decide +kernel
theorem dX12_fatOf_19 : decode cX12_fatOf 19 = .ok (.i2l, 1) := by decide +kernel
theorem dX12_fatOf_20 : decode cX12_fatOf 20 = .ok (.lmul, 1) := by decide +kernel
theorem dX12_fatOf_21 : decode cX12_fatOf 21 = .ok (.lreturn, 1) := by decide +kernel
def f_X12_fatOf (M : q_Mem) (a0 : Nat) (a1 : Int32) : Option Int64 :=
  q_ob 11 M a0 ((q_gR 11 0 M a0).bind fun v1 =>
  (q_lI M v1 (((100 : Int32) + ((4 : Int32) * a1)) + (2 : Int32))).bind fun v3 =>
  (f_X12_rateOfCan M a0 a1).bind fun v6 =>
  some (v3.toInt64 * v6.toInt64))
set_option maxRecDepth 20000 in
theorem m_X12_fatOf {M : q_Mem} {a0 : Nat} {a1 : Int32} {x : Int64} (h : f_X12_fatOf M a0 a1 = some x) : q_C Y_X12_fatOf [.ref a0, .int a1] M (some (.long x)) M := by
  refine q_met (φ := (fun x : Int64 => (some (.long x), M))) (r := f_X12_fatOf M a0 a1) (by decide +kernel) (Nat.le_of_ble_eq_true rfl) ?_ h (fun _ _ => rfl)
  show q_V Y_X12_fatOf none (fun x : Int64 => (some (.long x), M)) 0 0 0 [(0, .ref a0), (1, .int a1)] [] M (f_X12_fatOf M a0 a1)
  unfold f_X12_fatOf
  refine q_obV ?_
  refine q_aload_n 0 dX12_fatOf_0 rfl ?_
  refine q_getR (f := 0) cl_X12 (by decide) qw_1117 rfl dX12_fatOf_1 (fun _ _ _ => rfl) (fun v1 h2 => ?_)
  refine q_bipush (x := (100 : Int32)) dX12_fatOf_4 rfl ?_
  refine q_iconst (x := (4 : Int32)) dX12_fatOf_6 rfl ?_
  refine q_iload_n 1 dX12_fatOf_7 rfl ?_
  refine q_imul dX12_fatOf_8 ?_
  refine q_iadd dX12_fatOf_9 ?_
  refine q_iconst (x := (2 : Int32)) dX12_fatOf_10 rfl ?_
  refine q_iadd dX12_fatOf_11 ?_
  refine q_iald dX12_fatOf_12 (fun v3 h4 => ?_)
  refine q_i2l dX12_fatOf_13 ?_
  refine q_aload_n 0 dX12_fatOf_14 rfl ?_
  refine q_iload_n 1 dX12_fatOf_15 rfl ?_
  refine q_cVI (Y2 := Y_X12_rateOfCan) (As := [.int a1]) (b := a0) (st := [.long v3.toInt64]) cl_X12 mv_X12_rateOfCan qw_1284 dX12_fatOf_16 ⟨Nat.le_of_ble_eq_true rfl, Nat.le_of_ble_eq_true rfl⟩ rfl (fun _ _ => rfl) (Nat.le_of_ble_eq_true rfl) ⟨Nat.le_of_ble_eq_true rfl, Nat.le_of_ble_eq_true rfl⟩ (fun v6 h5 => q_ob_is h5) (fun v6 h5 => m_X12_rateOfCan h5) (fun v6 h5 => ?_)
  refine q_i2l dX12_fatOf_19 ?_
  refine q_lmul dX12_fatOf_20 ?_
  exact q_lret dX12_fatOf_21 rfl rfl (Nat.le_of_ble_eq_true rfl) rfl
theorem dX12_fat_0 : decode cX12_fat 0 = .ok (.aload_n 0, 1) := by decide +kernel
theorem dX12_fat_1 : decode cX12_fat 1 = .ok (.iconst 0, 1) := by decide +kernel
theorem dX12_fat_2 : decode cX12_fat 2 = .ok (.iload_n 1, 1) := by decide +kernel
theorem dX12_fat_3 : decode cX12_fat 3 = .ok (.invokevirtual 86, 3) := by decide +kernel
theorem dX12_fat_6 : decode cX12_fat 6 = .ok (.ifCond .eq 17, 3) := by decide +kernel
theorem dX12_fat_9 : decode cX12_fat 9 = .ok (.iload_n 2, 1) := by decide +kernel
theorem dX12_fat_10 : decode cX12_fat 10 = .ok (.invokestatic 120, 3) := by decide +kernel
theorem dX12_fat_13 : decode cX12_fat 13 = .ok (.ifCond .eq 10, 3) := by decide +kernel
theorem dX12_fat_16 : decode cX12_fat 16 = .ok (.iload_n 3, 1) := by decide +kernel
theorem dX12_fat_17 : decode cX12_fat 17 = .ok (.invokestatic 90, 3) := by decide +kernel
theorem dX12_fat_20 : decode cX12_fat 20 = .ok (.ifCond .ne 7, 3) := by decide +kernel
theorem dX12_fat_23 : decode cX12_fat 23 = .ok (.ldc2_w 123, 3) := by decide +kernel
theorem dX12_fat_26 : decode cX12_fat 26 = .ok (.lreturn, 1) := by decide +kernel
theorem dX12_fat_27 : decode cX12_fat 27 = .ok (.aload_n 0, 1) := by decide +kernel
theorem dX12_fat_28 : decode cX12_fat 28 = .ok (.iload_n 3, 1) := by decide +kernel
theorem dX12_fat_29 : decode cX12_fat 29 = .ok (.invokevirtual 113, 3) := by decide +kernel
theorem dX12_fat_32 : decode cX12_fat 32 = .ok (.lconst 0, 1) := by decide +kernel
theorem dX12_fat_33 : decode cX12_fat 33 = .ok (.lstore 4, 2) := by decide +kernel
theorem dX12_fat_35 : decode cX12_fat 35 = .ok (.iconst 0, 1) := by decide +kernel
theorem dX12_fat_36 : decode cX12_fat 36 = .ok (.istore 6, 2) := by decide +kernel
theorem dX12_fat_38 : decode cX12_fat 38 = .ok (.iload 6, 2) := by decide +kernel
theorem dX12_fat_40 : decode cX12_fat 40 = .ok (.aload_n 0, 1) := by decide +kernel
theorem dX12_fat_41 : decode cX12_fat 41 = .ok (.getfield 7, 3) := by decide +kernel
theorem dX12_fat_44 : decode cX12_fat 44 = .ok (.iconst 1, 1) := by decide +kernel
theorem dX12_fat_45 : decode cX12_fat 45 = .ok (.iaload, 1) := by decide +kernel
theorem dX12_fat_46 : decode cX12_fat 46 = .ok (.if_icmp .ge 61, 3) := by decide +kernel
theorem dX12_fat_49 : decode cX12_fat 49 = .ok (.lload 4, 2) := by decide +kernel
theorem dX12_fat_51 : decode cX12_fat 51 = .ok (.aload_n 0, 1) := by decide +kernel
theorem dX12_fat_52 : decode cX12_fat 52 = .ok (.getfield 7, 3) := by decide +kernel
theorem dX12_fat_55 : decode cX12_fat 55 = .ok (.bipush 100, 2) := by decide +kernel
theorem dX12_fat_57 : decode cX12_fat 57 = .ok (.iconst 4, 1) := by decide +kernel
theorem dX12_fat_58 : decode cX12_fat 58 = .ok (.iload 6, 2) := by decide +kernel
theorem dX12_fat_60 : decode cX12_fat 60 = .ok (.imul, 1) := by decide +kernel
theorem dX12_fat_61 : decode cX12_fat 61 = .ok (.iadd, 1) := by decide +kernel
theorem dX12_fat_62 : decode cX12_fat 62 = .ok (.iaload, 1) := by decide +kernel
theorem dX12_fat_63 : decode cX12_fat 63 = .ok (.iload_n 1, 1) := by decide +kernel
theorem dX12_fat_64 : decode cX12_fat 64 = .ok (.if_icmp .ne 33, 3) := by decide +kernel
theorem dX12_fat_67 : decode cX12_fat 67 = .ok (.aload_n 0, 1) := by decide +kernel
theorem dX12_fat_68 : decode cX12_fat 68 = .ok (.getfield 7, 3) := by decide +kernel
theorem dX12_fat_71 : decode cX12_fat 71 = .ok (.bipush 100, 2) := by decide +kernel
theorem dX12_fat_73 : decode cX12_fat 73 = .ok (.iconst 4, 1) := by decide +kernel
theorem dX12_fat_74 : decode cX12_fat 74 = .ok (.iload 6, 2) := by decide +kernel
theorem dX12_fat_76 : decode cX12_fat 76 = .ok (.imul, 1) := by decide +kernel
theorem dX12_fat_77 : decode cX12_fat 77 = .ok (.iadd, 1) := by decide +kernel
theorem dX12_fat_78 : decode cX12_fat 78 = .ok (.iconst 1, 1) := by decide +kernel
theorem dX12_fat_79 : decode cX12_fat 79 = .ok (.iadd, 1) := by decide +kernel
theorem dX12_fat_80 : decode cX12_fat 80 = .ok (.iaload, 1) := by decide +kernel
theorem dX12_fat_81 : decode cX12_fat 81 = .ok (.bipush 7, 2) := by decide +kernel
theorem dX12_fat_83 : decode cX12_fat 83 = .ok (.idiv, 1) := by decide +kernel
theorem dX12_fat_84 : decode cX12_fat 84 = .ok (.iload_n 2, 1) := by decide +kernel
theorem dX12_fat_85 : decode cX12_fat 85 = .ok (.if_icmp .ne 12, 3) := by decide +kernel
theorem dX12_fat_88 : decode cX12_fat 88 = .ok (.aload_n 0, 1) := by decide +kernel
theorem dX12_fat_89 : decode cX12_fat 89 = .ok (.iload 6, 2) := by decide +kernel
theorem dX12_fat_91 : decode cX12_fat 91 = .ok (.invokevirtual 125, 3) := by decide +kernel
theorem dX12_fat_94 : decode cX12_fat 94 = .ok (.goto 4, 3) := by decide +kernel
theorem dX12_fat_97 : decode cX12_fat 97 = .ok (.lconst 0, 1) := by decide +kernel
theorem dX12_fat_98 : decode cX12_fat 98 = .ok (.ladd, 1) := by decide +kernel
theorem dX12_fat_99 : decode cX12_fat 99 = .ok (.lstore 4, 2) := by decide +kernel
theorem dX12_fat_101 : decode cX12_fat 101 = .ok (.iinc 6 1, 3) := by decide +kernel
theorem dX12_fat_104 : decode cX12_fat 104 = .ok (.goto (-66), 3) := by decide +kernel
theorem dX12_fat_107 : decode cX12_fat 107 = .ok (.lload 4, 2) := by decide +kernel
theorem dX12_fat_109 : decode cX12_fat 109 = .ok (.lreturn, 1) := by decide +kernel
def f_X12_fat_b97 (kk38 : Int64 → Int32 → Option (Int64 × q_Mem)) (M : q_Mem) (a0 : Nat) (a1 : Int32) (a2 : Int32) (a6 : Int32) (s0 : Int64) : Option (Int64 × q_Mem) :=
  kk38 (s0 + (0 : Int64)) (a6 + (1 : Int32))
def f_X12_fat_b38 (M : q_Mem) (a0 : Nat) (a1 : Int32) (a2 : Int32) : Nat → Int64 → Int32 → Option (Int64 × q_Mem)
  | 0, _, _ => none
  | n + 1, a4, a6 =>
    (q_gR 11 0 M a0).bind fun v13 =>
    (q_lI M v13 (1 : Int32)).bind fun v15 =>
    (if a6 < v15 then
      (q_gR 11 0 M a0).bind fun v17 =>
      (q_lI M v17 ((100 : Int32) + ((4 : Int32) * a6))).bind fun v19 =>
      (if v19 = a1 then
        (q_gR 11 0 M a0).bind fun v21 =>
        (q_lI M v21 (((100 : Int32) + ((4 : Int32) * a6)) + (1 : Int32))).bind fun v23 =>
        (q_dv v23 (7 : Int32)).bind fun v25 =>
        (if v25 = a2 then
          (f_X12_fatOf M a0 a6).bind fun v28 =>
          f_X12_fat_b38 M a0 a1 a2 n (a4 + v28) (a6 + (1 : Int32))
        else
          f_X12_fat_b97 (f_X12_fat_b38 M a0 a1 a2 n) M a0 a1 a2 a6 a4)
      else
        f_X12_fat_b97 (f_X12_fat_b38 M a0 a1 a2 n) M a0 a1 a2 a6 a4)
    else
      some (a4, M))
def f_X12_fat (M : q_Mem) (a0 : Nat) (a1 : Int32) (a2 : Int32) (a3 : Int32) : Option (Int64 × q_Mem) :=
  q_ob 11 M a0 ((f_X12_is M a0 (0 : Int32) a1).bind fun v2 =>
  (if v2 = 0 then
    some ((-2 : Int64), M)
  else
    (f_X12_isWeek M a2).bind fun v4 =>
    (if v4 = 0 then
      some ((-2 : Int64), M)
    else
      (f_X12_isDay M a3).bind fun v6 =>
      (if v6 = 0 then
        some ((-2 : Int64), M)
      else
        (f_X12_findRates M a0 a3).bind fun M9 =>
        f_X12_fat_b38 M9 a0 a1 a2 q_fuel (0 : Int64) (0 : Int32)))))
set_option maxRecDepth 20000 in
theorem v_X12_fat_b97 {kk38 : Int64 → Int32 → Option (Int64 × q_Mem)} {M : q_Mem} {a0 : Nat} {a1 : Int32} {a2 : Int32} {a6 : Int32} {s0 : Int64}  (hk38 : ∀ (a4 : Int64) (a6 : Int32), q_V Y_X12_fat none (fun x : Int64 × q_Mem => (some (.long x.1), x.2)) 0 0 38 [(0, .ref a0), (1, .int a1), (2, .int a2), (4, .long a4), (6, .int a6)] [] M (kk38 a4 a6)): q_V Y_X12_fat none (fun x : Int64 × q_Mem => (some (.long x.1), x.2)) 0 0 97 [(0, .ref a0), (1, .int a1), (2, .int a2), (6, .int a6)] [.long s0] M (f_X12_fat_b97 kk38 M a0 a1 a2 a6 s0) := by
  unfold f_X12_fat_b97
  refine q_lconst (x := (0 : Int64)) dX12_fat_97 rfl ?_
  refine q_ladd dX12_fat_98 ?_
  refine q_lstore (ls' := [(4, .long (s0 + (0 : Int64))), (0, .ref a0), (1, .int a1), (2, .int a2), (6, .int a6)]) dX12_fat_99 (by decide) rfl ?_
  refine q_iinc 4 (y := (a6 + (1 : Int32))) (ls' := [(6, .int (a6 + (1 : Int32))), (4, .long (s0 + (0 : Int64))), (0, .ref a0), (1, .int a1), (2, .int a2)]) dX12_fat_101 rfl rfl (by decide) rfl ?_
  refine q_goto (tgt := 38) dX12_fat_104 (by decide) ?_
  refine q_sub (ls' := [(0, .ref a0), (1, .int a1), (2, .int a2), (4, .long (s0 + (0 : Int64))), (6, .int (a6 + (1 : Int32)))]) [2, 3, 4, 1, 0] rfl ?_
  exact hk38 _ _
set_option maxRecDepth 20000 in
theorem v_X12_fat_b38 {M : q_Mem} {a0 : Nat} {a1 : Int32} {a2 : Int32}  : ∀ (n : Nat) (a4 : Int64) (a6 : Int32), q_V Y_X12_fat none (fun x : Int64 × q_Mem => (some (.long x.1), x.2)) 0 0 38 [(0, .ref a0), (1, .int a1), (2, .int a2), (4, .long a4), (6, .int a6)] [] M (f_X12_fat_b38 M a0 a1 a2 n a4 a6) := by
  intro n
  induction n with
  | zero => intro a4 a6; exact q_none
  | succ n ih =>
    intro a4 a6
    rw [f_X12_fat_b38.eq_2]
    refine q_iload 4 dX12_fat_38 rfl ?_
    refine q_aload_n 0 dX12_fat_40 rfl ?_
    refine q_getR (f := 0) cl_X12 (by decide) qw_1117 rfl dX12_fat_41 (fun _ _ _ => rfl) (fun v13 h14 => ?_)
    refine q_iconst (x := (1 : Int32)) dX12_fat_44 rfl ?_
    refine q_iald dX12_fat_45 (fun v15 h16 => ?_)
    refine q_icmp_ge (tgt := 107) dX12_fat_46 (by decide) (fun c31 => ?_) (fun c31 => ?_)
    · refine q_lload 3 dX12_fat_49 rfl ?_
      refine q_aload_n 0 dX12_fat_51 rfl ?_
      refine q_getR (f := 0) cl_X12 (by decide) qw_1117 rfl dX12_fat_52 (fun _ _ _ => rfl) (fun v17 h18 => ?_)
      refine q_bipush (x := (100 : Int32)) dX12_fat_55 rfl ?_
      refine q_iconst (x := (4 : Int32)) dX12_fat_57 rfl ?_
      refine q_iload 4 dX12_fat_58 rfl ?_
      refine q_imul dX12_fat_60 ?_
      refine q_iadd dX12_fat_61 ?_
      refine q_iald dX12_fat_62 (fun v19 h20 => ?_)
      refine q_iload_n 1 dX12_fat_63 rfl ?_
      refine q_icmp_ne (tgt := 97) dX12_fat_64 (by decide) (fun c30 => ?_) (fun c30 => ?_)
      · refine q_aload_n 0 dX12_fat_67 rfl ?_
        refine q_getR (f := 0) cl_X12 (by decide) qw_1117 rfl dX12_fat_68 (fun _ _ _ => rfl) (fun v21 h22 => ?_)
        refine q_bipush (x := (100 : Int32)) dX12_fat_71 rfl ?_
        refine q_iconst (x := (4 : Int32)) dX12_fat_73 rfl ?_
        refine q_iload 4 dX12_fat_74 rfl ?_
        refine q_imul dX12_fat_76 ?_
        refine q_iadd dX12_fat_77 ?_
        refine q_iconst (x := (1 : Int32)) dX12_fat_78 rfl ?_
        refine q_iadd dX12_fat_79 ?_
        refine q_iald dX12_fat_80 (fun v23 h24 => ?_)
        refine q_bipush (x := (7 : Int32)) dX12_fat_81 rfl ?_
        refine q_idiv dX12_fat_83 (fun v25 h26 => ?_)
        refine q_iload_n 2 dX12_fat_84 rfl ?_
        refine q_icmp_ne (tgt := 97) dX12_fat_85 (by decide) (fun c29 => ?_) (fun c29 => ?_)
        · refine q_aload_n 0 dX12_fat_88 rfl ?_
          refine q_iload 4 dX12_fat_89 rfl ?_
          refine q_cVJ (Y2 := Y_X12_fatOf) (As := [.int a6]) (b := a0) (st := [.long a4]) cl_X12 mv_X12_fatOf qw_1300 dX12_fat_91 ⟨Nat.le_of_ble_eq_true rfl, Nat.le_of_ble_eq_true rfl⟩ rfl (fun _ _ => rfl) (Nat.le_of_ble_eq_true rfl) ⟨Nat.le_of_ble_eq_true rfl, Nat.le_of_ble_eq_true rfl⟩ (fun v28 h27 => q_ob_is h27) (fun v28 h27 => m_X12_fatOf h27) (fun v28 h27 => ?_)
          refine q_goto (tgt := 98) dX12_fat_94 (by decide) ?_
          refine q_ladd dX12_fat_98 ?_
          refine q_lstore (ls' := [(4, .long (a4 + v28)), (0, .ref a0), (1, .int a1), (2, .int a2), (6, .int a6)]) dX12_fat_99 (by decide) rfl ?_
          refine q_iinc 4 (y := (a6 + (1 : Int32))) (ls' := [(6, .int (a6 + (1 : Int32))), (4, .long (a4 + v28)), (0, .ref a0), (1, .int a1), (2, .int a2)]) dX12_fat_101 rfl rfl (by decide) rfl ?_
          refine q_goto (tgt := 38) dX12_fat_104 (by decide) ?_
          refine q_sub (ls' := [(0, .ref a0), (1, .int a1), (2, .int a2), (4, .long (a4 + v28)), (6, .int (a6 + (1 : Int32)))]) [2, 3, 4, 1, 0] rfl ?_
          exact ih _ _
        · refine q_sub (ls' := [(0, .ref a0), (1, .int a1), (2, .int a2), (6, .int a6)]) [0, 1, 2, 4] rfl ?_
          exact v_X12_fat_b97 (ih)
      · refine q_sub (ls' := [(0, .ref a0), (1, .int a1), (2, .int a2), (6, .int a6)]) [0, 1, 2, 4] rfl ?_
        exact v_X12_fat_b97 (ih)
    · refine q_lload 3 dX12_fat_107 rfl ?_
      exact q_lret dX12_fat_109 rfl rfl (Nat.le_of_ble_eq_true rfl) rfl
set_option maxRecDepth 20000 in
theorem m_X12_fat {M : q_Mem} {a0 : Nat} {a1 : Int32} {a2 : Int32} {a3 : Int32} {x : (Int64 × q_Mem)} (h : f_X12_fat M a0 a1 a2 a3 = some x) : q_C Y_X12_fat [.ref a0, .int a1, .int a2, .int a3] M (some (.long x.1)) x.2 := by
  refine q_met (φ := (fun x : Int64 × q_Mem => (some (.long x.1), x.2))) (r := f_X12_fat M a0 a1 a2 a3) (by decide +kernel) (Nat.le_of_ble_eq_true rfl) ?_ h (fun _ _ => rfl)
  show q_V Y_X12_fat none (fun x : Int64 × q_Mem => (some (.long x.1), x.2)) 0 0 0 [(0, .ref a0), (1, .int a1), (2, .int a2), (3, .int a3)] [] M (f_X12_fat M a0 a1 a2 a3)
  unfold f_X12_fat
  refine q_obV ?_
  refine q_aload_n 0 dX12_fat_0 rfl ?_
  refine q_iconst (x := (0 : Int32)) dX12_fat_1 rfl ?_
  refine q_iload_n 1 dX12_fat_2 rfl ?_
  refine q_cVI (Y2 := Y_X12_is) (As := [.int (0 : Int32), .int a1]) (b := a0) (st := []) cl_X12 mv_X12_is qw_1225 dX12_fat_3 ⟨Nat.le_of_ble_eq_true rfl, Nat.le_of_ble_eq_true rfl⟩ rfl (fun _ _ => rfl) (Nat.le_of_ble_eq_true rfl) ⟨Nat.le_of_ble_eq_true rfl, Nat.le_of_ble_eq_true rfl⟩ (fun v2 h1 => q_ob_is h1) (fun v2 h1 => m_X12_is h1) (fun v2 h1 => ?_)
  refine q_if_eq (tgt := 23) dX12_fat_6 (by decide) (fun c12 => ?_) (fun c12 => ?_)
  · refine q_ldc2 (x := (-2 : Int64)) qw_1299 dX12_fat_23 ?_
    exact q_lret dX12_fat_26 rfl rfl (Nat.le_of_ble_eq_true rfl) rfl
  · refine q_iload_n 2 dX12_fat_9 rfl ?_
    refine q_cSI (Y2 := Y_X12_isWeek) (As := [.int a2]) (st := []) ms_X12_isWeek qw_1296 dX12_fat_10 ⟨Nat.le_of_ble_eq_true rfl, Nat.le_of_ble_eq_true rfl⟩ rfl (fun _ _ => rfl) (Nat.le_of_ble_eq_true rfl) ⟨Nat.le_of_ble_eq_true rfl, Nat.le_of_ble_eq_true rfl⟩ (fun v4 h3 => m_X12_isWeek h3) (fun v4 h3 => ?_)
    refine q_if_eq (tgt := 23) dX12_fat_13 (by decide) (fun c11 => ?_) (fun c11 => ?_)
    · refine q_ldc2 (x := (-2 : Int64)) qw_1299 dX12_fat_23 ?_
      exact q_lret dX12_fat_26 rfl rfl (Nat.le_of_ble_eq_true rfl) rfl
    · refine q_iload_n 3 dX12_fat_16 rfl ?_
      refine q_cSI (Y2 := Y_X12_isDay) (As := [.int a3]) (st := []) ms_X12_isDay qw_1233 dX12_fat_17 ⟨Nat.le_of_ble_eq_true rfl, Nat.le_of_ble_eq_true rfl⟩ rfl (fun _ _ => rfl) (Nat.le_of_ble_eq_true rfl) ⟨Nat.le_of_ble_eq_true rfl, Nat.le_of_ble_eq_true rfl⟩ (fun v6 h5 => m_X12_isDay h5) (fun v6 h5 => ?_)
      refine q_if_ne (tgt := 27) dX12_fat_20 (by decide) (fun c10 => ?_) (fun c10 => ?_)
      · refine q_ldc2 (x := (-2 : Int64)) qw_1299 dX12_fat_23 ?_
        exact q_lret dX12_fat_26 rfl rfl (Nat.le_of_ble_eq_true rfl) rfl
      · refine q_aload_n 0 dX12_fat_27 rfl ?_
        refine q_iload_n 3 dX12_fat_28 rfl ?_
        refine q_cVM (Y2 := Y_X12_findRates) (As := [.int a3]) (b := a0) (st := []) cl_X12 mv_X12_findRates qw_1280 dX12_fat_29 ⟨Nat.le_of_ble_eq_true rfl, Nat.le_of_ble_eq_true rfl⟩ rfl (fun _ _ => rfl) (Nat.le_of_ble_eq_true rfl) ⟨Nat.le_of_ble_eq_true rfl, Nat.le_of_ble_eq_true rfl⟩ (fun M9 h7 => q_ob_is h7) (fun M9 h7 => m_X12_findRates h7) (fun M9 h7 => ?_)
        refine q_lconst (x := (0 : Int64)) dX12_fat_32 rfl ?_
        refine q_lstore (ls' := [(4, .long (0 : Int64)), (0, .ref a0), (1, .int a1), (2, .int a2), (3, .int a3)]) dX12_fat_33 (by decide) rfl ?_
        refine q_iconst (x := (0 : Int32)) dX12_fat_35 rfl ?_
        refine q_istore (ls' := [(6, .int (0 : Int32)), (4, .long (0 : Int64)), (0, .ref a0), (1, .int a1), (2, .int a2), (3, .int a3)]) dX12_fat_36 (by decide) rfl ?_
        refine q_sub (ls' := [(0, .ref a0), (1, .int a1), (2, .int a2), (4, .long (0 : Int64)), (6, .int (0 : Int32))]) [2, 3, 4, 1, 0] rfl ?_
        exact v_X12_fat_b38 _ _ _
theorem dX12_churn_0 : decode cX12_churn 0 = .ok (.iload_n 1, 1) := by decide +kernel
theorem dX12_churn_1 : decode cX12_churn 1 = .ok (.invokestatic 90, 3) := by decide +kernel
theorem dX12_churn_4 : decode cX12_churn 4 = .ok (.ifCond .eq 14, 3) := by decide +kernel
theorem dX12_churn_7 : decode cX12_churn 7 = .ok (.iload_n 2, 1) := by decide +kernel
theorem dX12_churn_8 : decode cX12_churn 8 = .ok (.bipush 40, 2) := by decide +kernel
theorem dX12_churn_10 : decode cX12_churn 10 = .ok (.bipush 80, 2) := by decide +kernel
theorem dX12_churn_12 : decode cX12_churn 12 = .ok (.invokestatic 78, 3) := by decide +kernel
theorem dX12_churn_15 : decode cX12_churn 15 = .ok (.ifCond .ne 6, 3) := by decide +kernel
theorem dX12_churn_18 : decode cX12_churn 18 = .ok (.bipush (-2), 2) := by decide +kernel
theorem dX12_churn_20 : decode cX12_churn 20 = .ok (.ireturn, 1) := by decide +kernel
theorem dX12_churn_21 : decode cX12_churn 21 = .ok (.aload_n 0, 1) := by decide +kernel
theorem dX12_churn_22 : decode cX12_churn 22 = .ok (.getfield 7, 3) := by decide +kernel
theorem dX12_churn_25 : decode cX12_churn 25 = .ok (.iconst 3, 1) := by decide +kernel
theorem dX12_churn_26 : decode cX12_churn 26 = .ok (.iaload, 1) := by decide +kernel
theorem dX12_churn_27 : decode cX12_churn 27 = .ok (.bipush 40, 2) := by decide +kernel
theorem dX12_churn_29 : decode cX12_churn 29 = .ok (.if_icmp .ne 6, 3) := by decide +kernel
theorem dX12_churn_32 : decode cX12_churn 32 = .ok (.bipush (-4), 2) := by decide +kernel
theorem dX12_churn_34 : decode cX12_churn 34 = .ok (.ireturn, 1) := by decide +kernel
theorem dX12_churn_35 : decode cX12_churn 35 = .ok (.sipush 2700, 3) := by decide +kernel
theorem dX12_churn_38 : decode cX12_churn 38 = .ok (.iconst 3, 1) := by decide +kernel
theorem dX12_churn_39 : decode cX12_churn 39 = .ok (.aload_n 0, 1) := by decide +kernel
theorem dX12_churn_40 : decode cX12_churn 40 = .ok (.getfield 7, 3) := by decide +kernel
theorem dX12_churn_43 : decode cX12_churn 43 = .ok (.iconst 3, 1) := by decide +kernel
theorem dX12_churn_44 : decode cX12_churn 44 = .ok (.iaload, 1) := by decide +kernel
theorem dX12_churn_45 : decode cX12_churn 45 = .ok (.imul, 1) := by decide +kernel
theorem dX12_churn_46 : decode cX12_churn 46 = .ok (.iadd, 1) := by decide +kernel
theorem dX12_churn_47 : decode cX12_churn 47 = .ok (.istore_n 3, 1) := by decide +kernel
theorem dX12_churn_48 : decode cX12_churn 48 = .ok (.aload_n 0, 1) := by decide +kernel
theorem dX12_churn_49 : decode cX12_churn 49 = .ok (.getfield 7, 3) := by decide +kernel
theorem dX12_churn_52 : decode cX12_churn 52 = .ok (.iload_n 3, 1) := by decide +kernel
theorem dX12_churn_53 : decode cX12_churn 53 = .ok (.iload_n 1, 1) := by decide +kernel
theorem dX12_churn_54 : decode cX12_churn 54 = .ok (.iastore, 1) := by decide +kernel
theorem dX12_churn_55 : decode cX12_churn 55 = .ok (.aload_n 0, 1) := by decide +kernel
theorem dX12_churn_56 : decode cX12_churn 56 = .ok (.getfield 7, 3) := by decide +kernel
theorem dX12_churn_59 : decode cX12_churn 59 = .ok (.iload_n 3, 1) := by decide +kernel
theorem dX12_churn_60 : decode cX12_churn 60 = .ok (.iconst 1, 1) := by decide +kernel
theorem dX12_churn_61 : decode cX12_churn 61 = .ok (.iadd, 1) := by decide +kernel
theorem dX12_churn_62 : decode cX12_churn 62 = .ok (.iload_n 2, 1) := by decide +kernel
theorem dX12_churn_63 : decode cX12_churn 63 = .ok (.iastore, 1) := by decide +kernel
theorem dX12_churn_64 : decode cX12_churn 64 = .ok (.aload_n 0, 1) := by decide +kernel
theorem dX12_churn_65 : decode cX12_churn 65 = .ok (.getfield 7, 3) := by decide +kernel
theorem dX12_churn_68 : decode cX12_churn 68 = .ok (.iload_n 3, 1) := by decide +kernel
theorem dX12_churn_69 : decode cX12_churn 69 = .ok (.iconst 2, 1) := by decide +kernel
theorem dX12_churn_70 : decode cX12_churn 70 = .ok (.iadd, 1) := by decide +kernel
theorem dX12_churn_71 : decode cX12_churn 71 = .ok (.iconst (-1), 1) := by decide +kernel
theorem dX12_churn_72 : decode cX12_churn 72 = .ok (.iastore, 1) := by decide +kernel
theorem dX12_churn_73 : decode cX12_churn 73 = .ok (.aload_n 0, 1) := by decide +kernel
theorem dX12_churn_74 : decode cX12_churn 74 = .ok (.iconst 3, 1) := by decide +kernel
theorem dX12_churn_75 : decode cX12_churn 75 = .ok (.invokevirtual 82, 3) := by decide +kernel
theorem dX12_churn_78 : decode cX12_churn 78 = .ok (.ireturn, 1) := by decide +kernel
def f_X12_churn (M : q_Mem) (a0 : Nat) (a1 : Int32) (a2 : Int32) : Option (Int32 × q_Mem) :=
  q_ob 11 M a0 ((f_X12_isDay M a1).bind fun v2 =>
  (if v2 = 0 then
    some ((-2 : Int32), M)
  else
    (f_X12_in M a2 (40 : Int32) (80 : Int32)).bind fun v4 =>
    (if v4 = 0 then
      some ((-2 : Int32), M)
    else
      (q_gR 11 0 M a0).bind fun v5 =>
      (q_lI M v5 (3 : Int32)).bind fun v7 =>
      (if v7 = (40 : Int32) then
        some ((-4 : Int32), M)
      else
        (q_gR 11 0 M a0).bind fun v9 =>
        (q_lI M v9 (3 : Int32)).bind fun v11 =>
        (q_gR 11 0 M a0).bind fun v13 =>
        (q_tI M v13 ((2700 : Int32) + ((3 : Int32) * v11)) a1).bind fun M15 =>
        (q_gR 11 0 M15 a0).bind fun v17 =>
        (q_tI M15 v17 (((2700 : Int32) + ((3 : Int32) * v11)) + (1 : Int32)) a2).bind fun M19 =>
        (q_gR 11 0 M19 a0).bind fun v21 =>
        (q_tI M19 v21 (((2700 : Int32) + ((3 : Int32) * v11)) + (2 : Int32)) (-1 : Int32)).bind fun M23 =>
        (f_X12_more M23 a0 (3 : Int32)).bind fun r26 =>
        some (r26.1, r26.2)))))
set_option maxRecDepth 20000 in
theorem m_X12_churn {M : q_Mem} {a0 : Nat} {a1 : Int32} {a2 : Int32} {x : (Int32 × q_Mem)} (h : f_X12_churn M a0 a1 a2 = some x) : q_C Y_X12_churn [.ref a0, .int a1, .int a2] M (some (.int x.1)) x.2 := by
  refine q_met (φ := (fun x : Int32 × q_Mem => (some (.int x.1), x.2))) (r := f_X12_churn M a0 a1 a2) (by decide +kernel) (Nat.le_of_ble_eq_true rfl) ?_ h (fun _ _ => rfl)
  show q_V Y_X12_churn none (fun x : Int32 × q_Mem => (some (.int x.1), x.2)) 0 0 0 [(0, .ref a0), (1, .int a1), (2, .int a2)] [] M (f_X12_churn M a0 a1 a2)
  unfold f_X12_churn
  refine q_obV ?_
  refine q_iload_n 1 dX12_churn_0 rfl ?_
  refine q_cSI (Y2 := Y_X12_isDay) (As := [.int a1]) (st := []) ms_X12_isDay qw_1233 dX12_churn_1 ⟨Nat.le_of_ble_eq_true rfl, Nat.le_of_ble_eq_true rfl⟩ rfl (fun _ _ => rfl) (Nat.le_of_ble_eq_true rfl) ⟨Nat.le_of_ble_eq_true rfl, Nat.le_of_ble_eq_true rfl⟩ (fun v2 h1 => m_X12_isDay h1) (fun v2 h1 => ?_)
  refine q_if_eq (tgt := 18) dX12_churn_4 (by decide) (fun c29 => ?_) (fun c29 => ?_)
  · refine q_bipush (x := (-2 : Int32)) dX12_churn_18 rfl ?_
    exact q_iret dX12_churn_20 rfl rfl (Nat.le_of_ble_eq_true rfl) rfl
  · refine q_iload_n 2 dX12_churn_7 rfl ?_
    refine q_bipush (x := (40 : Int32)) dX12_churn_8 rfl ?_
    refine q_bipush (x := (80 : Int32)) dX12_churn_10 rfl ?_
    refine q_cSI (Y2 := Y_X12_in) (As := [.int a2, .int (40 : Int32), .int (80 : Int32)]) (st := []) ms_X12_in qw_1214 dX12_churn_12 ⟨Nat.le_of_ble_eq_true rfl, Nat.le_of_ble_eq_true rfl⟩ rfl (fun _ _ => rfl) (Nat.le_of_ble_eq_true rfl) ⟨Nat.le_of_ble_eq_true rfl, Nat.le_of_ble_eq_true rfl⟩ (fun v4 h3 => m_X12_in h3) (fun v4 h3 => ?_)
    refine q_if_ne (tgt := 21) dX12_churn_15 (by decide) (fun c28 => ?_) (fun c28 => ?_)
    · refine q_bipush (x := (-2 : Int32)) dX12_churn_18 rfl ?_
      exact q_iret dX12_churn_20 rfl rfl (Nat.le_of_ble_eq_true rfl) rfl
    · refine q_aload_n 0 dX12_churn_21 rfl ?_
      refine q_getR (f := 0) cl_X12 (by decide) qw_1117 rfl dX12_churn_22 (fun _ _ _ => rfl) (fun v5 h6 => ?_)
      refine q_iconst (x := (3 : Int32)) dX12_churn_25 rfl ?_
      refine q_iald dX12_churn_26 (fun v7 h8 => ?_)
      refine q_bipush (x := (40 : Int32)) dX12_churn_27 rfl ?_
      refine q_icmp_ne (tgt := 35) dX12_churn_29 (by decide) (fun c27 => ?_) (fun c27 => ?_)
      · refine q_bipush (x := (-4 : Int32)) dX12_churn_32 rfl ?_
        exact q_iret dX12_churn_34 rfl rfl (Nat.le_of_ble_eq_true rfl) rfl
      · refine q_sipush (x := (2700 : Int32)) dX12_churn_35 rfl ?_
        refine q_iconst (x := (3 : Int32)) dX12_churn_38 rfl ?_
        refine q_aload_n 0 dX12_churn_39 rfl ?_
        refine q_getR (f := 0) cl_X12 (by decide) qw_1117 rfl dX12_churn_40 (fun _ _ _ => rfl) (fun v9 h10 => ?_)
        refine q_iconst (x := (3 : Int32)) dX12_churn_43 rfl ?_
        refine q_iald dX12_churn_44 (fun v11 h12 => ?_)
        refine q_imul dX12_churn_45 ?_
        refine q_iadd dX12_churn_46 ?_
        refine q_istore_n (ls' := [(3, .int ((2700 : Int32) + ((3 : Int32) * v11))), (0, .ref a0), (1, .int a1), (2, .int a2)]) dX12_churn_47 (by decide) rfl ?_
        refine q_aload_n 1 dX12_churn_48 rfl ?_
        refine q_getR (f := 0) cl_X12 (by decide) qw_1117 rfl dX12_churn_49 (fun _ _ _ => rfl) (fun v13 h14 => ?_)
        refine q_iload_n 0 dX12_churn_52 rfl ?_
        refine q_iload_n 2 dX12_churn_53 rfl ?_
        refine q_iast dX12_churn_54 (fun M15 h16 => ?_)
        refine q_aload_n 1 dX12_churn_55 rfl ?_
        refine q_getR (f := 0) cl_X12 (by decide) qw_1117 rfl dX12_churn_56 (fun _ _ _ => rfl) (fun v17 h18 => ?_)
        refine q_iload_n 0 dX12_churn_59 rfl ?_
        refine q_iconst (x := (1 : Int32)) dX12_churn_60 rfl ?_
        refine q_iadd dX12_churn_61 ?_
        refine q_iload_n 3 dX12_churn_62 rfl ?_
        refine q_iast dX12_churn_63 (fun M19 h20 => ?_)
        refine q_aload_n 1 dX12_churn_64 rfl ?_
        refine q_getR (f := 0) cl_X12 (by decide) qw_1117 rfl dX12_churn_65 (fun _ _ _ => rfl) (fun v21 h22 => ?_)
        refine q_iload_n 0 dX12_churn_68 rfl ?_
        refine q_iconst (x := (2 : Int32)) dX12_churn_69 rfl ?_
        refine q_iadd dX12_churn_70 ?_
        refine q_iconst (x := (-1 : Int32)) dX12_churn_71 rfl ?_
        refine q_iast dX12_churn_72 (fun M23 h24 => ?_)
        refine q_aload_n 1 dX12_churn_73 rfl ?_
        refine q_iconst (x := (3 : Int32)) dX12_churn_74 rfl ?_
        refine q_cVMI (Y2 := Y_X12_more) (As := [.int (3 : Int32)]) (b := a0) (st := []) cl_X12 mv_X12_more qw_1217 dX12_churn_75 ⟨Nat.le_of_ble_eq_true rfl, Nat.le_of_ble_eq_true rfl⟩ rfl (fun _ _ => rfl) (Nat.le_of_ble_eq_true rfl) ⟨Nat.le_of_ble_eq_true rfl, Nat.le_of_ble_eq_true rfl⟩ (fun r26 h25 => q_ob_is h25) (fun r26 h25 => m_X12_more h25) (fun r26 h25 => ?_)
        exact q_iret dX12_churn_78 rfl rfl (Nat.le_of_ble_eq_true rfl) rfl
theorem dX12_fill_0 : decode cX12_fill 0 = .ok (.aload_n 0, 1) := by decide +kernel
theorem dX12_fill_1 : decode cX12_fill 1 = .ok (.iconst 3, 1) := by decide +kernel
theorem dX12_fill_2 : decode cX12_fill 2 = .ok (.iload_n 1, 1) := by decide +kernel
theorem dX12_fill_3 : decode cX12_fill 3 = .ok (.invokevirtual 86, 3) := by decide +kernel
theorem dX12_fill_6 : decode cX12_fill 6 = .ok (.ifCond .eq 12, 3) := by decide +kernel
theorem dX12_fill_9 : decode cX12_fill 9 = .ok (.aload_n 0, 1) := by decide +kernel
theorem dX12_fill_10 : decode cX12_fill 10 = .ok (.iconst 1, 1) := by decide +kernel
theorem dX12_fill_11 : decode cX12_fill 11 = .ok (.iload_n 2, 1) := by decide +kernel
theorem dX12_fill_12 : decode cX12_fill 12 = .ok (.invokevirtual 86, 3) := by decide +kernel
theorem dX12_fill_15 : decode cX12_fill 15 = .ok (.ifCond .ne 6, 3) := by decide +kernel
theorem dX12_fill_18 : decode cX12_fill 18 = .ok (.bipush (-2), 2) := by decide +kernel
theorem dX12_fill_20 : decode cX12_fill 20 = .ok (.ireturn, 1) := by decide +kernel
theorem dX12_fill_21 : decode cX12_fill 21 = .ok (.bipush 100, 2) := by decide +kernel
theorem dX12_fill_23 : decode cX12_fill 23 = .ok (.iconst 4, 1) := by decide +kernel
theorem dX12_fill_24 : decode cX12_fill 24 = .ok (.iload_n 2, 1) := by decide +kernel
theorem dX12_fill_25 : decode cX12_fill 25 = .ok (.imul, 1) := by decide +kernel
theorem dX12_fill_26 : decode cX12_fill 26 = .ok (.iadd, 1) := by decide +kernel
theorem dX12_fill_27 : decode cX12_fill 27 = .ok (.istore_n 3, 1) := by decide +kernel
theorem dX12_fill_28 : decode cX12_fill 28 = .ok (.aload_n 0, 1) := by decide +kernel
theorem dX12_fill_29 : decode cX12_fill 29 = .ok (.getfield 7, 3) := by decide +kernel
theorem dX12_fill_32 : decode cX12_fill 32 = .ok (.iload_n 3, 1) := by decide +kernel
theorem dX12_fill_33 : decode cX12_fill 33 = .ok (.iconst 3, 1) := by decide +kernel
theorem dX12_fill_34 : decode cX12_fill 34 = .ok (.iadd, 1) := by decide +kernel
theorem dX12_fill_35 : decode cX12_fill 35 = .ok (.iaload, 1) := by decide +kernel
theorem dX12_fill_36 : decode cX12_fill 36 = .ok (.iconst (-1), 1) := by decide +kernel
theorem dX12_fill_37 : decode cX12_fill 37 = .ok (.if_icmp .ne 33, 3) := by decide +kernel
theorem dX12_fill_40 : decode cX12_fill 40 = .ok (.aload_n 0, 1) := by decide +kernel
theorem dX12_fill_41 : decode cX12_fill 41 = .ok (.getfield 7, 3) := by decide +kernel
theorem dX12_fill_44 : decode cX12_fill 44 = .ok (.sipush 2700, 3) := by decide +kernel
theorem dX12_fill_47 : decode cX12_fill 47 = .ok (.iconst 3, 1) := by decide +kernel
theorem dX12_fill_48 : decode cX12_fill 48 = .ok (.iload_n 1, 1) := by decide +kernel
theorem dX12_fill_49 : decode cX12_fill 49 = .ok (.imul, 1) := by decide +kernel
theorem dX12_fill_50 : decode cX12_fill 50 = .ok (.iadd, 1) := by decide +kernel
theorem dX12_fill_51 : decode cX12_fill 51 = .ok (.iaload, 1) := by decide +kernel
theorem dX12_fill_52 : decode cX12_fill 52 = .ok (.aload_n 0, 1) := by decide +kernel
theorem dX12_fill_53 : decode cX12_fill 53 = .ok (.getfield 7, 3) := by decide +kernel
theorem dX12_fill_56 : decode cX12_fill 56 = .ok (.iload_n 3, 1) := by decide +kernel
theorem dX12_fill_57 : decode cX12_fill 57 = .ok (.iconst 1, 1) := by decide +kernel
theorem dX12_fill_58 : decode cX12_fill 58 = .ok (.iadd, 1) := by decide +kernel
theorem dX12_fill_59 : decode cX12_fill 59 = .ok (.iaload, 1) := by decide +kernel
theorem dX12_fill_60 : decode cX12_fill 60 = .ok (.isub, 1) := by decide +kernel
theorem dX12_fill_61 : decode cX12_fill 61 = .ok (.iconst 0, 1) := by decide +kernel
theorem dX12_fill_62 : decode cX12_fill 62 = .ok (.bipush 9, 2) := by decide +kernel
theorem dX12_fill_64 : decode cX12_fill 64 = .ok (.invokestatic 78, 3) := by decide +kernel
theorem dX12_fill_67 : decode cX12_fill 67 = .ok (.ifCond .ne 6, 3) := by decide +kernel
theorem dX12_fill_70 : decode cX12_fill 70 = .ok (.bipush (-3), 2) := by decide +kernel
theorem dX12_fill_72 : decode cX12_fill 72 = .ok (.ireturn, 1) := by decide +kernel
theorem dX12_fill_73 : decode cX12_fill 73 = .ok (.aload_n 0, 1) := by decide +kernel
theorem dX12_fill_74 : decode cX12_fill 74 = .ok (.getfield 7, 3) := by decide +kernel
theorem dX12_fill_77 : decode cX12_fill 77 = .ok (.iload_n 3, 1) := by decide +kernel
theorem dX12_fill_78 : decode cX12_fill 78 = .ok (.iconst 3, 1) := by decide +kernel
theorem dX12_fill_79 : decode cX12_fill 79 = .ok (.iadd, 1) := by decide +kernel
theorem dX12_fill_80 : decode cX12_fill 80 = .ok (.iload_n 1, 1) := by decide +kernel
theorem dX12_fill_81 : decode cX12_fill 81 = .ok (.iastore, 1) := by decide +kernel
theorem dX12_fill_82 : decode cX12_fill 82 = .ok (.iconst 1, 1) := by decide +kernel
theorem dX12_fill_83 : decode cX12_fill 83 = .ok (.ireturn, 1) := by decide +kernel
def f_X12_fill (M : q_Mem) (a0 : Nat) (a1 : Int32) (a2 : Int32) : Option (Int32 × q_Mem) :=
  q_ob 11 M a0 ((f_X12_is M a0 (3 : Int32) a1).bind fun v2 =>
  (if v2 = 0 then
    some ((-2 : Int32), M)
  else
    (f_X12_is M a0 (1 : Int32) a2).bind fun v4 =>
    (if v4 = 0 then
      some ((-2 : Int32), M)
    else
      (q_gR 11 0 M a0).bind fun v5 =>
      (q_lI M v5 (((100 : Int32) + ((4 : Int32) * a2)) + (3 : Int32))).bind fun v7 =>
      (if v7 = (-1 : Int32) then
        (q_gR 11 0 M a0).bind fun v9 =>
        (q_lI M v9 ((2700 : Int32) + ((3 : Int32) * a1))).bind fun v11 =>
        (q_gR 11 0 M a0).bind fun v13 =>
        (q_lI M v13 (((100 : Int32) + ((4 : Int32) * a2)) + (1 : Int32))).bind fun v15 =>
        (f_X12_in M (v11 - v15) (0 : Int32) (9 : Int32)).bind fun v18 =>
        (if v18 = 0 then
          some ((-3 : Int32), M)
        else
          (q_gR 11 0 M a0).bind fun v19 =>
          (q_tI M v19 (((100 : Int32) + ((4 : Int32) * a2)) + (3 : Int32)) a1).bind fun M21 =>
          some ((1 : Int32), M21))
      else
        some ((-3 : Int32), M)))))
set_option maxRecDepth 20000 in
theorem m_X12_fill {M : q_Mem} {a0 : Nat} {a1 : Int32} {a2 : Int32} {x : (Int32 × q_Mem)} (h : f_X12_fill M a0 a1 a2 = some x) : q_C Y_X12_fill [.ref a0, .int a1, .int a2] M (some (.int x.1)) x.2 := by
  refine q_met (φ := (fun x : Int32 × q_Mem => (some (.int x.1), x.2))) (r := f_X12_fill M a0 a1 a2) (by decide +kernel) (Nat.le_of_ble_eq_true rfl) ?_ h (fun _ _ => rfl)
  show q_V Y_X12_fill none (fun x : Int32 × q_Mem => (some (.int x.1), x.2)) 0 0 0 [(0, .ref a0), (1, .int a1), (2, .int a2)] [] M (f_X12_fill M a0 a1 a2)
  unfold f_X12_fill
  refine q_obV ?_
  refine q_aload_n 0 dX12_fill_0 rfl ?_
  refine q_iconst (x := (3 : Int32)) dX12_fill_1 rfl ?_
  refine q_iload_n 1 dX12_fill_2 rfl ?_
  refine q_cVI (Y2 := Y_X12_is) (As := [.int (3 : Int32), .int a1]) (b := a0) (st := []) cl_X12 mv_X12_is qw_1225 dX12_fill_3 ⟨Nat.le_of_ble_eq_true rfl, Nat.le_of_ble_eq_true rfl⟩ rfl (fun _ _ => rfl) (Nat.le_of_ble_eq_true rfl) ⟨Nat.le_of_ble_eq_true rfl, Nat.le_of_ble_eq_true rfl⟩ (fun v2 h1 => q_ob_is h1) (fun v2 h1 => m_X12_is h1) (fun v2 h1 => ?_)
  refine q_if_eq (tgt := 18) dX12_fill_6 (by decide) (fun c26 => ?_) (fun c26 => ?_)
  · refine q_bipush (x := (-2 : Int32)) dX12_fill_18 rfl ?_
    exact q_iret dX12_fill_20 rfl rfl (Nat.le_of_ble_eq_true rfl) rfl
  · refine q_aload_n 0 dX12_fill_9 rfl ?_
    refine q_iconst (x := (1 : Int32)) dX12_fill_10 rfl ?_
    refine q_iload_n 2 dX12_fill_11 rfl ?_
    refine q_cVI (Y2 := Y_X12_is) (As := [.int (1 : Int32), .int a2]) (b := a0) (st := []) cl_X12 mv_X12_is qw_1225 dX12_fill_12 ⟨Nat.le_of_ble_eq_true rfl, Nat.le_of_ble_eq_true rfl⟩ rfl (fun _ _ => rfl) (Nat.le_of_ble_eq_true rfl) ⟨Nat.le_of_ble_eq_true rfl, Nat.le_of_ble_eq_true rfl⟩ (fun v4 h3 => q_ob_is h3) (fun v4 h3 => m_X12_is h3) (fun v4 h3 => ?_)
    refine q_if_ne (tgt := 21) dX12_fill_15 (by decide) (fun c25 => ?_) (fun c25 => ?_)
    · refine q_bipush (x := (-2 : Int32)) dX12_fill_18 rfl ?_
      exact q_iret dX12_fill_20 rfl rfl (Nat.le_of_ble_eq_true rfl) rfl
    · refine q_bipush (x := (100 : Int32)) dX12_fill_21 rfl ?_
      refine q_iconst (x := (4 : Int32)) dX12_fill_23 rfl ?_
      refine q_iload_n 2 dX12_fill_24 rfl ?_
      refine q_imul dX12_fill_25 ?_
      refine q_iadd dX12_fill_26 ?_
      refine q_istore_n (ls' := [(3, .int ((100 : Int32) + ((4 : Int32) * a2))), (0, .ref a0), (1, .int a1), (2, .int a2)]) dX12_fill_27 (by decide) rfl ?_
      refine q_aload_n 1 dX12_fill_28 rfl ?_
      refine q_getR (f := 0) cl_X12 (by decide) qw_1117 rfl dX12_fill_29 (fun _ _ _ => rfl) (fun v5 h6 => ?_)
      refine q_iload_n 0 dX12_fill_32 rfl ?_
      refine q_iconst (x := (3 : Int32)) dX12_fill_33 rfl ?_
      refine q_iadd dX12_fill_34 ?_
      refine q_iald dX12_fill_35 (fun v7 h8 => ?_)
      refine q_iconst (x := (-1 : Int32)) dX12_fill_36 rfl ?_
      refine q_icmp_ne (tgt := 70) dX12_fill_37 (by decide) (fun c24 => ?_) (fun c24 => ?_)
      · refine q_aload_n 1 dX12_fill_40 rfl ?_
        refine q_getR (f := 0) cl_X12 (by decide) qw_1117 rfl dX12_fill_41 (fun _ _ _ => rfl) (fun v9 h10 => ?_)
        refine q_sipush (x := (2700 : Int32)) dX12_fill_44 rfl ?_
        refine q_iconst (x := (3 : Int32)) dX12_fill_47 rfl ?_
        refine q_iload_n 2 dX12_fill_48 rfl ?_
        refine q_imul dX12_fill_49 ?_
        refine q_iadd dX12_fill_50 ?_
        refine q_iald dX12_fill_51 (fun v11 h12 => ?_)
        refine q_aload_n 1 dX12_fill_52 rfl ?_
        refine q_getR (f := 0) cl_X12 (by decide) qw_1117 rfl dX12_fill_53 (fun _ _ _ => rfl) (fun v13 h14 => ?_)
        refine q_iload_n 0 dX12_fill_56 rfl ?_
        refine q_iconst (x := (1 : Int32)) dX12_fill_57 rfl ?_
        refine q_iadd dX12_fill_58 ?_
        refine q_iald dX12_fill_59 (fun v15 h16 => ?_)
        refine q_isub dX12_fill_60 ?_
        refine q_iconst (x := (0 : Int32)) dX12_fill_61 rfl ?_
        refine q_bipush (x := (9 : Int32)) dX12_fill_62 rfl ?_
        refine q_cSI (Y2 := Y_X12_in) (As := [.int (v11 - v15), .int (0 : Int32), .int (9 : Int32)]) (st := []) ms_X12_in qw_1214 dX12_fill_64 ⟨Nat.le_of_ble_eq_true rfl, Nat.le_of_ble_eq_true rfl⟩ rfl (fun _ _ => rfl) (Nat.le_of_ble_eq_true rfl) ⟨Nat.le_of_ble_eq_true rfl, Nat.le_of_ble_eq_true rfl⟩ (fun v18 h17 => m_X12_in h17) (fun v18 h17 => ?_)
        refine q_if_ne (tgt := 73) dX12_fill_67 (by decide) (fun c23 => ?_) (fun c23 => ?_)
        · refine q_bipush (x := (-3 : Int32)) dX12_fill_70 rfl ?_
          exact q_iret dX12_fill_72 rfl rfl (Nat.le_of_ble_eq_true rfl) rfl
        · refine q_aload_n 1 dX12_fill_73 rfl ?_
          refine q_getR (f := 0) cl_X12 (by decide) qw_1117 rfl dX12_fill_74 (fun _ _ _ => rfl) (fun v19 h20 => ?_)
          refine q_iload_n 0 dX12_fill_77 rfl ?_
          refine q_iconst (x := (3 : Int32)) dX12_fill_78 rfl ?_
          refine q_iadd dX12_fill_79 ?_
          refine q_iload_n 2 dX12_fill_80 rfl ?_
          refine q_iast dX12_fill_81 (fun M21 h22 => ?_)
          refine q_iconst (x := (1 : Int32)) dX12_fill_82 rfl ?_
          exact q_iret dX12_fill_83 rfl rfl (Nat.le_of_ble_eq_true rfl) rfl
      · refine q_bipush (x := (-3 : Int32)) dX12_fill_70 rfl ?_
        exact q_iret dX12_fill_72 rfl rfl (Nat.le_of_ble_eq_true rfl) rfl
theorem dX12_cansOf_0 : decode cX12_cansOf 0 = .ok (.iconst 0, 1) := by decide +kernel
theorem dX12_cansOf_1 : decode cX12_cansOf 1 = .ok (.istore_n 2, 1) := by decide +kernel
theorem dX12_cansOf_2 : decode cX12_cansOf 2 = .ok (.iconst 0, 1) := by decide +kernel
theorem dX12_cansOf_3 : decode cX12_cansOf 3 = .ok (.istore_n 3, 1) := by decide +kernel
theorem dX12_cansOf_4 : decode cX12_cansOf 4 = .ok (.iload_n 3, 1) := by decide +kernel
theorem dX12_cansOf_5 : decode cX12_cansOf 5 = .ok (.aload_n 0, 1) := by decide +kernel
theorem dX12_cansOf_6 : decode cX12_cansOf 6 = .ok (.getfield 7, 3) := by decide +kernel
theorem dX12_cansOf_9 : decode cX12_cansOf 9 = .ok (.iconst 1, 1) := by decide +kernel
theorem dX12_cansOf_10 : decode cX12_cansOf 10 = .ok (.iaload, 1) := by decide +kernel
theorem dX12_cansOf_11 : decode cX12_cansOf 11 = .ok (.if_icmp .ge 34, 3) := by decide +kernel
theorem dX12_cansOf_14 : decode cX12_cansOf 14 = .ok (.iload_n 2, 1) := by decide +kernel
theorem dX12_cansOf_15 : decode cX12_cansOf 15 = .ok (.aload_n 0, 1) := by decide +kernel
theorem dX12_cansOf_16 : decode cX12_cansOf 16 = .ok (.getfield 7, 3) := by decide +kernel
theorem dX12_cansOf_19 : decode cX12_cansOf 19 = .ok (.bipush 100, 2) := by decide +kernel
theorem dX12_cansOf_21 : decode cX12_cansOf 21 = .ok (.iconst 4, 1) := by decide +kernel
theorem dX12_cansOf_22 : decode cX12_cansOf 22 = .ok (.iload_n 3, 1) := by decide +kernel
theorem dX12_cansOf_23 : decode cX12_cansOf 23 = .ok (.imul, 1) := by decide +kernel
theorem dX12_cansOf_24 : decode cX12_cansOf 24 = .ok (.iadd, 1) := by decide +kernel
theorem dX12_cansOf_25 : decode cX12_cansOf 25 = .ok (.iconst 3, 1) := by decide +kernel
theorem dX12_cansOf_26 : decode cX12_cansOf 26 = .ok (.iadd, 1) := by decide +kernel
theorem dX12_cansOf_27 : decode cX12_cansOf 27 = .ok (.iaload, 1) := by decide +kernel
theorem dX12_cansOf_28 : decode cX12_cansOf 28 = .ok (.iload_n 1, 1) := by decide +kernel
theorem dX12_cansOf_29 : decode cX12_cansOf 29 = .ok (.if_icmp .ne 7, 3) := by decide +kernel
theorem dX12_cansOf_32 : decode cX12_cansOf 32 = .ok (.iconst 1, 1) := by decide +kernel
theorem dX12_cansOf_33 : decode cX12_cansOf 33 = .ok (.goto 4, 3) := by decide +kernel
theorem dX12_cansOf_36 : decode cX12_cansOf 36 = .ok (.iconst 0, 1) := by decide +kernel
theorem dX12_cansOf_37 : decode cX12_cansOf 37 = .ok (.iadd, 1) := by decide +kernel
theorem dX12_cansOf_38 : decode cX12_cansOf 38 = .ok (.istore_n 2, 1) := by decide +kernel
theorem dX12_cansOf_39 : decode cX12_cansOf 39 = .ok (.iinc 3 1, 3) := by decide +kernel
theorem dX12_cansOf_42 : decode cX12_cansOf 42 = .ok (.goto (-38), 3) := by decide +kernel
theorem dX12_cansOf_45 : decode cX12_cansOf 45 = .ok (.iload_n 2, 1) := by decide +kernel
theorem dX12_cansOf_46 : decode cX12_cansOf 46 = .ok (.ireturn, 1) := by decide +kernel
def f_X12_cansOf_b4 (M : q_Mem) (a0 : Nat) (a1 : Int32) : Nat → Int32 → Int32 → Option Int32
  | 0, _, _ => none
  | n + 1, a2, a3 =>
    (q_gR 11 0 M a0).bind fun v1 =>
    (q_lI M v1 (1 : Int32)).bind fun v3 =>
    (if a3 < v3 then
      (q_gR 11 0 M a0).bind fun v5 =>
      (q_lI M v5 (((100 : Int32) + ((4 : Int32) * a3)) + (3 : Int32))).bind fun v7 =>
      (if v7 = a1 then
        f_X12_cansOf_b4 M a0 a1 n (a2 + (1 : Int32)) (a3 + (1 : Int32))
      else
        f_X12_cansOf_b4 M a0 a1 n (a2 + (0 : Int32)) (a3 + (1 : Int32)))
    else
      some a2)
def f_X12_cansOf (M : q_Mem) (a0 : Nat) (a1 : Int32) : Option Int32 :=
  q_ob 11 M a0 (f_X12_cansOf_b4 M a0 a1 q_fuel (0 : Int32) (0 : Int32))
set_option maxRecDepth 20000 in
theorem v_X12_cansOf_b4 {M : q_Mem} {a0 : Nat} {a1 : Int32}  : ∀ (n : Nat) (a2 : Int32) (a3 : Int32), q_V Y_X12_cansOf none (fun x : Int32 => (some (.int x), M)) 0 0 4 [(0, .ref a0), (1, .int a1), (2, .int a2), (3, .int a3)] [] M (f_X12_cansOf_b4 M a0 a1 n a2 a3) := by
  intro n
  induction n with
  | zero => intro a2 a3; exact q_none
  | succ n ih =>
    intro a2 a3
    rw [f_X12_cansOf_b4.eq_2]
    refine q_iload_n 3 dX12_cansOf_4 rfl ?_
    refine q_aload_n 0 dX12_cansOf_5 rfl ?_
    refine q_getR (f := 0) cl_X12 (by decide) qw_1117 rfl dX12_cansOf_6 (fun _ _ _ => rfl) (fun v1 h2 => ?_)
    refine q_iconst (x := (1 : Int32)) dX12_cansOf_9 rfl ?_
    refine q_iald dX12_cansOf_10 (fun v3 h4 => ?_)
    refine q_icmp_ge (tgt := 45) dX12_cansOf_11 (by decide) (fun c10 => ?_) (fun c10 => ?_)
    · refine q_iload_n 2 dX12_cansOf_14 rfl ?_
      refine q_aload_n 0 dX12_cansOf_15 rfl ?_
      refine q_getR (f := 0) cl_X12 (by decide) qw_1117 rfl dX12_cansOf_16 (fun _ _ _ => rfl) (fun v5 h6 => ?_)
      refine q_bipush (x := (100 : Int32)) dX12_cansOf_19 rfl ?_
      refine q_iconst (x := (4 : Int32)) dX12_cansOf_21 rfl ?_
      refine q_iload_n 3 dX12_cansOf_22 rfl ?_
      refine q_imul dX12_cansOf_23 ?_
      refine q_iadd dX12_cansOf_24 ?_
      refine q_iconst (x := (3 : Int32)) dX12_cansOf_25 rfl ?_
      refine q_iadd dX12_cansOf_26 ?_
      refine q_iald dX12_cansOf_27 (fun v7 h8 => ?_)
      refine q_iload_n 1 dX12_cansOf_28 rfl ?_
      refine q_icmp_ne (tgt := 36) dX12_cansOf_29 (by decide) (fun c9 => ?_) (fun c9 => ?_)
      · refine q_iconst (x := (1 : Int32)) dX12_cansOf_32 rfl ?_
        refine q_goto (tgt := 37) dX12_cansOf_33 (by decide) ?_
        refine q_iadd dX12_cansOf_37 ?_
        refine q_istore_n (ls' := [(2, .int (a2 + (1 : Int32))), (0, .ref a0), (1, .int a1), (3, .int a3)]) dX12_cansOf_38 (by decide) rfl ?_
        refine q_iinc 3 (y := (a3 + (1 : Int32))) (ls' := [(3, .int (a3 + (1 : Int32))), (2, .int (a2 + (1 : Int32))), (0, .ref a0), (1, .int a1)]) dX12_cansOf_39 rfl rfl (by decide) rfl ?_
        refine q_goto (tgt := 4) dX12_cansOf_42 (by decide) ?_
        refine q_sub (ls' := [(0, .ref a0), (1, .int a1), (2, .int (a2 + (1 : Int32))), (3, .int (a3 + (1 : Int32)))]) [2, 3, 1, 0] rfl ?_
        exact ih _ _
      · refine q_iconst (x := (0 : Int32)) dX12_cansOf_36 rfl ?_
        refine q_iadd dX12_cansOf_37 ?_
        refine q_istore_n (ls' := [(2, .int (a2 + (0 : Int32))), (0, .ref a0), (1, .int a1), (3, .int a3)]) dX12_cansOf_38 (by decide) rfl ?_
        refine q_iinc 3 (y := (a3 + (1 : Int32))) (ls' := [(3, .int (a3 + (1 : Int32))), (2, .int (a2 + (0 : Int32))), (0, .ref a0), (1, .int a1)]) dX12_cansOf_39 rfl rfl (by decide) rfl ?_
        refine q_goto (tgt := 4) dX12_cansOf_42 (by decide) ?_
        refine q_sub (ls' := [(0, .ref a0), (1, .int a1), (2, .int (a2 + (0 : Int32))), (3, .int (a3 + (1 : Int32)))]) [2, 3, 1, 0] rfl ?_
        exact ih _ _
    · refine q_iload_n 2 dX12_cansOf_45 rfl ?_
      exact q_iret dX12_cansOf_46 rfl rfl (Nat.le_of_ble_eq_true rfl) rfl
set_option maxRecDepth 20000 in
theorem m_X12_cansOf {M : q_Mem} {a0 : Nat} {a1 : Int32} {x : Int32} (h : f_X12_cansOf M a0 a1 = some x) : q_C Y_X12_cansOf [.ref a0, .int a1] M (some (.int x)) M := by
  refine q_met (φ := (fun x : Int32 => (some (.int x), M))) (r := f_X12_cansOf M a0 a1) (by decide +kernel) (Nat.le_of_ble_eq_true rfl) ?_ h (fun _ _ => rfl)
  show q_V Y_X12_cansOf none (fun x : Int32 => (some (.int x), M)) 0 0 0 [(0, .ref a0), (1, .int a1)] [] M (f_X12_cansOf M a0 a1)
  unfold f_X12_cansOf
  refine q_obV ?_
  refine q_iconst (x := (0 : Int32)) dX12_cansOf_0 rfl ?_
  refine q_istore_n (ls' := [(2, .int (0 : Int32)), (0, .ref a0), (1, .int a1)]) dX12_cansOf_1 (by decide) rfl ?_
  refine q_iconst (x := (0 : Int32)) dX12_cansOf_2 rfl ?_
  refine q_istore_n (ls' := [(3, .int (0 : Int32)), (2, .int (0 : Int32)), (0, .ref a0), (1, .int a1)]) dX12_cansOf_3 (by decide) rfl ?_
  refine q_sub (ls' := [(0, .ref a0), (1, .int a1), (2, .int (0 : Int32)), (3, .int (0 : Int32))]) [2, 3, 1, 0] rfl ?_
  exact v_X12_cansOf_b4 _ _ _
theorem dX12_size_0 : decode cX12_size 0 = .ok (.iload_n 0, 1) := by decide +kernel
theorem dX12_size_1 : decode cX12_size 1 = .ok (.ifCond .ge 8, 3) := by decide +kernel
theorem dX12_size_4 : decode cX12_size 4 = .ok (.iload_n 0, 1) := by decide +kernel
theorem dX12_size_5 : decode cX12_size 5 = .ok (.ineg, 1) := by decide +kernel
theorem dX12_size_6 : decode cX12_size 6 = .ok (.goto 4, 3) := by decide +kernel
theorem dX12_size_9 : decode cX12_size 9 = .ok (.iload_n 0, 1) := by decide +kernel
theorem dX12_size_10 : decode cX12_size 10 = .ok (.ireturn, 1) := by decide +kernel
def f_X12_size (M : q_Mem) (a0 : Int32) : Option Int32 :=
  (if a0 < 0 then
    some (-a0)
  else
    some a0)
set_option maxRecDepth 20000 in
theorem m_X12_size {M : q_Mem} {a0 : Int32} {x : Int32} (h : f_X12_size M a0 = some x) : q_C Y_X12_size [.int a0] M (some (.int x)) M := by
  refine q_met (φ := (fun x : Int32 => (some (.int x), M))) (r := f_X12_size M a0) (by decide +kernel) (Nat.le_of_ble_eq_true rfl) ?_ h (fun _ _ => rfl)
  show q_V Y_X12_size none (fun x : Int32 => (some (.int x), M)) 0 0 0 [(0, .int a0)] [] M (f_X12_size M a0)
  unfold f_X12_size
  refine q_iload_n 0 dX12_size_0 rfl ?_
  refine q_if_ge (tgt := 9) dX12_size_1 (by decide) (fun c1 => ?_) (fun c1 => ?_)
  · refine q_iload_n 0 dX12_size_4 rfl ?_
    refine q_ineg dX12_size_5 ?_
    refine q_goto (tgt := 10) dX12_size_6 (by decide) ?_
    exact q_iret dX12_size_10 rfl rfl (Nat.le_of_ble_eq_true rfl) rfl
  · refine q_iload_n 0 dX12_size_9 rfl ?_
    exact q_iret dX12_size_10 rfl rfl (Nat.le_of_ble_eq_true rfl) rfl
theorem dX12_lossOf_0 : decode cX12_lossOf 0 = .ok (.iconst 0, 1) := by decide +kernel
theorem dX12_lossOf_1 : decode cX12_lossOf 1 = .ok (.istore_n 2, 1) := by decide +kernel
theorem dX12_lossOf_2 : decode cX12_lossOf 2 = .ok (.iconst 0, 1) := by decide +kernel
theorem dX12_lossOf_3 : decode cX12_lossOf 3 = .ok (.istore_n 3, 1) := by decide +kernel
theorem dX12_lossOf_4 : decode cX12_lossOf 4 = .ok (.iload_n 3, 1) := by decide +kernel
theorem dX12_lossOf_5 : decode cX12_lossOf 5 = .ok (.aload_n 0, 1) := by decide +kernel
theorem dX12_lossOf_6 : decode cX12_lossOf 6 = .ok (.getfield 7, 3) := by decide +kernel
theorem dX12_lossOf_9 : decode cX12_lossOf 9 = .ok (.iconst 1, 1) := by decide +kernel
theorem dX12_lossOf_10 : decode cX12_lossOf 10 = .ok (.iaload, 1) := by decide +kernel
theorem dX12_lossOf_11 : decode cX12_lossOf 11 = .ok (.if_icmp .ge 67, 3) := by decide +kernel
theorem dX12_lossOf_14 : decode cX12_lossOf 14 = .ok (.aload_n 0, 1) := by decide +kernel
theorem dX12_lossOf_15 : decode cX12_lossOf 15 = .ok (.getfield 7, 3) := by decide +kernel
theorem dX12_lossOf_18 : decode cX12_lossOf 18 = .ok (.sipush 2700, 3) := by decide +kernel
theorem dX12_lossOf_21 : decode cX12_lossOf 21 = .ok (.iconst 3, 1) := by decide +kernel
theorem dX12_lossOf_22 : decode cX12_lossOf 22 = .ok (.iload_n 1, 1) := by decide +kernel
theorem dX12_lossOf_23 : decode cX12_lossOf 23 = .ok (.imul, 1) := by decide +kernel
theorem dX12_lossOf_24 : decode cX12_lossOf 24 = .ok (.iadd, 1) := by decide +kernel
theorem dX12_lossOf_25 : decode cX12_lossOf 25 = .ok (.iaload, 1) := by decide +kernel
theorem dX12_lossOf_26 : decode cX12_lossOf 26 = .ok (.aload_n 0, 1) := by decide +kernel
theorem dX12_lossOf_27 : decode cX12_lossOf 27 = .ok (.getfield 7, 3) := by decide +kernel
theorem dX12_lossOf_30 : decode cX12_lossOf 30 = .ok (.bipush 100, 2) := by decide +kernel
theorem dX12_lossOf_32 : decode cX12_lossOf 32 = .ok (.iconst 4, 1) := by decide +kernel
theorem dX12_lossOf_33 : decode cX12_lossOf 33 = .ok (.iload_n 3, 1) := by decide +kernel
theorem dX12_lossOf_34 : decode cX12_lossOf 34 = .ok (.imul, 1) := by decide +kernel
theorem dX12_lossOf_35 : decode cX12_lossOf 35 = .ok (.iadd, 1) := by decide +kernel
theorem dX12_lossOf_36 : decode cX12_lossOf 36 = .ok (.iconst 1, 1) := by decide +kernel
theorem dX12_lossOf_37 : decode cX12_lossOf 37 = .ok (.iadd, 1) := by decide +kernel
theorem dX12_lossOf_38 : decode cX12_lossOf 38 = .ok (.iaload, 1) := by decide +kernel
theorem dX12_lossOf_39 : decode cX12_lossOf 39 = .ok (.isub, 1) := by decide +kernel
theorem dX12_lossOf_40 : decode cX12_lossOf 40 = .ok (.istore 4, 2) := by decide +kernel
theorem dX12_lossOf_42 : decode cX12_lossOf 42 = .ok (.aload_n 0, 1) := by decide +kernel
theorem dX12_lossOf_43 : decode cX12_lossOf 43 = .ok (.getfield 7, 3) := by decide +kernel
theorem dX12_lossOf_46 : decode cX12_lossOf 46 = .ok (.bipush 100, 2) := by decide +kernel
theorem dX12_lossOf_48 : decode cX12_lossOf 48 = .ok (.iconst 4, 1) := by decide +kernel
theorem dX12_lossOf_49 : decode cX12_lossOf 49 = .ok (.iload_n 3, 1) := by decide +kernel
theorem dX12_lossOf_50 : decode cX12_lossOf 50 = .ok (.imul, 1) := by decide +kernel
theorem dX12_lossOf_51 : decode cX12_lossOf 51 = .ok (.iadd, 1) := by decide +kernel
theorem dX12_lossOf_52 : decode cX12_lossOf 52 = .ok (.iconst 3, 1) := by decide +kernel
theorem dX12_lossOf_53 : decode cX12_lossOf 53 = .ok (.iadd, 1) := by decide +kernel
theorem dX12_lossOf_54 : decode cX12_lossOf 54 = .ok (.iaload, 1) := by decide +kernel
theorem dX12_lossOf_55 : decode cX12_lossOf 55 = .ok (.iload_n 1, 1) := by decide +kernel
theorem dX12_lossOf_56 : decode cX12_lossOf 56 = .ok (.if_icmp .ne 14, 3) := by decide +kernel
theorem dX12_lossOf_59 : decode cX12_lossOf 59 = .ok (.iload 4, 2) := by decide +kernel
theorem dX12_lossOf_61 : decode cX12_lossOf 61 = .ok (.iload_n 2, 1) := by decide +kernel
theorem dX12_lossOf_62 : decode cX12_lossOf 62 = .ok (.if_icmp .le 8, 3) := by decide +kernel
theorem dX12_lossOf_65 : decode cX12_lossOf 65 = .ok (.iload 4, 2) := by decide +kernel
theorem dX12_lossOf_67 : decode cX12_lossOf 67 = .ok (.goto 4, 3) := by decide +kernel
theorem dX12_lossOf_70 : decode cX12_lossOf 70 = .ok (.iload_n 2, 1) := by decide +kernel
theorem dX12_lossOf_71 : decode cX12_lossOf 71 = .ok (.istore_n 2, 1) := by decide +kernel
theorem dX12_lossOf_72 : decode cX12_lossOf 72 = .ok (.iinc 3 1, 3) := by decide +kernel
theorem dX12_lossOf_75 : decode cX12_lossOf 75 = .ok (.goto (-71), 3) := by decide +kernel
theorem dX12_lossOf_78 : decode cX12_lossOf 78 = .ok (.iconst 5, 1) := by decide +kernel
theorem dX12_lossOf_79 : decode cX12_lossOf 79 = .ok (.iconst 2, 1) := by decide +kernel
theorem dX12_lossOf_80 : decode cX12_lossOf 80 = .ok (.aload_n 0, 1) := by decide +kernel
theorem dX12_lossOf_81 : decode cX12_lossOf 81 = .ok (.getfield 7, 3) := by decide +kernel
theorem dX12_lossOf_84 : decode cX12_lossOf 84 = .ok (.sipush 2700, 3) := by decide +kernel
theorem dX12_lossOf_87 : decode cX12_lossOf 87 = .ok (.iconst 3, 1) := by decide +kernel
theorem dX12_lossOf_88 : decode cX12_lossOf 88 = .ok (.iload_n 1, 1) := by decide +kernel
theorem dX12_lossOf_89 : decode cX12_lossOf 89 = .ok (.imul, 1) := by decide +kernel
theorem dX12_lossOf_90 : decode cX12_lossOf 90 = .ok (.iadd, 1) := by decide +kernel
theorem dX12_lossOf_91 : decode cX12_lossOf 91 = .ok (.iconst 1, 1) := by decide +kernel
theorem dX12_lossOf_92 : decode cX12_lossOf 92 = .ok (.iadd, 1) := by decide +kernel
theorem dX12_lossOf_93 : decode cX12_lossOf 93 = .ok (.iaload, 1) := by decide +kernel
theorem dX12_lossOf_94 : decode cX12_lossOf 94 = .ok (.bipush 55, 2) := by decide +kernel
theorem dX12_lossOf_96 : decode cX12_lossOf 96 = .ok (.isub, 1) := by decide +kernel
theorem dX12_lossOf_97 : decode cX12_lossOf 97 = .ok (.invokestatic 129, 3) := by decide +kernel
theorem dX12_lossOf_100 : decode cX12_lossOf 100 = .ok (.imul, 1) := by decide +kernel
theorem dX12_lossOf_101 : decode cX12_lossOf 101 = .ok (.iadd, 1) := by decide +kernel
theorem dX12_lossOf_102 : decode cX12_lossOf 102 = .ok (.bipush 10, 2) := by decide +kernel
theorem dX12_lossOf_104 : decode cX12_lossOf 104 = .ok (.iload_n 2, 1) := by decide +kernel
theorem dX12_lossOf_105 : decode cX12_lossOf 105 = .ok (.imul, 1) := by decide +kernel
theorem dX12_lossOf_106 : decode cX12_lossOf 106 = .ok (.iadd, 1) := by decide +kernel
theorem dX12_lossOf_107 : decode cX12_lossOf 107 = .ok (.ireturn, 1) := by decide +kernel
def f_X12_lossOf_b78 (M : q_Mem) (a0 : Nat) (a1 : Int32) (a2 : Int32) : Option Int32 :=
  (q_gR 11 0 M a0).bind fun v20 =>
  (q_lI M v20 (((2700 : Int32) + ((3 : Int32) * a1)) + (1 : Int32))).bind fun v22 =>
  (f_X12_size M (v22 - (55 : Int32))).bind fun v25 =>
  some (((5 : Int32) + ((2 : Int32) * v25)) + ((10 : Int32) * a2))
def f_X12_lossOf_b4 (M : q_Mem) (a0 : Nat) (a1 : Int32) : Nat → Int32 → Int32 → Option Int32
  | 0, _, _ => none
  | n + 1, a2, a3 =>
    (q_gR 11 0 M a0).bind fun v1 =>
    (q_lI M v1 (1 : Int32)).bind fun v3 =>
    (if a3 < v3 then
      (q_gR 11 0 M a0).bind fun v5 =>
      (q_lI M v5 ((2700 : Int32) + ((3 : Int32) * a1))).bind fun v7 =>
      (q_gR 11 0 M a0).bind fun v9 =>
      (q_lI M v9 (((100 : Int32) + ((4 : Int32) * a3)) + (1 : Int32))).bind fun v11 =>
      (q_gR 11 0 M a0).bind fun v13 =>
      (q_lI M v13 (((100 : Int32) + ((4 : Int32) * a3)) + (3 : Int32))).bind fun v15 =>
      (if v15 = a1 then
        (if a2 < (v7 - v11) then
          f_X12_lossOf_b4 M a0 a1 n (v7 - v11) (a3 + (1 : Int32))
        else
          f_X12_lossOf_b4 M a0 a1 n a2 (a3 + (1 : Int32)))
      else
        f_X12_lossOf_b4 M a0 a1 n a2 (a3 + (1 : Int32)))
    else
      f_X12_lossOf_b78 M a0 a1 a2)
def f_X12_lossOf (M : q_Mem) (a0 : Nat) (a1 : Int32) : Option Int32 :=
  q_ob 11 M a0 (f_X12_lossOf_b4 M a0 a1 q_fuel (0 : Int32) (0 : Int32))
set_option maxRecDepth 20000 in
theorem v_X12_lossOf_b78 {M : q_Mem} {a0 : Nat} {a1 : Int32} {a2 : Int32}  : q_V Y_X12_lossOf none (fun x : Int32 => (some (.int x), M)) 0 0 78 [(0, .ref a0), (1, .int a1), (2, .int a2)] [] M (f_X12_lossOf_b78 M a0 a1 a2 ) := by
  unfold f_X12_lossOf_b78
  refine q_iconst (x := (5 : Int32)) dX12_lossOf_78 rfl ?_
  refine q_iconst (x := (2 : Int32)) dX12_lossOf_79 rfl ?_
  refine q_aload_n 0 dX12_lossOf_80 rfl ?_
  refine q_getR (f := 0) cl_X12 (by decide) qw_1117 rfl dX12_lossOf_81 (fun _ _ _ => rfl) (fun v20 h21 => ?_)
  refine q_sipush (x := (2700 : Int32)) dX12_lossOf_84 rfl ?_
  refine q_iconst (x := (3 : Int32)) dX12_lossOf_87 rfl ?_
  refine q_iload_n 1 dX12_lossOf_88 rfl ?_
  refine q_imul dX12_lossOf_89 ?_
  refine q_iadd dX12_lossOf_90 ?_
  refine q_iconst (x := (1 : Int32)) dX12_lossOf_91 rfl ?_
  refine q_iadd dX12_lossOf_92 ?_
  refine q_iald dX12_lossOf_93 (fun v22 h23 => ?_)
  refine q_bipush (x := (55 : Int32)) dX12_lossOf_94 rfl ?_
  refine q_isub dX12_lossOf_96 ?_
  refine q_cSI (Y2 := Y_X12_size) (As := [.int (v22 - (55 : Int32))]) (st := [.int (2 : Int32), .int (5 : Int32)]) ms_X12_size qw_1324 dX12_lossOf_97 ⟨Nat.le_of_ble_eq_true rfl, Nat.le_of_ble_eq_true rfl⟩ rfl (fun _ _ => rfl) (Nat.le_of_ble_eq_true rfl) ⟨Nat.le_of_ble_eq_true rfl, Nat.le_of_ble_eq_true rfl⟩ (fun v25 h24 => m_X12_size h24) (fun v25 h24 => ?_)
  refine q_imul dX12_lossOf_100 ?_
  refine q_iadd dX12_lossOf_101 ?_
  refine q_bipush (x := (10 : Int32)) dX12_lossOf_102 rfl ?_
  refine q_iload_n 2 dX12_lossOf_104 rfl ?_
  refine q_imul dX12_lossOf_105 ?_
  refine q_iadd dX12_lossOf_106 ?_
  exact q_iret dX12_lossOf_107 rfl rfl (Nat.le_of_ble_eq_true rfl) rfl
set_option maxRecDepth 20000 in
theorem v_X12_lossOf_b4 {M : q_Mem} {a0 : Nat} {a1 : Int32}  : ∀ (n : Nat) (a2 : Int32) (a3 : Int32), q_V Y_X12_lossOf none (fun x : Int32 => (some (.int x), M)) 0 0 4 [(0, .ref a0), (1, .int a1), (2, .int a2), (3, .int a3)] [] M (f_X12_lossOf_b4 M a0 a1 n a2 a3) := by
  intro n
  induction n with
  | zero => intro a2 a3; exact q_none
  | succ n ih =>
    intro a2 a3
    rw [f_X12_lossOf_b4.eq_2]
    refine q_iload_n 3 dX12_lossOf_4 rfl ?_
    refine q_aload_n 0 dX12_lossOf_5 rfl ?_
    refine q_getR (f := 0) cl_X12 (by decide) qw_1117 rfl dX12_lossOf_6 (fun _ _ _ => rfl) (fun v1 h2 => ?_)
    refine q_iconst (x := (1 : Int32)) dX12_lossOf_9 rfl ?_
    refine q_iald dX12_lossOf_10 (fun v3 h4 => ?_)
    refine q_icmp_ge (tgt := 78) dX12_lossOf_11 (by decide) (fun c19 => ?_) (fun c19 => ?_)
    · refine q_aload_n 0 dX12_lossOf_14 rfl ?_
      refine q_getR (f := 0) cl_X12 (by decide) qw_1117 rfl dX12_lossOf_15 (fun _ _ _ => rfl) (fun v5 h6 => ?_)
      refine q_sipush (x := (2700 : Int32)) dX12_lossOf_18 rfl ?_
      refine q_iconst (x := (3 : Int32)) dX12_lossOf_21 rfl ?_
      refine q_iload_n 1 dX12_lossOf_22 rfl ?_
      refine q_imul dX12_lossOf_23 ?_
      refine q_iadd dX12_lossOf_24 ?_
      refine q_iald dX12_lossOf_25 (fun v7 h8 => ?_)
      refine q_aload_n 0 dX12_lossOf_26 rfl ?_
      refine q_getR (f := 0) cl_X12 (by decide) qw_1117 rfl dX12_lossOf_27 (fun _ _ _ => rfl) (fun v9 h10 => ?_)
      refine q_bipush (x := (100 : Int32)) dX12_lossOf_30 rfl ?_
      refine q_iconst (x := (4 : Int32)) dX12_lossOf_32 rfl ?_
      refine q_iload_n 3 dX12_lossOf_33 rfl ?_
      refine q_imul dX12_lossOf_34 ?_
      refine q_iadd dX12_lossOf_35 ?_
      refine q_iconst (x := (1 : Int32)) dX12_lossOf_36 rfl ?_
      refine q_iadd dX12_lossOf_37 ?_
      refine q_iald dX12_lossOf_38 (fun v11 h12 => ?_)
      refine q_isub dX12_lossOf_39 ?_
      refine q_istore (ls' := [(4, .int (v7 - v11)), (0, .ref a0), (1, .int a1), (2, .int a2), (3, .int a3)]) dX12_lossOf_40 (by decide) rfl ?_
      refine q_aload_n 1 dX12_lossOf_42 rfl ?_
      refine q_getR (f := 0) cl_X12 (by decide) qw_1117 rfl dX12_lossOf_43 (fun _ _ _ => rfl) (fun v13 h14 => ?_)
      refine q_bipush (x := (100 : Int32)) dX12_lossOf_46 rfl ?_
      refine q_iconst (x := (4 : Int32)) dX12_lossOf_48 rfl ?_
      refine q_iload_n 4 dX12_lossOf_49 rfl ?_
      refine q_imul dX12_lossOf_50 ?_
      refine q_iadd dX12_lossOf_51 ?_
      refine q_iconst (x := (3 : Int32)) dX12_lossOf_52 rfl ?_
      refine q_iadd dX12_lossOf_53 ?_
      refine q_iald dX12_lossOf_54 (fun v15 h16 => ?_)
      refine q_iload_n 2 dX12_lossOf_55 rfl ?_
      refine q_icmp_ne (tgt := 70) dX12_lossOf_56 (by decide) (fun c18 => ?_) (fun c18 => ?_)
      · refine q_iload 0 dX12_lossOf_59 rfl ?_
        refine q_iload_n 3 dX12_lossOf_61 rfl ?_
        refine q_icmp_le (tgt := 70) dX12_lossOf_62 (by decide) (fun c17 => ?_) (fun c17 => ?_)
        · refine q_iload 0 dX12_lossOf_65 rfl ?_
          refine q_goto (tgt := 71) dX12_lossOf_67 (by decide) ?_
          refine q_istore_n (ls' := [(2, .int (v7 - v11)), (4, .int (v7 - v11)), (0, .ref a0), (1, .int a1), (3, .int a3)]) dX12_lossOf_71 (by decide) rfl ?_
          refine q_iinc 4 (y := (a3 + (1 : Int32))) (ls' := [(3, .int (a3 + (1 : Int32))), (2, .int (v7 - v11)), (4, .int (v7 - v11)), (0, .ref a0), (1, .int a1)]) dX12_lossOf_72 rfl rfl (by decide) rfl ?_
          refine q_goto (tgt := 4) dX12_lossOf_75 (by decide) ?_
          refine q_sub (ls' := [(0, .ref a0), (1, .int a1), (2, .int (v7 - v11)), (3, .int (a3 + (1 : Int32)))]) [3, 4, 1, 0] rfl ?_
          exact ih _ _
        · refine q_iload_n 3 dX12_lossOf_70 rfl ?_
          refine q_istore_n (ls' := [(2, .int a2), (4, .int (v7 - v11)), (0, .ref a0), (1, .int a1), (3, .int a3)]) dX12_lossOf_71 (by decide) rfl ?_
          refine q_iinc 4 (y := (a3 + (1 : Int32))) (ls' := [(3, .int (a3 + (1 : Int32))), (2, .int a2), (4, .int (v7 - v11)), (0, .ref a0), (1, .int a1)]) dX12_lossOf_72 rfl rfl (by decide) rfl ?_
          refine q_goto (tgt := 4) dX12_lossOf_75 (by decide) ?_
          refine q_sub (ls' := [(0, .ref a0), (1, .int a1), (2, .int a2), (3, .int (a3 + (1 : Int32)))]) [3, 4, 1, 0] rfl ?_
          exact ih _ _
      · refine q_iload_n 3 dX12_lossOf_70 rfl ?_
        refine q_istore_n (ls' := [(2, .int a2), (4, .int (v7 - v11)), (0, .ref a0), (1, .int a1), (3, .int a3)]) dX12_lossOf_71 (by decide) rfl ?_
        refine q_iinc 4 (y := (a3 + (1 : Int32))) (ls' := [(3, .int (a3 + (1 : Int32))), (2, .int a2), (4, .int (v7 - v11)), (0, .ref a0), (1, .int a1)]) dX12_lossOf_72 rfl rfl (by decide) rfl ?_
        refine q_goto (tgt := 4) dX12_lossOf_75 (by decide) ?_
        refine q_sub (ls' := [(0, .ref a0), (1, .int a1), (2, .int a2), (3, .int (a3 + (1 : Int32)))]) [3, 4, 1, 0] rfl ?_
        exact ih _ _
    · refine q_sub (ls' := [(0, .ref a0), (1, .int a1), (2, .int a2)]) [0, 1, 2] rfl ?_
      exact v_X12_lossOf_b78
set_option maxRecDepth 20000 in
theorem m_X12_lossOf {M : q_Mem} {a0 : Nat} {a1 : Int32} {x : Int32} (h : f_X12_lossOf M a0 a1 = some x) : q_C Y_X12_lossOf [.ref a0, .int a1] M (some (.int x)) M := by
  refine q_met (φ := (fun x : Int32 => (some (.int x), M))) (r := f_X12_lossOf M a0 a1) (by decide +kernel) (Nat.le_of_ble_eq_true rfl) ?_ h (fun _ _ => rfl)
  show q_V Y_X12_lossOf none (fun x : Int32 => (some (.int x), M)) 0 0 0 [(0, .ref a0), (1, .int a1)] [] M (f_X12_lossOf M a0 a1)
  unfold f_X12_lossOf
  refine q_obV ?_
  refine q_iconst (x := (0 : Int32)) dX12_lossOf_0 rfl ?_
  refine q_istore_n (ls' := [(2, .int (0 : Int32)), (0, .ref a0), (1, .int a1)]) dX12_lossOf_1 (by decide) rfl ?_
  refine q_iconst (x := (0 : Int32)) dX12_lossOf_2 rfl ?_
  refine q_istore_n (ls' := [(3, .int (0 : Int32)), (2, .int (0 : Int32)), (0, .ref a0), (1, .int a1)]) dX12_lossOf_3 (by decide) rfl ?_
  refine q_sub (ls' := [(0, .ref a0), (1, .int a1), (2, .int (0 : Int32)), (3, .int (0 : Int32))]) [2, 3, 1, 0] rfl ?_
  exact v_X12_lossOf_b4 _ _ _
theorem dX12_churnFat_0 : decode cX12_churnFat 0 = .ok (.lconst 0, 1) := by decide +kernel
theorem dX12_churnFat_1 : decode cX12_churnFat 1 = .ok (.lstore_n 3, 1) := by decide +kernel
theorem dX12_churnFat_2 : decode cX12_churnFat 2 = .ok (.iconst 0, 1) := by decide +kernel
theorem dX12_churnFat_3 : decode cX12_churnFat 3 = .ok (.istore 5, 2) := by decide +kernel
theorem dX12_churnFat_5 : decode cX12_churnFat 5 = .ok (.iload 5, 2) := by decide +kernel
theorem dX12_churnFat_7 : decode cX12_churnFat 7 = .ok (.aload_n 0, 1) := by decide +kernel
theorem dX12_churnFat_8 : decode cX12_churnFat 8 = .ok (.getfield 7, 3) := by decide +kernel
theorem dX12_churnFat_11 : decode cX12_churnFat 11 = .ok (.iconst 1, 1) := by decide +kernel
theorem dX12_churnFat_12 : decode cX12_churnFat 12 = .ok (.iaload, 1) := by decide +kernel
theorem dX12_churnFat_13 : decode cX12_churnFat 13 = .ok (.if_icmp .ge 61, 3) := by decide +kernel
theorem dX12_churnFat_16 : decode cX12_churnFat 16 = .ok (.lload_n 3, 1) := by decide +kernel
theorem dX12_churnFat_17 : decode cX12_churnFat 17 = .ok (.aload_n 0, 1) := by decide +kernel
theorem dX12_churnFat_18 : decode cX12_churnFat 18 = .ok (.getfield 7, 3) := by decide +kernel
theorem dX12_churnFat_21 : decode cX12_churnFat 21 = .ok (.bipush 100, 2) := by decide +kernel
theorem dX12_churnFat_23 : decode cX12_churnFat 23 = .ok (.iconst 4, 1) := by decide +kernel
theorem dX12_churnFat_24 : decode cX12_churnFat 24 = .ok (.iload 5, 2) := by decide +kernel
theorem dX12_churnFat_26 : decode cX12_churnFat 26 = .ok (.imul, 1) := by decide +kernel
theorem dX12_churnFat_27 : decode cX12_churnFat 27 = .ok (.iadd, 1) := by decide +kernel
theorem dX12_churnFat_28 : decode cX12_churnFat 28 = .ok (.iconst 3, 1) := by decide +kernel
theorem dX12_churnFat_29 : decode cX12_churnFat 29 = .ok (.iadd, 1) := by decide +kernel
theorem dX12_churnFat_30 : decode cX12_churnFat 30 = .ok (.iaload, 1) := by decide +kernel
theorem dX12_churnFat_31 : decode cX12_churnFat 31 = .ok (.iload_n 1, 1) := by decide +kernel
theorem dX12_churnFat_32 : decode cX12_churnFat 32 = .ok (.if_icmp .ne 33, 3) := by decide +kernel
theorem dX12_churnFat_35 : decode cX12_churnFat 35 = .ok (.iload_n 2, 1) := by decide +kernel
theorem dX12_churnFat_36 : decode cX12_churnFat 36 = .ok (.iconst (-1), 1) := by decide +kernel
theorem dX12_churnFat_37 : decode cX12_churnFat 37 = .ok (.if_icmp .eq 19, 3) := by decide +kernel
theorem dX12_churnFat_40 : decode cX12_churnFat 40 = .ok (.aload_n 0, 1) := by decide +kernel
theorem dX12_churnFat_41 : decode cX12_churnFat 41 = .ok (.getfield 7, 3) := by decide +kernel
theorem dX12_churnFat_44 : decode cX12_churnFat 44 = .ok (.bipush 100, 2) := by decide +kernel
theorem dX12_churnFat_46 : decode cX12_churnFat 46 = .ok (.iconst 4, 1) := by decide +kernel
theorem dX12_churnFat_47 : decode cX12_churnFat 47 = .ok (.iload 5, 2) := by decide +kernel
theorem dX12_churnFat_49 : decode cX12_churnFat 49 = .ok (.imul, 1) := by decide +kernel
theorem dX12_churnFat_50 : decode cX12_churnFat 50 = .ok (.iadd, 1) := by decide +kernel
theorem dX12_churnFat_51 : decode cX12_churnFat 51 = .ok (.iaload, 1) := by decide +kernel
theorem dX12_churnFat_52 : decode cX12_churnFat 52 = .ok (.iload_n 2, 1) := by decide +kernel
theorem dX12_churnFat_53 : decode cX12_churnFat 53 = .ok (.if_icmp .ne 12, 3) := by decide +kernel
theorem dX12_churnFat_56 : decode cX12_churnFat 56 = .ok (.aload_n 0, 1) := by decide +kernel
theorem dX12_churnFat_57 : decode cX12_churnFat 57 = .ok (.iload 5, 2) := by decide +kernel
theorem dX12_churnFat_59 : decode cX12_churnFat 59 = .ok (.invokevirtual 125, 3) := by decide +kernel
theorem dX12_churnFat_62 : decode cX12_churnFat 62 = .ok (.goto 4, 3) := by decide +kernel
theorem dX12_churnFat_65 : decode cX12_churnFat 65 = .ok (.lconst 0, 1) := by decide +kernel
theorem dX12_churnFat_66 : decode cX12_churnFat 66 = .ok (.ladd, 1) := by decide +kernel
theorem dX12_churnFat_67 : decode cX12_churnFat 67 = .ok (.lstore_n 3, 1) := by decide +kernel
theorem dX12_churnFat_68 : decode cX12_churnFat 68 = .ok (.iinc 5 1, 3) := by decide +kernel
theorem dX12_churnFat_71 : decode cX12_churnFat 71 = .ok (.goto (-66), 3) := by decide +kernel
theorem dX12_churnFat_74 : decode cX12_churnFat 74 = .ok (.lload_n 3, 1) := by decide +kernel
theorem dX12_churnFat_75 : decode cX12_churnFat 75 = .ok (.lreturn, 1) := by decide +kernel
def f_X12_churnFat_b65 (kk5 : Int64 → Int32 → Option Int64) (M : q_Mem) (a0 : Nat) (a1 : Int32) (a2 : Int32) (a5 : Int32) (s0 : Int64) : Option Int64 :=
  kk5 (s0 + (0 : Int64)) (a5 + (1 : Int32))
def f_X12_churnFat_b56 (kk5 : Int64 → Int32 → Option Int64) (M : q_Mem) (a0 : Nat) (a1 : Int32) (a2 : Int32) (a5 : Int32) (s0 : Int64) : Option Int64 :=
  (f_X12_fatOf M a0 a5).bind fun v18 =>
  kk5 (s0 + v18) (a5 + (1 : Int32))
def f_X12_churnFat_b5 (M : q_Mem) (a0 : Nat) (a1 : Int32) (a2 : Int32) : Nat → Int64 → Int32 → Option Int64
  | 0, _, _ => none
  | n + 1, a3, a5 =>
    (q_gR 11 0 M a0).bind fun v1 =>
    (q_lI M v1 (1 : Int32)).bind fun v3 =>
    (if a5 < v3 then
      (q_gR 11 0 M a0).bind fun v5 =>
      (q_lI M v5 (((100 : Int32) + ((4 : Int32) * a5)) + (3 : Int32))).bind fun v7 =>
      (if v7 = a1 then
        (if a2 = (-1 : Int32) then
          f_X12_churnFat_b56 (f_X12_churnFat_b5 M a0 a1 a2 n) M a0 a1 a2 a5 a3
        else
          (q_gR 11 0 M a0).bind fun v9 =>
          (q_lI M v9 ((100 : Int32) + ((4 : Int32) * a5))).bind fun v11 =>
          (if v11 = a2 then
            f_X12_churnFat_b56 (f_X12_churnFat_b5 M a0 a1 a2 n) M a0 a1 a2 a5 a3
          else
            f_X12_churnFat_b65 (f_X12_churnFat_b5 M a0 a1 a2 n) M a0 a1 a2 a5 a3))
      else
        f_X12_churnFat_b65 (f_X12_churnFat_b5 M a0 a1 a2 n) M a0 a1 a2 a5 a3)
    else
      some a3)
def f_X12_churnFat (M : q_Mem) (a0 : Nat) (a1 : Int32) (a2 : Int32) : Option Int64 :=
  q_ob 11 M a0 (f_X12_churnFat_b5 M a0 a1 a2 q_fuel (0 : Int64) (0 : Int32))
set_option maxRecDepth 20000 in
theorem v_X12_churnFat_b65 {kk5 : Int64 → Int32 → Option Int64} {M : q_Mem} {a0 : Nat} {a1 : Int32} {a2 : Int32} {a5 : Int32} {s0 : Int64}  (hk5 : ∀ (a3 : Int64) (a5 : Int32), q_V Y_X12_churnFat none (fun x : Int64 => (some (.long x), M)) 0 0 5 [(0, .ref a0), (1, .int a1), (2, .int a2), (3, .long a3), (5, .int a5)] [] M (kk5 a3 a5)): q_V Y_X12_churnFat none (fun x : Int64 => (some (.long x), M)) 0 0 65 [(0, .ref a0), (1, .int a1), (2, .int a2), (5, .int a5)] [.long s0] M (f_X12_churnFat_b65 kk5 M a0 a1 a2 a5 s0) := by
  unfold f_X12_churnFat_b65
  refine q_lconst (x := (0 : Int64)) dX12_churnFat_65 rfl ?_
  refine q_ladd dX12_churnFat_66 ?_
  refine q_lstore_n (ls' := [(3, .long (s0 + (0 : Int64))), (0, .ref a0), (1, .int a1), (2, .int a2), (5, .int a5)]) dX12_churnFat_67 (by decide) rfl ?_
  refine q_iinc 4 (y := (a5 + (1 : Int32))) (ls' := [(5, .int (a5 + (1 : Int32))), (3, .long (s0 + (0 : Int64))), (0, .ref a0), (1, .int a1), (2, .int a2)]) dX12_churnFat_68 rfl rfl (by decide) rfl ?_
  refine q_goto (tgt := 5) dX12_churnFat_71 (by decide) ?_
  refine q_sub (ls' := [(0, .ref a0), (1, .int a1), (2, .int a2), (3, .long (s0 + (0 : Int64))), (5, .int (a5 + (1 : Int32)))]) [2, 3, 4, 1, 0] rfl ?_
  exact hk5 _ _
set_option maxRecDepth 20000 in
theorem v_X12_churnFat_b56 {kk5 : Int64 → Int32 → Option Int64} {M : q_Mem} {a0 : Nat} {a1 : Int32} {a2 : Int32} {a5 : Int32} {s0 : Int64}  (hk5 : ∀ (a3 : Int64) (a5 : Int32), q_V Y_X12_churnFat none (fun x : Int64 => (some (.long x), M)) 0 0 5 [(0, .ref a0), (1, .int a1), (2, .int a2), (3, .long a3), (5, .int a5)] [] M (kk5 a3 a5)): q_V Y_X12_churnFat none (fun x : Int64 => (some (.long x), M)) 0 0 56 [(0, .ref a0), (1, .int a1), (2, .int a2), (5, .int a5)] [.long s0] M (f_X12_churnFat_b56 kk5 M a0 a1 a2 a5 s0) := by
  unfold f_X12_churnFat_b56
  refine q_aload_n 0 dX12_churnFat_56 rfl ?_
  refine q_iload 3 dX12_churnFat_57 rfl ?_
  refine q_cVJ (Y2 := Y_X12_fatOf) (As := [.int a5]) (b := a0) (st := [.long s0]) cl_X12 mv_X12_fatOf qw_1300 dX12_churnFat_59 ⟨Nat.le_of_ble_eq_true rfl, Nat.le_of_ble_eq_true rfl⟩ rfl (fun _ _ => rfl) (Nat.le_of_ble_eq_true rfl) ⟨Nat.le_of_ble_eq_true rfl, Nat.le_of_ble_eq_true rfl⟩ (fun v18 h17 => q_ob_is h17) (fun v18 h17 => m_X12_fatOf h17) (fun v18 h17 => ?_)
  refine q_goto (tgt := 66) dX12_churnFat_62 (by decide) ?_
  refine q_ladd dX12_churnFat_66 ?_
  refine q_lstore_n (ls' := [(3, .long (s0 + v18)), (0, .ref a0), (1, .int a1), (2, .int a2), (5, .int a5)]) dX12_churnFat_67 (by decide) rfl ?_
  refine q_iinc 4 (y := (a5 + (1 : Int32))) (ls' := [(5, .int (a5 + (1 : Int32))), (3, .long (s0 + v18)), (0, .ref a0), (1, .int a1), (2, .int a2)]) dX12_churnFat_68 rfl rfl (by decide) rfl ?_
  refine q_goto (tgt := 5) dX12_churnFat_71 (by decide) ?_
  refine q_sub (ls' := [(0, .ref a0), (1, .int a1), (2, .int a2), (3, .long (s0 + v18)), (5, .int (a5 + (1 : Int32)))]) [2, 3, 4, 1, 0] rfl ?_
  exact hk5 _ _
set_option maxRecDepth 20000 in
theorem v_X12_churnFat_b5 {M : q_Mem} {a0 : Nat} {a1 : Int32} {a2 : Int32}  : ∀ (n : Nat) (a3 : Int64) (a5 : Int32), q_V Y_X12_churnFat none (fun x : Int64 => (some (.long x), M)) 0 0 5 [(0, .ref a0), (1, .int a1), (2, .int a2), (3, .long a3), (5, .int a5)] [] M (f_X12_churnFat_b5 M a0 a1 a2 n a3 a5) := by
  intro n
  induction n with
  | zero => intro a3 a5; exact q_none
  | succ n ih =>
    intro a3 a5
    rw [f_X12_churnFat_b5.eq_2]
    refine q_iload 4 dX12_churnFat_5 rfl ?_
    refine q_aload_n 0 dX12_churnFat_7 rfl ?_
    refine q_getR (f := 0) cl_X12 (by decide) qw_1117 rfl dX12_churnFat_8 (fun _ _ _ => rfl) (fun v1 h2 => ?_)
    refine q_iconst (x := (1 : Int32)) dX12_churnFat_11 rfl ?_
    refine q_iald dX12_churnFat_12 (fun v3 h4 => ?_)
    refine q_icmp_ge (tgt := 74) dX12_churnFat_13 (by decide) (fun c16 => ?_) (fun c16 => ?_)
    · refine q_lload_n 3 dX12_churnFat_16 rfl ?_
      refine q_aload_n 0 dX12_churnFat_17 rfl ?_
      refine q_getR (f := 0) cl_X12 (by decide) qw_1117 rfl dX12_churnFat_18 (fun _ _ _ => rfl) (fun v5 h6 => ?_)
      refine q_bipush (x := (100 : Int32)) dX12_churnFat_21 rfl ?_
      refine q_iconst (x := (4 : Int32)) dX12_churnFat_23 rfl ?_
      refine q_iload 4 dX12_churnFat_24 rfl ?_
      refine q_imul dX12_churnFat_26 ?_
      refine q_iadd dX12_churnFat_27 ?_
      refine q_iconst (x := (3 : Int32)) dX12_churnFat_28 rfl ?_
      refine q_iadd dX12_churnFat_29 ?_
      refine q_iald dX12_churnFat_30 (fun v7 h8 => ?_)
      refine q_iload_n 1 dX12_churnFat_31 rfl ?_
      refine q_icmp_ne (tgt := 65) dX12_churnFat_32 (by decide) (fun c15 => ?_) (fun c15 => ?_)
      · refine q_iload_n 2 dX12_churnFat_35 rfl ?_
        refine q_iconst (x := (-1 : Int32)) dX12_churnFat_36 rfl ?_
        refine q_icmp_eq (tgt := 56) dX12_churnFat_37 (by decide) (fun c14 => ?_) (fun c14 => ?_)
        · refine q_sub (ls' := [(0, .ref a0), (1, .int a1), (2, .int a2), (5, .int a5)]) [0, 1, 2, 4] rfl ?_
          exact v_X12_churnFat_b56 (ih)
        · refine q_aload_n 0 dX12_churnFat_40 rfl ?_
          refine q_getR (f := 0) cl_X12 (by decide) qw_1117 rfl dX12_churnFat_41 (fun _ _ _ => rfl) (fun v9 h10 => ?_)
          refine q_bipush (x := (100 : Int32)) dX12_churnFat_44 rfl ?_
          refine q_iconst (x := (4 : Int32)) dX12_churnFat_46 rfl ?_
          refine q_iload 4 dX12_churnFat_47 rfl ?_
          refine q_imul dX12_churnFat_49 ?_
          refine q_iadd dX12_churnFat_50 ?_
          refine q_iald dX12_churnFat_51 (fun v11 h12 => ?_)
          refine q_iload_n 2 dX12_churnFat_52 rfl ?_
          refine q_icmp_ne (tgt := 65) dX12_churnFat_53 (by decide) (fun c13 => ?_) (fun c13 => ?_)
          · refine q_sub (ls' := [(0, .ref a0), (1, .int a1), (2, .int a2), (5, .int a5)]) [0, 1, 2, 4] rfl ?_
            exact v_X12_churnFat_b56 (ih)
          · refine q_sub (ls' := [(0, .ref a0), (1, .int a1), (2, .int a2), (5, .int a5)]) [0, 1, 2, 4] rfl ?_
            exact v_X12_churnFat_b65 (ih)
      · refine q_sub (ls' := [(0, .ref a0), (1, .int a1), (2, .int a2), (5, .int a5)]) [0, 1, 2, 4] rfl ?_
        exact v_X12_churnFat_b65 (ih)
    · refine q_lload_n 3 dX12_churnFat_74 rfl ?_
      exact q_lret dX12_churnFat_75 rfl rfl (Nat.le_of_ble_eq_true rfl) rfl
set_option maxRecDepth 20000 in
theorem m_X12_churnFat {M : q_Mem} {a0 : Nat} {a1 : Int32} {a2 : Int32} {x : Int64} (h : f_X12_churnFat M a0 a1 a2 = some x) : q_C Y_X12_churnFat [.ref a0, .int a1, .int a2] M (some (.long x)) M := by
  refine q_met (φ := (fun x : Int64 => (some (.long x), M))) (r := f_X12_churnFat M a0 a1 a2) (by decide +kernel) (Nat.le_of_ble_eq_true rfl) ?_ h (fun _ _ => rfl)
  show q_V Y_X12_churnFat none (fun x : Int64 => (some (.long x), M)) 0 0 0 [(0, .ref a0), (1, .int a1), (2, .int a2)] [] M (f_X12_churnFat M a0 a1 a2)
  unfold f_X12_churnFat
  refine q_obV ?_
  refine q_lconst (x := (0 : Int64)) dX12_churnFat_0 rfl ?_
  refine q_lstore_n (ls' := [(3, .long (0 : Int64)), (0, .ref a0), (1, .int a1), (2, .int a2)]) dX12_churnFat_1 (by decide) rfl ?_
  refine q_iconst (x := (0 : Int32)) dX12_churnFat_2 rfl ?_
  refine q_istore (ls' := [(5, .int (0 : Int32)), (3, .long (0 : Int64)), (0, .ref a0), (1, .int a1), (2, .int a2)]) dX12_churnFat_3 (by decide) rfl ?_
  refine q_sub (ls' := [(0, .ref a0), (1, .int a1), (2, .int a2), (3, .long (0 : Int64)), (5, .int (0 : Int32))]) [2, 3, 4, 1, 0] rfl ?_
  exact v_X12_churnFat_b5 _ _ _
theorem dX12_butter_0 : decode cX12_butter 0 = .ok (.aload_n 0, 1) := by decide +kernel
theorem dX12_butter_1 : decode cX12_butter 1 = .ok (.iload_n 1, 1) := by decide +kernel
theorem dX12_butter_2 : decode cX12_butter 2 = .ok (.iconst (-1), 1) := by decide +kernel
theorem dX12_butter_3 : decode cX12_butter 3 = .ok (.invokevirtual 132, 3) := by decide +kernel
theorem dX12_butter_6 : decode cX12_butter 6 = .ok (.sipush 1000, 3) := by decide +kernel
theorem dX12_butter_9 : decode cX12_butter 9 = .ok (.aload_n 0, 1) := by decide +kernel
theorem dX12_butter_10 : decode cX12_butter 10 = .ok (.iload_n 1, 1) := by decide +kernel
theorem dX12_butter_11 : decode cX12_butter 11 = .ok (.invokevirtual 136, 3) := by decide +kernel
theorem dX12_butter_14 : decode cX12_butter 14 = .ok (.isub, 1) := by decide +kernel
theorem dX12_butter_15 : decode cX12_butter 15 = .ok (.i2l, 1) := by decide +kernel
theorem dX12_butter_16 : decode cX12_butter 16 = .ok (.lmul, 1) := by decide +kernel
theorem dX12_butter_17 : decode cX12_butter 17 = .ok (.ldc2_w 139, 3) := by decide +kernel
theorem dX12_butter_20 : decode cX12_butter 20 = .ok (.ldiv, 1) := by decide +kernel
theorem dX12_butter_21 : decode cX12_butter 21 = .ok (.lreturn, 1) := by decide +kernel
def f_X12_butter (M : q_Mem) (a0 : Nat) (a1 : Int32) : Option Int64 :=
  q_ob 11 M a0 ((f_X12_churnFat M a0 a1 (-1 : Int32)).bind fun v2 =>
  (f_X12_lossOf M a0 a1).bind fun v4 =>
  (q_ldv (v2 * ((1000 : Int32) - v4).toInt64) (1000 : Int64)).bind fun v5 =>
  some v5)
set_option maxRecDepth 20000 in
theorem m_X12_butter {M : q_Mem} {a0 : Nat} {a1 : Int32} {x : Int64} (h : f_X12_butter M a0 a1 = some x) : q_C Y_X12_butter [.ref a0, .int a1] M (some (.long x)) M := by
  refine q_met (φ := (fun x : Int64 => (some (.long x), M))) (r := f_X12_butter M a0 a1) (by decide +kernel) (Nat.le_of_ble_eq_true rfl) ?_ h (fun _ _ => rfl)
  show q_V Y_X12_butter none (fun x : Int64 => (some (.long x), M)) 0 0 0 [(0, .ref a0), (1, .int a1)] [] M (f_X12_butter M a0 a1)
  unfold f_X12_butter
  refine q_obV ?_
  refine q_aload_n 0 dX12_butter_0 rfl ?_
  refine q_iload_n 1 dX12_butter_1 rfl ?_
  refine q_iconst (x := (-1 : Int32)) dX12_butter_2 rfl ?_
  refine q_cVJ (Y2 := Y_X12_churnFat) (As := [.int a1, .int (-1 : Int32)]) (b := a0) (st := []) cl_X12 mv_X12_churnFat qw_1327 dX12_butter_3 ⟨Nat.le_of_ble_eq_true rfl, Nat.le_of_ble_eq_true rfl⟩ rfl (fun _ _ => rfl) (Nat.le_of_ble_eq_true rfl) ⟨Nat.le_of_ble_eq_true rfl, Nat.le_of_ble_eq_true rfl⟩ (fun v2 h1 => q_ob_is h1) (fun v2 h1 => m_X12_churnFat h1) (fun v2 h1 => ?_)
  refine q_sipush (x := (1000 : Int32)) dX12_butter_6 rfl ?_
  refine q_aload_n 0 dX12_butter_9 rfl ?_
  refine q_iload_n 1 dX12_butter_10 rfl ?_
  refine q_cVI (Y2 := Y_X12_lossOf) (As := [.int a1]) (b := a0) (st := [.int (1000 : Int32), .long v2]) cl_X12 mv_X12_lossOf qw_1320 dX12_butter_11 ⟨Nat.le_of_ble_eq_true rfl, Nat.le_of_ble_eq_true rfl⟩ rfl (fun _ _ => rfl) (Nat.le_of_ble_eq_true rfl) ⟨Nat.le_of_ble_eq_true rfl, Nat.le_of_ble_eq_true rfl⟩ (fun v4 h3 => q_ob_is h3) (fun v4 h3 => m_X12_lossOf h3) (fun v4 h3 => ?_)
  refine q_isub dX12_butter_14 ?_
  refine q_i2l dX12_butter_15 ?_
  refine q_lmul dX12_butter_16 ?_
  refine q_ldc2 (x := (1000 : Int64)) qw_1335 dX12_butter_17 ?_
  refine q_ldiv dX12_butter_20 (fun v5 h6 => ?_)
  exact q_lret dX12_butter_21 rfl rfl (Nat.le_of_ble_eq_true rfl) rfl
theorem dX12_agrees_0 : decode cX12_agrees 0 = .ok (.aload_n 0, 1) := by decide +kernel
theorem dX12_agrees_1 : decode cX12_agrees 1 = .ok (.getfield 7, 3) := by decide +kernel
theorem dX12_agrees_4 : decode cX12_agrees 4 = .ok (.sipush 2700, 3) := by decide +kernel
theorem dX12_agrees_7 : decode cX12_agrees 7 = .ok (.iconst 3, 1) := by decide +kernel
theorem dX12_agrees_8 : decode cX12_agrees 8 = .ok (.iload_n 1, 1) := by decide +kernel
theorem dX12_agrees_9 : decode cX12_agrees 9 = .ok (.imul, 1) := by decide +kernel
theorem dX12_agrees_10 : decode cX12_agrees 10 = .ok (.iadd, 1) := by decide +kernel
theorem dX12_agrees_11 : decode cX12_agrees 11 = .ok (.iconst 2, 1) := by decide +kernel
theorem dX12_agrees_12 : decode cX12_agrees 12 = .ok (.iadd, 1) := by decide +kernel
theorem dX12_agrees_13 : decode cX12_agrees 13 = .ok (.iaload, 1) := by decide +kernel
theorem dX12_agrees_14 : decode cX12_agrees 14 = .ok (.istore_n 2, 1) := by decide +kernel
theorem dX12_agrees_15 : decode cX12_agrees 15 = .ok (.iload_n 2, 1) := by decide +kernel
theorem dX12_agrees_16 : decode cX12_agrees 16 = .ok (.iconst (-1), 1) := by decide +kernel
theorem dX12_agrees_17 : decode cX12_agrees 17 = .ok (.if_icmp .ne 5, 3) := by decide +kernel
theorem dX12_agrees_20 : decode cX12_agrees 20 = .ok (.iconst (-1), 1) := by decide +kernel
theorem dX12_agrees_21 : decode cX12_agrees 21 = .ok (.ireturn, 1) := by decide +kernel
theorem dX12_agrees_22 : decode cX12_agrees 22 = .ok (.aload_n 0, 1) := by decide +kernel
theorem dX12_agrees_23 : decode cX12_agrees 23 = .ok (.iload_n 1, 1) := by decide +kernel
theorem dX12_agrees_24 : decode cX12_agrees 24 = .ok (.invokevirtual 141, 3) := by decide +kernel
theorem dX12_agrees_27 : decode cX12_agrees 27 = .ok (.lstore_n 3, 1) := by decide +kernel
theorem dX12_agrees_28 : decode cX12_agrees 28 = .ok (.iload_n 2, 1) := by decide +kernel
theorem dX12_agrees_29 : decode cX12_agrees 29 = .ok (.i2l, 1) := by decide +kernel
theorem dX12_agrees_30 : decode cX12_agrees 30 = .ok (.lload_n 3, 1) := by decide +kernel
theorem dX12_agrees_31 : decode cX12_agrees 31 = .ok (.lcmp, 1) := by decide +kernel
theorem dX12_agrees_32 : decode cX12_agrees 32 = .ok (.ifCond .ge 10, 3) := by decide +kernel
theorem dX12_agrees_35 : decode cX12_agrees 35 = .ok (.lload_n 3, 1) := by decide +kernel
theorem dX12_agrees_36 : decode cX12_agrees 36 = .ok (.iload_n 2, 1) := by decide +kernel
theorem dX12_agrees_37 : decode cX12_agrees 37 = .ok (.i2l, 1) := by decide +kernel
theorem dX12_agrees_38 : decode cX12_agrees 38 = .ok (.lsub, 1) := by decide +kernel
theorem dX12_agrees_39 : decode cX12_agrees 39 = .ok (.goto 7, 3) := by decide +kernel
theorem dX12_agrees_42 : decode cX12_agrees 42 = .ok (.iload_n 2, 1) := by decide +kernel
theorem dX12_agrees_43 : decode cX12_agrees 43 = .ok (.i2l, 1) := by decide +kernel
theorem dX12_agrees_44 : decode cX12_agrees 44 = .ok (.lload_n 3, 1) := by decide +kernel
theorem dX12_agrees_45 : decode cX12_agrees 45 = .ok (.lsub, 1) := by decide +kernel
theorem dX12_agrees_46 : decode cX12_agrees 46 = .ok (.lstore 5, 2) := by decide +kernel
theorem dX12_agrees_48 : decode cX12_agrees 48 = .ok (.lload 5, 2) := by decide +kernel
theorem dX12_agrees_50 : decode cX12_agrees 50 = .ok (.ldc2_w 144, 3) := by decide +kernel
theorem dX12_agrees_53 : decode cX12_agrees 53 = .ok (.lload_n 3, 1) := by decide +kernel
theorem dX12_agrees_54 : decode cX12_agrees 54 = .ok (.lmul, 1) := by decide +kernel
theorem dX12_agrees_55 : decode cX12_agrees 55 = .ok (.ldc2_w 139, 3) := by decide +kernel
theorem dX12_agrees_58 : decode cX12_agrees 58 = .ok (.ldiv, 1) := by decide +kernel
theorem dX12_agrees_59 : decode cX12_agrees 59 = .ok (.lcmp, 1) := by decide +kernel
theorem dX12_agrees_60 : decode cX12_agrees 60 = .ok (.ifCond .gt 7, 3) := by decide +kernel
theorem dX12_agrees_63 : decode cX12_agrees 63 = .ok (.iconst 1, 1) := by decide +kernel
theorem dX12_agrees_64 : decode cX12_agrees 64 = .ok (.goto 4, 3) := by decide +kernel
theorem dX12_agrees_67 : decode cX12_agrees 67 = .ok (.iconst 0, 1) := by decide +kernel
theorem dX12_agrees_68 : decode cX12_agrees 68 = .ok (.ireturn, 1) := by decide +kernel
def f_X12_agrees_b46 (M : q_Mem) (a3 : Int64) (s0 : Int64) : Option Int32 :=
  (q_ldv ((20 : Int64) * a3) (1000 : Int64)).bind fun v9 =>
  (if v9 < s0 then
    some (0 : Int32)
  else
    some (1 : Int32))
def f_X12_agrees (M : q_Mem) (a0 : Nat) (a1 : Int32) : Option Int32 :=
  q_ob 11 M a0 ((q_gR 11 0 M a0).bind fun v1 =>
  (q_lI M v1 (((2700 : Int32) + ((3 : Int32) * a1)) + (2 : Int32))).bind fun v3 =>
  (if v3 = (-1 : Int32) then
    some (-1 : Int32)
  else
    (f_X12_butter M a0 a1).bind fun v6 =>
    (if v3.toInt64 < v6 then
      f_X12_agrees_b46 M v6 (v6 - v3.toInt64)
    else
      f_X12_agrees_b46 M v6 (v3.toInt64 - v6))))
set_option maxRecDepth 20000 in
theorem v_X12_agrees_b46 {M : q_Mem} {a3 : Int64} {s0 : Int64}  : q_V Y_X12_agrees none (fun x : Int32 => (some (.int x), M)) 0 0 46 [(3, .long a3)] [.long s0] M (f_X12_agrees_b46 M a3 s0) := by
  unfold f_X12_agrees_b46
  refine q_lstore (ls' := [(5, .long s0), (3, .long a3)]) dX12_agrees_46 (by decide) rfl ?_
  refine q_lload 0 dX12_agrees_48 rfl ?_
  refine q_ldc2 (x := (20 : Int64)) qw_1340 dX12_agrees_50 ?_
  refine q_lload_n 1 dX12_agrees_53 rfl ?_
  refine q_lmul dX12_agrees_54 ?_
  refine q_ldc2 (x := (1000 : Int64)) qw_1335 dX12_agrees_55 ?_
  refine q_ldiv dX12_agrees_58 (fun v9 h10 => ?_)
  refine q_lcmp_gt (tgt := 67) dX12_agrees_59 dX12_agrees_60 (by decide) (fun c11 => ?_) (fun c11 => ?_)
  · refine q_iconst (x := (0 : Int32)) dX12_agrees_67 rfl ?_
    exact q_iret dX12_agrees_68 rfl rfl (Nat.le_of_ble_eq_true rfl) rfl
  · refine q_iconst (x := (1 : Int32)) dX12_agrees_63 rfl ?_
    refine q_goto (tgt := 68) dX12_agrees_64 (by decide) ?_
    exact q_iret dX12_agrees_68 rfl rfl (Nat.le_of_ble_eq_true rfl) rfl
set_option maxRecDepth 20000 in
theorem m_X12_agrees {M : q_Mem} {a0 : Nat} {a1 : Int32} {x : Int32} (h : f_X12_agrees M a0 a1 = some x) : q_C Y_X12_agrees [.ref a0, .int a1] M (some (.int x)) M := by
  refine q_met (φ := (fun x : Int32 => (some (.int x), M))) (r := f_X12_agrees M a0 a1) (by decide +kernel) (Nat.le_of_ble_eq_true rfl) ?_ h (fun _ _ => rfl)
  show q_V Y_X12_agrees none (fun x : Int32 => (some (.int x), M)) 0 0 0 [(0, .ref a0), (1, .int a1)] [] M (f_X12_agrees M a0 a1)
  unfold f_X12_agrees
  refine q_obV ?_
  refine q_aload_n 0 dX12_agrees_0 rfl ?_
  refine q_getR (f := 0) cl_X12 (by decide) qw_1117 rfl dX12_agrees_1 (fun _ _ _ => rfl) (fun v1 h2 => ?_)
  refine q_sipush (x := (2700 : Int32)) dX12_agrees_4 rfl ?_
  refine q_iconst (x := (3 : Int32)) dX12_agrees_7 rfl ?_
  refine q_iload_n 1 dX12_agrees_8 rfl ?_
  refine q_imul dX12_agrees_9 ?_
  refine q_iadd dX12_agrees_10 ?_
  refine q_iconst (x := (2 : Int32)) dX12_agrees_11 rfl ?_
  refine q_iadd dX12_agrees_12 ?_
  refine q_iald dX12_agrees_13 (fun v3 h4 => ?_)
  refine q_istore_n (ls' := [(2, .int v3), (0, .ref a0), (1, .int a1)]) dX12_agrees_14 (by decide) rfl ?_
  refine q_iload_n 0 dX12_agrees_15 rfl ?_
  refine q_iconst (x := (-1 : Int32)) dX12_agrees_16 rfl ?_
  refine q_icmp_ne (tgt := 22) dX12_agrees_17 (by decide) (fun c8 => ?_) (fun c8 => ?_)
  · refine q_iconst (x := (-1 : Int32)) dX12_agrees_20 rfl ?_
    exact q_iret dX12_agrees_21 rfl rfl (Nat.le_of_ble_eq_true rfl) rfl
  · refine q_aload_n 1 dX12_agrees_22 rfl ?_
    refine q_iload_n 2 dX12_agrees_23 rfl ?_
    refine q_cVJ (Y2 := Y_X12_butter) (As := [.int a1]) (b := a0) (st := []) cl_X12 mv_X12_butter qw_1331 dX12_agrees_24 ⟨Nat.le_of_ble_eq_true rfl, Nat.le_of_ble_eq_true rfl⟩ rfl (fun _ _ => rfl) (Nat.le_of_ble_eq_true rfl) ⟨Nat.le_of_ble_eq_true rfl, Nat.le_of_ble_eq_true rfl⟩ (fun v6 h5 => q_ob_is h5) (fun v6 h5 => m_X12_butter h5) (fun v6 h5 => ?_)
    refine q_lstore_n (ls' := [(3, .long v6), (2, .int v3), (0, .ref a0), (1, .int a1)]) dX12_agrees_27 (by decide) rfl ?_
    refine q_iload_n 1 dX12_agrees_28 rfl ?_
    refine q_i2l dX12_agrees_29 ?_
    refine q_lload_n 0 dX12_agrees_30 rfl ?_
    refine q_lcmp_ge (tgt := 42) dX12_agrees_31 dX12_agrees_32 (by decide) (fun c7 => ?_) (fun c7 => ?_)
    · refine q_lload_n 0 dX12_agrees_35 rfl ?_
      refine q_iload_n 1 dX12_agrees_36 rfl ?_
      refine q_i2l dX12_agrees_37 ?_
      refine q_lsub dX12_agrees_38 ?_
      refine q_goto (tgt := 46) dX12_agrees_39 (by decide) ?_
      refine q_sub (ls' := [(3, .long v6)]) [0] rfl ?_
      exact v_X12_agrees_b46
    · refine q_iload_n 1 dX12_agrees_42 rfl ?_
      refine q_i2l dX12_agrees_43 ?_
      refine q_lload_n 0 dX12_agrees_44 rfl ?_
      refine q_lsub dX12_agrees_45 ?_
      refine q_sub (ls' := [(3, .long v6)]) [0] rfl ?_
      exact v_X12_agrees_b46
theorem dX12_boxesOf_0 : decode cX12_boxesOf 0 = .ok (.iconst 0, 1) := by decide +kernel
theorem dX12_boxesOf_1 : decode cX12_boxesOf 1 = .ok (.istore_n 2, 1) := by decide +kernel
theorem dX12_boxesOf_2 : decode cX12_boxesOf 2 = .ok (.iconst 0, 1) := by decide +kernel
theorem dX12_boxesOf_3 : decode cX12_boxesOf 3 = .ok (.istore_n 3, 1) := by decide +kernel
theorem dX12_boxesOf_4 : decode cX12_boxesOf 4 = .ok (.iload_n 3, 1) := by decide +kernel
theorem dX12_boxesOf_5 : decode cX12_boxesOf 5 = .ok (.aload_n 0, 1) := by decide +kernel
theorem dX12_boxesOf_6 : decode cX12_boxesOf 6 = .ok (.getfield 7, 3) := by decide +kernel
theorem dX12_boxesOf_9 : decode cX12_boxesOf 9 = .ok (.iconst 4, 1) := by decide +kernel
theorem dX12_boxesOf_10 : decode cX12_boxesOf 10 = .ok (.iaload, 1) := by decide +kernel
theorem dX12_boxesOf_11 : decode cX12_boxesOf 11 = .ok (.if_icmp .ge 33, 3) := by decide +kernel
theorem dX12_boxesOf_14 : decode cX12_boxesOf 14 = .ok (.iload_n 2, 1) := by decide +kernel
theorem dX12_boxesOf_15 : decode cX12_boxesOf 15 = .ok (.aload_n 0, 1) := by decide +kernel
theorem dX12_boxesOf_16 : decode cX12_boxesOf 16 = .ok (.getfield 7, 3) := by decide +kernel
theorem dX12_boxesOf_19 : decode cX12_boxesOf 19 = .ok (.sipush 2820, 3) := by decide +kernel
theorem dX12_boxesOf_22 : decode cX12_boxesOf 22 = .ok (.iconst 5, 1) := by decide +kernel
theorem dX12_boxesOf_23 : decode cX12_boxesOf 23 = .ok (.iload_n 3, 1) := by decide +kernel
theorem dX12_boxesOf_24 : decode cX12_boxesOf 24 = .ok (.imul, 1) := by decide +kernel
theorem dX12_boxesOf_25 : decode cX12_boxesOf 25 = .ok (.iadd, 1) := by decide +kernel
theorem dX12_boxesOf_26 : decode cX12_boxesOf 26 = .ok (.iaload, 1) := by decide +kernel
theorem dX12_boxesOf_27 : decode cX12_boxesOf 27 = .ok (.iload_n 1, 1) := by decide +kernel
theorem dX12_boxesOf_28 : decode cX12_boxesOf 28 = .ok (.if_icmp .ne 7, 3) := by decide +kernel
theorem dX12_boxesOf_31 : decode cX12_boxesOf 31 = .ok (.iconst 1, 1) := by decide +kernel
theorem dX12_boxesOf_32 : decode cX12_boxesOf 32 = .ok (.goto 4, 3) := by decide +kernel
theorem dX12_boxesOf_35 : decode cX12_boxesOf 35 = .ok (.iconst 0, 1) := by decide +kernel
theorem dX12_boxesOf_36 : decode cX12_boxesOf 36 = .ok (.iadd, 1) := by decide +kernel
theorem dX12_boxesOf_37 : decode cX12_boxesOf 37 = .ok (.istore_n 2, 1) := by decide +kernel
theorem dX12_boxesOf_38 : decode cX12_boxesOf 38 = .ok (.iinc 3 1, 3) := by decide +kernel
theorem dX12_boxesOf_41 : decode cX12_boxesOf 41 = .ok (.goto (-37), 3) := by decide +kernel
theorem dX12_boxesOf_44 : decode cX12_boxesOf 44 = .ok (.iload_n 2, 1) := by decide +kernel
theorem dX12_boxesOf_45 : decode cX12_boxesOf 45 = .ok (.ireturn, 1) := by decide +kernel
def f_X12_boxesOf_b4 (M : q_Mem) (a0 : Nat) (a1 : Int32) : Nat → Int32 → Int32 → Option Int32
  | 0, _, _ => none
  | n + 1, a2, a3 =>
    (q_gR 11 0 M a0).bind fun v1 =>
    (q_lI M v1 (4 : Int32)).bind fun v3 =>
    (if a3 < v3 then
      (q_gR 11 0 M a0).bind fun v5 =>
      (q_lI M v5 ((2820 : Int32) + ((5 : Int32) * a3))).bind fun v7 =>
      (if v7 = a1 then
        f_X12_boxesOf_b4 M a0 a1 n (a2 + (1 : Int32)) (a3 + (1 : Int32))
      else
        f_X12_boxesOf_b4 M a0 a1 n (a2 + (0 : Int32)) (a3 + (1 : Int32)))
    else
      some a2)
def f_X12_boxesOf (M : q_Mem) (a0 : Nat) (a1 : Int32) : Option Int32 :=
  q_ob 11 M a0 (f_X12_boxesOf_b4 M a0 a1 q_fuel (0 : Int32) (0 : Int32))
set_option maxRecDepth 20000 in
theorem v_X12_boxesOf_b4 {M : q_Mem} {a0 : Nat} {a1 : Int32}  : ∀ (n : Nat) (a2 : Int32) (a3 : Int32), q_V Y_X12_boxesOf none (fun x : Int32 => (some (.int x), M)) 0 0 4 [(0, .ref a0), (1, .int a1), (2, .int a2), (3, .int a3)] [] M (f_X12_boxesOf_b4 M a0 a1 n a2 a3) := by
  intro n
  induction n with
  | zero => intro a2 a3; exact q_none
  | succ n ih =>
    intro a2 a3
    rw [f_X12_boxesOf_b4.eq_2]
    refine q_iload_n 3 dX12_boxesOf_4 rfl ?_
    refine q_aload_n 0 dX12_boxesOf_5 rfl ?_
    refine q_getR (f := 0) cl_X12 (by decide) qw_1117 rfl dX12_boxesOf_6 (fun _ _ _ => rfl) (fun v1 h2 => ?_)
    refine q_iconst (x := (4 : Int32)) dX12_boxesOf_9 rfl ?_
    refine q_iald dX12_boxesOf_10 (fun v3 h4 => ?_)
    refine q_icmp_ge (tgt := 44) dX12_boxesOf_11 (by decide) (fun c10 => ?_) (fun c10 => ?_)
    · refine q_iload_n 2 dX12_boxesOf_14 rfl ?_
      refine q_aload_n 0 dX12_boxesOf_15 rfl ?_
      refine q_getR (f := 0) cl_X12 (by decide) qw_1117 rfl dX12_boxesOf_16 (fun _ _ _ => rfl) (fun v5 h6 => ?_)
      refine q_sipush (x := (2820 : Int32)) dX12_boxesOf_19 rfl ?_
      refine q_iconst (x := (5 : Int32)) dX12_boxesOf_22 rfl ?_
      refine q_iload_n 3 dX12_boxesOf_23 rfl ?_
      refine q_imul dX12_boxesOf_24 ?_
      refine q_iadd dX12_boxesOf_25 ?_
      refine q_iald dX12_boxesOf_26 (fun v7 h8 => ?_)
      refine q_iload_n 1 dX12_boxesOf_27 rfl ?_
      refine q_icmp_ne (tgt := 35) dX12_boxesOf_28 (by decide) (fun c9 => ?_) (fun c9 => ?_)
      · refine q_iconst (x := (1 : Int32)) dX12_boxesOf_31 rfl ?_
        refine q_goto (tgt := 36) dX12_boxesOf_32 (by decide) ?_
        refine q_iadd dX12_boxesOf_36 ?_
        refine q_istore_n (ls' := [(2, .int (a2 + (1 : Int32))), (0, .ref a0), (1, .int a1), (3, .int a3)]) dX12_boxesOf_37 (by decide) rfl ?_
        refine q_iinc 3 (y := (a3 + (1 : Int32))) (ls' := [(3, .int (a3 + (1 : Int32))), (2, .int (a2 + (1 : Int32))), (0, .ref a0), (1, .int a1)]) dX12_boxesOf_38 rfl rfl (by decide) rfl ?_
        refine q_goto (tgt := 4) dX12_boxesOf_41 (by decide) ?_
        refine q_sub (ls' := [(0, .ref a0), (1, .int a1), (2, .int (a2 + (1 : Int32))), (3, .int (a3 + (1 : Int32)))]) [2, 3, 1, 0] rfl ?_
        exact ih _ _
      · refine q_iconst (x := (0 : Int32)) dX12_boxesOf_35 rfl ?_
        refine q_iadd dX12_boxesOf_36 ?_
        refine q_istore_n (ls' := [(2, .int (a2 + (0 : Int32))), (0, .ref a0), (1, .int a1), (3, .int a3)]) dX12_boxesOf_37 (by decide) rfl ?_
        refine q_iinc 3 (y := (a3 + (1 : Int32))) (ls' := [(3, .int (a3 + (1 : Int32))), (2, .int (a2 + (0 : Int32))), (0, .ref a0), (1, .int a1)]) dX12_boxesOf_38 rfl rfl (by decide) rfl ?_
        refine q_goto (tgt := 4) dX12_boxesOf_41 (by decide) ?_
        refine q_sub (ls' := [(0, .ref a0), (1, .int a1), (2, .int (a2 + (0 : Int32))), (3, .int (a3 + (1 : Int32)))]) [2, 3, 1, 0] rfl ?_
        exact ih _ _
    · refine q_iload_n 2 dX12_boxesOf_44 rfl ?_
      exact q_iret dX12_boxesOf_45 rfl rfl (Nat.le_of_ble_eq_true rfl) rfl
set_option maxRecDepth 20000 in
theorem m_X12_boxesOf {M : q_Mem} {a0 : Nat} {a1 : Int32} {x : Int32} (h : f_X12_boxesOf M a0 a1 = some x) : q_C Y_X12_boxesOf [.ref a0, .int a1] M (some (.int x)) M := by
  refine q_met (φ := (fun x : Int32 => (some (.int x), M))) (r := f_X12_boxesOf M a0 a1) (by decide +kernel) (Nat.le_of_ble_eq_true rfl) ?_ h (fun _ _ => rfl)
  show q_V Y_X12_boxesOf none (fun x : Int32 => (some (.int x), M)) 0 0 0 [(0, .ref a0), (1, .int a1)] [] M (f_X12_boxesOf M a0 a1)
  unfold f_X12_boxesOf
  refine q_obV ?_
  refine q_iconst (x := (0 : Int32)) dX12_boxesOf_0 rfl ?_
  refine q_istore_n (ls' := [(2, .int (0 : Int32)), (0, .ref a0), (1, .int a1)]) dX12_boxesOf_1 (by decide) rfl ?_
  refine q_iconst (x := (0 : Int32)) dX12_boxesOf_2 rfl ?_
  refine q_istore_n (ls' := [(3, .int (0 : Int32)), (2, .int (0 : Int32)), (0, .ref a0), (1, .int a1)]) dX12_boxesOf_3 (by decide) rfl ?_
  refine q_sub (ls' := [(0, .ref a0), (1, .int a1), (2, .int (0 : Int32)), (3, .int (0 : Int32))]) [2, 3, 1, 0] rfl ?_
  exact v_X12_boxesOf_b4 _ _ _
theorem dX12_penceOf_0 : decode cX12_penceOf 0 = .ok (.lconst 0, 1) := by decide +kernel
theorem dX12_penceOf_1 : decode cX12_penceOf 1 = .ok (.lstore_n 3, 1) := by decide +kernel
theorem dX12_penceOf_2 : decode cX12_penceOf 2 = .ok (.iconst 0, 1) := by decide +kernel
theorem dX12_penceOf_3 : decode cX12_penceOf 3 = .ok (.istore 5, 2) := by decide +kernel
theorem dX12_penceOf_5 : decode cX12_penceOf 5 = .ok (.iload 5, 2) := by decide +kernel
theorem dX12_penceOf_7 : decode cX12_penceOf 7 = .ok (.aload_n 0, 1) := by decide +kernel
theorem dX12_penceOf_8 : decode cX12_penceOf 8 = .ok (.getfield 7, 3) := by decide +kernel
theorem dX12_penceOf_11 : decode cX12_penceOf 11 = .ok (.iconst 4, 1) := by decide +kernel
theorem dX12_penceOf_12 : decode cX12_penceOf 12 = .ok (.iaload, 1) := by decide +kernel
theorem dX12_penceOf_13 : decode cX12_penceOf 13 = .ok (.if_icmp .ge 73, 3) := by decide +kernel
theorem dX12_penceOf_16 : decode cX12_penceOf 16 = .ok (.sipush 2820, 3) := by decide +kernel
theorem dX12_penceOf_19 : decode cX12_penceOf 19 = .ok (.iconst 5, 1) := by decide +kernel
theorem dX12_penceOf_20 : decode cX12_penceOf 20 = .ok (.iload 5, 2) := by decide +kernel
theorem dX12_penceOf_22 : decode cX12_penceOf 22 = .ok (.imul, 1) := by decide +kernel
theorem dX12_penceOf_23 : decode cX12_penceOf 23 = .ok (.iadd, 1) := by decide +kernel
theorem dX12_penceOf_24 : decode cX12_penceOf 24 = .ok (.istore 6, 2) := by decide +kernel
theorem dX12_penceOf_26 : decode cX12_penceOf 26 = .ok (.lload_n 3, 1) := by decide +kernel
theorem dX12_penceOf_27 : decode cX12_penceOf 27 = .ok (.aload_n 0, 1) := by decide +kernel
theorem dX12_penceOf_28 : decode cX12_penceOf 28 = .ok (.getfield 7, 3) := by decide +kernel
theorem dX12_penceOf_31 : decode cX12_penceOf 31 = .ok (.iload 6, 2) := by decide +kernel
theorem dX12_penceOf_33 : decode cX12_penceOf 33 = .ok (.iaload, 1) := by decide +kernel
theorem dX12_penceOf_34 : decode cX12_penceOf 34 = .ok (.iload_n 1, 1) := by decide +kernel
theorem dX12_penceOf_35 : decode cX12_penceOf 35 = .ok (.if_icmp .ne 42, 3) := by decide +kernel
theorem dX12_penceOf_38 : decode cX12_penceOf 38 = .ok (.aload_n 0, 1) := by decide +kernel
theorem dX12_penceOf_39 : decode cX12_penceOf 39 = .ok (.getfield 7, 3) := by decide +kernel
theorem dX12_penceOf_42 : decode cX12_penceOf 42 = .ok (.iload 6, 2) := by decide +kernel
theorem dX12_penceOf_44 : decode cX12_penceOf 44 = .ok (.iconst 1, 1) := by decide +kernel
theorem dX12_penceOf_45 : decode cX12_penceOf 45 = .ok (.iadd, 1) := by decide +kernel
theorem dX12_penceOf_46 : decode cX12_penceOf 46 = .ok (.iaload, 1) := by decide +kernel
theorem dX12_penceOf_47 : decode cX12_penceOf 47 = .ok (.iconst (-1), 1) := by decide +kernel
theorem dX12_penceOf_48 : decode cX12_penceOf 48 = .ok (.if_icmp .eq 29, 3) := by decide +kernel
theorem dX12_penceOf_51 : decode cX12_penceOf 51 = .ok (.aload_n 0, 1) := by decide +kernel
theorem dX12_penceOf_52 : decode cX12_penceOf 52 = .ok (.getfield 7, 3) := by decide +kernel
theorem dX12_penceOf_55 : decode cX12_penceOf 55 = .ok (.iload 6, 2) := by decide +kernel
theorem dX12_penceOf_57 : decode cX12_penceOf 57 = .ok (.iconst 2, 1) := by decide +kernel
theorem dX12_penceOf_58 : decode cX12_penceOf 58 = .ok (.iadd, 1) := by decide +kernel
theorem dX12_penceOf_59 : decode cX12_penceOf 59 = .ok (.iaload, 1) := by decide +kernel
theorem dX12_penceOf_60 : decode cX12_penceOf 60 = .ok (.iload_n 2, 1) := by decide +kernel
theorem dX12_penceOf_61 : decode cX12_penceOf 61 = .ok (.if_icmp .gt 16, 3) := by decide +kernel
theorem dX12_penceOf_64 : decode cX12_penceOf 64 = .ok (.aload_n 0, 1) := by decide +kernel
theorem dX12_penceOf_65 : decode cX12_penceOf 65 = .ok (.getfield 7, 3) := by decide +kernel
theorem dX12_penceOf_68 : decode cX12_penceOf 68 = .ok (.iload 6, 2) := by decide +kernel
theorem dX12_penceOf_70 : decode cX12_penceOf 70 = .ok (.iconst 1, 1) := by decide +kernel
theorem dX12_penceOf_71 : decode cX12_penceOf 71 = .ok (.iadd, 1) := by decide +kernel
theorem dX12_penceOf_72 : decode cX12_penceOf 72 = .ok (.iaload, 1) := by decide +kernel
theorem dX12_penceOf_73 : decode cX12_penceOf 73 = .ok (.i2l, 1) := by decide +kernel
theorem dX12_penceOf_74 : decode cX12_penceOf 74 = .ok (.goto 4, 3) := by decide +kernel
theorem dX12_penceOf_77 : decode cX12_penceOf 77 = .ok (.lconst 0, 1) := by decide +kernel
theorem dX12_penceOf_78 : decode cX12_penceOf 78 = .ok (.ladd, 1) := by decide +kernel
theorem dX12_penceOf_79 : decode cX12_penceOf 79 = .ok (.lstore_n 3, 1) := by decide +kernel
theorem dX12_penceOf_80 : decode cX12_penceOf 80 = .ok (.iinc 5 1, 3) := by decide +kernel
theorem dX12_penceOf_83 : decode cX12_penceOf 83 = .ok (.goto (-78), 3) := by decide +kernel
theorem dX12_penceOf_86 : decode cX12_penceOf 86 = .ok (.lload_n 3, 1) := by decide +kernel
theorem dX12_penceOf_87 : decode cX12_penceOf 87 = .ok (.lreturn, 1) := by decide +kernel
def f_X12_penceOf_b77 (kk5 : Int64 → Int32 → Option Int64) (M : q_Mem) (a0 : Nat) (a1 : Int32) (a2 : Int32) (a5 : Int32) (s0 : Int64) : Option Int64 :=
  kk5 (s0 + (0 : Int64)) (a5 + (1 : Int32))
def f_X12_penceOf_b5 (M : q_Mem) (a0 : Nat) (a1 : Int32) (a2 : Int32) : Nat → Int64 → Int32 → Option Int64
  | 0, _, _ => none
  | n + 1, a3, a5 =>
    (q_gR 11 0 M a0).bind fun v1 =>
    (q_lI M v1 (4 : Int32)).bind fun v3 =>
    (if a5 < v3 then
      (q_gR 11 0 M a0).bind fun v5 =>
      (q_lI M v5 ((2820 : Int32) + ((5 : Int32) * a5))).bind fun v7 =>
      (if v7 = a1 then
        (q_gR 11 0 M a0).bind fun v9 =>
        (q_lI M v9 (((2820 : Int32) + ((5 : Int32) * a5)) + (1 : Int32))).bind fun v11 =>
        (if v11 = (-1 : Int32) then
          f_X12_penceOf_b77 (f_X12_penceOf_b5 M a0 a1 a2 n) M a0 a1 a2 a5 a3
        else
          (q_gR 11 0 M a0).bind fun v13 =>
          (q_lI M v13 (((2820 : Int32) + ((5 : Int32) * a5)) + (2 : Int32))).bind fun v15 =>
          (if a2 < v15 then
            f_X12_penceOf_b77 (f_X12_penceOf_b5 M a0 a1 a2 n) M a0 a1 a2 a5 a3
          else
            (q_gR 11 0 M a0).bind fun v17 =>
            (q_lI M v17 (((2820 : Int32) + ((5 : Int32) * a5)) + (1 : Int32))).bind fun v19 =>
            f_X12_penceOf_b5 M a0 a1 a2 n (a3 + v19.toInt64) (a5 + (1 : Int32))))
      else
        f_X12_penceOf_b77 (f_X12_penceOf_b5 M a0 a1 a2 n) M a0 a1 a2 a5 a3)
    else
      some a3)
def f_X12_penceOf (M : q_Mem) (a0 : Nat) (a1 : Int32) (a2 : Int32) : Option Int64 :=
  q_ob 11 M a0 (f_X12_penceOf_b5 M a0 a1 a2 q_fuel (0 : Int64) (0 : Int32))
set_option maxRecDepth 20000 in
theorem v_X12_penceOf_b77 {kk5 : Int64 → Int32 → Option Int64} {M : q_Mem} {a0 : Nat} {a1 : Int32} {a2 : Int32} {a5 : Int32} {s0 : Int64}  (hk5 : ∀ (a3 : Int64) (a5 : Int32), q_V Y_X12_penceOf none (fun x : Int64 => (some (.long x), M)) 0 0 5 [(0, .ref a0), (1, .int a1), (2, .int a2), (3, .long a3), (5, .int a5)] [] M (kk5 a3 a5)): q_V Y_X12_penceOf none (fun x : Int64 => (some (.long x), M)) 0 0 77 [(0, .ref a0), (1, .int a1), (2, .int a2), (5, .int a5)] [.long s0] M (f_X12_penceOf_b77 kk5 M a0 a1 a2 a5 s0) := by
  unfold f_X12_penceOf_b77
  refine q_lconst (x := (0 : Int64)) dX12_penceOf_77 rfl ?_
  refine q_ladd dX12_penceOf_78 ?_
  refine q_lstore_n (ls' := [(3, .long (s0 + (0 : Int64))), (0, .ref a0), (1, .int a1), (2, .int a2), (5, .int a5)]) dX12_penceOf_79 (by decide) rfl ?_
  refine q_iinc 4 (y := (a5 + (1 : Int32))) (ls' := [(5, .int (a5 + (1 : Int32))), (3, .long (s0 + (0 : Int64))), (0, .ref a0), (1, .int a1), (2, .int a2)]) dX12_penceOf_80 rfl rfl (by decide) rfl ?_
  refine q_goto (tgt := 5) dX12_penceOf_83 (by decide) ?_
  refine q_sub (ls' := [(0, .ref a0), (1, .int a1), (2, .int a2), (3, .long (s0 + (0 : Int64))), (5, .int (a5 + (1 : Int32)))]) [2, 3, 4, 1, 0] rfl ?_
  exact hk5 _ _
set_option maxRecDepth 20000 in
theorem v_X12_penceOf_b5 {M : q_Mem} {a0 : Nat} {a1 : Int32} {a2 : Int32}  : ∀ (n : Nat) (a3 : Int64) (a5 : Int32), q_V Y_X12_penceOf none (fun x : Int64 => (some (.long x), M)) 0 0 5 [(0, .ref a0), (1, .int a1), (2, .int a2), (3, .long a3), (5, .int a5)] [] M (f_X12_penceOf_b5 M a0 a1 a2 n a3 a5) := by
  intro n
  induction n with
  | zero => intro a3 a5; exact q_none
  | succ n ih =>
    intro a3 a5
    rw [f_X12_penceOf_b5.eq_2]
    refine q_iload 4 dX12_penceOf_5 rfl ?_
    refine q_aload_n 0 dX12_penceOf_7 rfl ?_
    refine q_getR (f := 0) cl_X12 (by decide) qw_1117 rfl dX12_penceOf_8 (fun _ _ _ => rfl) (fun v1 h2 => ?_)
    refine q_iconst (x := (4 : Int32)) dX12_penceOf_11 rfl ?_
    refine q_iald dX12_penceOf_12 (fun v3 h4 => ?_)
    refine q_icmp_ge (tgt := 86) dX12_penceOf_13 (by decide) (fun c24 => ?_) (fun c24 => ?_)
    · refine q_sipush (x := (2820 : Int32)) dX12_penceOf_16 rfl ?_
      refine q_iconst (x := (5 : Int32)) dX12_penceOf_19 rfl ?_
      refine q_iload 4 dX12_penceOf_20 rfl ?_
      refine q_imul dX12_penceOf_22 ?_
      refine q_iadd dX12_penceOf_23 ?_
      refine q_istore (ls' := [(6, .int ((2820 : Int32) + ((5 : Int32) * a5))), (0, .ref a0), (1, .int a1), (2, .int a2), (3, .long a3), (5, .int a5)]) dX12_penceOf_24 (by decide) rfl ?_
      refine q_lload_n 4 dX12_penceOf_26 rfl ?_
      refine q_aload_n 1 dX12_penceOf_27 rfl ?_
      refine q_getR (f := 0) cl_X12 (by decide) qw_1117 rfl dX12_penceOf_28 (fun _ _ _ => rfl) (fun v5 h6 => ?_)
      refine q_iload 0 dX12_penceOf_31 rfl ?_
      refine q_iald dX12_penceOf_33 (fun v7 h8 => ?_)
      refine q_iload_n 2 dX12_penceOf_34 rfl ?_
      refine q_icmp_ne (tgt := 77) dX12_penceOf_35 (by decide) (fun c23 => ?_) (fun c23 => ?_)
      · refine q_aload_n 1 dX12_penceOf_38 rfl ?_
        refine q_getR (f := 0) cl_X12 (by decide) qw_1117 rfl dX12_penceOf_39 (fun _ _ _ => rfl) (fun v9 h10 => ?_)
        refine q_iload 0 dX12_penceOf_42 rfl ?_
        refine q_iconst (x := (1 : Int32)) dX12_penceOf_44 rfl ?_
        refine q_iadd dX12_penceOf_45 ?_
        refine q_iald dX12_penceOf_46 (fun v11 h12 => ?_)
        refine q_iconst (x := (-1 : Int32)) dX12_penceOf_47 rfl ?_
        refine q_icmp_eq (tgt := 77) dX12_penceOf_48 (by decide) (fun c22 => ?_) (fun c22 => ?_)
        · refine q_sub (ls' := [(0, .ref a0), (1, .int a1), (2, .int a2), (5, .int a5)]) [1, 2, 3, 5] rfl ?_
          exact v_X12_penceOf_b77 (ih)
        · refine q_aload_n 1 dX12_penceOf_51 rfl ?_
          refine q_getR (f := 0) cl_X12 (by decide) qw_1117 rfl dX12_penceOf_52 (fun _ _ _ => rfl) (fun v13 h14 => ?_)
          refine q_iload 0 dX12_penceOf_55 rfl ?_
          refine q_iconst (x := (2 : Int32)) dX12_penceOf_57 rfl ?_
          refine q_iadd dX12_penceOf_58 ?_
          refine q_iald dX12_penceOf_59 (fun v15 h16 => ?_)
          refine q_iload_n 3 dX12_penceOf_60 rfl ?_
          refine q_icmp_gt (tgt := 77) dX12_penceOf_61 (by decide) (fun c21 => ?_) (fun c21 => ?_)
          · refine q_sub (ls' := [(0, .ref a0), (1, .int a1), (2, .int a2), (5, .int a5)]) [1, 2, 3, 5] rfl ?_
            exact v_X12_penceOf_b77 (ih)
          · refine q_aload_n 1 dX12_penceOf_64 rfl ?_
            refine q_getR (f := 0) cl_X12 (by decide) qw_1117 rfl dX12_penceOf_65 (fun _ _ _ => rfl) (fun v17 h18 => ?_)
            refine q_iload 0 dX12_penceOf_68 rfl ?_
            refine q_iconst (x := (1 : Int32)) dX12_penceOf_70 rfl ?_
            refine q_iadd dX12_penceOf_71 ?_
            refine q_iald dX12_penceOf_72 (fun v19 h20 => ?_)
            refine q_i2l dX12_penceOf_73 ?_
            refine q_goto (tgt := 78) dX12_penceOf_74 (by decide) ?_
            refine q_ladd dX12_penceOf_78 ?_
            refine q_lstore_n (ls' := [(3, .long (a3 + v19.toInt64)), (6, .int ((2820 : Int32) + ((5 : Int32) * a5))), (0, .ref a0), (1, .int a1), (2, .int a2), (5, .int a5)]) dX12_penceOf_79 (by decide) rfl ?_
            refine q_iinc 5 (y := (a5 + (1 : Int32))) (ls' := [(5, .int (a5 + (1 : Int32))), (3, .long (a3 + v19.toInt64)), (6, .int ((2820 : Int32) + ((5 : Int32) * a5))), (0, .ref a0), (1, .int a1), (2, .int a2)]) dX12_penceOf_80 rfl rfl (by decide) rfl ?_
            refine q_goto (tgt := 5) dX12_penceOf_83 (by decide) ?_
            refine q_sub (ls' := [(0, .ref a0), (1, .int a1), (2, .int a2), (3, .long (a3 + v19.toInt64)), (5, .int (a5 + (1 : Int32)))]) [3, 4, 5, 1, 0] rfl ?_
            exact ih _ _
      · refine q_sub (ls' := [(0, .ref a0), (1, .int a1), (2, .int a2), (5, .int a5)]) [1, 2, 3, 5] rfl ?_
        exact v_X12_penceOf_b77 (ih)
    · refine q_lload_n 3 dX12_penceOf_86 rfl ?_
      exact q_lret dX12_penceOf_87 rfl rfl (Nat.le_of_ble_eq_true rfl) rfl
set_option maxRecDepth 20000 in
theorem m_X12_penceOf {M : q_Mem} {a0 : Nat} {a1 : Int32} {a2 : Int32} {x : Int64} (h : f_X12_penceOf M a0 a1 a2 = some x) : q_C Y_X12_penceOf [.ref a0, .int a1, .int a2] M (some (.long x)) M := by
  refine q_met (φ := (fun x : Int64 => (some (.long x), M))) (r := f_X12_penceOf M a0 a1 a2) (by decide +kernel) (Nat.le_of_ble_eq_true rfl) ?_ h (fun _ _ => rfl)
  show q_V Y_X12_penceOf none (fun x : Int64 => (some (.long x), M)) 0 0 0 [(0, .ref a0), (1, .int a1), (2, .int a2)] [] M (f_X12_penceOf M a0 a1 a2)
  unfold f_X12_penceOf
  refine q_obV ?_
  refine q_lconst (x := (0 : Int64)) dX12_penceOf_0 rfl ?_
  refine q_lstore_n (ls' := [(3, .long (0 : Int64)), (0, .ref a0), (1, .int a1), (2, .int a2)]) dX12_penceOf_1 (by decide) rfl ?_
  refine q_iconst (x := (0 : Int32)) dX12_penceOf_2 rfl ?_
  refine q_istore (ls' := [(5, .int (0 : Int32)), (3, .long (0 : Int64)), (0, .ref a0), (1, .int a1), (2, .int a2)]) dX12_penceOf_3 (by decide) rfl ?_
  refine q_sub (ls' := [(0, .ref a0), (1, .int a1), (2, .int a2), (3, .long (0 : Int64)), (5, .int (0 : Int32))]) [2, 3, 4, 1, 0] rfl ?_
  exact v_X12_penceOf_b5 _ _ _
theorem dX12_about_0 : decode cX12_about 0 = .ok (.aload_n 0, 1) := by decide +kernel
theorem dX12_about_1 : decode cX12_about 1 = .ok (.iconst 3, 1) := by decide +kernel
theorem dX12_about_2 : decode cX12_about 2 = .ok (.iload_n 1, 1) := by decide +kernel
theorem dX12_about_3 : decode cX12_about 3 = .ok (.invokevirtual 86, 3) := by decide +kernel
theorem dX12_about_6 : decode cX12_about 6 = .ok (.ifCond .eq 20, 3) := by decide +kernel
theorem dX12_about_9 : decode cX12_about 9 = .ok (.iload_n 2, 1) := by decide +kernel
theorem dX12_about_10 : decode cX12_about 10 = .ok (.invokestatic 90, 3) := by decide +kernel
theorem dX12_about_13 : decode cX12_about 13 = .ok (.ifCond .eq 13, 3) := by decide +kernel
theorem dX12_about_16 : decode cX12_about 16 = .ok (.iload_n 3, 1) := by decide +kernel
theorem dX12_about_17 : decode cX12_about 17 = .ok (.iconst 0, 1) := by decide +kernel
theorem dX12_about_18 : decode cX12_about 18 = .ok (.bipush 6, 2) := by decide +kernel
theorem dX12_about_20 : decode cX12_about 20 = .ok (.invokestatic 78, 3) := by decide +kernel
theorem dX12_about_23 : decode cX12_about 23 = .ok (.ifCond .ne 7, 3) := by decide +kernel
theorem dX12_about_26 : decode cX12_about 26 = .ok (.ldc2_w 123, 3) := by decide +kernel
theorem dX12_about_29 : decode cX12_about 29 = .ok (.lreturn, 1) := by decide +kernel
theorem dX12_about_30 : decode cX12_about 30 = .ok (.aload_n 0, 1) := by decide +kernel
theorem dX12_about_31 : decode cX12_about 31 = .ok (.iload_n 2, 1) := by decide +kernel
theorem dX12_about_32 : decode cX12_about 32 = .ok (.invokevirtual 113, 3) := by decide +kernel
theorem dX12_about_35 : decode cX12_about 35 = .ok (.iload_n 3, 1) := by decide +kernel
theorem dX12_about_36 : decode cX12_about 36 = .ok (.tableswitch 81 0 5 #[40, 47, 54, 61, 67, 74], 40) := by decide +kernel
theorem dX12_about_76 : decode cX12_about 76 = .ok (.aload_n 0, 1) := by decide +kernel
theorem dX12_about_77 : decode cX12_about 77 = .ok (.iload_n 1, 1) := by decide +kernel
theorem dX12_about_78 : decode cX12_about 78 = .ok (.invokevirtual 146, 3) := by decide +kernel
theorem dX12_about_81 : decode cX12_about 81 = .ok (.i2l, 1) := by decide +kernel
theorem dX12_about_82 : decode cX12_about 82 = .ok (.lreturn, 1) := by decide +kernel
theorem dX12_about_83 : decode cX12_about 83 = .ok (.aload_n 0, 1) := by decide +kernel
theorem dX12_about_84 : decode cX12_about 84 = .ok (.iload_n 1, 1) := by decide +kernel
theorem dX12_about_85 : decode cX12_about 85 = .ok (.invokevirtual 136, 3) := by decide +kernel
theorem dX12_about_88 : decode cX12_about 88 = .ok (.i2l, 1) := by decide +kernel
theorem dX12_about_89 : decode cX12_about 89 = .ok (.lreturn, 1) := by decide +kernel
theorem dX12_about_90 : decode cX12_about 90 = .ok (.aload_n 0, 1) := by decide +kernel
theorem dX12_about_91 : decode cX12_about 91 = .ok (.iload_n 1, 1) := by decide +kernel
theorem dX12_about_92 : decode cX12_about 92 = .ok (.iconst (-1), 1) := by decide +kernel
theorem dX12_about_93 : decode cX12_about 93 = .ok (.invokevirtual 132, 3) := by decide +kernel
theorem dX12_about_96 : decode cX12_about 96 = .ok (.lreturn, 1) := by decide +kernel
theorem dX12_about_97 : decode cX12_about 97 = .ok (.aload_n 0, 1) := by decide +kernel
theorem dX12_about_98 : decode cX12_about 98 = .ok (.iload_n 1, 1) := by decide +kernel
theorem dX12_about_99 : decode cX12_about 99 = .ok (.invokevirtual 141, 3) := by decide +kernel
theorem dX12_about_102 : decode cX12_about 102 = .ok (.lreturn, 1) := by decide +kernel
theorem dX12_about_103 : decode cX12_about 103 = .ok (.aload_n 0, 1) := by decide +kernel
theorem dX12_about_104 : decode cX12_about 104 = .ok (.iload_n 1, 1) := by decide +kernel
theorem dX12_about_105 : decode cX12_about 105 = .ok (.invokevirtual 149, 3) := by decide +kernel
theorem dX12_about_108 : decode cX12_about 108 = .ok (.i2l, 1) := by decide +kernel
theorem dX12_about_109 : decode cX12_about 109 = .ok (.lreturn, 1) := by decide +kernel
theorem dX12_about_110 : decode cX12_about 110 = .ok (.aload_n 0, 1) := by decide +kernel
theorem dX12_about_111 : decode cX12_about 111 = .ok (.iload_n 1, 1) := by decide +kernel
theorem dX12_about_112 : decode cX12_about 112 = .ok (.invokevirtual 152, 3) := by decide +kernel
theorem dX12_about_115 : decode cX12_about 115 = .ok (.i2l, 1) := by decide +kernel
theorem dX12_about_116 : decode cX12_about 116 = .ok (.lreturn, 1) := by decide +kernel
theorem dX12_about_117 : decode cX12_about 117 = .ok (.aload_n 0, 1) := by decide +kernel
theorem dX12_about_118 : decode cX12_about 118 = .ok (.iload_n 1, 1) := by decide +kernel
theorem dX12_about_119 : decode cX12_about 119 = .ok (.iload_n 2, 1) := by decide +kernel
theorem dX12_about_120 : decode cX12_about 120 = .ok (.invokevirtual 155, 3) := by decide +kernel
theorem dX12_about_123 : decode cX12_about 123 = .ok (.lreturn, 1) := by decide +kernel
def f_X12_about (M : q_Mem) (a0 : Nat) (a1 : Int32) (a2 : Int32) (a3 : Int32) : Option (Int64 × q_Mem) :=
  q_ob 11 M a0 ((f_X12_is M a0 (3 : Int32) a1).bind fun v2 =>
  (if v2 = 0 then
    some ((-2 : Int64), M)
  else
    (f_X12_isDay M a2).bind fun v4 =>
    (if v4 = 0 then
      some ((-2 : Int64), M)
    else
      (f_X12_in M a3 (0 : Int32) (6 : Int32)).bind fun v6 =>
      (if v6 = 0 then
        some ((-2 : Int64), M)
      else
        (f_X12_findRates M a0 a2).bind fun M9 =>
        (if a3 < 0 then
          (f_X12_penceOf M9 a0 a1 a2).bind fun v11 =>
          some (v11, M9)
        else
         (if a3 = 0 then
          (f_X12_cansOf M9 a0 a1).bind fun v15 =>
          some (v15.toInt64, M9)
         else
         (if a3 = 1 then
          (f_X12_lossOf M9 a0 a1).bind fun v19 =>
          some (v19.toInt64, M9)
         else
         (if a3 = 2 then
          (f_X12_churnFat M9 a0 a1 (-1 : Int32)).bind fun v23 =>
          some (v23, M9)
         else
         (if a3 = 3 then
          (f_X12_butter M9 a0 a1).bind fun v27 =>
          some (v27, M9)
         else
         (if a3 = 4 then
          (f_X12_agrees M9 a0 a1).bind fun v31 =>
          some (v31.toInt64, M9)
         else
         (if a3 = 5 then
          (f_X12_boxesOf M9 a0 a1).bind fun v35 =>
          some (v35.toInt64, M9)
         else
         (f_X12_penceOf M9 a0 a1 a2).bind fun v11 =>
        some (v11, M9))))))))))))
set_option maxRecDepth 20000 in
theorem m_X12_about {M : q_Mem} {a0 : Nat} {a1 : Int32} {a2 : Int32} {a3 : Int32} {x : (Int64 × q_Mem)} (h : f_X12_about M a0 a1 a2 a3 = some x) : q_C Y_X12_about [.ref a0, .int a1, .int a2, .int a3] M (some (.long x.1)) x.2 := by
  refine q_met (φ := (fun x : Int64 × q_Mem => (some (.long x.1), x.2))) (r := f_X12_about M a0 a1 a2 a3) (by decide +kernel) (Nat.le_of_ble_eq_true rfl) ?_ h (fun _ _ => rfl)
  show q_V Y_X12_about none (fun x : Int64 × q_Mem => (some (.long x.1), x.2)) 0 0 0 [(0, .ref a0), (1, .int a1), (2, .int a2), (3, .int a3)] [] M (f_X12_about M a0 a1 a2 a3)
  unfold f_X12_about
  refine q_obV ?_
  refine q_aload_n 0 dX12_about_0 rfl ?_
  refine q_iconst (x := (3 : Int32)) dX12_about_1 rfl ?_
  refine q_iload_n 1 dX12_about_2 rfl ?_
  refine q_cVI (Y2 := Y_X12_is) (As := [.int (3 : Int32), .int a1]) (b := a0) (st := []) cl_X12 mv_X12_is qw_1225 dX12_about_3 ⟨Nat.le_of_ble_eq_true rfl, Nat.le_of_ble_eq_true rfl⟩ rfl (fun _ _ => rfl) (Nat.le_of_ble_eq_true rfl) ⟨Nat.le_of_ble_eq_true rfl, Nat.le_of_ble_eq_true rfl⟩ (fun v2 h1 => q_ob_is h1) (fun v2 h1 => m_X12_is h1) (fun v2 h1 => ?_)
  refine q_if_eq (tgt := 26) dX12_about_6 (by decide) (fun c40 => ?_) (fun c40 => ?_)
  · refine q_ldc2 (x := (-2 : Int64)) qw_1299 dX12_about_26 ?_
    exact q_lret dX12_about_29 rfl rfl (Nat.le_of_ble_eq_true rfl) rfl
  · refine q_iload_n 2 dX12_about_9 rfl ?_
    refine q_cSI (Y2 := Y_X12_isDay) (As := [.int a2]) (st := []) ms_X12_isDay qw_1233 dX12_about_10 ⟨Nat.le_of_ble_eq_true rfl, Nat.le_of_ble_eq_true rfl⟩ rfl (fun _ _ => rfl) (Nat.le_of_ble_eq_true rfl) ⟨Nat.le_of_ble_eq_true rfl, Nat.le_of_ble_eq_true rfl⟩ (fun v4 h3 => m_X12_isDay h3) (fun v4 h3 => ?_)
    refine q_if_eq (tgt := 26) dX12_about_13 (by decide) (fun c39 => ?_) (fun c39 => ?_)
    · refine q_ldc2 (x := (-2 : Int64)) qw_1299 dX12_about_26 ?_
      exact q_lret dX12_about_29 rfl rfl (Nat.le_of_ble_eq_true rfl) rfl
    · refine q_iload_n 3 dX12_about_16 rfl ?_
      refine q_iconst (x := (0 : Int32)) dX12_about_17 rfl ?_
      refine q_bipush (x := (6 : Int32)) dX12_about_18 rfl ?_
      refine q_cSI (Y2 := Y_X12_in) (As := [.int a3, .int (0 : Int32), .int (6 : Int32)]) (st := []) ms_X12_in qw_1214 dX12_about_20 ⟨Nat.le_of_ble_eq_true rfl, Nat.le_of_ble_eq_true rfl⟩ rfl (fun _ _ => rfl) (Nat.le_of_ble_eq_true rfl) ⟨Nat.le_of_ble_eq_true rfl, Nat.le_of_ble_eq_true rfl⟩ (fun v6 h5 => m_X12_in h5) (fun v6 h5 => ?_)
      refine q_if_ne (tgt := 30) dX12_about_23 (by decide) (fun c38 => ?_) (fun c38 => ?_)
      · refine q_ldc2 (x := (-2 : Int64)) qw_1299 dX12_about_26 ?_
        exact q_lret dX12_about_29 rfl rfl (Nat.le_of_ble_eq_true rfl) rfl
      · refine q_aload_n 0 dX12_about_30 rfl ?_
        refine q_iload_n 2 dX12_about_31 rfl ?_
        refine q_cVM (Y2 := Y_X12_findRates) (As := [.int a2]) (b := a0) (st := []) cl_X12 mv_X12_findRates qw_1280 dX12_about_32 ⟨Nat.le_of_ble_eq_true rfl, Nat.le_of_ble_eq_true rfl⟩ rfl (fun _ _ => rfl) (Nat.le_of_ble_eq_true rfl) ⟨Nat.le_of_ble_eq_true rfl, Nat.le_of_ble_eq_true rfl⟩ (fun M9 h7 => q_ob_is h7) (fun M9 h7 => m_X12_findRates h7) (fun M9 h7 => ?_)
        refine q_iload_n 3 dX12_about_35 rfl ?_
        refine q_ifV (fun c12 => ?_) (fun c12 => ?_)
        · refine q_tabOut (tgt := 117) dX12_about_36 (Or.inl (q_lt c12 rfl)) (by decide) ?_
          refine q_aload_n 0 dX12_about_117 rfl ?_
          refine q_iload_n 1 dX12_about_118 rfl ?_
          refine q_iload_n 2 dX12_about_119 rfl ?_
          refine q_cVJ (Y2 := Y_X12_penceOf) (As := [.int a1, .int a2]) (b := a0) (st := []) cl_X12 mv_X12_penceOf qw_1345 dX12_about_120 ⟨Nat.le_of_ble_eq_true rfl, Nat.le_of_ble_eq_true rfl⟩ rfl (fun _ _ => rfl) (Nat.le_of_ble_eq_true rfl) ⟨Nat.le_of_ble_eq_true rfl, Nat.le_of_ble_eq_true rfl⟩ (fun v11 h10 => q_ob_is h10) (fun v11 h10 => m_X12_penceOf h10) (fun v11 h10 => ?_)
          exact q_lret dX12_about_123 rfl rfl (Nat.le_of_ble_eq_true rfl) rfl
        · have b13 := q_nlt (b := 0) c12 rfl
          refine q_ifV (fun c16 => ?_) (fun c16 => ?_)
          · refine q_tabIn (tgt := 76) 0 dX12_about_36 c16 (by decide) (by decide) rfl (by decide) ?_
            refine q_aload_n 0 dX12_about_76 rfl ?_
            refine q_iload_n 1 dX12_about_77 rfl ?_
            refine q_cVI (Y2 := Y_X12_cansOf) (As := [.int a1]) (b := a0) (st := []) cl_X12 mv_X12_cansOf qw_1316 dX12_about_78 ⟨Nat.le_of_ble_eq_true rfl, Nat.le_of_ble_eq_true rfl⟩ rfl (fun _ _ => rfl) (Nat.le_of_ble_eq_true rfl) ⟨Nat.le_of_ble_eq_true rfl, Nat.le_of_ble_eq_true rfl⟩ (fun v15 h14 => q_ob_is h14) (fun v15 h14 => m_X12_cansOf h14) (fun v15 h14 => ?_)
            refine q_i2l dX12_about_81 ?_
            exact q_lret dX12_about_82 rfl rfl (Nat.le_of_ble_eq_true rfl) rfl
          · have b17 := q_step (c := 1) b13 c16 rfl (by decide)
            refine q_ifV (fun c20 => ?_) (fun c20 => ?_)
            · refine q_tabIn (tgt := 83) 1 dX12_about_36 c20 (by decide) (by decide) rfl (by decide) ?_
              refine q_aload_n 0 dX12_about_83 rfl ?_
              refine q_iload_n 1 dX12_about_84 rfl ?_
              refine q_cVI (Y2 := Y_X12_lossOf) (As := [.int a1]) (b := a0) (st := []) cl_X12 mv_X12_lossOf qw_1320 dX12_about_85 ⟨Nat.le_of_ble_eq_true rfl, Nat.le_of_ble_eq_true rfl⟩ rfl (fun _ _ => rfl) (Nat.le_of_ble_eq_true rfl) ⟨Nat.le_of_ble_eq_true rfl, Nat.le_of_ble_eq_true rfl⟩ (fun v19 h18 => q_ob_is h18) (fun v19 h18 => m_X12_lossOf h18) (fun v19 h18 => ?_)
              refine q_i2l dX12_about_88 ?_
              exact q_lret dX12_about_89 rfl rfl (Nat.le_of_ble_eq_true rfl) rfl
            · have b21 := q_step (c := 2) b17 c20 rfl (by decide)
              refine q_ifV (fun c24 => ?_) (fun c24 => ?_)
              · refine q_tabIn (tgt := 90) 2 dX12_about_36 c24 (by decide) (by decide) rfl (by decide) ?_
                refine q_aload_n 0 dX12_about_90 rfl ?_
                refine q_iload_n 1 dX12_about_91 rfl ?_
                refine q_iconst (x := (-1 : Int32)) dX12_about_92 rfl ?_
                refine q_cVJ (Y2 := Y_X12_churnFat) (As := [.int a1, .int (-1 : Int32)]) (b := a0) (st := []) cl_X12 mv_X12_churnFat qw_1327 dX12_about_93 ⟨Nat.le_of_ble_eq_true rfl, Nat.le_of_ble_eq_true rfl⟩ rfl (fun _ _ => rfl) (Nat.le_of_ble_eq_true rfl) ⟨Nat.le_of_ble_eq_true rfl, Nat.le_of_ble_eq_true rfl⟩ (fun v23 h22 => q_ob_is h22) (fun v23 h22 => m_X12_churnFat h22) (fun v23 h22 => ?_)
                exact q_lret dX12_about_96 rfl rfl (Nat.le_of_ble_eq_true rfl) rfl
              · have b25 := q_step (c := 3) b21 c24 rfl (by decide)
                refine q_ifV (fun c28 => ?_) (fun c28 => ?_)
                · refine q_tabIn (tgt := 97) 3 dX12_about_36 c28 (by decide) (by decide) rfl (by decide) ?_
                  refine q_aload_n 0 dX12_about_97 rfl ?_
                  refine q_iload_n 1 dX12_about_98 rfl ?_
                  refine q_cVJ (Y2 := Y_X12_butter) (As := [.int a1]) (b := a0) (st := []) cl_X12 mv_X12_butter qw_1331 dX12_about_99 ⟨Nat.le_of_ble_eq_true rfl, Nat.le_of_ble_eq_true rfl⟩ rfl (fun _ _ => rfl) (Nat.le_of_ble_eq_true rfl) ⟨Nat.le_of_ble_eq_true rfl, Nat.le_of_ble_eq_true rfl⟩ (fun v27 h26 => q_ob_is h26) (fun v27 h26 => m_X12_butter h26) (fun v27 h26 => ?_)
                  exact q_lret dX12_about_102 rfl rfl (Nat.le_of_ble_eq_true rfl) rfl
                · have b29 := q_step (c := 4) b25 c28 rfl (by decide)
                  refine q_ifV (fun c32 => ?_) (fun c32 => ?_)
                  · refine q_tabIn (tgt := 103) 4 dX12_about_36 c32 (by decide) (by decide) rfl (by decide) ?_
                    refine q_aload_n 0 dX12_about_103 rfl ?_
                    refine q_iload_n 1 dX12_about_104 rfl ?_
                    refine q_cVI (Y2 := Y_X12_agrees) (As := [.int a1]) (b := a0) (st := []) cl_X12 mv_X12_agrees qw_1336 dX12_about_105 ⟨Nat.le_of_ble_eq_true rfl, Nat.le_of_ble_eq_true rfl⟩ rfl (fun _ _ => rfl) (Nat.le_of_ble_eq_true rfl) ⟨Nat.le_of_ble_eq_true rfl, Nat.le_of_ble_eq_true rfl⟩ (fun v31 h30 => q_ob_is h30) (fun v31 h30 => m_X12_agrees h30) (fun v31 h30 => ?_)
                    refine q_i2l dX12_about_108 ?_
                    exact q_lret dX12_about_109 rfl rfl (Nat.le_of_ble_eq_true rfl) rfl
                  · have b33 := q_step (c := 5) b29 c32 rfl (by decide)
                    refine q_ifV (fun c36 => ?_) (fun c36 => ?_)
                    · refine q_tabIn (tgt := 110) 5 dX12_about_36 c36 (by decide) (by decide) rfl (by decide) ?_
                      refine q_aload_n 0 dX12_about_110 rfl ?_
                      refine q_iload_n 1 dX12_about_111 rfl ?_
                      refine q_cVI (Y2 := Y_X12_boxesOf) (As := [.int a1]) (b := a0) (st := []) cl_X12 mv_X12_boxesOf qw_1341 dX12_about_112 ⟨Nat.le_of_ble_eq_true rfl, Nat.le_of_ble_eq_true rfl⟩ rfl (fun _ _ => rfl) (Nat.le_of_ble_eq_true rfl) ⟨Nat.le_of_ble_eq_true rfl, Nat.le_of_ble_eq_true rfl⟩ (fun v35 h34 => q_ob_is h34) (fun v35 h34 => m_X12_boxesOf h34) (fun v35 h34 => ?_)
                      refine q_i2l dX12_about_115 ?_
                      exact q_lret dX12_about_116 rfl rfl (Nat.le_of_ble_eq_true rfl) rfl
                    · have b37 := q_step (c := 6) b33 c36 rfl (by decide)
                      refine q_tabOut (tgt := 117) dX12_about_36 (Or.inr (Int.lt_of_lt_of_le (by decide) b37)) (by decide) ?_
                      refine q_aload_n 0 dX12_about_117 rfl ?_
                      refine q_iload_n 1 dX12_about_118 rfl ?_
                      refine q_iload_n 2 dX12_about_119 rfl ?_
                      refine q_cVJ (Y2 := Y_X12_penceOf) (As := [.int a1, .int a2]) (b := a0) (st := []) cl_X12 mv_X12_penceOf qw_1345 dX12_about_120 ⟨Nat.le_of_ble_eq_true rfl, Nat.le_of_ble_eq_true rfl⟩ rfl (fun _ _ => rfl) (Nat.le_of_ble_eq_true rfl) ⟨Nat.le_of_ble_eq_true rfl, Nat.le_of_ble_eq_true rfl⟩ (fun v11 h10 => q_ob_is h10) (fun v11 h10 => m_X12_penceOf h10) (fun v11 h10 => ?_)
                      exact q_lret dX12_about_123 rfl rfl (Nat.le_of_ble_eq_true rfl) rfl
theorem dX12_out_0 : decode cX12_out 0 = .ok (.aload_n 0, 1) := by decide +kernel
theorem dX12_out_1 : decode cX12_out 1 = .ok (.iconst 3, 1) := by decide +kernel
theorem dX12_out_2 : decode cX12_out 2 = .ok (.iload_n 1, 1) := by decide +kernel
theorem dX12_out_3 : decode cX12_out 3 = .ok (.invokevirtual 86, 3) := by decide +kernel
theorem dX12_out_6 : decode cX12_out 6 = .ok (.ifCond .eq 13, 3) := by decide +kernel
theorem dX12_out_9 : decode cX12_out 9 = .ok (.iload_n 2, 1) := by decide +kernel
theorem dX12_out_10 : decode cX12_out 10 = .ok (.iconst 0, 1) := by decide +kernel
theorem dX12_out_11 : decode cX12_out 11 = .ok (.ldc 158, 2) := by decide +kernel
theorem dX12_out_13 : decode cX12_out 13 = .ok (.invokestatic 78, 3) := by decide +kernel
theorem dX12_out_16 : decode cX12_out 16 = .ok (.ifCond .ne 6, 3) := by decide +kernel
theorem dX12_out_19 : decode cX12_out 19 = .ok (.bipush (-2), 2) := by decide +kernel
theorem dX12_out_21 : decode cX12_out 21 = .ok (.ireturn, 1) := by decide +kernel
theorem dX12_out_22 : decode cX12_out 22 = .ok (.aload_n 0, 1) := by decide +kernel
theorem dX12_out_23 : decode cX12_out 23 = .ok (.getfield 7, 3) := by decide +kernel
theorem dX12_out_26 : decode cX12_out 26 = .ok (.sipush 2700, 3) := by decide +kernel
theorem dX12_out_29 : decode cX12_out 29 = .ok (.iconst 3, 1) := by decide +kernel
theorem dX12_out_30 : decode cX12_out 30 = .ok (.iload_n 1, 1) := by decide +kernel
theorem dX12_out_31 : decode cX12_out 31 = .ok (.imul, 1) := by decide +kernel
theorem dX12_out_32 : decode cX12_out 32 = .ok (.iadd, 1) := by decide +kernel
theorem dX12_out_33 : decode cX12_out 33 = .ok (.iconst 2, 1) := by decide +kernel
theorem dX12_out_34 : decode cX12_out 34 = .ok (.iadd, 1) := by decide +kernel
theorem dX12_out_35 : decode cX12_out 35 = .ok (.iaload, 1) := by decide +kernel
theorem dX12_out_36 : decode cX12_out 36 = .ok (.iconst (-1), 1) := by decide +kernel
theorem dX12_out_37 : decode cX12_out 37 = .ok (.if_icmp .eq 6, 3) := by decide +kernel
theorem dX12_out_40 : decode cX12_out 40 = .ok (.bipush (-3), 2) := by decide +kernel
theorem dX12_out_42 : decode cX12_out 42 = .ok (.ireturn, 1) := by decide +kernel
theorem dX12_out_43 : decode cX12_out 43 = .ok (.aload_n 0, 1) := by decide +kernel
theorem dX12_out_44 : decode cX12_out 44 = .ok (.getfield 7, 3) := by decide +kernel
theorem dX12_out_47 : decode cX12_out 47 = .ok (.sipush 2700, 3) := by decide +kernel
theorem dX12_out_50 : decode cX12_out 50 = .ok (.iconst 3, 1) := by decide +kernel
theorem dX12_out_51 : decode cX12_out 51 = .ok (.iload_n 1, 1) := by decide +kernel
theorem dX12_out_52 : decode cX12_out 52 = .ok (.imul, 1) := by decide +kernel
theorem dX12_out_53 : decode cX12_out 53 = .ok (.iadd, 1) := by decide +kernel
theorem dX12_out_54 : decode cX12_out 54 = .ok (.iconst 2, 1) := by decide +kernel
theorem dX12_out_55 : decode cX12_out 55 = .ok (.iadd, 1) := by decide +kernel
theorem dX12_out_56 : decode cX12_out 56 = .ok (.iload_n 2, 1) := by decide +kernel
theorem dX12_out_57 : decode cX12_out 57 = .ok (.iastore, 1) := by decide +kernel
theorem dX12_out_58 : decode cX12_out 58 = .ok (.iconst 1, 1) := by decide +kernel
theorem dX12_out_59 : decode cX12_out 59 = .ok (.ireturn, 1) := by decide +kernel
def f_X12_out (M : q_Mem) (a0 : Nat) (a1 : Int32) (a2 : Int32) : Option (Int32 × q_Mem) :=
  q_ob 11 M a0 ((f_X12_is M a0 (3 : Int32) a1).bind fun v2 =>
  (if v2 = 0 then
    some ((-2 : Int32), M)
  else
    (f_X12_in M a2 (0 : Int32) (300000000 : Int32)).bind fun v4 =>
    (if v4 = 0 then
      some ((-2 : Int32), M)
    else
      (q_gR 11 0 M a0).bind fun v5 =>
      (q_lI M v5 (((2700 : Int32) + ((3 : Int32) * a1)) + (2 : Int32))).bind fun v7 =>
      (if v7 = (-1 : Int32) then
        (q_gR 11 0 M a0).bind fun v9 =>
        (q_tI M v9 (((2700 : Int32) + ((3 : Int32) * a1)) + (2 : Int32)) a2).bind fun M11 =>
        some ((1 : Int32), M11)
      else
        some ((-3 : Int32), M)))))
set_option maxRecDepth 20000 in
theorem m_X12_out {M : q_Mem} {a0 : Nat} {a1 : Int32} {a2 : Int32} {x : (Int32 × q_Mem)} (h : f_X12_out M a0 a1 a2 = some x) : q_C Y_X12_out [.ref a0, .int a1, .int a2] M (some (.int x.1)) x.2 := by
  refine q_met (φ := (fun x : Int32 × q_Mem => (some (.int x.1), x.2))) (r := f_X12_out M a0 a1 a2) (by decide +kernel) (Nat.le_of_ble_eq_true rfl) ?_ h (fun _ _ => rfl)
  show q_V Y_X12_out none (fun x : Int32 × q_Mem => (some (.int x.1), x.2)) 0 0 0 [(0, .ref a0), (1, .int a1), (2, .int a2)] [] M (f_X12_out M a0 a1 a2)
  unfold f_X12_out
  refine q_obV ?_
  refine q_aload_n 0 dX12_out_0 rfl ?_
  refine q_iconst (x := (3 : Int32)) dX12_out_1 rfl ?_
  refine q_iload_n 1 dX12_out_2 rfl ?_
  refine q_cVI (Y2 := Y_X12_is) (As := [.int (3 : Int32), .int a1]) (b := a0) (st := []) cl_X12 mv_X12_is qw_1225 dX12_out_3 ⟨Nat.le_of_ble_eq_true rfl, Nat.le_of_ble_eq_true rfl⟩ rfl (fun _ _ => rfl) (Nat.le_of_ble_eq_true rfl) ⟨Nat.le_of_ble_eq_true rfl, Nat.le_of_ble_eq_true rfl⟩ (fun v2 h1 => q_ob_is h1) (fun v2 h1 => m_X12_is h1) (fun v2 h1 => ?_)
  refine q_if_eq (tgt := 19) dX12_out_6 (by decide) (fun c15 => ?_) (fun c15 => ?_)
  · refine q_bipush (x := (-2 : Int32)) dX12_out_19 rfl ?_
    exact q_iret dX12_out_21 rfl rfl (Nat.le_of_ble_eq_true rfl) rfl
  · refine q_iload_n 2 dX12_out_9 rfl ?_
    refine q_iconst (x := (0 : Int32)) dX12_out_10 rfl ?_
    refine q_ldc (x := (300000000 : Int32)) qw_1353 dX12_out_11 ?_
    refine q_cSI (Y2 := Y_X12_in) (As := [.int a2, .int (0 : Int32), .int (300000000 : Int32)]) (st := []) ms_X12_in qw_1214 dX12_out_13 ⟨Nat.le_of_ble_eq_true rfl, Nat.le_of_ble_eq_true rfl⟩ rfl (fun _ _ => rfl) (Nat.le_of_ble_eq_true rfl) ⟨Nat.le_of_ble_eq_true rfl, Nat.le_of_ble_eq_true rfl⟩ (fun v4 h3 => m_X12_in h3) (fun v4 h3 => ?_)
    refine q_if_ne (tgt := 22) dX12_out_16 (by decide) (fun c14 => ?_) (fun c14 => ?_)
    · refine q_bipush (x := (-2 : Int32)) dX12_out_19 rfl ?_
      exact q_iret dX12_out_21 rfl rfl (Nat.le_of_ble_eq_true rfl) rfl
    · refine q_aload_n 0 dX12_out_22 rfl ?_
      refine q_getR (f := 0) cl_X12 (by decide) qw_1117 rfl dX12_out_23 (fun _ _ _ => rfl) (fun v5 h6 => ?_)
      refine q_sipush (x := (2700 : Int32)) dX12_out_26 rfl ?_
      refine q_iconst (x := (3 : Int32)) dX12_out_29 rfl ?_
      refine q_iload_n 1 dX12_out_30 rfl ?_
      refine q_imul dX12_out_31 ?_
      refine q_iadd dX12_out_32 ?_
      refine q_iconst (x := (2 : Int32)) dX12_out_33 rfl ?_
      refine q_iadd dX12_out_34 ?_
      refine q_iald dX12_out_35 (fun v7 h8 => ?_)
      refine q_iconst (x := (-1 : Int32)) dX12_out_36 rfl ?_
      refine q_icmp_eq (tgt := 43) dX12_out_37 (by decide) (fun c13 => ?_) (fun c13 => ?_)
      · refine q_aload_n 0 dX12_out_43 rfl ?_
        refine q_getR (f := 0) cl_X12 (by decide) qw_1117 rfl dX12_out_44 (fun _ _ _ => rfl) (fun v9 h10 => ?_)
        refine q_sipush (x := (2700 : Int32)) dX12_out_47 rfl ?_
        refine q_iconst (x := (3 : Int32)) dX12_out_50 rfl ?_
        refine q_iload_n 1 dX12_out_51 rfl ?_
        refine q_imul dX12_out_52 ?_
        refine q_iadd dX12_out_53 ?_
        refine q_iconst (x := (2 : Int32)) dX12_out_54 rfl ?_
        refine q_iadd dX12_out_55 ?_
        refine q_iload_n 2 dX12_out_56 rfl ?_
        refine q_iast dX12_out_57 (fun M11 h12 => ?_)
        refine q_iconst (x := (1 : Int32)) dX12_out_58 rfl ?_
        exact q_iret dX12_out_59 rfl rfl (Nat.le_of_ble_eq_true rfl) rfl
      · refine q_bipush (x := (-3 : Int32)) dX12_out_40 rfl ?_
        exact q_iret dX12_out_42 rfl rfl (Nat.le_of_ble_eq_true rfl) rfl
