theorem dX12_box_0 : decode cX12_box 0 = .ok (.aload_n 0, 1) := by decide +kernel
theorem dX12_box_1 : decode cX12_box 1 = .ok (.iconst 3, 1) := by decide +kernel
theorem dX12_box_2 : decode cX12_box 2 = .ok (.iload_n 1, 1) := by decide +kernel
theorem dX12_box_3 : decode cX12_box 3 = .ok (.invokevirtual 86, 3) := by decide +kernel
theorem dX12_box_6 : decode cX12_box 6 = .ok (.ifCond .ne 6, 3) := by decide +kernel
theorem dX12_box_9 : decode cX12_box 9 = .ok (.bipush (-2), 2) := by decide +kernel
theorem dX12_box_11 : decode cX12_box 11 = .ok (.ireturn, 1) := by decide +kernel
theorem dX12_box_12 : decode cX12_box 12 = .ok (.aload_n 0, 1) := by decide +kernel
theorem dX12_box_13 : decode cX12_box 13 = .ok (.getfield 7, 3) := by decide +kernel
theorem dX12_box_16 : decode cX12_box 16 = .ok (.iconst 4, 1) := by decide +kernel
theorem dX12_box_17 : decode cX12_box 17 = .ok (.iaload, 1) := by decide +kernel
theorem dX12_box_18 : decode cX12_box 18 = .ok (.bipush 100, 2) := by decide +kernel
theorem dX12_box_20 : decode cX12_box 20 = .ok (.if_icmp .ne 6, 3) := by decide +kernel
theorem dX12_box_23 : decode cX12_box 23 = .ok (.bipush (-4), 2) := by decide +kernel
theorem dX12_box_25 : decode cX12_box 25 = .ok (.ireturn, 1) := by decide +kernel
theorem dX12_box_26 : decode cX12_box 26 = .ok (.sipush 2820, 3) := by decide +kernel
theorem dX12_box_29 : decode cX12_box 29 = .ok (.iconst 5, 1) := by decide +kernel
theorem dX12_box_30 : decode cX12_box 30 = .ok (.aload_n 0, 1) := by decide +kernel
theorem dX12_box_31 : decode cX12_box 31 = .ok (.getfield 7, 3) := by decide +kernel
theorem dX12_box_34 : decode cX12_box 34 = .ok (.iconst 4, 1) := by decide +kernel
theorem dX12_box_35 : decode cX12_box 35 = .ok (.iaload, 1) := by decide +kernel
theorem dX12_box_36 : decode cX12_box 36 = .ok (.imul, 1) := by decide +kernel
theorem dX12_box_37 : decode cX12_box 37 = .ok (.iadd, 1) := by decide +kernel
theorem dX12_box_38 : decode cX12_box 38 = .ok (.istore_n 2, 1) := by decide +kernel
theorem dX12_box_39 : decode cX12_box 39 = .ok (.aload_n 0, 1) := by decide +kernel
theorem dX12_box_40 : decode cX12_box 40 = .ok (.getfield 7, 3) := by decide +kernel
theorem dX12_box_43 : decode cX12_box 43 = .ok (.iload_n 2, 1) := by decide +kernel
theorem dX12_box_44 : decode cX12_box 44 = .ok (.iload_n 1, 1) := by decide +kernel
theorem dX12_box_45 : decode cX12_box 45 = .ok (.iastore, 1) := by decide +kernel
theorem dX12_box_46 : decode cX12_box 46 = .ok (.iconst 1, 1) := by decide +kernel
theorem dX12_box_47 : decode cX12_box 47 = .ok (.istore_n 3, 1) := by decide +kernel
theorem dX12_box_48 : decode cX12_box 48 = .ok (.iload_n 3, 1) := by decide +kernel
theorem dX12_box_49 : decode cX12_box 49 = .ok (.iconst 5, 1) := by decide +kernel
theorem dX12_box_50 : decode cX12_box 50 = .ok (.if_icmp .ge 18, 3) := by decide +kernel
theorem dX12_box_53 : decode cX12_box 53 = .ok (.aload_n 0, 1) := by decide +kernel
theorem dX12_box_54 : decode cX12_box 54 = .ok (.getfield 7, 3) := by decide +kernel
theorem dX12_box_57 : decode cX12_box 57 = .ok (.iload_n 2, 1) := by decide +kernel
theorem dX12_box_58 : decode cX12_box 58 = .ok (.iload_n 3, 1) := by decide +kernel
theorem dX12_box_59 : decode cX12_box 59 = .ok (.iadd, 1) := by decide +kernel
theorem dX12_box_60 : decode cX12_box 60 = .ok (.iconst (-1), 1) := by decide +kernel
theorem dX12_box_61 : decode cX12_box 61 = .ok (.iastore, 1) := by decide +kernel
theorem dX12_box_62 : decode cX12_box 62 = .ok (.iinc 3 1, 3) := by decide +kernel
theorem dX12_box_65 : decode cX12_box 65 = .ok (.goto (-17), 3) := by decide +kernel
theorem dX12_box_68 : decode cX12_box 68 = .ok (.aload_n 0, 1) := by decide +kernel
theorem dX12_box_69 : decode cX12_box 69 = .ok (.iconst 4, 1) := by decide +kernel
theorem dX12_box_70 : decode cX12_box 70 = .ok (.invokevirtual 82, 3) := by decide +kernel
theorem dX12_box_73 : decode cX12_box 73 = .ok (.ireturn, 1) := by decide +kernel
def f_X12_box_b48 (a0 : Nat) (a2 : Int32) : Nat → Int32 → q_Mem → Option (Int32 × q_Mem)
  | 0, _, _ => none
  | n + 1, a3, M =>
    (if a3 < (5 : Int32) then
      (q_gR 11 0 M a0).bind fun v17 =>
      (q_tI M v17 (a2 + a3) (-1 : Int32)).bind fun M19 =>
      f_X12_box_b48 a0 a2 n (a3 + (1 : Int32)) M19
    else
      (f_X12_more M a0 (4 : Int32)).bind fun r22 =>
      some (r22.1, r22.2))
def f_X12_box (M : q_Mem) (a0 : Nat) (a1 : Int32) : Option (Int32 × q_Mem) :=
  q_ob 11 M a0 ((f_X12_is M a0 (3 : Int32) a1).bind fun v2 =>
  (if v2 = 0 then
    some ((-2 : Int32), M)
  else
    (q_gR 11 0 M a0).bind fun v3 =>
    (q_lI M v3 (4 : Int32)).bind fun v5 =>
    (if v5 = (100 : Int32) then
      some ((-4 : Int32), M)
    else
      (q_gR 11 0 M a0).bind fun v7 =>
      (q_lI M v7 (4 : Int32)).bind fun v9 =>
      (q_gR 11 0 M a0).bind fun v11 =>
      (q_tI M v11 ((2820 : Int32) + ((5 : Int32) * v9)) a1).bind fun M13 =>
      f_X12_box_b48 a0 ((2820 : Int32) + ((5 : Int32) * v9)) q_fuel (1 : Int32) M13)))
set_option maxRecDepth 20000 in
theorem v_X12_box_b48 {a0 : Nat} {a2 : Int32}  : ∀ (n : Nat) (a3 : Int32) (M : q_Mem), q_V Y_X12_box none (fun x : Int32 × q_Mem => (some (.int x.1), x.2)) 0 0 48 [(0, .ref a0), (2, .int a2), (3, .int a3)] [] M (f_X12_box_b48 a0 a2 n a3 M) := by
  intro n
  induction n with
  | zero => intro a3 M; exact q_none
  | succ n ih =>
    intro a3 M
    rw [f_X12_box_b48.eq_2]
    refine q_iload_n 2 dX12_box_48 rfl ?_
    refine q_iconst (x := (5 : Int32)) dX12_box_49 rfl ?_
    refine q_icmp_ge (tgt := 68) dX12_box_50 (by decide) (fun c23 => ?_) (fun c23 => ?_)
    · refine q_aload_n 0 dX12_box_53 rfl ?_
      refine q_getR (f := 0) cl_X12 (by decide) qw_1117 rfl dX12_box_54 (fun _ _ _ => rfl) (fun v17 h18 => ?_)
      refine q_iload_n 1 dX12_box_57 rfl ?_
      refine q_iload_n 2 dX12_box_58 rfl ?_
      refine q_iadd dX12_box_59 ?_
      refine q_iconst (x := (-1 : Int32)) dX12_box_60 rfl ?_
      refine q_iast dX12_box_61 (fun M19 h20 => ?_)
      refine q_iinc 2 (y := (a3 + (1 : Int32))) (ls' := [(3, .int (a3 + (1 : Int32))), (0, .ref a0), (2, .int a2)]) dX12_box_62 rfl rfl (by decide) rfl ?_
      refine q_goto (tgt := 48) dX12_box_65 (by decide) ?_
      refine q_sub (ls' := [(0, .ref a0), (2, .int a2), (3, .int (a3 + (1 : Int32)))]) [1, 2, 0] rfl ?_
      exact ih _ _
    · refine q_aload_n 0 dX12_box_68 rfl ?_
      refine q_iconst (x := (4 : Int32)) dX12_box_69 rfl ?_
      refine q_cVMI (Y2 := Y_X12_more) (As := [.int (4 : Int32)]) (b := a0) (st := []) cl_X12 mv_X12_more qw_1217 dX12_box_70 ⟨Nat.le_of_ble_eq_true rfl, Nat.le_of_ble_eq_true rfl⟩ rfl (fun _ _ => rfl) (Nat.le_of_ble_eq_true rfl) ⟨Nat.le_of_ble_eq_true rfl, Nat.le_of_ble_eq_true rfl⟩ (fun r22 h21 => q_ob_is h21) (fun r22 h21 => m_X12_more h21) (fun r22 h21 => ?_)
      exact q_iret dX12_box_73 rfl rfl (Nat.le_of_ble_eq_true rfl) rfl
set_option maxRecDepth 20000 in
theorem m_X12_box {M : q_Mem} {a0 : Nat} {a1 : Int32} {x : (Int32 × q_Mem)} (h : f_X12_box M a0 a1 = some x) : q_C Y_X12_box [.ref a0, .int a1] M (some (.int x.1)) x.2 := by
  refine q_met (φ := (fun x : Int32 × q_Mem => (some (.int x.1), x.2))) (r := f_X12_box M a0 a1) (by decide +kernel) (Nat.le_of_ble_eq_true rfl) ?_ h (fun _ _ => rfl)
  show q_V Y_X12_box none (fun x : Int32 × q_Mem => (some (.int x.1), x.2)) 0 0 0 [(0, .ref a0), (1, .int a1)] [] M (f_X12_box M a0 a1)
  unfold f_X12_box
  refine q_obV ?_
  refine q_aload_n 0 dX12_box_0 rfl ?_
  refine q_iconst (x := (3 : Int32)) dX12_box_1 rfl ?_
  refine q_iload_n 1 dX12_box_2 rfl ?_
  refine q_cVI (Y2 := Y_X12_is) (As := [.int (3 : Int32), .int a1]) (b := a0) (st := []) cl_X12 mv_X12_is qw_1225 dX12_box_3 ⟨Nat.le_of_ble_eq_true rfl, Nat.le_of_ble_eq_true rfl⟩ rfl (fun _ _ => rfl) (Nat.le_of_ble_eq_true rfl) ⟨Nat.le_of_ble_eq_true rfl, Nat.le_of_ble_eq_true rfl⟩ (fun v2 h1 => q_ob_is h1) (fun v2 h1 => m_X12_is h1) (fun v2 h1 => ?_)
  refine q_if_ne (tgt := 12) dX12_box_6 (by decide) (fun c16 => ?_) (fun c16 => ?_)
  · refine q_bipush (x := (-2 : Int32)) dX12_box_9 rfl ?_
    exact q_iret dX12_box_11 rfl rfl (Nat.le_of_ble_eq_true rfl) rfl
  · refine q_aload_n 0 dX12_box_12 rfl ?_
    refine q_getR (f := 0) cl_X12 (by decide) qw_1117 rfl dX12_box_13 (fun _ _ _ => rfl) (fun v3 h4 => ?_)
    refine q_iconst (x := (4 : Int32)) dX12_box_16 rfl ?_
    refine q_iald dX12_box_17 (fun v5 h6 => ?_)
    refine q_bipush (x := (100 : Int32)) dX12_box_18 rfl ?_
    refine q_icmp_ne (tgt := 26) dX12_box_20 (by decide) (fun c15 => ?_) (fun c15 => ?_)
    · refine q_bipush (x := (-4 : Int32)) dX12_box_23 rfl ?_
      exact q_iret dX12_box_25 rfl rfl (Nat.le_of_ble_eq_true rfl) rfl
    · refine q_sipush (x := (2820 : Int32)) dX12_box_26 rfl ?_
      refine q_iconst (x := (5 : Int32)) dX12_box_29 rfl ?_
      refine q_aload_n 0 dX12_box_30 rfl ?_
      refine q_getR (f := 0) cl_X12 (by decide) qw_1117 rfl dX12_box_31 (fun _ _ _ => rfl) (fun v7 h8 => ?_)
      refine q_iconst (x := (4 : Int32)) dX12_box_34 rfl ?_
      refine q_iald dX12_box_35 (fun v9 h10 => ?_)
      refine q_imul dX12_box_36 ?_
      refine q_iadd dX12_box_37 ?_
      refine q_istore_n (ls' := [(2, .int ((2820 : Int32) + ((5 : Int32) * v9))), (0, .ref a0), (1, .int a1)]) dX12_box_38 (by decide) rfl ?_
      refine q_aload_n 1 dX12_box_39 rfl ?_
      refine q_getR (f := 0) cl_X12 (by decide) qw_1117 rfl dX12_box_40 (fun _ _ _ => rfl) (fun v11 h12 => ?_)
      refine q_iload_n 0 dX12_box_43 rfl ?_
      refine q_iload_n 2 dX12_box_44 rfl ?_
      refine q_iast dX12_box_45 (fun M13 h14 => ?_)
      refine q_iconst (x := (1 : Int32)) dX12_box_46 rfl ?_
      refine q_istore_n (ls' := [(3, .int (1 : Int32)), (2, .int ((2820 : Int32) + ((5 : Int32) * v9))), (0, .ref a0), (1, .int a1)]) dX12_box_47 (by decide) rfl ?_
      refine q_sub (ls' := [(0, .ref a0), (2, .int ((2820 : Int32) + ((5 : Int32) * v9))), (3, .int (1 : Int32))]) [2, 1, 0] rfl ?_
      exact v_X12_box_b48 _ _ _
theorem dX12_sell_0 : decode cX12_sell 0 = .ok (.aload_n 0, 1) := by decide +kernel
theorem dX12_sell_1 : decode cX12_sell 1 = .ok (.iconst 4, 1) := by decide +kernel
theorem dX12_sell_2 : decode cX12_sell 2 = .ok (.iload_n 1, 1) := by decide +kernel
theorem dX12_sell_3 : decode cX12_sell 3 = .ok (.invokevirtual 86, 3) := by decide +kernel
theorem dX12_sell_6 : decode cX12_sell 6 = .ok (.ifCond .eq 46, 3) := by decide +kernel
theorem dX12_sell_9 : decode cX12_sell 9 = .ok (.iload_n 2, 1) := by decide +kernel
theorem dX12_sell_10 : decode cX12_sell 10 = .ok (.iconst 0, 1) := by decide +kernel
theorem dX12_sell_11 : decode cX12_sell 11 = .ok (.ldc 159, 2) := by decide +kernel
theorem dX12_sell_13 : decode cX12_sell 13 = .ok (.invokestatic 78, 3) := by decide +kernel
theorem dX12_sell_16 : decode cX12_sell 16 = .ok (.ifCond .eq 36, 3) := by decide +kernel
theorem dX12_sell_19 : decode cX12_sell 19 = .ok (.iload_n 3, 1) := by decide +kernel
theorem dX12_sell_20 : decode cX12_sell 20 = .ok (.aload_n 0, 1) := by decide +kernel
theorem dX12_sell_21 : decode cX12_sell 21 = .ok (.getfield 7, 3) := by decide +kernel
theorem dX12_sell_24 : decode cX12_sell 24 = .ok (.sipush 2700, 3) := by decide +kernel
theorem dX12_sell_27 : decode cX12_sell 27 = .ok (.iconst 3, 1) := by decide +kernel
theorem dX12_sell_28 : decode cX12_sell 28 = .ok (.aload_n 0, 1) := by decide +kernel
theorem dX12_sell_29 : decode cX12_sell 29 = .ok (.getfield 7, 3) := by decide +kernel
theorem dX12_sell_32 : decode cX12_sell 32 = .ok (.sipush 2820, 3) := by decide +kernel
theorem dX12_sell_35 : decode cX12_sell 35 = .ok (.iconst 5, 1) := by decide +kernel
theorem dX12_sell_36 : decode cX12_sell 36 = .ok (.iload_n 1, 1) := by decide +kernel
theorem dX12_sell_37 : decode cX12_sell 37 = .ok (.imul, 1) := by decide +kernel
theorem dX12_sell_38 : decode cX12_sell 38 = .ok (.iadd, 1) := by decide +kernel
theorem dX12_sell_39 : decode cX12_sell 39 = .ok (.iaload, 1) := by decide +kernel
theorem dX12_sell_40 : decode cX12_sell 40 = .ok (.imul, 1) := by decide +kernel
theorem dX12_sell_41 : decode cX12_sell 41 = .ok (.iadd, 1) := by decide +kernel
theorem dX12_sell_42 : decode cX12_sell 42 = .ok (.iaload, 1) := by decide +kernel
theorem dX12_sell_43 : decode cX12_sell 43 = .ok (.sipush 195, 3) := by decide +kernel
theorem dX12_sell_46 : decode cX12_sell 46 = .ok (.invokestatic 78, 3) := by decide +kernel
theorem dX12_sell_49 : decode cX12_sell 49 = .ok (.ifCond .ne 6, 3) := by decide +kernel
theorem dX12_sell_52 : decode cX12_sell 52 = .ok (.bipush (-2), 2) := by decide +kernel
theorem dX12_sell_54 : decode cX12_sell 54 = .ok (.ireturn, 1) := by decide +kernel
theorem dX12_sell_55 : decode cX12_sell 55 = .ok (.sipush 2820, 3) := by decide +kernel
theorem dX12_sell_58 : decode cX12_sell 58 = .ok (.iconst 5, 1) := by decide +kernel
theorem dX12_sell_59 : decode cX12_sell 59 = .ok (.iload_n 1, 1) := by decide +kernel
theorem dX12_sell_60 : decode cX12_sell 60 = .ok (.imul, 1) := by decide +kernel
theorem dX12_sell_61 : decode cX12_sell 61 = .ok (.iadd, 1) := by decide +kernel
theorem dX12_sell_62 : decode cX12_sell 62 = .ok (.istore 4, 2) := by decide +kernel
theorem dX12_sell_64 : decode cX12_sell 64 = .ok (.aload_n 0, 1) := by decide +kernel
theorem dX12_sell_65 : decode cX12_sell 65 = .ok (.getfield 7, 3) := by decide +kernel
theorem dX12_sell_68 : decode cX12_sell 68 = .ok (.iload 4, 2) := by decide +kernel
theorem dX12_sell_70 : decode cX12_sell 70 = .ok (.iconst 1, 1) := by decide +kernel
theorem dX12_sell_71 : decode cX12_sell 71 = .ok (.iadd, 1) := by decide +kernel
theorem dX12_sell_72 : decode cX12_sell 72 = .ok (.iaload, 1) := by decide +kernel
theorem dX12_sell_73 : decode cX12_sell 73 = .ok (.iconst (-1), 1) := by decide +kernel
theorem dX12_sell_74 : decode cX12_sell 74 = .ok (.if_icmp .eq 6, 3) := by decide +kernel
theorem dX12_sell_77 : decode cX12_sell 77 = .ok (.bipush (-3), 2) := by decide +kernel
theorem dX12_sell_79 : decode cX12_sell 79 = .ok (.ireturn, 1) := by decide +kernel
theorem dX12_sell_80 : decode cX12_sell 80 = .ok (.aload_n 0, 1) := by decide +kernel
theorem dX12_sell_81 : decode cX12_sell 81 = .ok (.getfield 7, 3) := by decide +kernel
theorem dX12_sell_84 : decode cX12_sell 84 = .ok (.iload 4, 2) := by decide +kernel
theorem dX12_sell_86 : decode cX12_sell 86 = .ok (.iconst 1, 1) := by decide +kernel
theorem dX12_sell_87 : decode cX12_sell 87 = .ok (.iadd, 1) := by decide +kernel
theorem dX12_sell_88 : decode cX12_sell 88 = .ok (.iload_n 2, 1) := by decide +kernel
theorem dX12_sell_89 : decode cX12_sell 89 = .ok (.iastore, 1) := by decide +kernel
theorem dX12_sell_90 : decode cX12_sell 90 = .ok (.aload_n 0, 1) := by decide +kernel
theorem dX12_sell_91 : decode cX12_sell 91 = .ok (.getfield 7, 3) := by decide +kernel
theorem dX12_sell_94 : decode cX12_sell 94 = .ok (.iload 4, 2) := by decide +kernel
theorem dX12_sell_96 : decode cX12_sell 96 = .ok (.iconst 2, 1) := by decide +kernel
theorem dX12_sell_97 : decode cX12_sell 97 = .ok (.iadd, 1) := by decide +kernel
theorem dX12_sell_98 : decode cX12_sell 98 = .ok (.iload_n 3, 1) := by decide +kernel
theorem dX12_sell_99 : decode cX12_sell 99 = .ok (.iastore, 1) := by decide +kernel
theorem dX12_sell_100 : decode cX12_sell 100 = .ok (.iconst 1, 1) := by decide +kernel
theorem dX12_sell_101 : decode cX12_sell 101 = .ok (.ireturn, 1) := by decide +kernel
def f_X12_sell (M : q_Mem) (a0 : Nat) (a1 : Int32) (a2 : Int32) (a3 : Int32) : Option (Int32 × q_Mem) :=
  q_ob 11 M a0 ((f_X12_is M a0 (4 : Int32) a1).bind fun v2 =>
  (if v2 = 0 then
    some ((-2 : Int32), M)
  else
    (f_X12_in M a2 (0 : Int32) (1000000 : Int32)).bind fun v4 =>
    (if v4 = 0 then
      some ((-2 : Int32), M)
    else
      (q_gR 11 0 M a0).bind fun v5 =>
      (q_gR 11 0 M a0).bind fun v7 =>
      (q_lI M v7 ((2820 : Int32) + ((5 : Int32) * a1))).bind fun v9 =>
      (q_lI M v5 ((2700 : Int32) + ((3 : Int32) * v9))).bind fun v11 =>
      (f_X12_in M a3 v11 (195 : Int32)).bind fun v14 =>
      (if v14 = 0 then
        some ((-2 : Int32), M)
      else
        (q_gR 11 0 M a0).bind fun v15 =>
        (q_lI M v15 (((2820 : Int32) + ((5 : Int32) * a1)) + (1 : Int32))).bind fun v17 =>
        (if v17 = (-1 : Int32) then
          (q_gR 11 0 M a0).bind fun v19 =>
          (q_tI M v19 (((2820 : Int32) + ((5 : Int32) * a1)) + (1 : Int32)) a2).bind fun M21 =>
          (q_gR 11 0 M21 a0).bind fun v23 =>
          (q_tI M21 v23 (((2820 : Int32) + ((5 : Int32) * a1)) + (2 : Int32)) a3).bind fun M25 =>
          some ((1 : Int32), M25)
        else
          some ((-3 : Int32), M))))))
set_option maxRecDepth 20000 in
theorem m_X12_sell {M : q_Mem} {a0 : Nat} {a1 : Int32} {a2 : Int32} {a3 : Int32} {x : (Int32 × q_Mem)} (h : f_X12_sell M a0 a1 a2 a3 = some x) : q_C Y_X12_sell [.ref a0, .int a1, .int a2, .int a3] M (some (.int x.1)) x.2 := by
  refine q_met (φ := (fun x : Int32 × q_Mem => (some (.int x.1), x.2))) (r := f_X12_sell M a0 a1 a2 a3) (by decide +kernel) (Nat.le_of_ble_eq_true rfl) ?_ h (fun _ _ => rfl)
  show q_V Y_X12_sell none (fun x : Int32 × q_Mem => (some (.int x.1), x.2)) 0 0 0 [(0, .ref a0), (1, .int a1), (2, .int a2), (3, .int a3)] [] M (f_X12_sell M a0 a1 a2 a3)
  unfold f_X12_sell
  refine q_obV ?_
  refine q_aload_n 0 dX12_sell_0 rfl ?_
  refine q_iconst (x := (4 : Int32)) dX12_sell_1 rfl ?_
  refine q_iload_n 1 dX12_sell_2 rfl ?_
  refine q_cVI (Y2 := Y_X12_is) (As := [.int (4 : Int32), .int a1]) (b := a0) (st := []) cl_X12 mv_X12_is qw_1225 dX12_sell_3 ⟨Nat.le_of_ble_eq_true rfl, Nat.le_of_ble_eq_true rfl⟩ rfl (fun _ _ => rfl) (Nat.le_of_ble_eq_true rfl) ⟨Nat.le_of_ble_eq_true rfl, Nat.le_of_ble_eq_true rfl⟩ (fun v2 h1 => q_ob_is h1) (fun v2 h1 => m_X12_is h1) (fun v2 h1 => ?_)
  refine q_if_eq (tgt := 52) dX12_sell_6 (by decide) (fun c30 => ?_) (fun c30 => ?_)
  · refine q_bipush (x := (-2 : Int32)) dX12_sell_52 rfl ?_
    exact q_iret dX12_sell_54 rfl rfl (Nat.le_of_ble_eq_true rfl) rfl
  · refine q_iload_n 2 dX12_sell_9 rfl ?_
    refine q_iconst (x := (0 : Int32)) dX12_sell_10 rfl ?_
    refine q_ldc (x := (1000000 : Int32)) qw_1362 dX12_sell_11 ?_
    refine q_cSI (Y2 := Y_X12_in) (As := [.int a2, .int (0 : Int32), .int (1000000 : Int32)]) (st := []) ms_X12_in qw_1214 dX12_sell_13 ⟨Nat.le_of_ble_eq_true rfl, Nat.le_of_ble_eq_true rfl⟩ rfl (fun _ _ => rfl) (Nat.le_of_ble_eq_true rfl) ⟨Nat.le_of_ble_eq_true rfl, Nat.le_of_ble_eq_true rfl⟩ (fun v4 h3 => m_X12_in h3) (fun v4 h3 => ?_)
    refine q_if_eq (tgt := 52) dX12_sell_16 (by decide) (fun c29 => ?_) (fun c29 => ?_)
    · refine q_bipush (x := (-2 : Int32)) dX12_sell_52 rfl ?_
      exact q_iret dX12_sell_54 rfl rfl (Nat.le_of_ble_eq_true rfl) rfl
    · refine q_iload_n 3 dX12_sell_19 rfl ?_
      refine q_aload_n 0 dX12_sell_20 rfl ?_
      refine q_getR (f := 0) cl_X12 (by decide) qw_1117 rfl dX12_sell_21 (fun _ _ _ => rfl) (fun v5 h6 => ?_)
      refine q_sipush (x := (2700 : Int32)) dX12_sell_24 rfl ?_
      refine q_iconst (x := (3 : Int32)) dX12_sell_27 rfl ?_
      refine q_aload_n 0 dX12_sell_28 rfl ?_
      refine q_getR (f := 0) cl_X12 (by decide) qw_1117 rfl dX12_sell_29 (fun _ _ _ => rfl) (fun v7 h8 => ?_)
      refine q_sipush (x := (2820 : Int32)) dX12_sell_32 rfl ?_
      refine q_iconst (x := (5 : Int32)) dX12_sell_35 rfl ?_
      refine q_iload_n 1 dX12_sell_36 rfl ?_
      refine q_imul dX12_sell_37 ?_
      refine q_iadd dX12_sell_38 ?_
      refine q_iald dX12_sell_39 (fun v9 h10 => ?_)
      refine q_imul dX12_sell_40 ?_
      refine q_iadd dX12_sell_41 ?_
      refine q_iald dX12_sell_42 (fun v11 h12 => ?_)
      refine q_sipush (x := (195 : Int32)) dX12_sell_43 rfl ?_
      refine q_cSI (Y2 := Y_X12_in) (As := [.int a3, .int v11, .int (195 : Int32)]) (st := []) ms_X12_in qw_1214 dX12_sell_46 ⟨Nat.le_of_ble_eq_true rfl, Nat.le_of_ble_eq_true rfl⟩ rfl (fun _ _ => rfl) (Nat.le_of_ble_eq_true rfl) ⟨Nat.le_of_ble_eq_true rfl, Nat.le_of_ble_eq_true rfl⟩ (fun v14 h13 => m_X12_in h13) (fun v14 h13 => ?_)
      refine q_if_ne (tgt := 55) dX12_sell_49 (by decide) (fun c28 => ?_) (fun c28 => ?_)
      · refine q_bipush (x := (-2 : Int32)) dX12_sell_52 rfl ?_
        exact q_iret dX12_sell_54 rfl rfl (Nat.le_of_ble_eq_true rfl) rfl
      · refine q_sipush (x := (2820 : Int32)) dX12_sell_55 rfl ?_
        refine q_iconst (x := (5 : Int32)) dX12_sell_58 rfl ?_
        refine q_iload_n 1 dX12_sell_59 rfl ?_
        refine q_imul dX12_sell_60 ?_
        refine q_iadd dX12_sell_61 ?_
        refine q_istore (ls' := [(4, .int ((2820 : Int32) + ((5 : Int32) * a1))), (0, .ref a0), (1, .int a1), (2, .int a2), (3, .int a3)]) dX12_sell_62 (by decide) rfl ?_
        refine q_aload_n 1 dX12_sell_64 rfl ?_
        refine q_getR (f := 0) cl_X12 (by decide) qw_1117 rfl dX12_sell_65 (fun _ _ _ => rfl) (fun v15 h16 => ?_)
        refine q_iload 0 dX12_sell_68 rfl ?_
        refine q_iconst (x := (1 : Int32)) dX12_sell_70 rfl ?_
        refine q_iadd dX12_sell_71 ?_
        refine q_iald dX12_sell_72 (fun v17 h18 => ?_)
        refine q_iconst (x := (-1 : Int32)) dX12_sell_73 rfl ?_
        refine q_icmp_eq (tgt := 80) dX12_sell_74 (by decide) (fun c27 => ?_) (fun c27 => ?_)
        · refine q_aload_n 1 dX12_sell_80 rfl ?_
          refine q_getR (f := 0) cl_X12 (by decide) qw_1117 rfl dX12_sell_81 (fun _ _ _ => rfl) (fun v19 h20 => ?_)
          refine q_iload 0 dX12_sell_84 rfl ?_
          refine q_iconst (x := (1 : Int32)) dX12_sell_86 rfl ?_
          refine q_iadd dX12_sell_87 ?_
          refine q_iload_n 3 dX12_sell_88 rfl ?_
          refine q_iast dX12_sell_89 (fun M21 h22 => ?_)
          refine q_aload_n 1 dX12_sell_90 rfl ?_
          refine q_getR (f := 0) cl_X12 (by decide) qw_1117 rfl dX12_sell_91 (fun _ _ _ => rfl) (fun v23 h24 => ?_)
          refine q_iload 0 dX12_sell_94 rfl ?_
          refine q_iconst (x := (2 : Int32)) dX12_sell_96 rfl ?_
          refine q_iadd dX12_sell_97 ?_
          refine q_iload_n 4 dX12_sell_98 rfl ?_
          refine q_iast dX12_sell_99 (fun M25 h26 => ?_)
          refine q_iconst (x := (1 : Int32)) dX12_sell_100 rfl ?_
          exact q_iret dX12_sell_101 rfl rfl (Nat.le_of_ble_eq_true rfl) rfl
        · refine q_bipush (x := (-3 : Int32)) dX12_sell_77 rfl ?_
          exact q_iret dX12_sell_79 rfl rfl (Nat.le_of_ble_eq_true rfl) rfl
theorem dX12_grade_0 : decode cX12_grade 0 = .ok (.aload_n 0, 1) := by decide +kernel
theorem dX12_grade_1 : decode cX12_grade 1 = .ok (.iconst 4, 1) := by decide +kernel
theorem dX12_grade_2 : decode cX12_grade 2 = .ok (.iload_n 1, 1) := by decide +kernel
theorem dX12_grade_3 : decode cX12_grade 3 = .ok (.invokevirtual 86, 3) := by decide +kernel
theorem dX12_grade_6 : decode cX12_grade 6 = .ok (.ifCond .eq 22, 3) := by decide +kernel
theorem dX12_grade_9 : decode cX12_grade 9 = .ok (.iload_n 2, 1) := by decide +kernel
theorem dX12_grade_10 : decode cX12_grade 10 = .ok (.iconst 0, 1) := by decide +kernel
theorem dX12_grade_11 : decode cX12_grade 11 = .ok (.iconst 1, 1) := by decide +kernel
theorem dX12_grade_12 : decode cX12_grade 12 = .ok (.invokestatic 78, 3) := by decide +kernel
theorem dX12_grade_15 : decode cX12_grade 15 = .ok (.ifCond .eq 13, 3) := by decide +kernel
theorem dX12_grade_18 : decode cX12_grade 18 = .ok (.iload_n 3, 1) := by decide +kernel
theorem dX12_grade_19 : decode cX12_grade 19 = .ok (.iconst 0, 1) := by decide +kernel
theorem dX12_grade_20 : decode cX12_grade 20 = .ok (.bipush 100, 2) := by decide +kernel
theorem dX12_grade_22 : decode cX12_grade 22 = .ok (.invokestatic 78, 3) := by decide +kernel
theorem dX12_grade_25 : decode cX12_grade 25 = .ok (.ifCond .ne 6, 3) := by decide +kernel
theorem dX12_grade_28 : decode cX12_grade 28 = .ok (.bipush (-2), 2) := by decide +kernel
theorem dX12_grade_30 : decode cX12_grade 30 = .ok (.ireturn, 1) := by decide +kernel
theorem dX12_grade_31 : decode cX12_grade 31 = .ok (.aload_n 0, 1) := by decide +kernel
theorem dX12_grade_32 : decode cX12_grade 32 = .ok (.getfield 7, 3) := by decide +kernel
theorem dX12_grade_35 : decode cX12_grade 35 = .ok (.sipush 2820, 3) := by decide +kernel
theorem dX12_grade_38 : decode cX12_grade 38 = .ok (.iconst 5, 1) := by decide +kernel
theorem dX12_grade_39 : decode cX12_grade 39 = .ok (.iload_n 1, 1) := by decide +kernel
theorem dX12_grade_40 : decode cX12_grade 40 = .ok (.imul, 1) := by decide +kernel
theorem dX12_grade_41 : decode cX12_grade 41 = .ok (.iadd, 1) := by decide +kernel
theorem dX12_grade_42 : decode cX12_grade 42 = .ok (.iconst 3, 1) := by decide +kernel
theorem dX12_grade_43 : decode cX12_grade 43 = .ok (.iadd, 1) := by decide +kernel
theorem dX12_grade_44 : decode cX12_grade 44 = .ok (.iload_n 2, 1) := by decide +kernel
theorem dX12_grade_45 : decode cX12_grade 45 = .ok (.iadd, 1) := by decide +kernel
theorem dX12_grade_46 : decode cX12_grade 46 = .ok (.iaload, 1) := by decide +kernel
theorem dX12_grade_47 : decode cX12_grade 47 = .ok (.istore 4, 2) := by decide +kernel
theorem dX12_grade_49 : decode cX12_grade 49 = .ok (.aload_n 0, 1) := by decide +kernel
theorem dX12_grade_50 : decode cX12_grade 50 = .ok (.getfield 7, 3) := by decide +kernel
theorem dX12_grade_53 : decode cX12_grade 53 = .ok (.sipush 2820, 3) := by decide +kernel
theorem dX12_grade_56 : decode cX12_grade 56 = .ok (.iconst 5, 1) := by decide +kernel
theorem dX12_grade_57 : decode cX12_grade 57 = .ok (.iload_n 1, 1) := by decide +kernel
theorem dX12_grade_58 : decode cX12_grade 58 = .ok (.imul, 1) := by decide +kernel
theorem dX12_grade_59 : decode cX12_grade 59 = .ok (.iadd, 1) := by decide +kernel
theorem dX12_grade_60 : decode cX12_grade 60 = .ok (.iconst 3, 1) := by decide +kernel
theorem dX12_grade_61 : decode cX12_grade 61 = .ok (.iadd, 1) := by decide +kernel
theorem dX12_grade_62 : decode cX12_grade 62 = .ok (.iload_n 2, 1) := by decide +kernel
theorem dX12_grade_63 : decode cX12_grade 63 = .ok (.iadd, 1) := by decide +kernel
theorem dX12_grade_64 : decode cX12_grade 64 = .ok (.iload_n 3, 1) := by decide +kernel
theorem dX12_grade_65 : decode cX12_grade 65 = .ok (.iastore, 1) := by decide +kernel
theorem dX12_grade_66 : decode cX12_grade 66 = .ok (.iload 4, 2) := by decide +kernel
theorem dX12_grade_68 : decode cX12_grade 68 = .ok (.ireturn, 1) := by decide +kernel
def f_X12_grade (M : q_Mem) (a0 : Nat) (a1 : Int32) (a2 : Int32) (a3 : Int32) : Option (Int32 × q_Mem) :=
  q_ob 11 M a0 ((f_X12_is M a0 (4 : Int32) a1).bind fun v2 =>
  (if v2 = 0 then
    some ((-2 : Int32), M)
  else
    (f_X12_in M a2 (0 : Int32) (1 : Int32)).bind fun v4 =>
    (if v4 = 0 then
      some ((-2 : Int32), M)
    else
      (f_X12_in M a3 (0 : Int32) (100 : Int32)).bind fun v6 =>
      (if v6 = 0 then
        some ((-2 : Int32), M)
      else
        (q_gR 11 0 M a0).bind fun v7 =>
        (q_lI M v7 ((((2820 : Int32) + ((5 : Int32) * a1)) + (3 : Int32)) + a2)).bind fun v9 =>
        (q_gR 11 0 M a0).bind fun v11 =>
        (q_tI M v11 ((((2820 : Int32) + ((5 : Int32) * a1)) + (3 : Int32)) + a2) a3).bind fun M13 =>
        some (v9, M13)))))
set_option maxRecDepth 20000 in
theorem m_X12_grade {M : q_Mem} {a0 : Nat} {a1 : Int32} {a2 : Int32} {a3 : Int32} {x : (Int32 × q_Mem)} (h : f_X12_grade M a0 a1 a2 a3 = some x) : q_C Y_X12_grade [.ref a0, .int a1, .int a2, .int a3] M (some (.int x.1)) x.2 := by
  refine q_met (φ := (fun x : Int32 × q_Mem => (some (.int x.1), x.2))) (r := f_X12_grade M a0 a1 a2 a3) (by decide +kernel) (Nat.le_of_ble_eq_true rfl) ?_ h (fun _ _ => rfl)
  show q_V Y_X12_grade none (fun x : Int32 × q_Mem => (some (.int x.1), x.2)) 0 0 0 [(0, .ref a0), (1, .int a1), (2, .int a2), (3, .int a3)] [] M (f_X12_grade M a0 a1 a2 a3)
  unfold f_X12_grade
  refine q_obV ?_
  refine q_aload_n 0 dX12_grade_0 rfl ?_
  refine q_iconst (x := (4 : Int32)) dX12_grade_1 rfl ?_
  refine q_iload_n 1 dX12_grade_2 rfl ?_
  refine q_cVI (Y2 := Y_X12_is) (As := [.int (4 : Int32), .int a1]) (b := a0) (st := []) cl_X12 mv_X12_is qw_1225 dX12_grade_3 ⟨Nat.le_of_ble_eq_true rfl, Nat.le_of_ble_eq_true rfl⟩ rfl (fun _ _ => rfl) (Nat.le_of_ble_eq_true rfl) ⟨Nat.le_of_ble_eq_true rfl, Nat.le_of_ble_eq_true rfl⟩ (fun v2 h1 => q_ob_is h1) (fun v2 h1 => m_X12_is h1) (fun v2 h1 => ?_)
  refine q_if_eq (tgt := 28) dX12_grade_6 (by decide) (fun c17 => ?_) (fun c17 => ?_)
  · refine q_bipush (x := (-2 : Int32)) dX12_grade_28 rfl ?_
    exact q_iret dX12_grade_30 rfl rfl (Nat.le_of_ble_eq_true rfl) rfl
  · refine q_iload_n 2 dX12_grade_9 rfl ?_
    refine q_iconst (x := (0 : Int32)) dX12_grade_10 rfl ?_
    refine q_iconst (x := (1 : Int32)) dX12_grade_11 rfl ?_
    refine q_cSI (Y2 := Y_X12_in) (As := [.int a2, .int (0 : Int32), .int (1 : Int32)]) (st := []) ms_X12_in qw_1214 dX12_grade_12 ⟨Nat.le_of_ble_eq_true rfl, Nat.le_of_ble_eq_true rfl⟩ rfl (fun _ _ => rfl) (Nat.le_of_ble_eq_true rfl) ⟨Nat.le_of_ble_eq_true rfl, Nat.le_of_ble_eq_true rfl⟩ (fun v4 h3 => m_X12_in h3) (fun v4 h3 => ?_)
    refine q_if_eq (tgt := 28) dX12_grade_15 (by decide) (fun c16 => ?_) (fun c16 => ?_)
    · refine q_bipush (x := (-2 : Int32)) dX12_grade_28 rfl ?_
      exact q_iret dX12_grade_30 rfl rfl (Nat.le_of_ble_eq_true rfl) rfl
    · refine q_iload_n 3 dX12_grade_18 rfl ?_
      refine q_iconst (x := (0 : Int32)) dX12_grade_19 rfl ?_
      refine q_bipush (x := (100 : Int32)) dX12_grade_20 rfl ?_
      refine q_cSI (Y2 := Y_X12_in) (As := [.int a3, .int (0 : Int32), .int (100 : Int32)]) (st := []) ms_X12_in qw_1214 dX12_grade_22 ⟨Nat.le_of_ble_eq_true rfl, Nat.le_of_ble_eq_true rfl⟩ rfl (fun _ _ => rfl) (Nat.le_of_ble_eq_true rfl) ⟨Nat.le_of_ble_eq_true rfl, Nat.le_of_ble_eq_true rfl⟩ (fun v6 h5 => m_X12_in h5) (fun v6 h5 => ?_)
      refine q_if_ne (tgt := 31) dX12_grade_25 (by decide) (fun c15 => ?_) (fun c15 => ?_)
      · refine q_bipush (x := (-2 : Int32)) dX12_grade_28 rfl ?_
        exact q_iret dX12_grade_30 rfl rfl (Nat.le_of_ble_eq_true rfl) rfl
      · refine q_aload_n 0 dX12_grade_31 rfl ?_
        refine q_getR (f := 0) cl_X12 (by decide) qw_1117 rfl dX12_grade_32 (fun _ _ _ => rfl) (fun v7 h8 => ?_)
        refine q_sipush (x := (2820 : Int32)) dX12_grade_35 rfl ?_
        refine q_iconst (x := (5 : Int32)) dX12_grade_38 rfl ?_
        refine q_iload_n 1 dX12_grade_39 rfl ?_
        refine q_imul dX12_grade_40 ?_
        refine q_iadd dX12_grade_41 ?_
        refine q_iconst (x := (3 : Int32)) dX12_grade_42 rfl ?_
        refine q_iadd dX12_grade_43 ?_
        refine q_iload_n 2 dX12_grade_44 rfl ?_
        refine q_iadd dX12_grade_45 ?_
        refine q_iald dX12_grade_46 (fun v9 h10 => ?_)
        refine q_istore (ls' := [(4, .int v9), (0, .ref a0), (1, .int a1), (2, .int a2), (3, .int a3)]) dX12_grade_47 (by decide) rfl ?_
        refine q_aload_n 1 dX12_grade_49 rfl ?_
        refine q_getR (f := 0) cl_X12 (by decide) qw_1117 rfl dX12_grade_50 (fun _ _ _ => rfl) (fun v11 h12 => ?_)
        refine q_sipush (x := (2820 : Int32)) dX12_grade_53 rfl ?_
        refine q_iconst (x := (5 : Int32)) dX12_grade_56 rfl ?_
        refine q_iload_n 2 dX12_grade_57 rfl ?_
        refine q_imul dX12_grade_58 ?_
        refine q_iadd dX12_grade_59 ?_
        refine q_iconst (x := (3 : Int32)) dX12_grade_60 rfl ?_
        refine q_iadd dX12_grade_61 ?_
        refine q_iload_n 3 dX12_grade_62 rfl ?_
        refine q_iadd dX12_grade_63 ?_
        refine q_iload_n 4 dX12_grade_64 rfl ?_
        refine q_iast dX12_grade_65 (fun M13 h14 => ?_)
        refine q_iload 0 dX12_grade_66 rfl ?_
        exact q_iret dX12_grade_68 rfl rfl (Nat.le_of_ble_eq_true rfl) rfl
theorem dX12_lean_0 : decode cX12_lean 0 = .ok (.iconst 0, 1) := by decide +kernel
theorem dX12_lean_1 : decode cX12_lean 1 = .ok (.istore_n 1, 1) := by decide +kernel
theorem dX12_lean_2 : decode cX12_lean 2 = .ok (.iconst 0, 1) := by decide +kernel
theorem dX12_lean_3 : decode cX12_lean 3 = .ok (.istore_n 2, 1) := by decide +kernel
theorem dX12_lean_4 : decode cX12_lean 4 = .ok (.iconst 0, 1) := by decide +kernel
theorem dX12_lean_5 : decode cX12_lean 5 = .ok (.istore_n 3, 1) := by decide +kernel
theorem dX12_lean_6 : decode cX12_lean 6 = .ok (.iload_n 3, 1) := by decide +kernel
theorem dX12_lean_7 : decode cX12_lean 7 = .ok (.aload_n 0, 1) := by decide +kernel
theorem dX12_lean_8 : decode cX12_lean 8 = .ok (.getfield 7, 3) := by decide +kernel
theorem dX12_lean_11 : decode cX12_lean 11 = .ok (.iconst 4, 1) := by decide +kernel
theorem dX12_lean_12 : decode cX12_lean 12 = .ok (.iaload, 1) := by decide +kernel
theorem dX12_lean_13 : decode cX12_lean 13 = .ok (.if_icmp .ge 69, 3) := by decide +kernel
theorem dX12_lean_16 : decode cX12_lean 16 = .ok (.sipush 2820, 3) := by decide +kernel
theorem dX12_lean_19 : decode cX12_lean 19 = .ok (.iconst 5, 1) := by decide +kernel
theorem dX12_lean_20 : decode cX12_lean 20 = .ok (.iload_n 3, 1) := by decide +kernel
theorem dX12_lean_21 : decode cX12_lean 21 = .ok (.imul, 1) := by decide +kernel
theorem dX12_lean_22 : decode cX12_lean 22 = .ok (.iadd, 1) := by decide +kernel
theorem dX12_lean_23 : decode cX12_lean 23 = .ok (.istore 4, 2) := by decide +kernel
theorem dX12_lean_25 : decode cX12_lean 25 = .ok (.aload_n 0, 1) := by decide +kernel
theorem dX12_lean_26 : decode cX12_lean 26 = .ok (.getfield 7, 3) := by decide +kernel
theorem dX12_lean_29 : decode cX12_lean 29 = .ok (.iload 4, 2) := by decide +kernel
theorem dX12_lean_31 : decode cX12_lean 31 = .ok (.iconst 3, 1) := by decide +kernel
theorem dX12_lean_32 : decode cX12_lean 32 = .ok (.iadd, 1) := by decide +kernel
theorem dX12_lean_33 : decode cX12_lean 33 = .ok (.iaload, 1) := by decide +kernel
theorem dX12_lean_34 : decode cX12_lean 34 = .ok (.iconst (-1), 1) := by decide +kernel
theorem dX12_lean_35 : decode cX12_lean 35 = .ok (.if_icmp .eq 41, 3) := by decide +kernel
theorem dX12_lean_38 : decode cX12_lean 38 = .ok (.aload_n 0, 1) := by decide +kernel
theorem dX12_lean_39 : decode cX12_lean 39 = .ok (.getfield 7, 3) := by decide +kernel
theorem dX12_lean_42 : decode cX12_lean 42 = .ok (.iload 4, 2) := by decide +kernel
theorem dX12_lean_44 : decode cX12_lean 44 = .ok (.iconst 4, 1) := by decide +kernel
theorem dX12_lean_45 : decode cX12_lean 45 = .ok (.iadd, 1) := by decide +kernel
theorem dX12_lean_46 : decode cX12_lean 46 = .ok (.iaload, 1) := by decide +kernel
theorem dX12_lean_47 : decode cX12_lean 47 = .ok (.iconst (-1), 1) := by decide +kernel
theorem dX12_lean_48 : decode cX12_lean 48 = .ok (.if_icmp .eq 28, 3) := by decide +kernel
theorem dX12_lean_51 : decode cX12_lean 51 = .ok (.iload_n 1, 1) := by decide +kernel
theorem dX12_lean_52 : decode cX12_lean 52 = .ok (.aload_n 0, 1) := by decide +kernel
theorem dX12_lean_53 : decode cX12_lean 53 = .ok (.getfield 7, 3) := by decide +kernel
theorem dX12_lean_56 : decode cX12_lean 56 = .ok (.iload 4, 2) := by decide +kernel
theorem dX12_lean_58 : decode cX12_lean 58 = .ok (.iconst 3, 1) := by decide +kernel
theorem dX12_lean_59 : decode cX12_lean 59 = .ok (.iadd, 1) := by decide +kernel
theorem dX12_lean_60 : decode cX12_lean 60 = .ok (.iaload, 1) := by decide +kernel
theorem dX12_lean_61 : decode cX12_lean 61 = .ok (.aload_n 0, 1) := by decide +kernel
theorem dX12_lean_62 : decode cX12_lean 62 = .ok (.getfield 7, 3) := by decide +kernel
theorem dX12_lean_65 : decode cX12_lean 65 = .ok (.iload 4, 2) := by decide +kernel
theorem dX12_lean_67 : decode cX12_lean 67 = .ok (.iconst 4, 1) := by decide +kernel
theorem dX12_lean_68 : decode cX12_lean 68 = .ok (.iadd, 1) := by decide +kernel
theorem dX12_lean_69 : decode cX12_lean 69 = .ok (.iaload, 1) := by decide +kernel
theorem dX12_lean_70 : decode cX12_lean 70 = .ok (.isub, 1) := by decide +kernel
theorem dX12_lean_71 : decode cX12_lean 71 = .ok (.iadd, 1) := by decide +kernel
theorem dX12_lean_72 : decode cX12_lean 72 = .ok (.istore_n 1, 1) := by decide +kernel
theorem dX12_lean_73 : decode cX12_lean 73 = .ok (.iinc 2 1, 3) := by decide +kernel
theorem dX12_lean_76 : decode cX12_lean 76 = .ok (.iinc 3 1, 3) := by decide +kernel
theorem dX12_lean_79 : decode cX12_lean 79 = .ok (.goto (-73), 3) := by decide +kernel
theorem dX12_lean_82 : decode cX12_lean 82 = .ok (.iload_n 2, 1) := by decide +kernel
theorem dX12_lean_83 : decode cX12_lean 83 = .ok (.ifCond .ne 7, 3) := by decide +kernel
theorem dX12_lean_86 : decode cX12_lean 86 = .ok (.iconst 0, 1) := by decide +kernel
theorem dX12_lean_87 : decode cX12_lean 87 = .ok (.goto 6, 3) := by decide +kernel
theorem dX12_lean_90 : decode cX12_lean 90 = .ok (.iload_n 1, 1) := by decide +kernel
theorem dX12_lean_91 : decode cX12_lean 91 = .ok (.iload_n 2, 1) := by decide +kernel
theorem dX12_lean_92 : decode cX12_lean 92 = .ok (.idiv, 1) := by decide +kernel
theorem dX12_lean_93 : decode cX12_lean 93 = .ok (.ireturn, 1) := by decide +kernel
def f_X12_lean_b82 (M : q_Mem) (a1 : Int32) (a2 : Int32) : Option Int32 :=
  (if a2 = 0 then
    some (0 : Int32)
  else
    (q_dv a1 a2).bind fun v24 =>
    some v24)
def f_X12_lean_b6 (M : q_Mem) (a0 : Nat) : Nat → Int32 → Int32 → Int32 → Option Int32
  | 0, _, _, _ => none
  | n + 1, a1, a2, a3 =>
    (q_gR 11 0 M a0).bind fun v1 =>
    (q_lI M v1 (4 : Int32)).bind fun v3 =>
    (if a3 < v3 then
      (q_gR 11 0 M a0).bind fun v5 =>
      (q_lI M v5 (((2820 : Int32) + ((5 : Int32) * a3)) + (3 : Int32))).bind fun v7 =>
      (if v7 = (-1 : Int32) then
        f_X12_lean_b6 M a0 n a1 a2 (a3 + (1 : Int32))
      else
        (q_gR 11 0 M a0).bind fun v9 =>
        (q_lI M v9 (((2820 : Int32) + ((5 : Int32) * a3)) + (4 : Int32))).bind fun v11 =>
        (if v11 = (-1 : Int32) then
          f_X12_lean_b6 M a0 n a1 a2 (a3 + (1 : Int32))
        else
          (q_gR 11 0 M a0).bind fun v13 =>
          (q_lI M v13 (((2820 : Int32) + ((5 : Int32) * a3)) + (3 : Int32))).bind fun v15 =>
          (q_gR 11 0 M a0).bind fun v17 =>
          (q_lI M v17 (((2820 : Int32) + ((5 : Int32) * a3)) + (4 : Int32))).bind fun v19 =>
          f_X12_lean_b6 M a0 n (a1 + (v15 - v19)) (a2 + (1 : Int32)) (a3 + (1 : Int32))))
    else
      f_X12_lean_b82 M a1 a2)
def f_X12_lean (M : q_Mem) (a0 : Nat) : Option Int32 :=
  q_ob 11 M a0 (f_X12_lean_b6 M a0 q_fuel (0 : Int32) (0 : Int32) (0 : Int32))
set_option maxRecDepth 20000 in
theorem v_X12_lean_b82 {M : q_Mem} {a1 : Int32} {a2 : Int32}  : q_V Y_X12_lean none (fun x : Int32 => (some (.int x), M)) 0 0 82 [(1, .int a1), (2, .int a2)] [] M (f_X12_lean_b82 M a1 a2 ) := by
  unfold f_X12_lean_b82
  refine q_iload_n 1 dX12_lean_82 rfl ?_
  refine q_if_ne (tgt := 90) dX12_lean_83 (by decide) (fun c26 => ?_) (fun c26 => ?_)
  · refine q_iconst (x := (0 : Int32)) dX12_lean_86 rfl ?_
    refine q_goto (tgt := 93) dX12_lean_87 (by decide) ?_
    exact q_iret dX12_lean_93 rfl rfl (Nat.le_of_ble_eq_true rfl) rfl
  · refine q_iload_n 0 dX12_lean_90 rfl ?_
    refine q_iload_n 1 dX12_lean_91 rfl ?_
    refine q_idiv dX12_lean_92 (fun v24 h25 => ?_)
    exact q_iret dX12_lean_93 rfl rfl (Nat.le_of_ble_eq_true rfl) rfl
set_option maxRecDepth 20000 in
theorem v_X12_lean_b6 {M : q_Mem} {a0 : Nat}  : ∀ (n : Nat) (a1 : Int32) (a2 : Int32) (a3 : Int32), q_V Y_X12_lean none (fun x : Int32 => (some (.int x), M)) 0 0 6 [(0, .ref a0), (1, .int a1), (2, .int a2), (3, .int a3)] [] M (f_X12_lean_b6 M a0 n a1 a2 a3) := by
  intro n
  induction n with
  | zero => intro a1 a2 a3; exact q_none
  | succ n ih =>
    intro a1 a2 a3
    rw [f_X12_lean_b6.eq_2]
    refine q_iload_n 3 dX12_lean_6 rfl ?_
    refine q_aload_n 0 dX12_lean_7 rfl ?_
    refine q_getR (f := 0) cl_X12 (by decide) qw_1117 rfl dX12_lean_8 (fun _ _ _ => rfl) (fun v1 h2 => ?_)
    refine q_iconst (x := (4 : Int32)) dX12_lean_11 rfl ?_
    refine q_iald dX12_lean_12 (fun v3 h4 => ?_)
    refine q_icmp_ge (tgt := 82) dX12_lean_13 (by decide) (fun c23 => ?_) (fun c23 => ?_)
    · refine q_sipush (x := (2820 : Int32)) dX12_lean_16 rfl ?_
      refine q_iconst (x := (5 : Int32)) dX12_lean_19 rfl ?_
      refine q_iload_n 3 dX12_lean_20 rfl ?_
      refine q_imul dX12_lean_21 ?_
      refine q_iadd dX12_lean_22 ?_
      refine q_istore (ls' := [(4, .int ((2820 : Int32) + ((5 : Int32) * a3))), (0, .ref a0), (1, .int a1), (2, .int a2), (3, .int a3)]) dX12_lean_23 (by decide) rfl ?_
      refine q_aload_n 1 dX12_lean_25 rfl ?_
      refine q_getR (f := 0) cl_X12 (by decide) qw_1117 rfl dX12_lean_26 (fun _ _ _ => rfl) (fun v5 h6 => ?_)
      refine q_iload 0 dX12_lean_29 rfl ?_
      refine q_iconst (x := (3 : Int32)) dX12_lean_31 rfl ?_
      refine q_iadd dX12_lean_32 ?_
      refine q_iald dX12_lean_33 (fun v7 h8 => ?_)
      refine q_iconst (x := (-1 : Int32)) dX12_lean_34 rfl ?_
      refine q_icmp_eq (tgt := 76) dX12_lean_35 (by decide) (fun c22 => ?_) (fun c22 => ?_)
      · refine q_iinc 4 (y := (a3 + (1 : Int32))) (ls' := [(3, .int (a3 + (1 : Int32))), (4, .int ((2820 : Int32) + ((5 : Int32) * a3))), (0, .ref a0), (1, .int a1), (2, .int a2)]) dX12_lean_76 rfl rfl (by decide) rfl ?_
        refine q_goto (tgt := 6) dX12_lean_79 (by decide) ?_
        refine q_sub (ls' := [(0, .ref a0), (1, .int a1), (2, .int a2), (3, .int (a3 + (1 : Int32)))]) [2, 3, 4, 0] rfl ?_
        exact ih _ _ _
      · refine q_aload_n 1 dX12_lean_38 rfl ?_
        refine q_getR (f := 0) cl_X12 (by decide) qw_1117 rfl dX12_lean_39 (fun _ _ _ => rfl) (fun v9 h10 => ?_)
        refine q_iload 0 dX12_lean_42 rfl ?_
        refine q_iconst (x := (4 : Int32)) dX12_lean_44 rfl ?_
        refine q_iadd dX12_lean_45 ?_
        refine q_iald dX12_lean_46 (fun v11 h12 => ?_)
        refine q_iconst (x := (-1 : Int32)) dX12_lean_47 rfl ?_
        refine q_icmp_eq (tgt := 76) dX12_lean_48 (by decide) (fun c21 => ?_) (fun c21 => ?_)
        · refine q_iinc 4 (y := (a3 + (1 : Int32))) (ls' := [(3, .int (a3 + (1 : Int32))), (4, .int ((2820 : Int32) + ((5 : Int32) * a3))), (0, .ref a0), (1, .int a1), (2, .int a2)]) dX12_lean_76 rfl rfl (by decide) rfl ?_
          refine q_goto (tgt := 6) dX12_lean_79 (by decide) ?_
          refine q_sub (ls' := [(0, .ref a0), (1, .int a1), (2, .int a2), (3, .int (a3 + (1 : Int32)))]) [2, 3, 4, 0] rfl ?_
          exact ih _ _ _
        · refine q_iload_n 2 dX12_lean_51 rfl ?_
          refine q_aload_n 1 dX12_lean_52 rfl ?_
          refine q_getR (f := 0) cl_X12 (by decide) qw_1117 rfl dX12_lean_53 (fun _ _ _ => rfl) (fun v13 h14 => ?_)
          refine q_iload 0 dX12_lean_56 rfl ?_
          refine q_iconst (x := (3 : Int32)) dX12_lean_58 rfl ?_
          refine q_iadd dX12_lean_59 ?_
          refine q_iald dX12_lean_60 (fun v15 h16 => ?_)
          refine q_aload_n 1 dX12_lean_61 rfl ?_
          refine q_getR (f := 0) cl_X12 (by decide) qw_1117 rfl dX12_lean_62 (fun _ _ _ => rfl) (fun v17 h18 => ?_)
          refine q_iload 0 dX12_lean_65 rfl ?_
          refine q_iconst (x := (4 : Int32)) dX12_lean_67 rfl ?_
          refine q_iadd dX12_lean_68 ?_
          refine q_iald dX12_lean_69 (fun v19 h20 => ?_)
          refine q_isub dX12_lean_70 ?_
          refine q_iadd dX12_lean_71 ?_
          refine q_istore_n (ls' := [(1, .int (a1 + (v15 - v19))), (4, .int ((2820 : Int32) + ((5 : Int32) * a3))), (0, .ref a0), (2, .int a2), (3, .int a3)]) dX12_lean_72 (by decide) rfl ?_
          refine q_iinc 3 (y := (a2 + (1 : Int32))) (ls' := [(2, .int (a2 + (1 : Int32))), (1, .int (a1 + (v15 - v19))), (4, .int ((2820 : Int32) + ((5 : Int32) * a3))), (0, .ref a0), (3, .int a3)]) dX12_lean_73 rfl rfl (by decide) rfl ?_
          refine q_iinc 4 (y := (a3 + (1 : Int32))) (ls' := [(3, .int (a3 + (1 : Int32))), (2, .int (a2 + (1 : Int32))), (1, .int (a1 + (v15 - v19))), (4, .int ((2820 : Int32) + ((5 : Int32) * a3))), (0, .ref a0)]) dX12_lean_76 rfl rfl (by decide) rfl ?_
          refine q_goto (tgt := 6) dX12_lean_79 (by decide) ?_
          refine q_sub (ls' := [(0, .ref a0), (1, .int (a1 + (v15 - v19))), (2, .int (a2 + (1 : Int32))), (3, .int (a3 + (1 : Int32)))]) [4, 2, 1, 0] rfl ?_
          exact ih _ _ _
    · refine q_sub (ls' := [(1, .int a1), (2, .int a2)]) [1, 2] rfl ?_
      exact v_X12_lean_b82
set_option maxRecDepth 20000 in
theorem m_X12_lean {M : q_Mem} {a0 : Nat} {x : Int32} (h : f_X12_lean M a0 = some x) : q_C Y_X12_lean [.ref a0] M (some (.int x)) M := by
  refine q_met (φ := (fun x : Int32 => (some (.int x), M))) (r := f_X12_lean M a0) (by decide +kernel) (Nat.le_of_ble_eq_true rfl) ?_ h (fun _ _ => rfl)
  show q_V Y_X12_lean none (fun x : Int32 => (some (.int x), M)) 0 0 0 [(0, .ref a0)] [] M (f_X12_lean M a0)
  unfold f_X12_lean
  refine q_obV ?_
  refine q_iconst (x := (0 : Int32)) dX12_lean_0 rfl ?_
  refine q_istore_n (ls' := [(1, .int (0 : Int32)), (0, .ref a0)]) dX12_lean_1 (by decide) rfl ?_
  refine q_iconst (x := (0 : Int32)) dX12_lean_2 rfl ?_
  refine q_istore_n (ls' := [(2, .int (0 : Int32)), (1, .int (0 : Int32)), (0, .ref a0)]) dX12_lean_3 (by decide) rfl ?_
  refine q_iconst (x := (0 : Int32)) dX12_lean_4 rfl ?_
  refine q_istore_n (ls' := [(3, .int (0 : Int32)), (2, .int (0 : Int32)), (1, .int (0 : Int32)), (0, .ref a0)]) dX12_lean_5 (by decide) rfl ?_
  refine q_sub (ls' := [(0, .ref a0), (1, .int (0 : Int32)), (2, .int (0 : Int32)), (3, .int (0 : Int32))]) [3, 2, 1, 0] rfl ?_
  exact v_X12_lean_b6 _ _ _ _
theorem dX12_lot_0 : decode cX12_lot 0 = .ok (.aload_n 0, 1) := by decide +kernel
theorem dX12_lot_1 : decode cX12_lot 1 = .ok (.iconst 3, 1) := by decide +kernel
theorem dX12_lot_2 : decode cX12_lot 2 = .ok (.iload_n 1, 1) := by decide +kernel
theorem dX12_lot_3 : decode cX12_lot 3 = .ok (.invokevirtual 86, 3) := by decide +kernel
theorem dX12_lot_6 : decode cX12_lot 6 = .ok (.ifCond .eq 12, 3) := by decide +kernel
theorem dX12_lot_9 : decode cX12_lot 9 = .ok (.iload_n 2, 1) := by decide +kernel
theorem dX12_lot_10 : decode cX12_lot 10 = .ok (.iconst 0, 1) := by decide +kernel
theorem dX12_lot_11 : decode cX12_lot 11 = .ok (.iconst 3, 1) := by decide +kernel
theorem dX12_lot_12 : decode cX12_lot 12 = .ok (.invokestatic 78, 3) := by decide +kernel
theorem dX12_lot_15 : decode cX12_lot 15 = .ok (.ifCond .ne 7, 3) := by decide +kernel
theorem dX12_lot_18 : decode cX12_lot 18 = .ok (.sipush (-1000), 3) := by decide +kernel
theorem dX12_lot_21 : decode cX12_lot 21 = .ok (.ireturn, 1) := by decide +kernel
theorem dX12_lot_22 : decode cX12_lot 22 = .ok (.aload_n 0, 1) := by decide +kernel
theorem dX12_lot_23 : decode cX12_lot 23 = .ok (.invokevirtual 160, 3) := by decide +kernel
theorem dX12_lot_26 : decode cX12_lot 26 = .ok (.istore_n 3, 1) := by decide +kernel
theorem dX12_lot_27 : decode cX12_lot 27 = .ok (.iconst 0, 1) := by decide +kernel
theorem dX12_lot_28 : decode cX12_lot 28 = .ok (.istore 4, 2) := by decide +kernel
theorem dX12_lot_30 : decode cX12_lot 30 = .ok (.iconst 0, 1) := by decide +kernel
theorem dX12_lot_31 : decode cX12_lot 31 = .ok (.istore 5, 2) := by decide +kernel
theorem dX12_lot_33 : decode cX12_lot 33 = .ok (.iconst 0, 1) := by decide +kernel
theorem dX12_lot_34 : decode cX12_lot 34 = .ok (.istore 6, 2) := by decide +kernel
theorem dX12_lot_36 : decode cX12_lot 36 = .ok (.iconst 0, 1) := by decide +kernel
theorem dX12_lot_37 : decode cX12_lot 37 = .ok (.istore 7, 2) := by decide +kernel
theorem dX12_lot_39 : decode cX12_lot 39 = .ok (.iconst 0, 1) := by decide +kernel
theorem dX12_lot_40 : decode cX12_lot 40 = .ok (.istore 8, 2) := by decide +kernel
theorem dX12_lot_42 : decode cX12_lot 42 = .ok (.iload 8, 2) := by decide +kernel
theorem dX12_lot_44 : decode cX12_lot 44 = .ok (.aload_n 0, 1) := by decide +kernel
theorem dX12_lot_45 : decode cX12_lot 45 = .ok (.getfield 7, 3) := by decide +kernel
theorem dX12_lot_48 : decode cX12_lot 48 = .ok (.iconst 4, 1) := by decide +kernel
theorem dX12_lot_49 : decode cX12_lot 49 = .ok (.iaload, 1) := by decide +kernel
theorem dX12_lot_50 : decode cX12_lot 50 = .ok (.if_icmp .ge 146, 3) := by decide +kernel
theorem dX12_lot_53 : decode cX12_lot 53 = .ok (.sipush 2820, 3) := by decide +kernel
theorem dX12_lot_56 : decode cX12_lot 56 = .ok (.iconst 5, 1) := by decide +kernel
theorem dX12_lot_57 : decode cX12_lot 57 = .ok (.iload 8, 2) := by decide +kernel
theorem dX12_lot_59 : decode cX12_lot 59 = .ok (.imul, 1) := by decide +kernel
theorem dX12_lot_60 : decode cX12_lot 60 = .ok (.iadd, 1) := by decide +kernel
theorem dX12_lot_61 : decode cX12_lot 61 = .ok (.istore 9, 2) := by decide +kernel
theorem dX12_lot_63 : decode cX12_lot 63 = .ok (.aload_n 0, 1) := by decide +kernel
theorem dX12_lot_64 : decode cX12_lot 64 = .ok (.getfield 7, 3) := by decide +kernel
theorem dX12_lot_67 : decode cX12_lot 67 = .ok (.iload 9, 2) := by decide +kernel
theorem dX12_lot_69 : decode cX12_lot 69 = .ok (.iaload, 1) := by decide +kernel
theorem dX12_lot_70 : decode cX12_lot 70 = .ok (.iload_n 1, 1) := by decide +kernel
theorem dX12_lot_71 : decode cX12_lot 71 = .ok (.if_icmp .ne 119, 3) := by decide +kernel
theorem dX12_lot_74 : decode cX12_lot 74 = .ok (.aload_n 0, 1) := by decide +kernel
theorem dX12_lot_75 : decode cX12_lot 75 = .ok (.getfield 7, 3) := by decide +kernel
theorem dX12_lot_78 : decode cX12_lot 78 = .ok (.iload 9, 2) := by decide +kernel
theorem dX12_lot_80 : decode cX12_lot 80 = .ok (.iconst 3, 1) := by decide +kernel
theorem dX12_lot_81 : decode cX12_lot 81 = .ok (.iadd, 1) := by decide +kernel
theorem dX12_lot_82 : decode cX12_lot 82 = .ok (.iaload, 1) := by decide +kernel
theorem dX12_lot_83 : decode cX12_lot 83 = .ok (.iconst (-1), 1) := by decide +kernel
theorem dX12_lot_84 : decode cX12_lot 84 = .ok (.if_icmp .ne 16, 3) := by decide +kernel
theorem dX12_lot_87 : decode cX12_lot 87 = .ok (.aload_n 0, 1) := by decide +kernel
theorem dX12_lot_88 : decode cX12_lot 88 = .ok (.getfield 7, 3) := by decide +kernel
theorem dX12_lot_91 : decode cX12_lot 91 = .ok (.iload 9, 2) := by decide +kernel
theorem dX12_lot_93 : decode cX12_lot 93 = .ok (.iconst 4, 1) := by decide +kernel
theorem dX12_lot_94 : decode cX12_lot 94 = .ok (.iadd, 1) := by decide +kernel
theorem dX12_lot_95 : decode cX12_lot 95 = .ok (.iaload, 1) := by decide +kernel
theorem dX12_lot_96 : decode cX12_lot 96 = .ok (.iconst (-1), 1) := by decide +kernel
theorem dX12_lot_97 : decode cX12_lot 97 = .ok (.if_icmp .eq 93, 3) := by decide +kernel
theorem dX12_lot_100 : decode cX12_lot 100 = .ok (.aload_n 0, 1) := by decide +kernel
theorem dX12_lot_101 : decode cX12_lot 101 = .ok (.getfield 7, 3) := by decide +kernel
theorem dX12_lot_104 : decode cX12_lot 104 = .ok (.iload 9, 2) := by decide +kernel
theorem dX12_lot_106 : decode cX12_lot 106 = .ok (.iconst 3, 1) := by decide +kernel
theorem dX12_lot_107 : decode cX12_lot 107 = .ok (.iadd, 1) := by decide +kernel
theorem dX12_lot_108 : decode cX12_lot 108 = .ok (.iaload, 1) := by decide +kernel
theorem dX12_lot_109 : decode cX12_lot 109 = .ok (.iconst (-1), 1) := by decide +kernel
theorem dX12_lot_110 : decode cX12_lot 110 = .ok (.if_icmp .eq 15, 3) := by decide +kernel
theorem dX12_lot_113 : decode cX12_lot 113 = .ok (.aload_n 0, 1) := by decide +kernel
theorem dX12_lot_114 : decode cX12_lot 114 = .ok (.getfield 7, 3) := by decide +kernel
theorem dX12_lot_117 : decode cX12_lot 117 = .ok (.iload 9, 2) := by decide +kernel
theorem dX12_lot_119 : decode cX12_lot 119 = .ok (.iconst 3, 1) := by decide +kernel
theorem dX12_lot_120 : decode cX12_lot 120 = .ok (.iadd, 1) := by decide +kernel
theorem dX12_lot_121 : decode cX12_lot 121 = .ok (.iaload, 1) := by decide +kernel
theorem dX12_lot_122 : decode cX12_lot 122 = .ok (.goto 14, 3) := by decide +kernel
theorem dX12_lot_125 : decode cX12_lot 125 = .ok (.aload_n 0, 1) := by decide +kernel
theorem dX12_lot_126 : decode cX12_lot 126 = .ok (.getfield 7, 3) := by decide +kernel
theorem dX12_lot_129 : decode cX12_lot 129 = .ok (.iload 9, 2) := by decide +kernel
theorem dX12_lot_131 : decode cX12_lot 131 = .ok (.iconst 4, 1) := by decide +kernel
theorem dX12_lot_132 : decode cX12_lot 132 = .ok (.iadd, 1) := by decide +kernel
theorem dX12_lot_133 : decode cX12_lot 133 = .ok (.iaload, 1) := by decide +kernel
theorem dX12_lot_134 : decode cX12_lot 134 = .ok (.iload_n 3, 1) := by decide +kernel
theorem dX12_lot_135 : decode cX12_lot 135 = .ok (.iadd, 1) := by decide +kernel
theorem dX12_lot_136 : decode cX12_lot 136 = .ok (.istore 10, 2) := by decide +kernel
theorem dX12_lot_138 : decode cX12_lot 138 = .ok (.iload 7, 2) := by decide +kernel
theorem dX12_lot_140 : decode cX12_lot 140 = .ok (.ifCond .eq 10, 3) := by decide +kernel
theorem dX12_lot_143 : decode cX12_lot 143 = .ok (.iload 10, 2) := by decide +kernel
theorem dX12_lot_145 : decode cX12_lot 145 = .ok (.iload 4, 2) := by decide +kernel
theorem dX12_lot_147 : decode cX12_lot 147 = .ok (.if_icmp .ge 8, 3) := by decide +kernel
theorem dX12_lot_150 : decode cX12_lot 150 = .ok (.iload 10, 2) := by decide +kernel
theorem dX12_lot_152 : decode cX12_lot 152 = .ok (.goto 5, 3) := by decide +kernel
theorem dX12_lot_155 : decode cX12_lot 155 = .ok (.iload 4, 2) := by decide +kernel
theorem dX12_lot_157 : decode cX12_lot 157 = .ok (.istore 4, 2) := by decide +kernel
theorem dX12_lot_159 : decode cX12_lot 159 = .ok (.iload 7, 2) := by decide +kernel
theorem dX12_lot_161 : decode cX12_lot 161 = .ok (.ifCond .eq 10, 3) := by decide +kernel
theorem dX12_lot_164 : decode cX12_lot 164 = .ok (.iload 10, 2) := by decide +kernel
theorem dX12_lot_166 : decode cX12_lot 166 = .ok (.iload 5, 2) := by decide +kernel
theorem dX12_lot_168 : decode cX12_lot 168 = .ok (.if_icmp .le 8, 3) := by decide +kernel
theorem dX12_lot_171 : decode cX12_lot 171 = .ok (.iload 10, 2) := by decide +kernel
theorem dX12_lot_173 : decode cX12_lot 173 = .ok (.goto 5, 3) := by decide +kernel
theorem dX12_lot_176 : decode cX12_lot 176 = .ok (.iload 5, 2) := by decide +kernel
theorem dX12_lot_178 : decode cX12_lot 178 = .ok (.istore 5, 2) := by decide +kernel
theorem dX12_lot_180 : decode cX12_lot 180 = .ok (.iload 6, 2) := by decide +kernel
theorem dX12_lot_182 : decode cX12_lot 182 = .ok (.iload 10, 2) := by decide +kernel
theorem dX12_lot_184 : decode cX12_lot 184 = .ok (.iadd, 1) := by decide +kernel
theorem dX12_lot_185 : decode cX12_lot 185 = .ok (.istore 6, 2) := by decide +kernel
theorem dX12_lot_187 : decode cX12_lot 187 = .ok (.iinc 7 1, 3) := by decide +kernel
theorem dX12_lot_190 : decode cX12_lot 190 = .ok (.iinc 8 1, 3) := by decide +kernel
theorem dX12_lot_193 : decode cX12_lot 193 = .ok (.goto (-151), 3) := by decide +kernel
theorem dX12_lot_196 : decode cX12_lot 196 = .ok (.iload_n 2, 1) := by decide +kernel
theorem dX12_lot_197 : decode cX12_lot 197 = .ok (.iconst 3, 1) := by decide +kernel
theorem dX12_lot_198 : decode cX12_lot 198 = .ok (.if_icmp .ne 8, 3) := by decide +kernel
theorem dX12_lot_201 : decode cX12_lot 201 = .ok (.iload 7, 2) := by decide +kernel
theorem dX12_lot_203 : decode cX12_lot 203 = .ok (.goto 38, 3) := by decide +kernel
theorem dX12_lot_206 : decode cX12_lot 206 = .ok (.iload 7, 2) := by decide +kernel
theorem dX12_lot_208 : decode cX12_lot 208 = .ok (.ifCond .ne 9, 3) := by decide +kernel
theorem dX12_lot_211 : decode cX12_lot 211 = .ok (.sipush (-2000), 3) := by decide +kernel
theorem dX12_lot_214 : decode cX12_lot 214 = .ok (.goto 27, 3) := by decide +kernel
theorem dX12_lot_217 : decode cX12_lot 217 = .ok (.iload_n 2, 1) := by decide +kernel
theorem dX12_lot_218 : decode cX12_lot 218 = .ok (.ifCond .ne 8, 3) := by decide +kernel
theorem dX12_lot_221 : decode cX12_lot 221 = .ok (.iload 4, 2) := by decide +kernel
theorem dX12_lot_223 : decode cX12_lot 223 = .ok (.goto 18, 3) := by decide +kernel
theorem dX12_lot_226 : decode cX12_lot 226 = .ok (.iload_n 2, 1) := by decide +kernel
theorem dX12_lot_227 : decode cX12_lot 227 = .ok (.iconst 1, 1) := by decide +kernel
theorem dX12_lot_228 : decode cX12_lot 228 = .ok (.if_icmp .ne 8, 3) := by decide +kernel
theorem dX12_lot_231 : decode cX12_lot 231 = .ok (.iload 5, 2) := by decide +kernel
theorem dX12_lot_233 : decode cX12_lot 233 = .ok (.goto 8, 3) := by decide +kernel
theorem dX12_lot_236 : decode cX12_lot 236 = .ok (.iload 6, 2) := by decide +kernel
theorem dX12_lot_238 : decode cX12_lot 238 = .ok (.iload 7, 2) := by decide +kernel
theorem dX12_lot_240 : decode cX12_lot 240 = .ok (.idiv, 1) := by decide +kernel
theorem dX12_lot_241 : decode cX12_lot 241 = .ok (.ireturn, 1) := by decide +kernel
def f_X12_lot_b196 (M : q_Mem) (a2 : Int32) (a4 : Int32) (a5 : Int32) (a6 : Int32) (a7 : Int32) : Option Int32 :=
  (if a2 = (3 : Int32) then
    some a7
  else
    (if a7 = 0 then
      some (-2000 : Int32)
    else
      (if a2 = 0 then
        some a4
      else
        (if a2 = (1 : Int32) then
          some a5
        else
          (q_dv a6 a7).bind fun v42 =>
          some v42))))
def f_X12_lot_b178 (kk42 : Int32 → Int32 → Int32 → Int32 → Int32 → Option Int32) (M : q_Mem) (a0 : Nat) (a1 : Int32) (a2 : Int32) (a3 : Int32) (a4 : Int32) (a6 : Int32) (a7 : Int32) (a8 : Int32) (a10 : Int32) (s0 : Int32) : Option Int32 :=
  kk42 a4 s0 (a6 + a10) (a7 + (1 : Int32)) (a8 + (1 : Int32))
def f_X12_lot_b157 (kk42 : Int32 → Int32 → Int32 → Int32 → Int32 → Option Int32) (M : q_Mem) (a0 : Nat) (a1 : Int32) (a2 : Int32) (a3 : Int32) (a5 : Int32) (a6 : Int32) (a7 : Int32) (a8 : Int32) (a10 : Int32) (s0 : Int32) : Option Int32 :=
  (if a7 = 0 then
    f_X12_lot_b178 kk42 M a0 a1 a2 a3 s0 a6 a7 a8 a10 a10
  else
    (if a5 < a10 then
      f_X12_lot_b178 kk42 M a0 a1 a2 a3 s0 a6 a7 a8 a10 a10
    else
      f_X12_lot_b178 kk42 M a0 a1 a2 a3 s0 a6 a7 a8 a10 a5))
def f_X12_lot_b136 (kk42 : Int32 → Int32 → Int32 → Int32 → Int32 → Option Int32) (M : q_Mem) (a0 : Nat) (a1 : Int32) (a2 : Int32) (a3 : Int32) (a4 : Int32) (a5 : Int32) (a6 : Int32) (a7 : Int32) (a8 : Int32) (s0 : Int32) : Option Int32 :=
  (if a7 = 0 then
    f_X12_lot_b157 kk42 M a0 a1 a2 a3 a5 a6 a7 a8 s0 s0
  else
    (if s0 < a4 then
      f_X12_lot_b157 kk42 M a0 a1 a2 a3 a5 a6 a7 a8 s0 s0
    else
      f_X12_lot_b157 kk42 M a0 a1 a2 a3 a5 a6 a7 a8 s0 a4))
def f_X12_lot_b100 (kk42 : Int32 → Int32 → Int32 → Int32 → Int32 → Option Int32) (M : q_Mem) (a0 : Nat) (a1 : Int32) (a2 : Int32) (a3 : Int32) (a4 : Int32) (a5 : Int32) (a6 : Int32) (a7 : Int32) (a8 : Int32) (a9 : Int32) : Option Int32 :=
  (q_gR 11 0 M a0).bind fun v29 =>
  (q_lI M v29 (a9 + (3 : Int32))).bind fun v31 =>
  (if v31 = (-1 : Int32) then
    (q_gR 11 0 M a0).bind fun v33 =>
    (q_lI M v33 (a9 + (4 : Int32))).bind fun v35 =>
    f_X12_lot_b136 kk42 M a0 a1 a2 a3 a4 a5 a6 a7 a8 (v35 + a3)
  else
    (q_gR 11 0 M a0).bind fun v37 =>
    (q_lI M v37 (a9 + (3 : Int32))).bind fun v39 =>
    f_X12_lot_b136 kk42 M a0 a1 a2 a3 a4 a5 a6 a7 a8 v39)
def f_X12_lot_b42 (M : q_Mem) (a0 : Nat) (a1 : Int32) (a2 : Int32) (a3 : Int32) : Nat → Int32 → Int32 → Int32 → Int32 → Int32 → Option Int32
  | 0, _, _, _, _, _ => none
  | n + 1, a4, a5, a6, a7, a8 =>
    (q_gR 11 0 M a0).bind fun v9 =>
    (q_lI M v9 (4 : Int32)).bind fun v11 =>
    (if a8 < v11 then
      (q_gR 11 0 M a0).bind fun v13 =>
      (q_lI M v13 ((2820 : Int32) + ((5 : Int32) * a8))).bind fun v15 =>
      (if v15 = a1 then
        (q_gR 11 0 M a0).bind fun v17 =>
        (q_lI M v17 (((2820 : Int32) + ((5 : Int32) * a8)) + (3 : Int32))).bind fun v19 =>
        (if v19 = (-1 : Int32) then
          (q_gR 11 0 M a0).bind fun v21 =>
          (q_lI M v21 (((2820 : Int32) + ((5 : Int32) * a8)) + (4 : Int32))).bind fun v23 =>
          (if v23 = (-1 : Int32) then
            f_X12_lot_b42 M a0 a1 a2 a3 n a4 a5 a6 a7 (a8 + (1 : Int32))
          else
            f_X12_lot_b100 (f_X12_lot_b42 M a0 a1 a2 a3 n) M a0 a1 a2 a3 a4 a5 a6 a7 a8 ((2820 : Int32) + ((5 : Int32) * a8)))
        else
          f_X12_lot_b100 (f_X12_lot_b42 M a0 a1 a2 a3 n) M a0 a1 a2 a3 a4 a5 a6 a7 a8 ((2820 : Int32) + ((5 : Int32) * a8)))
      else
        f_X12_lot_b42 M a0 a1 a2 a3 n a4 a5 a6 a7 (a8 + (1 : Int32)))
    else
      f_X12_lot_b196 M a2 a4 a5 a6 a7)
def f_X12_lot (M : q_Mem) (a0 : Nat) (a1 : Int32) (a2 : Int32) : Option Int32 :=
  q_ob 11 M a0 ((f_X12_is M a0 (3 : Int32) a1).bind fun v2 =>
  (if v2 = 0 then
    some (-1000 : Int32)
  else
    (f_X12_in M a2 (0 : Int32) (3 : Int32)).bind fun v4 =>
    (if v4 = 0 then
      some (-1000 : Int32)
    else
      (f_X12_lean M a0).bind fun v6 =>
      f_X12_lot_b42 M a0 a1 a2 v6 q_fuel (0 : Int32) (0 : Int32) (0 : Int32) (0 : Int32) (0 : Int32))))
set_option maxRecDepth 20000 in
theorem v_X12_lot_b196 {M : q_Mem} {a2 : Int32} {a4 : Int32} {a5 : Int32} {a6 : Int32} {a7 : Int32}  : q_V Y_X12_lot none (fun x : Int32 => (some (.int x), M)) 0 0 196 [(2, .int a2), (4, .int a4), (5, .int a5), (6, .int a6), (7, .int a7)] [] M (f_X12_lot_b196 M a2 a4 a5 a6 a7 ) := by
  unfold f_X12_lot_b196
  refine q_iload_n 0 dX12_lot_196 rfl ?_
  refine q_iconst (x := (3 : Int32)) dX12_lot_197 rfl ?_
  refine q_icmp_ne (tgt := 206) dX12_lot_198 (by decide) (fun c47 => ?_) (fun c47 => ?_)
  · refine q_iload 4 dX12_lot_201 rfl ?_
    refine q_goto (tgt := 241) dX12_lot_203 (by decide) ?_
    exact q_iret dX12_lot_241 rfl rfl (Nat.le_of_ble_eq_true rfl) rfl
  · refine q_iload 4 dX12_lot_206 rfl ?_
    refine q_if_ne (tgt := 217) dX12_lot_208 (by decide) (fun c46 => ?_) (fun c46 => ?_)
    · refine q_sipush (x := (-2000 : Int32)) dX12_lot_211 rfl ?_
      refine q_goto (tgt := 241) dX12_lot_214 (by decide) ?_
      exact q_iret dX12_lot_241 rfl rfl (Nat.le_of_ble_eq_true rfl) rfl
    · refine q_iload_n 0 dX12_lot_217 rfl ?_
      refine q_if_ne (tgt := 226) dX12_lot_218 (by decide) (fun c45 => ?_) (fun c45 => ?_)
      · refine q_iload 1 dX12_lot_221 rfl ?_
        refine q_goto (tgt := 241) dX12_lot_223 (by decide) ?_
        exact q_iret dX12_lot_241 rfl rfl (Nat.le_of_ble_eq_true rfl) rfl
      · refine q_iload_n 0 dX12_lot_226 rfl ?_
        refine q_iconst (x := (1 : Int32)) dX12_lot_227 rfl ?_
        refine q_icmp_ne (tgt := 236) dX12_lot_228 (by decide) (fun c44 => ?_) (fun c44 => ?_)
        · refine q_iload 2 dX12_lot_231 rfl ?_
          refine q_goto (tgt := 241) dX12_lot_233 (by decide) ?_
          exact q_iret dX12_lot_241 rfl rfl (Nat.le_of_ble_eq_true rfl) rfl
        · refine q_iload 3 dX12_lot_236 rfl ?_
          refine q_iload 4 dX12_lot_238 rfl ?_
          refine q_idiv dX12_lot_240 (fun v42 h43 => ?_)
          exact q_iret dX12_lot_241 rfl rfl (Nat.le_of_ble_eq_true rfl) rfl
set_option maxRecDepth 20000 in
theorem v_X12_lot_b178 {kk42 : Int32 → Int32 → Int32 → Int32 → Int32 → Option Int32} {M : q_Mem} {a0 : Nat} {a1 : Int32} {a2 : Int32} {a3 : Int32} {a4 : Int32} {a6 : Int32} {a7 : Int32} {a8 : Int32} {a10 : Int32} {s0 : Int32}  (hk42 : ∀ (a4 : Int32) (a5 : Int32) (a6 : Int32) (a7 : Int32) (a8 : Int32), q_V Y_X12_lot none (fun x : Int32 => (some (.int x), M)) 0 0 42 [(0, .ref a0), (1, .int a1), (2, .int a2), (3, .int a3), (4, .int a4), (5, .int a5), (6, .int a6), (7, .int a7), (8, .int a8)] [] M (kk42 a4 a5 a6 a7 a8)): q_V Y_X12_lot none (fun x : Int32 => (some (.int x), M)) 0 0 178 [(0, .ref a0), (1, .int a1), (2, .int a2), (3, .int a3), (4, .int a4), (6, .int a6), (7, .int a7), (8, .int a8), (10, .int a10)] [.int s0] M (f_X12_lot_b178 kk42 M a0 a1 a2 a3 a4 a6 a7 a8 a10 s0) := by
  unfold f_X12_lot_b178
  refine q_istore (ls' := [(5, .int s0), (0, .ref a0), (1, .int a1), (2, .int a2), (3, .int a3), (4, .int a4), (6, .int a6), (7, .int a7), (8, .int a8), (10, .int a10)]) dX12_lot_178 (by decide) rfl ?_
  refine q_iload 6 dX12_lot_180 rfl ?_
  refine q_iload 9 dX12_lot_182 rfl ?_
  refine q_iadd dX12_lot_184 ?_
  refine q_istore (ls' := [(6, .int (a6 + a10)), (5, .int s0), (0, .ref a0), (1, .int a1), (2, .int a2), (3, .int a3), (4, .int a4), (7, .int a7), (8, .int a8), (10, .int a10)]) dX12_lot_185 (by decide) rfl ?_
  refine q_iinc 7 (y := (a7 + (1 : Int32))) (ls' := [(7, .int (a7 + (1 : Int32))), (6, .int (a6 + a10)), (5, .int s0), (0, .ref a0), (1, .int a1), (2, .int a2), (3, .int a3), (4, .int a4), (8, .int a8), (10, .int a10)]) dX12_lot_187 rfl rfl (by decide) rfl ?_
  refine q_iinc 8 (y := (a8 + (1 : Int32))) (ls' := [(8, .int (a8 + (1 : Int32))), (7, .int (a7 + (1 : Int32))), (6, .int (a6 + a10)), (5, .int s0), (0, .ref a0), (1, .int a1), (2, .int a2), (3, .int a3), (4, .int a4), (10, .int a10)]) dX12_lot_190 rfl rfl (by decide) rfl ?_
  refine q_goto (tgt := 42) dX12_lot_193 (by decide) ?_
  refine q_sub (ls' := [(0, .ref a0), (1, .int a1), (2, .int a2), (3, .int a3), (4, .int a4), (5, .int s0), (6, .int (a6 + a10)), (7, .int (a7 + (1 : Int32))), (8, .int (a8 + (1 : Int32)))]) [4, 5, 6, 7, 8, 3, 2, 1, 0] rfl ?_
  exact hk42 _ _ _ _ _
set_option maxRecDepth 20000 in
theorem v_X12_lot_b157 {kk42 : Int32 → Int32 → Int32 → Int32 → Int32 → Option Int32} {M : q_Mem} {a0 : Nat} {a1 : Int32} {a2 : Int32} {a3 : Int32} {a5 : Int32} {a6 : Int32} {a7 : Int32} {a8 : Int32} {a10 : Int32} {s0 : Int32}  (hk42 : ∀ (a4 : Int32) (a5 : Int32) (a6 : Int32) (a7 : Int32) (a8 : Int32), q_V Y_X12_lot none (fun x : Int32 => (some (.int x), M)) 0 0 42 [(0, .ref a0), (1, .int a1), (2, .int a2), (3, .int a3), (4, .int a4), (5, .int a5), (6, .int a6), (7, .int a7), (8, .int a8)] [] M (kk42 a4 a5 a6 a7 a8)): q_V Y_X12_lot none (fun x : Int32 => (some (.int x), M)) 0 0 157 [(0, .ref a0), (1, .int a1), (2, .int a2), (3, .int a3), (5, .int a5), (6, .int a6), (7, .int a7), (8, .int a8), (10, .int a10)] [.int s0] M (f_X12_lot_b157 kk42 M a0 a1 a2 a3 a5 a6 a7 a8 a10 s0) := by
  unfold f_X12_lot_b157
  refine q_istore (ls' := [(4, .int s0), (0, .ref a0), (1, .int a1), (2, .int a2), (3, .int a3), (5, .int a5), (6, .int a6), (7, .int a7), (8, .int a8), (10, .int a10)]) dX12_lot_157 (by decide) rfl ?_
  refine q_iload 7 dX12_lot_159 rfl ?_
  refine q_if_eq (tgt := 171) dX12_lot_161 (by decide) (fun c51 => ?_) (fun c51 => ?_)
  · refine q_iload 9 dX12_lot_171 rfl ?_
    refine q_goto (tgt := 178) dX12_lot_173 (by decide) ?_
    refine q_sub (ls' := [(0, .ref a0), (1, .int a1), (2, .int a2), (3, .int a3), (4, .int s0), (6, .int a6), (7, .int a7), (8, .int a8), (10, .int a10)]) [1, 2, 3, 4, 0, 6, 7, 8, 9] rfl ?_
    exact v_X12_lot_b178 (hk42)
  · refine q_iload 9 dX12_lot_164 rfl ?_
    refine q_iload 5 dX12_lot_166 rfl ?_
    refine q_icmp_le (tgt := 176) dX12_lot_168 (by decide) (fun c50 => ?_) (fun c50 => ?_)
    · refine q_iload 9 dX12_lot_171 rfl ?_
      refine q_goto (tgt := 178) dX12_lot_173 (by decide) ?_
      refine q_sub (ls' := [(0, .ref a0), (1, .int a1), (2, .int a2), (3, .int a3), (4, .int s0), (6, .int a6), (7, .int a7), (8, .int a8), (10, .int a10)]) [1, 2, 3, 4, 0, 6, 7, 8, 9] rfl ?_
      exact v_X12_lot_b178 (hk42)
    · refine q_iload 5 dX12_lot_176 rfl ?_
      refine q_sub (ls' := [(0, .ref a0), (1, .int a1), (2, .int a2), (3, .int a3), (4, .int s0), (6, .int a6), (7, .int a7), (8, .int a8), (10, .int a10)]) [1, 2, 3, 4, 0, 6, 7, 8, 9] rfl ?_
      exact v_X12_lot_b178 (hk42)
set_option maxRecDepth 20000 in
theorem v_X12_lot_b136 {kk42 : Int32 → Int32 → Int32 → Int32 → Int32 → Option Int32} {M : q_Mem} {a0 : Nat} {a1 : Int32} {a2 : Int32} {a3 : Int32} {a4 : Int32} {a5 : Int32} {a6 : Int32} {a7 : Int32} {a8 : Int32} {s0 : Int32}  (hk42 : ∀ (a4 : Int32) (a5 : Int32) (a6 : Int32) (a7 : Int32) (a8 : Int32), q_V Y_X12_lot none (fun x : Int32 => (some (.int x), M)) 0 0 42 [(0, .ref a0), (1, .int a1), (2, .int a2), (3, .int a3), (4, .int a4), (5, .int a5), (6, .int a6), (7, .int a7), (8, .int a8)] [] M (kk42 a4 a5 a6 a7 a8)): q_V Y_X12_lot none (fun x : Int32 => (some (.int x), M)) 0 0 136 [(0, .ref a0), (1, .int a1), (2, .int a2), (3, .int a3), (4, .int a4), (5, .int a5), (6, .int a6), (7, .int a7), (8, .int a8)] [.int s0] M (f_X12_lot_b136 kk42 M a0 a1 a2 a3 a4 a5 a6 a7 a8 s0) := by
  unfold f_X12_lot_b136
  refine q_istore (ls' := [(10, .int s0), (0, .ref a0), (1, .int a1), (2, .int a2), (3, .int a3), (4, .int a4), (5, .int a5), (6, .int a6), (7, .int a7), (8, .int a8)]) dX12_lot_136 (by decide) rfl ?_
  refine q_iload 8 dX12_lot_138 rfl ?_
  refine q_if_eq (tgt := 150) dX12_lot_140 (by decide) (fun c49 => ?_) (fun c49 => ?_)
  · refine q_iload 0 dX12_lot_150 rfl ?_
    refine q_goto (tgt := 157) dX12_lot_152 (by decide) ?_
    refine q_sub (ls' := [(0, .ref a0), (1, .int a1), (2, .int a2), (3, .int a3), (5, .int a5), (6, .int a6), (7, .int a7), (8, .int a8), (10, .int s0)]) [1, 2, 3, 4, 6, 7, 8, 9, 0] rfl ?_
    exact v_X12_lot_b157 (hk42)
  · refine q_iload 0 dX12_lot_143 rfl ?_
    refine q_iload 5 dX12_lot_145 rfl ?_
    refine q_icmp_ge (tgt := 155) dX12_lot_147 (by decide) (fun c48 => ?_) (fun c48 => ?_)
    · refine q_iload 0 dX12_lot_150 rfl ?_
      refine q_goto (tgt := 157) dX12_lot_152 (by decide) ?_
      refine q_sub (ls' := [(0, .ref a0), (1, .int a1), (2, .int a2), (3, .int a3), (5, .int a5), (6, .int a6), (7, .int a7), (8, .int a8), (10, .int s0)]) [1, 2, 3, 4, 6, 7, 8, 9, 0] rfl ?_
      exact v_X12_lot_b157 (hk42)
    · refine q_iload 5 dX12_lot_155 rfl ?_
      refine q_sub (ls' := [(0, .ref a0), (1, .int a1), (2, .int a2), (3, .int a3), (5, .int a5), (6, .int a6), (7, .int a7), (8, .int a8), (10, .int s0)]) [1, 2, 3, 4, 6, 7, 8, 9, 0] rfl ?_
      exact v_X12_lot_b157 (hk42)
set_option maxRecDepth 20000 in
theorem v_X12_lot_b100 {kk42 : Int32 → Int32 → Int32 → Int32 → Int32 → Option Int32} {M : q_Mem} {a0 : Nat} {a1 : Int32} {a2 : Int32} {a3 : Int32} {a4 : Int32} {a5 : Int32} {a6 : Int32} {a7 : Int32} {a8 : Int32} {a9 : Int32}  (hk42 : ∀ (a4 : Int32) (a5 : Int32) (a6 : Int32) (a7 : Int32) (a8 : Int32), q_V Y_X12_lot none (fun x : Int32 => (some (.int x), M)) 0 0 42 [(0, .ref a0), (1, .int a1), (2, .int a2), (3, .int a3), (4, .int a4), (5, .int a5), (6, .int a6), (7, .int a7), (8, .int a8)] [] M (kk42 a4 a5 a6 a7 a8)): q_V Y_X12_lot none (fun x : Int32 => (some (.int x), M)) 0 0 100 [(0, .ref a0), (1, .int a1), (2, .int a2), (3, .int a3), (4, .int a4), (5, .int a5), (6, .int a6), (7, .int a7), (8, .int a8), (9, .int a9)] [] M (f_X12_lot_b100 kk42 M a0 a1 a2 a3 a4 a5 a6 a7 a8 a9 ) := by
  unfold f_X12_lot_b100
  refine q_aload_n 0 dX12_lot_100 rfl ?_
  refine q_getR (f := 0) cl_X12 (by decide) qw_1117 rfl dX12_lot_101 (fun _ _ _ => rfl) (fun v29 h30 => ?_)
  refine q_iload 9 dX12_lot_104 rfl ?_
  refine q_iconst (x := (3 : Int32)) dX12_lot_106 rfl ?_
  refine q_iadd dX12_lot_107 ?_
  refine q_iald dX12_lot_108 (fun v31 h32 => ?_)
  refine q_iconst (x := (-1 : Int32)) dX12_lot_109 rfl ?_
  refine q_icmp_eq (tgt := 125) dX12_lot_110 (by decide) (fun c41 => ?_) (fun c41 => ?_)
  · refine q_aload_n 0 dX12_lot_125 rfl ?_
    refine q_getR (f := 0) cl_X12 (by decide) qw_1117 rfl dX12_lot_126 (fun _ _ _ => rfl) (fun v33 h34 => ?_)
    refine q_iload 9 dX12_lot_129 rfl ?_
    refine q_iconst (x := (4 : Int32)) dX12_lot_131 rfl ?_
    refine q_iadd dX12_lot_132 ?_
    refine q_iald dX12_lot_133 (fun v35 h36 => ?_)
    refine q_iload_n 3 dX12_lot_134 rfl ?_
    refine q_iadd dX12_lot_135 ?_
    refine q_sub (ls' := [(0, .ref a0), (1, .int a1), (2, .int a2), (3, .int a3), (4, .int a4), (5, .int a5), (6, .int a6), (7, .int a7), (8, .int a8)]) [0, 1, 2, 3, 4, 5, 6, 7, 8] rfl ?_
    exact v_X12_lot_b136 (hk42)
  · refine q_aload_n 0 dX12_lot_113 rfl ?_
    refine q_getR (f := 0) cl_X12 (by decide) qw_1117 rfl dX12_lot_114 (fun _ _ _ => rfl) (fun v37 h38 => ?_)
    refine q_iload 9 dX12_lot_117 rfl ?_
    refine q_iconst (x := (3 : Int32)) dX12_lot_119 rfl ?_
    refine q_iadd dX12_lot_120 ?_
    refine q_iald dX12_lot_121 (fun v39 h40 => ?_)
    refine q_goto (tgt := 136) dX12_lot_122 (by decide) ?_
    refine q_sub (ls' := [(0, .ref a0), (1, .int a1), (2, .int a2), (3, .int a3), (4, .int a4), (5, .int a5), (6, .int a6), (7, .int a7), (8, .int a8)]) [0, 1, 2, 3, 4, 5, 6, 7, 8] rfl ?_
    exact v_X12_lot_b136 (hk42)
set_option maxRecDepth 20000 in
theorem v_X12_lot_b42 {M : q_Mem} {a0 : Nat} {a1 : Int32} {a2 : Int32} {a3 : Int32}  : ∀ (n : Nat) (a4 : Int32) (a5 : Int32) (a6 : Int32) (a7 : Int32) (a8 : Int32), q_V Y_X12_lot none (fun x : Int32 => (some (.int x), M)) 0 0 42 [(0, .ref a0), (1, .int a1), (2, .int a2), (3, .int a3), (4, .int a4), (5, .int a5), (6, .int a6), (7, .int a7), (8, .int a8)] [] M (f_X12_lot_b42 M a0 a1 a2 a3 n a4 a5 a6 a7 a8) := by
  intro n
  induction n with
  | zero => intro a4 a5 a6 a7 a8; exact q_none
  | succ n ih =>
    intro a4 a5 a6 a7 a8
    rw [f_X12_lot_b42.eq_2]
    refine q_iload 8 dX12_lot_42 rfl ?_
    refine q_aload_n 0 dX12_lot_44 rfl ?_
    refine q_getR (f := 0) cl_X12 (by decide) qw_1117 rfl dX12_lot_45 (fun _ _ _ => rfl) (fun v9 h10 => ?_)
    refine q_iconst (x := (4 : Int32)) dX12_lot_48 rfl ?_
    refine q_iald dX12_lot_49 (fun v11 h12 => ?_)
    refine q_icmp_ge (tgt := 196) dX12_lot_50 (by decide) (fun c28 => ?_) (fun c28 => ?_)
    · refine q_sipush (x := (2820 : Int32)) dX12_lot_53 rfl ?_
      refine q_iconst (x := (5 : Int32)) dX12_lot_56 rfl ?_
      refine q_iload 8 dX12_lot_57 rfl ?_
      refine q_imul dX12_lot_59 ?_
      refine q_iadd dX12_lot_60 ?_
      refine q_istore (ls' := [(9, .int ((2820 : Int32) + ((5 : Int32) * a8))), (0, .ref a0), (1, .int a1), (2, .int a2), (3, .int a3), (4, .int a4), (5, .int a5), (6, .int a6), (7, .int a7), (8, .int a8)]) dX12_lot_61 (by decide) rfl ?_
      refine q_aload_n 1 dX12_lot_63 rfl ?_
      refine q_getR (f := 0) cl_X12 (by decide) qw_1117 rfl dX12_lot_64 (fun _ _ _ => rfl) (fun v13 h14 => ?_)
      refine q_iload 0 dX12_lot_67 rfl ?_
      refine q_iald dX12_lot_69 (fun v15 h16 => ?_)
      refine q_iload_n 2 dX12_lot_70 rfl ?_
      refine q_icmp_ne (tgt := 190) dX12_lot_71 (by decide) (fun c27 => ?_) (fun c27 => ?_)
      · refine q_aload_n 1 dX12_lot_74 rfl ?_
        refine q_getR (f := 0) cl_X12 (by decide) qw_1117 rfl dX12_lot_75 (fun _ _ _ => rfl) (fun v17 h18 => ?_)
        refine q_iload 0 dX12_lot_78 rfl ?_
        refine q_iconst (x := (3 : Int32)) dX12_lot_80 rfl ?_
        refine q_iadd dX12_lot_81 ?_
        refine q_iald dX12_lot_82 (fun v19 h20 => ?_)
        refine q_iconst (x := (-1 : Int32)) dX12_lot_83 rfl ?_
        refine q_icmp_ne (tgt := 100) dX12_lot_84 (by decide) (fun c26 => ?_) (fun c26 => ?_)
        · refine q_aload_n 1 dX12_lot_87 rfl ?_
          refine q_getR (f := 0) cl_X12 (by decide) qw_1117 rfl dX12_lot_88 (fun _ _ _ => rfl) (fun v21 h22 => ?_)
          refine q_iload 0 dX12_lot_91 rfl ?_
          refine q_iconst (x := (4 : Int32)) dX12_lot_93 rfl ?_
          refine q_iadd dX12_lot_94 ?_
          refine q_iald dX12_lot_95 (fun v23 h24 => ?_)
          refine q_iconst (x := (-1 : Int32)) dX12_lot_96 rfl ?_
          refine q_icmp_eq (tgt := 190) dX12_lot_97 (by decide) (fun c25 => ?_) (fun c25 => ?_)
          · refine q_iinc 9 (y := (a8 + (1 : Int32))) (ls' := [(8, .int (a8 + (1 : Int32))), (9, .int ((2820 : Int32) + ((5 : Int32) * a8))), (0, .ref a0), (1, .int a1), (2, .int a2), (3, .int a3), (4, .int a4), (5, .int a5), (6, .int a6), (7, .int a7)]) dX12_lot_190 rfl rfl (by decide) rfl ?_
            refine q_goto (tgt := 42) dX12_lot_193 (by decide) ?_
            refine q_sub (ls' := [(0, .ref a0), (1, .int a1), (2, .int a2), (3, .int a3), (4, .int a4), (5, .int a5), (6, .int a6), (7, .int a7), (8, .int (a8 + (1 : Int32)))]) [2, 3, 4, 5, 6, 7, 8, 9, 0] rfl ?_
            exact ih _ _ _ _ _
          · refine q_sub (ls' := [(0, .ref a0), (1, .int a1), (2, .int a2), (3, .int a3), (4, .int a4), (5, .int a5), (6, .int a6), (7, .int a7), (8, .int a8), (9, .int ((2820 : Int32) + ((5 : Int32) * a8)))]) [1, 2, 3, 4, 5, 6, 7, 8, 9, 0] rfl ?_
            exact v_X12_lot_b100 (ih)
        · refine q_sub (ls' := [(0, .ref a0), (1, .int a1), (2, .int a2), (3, .int a3), (4, .int a4), (5, .int a5), (6, .int a6), (7, .int a7), (8, .int a8), (9, .int ((2820 : Int32) + ((5 : Int32) * a8)))]) [1, 2, 3, 4, 5, 6, 7, 8, 9, 0] rfl ?_
          exact v_X12_lot_b100 (ih)
      · refine q_iinc 9 (y := (a8 + (1 : Int32))) (ls' := [(8, .int (a8 + (1 : Int32))), (9, .int ((2820 : Int32) + ((5 : Int32) * a8))), (0, .ref a0), (1, .int a1), (2, .int a2), (3, .int a3), (4, .int a4), (5, .int a5), (6, .int a6), (7, .int a7)]) dX12_lot_190 rfl rfl (by decide) rfl ?_
        refine q_goto (tgt := 42) dX12_lot_193 (by decide) ?_
        refine q_sub (ls' := [(0, .ref a0), (1, .int a1), (2, .int a2), (3, .int a3), (4, .int a4), (5, .int a5), (6, .int a6), (7, .int a7), (8, .int (a8 + (1 : Int32)))]) [2, 3, 4, 5, 6, 7, 8, 9, 0] rfl ?_
        exact ih _ _ _ _ _
    · refine q_sub (ls' := [(2, .int a2), (4, .int a4), (5, .int a5), (6, .int a6), (7, .int a7)]) [2, 4, 5, 6, 7] rfl ?_
      exact v_X12_lot_b196
set_option maxRecDepth 20000 in
theorem m_X12_lot {M : q_Mem} {a0 : Nat} {a1 : Int32} {a2 : Int32} {x : Int32} (h : f_X12_lot M a0 a1 a2 = some x) : q_C Y_X12_lot [.ref a0, .int a1, .int a2] M (some (.int x)) M := by
  refine q_met (φ := (fun x : Int32 => (some (.int x), M))) (r := f_X12_lot M a0 a1 a2) (by decide +kernel) (Nat.le_of_ble_eq_true rfl) ?_ h (fun _ _ => rfl)
  show q_V Y_X12_lot none (fun x : Int32 => (some (.int x), M)) 0 0 0 [(0, .ref a0), (1, .int a1), (2, .int a2)] [] M (f_X12_lot M a0 a1 a2)
  unfold f_X12_lot
  refine q_obV ?_
  refine q_aload_n 0 dX12_lot_0 rfl ?_
  refine q_iconst (x := (3 : Int32)) dX12_lot_1 rfl ?_
  refine q_iload_n 1 dX12_lot_2 rfl ?_
  refine q_cVI (Y2 := Y_X12_is) (As := [.int (3 : Int32), .int a1]) (b := a0) (st := []) cl_X12 mv_X12_is qw_1225 dX12_lot_3 ⟨Nat.le_of_ble_eq_true rfl, Nat.le_of_ble_eq_true rfl⟩ rfl (fun _ _ => rfl) (Nat.le_of_ble_eq_true rfl) ⟨Nat.le_of_ble_eq_true rfl, Nat.le_of_ble_eq_true rfl⟩ (fun v2 h1 => q_ob_is h1) (fun v2 h1 => m_X12_is h1) (fun v2 h1 => ?_)
  refine q_if_eq (tgt := 18) dX12_lot_6 (by decide) (fun c8 => ?_) (fun c8 => ?_)
  · refine q_sipush (x := (-1000 : Int32)) dX12_lot_18 rfl ?_
    exact q_iret dX12_lot_21 rfl rfl (Nat.le_of_ble_eq_true rfl) rfl
  · refine q_iload_n 2 dX12_lot_9 rfl ?_
    refine q_iconst (x := (0 : Int32)) dX12_lot_10 rfl ?_
    refine q_iconst (x := (3 : Int32)) dX12_lot_11 rfl ?_
    refine q_cSI (Y2 := Y_X12_in) (As := [.int a2, .int (0 : Int32), .int (3 : Int32)]) (st := []) ms_X12_in qw_1214 dX12_lot_12 ⟨Nat.le_of_ble_eq_true rfl, Nat.le_of_ble_eq_true rfl⟩ rfl (fun _ _ => rfl) (Nat.le_of_ble_eq_true rfl) ⟨Nat.le_of_ble_eq_true rfl, Nat.le_of_ble_eq_true rfl⟩ (fun v4 h3 => m_X12_in h3) (fun v4 h3 => ?_)
    refine q_if_ne (tgt := 22) dX12_lot_15 (by decide) (fun c7 => ?_) (fun c7 => ?_)
    · refine q_sipush (x := (-1000 : Int32)) dX12_lot_18 rfl ?_
      exact q_iret dX12_lot_21 rfl rfl (Nat.le_of_ble_eq_true rfl) rfl
    · refine q_aload_n 0 dX12_lot_22 rfl ?_
      refine q_cVI (Y2 := Y_X12_lean) (As := []) (b := a0) (st := []) cl_X12 mv_X12_lean qw_1375 dX12_lot_23 ⟨Nat.le_of_ble_eq_true rfl, Nat.le_of_ble_eq_true rfl⟩ rfl (fun _ _ => rfl) (Nat.le_of_ble_eq_true rfl) ⟨Nat.le_of_ble_eq_true rfl, Nat.le_of_ble_eq_true rfl⟩ (fun v6 h5 => q_ob_is h5) (fun v6 h5 => m_X12_lean h5) (fun v6 h5 => ?_)
      refine q_istore_n (ls' := [(3, .int v6), (0, .ref a0), (1, .int a1), (2, .int a2)]) dX12_lot_26 (by decide) rfl ?_
      refine q_iconst (x := (0 : Int32)) dX12_lot_27 rfl ?_
      refine q_istore (ls' := [(4, .int (0 : Int32)), (3, .int v6), (0, .ref a0), (1, .int a1), (2, .int a2)]) dX12_lot_28 (by decide) rfl ?_
      refine q_iconst (x := (0 : Int32)) dX12_lot_30 rfl ?_
      refine q_istore (ls' := [(5, .int (0 : Int32)), (4, .int (0 : Int32)), (3, .int v6), (0, .ref a0), (1, .int a1), (2, .int a2)]) dX12_lot_31 (by decide) rfl ?_
      refine q_iconst (x := (0 : Int32)) dX12_lot_33 rfl ?_
      refine q_istore (ls' := [(6, .int (0 : Int32)), (5, .int (0 : Int32)), (4, .int (0 : Int32)), (3, .int v6), (0, .ref a0), (1, .int a1), (2, .int a2)]) dX12_lot_34 (by decide) rfl ?_
      refine q_iconst (x := (0 : Int32)) dX12_lot_36 rfl ?_
      refine q_istore (ls' := [(7, .int (0 : Int32)), (6, .int (0 : Int32)), (5, .int (0 : Int32)), (4, .int (0 : Int32)), (3, .int v6), (0, .ref a0), (1, .int a1), (2, .int a2)]) dX12_lot_37 (by decide) rfl ?_
      refine q_iconst (x := (0 : Int32)) dX12_lot_39 rfl ?_
      refine q_istore (ls' := [(8, .int (0 : Int32)), (7, .int (0 : Int32)), (6, .int (0 : Int32)), (5, .int (0 : Int32)), (4, .int (0 : Int32)), (3, .int v6), (0, .ref a0), (1, .int a1), (2, .int a2)]) dX12_lot_40 (by decide) rfl ?_
      refine q_sub (ls' := [(0, .ref a0), (1, .int a1), (2, .int a2), (3, .int v6), (4, .int (0 : Int32)), (5, .int (0 : Int32)), (6, .int (0 : Int32)), (7, .int (0 : Int32)), (8, .int (0 : Int32))]) [6, 7, 8, 5, 4, 3, 2, 1, 0] rfl ?_
      exact v_X12_lot_b42 _ _ _ _ _ _
theorem dX12_lead_0 : decode cX12_lead 0 = .ok (.aload_n 0, 1) := by decide +kernel
theorem dX12_lead_1 : decode cX12_lead 1 = .ok (.iconst 3, 1) := by decide +kernel
theorem dX12_lead_2 : decode cX12_lead 2 = .ok (.iload_n 1, 1) := by decide +kernel
theorem dX12_lead_3 : decode cX12_lead 3 = .ok (.invokevirtual 86, 3) := by decide +kernel
theorem dX12_lead_6 : decode cX12_lead 6 = .ok (.ifCond .eq 19, 3) := by decide +kernel
theorem dX12_lead_9 : decode cX12_lead 9 = .ok (.aload_n 0, 1) := by decide +kernel
theorem dX12_lead_10 : decode cX12_lead 10 = .ok (.iconst 0, 1) := by decide +kernel
theorem dX12_lead_11 : decode cX12_lead 11 = .ok (.iload_n 2, 1) := by decide +kernel
theorem dX12_lead_12 : decode cX12_lead 12 = .ok (.invokevirtual 86, 3) := by decide +kernel
theorem dX12_lead_15 : decode cX12_lead 15 = .ok (.ifCond .eq 10, 3) := by decide +kernel
theorem dX12_lead_18 : decode cX12_lead 18 = .ok (.iload_n 3, 1) := by decide +kernel
theorem dX12_lead_19 : decode cX12_lead 19 = .ok (.invokestatic 90, 3) := by decide +kernel
theorem dX12_lead_22 : decode cX12_lead 22 = .ok (.ifCond .ne 7, 3) := by decide +kernel
theorem dX12_lead_25 : decode cX12_lead 25 = .ok (.ldc2_w 123, 3) := by decide +kernel
theorem dX12_lead_28 : decode cX12_lead 28 = .ok (.lreturn, 1) := by decide +kernel
theorem dX12_lead_29 : decode cX12_lead 29 = .ok (.aload_n 0, 1) := by decide +kernel
theorem dX12_lead_30 : decode cX12_lead 30 = .ok (.iload_n 3, 1) := by decide +kernel
theorem dX12_lead_31 : decode cX12_lead 31 = .ok (.invokevirtual 113, 3) := by decide +kernel
theorem dX12_lead_34 : decode cX12_lead 34 = .ok (.aload_n 0, 1) := by decide +kernel
theorem dX12_lead_35 : decode cX12_lead 35 = .ok (.iload_n 1, 1) := by decide +kernel
theorem dX12_lead_36 : decode cX12_lead 36 = .ok (.iload_n 2, 1) := by decide +kernel
theorem dX12_lead_37 : decode cX12_lead 37 = .ok (.invokevirtual 132, 3) := by decide +kernel
theorem dX12_lead_40 : decode cX12_lead 40 = .ok (.lreturn, 1) := by decide +kernel
def f_X12_lead (M : q_Mem) (a0 : Nat) (a1 : Int32) (a2 : Int32) (a3 : Int32) : Option (Int64 × q_Mem) :=
  q_ob 11 M a0 ((f_X12_is M a0 (3 : Int32) a1).bind fun v2 =>
  (if v2 = 0 then
    some ((-2 : Int64), M)
  else
    (f_X12_is M a0 (0 : Int32) a2).bind fun v4 =>
    (if v4 = 0 then
      some ((-2 : Int64), M)
    else
      (f_X12_isDay M a3).bind fun v6 =>
      (if v6 = 0 then
        some ((-2 : Int64), M)
      else
        (f_X12_findRates M a0 a3).bind fun M9 =>
        (f_X12_churnFat M9 a0 a1 a2).bind fun v11 =>
        some (v11, M9)))))
set_option maxRecDepth 20000 in
theorem m_X12_lead {M : q_Mem} {a0 : Nat} {a1 : Int32} {a2 : Int32} {a3 : Int32} {x : (Int64 × q_Mem)} (h : f_X12_lead M a0 a1 a2 a3 = some x) : q_C Y_X12_lead [.ref a0, .int a1, .int a2, .int a3] M (some (.long x.1)) x.2 := by
  refine q_met (φ := (fun x : Int64 × q_Mem => (some (.long x.1), x.2))) (r := f_X12_lead M a0 a1 a2 a3) (by decide +kernel) (Nat.le_of_ble_eq_true rfl) ?_ h (fun _ _ => rfl)
  show q_V Y_X12_lead none (fun x : Int64 × q_Mem => (some (.long x.1), x.2)) 0 0 0 [(0, .ref a0), (1, .int a1), (2, .int a2), (3, .int a3)] [] M (f_X12_lead M a0 a1 a2 a3)
  unfold f_X12_lead
  refine q_obV ?_
  refine q_aload_n 0 dX12_lead_0 rfl ?_
  refine q_iconst (x := (3 : Int32)) dX12_lead_1 rfl ?_
  refine q_iload_n 1 dX12_lead_2 rfl ?_
  refine q_cVI (Y2 := Y_X12_is) (As := [.int (3 : Int32), .int a1]) (b := a0) (st := []) cl_X12 mv_X12_is qw_1225 dX12_lead_3 ⟨Nat.le_of_ble_eq_true rfl, Nat.le_of_ble_eq_true rfl⟩ rfl (fun _ _ => rfl) (Nat.le_of_ble_eq_true rfl) ⟨Nat.le_of_ble_eq_true rfl, Nat.le_of_ble_eq_true rfl⟩ (fun v2 h1 => q_ob_is h1) (fun v2 h1 => m_X12_is h1) (fun v2 h1 => ?_)
  refine q_if_eq (tgt := 25) dX12_lead_6 (by decide) (fun c14 => ?_) (fun c14 => ?_)
  · refine q_ldc2 (x := (-2 : Int64)) qw_1299 dX12_lead_25 ?_
    exact q_lret dX12_lead_28 rfl rfl (Nat.le_of_ble_eq_true rfl) rfl
  · refine q_aload_n 0 dX12_lead_9 rfl ?_
    refine q_iconst (x := (0 : Int32)) dX12_lead_10 rfl ?_
    refine q_iload_n 2 dX12_lead_11 rfl ?_
    refine q_cVI (Y2 := Y_X12_is) (As := [.int (0 : Int32), .int a2]) (b := a0) (st := []) cl_X12 mv_X12_is qw_1225 dX12_lead_12 ⟨Nat.le_of_ble_eq_true rfl, Nat.le_of_ble_eq_true rfl⟩ rfl (fun _ _ => rfl) (Nat.le_of_ble_eq_true rfl) ⟨Nat.le_of_ble_eq_true rfl, Nat.le_of_ble_eq_true rfl⟩ (fun v4 h3 => q_ob_is h3) (fun v4 h3 => m_X12_is h3) (fun v4 h3 => ?_)
    refine q_if_eq (tgt := 25) dX12_lead_15 (by decide) (fun c13 => ?_) (fun c13 => ?_)
    · refine q_ldc2 (x := (-2 : Int64)) qw_1299 dX12_lead_25 ?_
      exact q_lret dX12_lead_28 rfl rfl (Nat.le_of_ble_eq_true rfl) rfl
    · refine q_iload_n 3 dX12_lead_18 rfl ?_
      refine q_cSI (Y2 := Y_X12_isDay) (As := [.int a3]) (st := []) ms_X12_isDay qw_1233 dX12_lead_19 ⟨Nat.le_of_ble_eq_true rfl, Nat.le_of_ble_eq_true rfl⟩ rfl (fun _ _ => rfl) (Nat.le_of_ble_eq_true rfl) ⟨Nat.le_of_ble_eq_true rfl, Nat.le_of_ble_eq_true rfl⟩ (fun v6 h5 => m_X12_isDay h5) (fun v6 h5 => ?_)
      refine q_if_ne (tgt := 29) dX12_lead_22 (by decide) (fun c12 => ?_) (fun c12 => ?_)
      · refine q_ldc2 (x := (-2 : Int64)) qw_1299 dX12_lead_25 ?_
        exact q_lret dX12_lead_28 rfl rfl (Nat.le_of_ble_eq_true rfl) rfl
      · refine q_aload_n 0 dX12_lead_29 rfl ?_
        refine q_iload_n 3 dX12_lead_30 rfl ?_
        refine q_cVM (Y2 := Y_X12_findRates) (As := [.int a3]) (b := a0) (st := []) cl_X12 mv_X12_findRates qw_1280 dX12_lead_31 ⟨Nat.le_of_ble_eq_true rfl, Nat.le_of_ble_eq_true rfl⟩ rfl (fun _ _ => rfl) (Nat.le_of_ble_eq_true rfl) ⟨Nat.le_of_ble_eq_true rfl, Nat.le_of_ble_eq_true rfl⟩ (fun M9 h7 => q_ob_is h7) (fun M9 h7 => m_X12_findRates h7) (fun M9 h7 => ?_)
        refine q_aload_n 0 dX12_lead_34 rfl ?_
        refine q_iload_n 1 dX12_lead_35 rfl ?_
        refine q_iload_n 2 dX12_lead_36 rfl ?_
        refine q_cVJ (Y2 := Y_X12_churnFat) (As := [.int a1, .int a2]) (b := a0) (st := []) cl_X12 mv_X12_churnFat qw_1327 dX12_lead_37 ⟨Nat.le_of_ble_eq_true rfl, Nat.le_of_ble_eq_true rfl⟩ rfl (fun _ _ => rfl) (Nat.le_of_ble_eq_true rfl) ⟨Nat.le_of_ble_eq_true rfl, Nat.le_of_ble_eq_true rfl⟩ (fun v11 h10 => q_ob_is h10) (fun v11 h10 => m_X12_churnFat h10) (fun v11 h10 => ?_)
        exact q_lret dX12_lead_40 rfl rfl (Nat.le_of_ble_eq_true rfl) rfl
theorem dX12_emits_0 : decode cX12_emits 0 = .ok (.aload_n 0, 1) := by decide +kernel
theorem dX12_emits_1 : decode cX12_emits 1 = .ok (.getfield 23, 3) := by decide +kernel
theorem dX12_emits_4 : decode cX12_emits 4 = .ok (.aload_n 0, 1) := by decide +kernel
theorem dX12_emits_5 : decode cX12_emits 5 = .ok (.getfield 164, 3) := by decide +kernel
theorem dX12_emits_8 : decode cX12_emits 8 = .ok (.iload_n 1, 1) := by decide +kernel
theorem dX12_emits_9 : decode cX12_emits 9 = .ok (.iastore, 1) := by decide +kernel
theorem dX12_emits_10 : decode cX12_emits 10 = .ok (.aload_n 0, 1) := by decide +kernel
theorem dX12_emits_11 : decode cX12_emits 11 = .ok (.getfield 26, 3) := by decide +kernel
theorem dX12_emits_14 : decode cX12_emits 14 = .ok (.aload_n 0, 1) := by decide +kernel
theorem dX12_emits_15 : decode cX12_emits 15 = .ok (.getfield 164, 3) := by decide +kernel
theorem dX12_emits_18 : decode cX12_emits 18 = .ok (.iload_n 2, 1) := by decide +kernel
theorem dX12_emits_19 : decode cX12_emits 19 = .ok (.iastore, 1) := by decide +kernel
theorem dX12_emits_20 : decode cX12_emits 20 = .ok (.aload_n 0, 1) := by decide +kernel
theorem dX12_emits_21 : decode cX12_emits 21 = .ok (.getfield 29, 3) := by decide +kernel
theorem dX12_emits_24 : decode cX12_emits 24 = .ok (.aload_n 0, 1) := by decide +kernel
theorem dX12_emits_25 : decode cX12_emits 25 = .ok (.getfield 164, 3) := by decide +kernel
theorem dX12_emits_28 : decode cX12_emits 28 = .ok (.iconst 0, 1) := by decide +kernel
theorem dX12_emits_29 : decode cX12_emits 29 = .ok (.iastore, 1) := by decide +kernel
theorem dX12_emits_30 : decode cX12_emits 30 = .ok (.aload_n 0, 1) := by decide +kernel
theorem dX12_emits_31 : decode cX12_emits 31 = .ok (.dup, 1) := by decide +kernel
theorem dX12_emits_32 : decode cX12_emits 32 = .ok (.getfield 164, 3) := by decide +kernel
theorem dX12_emits_35 : decode cX12_emits 35 = .ok (.iconst 1, 1) := by decide +kernel
theorem dX12_emits_36 : decode cX12_emits 36 = .ok (.iadd, 1) := by decide +kernel
theorem dX12_emits_37 : decode cX12_emits 37 = .ok (.putfield 164, 3) := by decide +kernel
theorem dX12_emits_40 : decode cX12_emits 40 = .ok (.aload_n 0, 1) := by decide +kernel
theorem dX12_emits_41 : decode cX12_emits 41 = .ok (.getfield 164, 3) := by decide +kernel
theorem dX12_emits_44 : decode cX12_emits 44 = .ok (.iconst 1, 1) := by decide +kernel
theorem dX12_emits_45 : decode cX12_emits 45 = .ok (.isub, 1) := by decide +kernel
theorem dX12_emits_46 : decode cX12_emits 46 = .ok (.ireturn, 1) := by decide +kernel
def f_X12_emits (M : q_Mem) (a0 : Nat) (a1 : Int32) (a2 : Int32) : Option (Int32 × q_Mem) :=
  q_ob 11 M a0 ((q_gR 11 5 M a0).bind fun v1 =>
  (q_gI 11 4 M a0).bind fun v3 =>
  (q_tI M v1 v3 a1).bind fun M5 =>
  (q_gR 11 6 M5 a0).bind fun v7 =>
  (q_gI 11 4 M5 a0).bind fun v9 =>
  (q_tI M5 v7 v9 a2).bind fun M11 =>
  (q_gR 11 7 M11 a0).bind fun v13 =>
  (q_gI 11 4 M11 a0).bind fun v15 =>
  (q_tI M11 v13 v15 (0 : Int32)).bind fun M17 =>
  (q_gI 11 4 M17 a0).bind fun v19 =>
  (q_pI 11 4 M17 a0 (v19 + (1 : Int32))).bind fun M21 =>
  (q_gI 11 4 M21 a0).bind fun v23 =>
  some ((v23 - (1 : Int32)), M21))
set_option maxRecDepth 20000 in
theorem m_X12_emits {M : q_Mem} {a0 : Nat} {a1 : Int32} {a2 : Int32} {x : (Int32 × q_Mem)} (h : f_X12_emits M a0 a1 a2 = some x) : q_C Y_X12_emits [.ref a0, .int a1, .int a2] M (some (.int x.1)) x.2 := by
  refine q_met (φ := (fun x : Int32 × q_Mem => (some (.int x.1), x.2))) (r := f_X12_emits M a0 a1 a2) (by decide +kernel) (Nat.le_of_ble_eq_true rfl) ?_ h (fun _ _ => rfl)
  show q_V Y_X12_emits none (fun x : Int32 × q_Mem => (some (.int x.1), x.2)) 0 0 0 [(0, .ref a0), (1, .int a1), (2, .int a2)] [] M (f_X12_emits M a0 a1 a2)
  unfold f_X12_emits
  refine q_obV ?_
  refine q_aload_n 0 dX12_emits_0 rfl ?_
  refine q_getR (f := 5) cl_X12 (by decide) qw_1122 rfl dX12_emits_1 (fun _ _ _ => rfl) (fun v1 h2 => ?_)
  refine q_aload_n 0 dX12_emits_4 rfl ?_
  refine q_getI (f := 4) cl_X12 (by decide) qw_1121 rfl dX12_emits_5 (Or.inl rfl) (fun v3 h4 => ?_)
  refine q_iload_n 1 dX12_emits_8 rfl ?_
  refine q_iast dX12_emits_9 (fun M5 h6 => ?_)
  refine q_aload_n 0 dX12_emits_10 rfl ?_
  refine q_getR (f := 6) cl_X12 (by decide) qw_1123 rfl dX12_emits_11 (fun _ _ _ => rfl) (fun v7 h8 => ?_)
  refine q_aload_n 0 dX12_emits_14 rfl ?_
  refine q_getI (f := 4) cl_X12 (by decide) qw_1121 rfl dX12_emits_15 (Or.inl rfl) (fun v9 h10 => ?_)
  refine q_iload_n 2 dX12_emits_18 rfl ?_
  refine q_iast dX12_emits_19 (fun M11 h12 => ?_)
  refine q_aload_n 0 dX12_emits_20 rfl ?_
  refine q_getR (f := 7) cl_X12 (by decide) qw_1124 rfl dX12_emits_21 (fun _ _ _ => rfl) (fun v13 h14 => ?_)
  refine q_aload_n 0 dX12_emits_24 rfl ?_
  refine q_getI (f := 4) cl_X12 (by decide) qw_1121 rfl dX12_emits_25 (Or.inl rfl) (fun v15 h16 => ?_)
  refine q_iconst (x := (0 : Int32)) dX12_emits_28 rfl ?_
  refine q_iast dX12_emits_29 (fun M17 h18 => ?_)
  refine q_aload_n 0 dX12_emits_30 rfl ?_
  refine q_dup dX12_emits_31 rfl ?_
  refine q_getI (f := 4) cl_X12 (by decide) qw_1121 rfl dX12_emits_32 (Or.inl rfl) (fun v19 h20 => ?_)
  refine q_iconst (x := (1 : Int32)) dX12_emits_35 rfl ?_
  refine q_iadd dX12_emits_36 ?_
  refine q_putI (f := 4) cl_X12 (by decide) qw_1121 rfl (Or.inl rfl) dX12_emits_37 rfl (fun M21 h22 => ?_)
  refine q_aload_n 0 dX12_emits_40 rfl ?_
  refine q_getI (f := 4) cl_X12 (by decide) qw_1121 rfl dX12_emits_41 (Or.inl rfl) (fun v23 h24 => ?_)
  refine q_iconst (x := (1 : Int32)) dX12_emits_44 rfl ?_
  refine q_isub dX12_emits_45 ?_
  exact q_iret dX12_emits_46 rfl rfl (Nat.le_of_ble_eq_true rfl) rfl
theorem dX12_waitsWith_0 : decode cX12_waitsWith 0 = .ok (.aload_n 0, 1) := by decide +kernel
theorem dX12_waitsWith_1 : decode cX12_waitsWith 1 = .ok (.getfield 32, 3) := by decide +kernel
theorem dX12_waitsWith_4 : decode cX12_waitsWith 4 = .ok (.aload_n 0, 1) := by decide +kernel
theorem dX12_waitsWith_5 : decode cX12_waitsWith 5 = .ok (.getfield 168, 3) := by decide +kernel
theorem dX12_waitsWith_8 : decode cX12_waitsWith 8 = .ok (.iload_n 1, 1) := by decide +kernel
theorem dX12_waitsWith_9 : decode cX12_waitsWith 9 = .ok (.iastore, 1) := by decide +kernel
theorem dX12_waitsWith_10 : decode cX12_waitsWith 10 = .ok (.aload_n 0, 1) := by decide +kernel
theorem dX12_waitsWith_11 : decode cX12_waitsWith 11 = .ok (.getfield 35, 3) := by decide +kernel
theorem dX12_waitsWith_14 : decode cX12_waitsWith 14 = .ok (.aload_n 0, 1) := by decide +kernel
theorem dX12_waitsWith_15 : decode cX12_waitsWith 15 = .ok (.getfield 168, 3) := by decide +kernel
theorem dX12_waitsWith_18 : decode cX12_waitsWith 18 = .ok (.iload_n 2, 1) := by decide +kernel
theorem dX12_waitsWith_19 : decode cX12_waitsWith 19 = .ok (.iastore, 1) := by decide +kernel
theorem dX12_waitsWith_20 : decode cX12_waitsWith 20 = .ok (.aload_n 0, 1) := by decide +kernel
theorem dX12_waitsWith_21 : decode cX12_waitsWith 21 = .ok (.getfield 38, 3) := by decide +kernel
theorem dX12_waitsWith_24 : decode cX12_waitsWith 24 = .ok (.aload_n 0, 1) := by decide +kernel
theorem dX12_waitsWith_25 : decode cX12_waitsWith 25 = .ok (.getfield 168, 3) := by decide +kernel
theorem dX12_waitsWith_28 : decode cX12_waitsWith 28 = .ok (.iload_n 3, 1) := by decide +kernel
theorem dX12_waitsWith_29 : decode cX12_waitsWith 29 = .ok (.iastore, 1) := by decide +kernel
theorem dX12_waitsWith_30 : decode cX12_waitsWith 30 = .ok (.aload_n 0, 1) := by decide +kernel
theorem dX12_waitsWith_31 : decode cX12_waitsWith 31 = .ok (.dup, 1) := by decide +kernel
theorem dX12_waitsWith_32 : decode cX12_waitsWith 32 = .ok (.getfield 168, 3) := by decide +kernel
theorem dX12_waitsWith_35 : decode cX12_waitsWith 35 = .ok (.iconst 1, 1) := by decide +kernel
theorem dX12_waitsWith_36 : decode cX12_waitsWith 36 = .ok (.iadd, 1) := by decide +kernel
theorem dX12_waitsWith_37 : decode cX12_waitsWith 37 = .ok (.putfield 168, 3) := by decide +kernel
theorem dX12_waitsWith_40 : decode cX12_waitsWith 40 = .ok (.return_, 1) := by decide +kernel
def f_X12_waitsWith (M : q_Mem) (a0 : Nat) (a1 : Int32) (a2 : Int32) (a3 : Int32) : Option q_Mem :=
  q_ob 11 M a0 ((q_gR 11 9 M a0).bind fun v1 =>
  (q_gI 11 8 M a0).bind fun v3 =>
  (q_tI M v1 v3 a1).bind fun M5 =>
  (q_gR 11 10 M5 a0).bind fun v7 =>
  (q_gI 11 8 M5 a0).bind fun v9 =>
  (q_tI M5 v7 v9 a2).bind fun M11 =>
  (q_gR 11 11 M11 a0).bind fun v13 =>
  (q_gI 11 8 M11 a0).bind fun v15 =>
  (q_tI M11 v13 v15 a3).bind fun M17 =>
  (q_gI 11 8 M17 a0).bind fun v19 =>
  (q_pI 11 8 M17 a0 (v19 + (1 : Int32))).bind fun M21 =>
  some M21)
set_option maxRecDepth 20000 in
theorem m_X12_waitsWith {M : q_Mem} {a0 : Nat} {a1 : Int32} {a2 : Int32} {a3 : Int32} {x : q_Mem} (h : f_X12_waitsWith M a0 a1 a2 a3 = some x) : q_C Y_X12_waitsWith [.ref a0, .int a1, .int a2, .int a3] M none x := by
  refine q_met (φ := (fun x : q_Mem => (none, x))) (r := f_X12_waitsWith M a0 a1 a2 a3) (by decide +kernel) (Nat.le_of_ble_eq_true rfl) ?_ h (fun _ _ => rfl)
  show q_V Y_X12_waitsWith none (fun x : q_Mem => (none, x)) 0 0 0 [(0, .ref a0), (1, .int a1), (2, .int a2), (3, .int a3)] [] M (f_X12_waitsWith M a0 a1 a2 a3)
  unfold f_X12_waitsWith
  refine q_obV ?_
  refine q_aload_n 0 dX12_waitsWith_0 rfl ?_
  refine q_getR (f := 9) cl_X12 (by decide) qw_1126 rfl dX12_waitsWith_1 (fun _ _ _ => rfl) (fun v1 h2 => ?_)
  refine q_aload_n 0 dX12_waitsWith_4 rfl ?_
  refine q_getI (f := 8) cl_X12 (by decide) qw_1125 rfl dX12_waitsWith_5 (Or.inl rfl) (fun v3 h4 => ?_)
  refine q_iload_n 1 dX12_waitsWith_8 rfl ?_
  refine q_iast dX12_waitsWith_9 (fun M5 h6 => ?_)
  refine q_aload_n 0 dX12_waitsWith_10 rfl ?_
  refine q_getR (f := 10) cl_X12 (by decide) qw_1127 rfl dX12_waitsWith_11 (fun _ _ _ => rfl) (fun v7 h8 => ?_)
  refine q_aload_n 0 dX12_waitsWith_14 rfl ?_
  refine q_getI (f := 8) cl_X12 (by decide) qw_1125 rfl dX12_waitsWith_15 (Or.inl rfl) (fun v9 h10 => ?_)
  refine q_iload_n 2 dX12_waitsWith_18 rfl ?_
  refine q_iast dX12_waitsWith_19 (fun M11 h12 => ?_)
  refine q_aload_n 0 dX12_waitsWith_20 rfl ?_
  refine q_getR (f := 11) cl_X12 (by decide) qw_1128 rfl dX12_waitsWith_21 (fun _ _ _ => rfl) (fun v13 h14 => ?_)
  refine q_aload_n 0 dX12_waitsWith_24 rfl ?_
  refine q_getI (f := 8) cl_X12 (by decide) qw_1125 rfl dX12_waitsWith_25 (Or.inl rfl) (fun v15 h16 => ?_)
  refine q_iload_n 3 dX12_waitsWith_28 rfl ?_
  refine q_iast dX12_waitsWith_29 (fun M17 h18 => ?_)
  refine q_aload_n 0 dX12_waitsWith_30 rfl ?_
  refine q_dup dX12_waitsWith_31 rfl ?_
  refine q_getI (f := 8) cl_X12 (by decide) qw_1125 rfl dX12_waitsWith_32 (Or.inl rfl) (fun v19 h20 => ?_)
  refine q_iconst (x := (1 : Int32)) dX12_waitsWith_35 rfl ?_
  refine q_iadd dX12_waitsWith_36 ?_
  refine q_putI (f := 8) cl_X12 (by decide) qw_1125 rfl (Or.inl rfl) dX12_waitsWith_37 rfl (fun M21 h22 => ?_)
  exact q_vret dX12_waitsWith_40 rfl rfl (Nat.le_of_ble_eq_true rfl) rfl
theorem dX12_holds_0 : decode cX12_holds 0 = .ok (.iload_n 0, 1) := by decide +kernel
theorem dX12_holds_1 : decode cX12_holds 1 = .ok (.lookupswitch 125 #[(33, 99), (38, 121), (42, 105), (43, 111), (45, 113), (47, 108), (60, 115), (61, 119), (62, 117), (124, 123), (126, 102)], 99) := by decide +kernel
theorem dX12_holds_100 : decode cX12_holds 100 = .ok (.bipush 7, 2) := by decide +kernel
theorem dX12_holds_102 : decode cX12_holds 102 = .ok (.ireturn, 1) := by decide +kernel
theorem dX12_holds_103 : decode cX12_holds 103 = .ok (.bipush 7, 2) := by decide +kernel
theorem dX12_holds_105 : decode cX12_holds 105 = .ok (.ireturn, 1) := by decide +kernel
theorem dX12_holds_106 : decode cX12_holds 106 = .ok (.bipush 6, 2) := by decide +kernel
theorem dX12_holds_108 : decode cX12_holds 108 = .ok (.ireturn, 1) := by decide +kernel
theorem dX12_holds_109 : decode cX12_holds 109 = .ok (.bipush 6, 2) := by decide +kernel
theorem dX12_holds_111 : decode cX12_holds 111 = .ok (.ireturn, 1) := by decide +kernel
theorem dX12_holds_112 : decode cX12_holds 112 = .ok (.iconst 5, 1) := by decide +kernel
theorem dX12_holds_113 : decode cX12_holds 113 = .ok (.ireturn, 1) := by decide +kernel
theorem dX12_holds_114 : decode cX12_holds 114 = .ok (.iconst 5, 1) := by decide +kernel
theorem dX12_holds_115 : decode cX12_holds 115 = .ok (.ireturn, 1) := by decide +kernel
theorem dX12_holds_116 : decode cX12_holds 116 = .ok (.iconst 4, 1) := by decide +kernel
theorem dX12_holds_117 : decode cX12_holds 117 = .ok (.ireturn, 1) := by decide +kernel
theorem dX12_holds_118 : decode cX12_holds 118 = .ok (.iconst 4, 1) := by decide +kernel
theorem dX12_holds_119 : decode cX12_holds 119 = .ok (.ireturn, 1) := by decide +kernel
theorem dX12_holds_120 : decode cX12_holds 120 = .ok (.iconst 4, 1) := by decide +kernel
theorem dX12_holds_121 : decode cX12_holds 121 = .ok (.ireturn, 1) := by decide +kernel
theorem dX12_holds_122 : decode cX12_holds 122 = .ok (.iconst 3, 1) := by decide +kernel
theorem dX12_holds_123 : decode cX12_holds 123 = .ok (.ireturn, 1) := by decide +kernel
theorem dX12_holds_124 : decode cX12_holds 124 = .ok (.iconst 2, 1) := by decide +kernel
theorem dX12_holds_125 : decode cX12_holds 125 = .ok (.ireturn, 1) := by decide +kernel
theorem dX12_holds_126 : decode cX12_holds 126 = .ok (.iconst 0, 1) := by decide +kernel
theorem dX12_holds_127 : decode cX12_holds 127 = .ok (.ireturn, 1) := by decide +kernel
def f_X12_holds (M : q_Mem) (a0 : Int32) : Option Int32 :=
  (if a0 = 33 then
    some (7 : Int32)
  else
    (if a0 = 38 then
      some (3 : Int32)
    else
      (if a0 = 42 then
        some (6 : Int32)
      else
        (if a0 = 43 then
          some (5 : Int32)
        else
          (if a0 = 45 then
            some (5 : Int32)
          else
            (if a0 = 47 then
              some (6 : Int32)
            else
              (if a0 = 60 then
                some (4 : Int32)
              else
                (if a0 = 61 then
                  some (4 : Int32)
                else
                  (if a0 = 62 then
                    some (4 : Int32)
                  else
                    (if a0 = 124 then
                      some (2 : Int32)
                    else
                      (if a0 = 126 then
                        some (7 : Int32)
                      else
                        some (0 : Int32))))))))))))
set_option maxRecDepth 20000 in
theorem m_X12_holds {M : q_Mem} {a0 : Int32} {x : Int32} (h : f_X12_holds M a0 = some x) : q_C Y_X12_holds [.int a0] M (some (.int x)) M := by
  refine q_met (φ := (fun x : Int32 => (some (.int x), M))) (r := f_X12_holds M a0) (by decide +kernel) (Nat.le_of_ble_eq_true rfl) ?_ h (fun _ _ => rfl)
  show q_V Y_X12_holds none (fun x : Int32 => (some (.int x), M)) 0 0 0 [(0, .int a0)] [] M (f_X12_holds M a0)
  unfold f_X12_holds
  refine q_iload_n 0 dX12_holds_0 rfl ?_
  refine q_ifV (fun c1 => ?_) (fun c1 => ?_)
  · refine q_look (off := 99) (tgt := 100) dX12_holds_1 (by decide) (by rw [c1]; rfl) (by decide) ?_
    refine q_bipush (x := (7 : Int32)) dX12_holds_100 rfl ?_
    exact q_iret dX12_holds_102 rfl rfl (Nat.le_of_ble_eq_true rfl) rfl
  · refine q_ifV (fun c2 => ?_) (fun c2 => ?_)
    · refine q_look (off := 121) (tgt := 122) dX12_holds_1 (by decide) (by rw [c2]; rfl) (by decide) ?_
      refine q_iconst (x := (3 : Int32)) dX12_holds_122 rfl ?_
      exact q_iret dX12_holds_123 rfl rfl (Nat.le_of_ble_eq_true rfl) rfl
    · refine q_ifV (fun c3 => ?_) (fun c3 => ?_)
      · refine q_look (off := 105) (tgt := 106) dX12_holds_1 (by decide) (by rw [c3]; rfl) (by decide) ?_
        refine q_bipush (x := (6 : Int32)) dX12_holds_106 rfl ?_
        exact q_iret dX12_holds_108 rfl rfl (Nat.le_of_ble_eq_true rfl) rfl
      · refine q_ifV (fun c4 => ?_) (fun c4 => ?_)
        · refine q_look (off := 111) (tgt := 112) dX12_holds_1 (by decide) (by rw [c4]; rfl) (by decide) ?_
          refine q_iconst (x := (5 : Int32)) dX12_holds_112 rfl ?_
          exact q_iret dX12_holds_113 rfl rfl (Nat.le_of_ble_eq_true rfl) rfl
        · refine q_ifV (fun c5 => ?_) (fun c5 => ?_)
          · refine q_look (off := 113) (tgt := 114) dX12_holds_1 (by decide) (by rw [c5]; rfl) (by decide) ?_
            refine q_iconst (x := (5 : Int32)) dX12_holds_114 rfl ?_
            exact q_iret dX12_holds_115 rfl rfl (Nat.le_of_ble_eq_true rfl) rfl
          · refine q_ifV (fun c6 => ?_) (fun c6 => ?_)
            · refine q_look (off := 108) (tgt := 109) dX12_holds_1 (by decide) (by rw [c6]; rfl) (by decide) ?_
              refine q_bipush (x := (6 : Int32)) dX12_holds_109 rfl ?_
              exact q_iret dX12_holds_111 rfl rfl (Nat.le_of_ble_eq_true rfl) rfl
            · refine q_ifV (fun c7 => ?_) (fun c7 => ?_)
              · refine q_look (off := 115) (tgt := 116) dX12_holds_1 (by decide) (by rw [c7]; rfl) (by decide) ?_
                refine q_iconst (x := (4 : Int32)) dX12_holds_116 rfl ?_
                exact q_iret dX12_holds_117 rfl rfl (Nat.le_of_ble_eq_true rfl) rfl
              · refine q_ifV (fun c8 => ?_) (fun c8 => ?_)
                · refine q_look (off := 119) (tgt := 120) dX12_holds_1 (by decide) (by rw [c8]; rfl) (by decide) ?_
                  refine q_iconst (x := (4 : Int32)) dX12_holds_120 rfl ?_
                  exact q_iret dX12_holds_121 rfl rfl (Nat.le_of_ble_eq_true rfl) rfl
                · refine q_ifV (fun c9 => ?_) (fun c9 => ?_)
                  · refine q_look (off := 117) (tgt := 118) dX12_holds_1 (by decide) (by rw [c9]; rfl) (by decide) ?_
                    refine q_iconst (x := (4 : Int32)) dX12_holds_118 rfl ?_
                    exact q_iret dX12_holds_119 rfl rfl (Nat.le_of_ble_eq_true rfl) rfl
                  · refine q_ifV (fun c10 => ?_) (fun c10 => ?_)
                    · refine q_look (off := 123) (tgt := 124) dX12_holds_1 (by decide) (by rw [c10]; rfl) (by decide) ?_
                      refine q_iconst (x := (2 : Int32)) dX12_holds_124 rfl ?_
                      exact q_iret dX12_holds_125 rfl rfl (Nat.le_of_ble_eq_true rfl) rfl
                    · refine q_ifV (fun c11 => ?_) (fun c11 => ?_)
                      · refine q_look (off := 102) (tgt := 103) dX12_holds_1 (by decide) (by rw [c11]; rfl) (by decide) ?_
                        refine q_bipush (x := (7 : Int32)) dX12_holds_103 rfl ?_
                        exact q_iret dX12_holds_105 rfl rfl (Nat.le_of_ble_eq_true rfl) rfl
                      · refine q_look (tgt := 126) dX12_holds_1 (by decide) (q_lookD (fun q hq => by
                            simp only [List.mem_cons, List.not_mem_nil, or_false] at hq
                            rcases hq with rfl | rfl | rfl | rfl | rfl | rfl | rfl | rfl | rfl | rfl | rfl
                            · exact q_nlit c1 rfl
                            · exact q_nlit c2 rfl
                            · exact q_nlit c3 rfl
                            · exact q_nlit c4 rfl
                            · exact q_nlit c5 rfl
                            · exact q_nlit c6 rfl
                            · exact q_nlit c7 rfl
                            · exact q_nlit c8 rfl
                            · exact q_nlit c9 rfl
                            · exact q_nlit c10 rfl
                            · exact q_nlit c11 rfl)) (by decide) ?_
                        refine q_iconst (x := (0 : Int32)) dX12_holds_126 rfl ?_
                        exact q_iret dX12_holds_127 rfl rfl (Nat.le_of_ble_eq_true rfl) rfl
theorem dX12_stepOf_0 : decode cX12_stepOf 0 = .ok (.iload_n 0, 1) := by decide +kernel
theorem dX12_stepOf_1 : decode cX12_stepOf 1 = .ok (.lookupswitch 95 #[(33, 75), (42, 79), (43, 83), (45, 86), (47, 81), (60, 89), (62, 92), (126, 77)], 75) := by decide +kernel
theorem dX12_stepOf_76 : decode cX12_stepOf 76 = .ok (.iconst 2, 1) := by decide +kernel
theorem dX12_stepOf_77 : decode cX12_stepOf 77 = .ok (.ireturn, 1) := by decide +kernel
theorem dX12_stepOf_78 : decode cX12_stepOf 78 = .ok (.iconst 3, 1) := by decide +kernel
theorem dX12_stepOf_79 : decode cX12_stepOf 79 = .ok (.ireturn, 1) := by decide +kernel
theorem dX12_stepOf_80 : decode cX12_stepOf 80 = .ok (.iconst 4, 1) := by decide +kernel
theorem dX12_stepOf_81 : decode cX12_stepOf 81 = .ok (.ireturn, 1) := by decide +kernel
theorem dX12_stepOf_82 : decode cX12_stepOf 82 = .ok (.iconst 5, 1) := by decide +kernel
theorem dX12_stepOf_83 : decode cX12_stepOf 83 = .ok (.ireturn, 1) := by decide +kernel
theorem dX12_stepOf_84 : decode cX12_stepOf 84 = .ok (.bipush 6, 2) := by decide +kernel
theorem dX12_stepOf_86 : decode cX12_stepOf 86 = .ok (.ireturn, 1) := by decide +kernel
theorem dX12_stepOf_87 : decode cX12_stepOf 87 = .ok (.bipush 7, 2) := by decide +kernel
theorem dX12_stepOf_89 : decode cX12_stepOf 89 = .ok (.ireturn, 1) := by decide +kernel
theorem dX12_stepOf_90 : decode cX12_stepOf 90 = .ok (.bipush 8, 2) := by decide +kernel
theorem dX12_stepOf_92 : decode cX12_stepOf 92 = .ok (.ireturn, 1) := by decide +kernel
theorem dX12_stepOf_93 : decode cX12_stepOf 93 = .ok (.bipush 9, 2) := by decide +kernel
theorem dX12_stepOf_95 : decode cX12_stepOf 95 = .ok (.ireturn, 1) := by decide +kernel
theorem dX12_stepOf_96 : decode cX12_stepOf 96 = .ok (.bipush 10, 2) := by decide +kernel
theorem dX12_stepOf_98 : decode cX12_stepOf 98 = .ok (.ireturn, 1) := by decide +kernel
def f_X12_stepOf (M : q_Mem) (a0 : Int32) : Option Int32 :=
  (if a0 = 33 then
    some (2 : Int32)
  else
    (if a0 = 42 then
      some (4 : Int32)
    else
      (if a0 = 43 then
        some (6 : Int32)
      else
        (if a0 = 45 then
          some (7 : Int32)
        else
          (if a0 = 47 then
            some (5 : Int32)
          else
            (if a0 = 60 then
              some (8 : Int32)
            else
              (if a0 = 62 then
                some (9 : Int32)
              else
                (if a0 = 126 then
                  some (3 : Int32)
                else
                  some (10 : Int32)))))))))
set_option maxRecDepth 20000 in
theorem m_X12_stepOf {M : q_Mem} {a0 : Int32} {x : Int32} (h : f_X12_stepOf M a0 = some x) : q_C Y_X12_stepOf [.int a0] M (some (.int x)) M := by
  refine q_met (φ := (fun x : Int32 => (some (.int x), M))) (r := f_X12_stepOf M a0) (by decide +kernel) (Nat.le_of_ble_eq_true rfl) ?_ h (fun _ _ => rfl)
  show q_V Y_X12_stepOf none (fun x : Int32 => (some (.int x), M)) 0 0 0 [(0, .int a0)] [] M (f_X12_stepOf M a0)
  unfold f_X12_stepOf
  refine q_iload_n 0 dX12_stepOf_0 rfl ?_
  refine q_ifV (fun c1 => ?_) (fun c1 => ?_)
  · refine q_look (off := 75) (tgt := 76) dX12_stepOf_1 (by decide) (by rw [c1]; rfl) (by decide) ?_
    refine q_iconst (x := (2 : Int32)) dX12_stepOf_76 rfl ?_
    exact q_iret dX12_stepOf_77 rfl rfl (Nat.le_of_ble_eq_true rfl) rfl
  · refine q_ifV (fun c2 => ?_) (fun c2 => ?_)
    · refine q_look (off := 79) (tgt := 80) dX12_stepOf_1 (by decide) (by rw [c2]; rfl) (by decide) ?_
      refine q_iconst (x := (4 : Int32)) dX12_stepOf_80 rfl ?_
      exact q_iret dX12_stepOf_81 rfl rfl (Nat.le_of_ble_eq_true rfl) rfl
    · refine q_ifV (fun c3 => ?_) (fun c3 => ?_)
      · refine q_look (off := 83) (tgt := 84) dX12_stepOf_1 (by decide) (by rw [c3]; rfl) (by decide) ?_
        refine q_bipush (x := (6 : Int32)) dX12_stepOf_84 rfl ?_
        exact q_iret dX12_stepOf_86 rfl rfl (Nat.le_of_ble_eq_true rfl) rfl
      · refine q_ifV (fun c4 => ?_) (fun c4 => ?_)
        · refine q_look (off := 86) (tgt := 87) dX12_stepOf_1 (by decide) (by rw [c4]; rfl) (by decide) ?_
          refine q_bipush (x := (7 : Int32)) dX12_stepOf_87 rfl ?_
          exact q_iret dX12_stepOf_89 rfl rfl (Nat.le_of_ble_eq_true rfl) rfl
        · refine q_ifV (fun c5 => ?_) (fun c5 => ?_)
          · refine q_look (off := 81) (tgt := 82) dX12_stepOf_1 (by decide) (by rw [c5]; rfl) (by decide) ?_
            refine q_iconst (x := (5 : Int32)) dX12_stepOf_82 rfl ?_
            exact q_iret dX12_stepOf_83 rfl rfl (Nat.le_of_ble_eq_true rfl) rfl
          · refine q_ifV (fun c6 => ?_) (fun c6 => ?_)
            · refine q_look (off := 89) (tgt := 90) dX12_stepOf_1 (by decide) (by rw [c6]; rfl) (by decide) ?_
              refine q_bipush (x := (8 : Int32)) dX12_stepOf_90 rfl ?_
              exact q_iret dX12_stepOf_92 rfl rfl (Nat.le_of_ble_eq_true rfl) rfl
            · refine q_ifV (fun c7 => ?_) (fun c7 => ?_)
              · refine q_look (off := 92) (tgt := 93) dX12_stepOf_1 (by decide) (by rw [c7]; rfl) (by decide) ?_
                refine q_bipush (x := (9 : Int32)) dX12_stepOf_93 rfl ?_
                exact q_iret dX12_stepOf_95 rfl rfl (Nat.le_of_ble_eq_true rfl) rfl
              · refine q_ifV (fun c8 => ?_) (fun c8 => ?_)
                · refine q_look (off := 77) (tgt := 78) dX12_stepOf_1 (by decide) (by rw [c8]; rfl) (by decide) ?_
                  refine q_iconst (x := (3 : Int32)) dX12_stepOf_78 rfl ?_
                  exact q_iret dX12_stepOf_79 rfl rfl (Nat.le_of_ble_eq_true rfl) rfl
                · refine q_look (tgt := 96) dX12_stepOf_1 (by decide) (q_lookD (fun q hq => by
                      simp only [List.mem_cons, List.not_mem_nil, or_false] at hq
                      rcases hq with rfl | rfl | rfl | rfl | rfl | rfl | rfl | rfl
                      · exact q_nlit c1 rfl
                      · exact q_nlit c2 rfl
                      · exact q_nlit c3 rfl
                      · exact q_nlit c4 rfl
                      · exact q_nlit c5 rfl
                      · exact q_nlit c6 rfl
                      · exact q_nlit c7 rfl
                      · exact q_nlit c8 rfl)) (by decide) ?_
                  refine q_bipush (x := (10 : Int32)) dX12_stepOf_96 rfl ?_
                  exact q_iret dX12_stepOf_98 rfl rfl (Nat.le_of_ble_eq_true rfl) rfl
theorem dX12_settles_0 : decode cX12_settles 0 = .ok (.aload_n 0, 1) := by decide +kernel
theorem dX12_settles_1 : decode cX12_settles 1 = .ok (.getfield 168, 3) := by decide +kernel
theorem dX12_settles_4 : decode cX12_settles 4 = .ok (.ifCond .le 95, 3) := by decide +kernel
theorem dX12_settles_7 : decode cX12_settles 7 = .ok (.aload_n 0, 1) := by decide +kernel
theorem dX12_settles_8 : decode cX12_settles 8 = .ok (.getfield 32, 3) := by decide +kernel
theorem dX12_settles_11 : decode cX12_settles 11 = .ok (.aload_n 0, 1) := by decide +kernel
theorem dX12_settles_12 : decode cX12_settles 12 = .ok (.getfield 168, 3) := by decide +kernel
theorem dX12_settles_15 : decode cX12_settles 15 = .ok (.iconst 1, 1) := by decide +kernel
theorem dX12_settles_16 : decode cX12_settles 16 = .ok (.isub, 1) := by decide +kernel
theorem dX12_settles_17 : decode cX12_settles 17 = .ok (.iaload, 1) := by decide +kernel
theorem dX12_settles_18 : decode cX12_settles 18 = .ok (.invokestatic 171, 3) := by decide +kernel
theorem dX12_settles_21 : decode cX12_settles 21 = .ok (.iload_n 1, 1) := by decide +kernel
theorem dX12_settles_22 : decode cX12_settles 22 = .ok (.if_icmp .lt 77, 3) := by decide +kernel
theorem dX12_settles_25 : decode cX12_settles 25 = .ok (.aload_n 0, 1) := by decide +kernel
theorem dX12_settles_26 : decode cX12_settles 26 = .ok (.dup, 1) := by decide +kernel
theorem dX12_settles_27 : decode cX12_settles 27 = .ok (.getfield 168, 3) := by decide +kernel
theorem dX12_settles_30 : decode cX12_settles 30 = .ok (.iconst 1, 1) := by decide +kernel
theorem dX12_settles_31 : decode cX12_settles 31 = .ok (.isub, 1) := by decide +kernel
theorem dX12_settles_32 : decode cX12_settles 32 = .ok (.putfield 168, 3) := by decide +kernel
theorem dX12_settles_35 : decode cX12_settles 35 = .ok (.aload_n 0, 1) := by decide +kernel
theorem dX12_settles_36 : decode cX12_settles 36 = .ok (.getfield 32, 3) := by decide +kernel
theorem dX12_settles_39 : decode cX12_settles 39 = .ok (.aload_n 0, 1) := by decide +kernel
theorem dX12_settles_40 : decode cX12_settles 40 = .ok (.getfield 168, 3) := by decide +kernel
theorem dX12_settles_43 : decode cX12_settles 43 = .ok (.iaload, 1) := by decide +kernel
theorem dX12_settles_44 : decode cX12_settles 44 = .ok (.istore_n 2, 1) := by decide +kernel
theorem dX12_settles_45 : decode cX12_settles 45 = .ok (.iload_n 2, 1) := by decide +kernel
theorem dX12_settles_46 : decode cX12_settles 46 = .ok (.bipush 38, 2) := by decide +kernel
theorem dX12_settles_48 : decode cX12_settles 48 = .ok (.if_icmp .eq 9, 3) := by decide +kernel
theorem dX12_settles_51 : decode cX12_settles 51 = .ok (.iload_n 2, 1) := by decide +kernel
theorem dX12_settles_52 : decode cX12_settles 52 = .ok (.bipush 124, 2) := by decide +kernel
theorem dX12_settles_54 : decode cX12_settles 54 = .ok (.if_icmp .ne 32, 3) := by decide +kernel
theorem dX12_settles_57 : decode cX12_settles 57 = .ok (.aload_n 0, 1) := by decide +kernel
theorem dX12_settles_58 : decode cX12_settles 58 = .ok (.bipush 11, 2) := by decide +kernel
theorem dX12_settles_60 : decode cX12_settles 60 = .ok (.iconst 0, 1) := by decide +kernel
theorem dX12_settles_61 : decode cX12_settles 61 = .ok (.invokevirtual 174, 3) := by decide +kernel
theorem dX12_settles_64 : decode cX12_settles 64 = .ok (.pop, 1) := by decide +kernel
theorem dX12_settles_65 : decode cX12_settles 65 = .ok (.aload_n 0, 1) := by decide +kernel
theorem dX12_settles_66 : decode cX12_settles 66 = .ok (.getfield 26, 3) := by decide +kernel
theorem dX12_settles_69 : decode cX12_settles 69 = .ok (.aload_n 0, 1) := by decide +kernel
theorem dX12_settles_70 : decode cX12_settles 70 = .ok (.getfield 35, 3) := by decide +kernel
theorem dX12_settles_73 : decode cX12_settles 73 = .ok (.aload_n 0, 1) := by decide +kernel
theorem dX12_settles_74 : decode cX12_settles 74 = .ok (.getfield 168, 3) := by decide +kernel
theorem dX12_settles_77 : decode cX12_settles 77 = .ok (.iaload, 1) := by decide +kernel
theorem dX12_settles_78 : decode cX12_settles 78 = .ok (.aload_n 0, 1) := by decide +kernel
theorem dX12_settles_79 : decode cX12_settles 79 = .ok (.getfield 164, 3) := by decide +kernel
theorem dX12_settles_82 : decode cX12_settles 82 = .ok (.iastore, 1) := by decide +kernel
theorem dX12_settles_83 : decode cX12_settles 83 = .ok (.goto 13, 3) := by decide +kernel
theorem dX12_settles_86 : decode cX12_settles 86 = .ok (.aload_n 0, 1) := by decide +kernel
theorem dX12_settles_87 : decode cX12_settles 87 = .ok (.iload_n 2, 1) := by decide +kernel
theorem dX12_settles_88 : decode cX12_settles 88 = .ok (.invokestatic 177, 3) := by decide +kernel
theorem dX12_settles_91 : decode cX12_settles 91 = .ok (.iconst 0, 1) := by decide +kernel
theorem dX12_settles_92 : decode cX12_settles 92 = .ok (.invokevirtual 174, 3) := by decide +kernel
theorem dX12_settles_95 : decode cX12_settles 95 = .ok (.pop, 1) := by decide +kernel
theorem dX12_settles_96 : decode cX12_settles 96 = .ok (.goto (-96), 3) := by decide +kernel
theorem dX12_settles_99 : decode cX12_settles 99 = .ok (.return_, 1) := by decide +kernel
def f_X12_settles_b57 (kk0 : q_Mem → Option q_Mem) (M : q_Mem) (a0 : Nat) (a1 : Int32) : Option q_Mem :=
  (f_X12_emits M a0 (11 : Int32) (0 : Int32)).bind fun r30 =>
  (q_gR 11 6 r30.2 a0).bind fun v31 =>
  (q_gR 11 10 r30.2 a0).bind fun v33 =>
  (q_gI 11 8 r30.2 a0).bind fun v35 =>
  (q_lI r30.2 v33 v35).bind fun v37 =>
  (q_gI 11 4 r30.2 a0).bind fun v39 =>
  (q_tI r30.2 v31 v37 v39).bind fun M41 =>
  kk0 M41
def f_X12_settles_b0 (a0 : Nat) (a1 : Int32) : Nat → q_Mem → Option q_Mem
  | 0, _ => none
  | n + 1, M =>
    (q_gI 11 8 M a0).bind fun v1 =>
    (if 0 < v1 then
      (q_gR 11 9 M a0).bind fun v3 =>
      (q_gI 11 8 M a0).bind fun v5 =>
      (q_lI M v3 (v5 - (1 : Int32))).bind fun v7 =>
      (f_X12_holds M v7).bind fun v10 =>
      (if v10 < a1 then
        some M
      else
        (q_gI 11 8 M a0).bind fun v11 =>
        (q_pI 11 8 M a0 (v11 - (1 : Int32))).bind fun M13 =>
        (q_gR 11 9 M13 a0).bind fun v15 =>
        (q_gI 11 8 M13 a0).bind fun v17 =>
        (q_lI M13 v15 v17).bind fun v19 =>
        (if v19 = (38 : Int32) then
          f_X12_settles_b57 (f_X12_settles_b0 a0 a1 n) M13 a0 a1
        else
          (if v19 = (124 : Int32) then
            f_X12_settles_b57 (f_X12_settles_b0 a0 a1 n) M13 a0 a1
          else
            (f_X12_stepOf M13 v19).bind fun v22 =>
            (f_X12_emits M13 a0 v22 (0 : Int32)).bind fun r24 =>
            f_X12_settles_b0 a0 a1 n r24.2)))
    else
      some M)
def f_X12_settles (M : q_Mem) (a0 : Nat) (a1 : Int32) : Option q_Mem :=
  q_ob 11 M a0 (f_X12_settles_b0 a0 a1 q_fuel M)
set_option maxRecDepth 20000 in
theorem v_X12_settles_b57 {kk0 : q_Mem → Option q_Mem} {M : q_Mem} {a0 : Nat} {a1 : Int32}  (hk0 : ∀  (M : q_Mem), q_V Y_X12_settles none (fun x : q_Mem => (none, x)) 0 0 0 [(0, .ref a0), (1, .int a1)] [] M (kk0 M)): q_V Y_X12_settles none (fun x : q_Mem => (none, x)) 0 0 57 [(0, .ref a0), (1, .int a1)] [] M (f_X12_settles_b57 kk0 M a0 a1 ) := by
  unfold f_X12_settles_b57
  refine q_aload_n 0 dX12_settles_57 rfl ?_
  refine q_bipush (x := (11 : Int32)) dX12_settles_58 rfl ?_
  refine q_iconst (x := (0 : Int32)) dX12_settles_60 rfl ?_
  refine q_cVMI (Y2 := Y_X12_emits) (As := [.int (11 : Int32), .int (0 : Int32)]) (b := a0) (st := []) cl_X12 mv_X12_emits qw_1414 dX12_settles_61 ⟨Nat.le_of_ble_eq_true rfl, Nat.le_of_ble_eq_true rfl⟩ rfl (fun _ _ => rfl) (Nat.le_of_ble_eq_true rfl) ⟨Nat.le_of_ble_eq_true rfl, Nat.le_of_ble_eq_true rfl⟩ (fun r30 h29 => q_ob_is h29) (fun r30 h29 => m_X12_emits h29) (fun r30 h29 => ?_)
  refine q_pop dX12_settles_64 rfl ?_
  refine q_aload_n 0 dX12_settles_65 rfl ?_
  refine q_getR (f := 6) cl_X12 (by decide) qw_1123 rfl dX12_settles_66 (fun _ _ _ => rfl) (fun v31 h32 => ?_)
  refine q_aload_n 0 dX12_settles_69 rfl ?_
  refine q_getR (f := 10) cl_X12 (by decide) qw_1127 rfl dX12_settles_70 (fun _ _ _ => rfl) (fun v33 h34 => ?_)
  refine q_aload_n 0 dX12_settles_73 rfl ?_
  refine q_getI (f := 8) cl_X12 (by decide) qw_1125 rfl dX12_settles_74 (Or.inl rfl) (fun v35 h36 => ?_)
  refine q_iald dX12_settles_77 (fun v37 h38 => ?_)
  refine q_aload_n 0 dX12_settles_78 rfl ?_
  refine q_getI (f := 4) cl_X12 (by decide) qw_1121 rfl dX12_settles_79 (Or.inl rfl) (fun v39 h40 => ?_)
  refine q_iast dX12_settles_82 (fun M41 h42 => ?_)
  refine q_goto (tgt := 96) dX12_settles_83 (by decide) ?_
  refine q_goto (tgt := 0) dX12_settles_96 (by decide) ?_
  exact hk0 _
set_option maxRecDepth 20000 in
theorem v_X12_settles_b0 {a0 : Nat} {a1 : Int32}  : ∀ (n : Nat) (M : q_Mem), q_V Y_X12_settles none (fun x : q_Mem => (none, x)) 0 0 0 [(0, .ref a0), (1, .int a1)] [] M (f_X12_settles_b0 a0 a1 n M) := by
  intro n
  induction n with
  | zero => intro M; exact q_none
  | succ n ih =>
    intro M
    rw [f_X12_settles_b0.eq_2]
    refine q_aload_n 0 dX12_settles_0 rfl ?_
    refine q_getI (f := 8) cl_X12 (by decide) qw_1125 rfl dX12_settles_1 (Or.inl rfl) (fun v1 h2 => ?_)
    refine q_if_le (tgt := 99) dX12_settles_4 (by decide) (fun c28 => ?_) (fun c28 => ?_)
    · refine q_aload_n 0 dX12_settles_7 rfl ?_
      refine q_getR (f := 9) cl_X12 (by decide) qw_1126 rfl dX12_settles_8 (fun _ _ _ => rfl) (fun v3 h4 => ?_)
      refine q_aload_n 0 dX12_settles_11 rfl ?_
      refine q_getI (f := 8) cl_X12 (by decide) qw_1125 rfl dX12_settles_12 (Or.inl rfl) (fun v5 h6 => ?_)
      refine q_iconst (x := (1 : Int32)) dX12_settles_15 rfl ?_
      refine q_isub dX12_settles_16 ?_
      refine q_iald dX12_settles_17 (fun v7 h8 => ?_)
      refine q_cSI (Y2 := Y_X12_holds) (As := [.int v7]) (st := []) ms_X12_holds qw_1403 dX12_settles_18 ⟨Nat.le_of_ble_eq_true rfl, Nat.le_of_ble_eq_true rfl⟩ rfl (fun _ _ => rfl) (Nat.le_of_ble_eq_true rfl) ⟨Nat.le_of_ble_eq_true rfl, Nat.le_of_ble_eq_true rfl⟩ (fun v10 h9 => m_X12_holds h9) (fun v10 h9 => ?_)
      refine q_iload_n 1 dX12_settles_21 rfl ?_
      refine q_icmp_lt (tgt := 99) dX12_settles_22 (by decide) (fun c27 => ?_) (fun c27 => ?_)
      · exact q_vret dX12_settles_99 rfl rfl (Nat.le_of_ble_eq_true rfl) rfl
      · refine q_aload_n 0 dX12_settles_25 rfl ?_
        refine q_dup dX12_settles_26 rfl ?_
        refine q_getI (f := 8) cl_X12 (by decide) qw_1125 rfl dX12_settles_27 (Or.inl rfl) (fun v11 h12 => ?_)
        refine q_iconst (x := (1 : Int32)) dX12_settles_30 rfl ?_
        refine q_isub dX12_settles_31 ?_
        refine q_putI (f := 8) cl_X12 (by decide) qw_1125 rfl (Or.inl rfl) dX12_settles_32 rfl (fun M13 h14 => ?_)
        refine q_aload_n 0 dX12_settles_35 rfl ?_
        refine q_getR (f := 9) cl_X12 (by decide) qw_1126 rfl dX12_settles_36 (fun _ _ _ => rfl) (fun v15 h16 => ?_)
        refine q_aload_n 0 dX12_settles_39 rfl ?_
        refine q_getI (f := 8) cl_X12 (by decide) qw_1125 rfl dX12_settles_40 (Or.inl rfl) (fun v17 h18 => ?_)
        refine q_iald dX12_settles_43 (fun v19 h20 => ?_)
        refine q_istore_n (ls' := [(2, .int v19), (0, .ref a0), (1, .int a1)]) dX12_settles_44 (by decide) rfl ?_
        refine q_iload_n 0 dX12_settles_45 rfl ?_
        refine q_bipush (x := (38 : Int32)) dX12_settles_46 rfl ?_
        refine q_icmp_eq (tgt := 57) dX12_settles_48 (by decide) (fun c26 => ?_) (fun c26 => ?_)
        · refine q_sub (ls' := [(0, .ref a0), (1, .int a1)]) [1, 2] rfl ?_
          exact v_X12_settles_b57 (ih)
        · refine q_iload_n 0 dX12_settles_51 rfl ?_
          refine q_bipush (x := (124 : Int32)) dX12_settles_52 rfl ?_
          refine q_icmp_ne (tgt := 86) dX12_settles_54 (by decide) (fun c25 => ?_) (fun c25 => ?_)
          · refine q_sub (ls' := [(0, .ref a0), (1, .int a1)]) [1, 2] rfl ?_
            exact v_X12_settles_b57 (ih)
          · refine q_aload_n 1 dX12_settles_86 rfl ?_
            refine q_iload_n 0 dX12_settles_87 rfl ?_
            refine q_cSI (Y2 := Y_X12_stepOf) (As := [.int v19]) (st := [.ref a0]) ms_X12_stepOf qw_1418 dX12_settles_88 ⟨Nat.le_of_ble_eq_true rfl, Nat.le_of_ble_eq_true rfl⟩ rfl (fun _ _ => rfl) (Nat.le_of_ble_eq_true rfl) ⟨Nat.le_of_ble_eq_true rfl, Nat.le_of_ble_eq_true rfl⟩ (fun v22 h21 => m_X12_stepOf h21) (fun v22 h21 => ?_)
            refine q_iconst (x := (0 : Int32)) dX12_settles_91 rfl ?_
            refine q_cVMI (Y2 := Y_X12_emits) (As := [.int v22, .int (0 : Int32)]) (b := a0) (st := []) cl_X12 mv_X12_emits qw_1414 dX12_settles_92 ⟨Nat.le_of_ble_eq_true rfl, Nat.le_of_ble_eq_true rfl⟩ rfl (fun _ _ => rfl) (Nat.le_of_ble_eq_true rfl) ⟨Nat.le_of_ble_eq_true rfl, Nat.le_of_ble_eq_true rfl⟩ (fun r24 h23 => q_ob_is h23) (fun r24 h23 => m_X12_emits h23) (fun r24 h23 => ?_)
            refine q_pop dX12_settles_95 rfl ?_
            refine q_goto (tgt := 0) dX12_settles_96 (by decide) ?_
            refine q_sub (ls' := [(0, .ref a0), (1, .int a1)]) [1, 2] rfl ?_
            exact ih _
    · exact q_vret dX12_settles_99 rfl rfl (Nat.le_of_ble_eq_true rfl) rfl
set_option maxRecDepth 20000 in
theorem m_X12_settles {M : q_Mem} {a0 : Nat} {a1 : Int32} {x : q_Mem} (h : f_X12_settles M a0 a1 = some x) : q_C Y_X12_settles [.ref a0, .int a1] M none x := by
  refine q_met (φ := (fun x : q_Mem => (none, x))) (r := f_X12_settles M a0 a1) (by decide +kernel) (Nat.le_of_ble_eq_true rfl) ?_ h (fun _ _ => rfl)
  show q_V Y_X12_settles none (fun x : q_Mem => (none, x)) 0 0 0 [(0, .ref a0), (1, .int a1)] [] M (f_X12_settles M a0 a1)
  unfold f_X12_settles
  refine q_obV ?_
  exact v_X12_settles_b0 _ _
theorem dX12_settlesChosen_0 : decode cX12_settlesChosen 0 = .ok (.aload_n 0, 1) := by decide +kernel
theorem dX12_settlesChosen_1 : decode cX12_settlesChosen 1 = .ok (.iconst 2, 1) := by decide +kernel
theorem dX12_settlesChosen_2 : decode cX12_settlesChosen 2 = .ok (.invokevirtual 180, 3) := by decide +kernel
theorem dX12_settlesChosen_5 : decode cX12_settlesChosen 5 = .ok (.aload_n 0, 1) := by decide +kernel
theorem dX12_settlesChosen_6 : decode cX12_settlesChosen 6 = .ok (.getfield 168, 3) := by decide +kernel
theorem dX12_settlesChosen_9 : decode cX12_settlesChosen 9 = .ok (.ifCond .le 68, 3) := by decide +kernel
theorem dX12_settlesChosen_12 : decode cX12_settlesChosen 12 = .ok (.aload_n 0, 1) := by decide +kernel
theorem dX12_settlesChosen_13 : decode cX12_settlesChosen 13 = .ok (.getfield 32, 3) := by decide +kernel
theorem dX12_settlesChosen_16 : decode cX12_settlesChosen 16 = .ok (.aload_n 0, 1) := by decide +kernel
theorem dX12_settlesChosen_17 : decode cX12_settlesChosen 17 = .ok (.getfield 168, 3) := by decide +kernel
theorem dX12_settlesChosen_20 : decode cX12_settlesChosen 20 = .ok (.iconst 1, 1) := by decide +kernel
theorem dX12_settlesChosen_21 : decode cX12_settlesChosen 21 = .ok (.isub, 1) := by decide +kernel
theorem dX12_settlesChosen_22 : decode cX12_settlesChosen 22 = .ok (.iaload, 1) := by decide +kernel
theorem dX12_settlesChosen_23 : decode cX12_settlesChosen 23 = .ok (.bipush 58, 2) := by decide +kernel
theorem dX12_settlesChosen_25 : decode cX12_settlesChosen 25 = .ok (.if_icmp .ne 52, 3) := by decide +kernel
theorem dX12_settlesChosen_28 : decode cX12_settlesChosen 28 = .ok (.aload_n 0, 1) := by decide +kernel
theorem dX12_settlesChosen_29 : decode cX12_settlesChosen 29 = .ok (.dup, 1) := by decide +kernel
theorem dX12_settlesChosen_30 : decode cX12_settlesChosen 30 = .ok (.getfield 168, 3) := by decide +kernel
theorem dX12_settlesChosen_33 : decode cX12_settlesChosen 33 = .ok (.iconst 1, 1) := by decide +kernel
theorem dX12_settlesChosen_34 : decode cX12_settlesChosen 34 = .ok (.isub, 1) := by decide +kernel
theorem dX12_settlesChosen_35 : decode cX12_settlesChosen 35 = .ok (.putfield 168, 3) := by decide +kernel
theorem dX12_settlesChosen_38 : decode cX12_settlesChosen 38 = .ok (.aload_n 0, 1) := by decide +kernel
theorem dX12_settlesChosen_39 : decode cX12_settlesChosen 39 = .ok (.getfield 26, 3) := by decide +kernel
theorem dX12_settlesChosen_42 : decode cX12_settlesChosen 42 = .ok (.aload_n 0, 1) := by decide +kernel
theorem dX12_settlesChosen_43 : decode cX12_settlesChosen 43 = .ok (.getfield 35, 3) := by decide +kernel
theorem dX12_settlesChosen_46 : decode cX12_settlesChosen 46 = .ok (.aload_n 0, 1) := by decide +kernel
theorem dX12_settlesChosen_47 : decode cX12_settlesChosen 47 = .ok (.getfield 168, 3) := by decide +kernel
theorem dX12_settlesChosen_50 : decode cX12_settlesChosen 50 = .ok (.iaload, 1) := by decide +kernel
theorem dX12_settlesChosen_51 : decode cX12_settlesChosen 51 = .ok (.aload_n 0, 1) := by decide +kernel
theorem dX12_settlesChosen_52 : decode cX12_settlesChosen 52 = .ok (.getfield 164, 3) := by decide +kernel
theorem dX12_settlesChosen_55 : decode cX12_settlesChosen 55 = .ok (.iastore, 1) := by decide +kernel
theorem dX12_settlesChosen_56 : decode cX12_settlesChosen 56 = .ok (.aload_n 0, 1) := by decide +kernel
theorem dX12_settlesChosen_57 : decode cX12_settlesChosen 57 = .ok (.getfield 29, 3) := by decide +kernel
theorem dX12_settlesChosen_60 : decode cX12_settlesChosen 60 = .ok (.aload_n 0, 1) := by decide +kernel
theorem dX12_settlesChosen_61 : decode cX12_settlesChosen 61 = .ok (.getfield 38, 3) := by decide +kernel
theorem dX12_settlesChosen_64 : decode cX12_settlesChosen 64 = .ok (.aload_n 0, 1) := by decide +kernel
theorem dX12_settlesChosen_65 : decode cX12_settlesChosen 65 = .ok (.getfield 168, 3) := by decide +kernel
theorem dX12_settlesChosen_68 : decode cX12_settlesChosen 68 = .ok (.iaload, 1) := by decide +kernel
theorem dX12_settlesChosen_69 : decode cX12_settlesChosen 69 = .ok (.aload_n 0, 1) := by decide +kernel
theorem dX12_settlesChosen_70 : decode cX12_settlesChosen 70 = .ok (.getfield 164, 3) := by decide +kernel
theorem dX12_settlesChosen_73 : decode cX12_settlesChosen 73 = .ok (.iastore, 1) := by decide +kernel
theorem dX12_settlesChosen_74 : decode cX12_settlesChosen 74 = .ok (.goto (-69), 3) := by decide +kernel
theorem dX12_settlesChosen_77 : decode cX12_settlesChosen 77 = .ok (.return_, 1) := by decide +kernel
def f_X12_settlesChosen_b5 (a0 : Nat) : Nat → q_Mem → Option q_Mem
  | 0, _ => none
  | n + 1, M =>
    (q_gI 11 8 M a0).bind fun v4 =>
    (if 0 < v4 then
      (q_gR 11 9 M a0).bind fun v6 =>
      (q_gI 11 8 M a0).bind fun v8 =>
      (q_lI M v6 (v8 - (1 : Int32))).bind fun v10 =>
      (if v10 = (58 : Int32) then
        (q_gI 11 8 M a0).bind fun v12 =>
        (q_pI 11 8 M a0 (v12 - (1 : Int32))).bind fun M14 =>
        (q_gR 11 6 M14 a0).bind fun v16 =>
        (q_gR 11 10 M14 a0).bind fun v18 =>
        (q_gI 11 8 M14 a0).bind fun v20 =>
        (q_lI M14 v18 v20).bind fun v22 =>
        (q_gI 11 4 M14 a0).bind fun v24 =>
        (q_tI M14 v16 v22 v24).bind fun M26 =>
        (q_gR 11 7 M26 a0).bind fun v28 =>
        (q_gR 11 11 M26 a0).bind fun v30 =>
        (q_gI 11 8 M26 a0).bind fun v32 =>
        (q_lI M26 v30 v32).bind fun v34 =>
        (q_gI 11 4 M26 a0).bind fun v36 =>
        (q_tI M26 v28 v34 v36).bind fun M38 =>
        f_X12_settlesChosen_b5 a0 n M38
      else
        some M)
    else
      some M)
def f_X12_settlesChosen (M : q_Mem) (a0 : Nat) : Option q_Mem :=
  q_ob 11 M a0 ((f_X12_settles M a0 (2 : Int32)).bind fun M3 =>
  f_X12_settlesChosen_b5 a0 q_fuel M3)
set_option maxRecDepth 20000 in
theorem v_X12_settlesChosen_b5 {a0 : Nat}  : ∀ (n : Nat) (M : q_Mem), q_V Y_X12_settlesChosen none (fun x : q_Mem => (none, x)) 0 0 5 [(0, .ref a0)] [] M (f_X12_settlesChosen_b5 a0 n M) := by
  intro n
  induction n with
  | zero => intro M; exact q_none
  | succ n ih =>
    intro M
    rw [f_X12_settlesChosen_b5.eq_2]
    refine q_aload_n 0 dX12_settlesChosen_5 rfl ?_
    refine q_getI (f := 8) cl_X12 (by decide) qw_1125 rfl dX12_settlesChosen_6 (Or.inl rfl) (fun v4 h5 => ?_)
    refine q_if_le (tgt := 77) dX12_settlesChosen_9 (by decide) (fun c41 => ?_) (fun c41 => ?_)
    · refine q_aload_n 0 dX12_settlesChosen_12 rfl ?_
      refine q_getR (f := 9) cl_X12 (by decide) qw_1126 rfl dX12_settlesChosen_13 (fun _ _ _ => rfl) (fun v6 h7 => ?_)
      refine q_aload_n 0 dX12_settlesChosen_16 rfl ?_
      refine q_getI (f := 8) cl_X12 (by decide) qw_1125 rfl dX12_settlesChosen_17 (Or.inl rfl) (fun v8 h9 => ?_)
      refine q_iconst (x := (1 : Int32)) dX12_settlesChosen_20 rfl ?_
      refine q_isub dX12_settlesChosen_21 ?_
      refine q_iald dX12_settlesChosen_22 (fun v10 h11 => ?_)
      refine q_bipush (x := (58 : Int32)) dX12_settlesChosen_23 rfl ?_
      refine q_icmp_ne (tgt := 77) dX12_settlesChosen_25 (by decide) (fun c40 => ?_) (fun c40 => ?_)
      · refine q_aload_n 0 dX12_settlesChosen_28 rfl ?_
        refine q_dup dX12_settlesChosen_29 rfl ?_
        refine q_getI (f := 8) cl_X12 (by decide) qw_1125 rfl dX12_settlesChosen_30 (Or.inl rfl) (fun v12 h13 => ?_)
        refine q_iconst (x := (1 : Int32)) dX12_settlesChosen_33 rfl ?_
        refine q_isub dX12_settlesChosen_34 ?_
        refine q_putI (f := 8) cl_X12 (by decide) qw_1125 rfl (Or.inl rfl) dX12_settlesChosen_35 rfl (fun M14 h15 => ?_)
        refine q_aload_n 0 dX12_settlesChosen_38 rfl ?_
        refine q_getR (f := 6) cl_X12 (by decide) qw_1123 rfl dX12_settlesChosen_39 (fun _ _ _ => rfl) (fun v16 h17 => ?_)
        refine q_aload_n 0 dX12_settlesChosen_42 rfl ?_
        refine q_getR (f := 10) cl_X12 (by decide) qw_1127 rfl dX12_settlesChosen_43 (fun _ _ _ => rfl) (fun v18 h19 => ?_)
        refine q_aload_n 0 dX12_settlesChosen_46 rfl ?_
        refine q_getI (f := 8) cl_X12 (by decide) qw_1125 rfl dX12_settlesChosen_47 (Or.inl rfl) (fun v20 h21 => ?_)
        refine q_iald dX12_settlesChosen_50 (fun v22 h23 => ?_)
        refine q_aload_n 0 dX12_settlesChosen_51 rfl ?_
        refine q_getI (f := 4) cl_X12 (by decide) qw_1121 rfl dX12_settlesChosen_52 (Or.inl rfl) (fun v24 h25 => ?_)
        refine q_iast dX12_settlesChosen_55 (fun M26 h27 => ?_)
        refine q_aload_n 0 dX12_settlesChosen_56 rfl ?_
        refine q_getR (f := 7) cl_X12 (by decide) qw_1124 rfl dX12_settlesChosen_57 (fun _ _ _ => rfl) (fun v28 h29 => ?_)
        refine q_aload_n 0 dX12_settlesChosen_60 rfl ?_
        refine q_getR (f := 11) cl_X12 (by decide) qw_1128 rfl dX12_settlesChosen_61 (fun _ _ _ => rfl) (fun v30 h31 => ?_)
        refine q_aload_n 0 dX12_settlesChosen_64 rfl ?_
        refine q_getI (f := 8) cl_X12 (by decide) qw_1125 rfl dX12_settlesChosen_65 (Or.inl rfl) (fun v32 h33 => ?_)
        refine q_iald dX12_settlesChosen_68 (fun v34 h35 => ?_)
        refine q_aload_n 0 dX12_settlesChosen_69 rfl ?_
        refine q_getI (f := 4) cl_X12 (by decide) qw_1121 rfl dX12_settlesChosen_70 (Or.inl rfl) (fun v36 h37 => ?_)
        refine q_iast dX12_settlesChosen_73 (fun M38 h39 => ?_)
        refine q_goto (tgt := 5) dX12_settlesChosen_74 (by decide) ?_
        exact ih _
      · exact q_vret dX12_settlesChosen_77 rfl rfl (Nat.le_of_ble_eq_true rfl) rfl
    · exact q_vret dX12_settlesChosen_77 rfl rfl (Nat.le_of_ble_eq_true rfl) rfl
set_option maxRecDepth 20000 in
theorem m_X12_settlesChosen {M : q_Mem} {a0 : Nat} {x : q_Mem} (h : f_X12_settlesChosen M a0 = some x) : q_C Y_X12_settlesChosen [.ref a0] M none x := by
  refine q_met (φ := (fun x : q_Mem => (none, x))) (r := f_X12_settlesChosen M a0) (by decide +kernel) (Nat.le_of_ble_eq_true rfl) ?_ h (fun _ _ => rfl)
  show q_V Y_X12_settlesChosen none (fun x : q_Mem => (none, x)) 0 0 0 [(0, .ref a0)] [] M (f_X12_settlesChosen M a0)
  unfold f_X12_settlesChosen
  refine q_obV ?_
  refine q_aload_n 0 dX12_settlesChosen_0 rfl ?_
  refine q_iconst (x := (2 : Int32)) dX12_settlesChosen_1 rfl ?_
  refine q_cVM (Y2 := Y_X12_settles) (As := [.int (2 : Int32)]) (b := a0) (st := []) cl_X12 mv_X12_settles qw_1410 dX12_settlesChosen_2 ⟨Nat.le_of_ble_eq_true rfl, Nat.le_of_ble_eq_true rfl⟩ rfl (fun _ _ => rfl) (Nat.le_of_ble_eq_true rfl) ⟨Nat.le_of_ble_eq_true rfl, Nat.le_of_ble_eq_true rfl⟩ (fun M3 h1 => q_ob_is h1) (fun M3 h1 => m_X12_settles h1) (fun M3 h1 => ?_)
  exact v_X12_settlesChosen_b5 _ _
theorem dX12_top_0 : decode cX12_top 0 = .ok (.aload_n 0, 1) := by decide +kernel
theorem dX12_top_1 : decode cX12_top 1 = .ok (.getfield 168, 3) := by decide +kernel
theorem dX12_top_4 : decode cX12_top 4 = .ok (.ifCond .ne 7, 3) := by decide +kernel
theorem dX12_top_7 : decode cX12_top 7 = .ok (.iconst 0, 1) := by decide +kernel
theorem dX12_top_8 : decode cX12_top 8 = .ok (.goto 14, 3) := by decide +kernel
theorem dX12_top_11 : decode cX12_top 11 = .ok (.aload_n 0, 1) := by decide +kernel
theorem dX12_top_12 : decode cX12_top 12 = .ok (.getfield 32, 3) := by decide +kernel
theorem dX12_top_15 : decode cX12_top 15 = .ok (.aload_n 0, 1) := by decide +kernel
theorem dX12_top_16 : decode cX12_top 16 = .ok (.getfield 168, 3) := by decide +kernel
theorem dX12_top_19 : decode cX12_top 19 = .ok (.iconst 1, 1) := by decide +kernel
theorem dX12_top_20 : decode cX12_top 20 = .ok (.isub, 1) := by decide +kernel
theorem dX12_top_21 : decode cX12_top 21 = .ok (.iaload, 1) := by decide +kernel
theorem dX12_top_22 : decode cX12_top 22 = .ok (.ireturn, 1) := by decide +kernel
def f_X12_top (M : q_Mem) (a0 : Nat) : Option Int32 :=
  q_ob 11 M a0 ((q_gI 11 8 M a0).bind fun v1 =>
  (if v1 = 0 then
    some (0 : Int32)
  else
    (q_gR 11 9 M a0).bind fun v3 =>
    (q_gI 11 8 M a0).bind fun v5 =>
    (q_lI M v3 (v5 - (1 : Int32))).bind fun v7 =>
    some v7))
set_option maxRecDepth 20000 in
theorem m_X12_top {M : q_Mem} {a0 : Nat} {x : Int32} (h : f_X12_top M a0 = some x) : q_C Y_X12_top [.ref a0] M (some (.int x)) M := by
  refine q_met (φ := (fun x : Int32 => (some (.int x), M))) (r := f_X12_top M a0) (by decide +kernel) (Nat.le_of_ble_eq_true rfl) ?_ h (fun _ _ => rfl)
  show q_V Y_X12_top none (fun x : Int32 => (some (.int x), M)) 0 0 0 [(0, .ref a0)] [] M (f_X12_top M a0)
  unfold f_X12_top
  refine q_obV ?_
  refine q_aload_n 0 dX12_top_0 rfl ?_
  refine q_getI (f := 8) cl_X12 (by decide) qw_1125 rfl dX12_top_1 (Or.inl rfl) (fun v1 h2 => ?_)
  refine q_if_ne (tgt := 11) dX12_top_4 (by decide) (fun c9 => ?_) (fun c9 => ?_)
  · refine q_iconst (x := (0 : Int32)) dX12_top_7 rfl ?_
    refine q_goto (tgt := 22) dX12_top_8 (by decide) ?_
    exact q_iret dX12_top_22 rfl rfl (Nat.le_of_ble_eq_true rfl) rfl
  · refine q_aload_n 0 dX12_top_11 rfl ?_
    refine q_getR (f := 9) cl_X12 (by decide) qw_1126 rfl dX12_top_12 (fun _ _ _ => rfl) (fun v3 h4 => ?_)
    refine q_aload_n 0 dX12_top_15 rfl ?_
    refine q_getI (f := 8) cl_X12 (by decide) qw_1125 rfl dX12_top_16 (Or.inl rfl) (fun v5 h6 => ?_)
    refine q_iconst (x := (1 : Int32)) dX12_top_19 rfl ?_
    refine q_isub dX12_top_20 ?_
    refine q_iald dX12_top_21 (fun v7 h8 => ?_)
    exact q_iret dX12_top_22 rfl rfl (Nat.le_of_ble_eq_true rfl) rfl
theorem dX12_goesOn_0 : decode cX12_goesOn 0 = .ok (.iload_n 1, 1) := by decide +kernel
theorem dX12_goesOn_1 : decode cX12_goesOn 1 = .ok (.invokestatic 171, 3) := by decide +kernel
theorem dX12_goesOn_4 : decode cX12_goesOn 4 = .ok (.istore_n 2, 1) := by decide +kernel
theorem dX12_goesOn_5 : decode cX12_goesOn 5 = .ok (.iload_n 1, 1) := by decide +kernel
theorem dX12_goesOn_6 : decode cX12_goesOn 6 = .ok (.bipush 41, 2) := by decide +kernel
theorem dX12_goesOn_8 : decode cX12_goesOn 8 = .ok (.if_icmp .ne 46, 3) := by decide +kernel
theorem dX12_goesOn_11 : decode cX12_goesOn 11 = .ok (.aload_n 0, 1) := by decide +kernel
theorem dX12_goesOn_12 : decode cX12_goesOn 12 = .ok (.invokevirtual 183, 3) := by decide +kernel
theorem dX12_goesOn_15 : decode cX12_goesOn 15 = .ok (.aload_n 0, 1) := by decide +kernel
theorem dX12_goesOn_16 : decode cX12_goesOn 16 = .ok (.invokevirtual 186, 3) := by decide +kernel
theorem dX12_goesOn_19 : decode cX12_goesOn 19 = .ok (.bipush 40, 2) := by decide +kernel
theorem dX12_goesOn_21 : decode cX12_goesOn 21 = .ok (.if_icmp .eq 5, 3) := by decide +kernel
theorem dX12_goesOn_24 : decode cX12_goesOn 24 = .ok (.iconst 0, 1) := by decide +kernel
theorem dX12_goesOn_25 : decode cX12_goesOn 25 = .ok (.ireturn, 1) := by decide +kernel
theorem dX12_goesOn_26 : decode cX12_goesOn 26 = .ok (.aload_n 0, 1) := by decide +kernel
theorem dX12_goesOn_27 : decode cX12_goesOn 27 = .ok (.dup, 1) := by decide +kernel
theorem dX12_goesOn_28 : decode cX12_goesOn 28 = .ok (.getfield 168, 3) := by decide +kernel
theorem dX12_goesOn_31 : decode cX12_goesOn 31 = .ok (.iconst 1, 1) := by decide +kernel
theorem dX12_goesOn_32 : decode cX12_goesOn 32 = .ok (.isub, 1) := by decide +kernel
theorem dX12_goesOn_33 : decode cX12_goesOn 33 = .ok (.putfield 168, 3) := by decide +kernel
theorem dX12_goesOn_36 : decode cX12_goesOn 36 = .ok (.aload_n 0, 1) := by decide +kernel
theorem dX12_goesOn_37 : decode cX12_goesOn 37 = .ok (.dup, 1) := by decide +kernel
theorem dX12_goesOn_38 : decode cX12_goesOn 38 = .ok (.getfield 189, 3) := by decide +kernel
theorem dX12_goesOn_41 : decode cX12_goesOn 41 = .ok (.iconst 1, 1) := by decide +kernel
theorem dX12_goesOn_42 : decode cX12_goesOn 42 = .ok (.isub, 1) := by decide +kernel
theorem dX12_goesOn_43 : decode cX12_goesOn 43 = .ok (.putfield 189, 3) := by decide +kernel
theorem dX12_goesOn_46 : decode cX12_goesOn 46 = .ok (.aload_n 0, 1) := by decide +kernel
theorem dX12_goesOn_47 : decode cX12_goesOn 47 = .ok (.bipush 7, 2) := by decide +kernel
theorem dX12_goesOn_49 : decode cX12_goesOn 49 = .ok (.invokevirtual 180, 3) := by decide +kernel
theorem dX12_goesOn_52 : decode cX12_goesOn 52 = .ok (.iconst 1, 1) := by decide +kernel
theorem dX12_goesOn_53 : decode cX12_goesOn 53 = .ok (.ireturn, 1) := by decide +kernel
theorem dX12_goesOn_54 : decode cX12_goesOn 54 = .ok (.iload_n 1, 1) := by decide +kernel
theorem dX12_goesOn_55 : decode cX12_goesOn 55 = .ok (.bipush 58, 2) := by decide +kernel
theorem dX12_goesOn_57 : decode cX12_goesOn 57 = .ok (.if_icmp .ne 70, 3) := by decide +kernel
theorem dX12_goesOn_60 : decode cX12_goesOn 60 = .ok (.aload_n 0, 1) := by decide +kernel
theorem dX12_goesOn_61 : decode cX12_goesOn 61 = .ok (.invokevirtual 183, 3) := by decide +kernel
theorem dX12_goesOn_64 : decode cX12_goesOn 64 = .ok (.aload_n 0, 1) := by decide +kernel
theorem dX12_goesOn_65 : decode cX12_goesOn 65 = .ok (.invokevirtual 186, 3) := by decide +kernel
theorem dX12_goesOn_68 : decode cX12_goesOn 68 = .ok (.bipush 63, 2) := by decide +kernel
theorem dX12_goesOn_70 : decode cX12_goesOn 70 = .ok (.if_icmp .eq 5, 3) := by decide +kernel
theorem dX12_goesOn_73 : decode cX12_goesOn 73 = .ok (.iconst 0, 1) := by decide +kernel
theorem dX12_goesOn_74 : decode cX12_goesOn 74 = .ok (.ireturn, 1) := by decide +kernel
theorem dX12_goesOn_75 : decode cX12_goesOn 75 = .ok (.aload_n 0, 1) := by decide +kernel
theorem dX12_goesOn_76 : decode cX12_goesOn 76 = .ok (.getfield 35, 3) := by decide +kernel
theorem dX12_goesOn_79 : decode cX12_goesOn 79 = .ok (.aload_n 0, 1) := by decide +kernel
theorem dX12_goesOn_80 : decode cX12_goesOn 80 = .ok (.getfield 168, 3) := by decide +kernel
theorem dX12_goesOn_83 : decode cX12_goesOn 83 = .ok (.iconst 1, 1) := by decide +kernel
theorem dX12_goesOn_84 : decode cX12_goesOn 84 = .ok (.isub, 1) := by decide +kernel
theorem dX12_goesOn_85 : decode cX12_goesOn 85 = .ok (.iaload, 1) := by decide +kernel
theorem dX12_goesOn_86 : decode cX12_goesOn 86 = .ok (.istore_n 3, 1) := by decide +kernel
theorem dX12_goesOn_87 : decode cX12_goesOn 87 = .ok (.aload_n 0, 1) := by decide +kernel
theorem dX12_goesOn_88 : decode cX12_goesOn 88 = .ok (.dup, 1) := by decide +kernel
theorem dX12_goesOn_89 : decode cX12_goesOn 89 = .ok (.getfield 168, 3) := by decide +kernel
theorem dX12_goesOn_92 : decode cX12_goesOn 92 = .ok (.iconst 1, 1) := by decide +kernel
theorem dX12_goesOn_93 : decode cX12_goesOn 93 = .ok (.isub, 1) := by decide +kernel
theorem dX12_goesOn_94 : decode cX12_goesOn 94 = .ok (.putfield 168, 3) := by decide +kernel
theorem dX12_goesOn_97 : decode cX12_goesOn 97 = .ok (.aload_n 0, 1) := by decide +kernel
theorem dX12_goesOn_98 : decode cX12_goesOn 98 = .ok (.bipush 15, 2) := by decide +kernel
theorem dX12_goesOn_100 : decode cX12_goesOn 100 = .ok (.iconst 0, 1) := by decide +kernel
theorem dX12_goesOn_101 : decode cX12_goesOn 101 = .ok (.invokevirtual 174, 3) := by decide +kernel
theorem dX12_goesOn_104 : decode cX12_goesOn 104 = .ok (.istore 4, 2) := by decide +kernel
theorem dX12_goesOn_106 : decode cX12_goesOn 106 = .ok (.aload_n 0, 1) := by decide +kernel
theorem dX12_goesOn_107 : decode cX12_goesOn 107 = .ok (.getfield 26, 3) := by decide +kernel
theorem dX12_goesOn_110 : decode cX12_goesOn 110 = .ok (.iload_n 3, 1) := by decide +kernel
theorem dX12_goesOn_111 : decode cX12_goesOn 111 = .ok (.aload_n 0, 1) := by decide +kernel
theorem dX12_goesOn_112 : decode cX12_goesOn 112 = .ok (.getfield 164, 3) := by decide +kernel
theorem dX12_goesOn_115 : decode cX12_goesOn 115 = .ok (.iastore, 1) := by decide +kernel
theorem dX12_goesOn_116 : decode cX12_goesOn 116 = .ok (.aload_n 0, 1) := by decide +kernel
theorem dX12_goesOn_117 : decode cX12_goesOn 117 = .ok (.bipush 58, 2) := by decide +kernel
theorem dX12_goesOn_119 : decode cX12_goesOn 119 = .ok (.iload 4, 2) := by decide +kernel
theorem dX12_goesOn_121 : decode cX12_goesOn 121 = .ok (.iload_n 3, 1) := by decide +kernel
theorem dX12_goesOn_122 : decode cX12_goesOn 122 = .ok (.invokevirtual 192, 3) := by decide +kernel
theorem dX12_goesOn_125 : decode cX12_goesOn 125 = .ok (.iconst 1, 1) := by decide +kernel
theorem dX12_goesOn_126 : decode cX12_goesOn 126 = .ok (.ireturn, 1) := by decide +kernel
theorem dX12_goesOn_127 : decode cX12_goesOn 127 = .ok (.iload_n 1, 1) := by decide +kernel
theorem dX12_goesOn_128 : decode cX12_goesOn 128 = .ok (.bipush 63, 2) := by decide +kernel
theorem dX12_goesOn_130 : decode cX12_goesOn 130 = .ok (.if_icmp .ne 24, 3) := by decide +kernel
theorem dX12_goesOn_133 : decode cX12_goesOn 133 = .ok (.aload_n 0, 1) := by decide +kernel
theorem dX12_goesOn_134 : decode cX12_goesOn 134 = .ok (.iconst 2, 1) := by decide +kernel
theorem dX12_goesOn_135 : decode cX12_goesOn 135 = .ok (.invokevirtual 180, 3) := by decide +kernel
theorem dX12_goesOn_138 : decode cX12_goesOn 138 = .ok (.aload_n 0, 1) := by decide +kernel
theorem dX12_goesOn_139 : decode cX12_goesOn 139 = .ok (.bipush 63, 2) := by decide +kernel
theorem dX12_goesOn_141 : decode cX12_goesOn 141 = .ok (.aload_n 0, 1) := by decide +kernel
theorem dX12_goesOn_142 : decode cX12_goesOn 142 = .ok (.bipush 14, 2) := by decide +kernel
theorem dX12_goesOn_144 : decode cX12_goesOn 144 = .ok (.iconst 0, 1) := by decide +kernel
theorem dX12_goesOn_145 : decode cX12_goesOn 145 = .ok (.invokevirtual 174, 3) := by decide +kernel
theorem dX12_goesOn_148 : decode cX12_goesOn 148 = .ok (.iconst 0, 1) := by decide +kernel
theorem dX12_goesOn_149 : decode cX12_goesOn 149 = .ok (.invokevirtual 192, 3) := by decide +kernel
theorem dX12_goesOn_152 : decode cX12_goesOn 152 = .ok (.iconst 1, 1) := by decide +kernel
theorem dX12_goesOn_153 : decode cX12_goesOn 153 = .ok (.ireturn, 1) := by decide +kernel
theorem dX12_goesOn_154 : decode cX12_goesOn 154 = .ok (.iload_n 2, 1) := by decide +kernel
theorem dX12_goesOn_155 : decode cX12_goesOn 155 = .ok (.iconst 2, 1) := by decide +kernel
theorem dX12_goesOn_156 : decode cX12_goesOn 156 = .ok (.if_icmp .lt 9, 3) := by decide +kernel
theorem dX12_goesOn_159 : decode cX12_goesOn 159 = .ok (.iload_n 2, 1) := by decide +kernel
theorem dX12_goesOn_160 : decode cX12_goesOn 160 = .ok (.bipush 7, 2) := by decide +kernel
theorem dX12_goesOn_162 : decode cX12_goesOn 162 = .ok (.if_icmp .ne 5, 3) := by decide +kernel
theorem dX12_goesOn_165 : decode cX12_goesOn 165 = .ok (.iconst 0, 1) := by decide +kernel
theorem dX12_goesOn_166 : decode cX12_goesOn 166 = .ok (.ireturn, 1) := by decide +kernel
theorem dX12_goesOn_167 : decode cX12_goesOn 167 = .ok (.iload_n 2, 1) := by decide +kernel
theorem dX12_goesOn_168 : decode cX12_goesOn 168 = .ok (.iconst 4, 1) := by decide +kernel
theorem dX12_goesOn_169 : decode cX12_goesOn 169 = .ok (.if_icmp .ne 21, 3) := by decide +kernel
theorem dX12_goesOn_172 : decode cX12_goesOn 172 = .ok (.aload_n 0, 1) := by decide +kernel
theorem dX12_goesOn_173 : decode cX12_goesOn 173 = .ok (.iconst 5, 1) := by decide +kernel
theorem dX12_goesOn_174 : decode cX12_goesOn 174 = .ok (.invokevirtual 180, 3) := by decide +kernel
theorem dX12_goesOn_177 : decode cX12_goesOn 177 = .ok (.aload_n 0, 1) := by decide +kernel
theorem dX12_goesOn_178 : decode cX12_goesOn 178 = .ok (.invokevirtual 186, 3) := by decide +kernel
theorem dX12_goesOn_181 : decode cX12_goesOn 181 = .ok (.invokestatic 171, 3) := by decide +kernel
theorem dX12_goesOn_184 : decode cX12_goesOn 184 = .ok (.iconst 4, 1) := by decide +kernel
theorem dX12_goesOn_185 : decode cX12_goesOn 185 = .ok (.if_icmp .ne 5, 3) := by decide +kernel
theorem dX12_goesOn_188 : decode cX12_goesOn 188 = .ok (.iconst 0, 1) := by decide +kernel
theorem dX12_goesOn_189 : decode cX12_goesOn 189 = .ok (.ireturn, 1) := by decide +kernel
theorem dX12_goesOn_190 : decode cX12_goesOn 190 = .ok (.aload_n 0, 1) := by decide +kernel
theorem dX12_goesOn_191 : decode cX12_goesOn 191 = .ok (.iload_n 2, 1) := by decide +kernel
theorem dX12_goesOn_192 : decode cX12_goesOn 192 = .ok (.invokevirtual 180, 3) := by decide +kernel
theorem dX12_goesOn_195 : decode cX12_goesOn 195 = .ok (.aload_n 0, 1) := by decide +kernel
theorem dX12_goesOn_196 : decode cX12_goesOn 196 = .ok (.iload_n 1, 1) := by decide +kernel
theorem dX12_goesOn_197 : decode cX12_goesOn 197 = .ok (.iload_n 1, 1) := by decide +kernel
theorem dX12_goesOn_198 : decode cX12_goesOn 198 = .ok (.bipush 38, 2) := by decide +kernel
theorem dX12_goesOn_200 : decode cX12_goesOn 200 = .ok (.if_icmp .ne 13, 3) := by decide +kernel
theorem dX12_goesOn_203 : decode cX12_goesOn 203 = .ok (.aload_n 0, 1) := by decide +kernel
theorem dX12_goesOn_204 : decode cX12_goesOn 204 = .ok (.bipush 12, 2) := by decide +kernel
theorem dX12_goesOn_206 : decode cX12_goesOn 206 = .ok (.iconst 0, 1) := by decide +kernel
theorem dX12_goesOn_207 : decode cX12_goesOn 207 = .ok (.invokevirtual 174, 3) := by decide +kernel
theorem dX12_goesOn_210 : decode cX12_goesOn 210 = .ok (.goto 20, 3) := by decide +kernel
theorem dX12_goesOn_213 : decode cX12_goesOn 213 = .ok (.iload_n 1, 1) := by decide +kernel
theorem dX12_goesOn_214 : decode cX12_goesOn 214 = .ok (.bipush 124, 2) := by decide +kernel
theorem dX12_goesOn_216 : decode cX12_goesOn 216 = .ok (.if_icmp .ne 13, 3) := by decide +kernel
theorem dX12_goesOn_219 : decode cX12_goesOn 219 = .ok (.aload_n 0, 1) := by decide +kernel
theorem dX12_goesOn_220 : decode cX12_goesOn 220 = .ok (.bipush 13, 2) := by decide +kernel
theorem dX12_goesOn_222 : decode cX12_goesOn 222 = .ok (.iconst 0, 1) := by decide +kernel
theorem dX12_goesOn_223 : decode cX12_goesOn 223 = .ok (.invokevirtual 174, 3) := by decide +kernel
theorem dX12_goesOn_226 : decode cX12_goesOn 226 = .ok (.goto 4, 3) := by decide +kernel
theorem dX12_goesOn_229 : decode cX12_goesOn 229 = .ok (.iconst 0, 1) := by decide +kernel
theorem dX12_goesOn_230 : decode cX12_goesOn 230 = .ok (.iconst 0, 1) := by decide +kernel
theorem dX12_goesOn_231 : decode cX12_goesOn 231 = .ok (.invokevirtual 192, 3) := by decide +kernel
theorem dX12_goesOn_234 : decode cX12_goesOn 234 = .ok (.iconst 1, 1) := by decide +kernel
theorem dX12_goesOn_235 : decode cX12_goesOn 235 = .ok (.ireturn, 1) := by decide +kernel
def f_X12_goesOn_b190 (M : q_Mem) (a0 : Nat) (a1 : Int32) (a2 : Int32) : Option (Int32 × q_Mem) :=
  (f_X12_settles M a0 a2).bind fun M71 =>
  (if a1 = (38 : Int32) then
    (f_X12_emits M71 a0 (12 : Int32) (0 : Int32)).bind fun r73 =>
    (f_X12_waitsWith r73.2 a0 a1 r73.1 (0 : Int32)).bind fun M76 =>
    some ((1 : Int32), M76)
  else
    (if a1 = (124 : Int32) then
      (f_X12_emits M71 a0 (13 : Int32) (0 : Int32)).bind fun r78 =>
      (f_X12_waitsWith r78.2 a0 a1 r78.1 (0 : Int32)).bind fun M81 =>
      some ((1 : Int32), M81)
    else
      (f_X12_waitsWith M71 a0 a1 (0 : Int32) (0 : Int32)).bind fun M84 =>
      some ((1 : Int32), M84)))
def f_X12_goesOn (M : q_Mem) (a0 : Nat) (a1 : Int32) : Option (Int32 × q_Mem) :=
  q_ob 11 M a0 ((f_X12_holds M a1).bind fun v2 =>
  (if a1 = (41 : Int32) then
    (f_X12_settlesChosen M a0).bind fun M5 =>
    (f_X12_top M5 a0).bind fun v7 =>
    (if v7 = (40 : Int32) then
      (q_gI 11 8 M5 a0).bind fun v8 =>
      (q_pI 11 8 M5 a0 (v8 - (1 : Int32))).bind fun M10 =>
      (q_gI 11 12 M10 a0).bind fun v12 =>
      (q_pI 11 12 M10 a0 (v12 - (1 : Int32))).bind fun M14 =>
      (f_X12_settles M14 a0 (7 : Int32)).bind fun M18 =>
      some ((1 : Int32), M18)
    else
      some ((0 : Int32), M5))
  else
    (if a1 = (58 : Int32) then
      (f_X12_settlesChosen M a0).bind fun M22 =>
      (f_X12_top M22 a0).bind fun v24 =>
      (if v24 = (63 : Int32) then
        (q_gR 11 10 M22 a0).bind fun v25 =>
        (q_gI 11 8 M22 a0).bind fun v27 =>
        (q_lI M22 v25 (v27 - (1 : Int32))).bind fun v29 =>
        (q_gI 11 8 M22 a0).bind fun v31 =>
        (q_pI 11 8 M22 a0 (v31 - (1 : Int32))).bind fun M33 =>
        (f_X12_emits M33 a0 (15 : Int32) (0 : Int32)).bind fun r36 =>
        (q_gR 11 6 r36.2 a0).bind fun v37 =>
        (q_gI 11 4 r36.2 a0).bind fun v39 =>
        (q_tI r36.2 v37 v29 v39).bind fun M41 =>
        (f_X12_waitsWith M41 a0 (58 : Int32) r36.1 v29).bind fun M45 =>
        some ((1 : Int32), M45)
      else
        some ((0 : Int32), M22))
    else
      (if a1 = (63 : Int32) then
        (f_X12_settles M a0 (2 : Int32)).bind fun M49 =>
        (f_X12_emits M49 a0 (14 : Int32) (0 : Int32)).bind fun r51 =>
        (f_X12_waitsWith r51.2 a0 (63 : Int32) r51.1 (0 : Int32)).bind fun M54 =>
        some ((1 : Int32), M54)
      else
        (if v2 < (2 : Int32) then
          some ((0 : Int32), M)
        else
          (if v2 = (7 : Int32) then
            some ((0 : Int32), M)
          else
            (if v2 = (4 : Int32) then
              (f_X12_settles M a0 (5 : Int32)).bind fun M57 =>
              (f_X12_top M57 a0).bind fun v59 =>
              (f_X12_holds M57 v59).bind fun v61 =>
              (if v61 = (4 : Int32) then
                some ((0 : Int32), M57)
              else
                f_X12_goesOn_b190 M57 a0 a1 v2)
            else
              f_X12_goesOn_b190 M a0 a1 v2)))))))
set_option maxRecDepth 20000 in
theorem v_X12_goesOn_b190 {M : q_Mem} {a0 : Nat} {a1 : Int32} {a2 : Int32}  : q_V Y_X12_goesOn none (fun x : Int32 × q_Mem => (some (.int x.1), x.2)) 0 0 190 [(0, .ref a0), (1, .int a1), (2, .int a2)] [] M (f_X12_goesOn_b190 M a0 a1 a2 ) := by
  unfold f_X12_goesOn_b190
  refine q_aload_n 0 dX12_goesOn_190 rfl ?_
  refine q_iload_n 2 dX12_goesOn_191 rfl ?_
  refine q_cVM (Y2 := Y_X12_settles) (As := [.int a2]) (b := a0) (st := []) cl_X12 mv_X12_settles qw_1410 dX12_goesOn_192 ⟨Nat.le_of_ble_eq_true rfl, Nat.le_of_ble_eq_true rfl⟩ rfl (fun _ _ => rfl) (Nat.le_of_ble_eq_true rfl) ⟨Nat.le_of_ble_eq_true rfl, Nat.le_of_ble_eq_true rfl⟩ (fun M71 h69 => q_ob_is h69) (fun M71 h69 => m_X12_settles h69) (fun M71 h69 => ?_)
  refine q_aload_n 0 dX12_goesOn_195 rfl ?_
  refine q_iload_n 1 dX12_goesOn_196 rfl ?_
  refine q_iload_n 1 dX12_goesOn_197 rfl ?_
  refine q_bipush (x := (38 : Int32)) dX12_goesOn_198 rfl ?_
  refine q_icmp_ne (tgt := 213) dX12_goesOn_200 (by decide) (fun c86 => ?_) (fun c86 => ?_)
  · refine q_aload_n 0 dX12_goesOn_203 rfl ?_
    refine q_bipush (x := (12 : Int32)) dX12_goesOn_204 rfl ?_
    refine q_iconst (x := (0 : Int32)) dX12_goesOn_206 rfl ?_
    refine q_cVMI (Y2 := Y_X12_emits) (As := [.int (12 : Int32), .int (0 : Int32)]) (b := a0) (st := [.int a1, .ref a0]) cl_X12 mv_X12_emits qw_1414 dX12_goesOn_207 ⟨Nat.le_of_ble_eq_true rfl, Nat.le_of_ble_eq_true rfl⟩ rfl (fun _ _ => rfl) (Nat.le_of_ble_eq_true rfl) ⟨Nat.le_of_ble_eq_true rfl, Nat.le_of_ble_eq_true rfl⟩ (fun r73 h72 => q_ob_is h72) (fun r73 h72 => m_X12_emits h72) (fun r73 h72 => ?_)
    refine q_goto (tgt := 230) dX12_goesOn_210 (by decide) ?_
    refine q_iconst (x := (0 : Int32)) dX12_goesOn_230 rfl ?_
    refine q_cVM (Y2 := Y_X12_waitsWith) (As := [.int a1, .int r73.1, .int (0 : Int32)]) (b := a0) (st := []) cl_X12 mv_X12_waitsWith qw_1425 dX12_goesOn_231 ⟨Nat.le_of_ble_eq_true rfl, Nat.le_of_ble_eq_true rfl⟩ rfl (fun _ _ => rfl) (Nat.le_of_ble_eq_true rfl) ⟨Nat.le_of_ble_eq_true rfl, Nat.le_of_ble_eq_true rfl⟩ (fun M76 h74 => q_ob_is h74) (fun M76 h74 => m_X12_waitsWith h74) (fun M76 h74 => ?_)
    refine q_iconst (x := (1 : Int32)) dX12_goesOn_234 rfl ?_
    exact q_zretL dX12_goesOn_235 rfl (Or.inr rfl) rfl (Nat.le_of_ble_eq_true rfl) rfl
  · refine q_iload_n 1 dX12_goesOn_213 rfl ?_
    refine q_bipush (x := (124 : Int32)) dX12_goesOn_214 rfl ?_
    refine q_icmp_ne (tgt := 229) dX12_goesOn_216 (by decide) (fun c85 => ?_) (fun c85 => ?_)
    · refine q_aload_n 0 dX12_goesOn_219 rfl ?_
      refine q_bipush (x := (13 : Int32)) dX12_goesOn_220 rfl ?_
      refine q_iconst (x := (0 : Int32)) dX12_goesOn_222 rfl ?_
      refine q_cVMI (Y2 := Y_X12_emits) (As := [.int (13 : Int32), .int (0 : Int32)]) (b := a0) (st := [.int a1, .ref a0]) cl_X12 mv_X12_emits qw_1414 dX12_goesOn_223 ⟨Nat.le_of_ble_eq_true rfl, Nat.le_of_ble_eq_true rfl⟩ rfl (fun _ _ => rfl) (Nat.le_of_ble_eq_true rfl) ⟨Nat.le_of_ble_eq_true rfl, Nat.le_of_ble_eq_true rfl⟩ (fun r78 h77 => q_ob_is h77) (fun r78 h77 => m_X12_emits h77) (fun r78 h77 => ?_)
      refine q_goto (tgt := 230) dX12_goesOn_226 (by decide) ?_
      refine q_iconst (x := (0 : Int32)) dX12_goesOn_230 rfl ?_
      refine q_cVM (Y2 := Y_X12_waitsWith) (As := [.int a1, .int r78.1, .int (0 : Int32)]) (b := a0) (st := []) cl_X12 mv_X12_waitsWith qw_1425 dX12_goesOn_231 ⟨Nat.le_of_ble_eq_true rfl, Nat.le_of_ble_eq_true rfl⟩ rfl (fun _ _ => rfl) (Nat.le_of_ble_eq_true rfl) ⟨Nat.le_of_ble_eq_true rfl, Nat.le_of_ble_eq_true rfl⟩ (fun M81 h79 => q_ob_is h79) (fun M81 h79 => m_X12_waitsWith h79) (fun M81 h79 => ?_)
      refine q_iconst (x := (1 : Int32)) dX12_goesOn_234 rfl ?_
      exact q_zretL dX12_goesOn_235 rfl (Or.inr rfl) rfl (Nat.le_of_ble_eq_true rfl) rfl
    · refine q_iconst (x := (0 : Int32)) dX12_goesOn_229 rfl ?_
      refine q_iconst (x := (0 : Int32)) dX12_goesOn_230 rfl ?_
      refine q_cVM (Y2 := Y_X12_waitsWith) (As := [.int a1, .int (0 : Int32), .int (0 : Int32)]) (b := a0) (st := []) cl_X12 mv_X12_waitsWith qw_1425 dX12_goesOn_231 ⟨Nat.le_of_ble_eq_true rfl, Nat.le_of_ble_eq_true rfl⟩ rfl (fun _ _ => rfl) (Nat.le_of_ble_eq_true rfl) ⟨Nat.le_of_ble_eq_true rfl, Nat.le_of_ble_eq_true rfl⟩ (fun M84 h82 => q_ob_is h82) (fun M84 h82 => m_X12_waitsWith h82) (fun M84 h82 => ?_)
      refine q_iconst (x := (1 : Int32)) dX12_goesOn_234 rfl ?_
      exact q_zretL dX12_goesOn_235 rfl (Or.inr rfl) rfl (Nat.le_of_ble_eq_true rfl) rfl
set_option maxRecDepth 20000 in
theorem m_X12_goesOn {M : q_Mem} {a0 : Nat} {a1 : Int32} {x : (Int32 × q_Mem)} (h : f_X12_goesOn M a0 a1 = some x) : q_C Y_X12_goesOn [.ref a0, .int a1] M (some (.int x.1)) x.2 := by
  refine q_met (φ := (fun x : Int32 × q_Mem => (some (.int x.1), x.2))) (r := f_X12_goesOn M a0 a1) (by decide +kernel) (Nat.le_of_ble_eq_true rfl) ?_ h (fun _ _ => rfl)
  show q_V Y_X12_goesOn none (fun x : Int32 × q_Mem => (some (.int x.1), x.2)) 0 0 0 [(0, .ref a0), (1, .int a1)] [] M (f_X12_goesOn M a0 a1)
  unfold f_X12_goesOn
  refine q_obV ?_
  refine q_iload_n 1 dX12_goesOn_0 rfl ?_
  refine q_cSI (Y2 := Y_X12_holds) (As := [.int a1]) (st := []) ms_X12_holds qw_1403 dX12_goesOn_1 ⟨Nat.le_of_ble_eq_true rfl, Nat.le_of_ble_eq_true rfl⟩ rfl (fun _ _ => rfl) (Nat.le_of_ble_eq_true rfl) ⟨Nat.le_of_ble_eq_true rfl, Nat.le_of_ble_eq_true rfl⟩ (fun v2 h1 => m_X12_holds h1) (fun v2 h1 => ?_)
  refine q_istore_n (ls' := [(2, .int v2), (0, .ref a0), (1, .int a1)]) dX12_goesOn_4 (by decide) rfl ?_
  refine q_iload_n 2 dX12_goesOn_5 rfl ?_
  refine q_bipush (x := (41 : Int32)) dX12_goesOn_6 rfl ?_
  refine q_icmp_ne (tgt := 54) dX12_goesOn_8 (by decide) (fun c68 => ?_) (fun c68 => ?_)
  · refine q_aload_n 1 dX12_goesOn_11 rfl ?_
    refine q_cVM (Y2 := Y_X12_settlesChosen) (As := []) (b := a0) (st := []) cl_X12 mv_X12_settlesChosen qw_1406 dX12_goesOn_12 ⟨Nat.le_of_ble_eq_true rfl, Nat.le_of_ble_eq_true rfl⟩ rfl (fun _ _ => rfl) (Nat.le_of_ble_eq_true rfl) ⟨Nat.le_of_ble_eq_true rfl, Nat.le_of_ble_eq_true rfl⟩ (fun M5 h3 => q_ob_is h3) (fun M5 h3 => m_X12_settlesChosen h3) (fun M5 h3 => ?_)
    refine q_aload_n 1 dX12_goesOn_15 rfl ?_
    refine q_cVI (Y2 := Y_X12_top) (As := []) (b := a0) (st := []) cl_X12 mv_X12_top qw_1421 dX12_goesOn_16 ⟨Nat.le_of_ble_eq_true rfl, Nat.le_of_ble_eq_true rfl⟩ rfl (fun _ _ => rfl) (Nat.le_of_ble_eq_true rfl) ⟨Nat.le_of_ble_eq_true rfl, Nat.le_of_ble_eq_true rfl⟩ (fun v7 h6 => q_ob_is h6) (fun v7 h6 => m_X12_top h6) (fun v7 h6 => ?_)
    refine q_bipush (x := (40 : Int32)) dX12_goesOn_19 rfl ?_
    refine q_icmp_eq (tgt := 26) dX12_goesOn_21 (by decide) (fun c19 => ?_) (fun c19 => ?_)
    · refine q_aload_n 1 dX12_goesOn_26 rfl ?_
      refine q_dup dX12_goesOn_27 rfl ?_
      refine q_getI (f := 8) cl_X12 (by decide) qw_1125 rfl dX12_goesOn_28 (Or.inl rfl) (fun v8 h9 => ?_)
      refine q_iconst (x := (1 : Int32)) dX12_goesOn_31 rfl ?_
      refine q_isub dX12_goesOn_32 ?_
      refine q_putI (f := 8) cl_X12 (by decide) qw_1125 rfl (Or.inl rfl) dX12_goesOn_33 rfl (fun M10 h11 => ?_)
      refine q_aload_n 1 dX12_goesOn_36 rfl ?_
      refine q_dup dX12_goesOn_37 rfl ?_
      refine q_getI (f := 12) cl_X12 (by decide) qw_1129 rfl dX12_goesOn_38 (Or.inl rfl) (fun v12 h13 => ?_)
      refine q_iconst (x := (1 : Int32)) dX12_goesOn_41 rfl ?_
      refine q_isub dX12_goesOn_42 ?_
      refine q_putI (f := 12) cl_X12 (by decide) qw_1129 rfl (Or.inl rfl) dX12_goesOn_43 rfl (fun M14 h15 => ?_)
      refine q_aload_n 1 dX12_goesOn_46 rfl ?_
      refine q_bipush (x := (7 : Int32)) dX12_goesOn_47 rfl ?_
      refine q_cVM (Y2 := Y_X12_settles) (As := [.int (7 : Int32)]) (b := a0) (st := []) cl_X12 mv_X12_settles qw_1410 dX12_goesOn_49 ⟨Nat.le_of_ble_eq_true rfl, Nat.le_of_ble_eq_true rfl⟩ rfl (fun _ _ => rfl) (Nat.le_of_ble_eq_true rfl) ⟨Nat.le_of_ble_eq_true rfl, Nat.le_of_ble_eq_true rfl⟩ (fun M18 h16 => q_ob_is h16) (fun M18 h16 => m_X12_settles h16) (fun M18 h16 => ?_)
      refine q_iconst (x := (1 : Int32)) dX12_goesOn_52 rfl ?_
      exact q_zretL dX12_goesOn_53 rfl (Or.inr rfl) rfl (Nat.le_of_ble_eq_true rfl) rfl
    · refine q_iconst (x := (0 : Int32)) dX12_goesOn_24 rfl ?_
      exact q_zretL dX12_goesOn_25 rfl (Or.inl rfl) rfl (Nat.le_of_ble_eq_true rfl) rfl
  · refine q_iload_n 2 dX12_goesOn_54 rfl ?_
    refine q_bipush (x := (58 : Int32)) dX12_goesOn_55 rfl ?_
    refine q_icmp_ne (tgt := 127) dX12_goesOn_57 (by decide) (fun c67 => ?_) (fun c67 => ?_)
    · refine q_aload_n 1 dX12_goesOn_60 rfl ?_
      refine q_cVM (Y2 := Y_X12_settlesChosen) (As := []) (b := a0) (st := []) cl_X12 mv_X12_settlesChosen qw_1406 dX12_goesOn_61 ⟨Nat.le_of_ble_eq_true rfl, Nat.le_of_ble_eq_true rfl⟩ rfl (fun _ _ => rfl) (Nat.le_of_ble_eq_true rfl) ⟨Nat.le_of_ble_eq_true rfl, Nat.le_of_ble_eq_true rfl⟩ (fun M22 h20 => q_ob_is h20) (fun M22 h20 => m_X12_settlesChosen h20) (fun M22 h20 => ?_)
      refine q_aload_n 1 dX12_goesOn_64 rfl ?_
      refine q_cVI (Y2 := Y_X12_top) (As := []) (b := a0) (st := []) cl_X12 mv_X12_top qw_1421 dX12_goesOn_65 ⟨Nat.le_of_ble_eq_true rfl, Nat.le_of_ble_eq_true rfl⟩ rfl (fun _ _ => rfl) (Nat.le_of_ble_eq_true rfl) ⟨Nat.le_of_ble_eq_true rfl, Nat.le_of_ble_eq_true rfl⟩ (fun v24 h23 => q_ob_is h23) (fun v24 h23 => m_X12_top h23) (fun v24 h23 => ?_)
      refine q_bipush (x := (63 : Int32)) dX12_goesOn_68 rfl ?_
      refine q_icmp_eq (tgt := 75) dX12_goesOn_70 (by decide) (fun c46 => ?_) (fun c46 => ?_)
      · refine q_aload_n 1 dX12_goesOn_75 rfl ?_
        refine q_getR (f := 10) cl_X12 (by decide) qw_1127 rfl dX12_goesOn_76 (fun _ _ _ => rfl) (fun v25 h26 => ?_)
        refine q_aload_n 1 dX12_goesOn_79 rfl ?_
        refine q_getI (f := 8) cl_X12 (by decide) qw_1125 rfl dX12_goesOn_80 (Or.inl rfl) (fun v27 h28 => ?_)
        refine q_iconst (x := (1 : Int32)) dX12_goesOn_83 rfl ?_
        refine q_isub dX12_goesOn_84 ?_
        refine q_iald dX12_goesOn_85 (fun v29 h30 => ?_)
        refine q_istore_n (ls' := [(3, .int v29), (2, .int v2), (0, .ref a0), (1, .int a1)]) dX12_goesOn_86 (by decide) rfl ?_
        refine q_aload_n 2 dX12_goesOn_87 rfl ?_
        refine q_dup dX12_goesOn_88 rfl ?_
        refine q_getI (f := 8) cl_X12 (by decide) qw_1125 rfl dX12_goesOn_89 (Or.inl rfl) (fun v31 h32 => ?_)
        refine q_iconst (x := (1 : Int32)) dX12_goesOn_92 rfl ?_
        refine q_isub dX12_goesOn_93 ?_
        refine q_putI (f := 8) cl_X12 (by decide) qw_1125 rfl (Or.inl rfl) dX12_goesOn_94 rfl (fun M33 h34 => ?_)
        refine q_aload_n 2 dX12_goesOn_97 rfl ?_
        refine q_bipush (x := (15 : Int32)) dX12_goesOn_98 rfl ?_
        refine q_iconst (x := (0 : Int32)) dX12_goesOn_100 rfl ?_
        refine q_cVMI (Y2 := Y_X12_emits) (As := [.int (15 : Int32), .int (0 : Int32)]) (b := a0) (st := []) cl_X12 mv_X12_emits qw_1414 dX12_goesOn_101 ⟨Nat.le_of_ble_eq_true rfl, Nat.le_of_ble_eq_true rfl⟩ rfl (fun _ _ => rfl) (Nat.le_of_ble_eq_true rfl) ⟨Nat.le_of_ble_eq_true rfl, Nat.le_of_ble_eq_true rfl⟩ (fun r36 h35 => q_ob_is h35) (fun r36 h35 => m_X12_emits h35) (fun r36 h35 => ?_)
        refine q_istore (ls' := [(4, .int r36.1), (3, .int v29), (2, .int v2), (0, .ref a0), (1, .int a1)]) dX12_goesOn_104 (by decide) rfl ?_
        refine q_aload_n 3 dX12_goesOn_106 rfl ?_
        refine q_getR (f := 6) cl_X12 (by decide) qw_1123 rfl dX12_goesOn_107 (fun _ _ _ => rfl) (fun v37 h38 => ?_)
        refine q_iload_n 1 dX12_goesOn_110 rfl ?_
        refine q_aload_n 3 dX12_goesOn_111 rfl ?_
        refine q_getI (f := 4) cl_X12 (by decide) qw_1121 rfl dX12_goesOn_112 (Or.inl rfl) (fun v39 h40 => ?_)
        refine q_iast dX12_goesOn_115 (fun M41 h42 => ?_)
        refine q_aload_n 3 dX12_goesOn_116 rfl ?_
        refine q_bipush (x := (58 : Int32)) dX12_goesOn_117 rfl ?_
        refine q_iload 0 dX12_goesOn_119 rfl ?_
        refine q_iload_n 1 dX12_goesOn_121 rfl ?_
        refine q_cVM (Y2 := Y_X12_waitsWith) (As := [.int (58 : Int32), .int r36.1, .int v29]) (b := a0) (st := []) cl_X12 mv_X12_waitsWith qw_1425 dX12_goesOn_122 ⟨Nat.le_of_ble_eq_true rfl, Nat.le_of_ble_eq_true rfl⟩ rfl (fun _ _ => rfl) (Nat.le_of_ble_eq_true rfl) ⟨Nat.le_of_ble_eq_true rfl, Nat.le_of_ble_eq_true rfl⟩ (fun M45 h43 => q_ob_is h43) (fun M45 h43 => m_X12_waitsWith h43) (fun M45 h43 => ?_)
        refine q_iconst (x := (1 : Int32)) dX12_goesOn_125 rfl ?_
        exact q_zretL dX12_goesOn_126 rfl (Or.inr rfl) rfl (Nat.le_of_ble_eq_true rfl) rfl
      · refine q_iconst (x := (0 : Int32)) dX12_goesOn_73 rfl ?_
        exact q_zretL dX12_goesOn_74 rfl (Or.inl rfl) rfl (Nat.le_of_ble_eq_true rfl) rfl
    · refine q_iload_n 2 dX12_goesOn_127 rfl ?_
      refine q_bipush (x := (63 : Int32)) dX12_goesOn_128 rfl ?_
      refine q_icmp_ne (tgt := 154) dX12_goesOn_130 (by decide) (fun c66 => ?_) (fun c66 => ?_)
      · refine q_aload_n 1 dX12_goesOn_133 rfl ?_
        refine q_iconst (x := (2 : Int32)) dX12_goesOn_134 rfl ?_
        refine q_cVM (Y2 := Y_X12_settles) (As := [.int (2 : Int32)]) (b := a0) (st := []) cl_X12 mv_X12_settles qw_1410 dX12_goesOn_135 ⟨Nat.le_of_ble_eq_true rfl, Nat.le_of_ble_eq_true rfl⟩ rfl (fun _ _ => rfl) (Nat.le_of_ble_eq_true rfl) ⟨Nat.le_of_ble_eq_true rfl, Nat.le_of_ble_eq_true rfl⟩ (fun M49 h47 => q_ob_is h47) (fun M49 h47 => m_X12_settles h47) (fun M49 h47 => ?_)
        refine q_aload_n 1 dX12_goesOn_138 rfl ?_
        refine q_bipush (x := (63 : Int32)) dX12_goesOn_139 rfl ?_
        refine q_aload_n 1 dX12_goesOn_141 rfl ?_
        refine q_bipush (x := (14 : Int32)) dX12_goesOn_142 rfl ?_
        refine q_iconst (x := (0 : Int32)) dX12_goesOn_144 rfl ?_
        refine q_cVMI (Y2 := Y_X12_emits) (As := [.int (14 : Int32), .int (0 : Int32)]) (b := a0) (st := [.int (63 : Int32), .ref a0]) cl_X12 mv_X12_emits qw_1414 dX12_goesOn_145 ⟨Nat.le_of_ble_eq_true rfl, Nat.le_of_ble_eq_true rfl⟩ rfl (fun _ _ => rfl) (Nat.le_of_ble_eq_true rfl) ⟨Nat.le_of_ble_eq_true rfl, Nat.le_of_ble_eq_true rfl⟩ (fun r51 h50 => q_ob_is h50) (fun r51 h50 => m_X12_emits h50) (fun r51 h50 => ?_)
        refine q_iconst (x := (0 : Int32)) dX12_goesOn_148 rfl ?_
        refine q_cVM (Y2 := Y_X12_waitsWith) (As := [.int (63 : Int32), .int r51.1, .int (0 : Int32)]) (b := a0) (st := []) cl_X12 mv_X12_waitsWith qw_1425 dX12_goesOn_149 ⟨Nat.le_of_ble_eq_true rfl, Nat.le_of_ble_eq_true rfl⟩ rfl (fun _ _ => rfl) (Nat.le_of_ble_eq_true rfl) ⟨Nat.le_of_ble_eq_true rfl, Nat.le_of_ble_eq_true rfl⟩ (fun M54 h52 => q_ob_is h52) (fun M54 h52 => m_X12_waitsWith h52) (fun M54 h52 => ?_)
        refine q_iconst (x := (1 : Int32)) dX12_goesOn_152 rfl ?_
        exact q_zretL dX12_goesOn_153 rfl (Or.inr rfl) rfl (Nat.le_of_ble_eq_true rfl) rfl
      · refine q_iload_n 0 dX12_goesOn_154 rfl ?_
        refine q_iconst (x := (2 : Int32)) dX12_goesOn_155 rfl ?_
        refine q_icmp_lt (tgt := 165) dX12_goesOn_156 (by decide) (fun c65 => ?_) (fun c65 => ?_)
        · refine q_iconst (x := (0 : Int32)) dX12_goesOn_165 rfl ?_
          exact q_zretL dX12_goesOn_166 rfl (Or.inl rfl) rfl (Nat.le_of_ble_eq_true rfl) rfl
        · refine q_iload_n 0 dX12_goesOn_159 rfl ?_
          refine q_bipush (x := (7 : Int32)) dX12_goesOn_160 rfl ?_
          refine q_icmp_ne (tgt := 167) dX12_goesOn_162 (by decide) (fun c64 => ?_) (fun c64 => ?_)
          · refine q_iconst (x := (0 : Int32)) dX12_goesOn_165 rfl ?_
            exact q_zretL dX12_goesOn_166 rfl (Or.inl rfl) rfl (Nat.le_of_ble_eq_true rfl) rfl
          · refine q_iload_n 0 dX12_goesOn_167 rfl ?_
            refine q_iconst (x := (4 : Int32)) dX12_goesOn_168 rfl ?_
            refine q_icmp_ne (tgt := 190) dX12_goesOn_169 (by decide) (fun c63 => ?_) (fun c63 => ?_)
            · refine q_aload_n 1 dX12_goesOn_172 rfl ?_
              refine q_iconst (x := (5 : Int32)) dX12_goesOn_173 rfl ?_
              refine q_cVM (Y2 := Y_X12_settles) (As := [.int (5 : Int32)]) (b := a0) (st := []) cl_X12 mv_X12_settles qw_1410 dX12_goesOn_174 ⟨Nat.le_of_ble_eq_true rfl, Nat.le_of_ble_eq_true rfl⟩ rfl (fun _ _ => rfl) (Nat.le_of_ble_eq_true rfl) ⟨Nat.le_of_ble_eq_true rfl, Nat.le_of_ble_eq_true rfl⟩ (fun M57 h55 => q_ob_is h55) (fun M57 h55 => m_X12_settles h55) (fun M57 h55 => ?_)
              refine q_aload_n 1 dX12_goesOn_177 rfl ?_
              refine q_cVI (Y2 := Y_X12_top) (As := []) (b := a0) (st := []) cl_X12 mv_X12_top qw_1421 dX12_goesOn_178 ⟨Nat.le_of_ble_eq_true rfl, Nat.le_of_ble_eq_true rfl⟩ rfl (fun _ _ => rfl) (Nat.le_of_ble_eq_true rfl) ⟨Nat.le_of_ble_eq_true rfl, Nat.le_of_ble_eq_true rfl⟩ (fun v59 h58 => q_ob_is h58) (fun v59 h58 => m_X12_top h58) (fun v59 h58 => ?_)
              refine q_cSI (Y2 := Y_X12_holds) (As := [.int v59]) (st := []) ms_X12_holds qw_1403 dX12_goesOn_181 ⟨Nat.le_of_ble_eq_true rfl, Nat.le_of_ble_eq_true rfl⟩ rfl (fun _ _ => rfl) (Nat.le_of_ble_eq_true rfl) ⟨Nat.le_of_ble_eq_true rfl, Nat.le_of_ble_eq_true rfl⟩ (fun v61 h60 => m_X12_holds h60) (fun v61 h60 => ?_)
              refine q_iconst (x := (4 : Int32)) dX12_goesOn_184 rfl ?_
              refine q_icmp_ne (tgt := 190) dX12_goesOn_185 (by decide) (fun c62 => ?_) (fun c62 => ?_)
              · refine q_iconst (x := (0 : Int32)) dX12_goesOn_188 rfl ?_
                exact q_zretL dX12_goesOn_189 rfl (Or.inl rfl) rfl (Nat.le_of_ble_eq_true rfl) rfl
              · refine q_sub (ls' := [(0, .ref a0), (1, .int a1), (2, .int v2)]) [1, 2, 0] rfl ?_
                exact v_X12_goesOn_b190
            · refine q_sub (ls' := [(0, .ref a0), (1, .int a1), (2, .int v2)]) [1, 2, 0] rfl ?_
              exact v_X12_goesOn_b190
theorem dX12_nameOf_0 : decode cX12_nameOf 0 = .ok (.iload_n 0, 1) := by decide +kernel
theorem dX12_nameOf_1 : decode cX12_nameOf 1 = .ok (.tableswitch 117 99 119 #[111, 117, 117, 101, 117, 117, 117, 117, 117, 117, 109, 103, 105, 117, 117, 114, 117, 107, 117, 117, 99], 99) := by decide +kernel
theorem dX12_nameOf_100 : decode cX12_nameOf 100 = .ok (.iconst 0, 1) := by decide +kernel
theorem dX12_nameOf_101 : decode cX12_nameOf 101 = .ok (.ireturn, 1) := by decide +kernel
theorem dX12_nameOf_102 : decode cX12_nameOf 102 = .ok (.iconst 1, 1) := by decide +kernel
theorem dX12_nameOf_103 : decode cX12_nameOf 103 = .ok (.ireturn, 1) := by decide +kernel
theorem dX12_nameOf_104 : decode cX12_nameOf 104 = .ok (.iconst 2, 1) := by decide +kernel
theorem dX12_nameOf_105 : decode cX12_nameOf 105 = .ok (.ireturn, 1) := by decide +kernel
theorem dX12_nameOf_106 : decode cX12_nameOf 106 = .ok (.iconst 3, 1) := by decide +kernel
theorem dX12_nameOf_107 : decode cX12_nameOf 107 = .ok (.ireturn, 1) := by decide +kernel
theorem dX12_nameOf_108 : decode cX12_nameOf 108 = .ok (.iconst 4, 1) := by decide +kernel
theorem dX12_nameOf_109 : decode cX12_nameOf 109 = .ok (.ireturn, 1) := by decide +kernel
theorem dX12_nameOf_110 : decode cX12_nameOf 110 = .ok (.iconst 5, 1) := by decide +kernel
theorem dX12_nameOf_111 : decode cX12_nameOf 111 = .ok (.ireturn, 1) := by decide +kernel
theorem dX12_nameOf_112 : decode cX12_nameOf 112 = .ok (.bipush 6, 2) := by decide +kernel
theorem dX12_nameOf_114 : decode cX12_nameOf 114 = .ok (.ireturn, 1) := by decide +kernel
theorem dX12_nameOf_115 : decode cX12_nameOf 115 = .ok (.bipush 7, 2) := by decide +kernel
theorem dX12_nameOf_117 : decode cX12_nameOf 117 = .ok (.ireturn, 1) := by decide +kernel
theorem dX12_nameOf_118 : decode cX12_nameOf 118 = .ok (.iconst (-1), 1) := by decide +kernel
theorem dX12_nameOf_119 : decode cX12_nameOf 119 = .ok (.ireturn, 1) := by decide +kernel
def f_X12_nameOf (M : q_Mem) (a0 : Int32) : Option Int32 :=
  (if a0 < 99 then
    some (-1 : Int32)
  else
   (if a0 = 99 then
    some (6 : Int32)
   else
   (if a0 = 100 then
    some (-1 : Int32)
   else
   (if a0 = 101 then
    some (-1 : Int32)
   else
   (if a0 = 102 then
    some (1 : Int32)
   else
   (if a0 = 103 then
    some (-1 : Int32)
   else
   (if a0 = 104 then
    some (-1 : Int32)
   else
   (if a0 = 105 then
    some (-1 : Int32)
   else
   (if a0 = 106 then
    some (-1 : Int32)
   else
   (if a0 = 107 then
    some (-1 : Int32)
   else
   (if a0 = 108 then
    some (-1 : Int32)
   else
   (if a0 = 109 then
    some (5 : Int32)
   else
   (if a0 = 110 then
    some (2 : Int32)
   else
   (if a0 = 111 then
    some (3 : Int32)
   else
   (if a0 = 112 then
    some (-1 : Int32)
   else
   (if a0 = 113 then
    some (-1 : Int32)
   else
   (if a0 = 114 then
    some (7 : Int32)
   else
   (if a0 = 115 then
    some (-1 : Int32)
   else
   (if a0 = 116 then
    some (4 : Int32)
   else
   (if a0 = 117 then
    some (-1 : Int32)
   else
   (if a0 = 118 then
    some (-1 : Int32)
   else
   (if a0 = 119 then
    some (0 : Int32)
   else
   some (-1 : Int32)))))))))))))))))))))))
set_option maxRecDepth 20000 in
theorem m_X12_nameOf {M : q_Mem} {a0 : Int32} {x : Int32} (h : f_X12_nameOf M a0 = some x) : q_C Y_X12_nameOf [.int a0] M (some (.int x)) M := by
  refine q_met (φ := (fun x : Int32 => (some (.int x), M))) (r := f_X12_nameOf M a0) (by decide +kernel) (Nat.le_of_ble_eq_true rfl) ?_ h (fun _ _ => rfl)
  show q_V Y_X12_nameOf none (fun x : Int32 => (some (.int x), M)) 0 0 0 [(0, .int a0)] [] M (f_X12_nameOf M a0)
  unfold f_X12_nameOf
  refine q_iload_n 0 dX12_nameOf_0 rfl ?_
  refine q_ifV (fun c1 => ?_) (fun c1 => ?_)
  · refine q_tabOut (tgt := 118) dX12_nameOf_1 (Or.inl (q_lt c1 rfl)) (by decide) ?_
    refine q_iconst (x := (-1 : Int32)) dX12_nameOf_118 rfl ?_
    exact q_iret dX12_nameOf_119 rfl rfl (Nat.le_of_ble_eq_true rfl) rfl
  · have b2 := q_nlt (b := 99) c1 rfl
    refine q_ifV (fun c3 => ?_) (fun c3 => ?_)
    · refine q_tabIn (tgt := 112) 99 dX12_nameOf_1 c3 (by decide) (by decide) rfl (by decide) ?_
      refine q_bipush (x := (6 : Int32)) dX12_nameOf_112 rfl ?_
      exact q_iret dX12_nameOf_114 rfl rfl (Nat.le_of_ble_eq_true rfl) rfl
    · have b4 := q_step (c := 100) b2 c3 rfl (by decide)
      refine q_ifV (fun c5 => ?_) (fun c5 => ?_)
      · refine q_tabIn (tgt := 118) 100 dX12_nameOf_1 c5 (by decide) (by decide) rfl (by decide) ?_
        refine q_iconst (x := (-1 : Int32)) dX12_nameOf_118 rfl ?_
        exact q_iret dX12_nameOf_119 rfl rfl (Nat.le_of_ble_eq_true rfl) rfl
      · have b6 := q_step (c := 101) b4 c5 rfl (by decide)
        refine q_ifV (fun c7 => ?_) (fun c7 => ?_)
        · refine q_tabIn (tgt := 118) 101 dX12_nameOf_1 c7 (by decide) (by decide) rfl (by decide) ?_
          refine q_iconst (x := (-1 : Int32)) dX12_nameOf_118 rfl ?_
          exact q_iret dX12_nameOf_119 rfl rfl (Nat.le_of_ble_eq_true rfl) rfl
        · have b8 := q_step (c := 102) b6 c7 rfl (by decide)
          refine q_ifV (fun c9 => ?_) (fun c9 => ?_)
          · refine q_tabIn (tgt := 102) 102 dX12_nameOf_1 c9 (by decide) (by decide) rfl (by decide) ?_
            refine q_iconst (x := (1 : Int32)) dX12_nameOf_102 rfl ?_
            exact q_iret dX12_nameOf_103 rfl rfl (Nat.le_of_ble_eq_true rfl) rfl
          · have b10 := q_step (c := 103) b8 c9 rfl (by decide)
            refine q_ifV (fun c11 => ?_) (fun c11 => ?_)
            · refine q_tabIn (tgt := 118) 103 dX12_nameOf_1 c11 (by decide) (by decide) rfl (by decide) ?_
              refine q_iconst (x := (-1 : Int32)) dX12_nameOf_118 rfl ?_
              exact q_iret dX12_nameOf_119 rfl rfl (Nat.le_of_ble_eq_true rfl) rfl
            · have b12 := q_step (c := 104) b10 c11 rfl (by decide)
              refine q_ifV (fun c13 => ?_) (fun c13 => ?_)
              · refine q_tabIn (tgt := 118) 104 dX12_nameOf_1 c13 (by decide) (by decide) rfl (by decide) ?_
                refine q_iconst (x := (-1 : Int32)) dX12_nameOf_118 rfl ?_
                exact q_iret dX12_nameOf_119 rfl rfl (Nat.le_of_ble_eq_true rfl) rfl
              · have b14 := q_step (c := 105) b12 c13 rfl (by decide)
                refine q_ifV (fun c15 => ?_) (fun c15 => ?_)
                · refine q_tabIn (tgt := 118) 105 dX12_nameOf_1 c15 (by decide) (by decide) rfl (by decide) ?_
                  refine q_iconst (x := (-1 : Int32)) dX12_nameOf_118 rfl ?_
                  exact q_iret dX12_nameOf_119 rfl rfl (Nat.le_of_ble_eq_true rfl) rfl
                · have b16 := q_step (c := 106) b14 c15 rfl (by decide)
                  refine q_ifV (fun c17 => ?_) (fun c17 => ?_)
                  · refine q_tabIn (tgt := 118) 106 dX12_nameOf_1 c17 (by decide) (by decide) rfl (by decide) ?_
                    refine q_iconst (x := (-1 : Int32)) dX12_nameOf_118 rfl ?_
                    exact q_iret dX12_nameOf_119 rfl rfl (Nat.le_of_ble_eq_true rfl) rfl
                  · have b18 := q_step (c := 107) b16 c17 rfl (by decide)
                    refine q_ifV (fun c19 => ?_) (fun c19 => ?_)
                    · refine q_tabIn (tgt := 118) 107 dX12_nameOf_1 c19 (by decide) (by decide) rfl (by decide) ?_
                      refine q_iconst (x := (-1 : Int32)) dX12_nameOf_118 rfl ?_
                      exact q_iret dX12_nameOf_119 rfl rfl (Nat.le_of_ble_eq_true rfl) rfl
                    · have b20 := q_step (c := 108) b18 c19 rfl (by decide)
                      refine q_ifV (fun c21 => ?_) (fun c21 => ?_)
                      · refine q_tabIn (tgt := 118) 108 dX12_nameOf_1 c21 (by decide) (by decide) rfl (by decide) ?_
                        refine q_iconst (x := (-1 : Int32)) dX12_nameOf_118 rfl ?_
                        exact q_iret dX12_nameOf_119 rfl rfl (Nat.le_of_ble_eq_true rfl) rfl
                      · have b22 := q_step (c := 109) b20 c21 rfl (by decide)
                        refine q_ifV (fun c23 => ?_) (fun c23 => ?_)
                        · refine q_tabIn (tgt := 110) 109 dX12_nameOf_1 c23 (by decide) (by decide) rfl (by decide) ?_
                          refine q_iconst (x := (5 : Int32)) dX12_nameOf_110 rfl ?_
                          exact q_iret dX12_nameOf_111 rfl rfl (Nat.le_of_ble_eq_true rfl) rfl
                        · have b24 := q_step (c := 110) b22 c23 rfl (by decide)
                          refine q_ifV (fun c25 => ?_) (fun c25 => ?_)
                          · refine q_tabIn (tgt := 104) 110 dX12_nameOf_1 c25 (by decide) (by decide) rfl (by decide) ?_
                            refine q_iconst (x := (2 : Int32)) dX12_nameOf_104 rfl ?_
                            exact q_iret dX12_nameOf_105 rfl rfl (Nat.le_of_ble_eq_true rfl) rfl
                          · have b26 := q_step (c := 111) b24 c25 rfl (by decide)
                            refine q_ifV (fun c27 => ?_) (fun c27 => ?_)
                            · refine q_tabIn (tgt := 106) 111 dX12_nameOf_1 c27 (by decide) (by decide) rfl (by decide) ?_
                              refine q_iconst (x := (3 : Int32)) dX12_nameOf_106 rfl ?_
                              exact q_iret dX12_nameOf_107 rfl rfl (Nat.le_of_ble_eq_true rfl) rfl
                            · have b28 := q_step (c := 112) b26 c27 rfl (by decide)
                              refine q_ifV (fun c29 => ?_) (fun c29 => ?_)
                              · refine q_tabIn (tgt := 118) 112 dX12_nameOf_1 c29 (by decide) (by decide) rfl (by decide) ?_
                                refine q_iconst (x := (-1 : Int32)) dX12_nameOf_118 rfl ?_
                                exact q_iret dX12_nameOf_119 rfl rfl (Nat.le_of_ble_eq_true rfl) rfl
                              · have b30 := q_step (c := 113) b28 c29 rfl (by decide)
                                refine q_ifV (fun c31 => ?_) (fun c31 => ?_)
                                · refine q_tabIn (tgt := 118) 113 dX12_nameOf_1 c31 (by decide) (by decide) rfl (by decide) ?_
                                  refine q_iconst (x := (-1 : Int32)) dX12_nameOf_118 rfl ?_
                                  exact q_iret dX12_nameOf_119 rfl rfl (Nat.le_of_ble_eq_true rfl) rfl
                                · have b32 := q_step (c := 114) b30 c31 rfl (by decide)
                                  refine q_ifV (fun c33 => ?_) (fun c33 => ?_)
                                  · refine q_tabIn (tgt := 115) 114 dX12_nameOf_1 c33 (by decide) (by decide) rfl (by decide) ?_
                                    refine q_bipush (x := (7 : Int32)) dX12_nameOf_115 rfl ?_
                                    exact q_iret dX12_nameOf_117 rfl rfl (Nat.le_of_ble_eq_true rfl) rfl
                                  · have b34 := q_step (c := 115) b32 c33 rfl (by decide)
                                    refine q_ifV (fun c35 => ?_) (fun c35 => ?_)
                                    · refine q_tabIn (tgt := 118) 115 dX12_nameOf_1 c35 (by decide) (by decide) rfl (by decide) ?_
                                      refine q_iconst (x := (-1 : Int32)) dX12_nameOf_118 rfl ?_
                                      exact q_iret dX12_nameOf_119 rfl rfl (Nat.le_of_ble_eq_true rfl) rfl
                                    · have b36 := q_step (c := 116) b34 c35 rfl (by decide)
                                      refine q_ifV (fun c37 => ?_) (fun c37 => ?_)
                                      · refine q_tabIn (tgt := 108) 116 dX12_nameOf_1 c37 (by decide) (by decide) rfl (by decide) ?_
                                        refine q_iconst (x := (4 : Int32)) dX12_nameOf_108 rfl ?_
                                        exact q_iret dX12_nameOf_109 rfl rfl (Nat.le_of_ble_eq_true rfl) rfl
                                      · have b38 := q_step (c := 117) b36 c37 rfl (by decide)
                                        refine q_ifV (fun c39 => ?_) (fun c39 => ?_)
                                        · refine q_tabIn (tgt := 118) 117 dX12_nameOf_1 c39 (by decide) (by decide) rfl (by decide) ?_
                                          refine q_iconst (x := (-1 : Int32)) dX12_nameOf_118 rfl ?_
                                          exact q_iret dX12_nameOf_119 rfl rfl (Nat.le_of_ble_eq_true rfl) rfl
                                        · have b40 := q_step (c := 118) b38 c39 rfl (by decide)
                                          refine q_ifV (fun c41 => ?_) (fun c41 => ?_)
                                          · refine q_tabIn (tgt := 118) 118 dX12_nameOf_1 c41 (by decide) (by decide) rfl (by decide) ?_
                                            refine q_iconst (x := (-1 : Int32)) dX12_nameOf_118 rfl ?_
                                            exact q_iret dX12_nameOf_119 rfl rfl (Nat.le_of_ble_eq_true rfl) rfl
                                          · have b42 := q_step (c := 119) b40 c41 rfl (by decide)
                                            refine q_ifV (fun c43 => ?_) (fun c43 => ?_)
                                            · refine q_tabIn (tgt := 100) 119 dX12_nameOf_1 c43 (by decide) (by decide) rfl (by decide) ?_
                                              refine q_iconst (x := (0 : Int32)) dX12_nameOf_100 rfl ?_
                                              exact q_iret dX12_nameOf_101 rfl rfl (Nat.le_of_ble_eq_true rfl) rfl
                                            · have b44 := q_step (c := 120) b42 c43 rfl (by decide)
                                              refine q_tabOut (tgt := 118) dX12_nameOf_1 (Or.inr (Int.lt_of_lt_of_le (by decide) b44)) (by decide) ?_
                                              refine q_iconst (x := (-1 : Int32)) dX12_nameOf_118 rfl ?_
                                              exact q_iret dX12_nameOf_119 rfl rfl (Nat.le_of_ble_eq_true rfl) rfl
theorem dX12_reads_0 : decode cX12_reads 0 = .ok (.aload_n 0, 1) := by decide +kernel
theorem dX12_reads_1 : decode cX12_reads 1 = .ok (.iconst 0, 1) := by decide +kernel
theorem dX12_reads_2 : decode cX12_reads 2 = .ok (.putfield 164, 3) := by decide +kernel
theorem dX12_reads_5 : decode cX12_reads 5 = .ok (.aload_n 0, 1) := by decide +kernel
theorem dX12_reads_6 : decode cX12_reads 6 = .ok (.iconst 0, 1) := by decide +kernel
theorem dX12_reads_7 : decode cX12_reads 7 = .ok (.putfield 168, 3) := by decide +kernel
theorem dX12_reads_10 : decode cX12_reads 10 = .ok (.aload_n 0, 1) := by decide +kernel
theorem dX12_reads_11 : decode cX12_reads 11 = .ok (.iconst 0, 1) := by decide +kernel
theorem dX12_reads_12 : decode cX12_reads 12 = .ok (.putfield 189, 3) := by decide +kernel
theorem dX12_reads_15 : decode cX12_reads 15 = .ok (.aload_n 0, 1) := by decide +kernel
theorem dX12_reads_16 : decode cX12_reads 16 = .ok (.getfield 7, 3) := by decide +kernel
theorem dX12_reads_19 : decode cX12_reads 19 = .ok (.iload_n 1, 1) := by decide +kernel
theorem dX12_reads_20 : decode cX12_reads 20 = .ok (.iaload, 1) := by decide +kernel
theorem dX12_reads_21 : decode cX12_reads 21 = .ok (.istore_n 2, 1) := by decide +kernel
theorem dX12_reads_22 : decode cX12_reads 22 = .ok (.iconst 0, 1) := by decide +kernel
theorem dX12_reads_23 : decode cX12_reads 23 = .ok (.istore_n 3, 1) := by decide +kernel
theorem dX12_reads_24 : decode cX12_reads 24 = .ok (.iconst 0, 1) := by decide +kernel
theorem dX12_reads_25 : decode cX12_reads 25 = .ok (.istore 4, 2) := by decide +kernel
theorem dX12_reads_27 : decode cX12_reads 27 = .ok (.iload 4, 2) := by decide +kernel
theorem dX12_reads_29 : decode cX12_reads 29 = .ok (.iload_n 2, 1) := by decide +kernel
theorem dX12_reads_30 : decode cX12_reads 30 = .ok (.if_icmp .ge 313, 3) := by decide +kernel
theorem dX12_reads_33 : decode cX12_reads 33 = .ok (.aload_n 0, 1) := by decide +kernel
theorem dX12_reads_34 : decode cX12_reads 34 = .ok (.getfield 7, 3) := by decide +kernel
theorem dX12_reads_37 : decode cX12_reads 37 = .ok (.iload_n 1, 1) := by decide +kernel
theorem dX12_reads_38 : decode cX12_reads 38 = .ok (.iconst 1, 1) := by decide +kernel
theorem dX12_reads_39 : decode cX12_reads 39 = .ok (.iadd, 1) := by decide +kernel
theorem dX12_reads_40 : decode cX12_reads 40 = .ok (.iload 4, 2) := by decide +kernel
theorem dX12_reads_42 : decode cX12_reads 42 = .ok (.iadd, 1) := by decide +kernel
theorem dX12_reads_43 : decode cX12_reads 43 = .ok (.iaload, 1) := by decide +kernel
theorem dX12_reads_44 : decode cX12_reads 44 = .ok (.istore 5, 2) := by decide +kernel
theorem dX12_reads_46 : decode cX12_reads 46 = .ok (.iload 5, 2) := by decide +kernel
theorem dX12_reads_48 : decode cX12_reads 48 = .ok (.bipush 32, 2) := by decide +kernel
theorem dX12_reads_50 : decode cX12_reads 50 = .ok (.if_icmp .ne 9, 3) := by decide +kernel
theorem dX12_reads_53 : decode cX12_reads 53 = .ok (.iinc 4 1, 3) := by decide +kernel
theorem dX12_reads_56 : decode cX12_reads 56 = .ok (.goto 284, 3) := by decide +kernel
theorem dX12_reads_59 : decode cX12_reads 59 = .ok (.iload_n 3, 1) := by decide +kernel
theorem dX12_reads_60 : decode cX12_reads 60 = .ok (.ifCond .eq 39, 3) := by decide +kernel
theorem dX12_reads_63 : decode cX12_reads 63 = .ok (.aload_n 0, 1) := by decide +kernel
theorem dX12_reads_64 : decode cX12_reads 64 = .ok (.iload 5, 2) := by decide +kernel
theorem dX12_reads_66 : decode cX12_reads 66 = .ok (.invokevirtual 196, 3) := by decide +kernel
theorem dX12_reads_69 : decode cX12_reads 69 = .ok (.ifCond .ne 11, 3) := by decide +kernel
theorem dX12_reads_72 : decode cX12_reads 72 = .ok (.bipush 10, 2) := by decide +kernel
theorem dX12_reads_74 : decode cX12_reads 74 = .ok (.iload 4, 2) := by decide +kernel
theorem dX12_reads_76 : decode cX12_reads 76 = .ok (.imul, 1) := by decide +kernel
theorem dX12_reads_77 : decode cX12_reads 77 = .ok (.iconst 1, 1) := by decide +kernel
theorem dX12_reads_78 : decode cX12_reads 78 = .ok (.iadd, 1) := by decide +kernel
theorem dX12_reads_79 : decode cX12_reads 79 = .ok (.ireturn, 1) := by decide +kernel
theorem dX12_reads_80 : decode cX12_reads 80 = .ok (.iload 5, 2) := by decide +kernel
theorem dX12_reads_82 : decode cX12_reads 82 = .ok (.bipush 41, 2) := by decide +kernel
theorem dX12_reads_84 : decode cX12_reads 84 = .ok (.if_icmp .ne 7, 3) := by decide +kernel
theorem dX12_reads_87 : decode cX12_reads 87 = .ok (.iconst 1, 1) := by decide +kernel
theorem dX12_reads_88 : decode cX12_reads 88 = .ok (.goto 4, 3) := by decide +kernel
theorem dX12_reads_91 : decode cX12_reads 91 = .ok (.iconst 0, 1) := by decide +kernel
theorem dX12_reads_92 : decode cX12_reads 92 = .ok (.istore_n 3, 1) := by decide +kernel
theorem dX12_reads_93 : decode cX12_reads 93 = .ok (.iinc 4 1, 3) := by decide +kernel
theorem dX12_reads_96 : decode cX12_reads 96 = .ok (.goto 244, 3) := by decide +kernel
theorem dX12_reads_99 : decode cX12_reads 99 = .ok (.iload 5, 2) := by decide +kernel
theorem dX12_reads_101 : decode cX12_reads 101 = .ok (.bipush 48, 2) := by decide +kernel
theorem dX12_reads_103 : decode cX12_reads 103 = .ok (.bipush 57, 2) := by decide +kernel
theorem dX12_reads_105 : decode cX12_reads 105 = .ok (.invokestatic 78, 3) := by decide +kernel
theorem dX12_reads_108 : decode cX12_reads 108 = .ok (.ifCond .eq 102, 3) := by decide +kernel
theorem dX12_reads_111 : decode cX12_reads 111 = .ok (.iload 4, 2) := by decide +kernel
theorem dX12_reads_113 : decode cX12_reads 113 = .ok (.istore 6, 2) := by decide +kernel
theorem dX12_reads_115 : decode cX12_reads 115 = .ok (.iconst 0, 1) := by decide +kernel
theorem dX12_reads_116 : decode cX12_reads 116 = .ok (.istore 7, 2) := by decide +kernel
theorem dX12_reads_118 : decode cX12_reads 118 = .ok (.iload 4, 2) := by decide +kernel
theorem dX12_reads_120 : decode cX12_reads 120 = .ok (.iload_n 2, 1) := by decide +kernel
theorem dX12_reads_121 : decode cX12_reads 121 = .ok (.if_icmp .ge 70, 3) := by decide +kernel
theorem dX12_reads_124 : decode cX12_reads 124 = .ok (.aload_n 0, 1) := by decide +kernel
theorem dX12_reads_125 : decode cX12_reads 125 = .ok (.getfield 7, 3) := by decide +kernel
theorem dX12_reads_128 : decode cX12_reads 128 = .ok (.iload_n 1, 1) := by decide +kernel
theorem dX12_reads_129 : decode cX12_reads 129 = .ok (.iconst 1, 1) := by decide +kernel
theorem dX12_reads_130 : decode cX12_reads 130 = .ok (.iadd, 1) := by decide +kernel
theorem dX12_reads_131 : decode cX12_reads 131 = .ok (.iload 4, 2) := by decide +kernel
theorem dX12_reads_133 : decode cX12_reads 133 = .ok (.iadd, 1) := by decide +kernel
theorem dX12_reads_134 : decode cX12_reads 134 = .ok (.iaload, 1) := by decide +kernel
theorem dX12_reads_135 : decode cX12_reads 135 = .ok (.bipush 48, 2) := by decide +kernel
theorem dX12_reads_137 : decode cX12_reads 137 = .ok (.bipush 57, 2) := by decide +kernel
theorem dX12_reads_139 : decode cX12_reads 139 = .ok (.invokestatic 78, 3) := by decide +kernel
theorem dX12_reads_142 : decode cX12_reads 142 = .ok (.ifCond .eq 49, 3) := by decide +kernel
theorem dX12_reads_145 : decode cX12_reads 145 = .ok (.iload 4, 2) := by decide +kernel
theorem dX12_reads_147 : decode cX12_reads 147 = .ok (.iload 6, 2) := by decide +kernel
theorem dX12_reads_149 : decode cX12_reads 149 = .ok (.isub, 1) := by decide +kernel
theorem dX12_reads_150 : decode cX12_reads 150 = .ok (.bipush 6, 2) := by decide +kernel
theorem dX12_reads_152 : decode cX12_reads 152 = .ok (.if_icmp .ne 11, 3) := by decide +kernel
theorem dX12_reads_155 : decode cX12_reads 155 = .ok (.bipush 10, 2) := by decide +kernel
theorem dX12_reads_157 : decode cX12_reads 157 = .ok (.iload 6, 2) := by decide +kernel
theorem dX12_reads_159 : decode cX12_reads 159 = .ok (.imul, 1) := by decide +kernel
theorem dX12_reads_160 : decode cX12_reads 160 = .ok (.iconst 2, 1) := by decide +kernel
theorem dX12_reads_161 : decode cX12_reads 161 = .ok (.iadd, 1) := by decide +kernel
theorem dX12_reads_162 : decode cX12_reads 162 = .ok (.ireturn, 1) := by decide +kernel
theorem dX12_reads_163 : decode cX12_reads 163 = .ok (.bipush 10, 2) := by decide +kernel
theorem dX12_reads_165 : decode cX12_reads 165 = .ok (.iload 7, 2) := by decide +kernel
theorem dX12_reads_167 : decode cX12_reads 167 = .ok (.imul, 1) := by decide +kernel
theorem dX12_reads_168 : decode cX12_reads 168 = .ok (.aload_n 0, 1) := by decide +kernel
theorem dX12_reads_169 : decode cX12_reads 169 = .ok (.getfield 7, 3) := by decide +kernel
theorem dX12_reads_172 : decode cX12_reads 172 = .ok (.iload_n 1, 1) := by decide +kernel
theorem dX12_reads_173 : decode cX12_reads 173 = .ok (.iconst 1, 1) := by decide +kernel
theorem dX12_reads_174 : decode cX12_reads 174 = .ok (.iadd, 1) := by decide +kernel
theorem dX12_reads_175 : decode cX12_reads 175 = .ok (.iload 4, 2) := by decide +kernel
theorem dX12_reads_177 : decode cX12_reads 177 = .ok (.iadd, 1) := by decide +kernel
theorem dX12_reads_178 : decode cX12_reads 178 = .ok (.iaload, 1) := by decide +kernel
theorem dX12_reads_179 : decode cX12_reads 179 = .ok (.iadd, 1) := by decide +kernel
theorem dX12_reads_180 : decode cX12_reads 180 = .ok (.bipush 48, 2) := by decide +kernel
theorem dX12_reads_182 : decode cX12_reads 182 = .ok (.isub, 1) := by decide +kernel
theorem dX12_reads_183 : decode cX12_reads 183 = .ok (.istore 7, 2) := by decide +kernel
theorem dX12_reads_185 : decode cX12_reads 185 = .ok (.iinc 4 1, 3) := by decide +kernel
theorem dX12_reads_188 : decode cX12_reads 188 = .ok (.goto (-70), 3) := by decide +kernel
theorem dX12_reads_191 : decode cX12_reads 191 = .ok (.aload_n 0, 1) := by decide +kernel
theorem dX12_reads_192 : decode cX12_reads 192 = .ok (.iconst 0, 1) := by decide +kernel
theorem dX12_reads_193 : decode cX12_reads 193 = .ok (.iload 7, 2) := by decide +kernel
theorem dX12_reads_195 : decode cX12_reads 195 = .ok (.invokevirtual 174, 3) := by decide +kernel
theorem dX12_reads_198 : decode cX12_reads 198 = .ok (.pop, 1) := by decide +kernel
theorem dX12_reads_199 : decode cX12_reads 199 = .ok (.aload_n 0, 1) := by decide +kernel
theorem dX12_reads_200 : decode cX12_reads 200 = .ok (.bipush 7, 2) := by decide +kernel
theorem dX12_reads_202 : decode cX12_reads 202 = .ok (.invokevirtual 180, 3) := by decide +kernel
theorem dX12_reads_205 : decode cX12_reads 205 = .ok (.iconst 1, 1) := by decide +kernel
theorem dX12_reads_206 : decode cX12_reads 206 = .ok (.istore_n 3, 1) := by decide +kernel
theorem dX12_reads_207 : decode cX12_reads 207 = .ok (.goto 133, 3) := by decide +kernel
theorem dX12_reads_210 : decode cX12_reads 210 = .ok (.iload 5, 2) := by decide +kernel
theorem dX12_reads_212 : decode cX12_reads 212 = .ok (.invokestatic 199, 3) := by decide +kernel
theorem dX12_reads_215 : decode cX12_reads 215 = .ok (.iconst (-1), 1) := by decide +kernel
theorem dX12_reads_216 : decode cX12_reads 216 = .ok (.if_icmp .eq 28, 3) := by decide +kernel
theorem dX12_reads_219 : decode cX12_reads 219 = .ok (.aload_n 0, 1) := by decide +kernel
theorem dX12_reads_220 : decode cX12_reads 220 = .ok (.iconst 1, 1) := by decide +kernel
theorem dX12_reads_221 : decode cX12_reads 221 = .ok (.iload 5, 2) := by decide +kernel
theorem dX12_reads_223 : decode cX12_reads 223 = .ok (.invokestatic 199, 3) := by decide +kernel
theorem dX12_reads_226 : decode cX12_reads 226 = .ok (.invokevirtual 174, 3) := by decide +kernel
theorem dX12_reads_229 : decode cX12_reads 229 = .ok (.pop, 1) := by decide +kernel
theorem dX12_reads_230 : decode cX12_reads 230 = .ok (.aload_n 0, 1) := by decide +kernel
theorem dX12_reads_231 : decode cX12_reads 231 = .ok (.bipush 7, 2) := by decide +kernel
theorem dX12_reads_233 : decode cX12_reads 233 = .ok (.invokevirtual 180, 3) := by decide +kernel
theorem dX12_reads_236 : decode cX12_reads 236 = .ok (.iconst 1, 1) := by decide +kernel
theorem dX12_reads_237 : decode cX12_reads 237 = .ok (.istore_n 3, 1) := by decide +kernel
theorem dX12_reads_238 : decode cX12_reads 238 = .ok (.iinc 4 1, 3) := by decide +kernel
theorem dX12_reads_241 : decode cX12_reads 241 = .ok (.goto 99, 3) := by decide +kernel
theorem dX12_reads_244 : decode cX12_reads 244 = .ok (.iload 5, 2) := by decide +kernel
theorem dX12_reads_246 : decode cX12_reads 246 = .ok (.bipush 40, 2) := by decide +kernel
theorem dX12_reads_248 : decode cX12_reads 248 = .ok (.if_icmp .ne 44, 3) := by decide +kernel
theorem dX12_reads_251 : decode cX12_reads 251 = .ok (.aload_n 0, 1) := by decide +kernel
theorem dX12_reads_252 : decode cX12_reads 252 = .ok (.getfield 189, 3) := by decide +kernel
theorem dX12_reads_255 : decode cX12_reads 255 = .ok (.bipush 8, 2) := by decide +kernel
theorem dX12_reads_257 : decode cX12_reads 257 = .ok (.if_icmp .ne 11, 3) := by decide +kernel
theorem dX12_reads_260 : decode cX12_reads 260 = .ok (.bipush 10, 2) := by decide +kernel
theorem dX12_reads_262 : decode cX12_reads 262 = .ok (.iload 4, 2) := by decide +kernel
theorem dX12_reads_264 : decode cX12_reads 264 = .ok (.imul, 1) := by decide +kernel
theorem dX12_reads_265 : decode cX12_reads 265 = .ok (.iconst 3, 1) := by decide +kernel
theorem dX12_reads_266 : decode cX12_reads 266 = .ok (.iadd, 1) := by decide +kernel
theorem dX12_reads_267 : decode cX12_reads 267 = .ok (.ireturn, 1) := by decide +kernel
theorem dX12_reads_268 : decode cX12_reads 268 = .ok (.aload_n 0, 1) := by decide +kernel
theorem dX12_reads_269 : decode cX12_reads 269 = .ok (.dup, 1) := by decide +kernel
theorem dX12_reads_270 : decode cX12_reads 270 = .ok (.getfield 189, 3) := by decide +kernel
theorem dX12_reads_273 : decode cX12_reads 273 = .ok (.iconst 1, 1) := by decide +kernel
theorem dX12_reads_274 : decode cX12_reads 274 = .ok (.iadd, 1) := by decide +kernel
theorem dX12_reads_275 : decode cX12_reads 275 = .ok (.putfield 189, 3) := by decide +kernel
theorem dX12_reads_278 : decode cX12_reads 278 = .ok (.aload_n 0, 1) := by decide +kernel
theorem dX12_reads_279 : decode cX12_reads 279 = .ok (.bipush 40, 2) := by decide +kernel
theorem dX12_reads_281 : decode cX12_reads 281 = .ok (.iconst 0, 1) := by decide +kernel
theorem dX12_reads_282 : decode cX12_reads 282 = .ok (.iconst 0, 1) := by decide +kernel
theorem dX12_reads_283 : decode cX12_reads 283 = .ok (.invokevirtual 192, 3) := by decide +kernel
theorem dX12_reads_286 : decode cX12_reads 286 = .ok (.iinc 4 1, 3) := by decide +kernel
theorem dX12_reads_289 : decode cX12_reads 289 = .ok (.goto 51, 3) := by decide +kernel
theorem dX12_reads_292 : decode cX12_reads 292 = .ok (.iload 5, 2) := by decide +kernel
theorem dX12_reads_294 : decode cX12_reads 294 = .ok (.bipush 33, 2) := by decide +kernel
theorem dX12_reads_296 : decode cX12_reads 296 = .ok (.if_icmp .eq 10, 3) := by decide +kernel
theorem dX12_reads_299 : decode cX12_reads 299 = .ok (.iload 5, 2) := by decide +kernel
theorem dX12_reads_301 : decode cX12_reads 301 = .ok (.bipush 45, 2) := by decide +kernel
theorem dX12_reads_303 : decode cX12_reads 303 = .ok (.if_icmp .ne 29, 3) := by decide +kernel
theorem dX12_reads_306 : decode cX12_reads 306 = .ok (.aload_n 0, 1) := by decide +kernel
theorem dX12_reads_307 : decode cX12_reads 307 = .ok (.iload 5, 2) := by decide +kernel
theorem dX12_reads_309 : decode cX12_reads 309 = .ok (.bipush 33, 2) := by decide +kernel
theorem dX12_reads_311 : decode cX12_reads 311 = .ok (.if_icmp .ne 8, 3) := by decide +kernel
theorem dX12_reads_314 : decode cX12_reads 314 = .ok (.bipush 33, 2) := by decide +kernel
theorem dX12_reads_316 : decode cX12_reads 316 = .ok (.goto 5, 3) := by decide +kernel
theorem dX12_reads_319 : decode cX12_reads 319 = .ok (.bipush 126, 2) := by decide +kernel
theorem dX12_reads_321 : decode cX12_reads 321 = .ok (.iconst 0, 1) := by decide +kernel
theorem dX12_reads_322 : decode cX12_reads 322 = .ok (.iconst 0, 1) := by decide +kernel
theorem dX12_reads_323 : decode cX12_reads 323 = .ok (.invokevirtual 192, 3) := by decide +kernel
theorem dX12_reads_326 : decode cX12_reads 326 = .ok (.iinc 4 1, 3) := by decide +kernel
theorem dX12_reads_329 : decode cX12_reads 329 = .ok (.goto 11, 3) := by decide +kernel
theorem dX12_reads_332 : decode cX12_reads 332 = .ok (.bipush 10, 2) := by decide +kernel
theorem dX12_reads_334 : decode cX12_reads 334 = .ok (.iload 4, 2) := by decide +kernel
theorem dX12_reads_336 : decode cX12_reads 336 = .ok (.imul, 1) := by decide +kernel
theorem dX12_reads_337 : decode cX12_reads 337 = .ok (.iconst 1, 1) := by decide +kernel
theorem dX12_reads_338 : decode cX12_reads 338 = .ok (.iadd, 1) := by decide +kernel
theorem dX12_reads_339 : decode cX12_reads 339 = .ok (.ireturn, 1) := by decide +kernel
theorem dX12_reads_340 : decode cX12_reads 340 = .ok (.goto (-313), 3) := by decide +kernel
theorem dX12_reads_343 : decode cX12_reads 343 = .ok (.iload_n 3, 1) := by decide +kernel
theorem dX12_reads_344 : decode cX12_reads 344 = .ok (.ifCond .ne 10, 3) := by decide +kernel
theorem dX12_reads_347 : decode cX12_reads 347 = .ok (.bipush 10, 2) := by decide +kernel
theorem dX12_reads_349 : decode cX12_reads 349 = .ok (.iload_n 2, 1) := by decide +kernel
theorem dX12_reads_350 : decode cX12_reads 350 = .ok (.imul, 1) := by decide +kernel
theorem dX12_reads_351 : decode cX12_reads 351 = .ok (.iconst 1, 1) := by decide +kernel
theorem dX12_reads_352 : decode cX12_reads 352 = .ok (.iadd, 1) := by decide +kernel
theorem dX12_reads_353 : decode cX12_reads 353 = .ok (.ireturn, 1) := by decide +kernel
theorem dX12_reads_354 : decode cX12_reads 354 = .ok (.aload_n 0, 1) := by decide +kernel
theorem dX12_reads_355 : decode cX12_reads 355 = .ok (.invokevirtual 183, 3) := by decide +kernel
theorem dX12_reads_358 : decode cX12_reads 358 = .ok (.aload_n 0, 1) := by decide +kernel
theorem dX12_reads_359 : decode cX12_reads 359 = .ok (.getfield 168, 3) := by decide +kernel
theorem dX12_reads_362 : decode cX12_reads 362 = .ok (.ifCond .le 12, 3) := by decide +kernel
theorem dX12_reads_365 : decode cX12_reads 365 = .ok (.bipush 10, 2) := by decide +kernel
theorem dX12_reads_367 : decode cX12_reads 367 = .ok (.iload_n 2, 1) := by decide +kernel
theorem dX12_reads_368 : decode cX12_reads 368 = .ok (.imul, 1) := by decide +kernel
theorem dX12_reads_369 : decode cX12_reads 369 = .ok (.iconst 1, 1) := by decide +kernel
theorem dX12_reads_370 : decode cX12_reads 370 = .ok (.iadd, 1) := by decide +kernel
theorem dX12_reads_371 : decode cX12_reads 371 = .ok (.goto 4, 3) := by decide +kernel
theorem dX12_reads_374 : decode cX12_reads 374 = .ok (.iconst (-1), 1) := by decide +kernel
theorem dX12_reads_375 : decode cX12_reads 375 = .ok (.ireturn, 1) := by decide +kernel
def f_X12_reads_b343 (M : q_Mem) (a0 : Nat) (a2 : Int32) (a3 : Int32) : Option (Int32 × q_Mem) :=
  (if a3 = 0 then
    some ((((10 : Int32) * a2) + (1 : Int32)), M)
  else
    (f_X12_settlesChosen M a0).bind fun M64 =>
    (q_gI 11 8 M64 a0).bind fun v65 =>
    (if 0 < v65 then
      some ((((10 : Int32) * a2) + (1 : Int32)), M64)
    else
      some ((-1 : Int32), M64)))
def f_X12_reads_b332 (M : q_Mem) (a4 : Int32) : Option (Int32 × q_Mem) :=
  some ((((10 : Int32) * a4) + (1 : Int32)), M)
def f_X12_reads_b321 (kk27 : Int32 → Int32 → q_Mem → Option (Int32 × q_Mem)) (M : q_Mem) (a0 : Nat) (a1 : Int32) (a2 : Int32) (a3 : Int32) (a4 : Int32) (s0 : Nat) (s1 : Int32) : Option (Int32 × q_Mem) :=
  (f_X12_waitsWith M s0 s1 (0 : Int32) (0 : Int32)).bind fun M71 =>
  kk27 a3 (a4 + (1 : Int32)) M71
def f_X12_reads_b306 (kk27 : Int32 → Int32 → q_Mem → Option (Int32 × q_Mem)) (M : q_Mem) (a0 : Nat) (a1 : Int32) (a2 : Int32) (a3 : Int32) (a4 : Int32) (a5 : Int32) : Option (Int32 × q_Mem) :=
  (if a5 = (33 : Int32) then
    f_X12_reads_b321 kk27 M a0 a1 a2 a3 a4 a0 (33 : Int32)
  else
    f_X12_reads_b321 kk27 M a0 a1 a2 a3 a4 a0 (126 : Int32))
def f_X12_reads_b260 (M : q_Mem) (a4 : Int32) : Option (Int32 × q_Mem) :=
  some ((((10 : Int32) * a4) + (3 : Int32)), M)
def f_X12_reads_b191 (kk27 : Int32 → Int32 → q_Mem → Option (Int32 × q_Mem)) (M : q_Mem) (a0 : Nat) (a1 : Int32) (a2 : Int32) (a4 : Int32) (a7 : Int32) : Option (Int32 × q_Mem) :=
  (f_X12_emits M a0 (0 : Int32) a7).bind fun r73 =>
  (f_X12_settles r73.2 a0 (7 : Int32)).bind fun M76 =>
  kk27 (1 : Int32) a4 M76
def f_X12_reads_b155 (M : q_Mem) (a6 : Int32) : Option (Int32 × q_Mem) :=
  some ((((10 : Int32) * a6) + (2 : Int32)), M)
def f_X12_reads_b118 (kk27 : Int32 → Int32 → q_Mem → Option (Int32 × q_Mem)) (M : q_Mem) (a0 : Nat) (a1 : Int32) (a2 : Int32) (a6 : Int32) : Nat → Int32 → Int32 → Option (Int32 × q_Mem)
  | 0, _, _ => none
  | n + 1, a4, a7 =>
    (if a4 < a2 then
      (q_gR 11 0 M a0).bind fun v49 =>
      (q_lI M v49 ((a1 + (1 : Int32)) + a4)).bind fun v51 =>
      (f_X12_in M v51 (48 : Int32) (57 : Int32)).bind fun v54 =>
      (if v54 = 0 then
        f_X12_reads_b191 kk27 M a0 a1 a2 a4 a7
      else
        (if (a4 - a6) = (6 : Int32) then
          f_X12_reads_b155 M a6
        else
          (q_gR 11 0 M a0).bind fun v55 =>
          (q_lI M v55 ((a1 + (1 : Int32)) + a4)).bind fun v57 =>
          f_X12_reads_b118 kk27 M a0 a1 a2 a6 n (a4 + (1 : Int32)) ((((10 : Int32) * a7) + v57) - (48 : Int32))))
    else
      f_X12_reads_b191 kk27 M a0 a1 a2 a4 a7)
def f_X12_reads_b72 (M : q_Mem) (a4 : Int32) : Option (Int32 × q_Mem) :=
  some ((((10 : Int32) * a4) + (1 : Int32)), M)
def f_X12_reads_b27 (a0 : Nat) (a1 : Int32) (a2 : Int32) : Nat → Int32 → Int32 → q_Mem → Option (Int32 × q_Mem)
  | 0, _, _, _ => none
  | n + 1, a3, a4, M =>
    (if a4 < a2 then
      (q_gR 11 0 M a0).bind fun v11 =>
      (q_lI M v11 ((a1 + (1 : Int32)) + a4)).bind fun v13 =>
      (if v13 = (32 : Int32) then
        f_X12_reads_b27 a0 a1 a2 n a3 (a4 + (1 : Int32)) M
      else
        (if a3 = 0 then
          (f_X12_in M v13 (48 : Int32) (57 : Int32)).bind fun v16 =>
          (if v16 = 0 then
            (f_X12_nameOf M v13).bind fun v18 =>
            (if v18 = (-1 : Int32) then
              (if v13 = (40 : Int32) then
                (q_gI 11 12 M a0).bind fun v19 =>
                (if v19 = (8 : Int32) then
                  f_X12_reads_b260 M a4
                else
                  (q_gI 11 12 M a0).bind fun v21 =>
                  (q_pI 11 12 M a0 (v21 + (1 : Int32))).bind fun M23 =>
                  (f_X12_waitsWith M23 a0 (40 : Int32) (0 : Int32) (0 : Int32)).bind fun M27 =>
                  f_X12_reads_b27 a0 a1 a2 n a3 (a4 + (1 : Int32)) M27)
              else
                (if v13 = (33 : Int32) then
                  f_X12_reads_b306 (f_X12_reads_b27 a0 a1 a2 n) M a0 a1 a2 a3 a4 v13
                else
                  (if v13 = (45 : Int32) then
                    f_X12_reads_b306 (f_X12_reads_b27 a0 a1 a2 n) M a0 a1 a2 a3 a4 v13
                  else
                    f_X12_reads_b332 M a4)))
            else
              (f_X12_nameOf M v13).bind fun v33 =>
              (f_X12_emits M a0 (1 : Int32) v33).bind fun r35 =>
              (f_X12_settles r35.2 a0 (7 : Int32)).bind fun M38 =>
              f_X12_reads_b27 a0 a1 a2 n (1 : Int32) (a4 + (1 : Int32)) M38)
          else
            f_X12_reads_b118 (f_X12_reads_b27 a0 a1 a2 n) M a0 a1 a2 a4 q_fuel a4 (0 : Int32))
        else
          (f_X12_goesOn M a0 v13).bind fun r42 =>
          (if r42.1 = 0 then
            f_X12_reads_b72 r42.2 a4
          else
            (if v13 = (41 : Int32) then
              f_X12_reads_b27 a0 a1 a2 n (1 : Int32) (a4 + (1 : Int32)) r42.2
            else
              f_X12_reads_b27 a0 a1 a2 n (0 : Int32) (a4 + (1 : Int32)) r42.2))))
    else
      f_X12_reads_b343 M a0 a2 a3)
def f_X12_reads (M : q_Mem) (a0 : Nat) (a1 : Int32) : Option (Int32 × q_Mem) :=
  q_ob 11 M a0 ((q_pI 11 4 M a0 (0 : Int32)).bind fun M1 =>
  (q_pI 11 8 M1 a0 (0 : Int32)).bind fun M3 =>
  (q_pI 11 12 M3 a0 (0 : Int32)).bind fun M5 =>
  (q_gR 11 0 M5 a0).bind fun v7 =>
  (q_lI M5 v7 a1).bind fun v9 =>
  f_X12_reads_b27 a0 a1 v9 q_fuel (0 : Int32) (0 : Int32) M5)
set_option maxRecDepth 20000 in
theorem v_X12_reads_b343 {M : q_Mem} {a0 : Nat} {a2 : Int32} {a3 : Int32}  : q_V Y_X12_reads none (fun x : Int32 × q_Mem => (some (.int x.1), x.2)) 0 0 343 [(0, .ref a0), (2, .int a2), (3, .int a3)] [] M (f_X12_reads_b343 M a0 a2 a3 ) := by
  unfold f_X12_reads_b343
  refine q_iload_n 2 dX12_reads_343 rfl ?_
  refine q_if_ne (tgt := 354) dX12_reads_344 (by decide) (fun c68 => ?_) (fun c68 => ?_)
  · refine q_bipush (x := (10 : Int32)) dX12_reads_347 rfl ?_
    refine q_iload_n 1 dX12_reads_349 rfl ?_
    refine q_imul dX12_reads_350 ?_
    refine q_iconst (x := (1 : Int32)) dX12_reads_351 rfl ?_
    refine q_iadd dX12_reads_352 ?_
    exact q_iret dX12_reads_353 rfl rfl (Nat.le_of_ble_eq_true rfl) rfl
  · refine q_aload_n 0 dX12_reads_354 rfl ?_
    refine q_cVM (Y2 := Y_X12_settlesChosen) (As := []) (b := a0) (st := []) cl_X12 mv_X12_settlesChosen qw_1406 dX12_reads_355 ⟨Nat.le_of_ble_eq_true rfl, Nat.le_of_ble_eq_true rfl⟩ rfl (fun _ _ => rfl) (Nat.le_of_ble_eq_true rfl) ⟨Nat.le_of_ble_eq_true rfl, Nat.le_of_ble_eq_true rfl⟩ (fun M64 h62 => q_ob_is h62) (fun M64 h62 => m_X12_settlesChosen h62) (fun M64 h62 => ?_)
    refine q_aload_n 0 dX12_reads_358 rfl ?_
    refine q_getI (f := 8) cl_X12 (by decide) qw_1125 rfl dX12_reads_359 (Or.inl rfl) (fun v65 h66 => ?_)
    refine q_if_le (tgt := 374) dX12_reads_362 (by decide) (fun c67 => ?_) (fun c67 => ?_)
    · refine q_bipush (x := (10 : Int32)) dX12_reads_365 rfl ?_
      refine q_iload_n 1 dX12_reads_367 rfl ?_
      refine q_imul dX12_reads_368 ?_
      refine q_iconst (x := (1 : Int32)) dX12_reads_369 rfl ?_
      refine q_iadd dX12_reads_370 ?_
      refine q_goto (tgt := 375) dX12_reads_371 (by decide) ?_
      exact q_iret dX12_reads_375 rfl rfl (Nat.le_of_ble_eq_true rfl) rfl
    · refine q_iconst (x := (-1 : Int32)) dX12_reads_374 rfl ?_
      exact q_iret dX12_reads_375 rfl rfl (Nat.le_of_ble_eq_true rfl) rfl
set_option maxRecDepth 20000 in
theorem v_X12_reads_b332 {M : q_Mem} {a4 : Int32}  : q_V Y_X12_reads none (fun x : Int32 × q_Mem => (some (.int x.1), x.2)) 0 0 332 [(4, .int a4)] [] M (f_X12_reads_b332 M a4 ) := by
  unfold f_X12_reads_b332
  refine q_bipush (x := (10 : Int32)) dX12_reads_332 rfl ?_
  refine q_iload 0 dX12_reads_334 rfl ?_
  refine q_imul dX12_reads_336 ?_
  refine q_iconst (x := (1 : Int32)) dX12_reads_337 rfl ?_
  refine q_iadd dX12_reads_338 ?_
  exact q_iret dX12_reads_339 rfl rfl (Nat.le_of_ble_eq_true rfl) rfl
set_option maxRecDepth 20000 in
theorem v_X12_reads_b321 {kk27 : Int32 → Int32 → q_Mem → Option (Int32 × q_Mem)} {M : q_Mem} {a0 : Nat} {a1 : Int32} {a2 : Int32} {a3 : Int32} {a4 : Int32} {s0 : Nat} {s1 : Int32}  (hk27 : ∀ (a3 : Int32) (a4 : Int32) (M : q_Mem), q_V Y_X12_reads none (fun x : Int32 × q_Mem => (some (.int x.1), x.2)) 0 0 27 [(0, .ref a0), (1, .int a1), (2, .int a2), (3, .int a3), (4, .int a4)] [] M (kk27 a3 a4 M)): q_V Y_X12_reads none (fun x : Int32 × q_Mem => (some (.int x.1), x.2)) 0 0 321 [(0, .ref a0), (1, .int a1), (2, .int a2), (3, .int a3), (4, .int a4)] [.int s1, .ref s0] M (f_X12_reads_b321 kk27 M a0 a1 a2 a3 a4 s0 s1) := by
  unfold f_X12_reads_b321
  refine q_iconst (x := (0 : Int32)) dX12_reads_321 rfl ?_
  refine q_iconst (x := (0 : Int32)) dX12_reads_322 rfl ?_
  refine q_cVM (Y2 := Y_X12_waitsWith) (As := [.int s1, .int (0 : Int32), .int (0 : Int32)]) (b := s0) (st := []) cl_X12 mv_X12_waitsWith qw_1425 dX12_reads_323 ⟨Nat.le_of_ble_eq_true rfl, Nat.le_of_ble_eq_true rfl⟩ rfl (fun _ _ => rfl) (Nat.le_of_ble_eq_true rfl) ⟨Nat.le_of_ble_eq_true rfl, Nat.le_of_ble_eq_true rfl⟩ (fun M71 h69 => q_ob_is h69) (fun M71 h69 => m_X12_waitsWith h69) (fun M71 h69 => ?_)
  refine q_iinc 4 (y := (a4 + (1 : Int32))) (ls' := [(4, .int (a4 + (1 : Int32))), (0, .ref a0), (1, .int a1), (2, .int a2), (3, .int a3)]) dX12_reads_326 rfl rfl (by decide) rfl ?_
  refine q_goto (tgt := 340) dX12_reads_329 (by decide) ?_
  refine q_goto (tgt := 27) dX12_reads_340 (by decide) ?_
  refine q_sub (ls' := [(0, .ref a0), (1, .int a1), (2, .int a2), (3, .int a3), (4, .int (a4 + (1 : Int32)))]) [1, 2, 3, 4, 0] rfl ?_
  exact hk27 _ _ _
set_option maxRecDepth 20000 in
theorem v_X12_reads_b306 {kk27 : Int32 → Int32 → q_Mem → Option (Int32 × q_Mem)} {M : q_Mem} {a0 : Nat} {a1 : Int32} {a2 : Int32} {a3 : Int32} {a4 : Int32} {a5 : Int32}  (hk27 : ∀ (a3 : Int32) (a4 : Int32) (M : q_Mem), q_V Y_X12_reads none (fun x : Int32 × q_Mem => (some (.int x.1), x.2)) 0 0 27 [(0, .ref a0), (1, .int a1), (2, .int a2), (3, .int a3), (4, .int a4)] [] M (kk27 a3 a4 M)): q_V Y_X12_reads none (fun x : Int32 × q_Mem => (some (.int x.1), x.2)) 0 0 306 [(0, .ref a0), (1, .int a1), (2, .int a2), (3, .int a3), (4, .int a4), (5, .int a5)] [] M (f_X12_reads_b306 kk27 M a0 a1 a2 a3 a4 a5 ) := by
  unfold f_X12_reads_b306
  refine q_aload_n 0 dX12_reads_306 rfl ?_
  refine q_iload 5 dX12_reads_307 rfl ?_
  refine q_bipush (x := (33 : Int32)) dX12_reads_309 rfl ?_
  refine q_icmp_ne (tgt := 319) dX12_reads_311 (by decide) (fun c48 => ?_) (fun c48 => ?_)
  · refine q_bipush (x := (33 : Int32)) dX12_reads_314 rfl ?_
    refine q_goto (tgt := 321) dX12_reads_316 (by decide) ?_
    refine q_sub (ls' := [(0, .ref a0), (1, .int a1), (2, .int a2), (3, .int a3), (4, .int a4)]) [0, 1, 2, 3, 4] rfl ?_
    exact v_X12_reads_b321 (hk27)
  · refine q_bipush (x := (126 : Int32)) dX12_reads_319 rfl ?_
    refine q_sub (ls' := [(0, .ref a0), (1, .int a1), (2, .int a2), (3, .int a3), (4, .int a4)]) [0, 1, 2, 3, 4] rfl ?_
    exact v_X12_reads_b321 (hk27)
set_option maxRecDepth 20000 in
theorem v_X12_reads_b260 {M : q_Mem} {a4 : Int32}  : q_V Y_X12_reads none (fun x : Int32 × q_Mem => (some (.int x.1), x.2)) 0 0 260 [(4, .int a4)] [] M (f_X12_reads_b260 M a4 ) := by
  unfold f_X12_reads_b260
  refine q_bipush (x := (10 : Int32)) dX12_reads_260 rfl ?_
  refine q_iload 0 dX12_reads_262 rfl ?_
  refine q_imul dX12_reads_264 ?_
  refine q_iconst (x := (3 : Int32)) dX12_reads_265 rfl ?_
  refine q_iadd dX12_reads_266 ?_
  exact q_iret dX12_reads_267 rfl rfl (Nat.le_of_ble_eq_true rfl) rfl
set_option maxRecDepth 20000 in
theorem v_X12_reads_b191 {kk27 : Int32 → Int32 → q_Mem → Option (Int32 × q_Mem)} {M : q_Mem} {a0 : Nat} {a1 : Int32} {a2 : Int32} {a4 : Int32} {a7 : Int32}  (hk27 : ∀ (a3 : Int32) (a4 : Int32) (M : q_Mem), q_V Y_X12_reads none (fun x : Int32 × q_Mem => (some (.int x.1), x.2)) 0 0 27 [(0, .ref a0), (1, .int a1), (2, .int a2), (3, .int a3), (4, .int a4)] [] M (kk27 a3 a4 M)): q_V Y_X12_reads none (fun x : Int32 × q_Mem => (some (.int x.1), x.2)) 0 0 191 [(0, .ref a0), (1, .int a1), (2, .int a2), (4, .int a4), (7, .int a7)] [] M (f_X12_reads_b191 kk27 M a0 a1 a2 a4 a7 ) := by
  unfold f_X12_reads_b191
  refine q_aload_n 0 dX12_reads_191 rfl ?_
  refine q_iconst (x := (0 : Int32)) dX12_reads_192 rfl ?_
  refine q_iload 4 dX12_reads_193 rfl ?_
  refine q_cVMI (Y2 := Y_X12_emits) (As := [.int (0 : Int32), .int a7]) (b := a0) (st := []) cl_X12 mv_X12_emits qw_1414 dX12_reads_195 ⟨Nat.le_of_ble_eq_true rfl, Nat.le_of_ble_eq_true rfl⟩ rfl (fun _ _ => rfl) (Nat.le_of_ble_eq_true rfl) ⟨Nat.le_of_ble_eq_true rfl, Nat.le_of_ble_eq_true rfl⟩ (fun r73 h72 => q_ob_is h72) (fun r73 h72 => m_X12_emits h72) (fun r73 h72 => ?_)
  refine q_pop dX12_reads_198 rfl ?_
  refine q_aload_n 0 dX12_reads_199 rfl ?_
  refine q_bipush (x := (7 : Int32)) dX12_reads_200 rfl ?_
  refine q_cVM (Y2 := Y_X12_settles) (As := [.int (7 : Int32)]) (b := a0) (st := []) cl_X12 mv_X12_settles qw_1410 dX12_reads_202 ⟨Nat.le_of_ble_eq_true rfl, Nat.le_of_ble_eq_true rfl⟩ rfl (fun _ _ => rfl) (Nat.le_of_ble_eq_true rfl) ⟨Nat.le_of_ble_eq_true rfl, Nat.le_of_ble_eq_true rfl⟩ (fun M76 h74 => q_ob_is h74) (fun M76 h74 => m_X12_settles h74) (fun M76 h74 => ?_)
  refine q_iconst (x := (1 : Int32)) dX12_reads_205 rfl ?_
  refine q_istore_n (ls' := [(3, .int (1 : Int32)), (0, .ref a0), (1, .int a1), (2, .int a2), (4, .int a4), (7, .int a7)]) dX12_reads_206 (by decide) rfl ?_
  refine q_goto (tgt := 340) dX12_reads_207 (by decide) ?_
  refine q_goto (tgt := 27) dX12_reads_340 (by decide) ?_
  refine q_sub (ls' := [(0, .ref a0), (1, .int a1), (2, .int a2), (3, .int (1 : Int32)), (4, .int a4)]) [1, 2, 3, 0, 4] rfl ?_
  exact hk27 _ _ _
set_option maxRecDepth 20000 in
theorem v_X12_reads_b155 {M : q_Mem} {a6 : Int32}  : q_V Y_X12_reads none (fun x : Int32 × q_Mem => (some (.int x.1), x.2)) 0 0 155 [(6, .int a6)] [] M (f_X12_reads_b155 M a6 ) := by
  unfold f_X12_reads_b155
  refine q_bipush (x := (10 : Int32)) dX12_reads_155 rfl ?_
  refine q_iload 0 dX12_reads_157 rfl ?_
  refine q_imul dX12_reads_159 ?_
  refine q_iconst (x := (2 : Int32)) dX12_reads_160 rfl ?_
  refine q_iadd dX12_reads_161 ?_
  exact q_iret dX12_reads_162 rfl rfl (Nat.le_of_ble_eq_true rfl) rfl
set_option maxRecDepth 20000 in
theorem v_X12_reads_b118 {kk27 : Int32 → Int32 → q_Mem → Option (Int32 × q_Mem)} {M : q_Mem} {a0 : Nat} {a1 : Int32} {a2 : Int32} {a6 : Int32} (hk27 : ∀ (a3 : Int32) (a4 : Int32) (M : q_Mem), q_V Y_X12_reads none (fun x : Int32 × q_Mem => (some (.int x.1), x.2)) 0 0 27 [(0, .ref a0), (1, .int a1), (2, .int a2), (3, .int a3), (4, .int a4)] [] M (kk27 a3 a4 M)) : ∀ (n : Nat) (a4 : Int32) (a7 : Int32), q_V Y_X12_reads none (fun x : Int32 × q_Mem => (some (.int x.1), x.2)) 0 0 118 [(0, .ref a0), (1, .int a1), (2, .int a2), (4, .int a4), (6, .int a6), (7, .int a7)] [] M (f_X12_reads_b118 kk27 M a0 a1 a2 a6 n a4 a7) := by
  intro n
  induction n with
  | zero => intro a4 a7; exact q_none
  | succ n ih =>
    intro a4 a7
    rw [f_X12_reads_b118.eq_2]
    refine q_iload 3 dX12_reads_118 rfl ?_
    refine q_iload_n 2 dX12_reads_120 rfl ?_
    refine q_icmp_ge (tgt := 191) dX12_reads_121 (by decide) (fun c61 => ?_) (fun c61 => ?_)
    · refine q_aload_n 0 dX12_reads_124 rfl ?_
      refine q_getR (f := 0) cl_X12 (by decide) qw_1117 rfl dX12_reads_125 (fun _ _ _ => rfl) (fun v49 h50 => ?_)
      refine q_iload_n 1 dX12_reads_128 rfl ?_
      refine q_iconst (x := (1 : Int32)) dX12_reads_129 rfl ?_
      refine q_iadd dX12_reads_130 ?_
      refine q_iload 3 dX12_reads_131 rfl ?_
      refine q_iadd dX12_reads_133 ?_
      refine q_iald dX12_reads_134 (fun v51 h52 => ?_)
      refine q_bipush (x := (48 : Int32)) dX12_reads_135 rfl ?_
      refine q_bipush (x := (57 : Int32)) dX12_reads_137 rfl ?_
      refine q_cSI (Y2 := Y_X12_in) (As := [.int v51, .int (48 : Int32), .int (57 : Int32)]) (st := []) ms_X12_in qw_1214 dX12_reads_139 ⟨Nat.le_of_ble_eq_true rfl, Nat.le_of_ble_eq_true rfl⟩ rfl (fun _ _ => rfl) (Nat.le_of_ble_eq_true rfl) ⟨Nat.le_of_ble_eq_true rfl, Nat.le_of_ble_eq_true rfl⟩ (fun v54 h53 => m_X12_in h53) (fun v54 h53 => ?_)
      refine q_if_eq (tgt := 191) dX12_reads_142 (by decide) (fun c60 => ?_) (fun c60 => ?_)
      · refine q_sub (ls' := [(0, .ref a0), (1, .int a1), (2, .int a2), (4, .int a4), (7, .int a7)]) [0, 1, 2, 3, 5] rfl ?_
        exact v_X12_reads_b191 (hk27)
      · refine q_iload 3 dX12_reads_145 rfl ?_
        refine q_iload 4 dX12_reads_147 rfl ?_
        refine q_isub dX12_reads_149 ?_
        refine q_bipush (x := (6 : Int32)) dX12_reads_150 rfl ?_
        refine q_icmp_ne (tgt := 163) dX12_reads_152 (by decide) (fun c59 => ?_) (fun c59 => ?_)
        · refine q_sub (ls' := [(6, .int a6)]) [4] rfl ?_
          exact v_X12_reads_b155
        · refine q_bipush (x := (10 : Int32)) dX12_reads_163 rfl ?_
          refine q_iload 5 dX12_reads_165 rfl ?_
          refine q_imul dX12_reads_167 ?_
          refine q_aload_n 0 dX12_reads_168 rfl ?_
          refine q_getR (f := 0) cl_X12 (by decide) qw_1117 rfl dX12_reads_169 (fun _ _ _ => rfl) (fun v55 h56 => ?_)
          refine q_iload_n 1 dX12_reads_172 rfl ?_
          refine q_iconst (x := (1 : Int32)) dX12_reads_173 rfl ?_
          refine q_iadd dX12_reads_174 ?_
          refine q_iload 3 dX12_reads_175 rfl ?_
          refine q_iadd dX12_reads_177 ?_
          refine q_iald dX12_reads_178 (fun v57 h58 => ?_)
          refine q_iadd dX12_reads_179 ?_
          refine q_bipush (x := (48 : Int32)) dX12_reads_180 rfl ?_
          refine q_isub dX12_reads_182 ?_
          refine q_istore (ls' := [(7, .int ((((10 : Int32) * a7) + v57) - (48 : Int32))), (0, .ref a0), (1, .int a1), (2, .int a2), (4, .int a4), (6, .int a6)]) dX12_reads_183 (by decide) rfl ?_
          refine q_iinc 4 (y := (a4 + (1 : Int32))) (ls' := [(4, .int (a4 + (1 : Int32))), (7, .int ((((10 : Int32) * a7) + v57) - (48 : Int32))), (0, .ref a0), (1, .int a1), (2, .int a2), (6, .int a6)]) dX12_reads_185 rfl rfl (by decide) rfl ?_
          refine q_goto (tgt := 118) dX12_reads_188 (by decide) ?_
          refine q_sub (ls' := [(0, .ref a0), (1, .int a1), (2, .int a2), (4, .int (a4 + (1 : Int32))), (6, .int a6), (7, .int ((((10 : Int32) * a7) + v57) - (48 : Int32)))]) [2, 3, 4, 0, 5, 1] rfl ?_
          exact ih _ _
    · refine q_sub (ls' := [(0, .ref a0), (1, .int a1), (2, .int a2), (4, .int a4), (7, .int a7)]) [0, 1, 2, 3, 5] rfl ?_
      exact v_X12_reads_b191 (hk27)
set_option maxRecDepth 20000 in
theorem v_X12_reads_b72 {M : q_Mem} {a4 : Int32}  : q_V Y_X12_reads none (fun x : Int32 × q_Mem => (some (.int x.1), x.2)) 0 0 72 [(4, .int a4)] [] M (f_X12_reads_b72 M a4 ) := by
  unfold f_X12_reads_b72
  refine q_bipush (x := (10 : Int32)) dX12_reads_72 rfl ?_
  refine q_iload 0 dX12_reads_74 rfl ?_
  refine q_imul dX12_reads_76 ?_
  refine q_iconst (x := (1 : Int32)) dX12_reads_77 rfl ?_
  refine q_iadd dX12_reads_78 ?_
  exact q_iret dX12_reads_79 rfl rfl (Nat.le_of_ble_eq_true rfl) rfl
set_option maxRecDepth 20000 in
theorem v_X12_reads_b27 {a0 : Nat} {a1 : Int32} {a2 : Int32}  : ∀ (n : Nat) (a3 : Int32) (a4 : Int32) (M : q_Mem), q_V Y_X12_reads none (fun x : Int32 × q_Mem => (some (.int x.1), x.2)) 0 0 27 [(0, .ref a0), (1, .int a1), (2, .int a2), (3, .int a3), (4, .int a4)] [] M (f_X12_reads_b27 a0 a1 a2 n a3 a4 M) := by
  intro n
  induction n with
  | zero => intro a3 a4 M; exact q_none
  | succ n ih =>
    intro a3 a4 M
    rw [f_X12_reads_b27.eq_2]
    refine q_iload 4 dX12_reads_27 rfl ?_
    refine q_iload_n 2 dX12_reads_29 rfl ?_
    refine q_icmp_ge (tgt := 343) dX12_reads_30 (by decide) (fun c47 => ?_) (fun c47 => ?_)
    · refine q_aload_n 0 dX12_reads_33 rfl ?_
      refine q_getR (f := 0) cl_X12 (by decide) qw_1117 rfl dX12_reads_34 (fun _ _ _ => rfl) (fun v11 h12 => ?_)
      refine q_iload_n 1 dX12_reads_37 rfl ?_
      refine q_iconst (x := (1 : Int32)) dX12_reads_38 rfl ?_
      refine q_iadd dX12_reads_39 ?_
      refine q_iload 4 dX12_reads_40 rfl ?_
      refine q_iadd dX12_reads_42 ?_
      refine q_iald dX12_reads_43 (fun v13 h14 => ?_)
      refine q_istore (ls' := [(5, .int v13), (0, .ref a0), (1, .int a1), (2, .int a2), (3, .int a3), (4, .int a4)]) dX12_reads_44 (by decide) rfl ?_
      refine q_iload 0 dX12_reads_46 rfl ?_
      refine q_bipush (x := (32 : Int32)) dX12_reads_48 rfl ?_
      refine q_icmp_ne (tgt := 59) dX12_reads_50 (by decide) (fun c46 => ?_) (fun c46 => ?_)
      · refine q_iinc 5 (y := (a4 + (1 : Int32))) (ls' := [(4, .int (a4 + (1 : Int32))), (5, .int v13), (0, .ref a0), (1, .int a1), (2, .int a2), (3, .int a3)]) dX12_reads_53 rfl rfl (by decide) rfl ?_
        refine q_goto (tgt := 340) dX12_reads_56 (by decide) ?_
        refine q_goto (tgt := 27) dX12_reads_340 (by decide) ?_
        refine q_sub (ls' := [(0, .ref a0), (1, .int a1), (2, .int a2), (3, .int a3), (4, .int (a4 + (1 : Int32)))]) [2, 3, 4, 5, 0] rfl ?_
        exact ih _ _ _
      · refine q_iload_n 4 dX12_reads_59 rfl ?_
        refine q_if_eq (tgt := 99) dX12_reads_60 (by decide) (fun c45 => ?_) (fun c45 => ?_)
        · refine q_iload 0 dX12_reads_99 rfl ?_
          refine q_bipush (x := (48 : Int32)) dX12_reads_101 rfl ?_
          refine q_bipush (x := (57 : Int32)) dX12_reads_103 rfl ?_
          refine q_cSI (Y2 := Y_X12_in) (As := [.int v13, .int (48 : Int32), .int (57 : Int32)]) (st := []) ms_X12_in qw_1214 dX12_reads_105 ⟨Nat.le_of_ble_eq_true rfl, Nat.le_of_ble_eq_true rfl⟩ rfl (fun _ _ => rfl) (Nat.le_of_ble_eq_true rfl) ⟨Nat.le_of_ble_eq_true rfl, Nat.le_of_ble_eq_true rfl⟩ (fun v16 h15 => m_X12_in h15) (fun v16 h15 => ?_)
          refine q_if_eq (tgt := 210) dX12_reads_108 (by decide) (fun c40 => ?_) (fun c40 => ?_)
          · refine q_iload 0 dX12_reads_210 rfl ?_
            refine q_cSI (Y2 := Y_X12_nameOf) (As := [.int v13]) (st := []) ms_X12_nameOf qw_1429 dX12_reads_212 ⟨Nat.le_of_ble_eq_true rfl, Nat.le_of_ble_eq_true rfl⟩ rfl (fun _ _ => rfl) (Nat.le_of_ble_eq_true rfl) ⟨Nat.le_of_ble_eq_true rfl, Nat.le_of_ble_eq_true rfl⟩ (fun v18 h17 => m_X12_nameOf h17) (fun v18 h17 => ?_)
            refine q_iconst (x := (-1 : Int32)) dX12_reads_215 rfl ?_
            refine q_icmp_eq (tgt := 244) dX12_reads_216 (by decide) (fun c39 => ?_) (fun c39 => ?_)
            · refine q_iload 0 dX12_reads_244 rfl ?_
              refine q_bipush (x := (40 : Int32)) dX12_reads_246 rfl ?_
              refine q_icmp_ne (tgt := 292) dX12_reads_248 (by decide) (fun c31 => ?_) (fun c31 => ?_)
              · refine q_aload_n 1 dX12_reads_251 rfl ?_
                refine q_getI (f := 12) cl_X12 (by decide) qw_1129 rfl dX12_reads_252 (Or.inl rfl) (fun v19 h20 => ?_)
                refine q_bipush (x := (8 : Int32)) dX12_reads_255 rfl ?_
                refine q_icmp_ne (tgt := 268) dX12_reads_257 (by decide) (fun c28 => ?_) (fun c28 => ?_)
                · refine q_sub (ls' := [(4, .int a4)]) [5] rfl ?_
                  exact v_X12_reads_b260
                · refine q_aload_n 1 dX12_reads_268 rfl ?_
                  refine q_dup dX12_reads_269 rfl ?_
                  refine q_getI (f := 12) cl_X12 (by decide) qw_1129 rfl dX12_reads_270 (Or.inl rfl) (fun v21 h22 => ?_)
                  refine q_iconst (x := (1 : Int32)) dX12_reads_273 rfl ?_
                  refine q_iadd dX12_reads_274 ?_
                  refine q_putI (f := 12) cl_X12 (by decide) qw_1129 rfl (Or.inl rfl) dX12_reads_275 rfl (fun M23 h24 => ?_)
                  refine q_aload_n 1 dX12_reads_278 rfl ?_
                  refine q_bipush (x := (40 : Int32)) dX12_reads_279 rfl ?_
                  refine q_iconst (x := (0 : Int32)) dX12_reads_281 rfl ?_
                  refine q_iconst (x := (0 : Int32)) dX12_reads_282 rfl ?_
                  refine q_cVM (Y2 := Y_X12_waitsWith) (As := [.int (40 : Int32), .int (0 : Int32), .int (0 : Int32)]) (b := a0) (st := []) cl_X12 mv_X12_waitsWith qw_1425 dX12_reads_283 ⟨Nat.le_of_ble_eq_true rfl, Nat.le_of_ble_eq_true rfl⟩ rfl (fun _ _ => rfl) (Nat.le_of_ble_eq_true rfl) ⟨Nat.le_of_ble_eq_true rfl, Nat.le_of_ble_eq_true rfl⟩ (fun M27 h25 => q_ob_is h25) (fun M27 h25 => m_X12_waitsWith h25) (fun M27 h25 => ?_)
                  refine q_iinc 5 (y := (a4 + (1 : Int32))) (ls' := [(4, .int (a4 + (1 : Int32))), (5, .int v13), (0, .ref a0), (1, .int a1), (2, .int a2), (3, .int a3)]) dX12_reads_286 rfl rfl (by decide) rfl ?_
                  refine q_goto (tgt := 340) dX12_reads_289 (by decide) ?_
                  refine q_goto (tgt := 27) dX12_reads_340 (by decide) ?_
                  refine q_sub (ls' := [(0, .ref a0), (1, .int a1), (2, .int a2), (3, .int a3), (4, .int (a4 + (1 : Int32)))]) [2, 3, 4, 5, 0] rfl ?_
                  exact ih _ _ _
              · refine q_iload 0 dX12_reads_292 rfl ?_
                refine q_bipush (x := (33 : Int32)) dX12_reads_294 rfl ?_
                refine q_icmp_eq (tgt := 306) dX12_reads_296 (by decide) (fun c30 => ?_) (fun c30 => ?_)
                · refine q_sub (ls' := [(0, .ref a0), (1, .int a1), (2, .int a2), (3, .int a3), (4, .int a4), (5, .int v13)]) [1, 2, 3, 4, 5, 0] rfl ?_
                  exact v_X12_reads_b306 (ih)
                · refine q_iload 0 dX12_reads_299 rfl ?_
                  refine q_bipush (x := (45 : Int32)) dX12_reads_301 rfl ?_
                  refine q_icmp_ne (tgt := 332) dX12_reads_303 (by decide) (fun c29 => ?_) (fun c29 => ?_)
                  · refine q_sub (ls' := [(0, .ref a0), (1, .int a1), (2, .int a2), (3, .int a3), (4, .int a4), (5, .int v13)]) [1, 2, 3, 4, 5, 0] rfl ?_
                    exact v_X12_reads_b306 (ih)
                  · refine q_sub (ls' := [(4, .int a4)]) [5] rfl ?_
                    exact v_X12_reads_b332
            · refine q_aload_n 1 dX12_reads_219 rfl ?_
              refine q_iconst (x := (1 : Int32)) dX12_reads_220 rfl ?_
              refine q_iload 0 dX12_reads_221 rfl ?_
              refine q_cSI (Y2 := Y_X12_nameOf) (As := [.int v13]) (st := [.int (1 : Int32), .ref a0]) ms_X12_nameOf qw_1429 dX12_reads_223 ⟨Nat.le_of_ble_eq_true rfl, Nat.le_of_ble_eq_true rfl⟩ rfl (fun _ _ => rfl) (Nat.le_of_ble_eq_true rfl) ⟨Nat.le_of_ble_eq_true rfl, Nat.le_of_ble_eq_true rfl⟩ (fun v33 h32 => m_X12_nameOf h32) (fun v33 h32 => ?_)
              refine q_cVMI (Y2 := Y_X12_emits) (As := [.int (1 : Int32), .int v33]) (b := a0) (st := []) cl_X12 mv_X12_emits qw_1414 dX12_reads_226 ⟨Nat.le_of_ble_eq_true rfl, Nat.le_of_ble_eq_true rfl⟩ rfl (fun _ _ => rfl) (Nat.le_of_ble_eq_true rfl) ⟨Nat.le_of_ble_eq_true rfl, Nat.le_of_ble_eq_true rfl⟩ (fun r35 h34 => q_ob_is h34) (fun r35 h34 => m_X12_emits h34) (fun r35 h34 => ?_)
              refine q_pop dX12_reads_229 rfl ?_
              refine q_aload_n 1 dX12_reads_230 rfl ?_
              refine q_bipush (x := (7 : Int32)) dX12_reads_231 rfl ?_
              refine q_cVM (Y2 := Y_X12_settles) (As := [.int (7 : Int32)]) (b := a0) (st := []) cl_X12 mv_X12_settles qw_1410 dX12_reads_233 ⟨Nat.le_of_ble_eq_true rfl, Nat.le_of_ble_eq_true rfl⟩ rfl (fun _ _ => rfl) (Nat.le_of_ble_eq_true rfl) ⟨Nat.le_of_ble_eq_true rfl, Nat.le_of_ble_eq_true rfl⟩ (fun M38 h36 => q_ob_is h36) (fun M38 h36 => m_X12_settles h36) (fun M38 h36 => ?_)
              refine q_iconst (x := (1 : Int32)) dX12_reads_236 rfl ?_
              refine q_istore_n (ls' := [(3, .int (1 : Int32)), (5, .int v13), (0, .ref a0), (1, .int a1), (2, .int a2), (4, .int a4)]) dX12_reads_237 (by decide) rfl ?_
              refine q_iinc 5 (y := (a4 + (1 : Int32))) (ls' := [(4, .int (a4 + (1 : Int32))), (3, .int (1 : Int32)), (5, .int v13), (0, .ref a0), (1, .int a1), (2, .int a2)]) dX12_reads_238 rfl rfl (by decide) rfl ?_
              refine q_goto (tgt := 340) dX12_reads_241 (by decide) ?_
              refine q_goto (tgt := 27) dX12_reads_340 (by decide) ?_
              refine q_sub (ls' := [(0, .ref a0), (1, .int a1), (2, .int a2), (3, .int (1 : Int32)), (4, .int (a4 + (1 : Int32)))]) [3, 4, 5, 1, 0] rfl ?_
              exact ih _ _ _
          · refine q_iload 5 dX12_reads_111 rfl ?_
            refine q_istore (ls' := [(6, .int a4), (5, .int v13), (0, .ref a0), (1, .int a1), (2, .int a2), (3, .int a3), (4, .int a4)]) dX12_reads_113 (by decide) rfl ?_
            refine q_iconst (x := (0 : Int32)) dX12_reads_115 rfl ?_
            refine q_istore (ls' := [(7, .int (0 : Int32)), (6, .int a4), (5, .int v13), (0, .ref a0), (1, .int a1), (2, .int a2), (3, .int a3), (4, .int a4)]) dX12_reads_116 (by decide) rfl ?_
            refine q_sub (ls' := [(0, .ref a0), (1, .int a1), (2, .int a2), (4, .int a4), (6, .int a4), (7, .int (0 : Int32))]) [3, 4, 5, 7, 1, 0] rfl ?_
            exact v_X12_reads_b118 (ih) _ _ _
        · refine q_aload_n 1 dX12_reads_63 rfl ?_
          refine q_iload 0 dX12_reads_64 rfl ?_
          refine q_cVMI (Y2 := Y_X12_goesOn) (As := [.int v13]) (b := a0) (st := []) cl_X12 mv_X12_goesOn qw_1399 dX12_reads_66 ⟨Nat.le_of_ble_eq_true rfl, Nat.le_of_ble_eq_true rfl⟩ rfl (fun _ _ => rfl) (Nat.le_of_ble_eq_true rfl) ⟨Nat.le_of_ble_eq_true rfl, Nat.le_of_ble_eq_true rfl⟩ (fun r42 h41 => q_ob_is h41) (fun r42 h41 => m_X12_goesOn h41) (fun r42 h41 => ?_)
          refine q_if_ne (tgt := 80) dX12_reads_69 (by decide) (fun c44 => ?_) (fun c44 => ?_)
          · refine q_sub (ls' := [(4, .int a4)]) [5] rfl ?_
            exact v_X12_reads_b72
          · refine q_iload 0 dX12_reads_80 rfl ?_
            refine q_bipush (x := (41 : Int32)) dX12_reads_82 rfl ?_
            refine q_icmp_ne (tgt := 91) dX12_reads_84 (by decide) (fun c43 => ?_) (fun c43 => ?_)
            · refine q_iconst (x := (1 : Int32)) dX12_reads_87 rfl ?_
              refine q_goto (tgt := 92) dX12_reads_88 (by decide) ?_
              refine q_istore_n (ls' := [(3, .int (1 : Int32)), (5, .int v13), (0, .ref a0), (1, .int a1), (2, .int a2), (4, .int a4)]) dX12_reads_92 (by decide) rfl ?_
              refine q_iinc 5 (y := (a4 + (1 : Int32))) (ls' := [(4, .int (a4 + (1 : Int32))), (3, .int (1 : Int32)), (5, .int v13), (0, .ref a0), (1, .int a1), (2, .int a2)]) dX12_reads_93 rfl rfl (by decide) rfl ?_
              refine q_goto (tgt := 340) dX12_reads_96 (by decide) ?_
              refine q_goto (tgt := 27) dX12_reads_340 (by decide) ?_
              refine q_sub (ls' := [(0, .ref a0), (1, .int a1), (2, .int a2), (3, .int (1 : Int32)), (4, .int (a4 + (1 : Int32)))]) [3, 4, 5, 1, 0] rfl ?_
              exact ih _ _ _
            · refine q_iconst (x := (0 : Int32)) dX12_reads_91 rfl ?_
              refine q_istore_n (ls' := [(3, .int (0 : Int32)), (5, .int v13), (0, .ref a0), (1, .int a1), (2, .int a2), (4, .int a4)]) dX12_reads_92 (by decide) rfl ?_
              refine q_iinc 5 (y := (a4 + (1 : Int32))) (ls' := [(4, .int (a4 + (1 : Int32))), (3, .int (0 : Int32)), (5, .int v13), (0, .ref a0), (1, .int a1), (2, .int a2)]) dX12_reads_93 rfl rfl (by decide) rfl ?_
              refine q_goto (tgt := 340) dX12_reads_96 (by decide) ?_
              refine q_goto (tgt := 27) dX12_reads_340 (by decide) ?_
              refine q_sub (ls' := [(0, .ref a0), (1, .int a1), (2, .int a2), (3, .int (0 : Int32)), (4, .int (a4 + (1 : Int32)))]) [3, 4, 5, 1, 0] rfl ?_
              exact ih _ _ _
    · refine q_sub (ls' := [(0, .ref a0), (2, .int a2), (3, .int a3)]) [0, 2, 3] rfl ?_
      exact v_X12_reads_b343
set_option maxRecDepth 20000 in
theorem m_X12_reads {M : q_Mem} {a0 : Nat} {a1 : Int32} {x : (Int32 × q_Mem)} (h : f_X12_reads M a0 a1 = some x) : q_C Y_X12_reads [.ref a0, .int a1] M (some (.int x.1)) x.2 := by
  refine q_met (φ := (fun x : Int32 × q_Mem => (some (.int x.1), x.2))) (r := f_X12_reads M a0 a1) (by decide +kernel) (Nat.le_of_ble_eq_true rfl) ?_ h (fun _ _ => rfl)
  show q_V Y_X12_reads none (fun x : Int32 × q_Mem => (some (.int x.1), x.2)) 0 0 0 [(0, .ref a0), (1, .int a1)] [] M (f_X12_reads M a0 a1)
  unfold f_X12_reads
  refine q_obV ?_
  refine q_aload_n 0 dX12_reads_0 rfl ?_
  refine q_iconst (x := (0 : Int32)) dX12_reads_1 rfl ?_
  refine q_putI (f := 4) cl_X12 (by decide) qw_1121 rfl (Or.inl rfl) dX12_reads_2 rfl (fun M1 h2 => ?_)
  refine q_aload_n 0 dX12_reads_5 rfl ?_
  refine q_iconst (x := (0 : Int32)) dX12_reads_6 rfl ?_
  refine q_putI (f := 8) cl_X12 (by decide) qw_1125 rfl (Or.inl rfl) dX12_reads_7 rfl (fun M3 h4 => ?_)
  refine q_aload_n 0 dX12_reads_10 rfl ?_
  refine q_iconst (x := (0 : Int32)) dX12_reads_11 rfl ?_
  refine q_putI (f := 12) cl_X12 (by decide) qw_1129 rfl (Or.inl rfl) dX12_reads_12 rfl (fun M5 h6 => ?_)
  refine q_aload_n 0 dX12_reads_15 rfl ?_
  refine q_getR (f := 0) cl_X12 (by decide) qw_1117 rfl dX12_reads_16 (fun _ _ _ => rfl) (fun v7 h8 => ?_)
  refine q_iload_n 1 dX12_reads_19 rfl ?_
  refine q_iald dX12_reads_20 (fun v9 h10 => ?_)
  refine q_istore_n (ls' := [(2, .int v9), (0, .ref a0), (1, .int a1)]) dX12_reads_21 (by decide) rfl ?_
  refine q_iconst (x := (0 : Int32)) dX12_reads_22 rfl ?_
  refine q_istore_n (ls' := [(3, .int (0 : Int32)), (2, .int v9), (0, .ref a0), (1, .int a1)]) dX12_reads_23 (by decide) rfl ?_
  refine q_iconst (x := (0 : Int32)) dX12_reads_24 rfl ?_
  refine q_istore (ls' := [(4, .int (0 : Int32)), (3, .int (0 : Int32)), (2, .int v9), (0, .ref a0), (1, .int a1)]) dX12_reads_25 (by decide) rfl ?_
  refine q_sub (ls' := [(0, .ref a0), (1, .int a1), (2, .int v9), (3, .int (0 : Int32)), (4, .int (0 : Int32))]) [3, 4, 2, 1, 0] rfl ?_
  exact v_X12_reads_b27 _ _ _ _
theorem dX12_isIn_0 : decode cX12_isIn 0 = .ok (.bipush 100, 2) := by decide +kernel
theorem dX12_isIn_2 : decode cX12_isIn 2 = .ok (.iconst 4, 1) := by decide +kernel
theorem dX12_isIn_3 : decode cX12_isIn 3 = .ok (.iload_n 1, 1) := by decide +kernel
theorem dX12_isIn_4 : decode cX12_isIn 4 = .ok (.imul, 1) := by decide +kernel
theorem dX12_isIn_5 : decode cX12_isIn 5 = .ok (.iadd, 1) := by decide +kernel
theorem dX12_isIn_6 : decode cX12_isIn 6 = .ok (.istore 4, 2) := by decide +kernel
theorem dX12_isIn_8 : decode cX12_isIn 8 = .ok (.aload_n 0, 1) := by decide +kernel
theorem dX12_isIn_9 : decode cX12_isIn 9 = .ok (.getfield 7, 3) := by decide +kernel
theorem dX12_isIn_12 : decode cX12_isIn 12 = .ok (.iload 4, 2) := by decide +kernel
theorem dX12_isIn_14 : decode cX12_isIn 14 = .ok (.iaload, 1) := by decide +kernel
theorem dX12_isIn_15 : decode cX12_isIn 15 = .ok (.iload_n 2, 1) := by decide +kernel
theorem dX12_isIn_16 : decode cX12_isIn 16 = .ok (.if_icmp .ne 47, 3) := by decide +kernel
theorem dX12_isIn_19 : decode cX12_isIn 19 = .ok (.aload_n 0, 1) := by decide +kernel
theorem dX12_isIn_20 : decode cX12_isIn 20 = .ok (.getfield 7, 3) := by decide +kernel
theorem dX12_isIn_23 : decode cX12_isIn 23 = .ok (.iload 4, 2) := by decide +kernel
theorem dX12_isIn_25 : decode cX12_isIn 25 = .ok (.iconst 3, 1) := by decide +kernel
theorem dX12_isIn_26 : decode cX12_isIn 26 = .ok (.iadd, 1) := by decide +kernel
theorem dX12_isIn_27 : decode cX12_isIn 27 = .ok (.iaload, 1) := by decide +kernel
theorem dX12_isIn_28 : decode cX12_isIn 28 = .ok (.iconst (-1), 1) := by decide +kernel
theorem dX12_isIn_29 : decode cX12_isIn 29 = .ok (.if_icmp .eq 34, 3) := by decide +kernel
theorem dX12_isIn_32 : decode cX12_isIn 32 = .ok (.aload_n 0, 1) := by decide +kernel
theorem dX12_isIn_33 : decode cX12_isIn 33 = .ok (.getfield 7, 3) := by decide +kernel
theorem dX12_isIn_36 : decode cX12_isIn 36 = .ok (.sipush 2700, 3) := by decide +kernel
theorem dX12_isIn_39 : decode cX12_isIn 39 = .ok (.iconst 3, 1) := by decide +kernel
theorem dX12_isIn_40 : decode cX12_isIn 40 = .ok (.aload_n 0, 1) := by decide +kernel
theorem dX12_isIn_41 : decode cX12_isIn 41 = .ok (.getfield 7, 3) := by decide +kernel
theorem dX12_isIn_44 : decode cX12_isIn 44 = .ok (.iload 4, 2) := by decide +kernel
theorem dX12_isIn_46 : decode cX12_isIn 46 = .ok (.iconst 3, 1) := by decide +kernel
theorem dX12_isIn_47 : decode cX12_isIn 47 = .ok (.iadd, 1) := by decide +kernel
theorem dX12_isIn_48 : decode cX12_isIn 48 = .ok (.iaload, 1) := by decide +kernel
theorem dX12_isIn_49 : decode cX12_isIn 49 = .ok (.imul, 1) := by decide +kernel
theorem dX12_isIn_50 : decode cX12_isIn 50 = .ok (.iadd, 1) := by decide +kernel
theorem dX12_isIn_51 : decode cX12_isIn 51 = .ok (.iaload, 1) := by decide +kernel
theorem dX12_isIn_52 : decode cX12_isIn 52 = .ok (.bipush 7, 2) := by decide +kernel
theorem dX12_isIn_54 : decode cX12_isIn 54 = .ok (.idiv, 1) := by decide +kernel
theorem dX12_isIn_55 : decode cX12_isIn 55 = .ok (.iload_n 3, 1) := by decide +kernel
theorem dX12_isIn_56 : decode cX12_isIn 56 = .ok (.if_icmp .ne 7, 3) := by decide +kernel
theorem dX12_isIn_59 : decode cX12_isIn 59 = .ok (.iconst 1, 1) := by decide +kernel
theorem dX12_isIn_60 : decode cX12_isIn 60 = .ok (.goto 4, 3) := by decide +kernel
theorem dX12_isIn_63 : decode cX12_isIn 63 = .ok (.iconst 0, 1) := by decide +kernel
theorem dX12_isIn_64 : decode cX12_isIn 64 = .ok (.ireturn, 1) := by decide +kernel
def f_X12_isIn (M : q_Mem) (a0 : Nat) (a1 : Int32) (a2 : Int32) (a3 : Int32) : Option Int32 :=
  q_ob 11 M a0 ((q_gR 11 0 M a0).bind fun v1 =>
  (q_lI M v1 ((100 : Int32) + ((4 : Int32) * a1))).bind fun v3 =>
  (if v3 = a2 then
    (q_gR 11 0 M a0).bind fun v5 =>
    (q_lI M v5 (((100 : Int32) + ((4 : Int32) * a1)) + (3 : Int32))).bind fun v7 =>
    (if v7 = (-1 : Int32) then
      some (0 : Int32)
    else
      (q_gR 11 0 M a0).bind fun v9 =>
      (q_gR 11 0 M a0).bind fun v11 =>
      (q_lI M v11 (((100 : Int32) + ((4 : Int32) * a1)) + (3 : Int32))).bind fun v13 =>
      (q_lI M v9 ((2700 : Int32) + ((3 : Int32) * v13))).bind fun v15 =>
      (q_dv v15 (7 : Int32)).bind fun v17 =>
      (if v17 = a3 then
        some (1 : Int32)
      else
        some (0 : Int32)))
  else
    some (0 : Int32)))
set_option maxRecDepth 20000 in
theorem m_X12_isIn {M : q_Mem} {a0 : Nat} {a1 : Int32} {a2 : Int32} {a3 : Int32} {x : Int32} (h : f_X12_isIn M a0 a1 a2 a3 = some x) : q_C Y_X12_isIn [.ref a0, .int a1, .int a2, .int a3] M (some (.int x)) M := by
  refine q_met (φ := (fun x : Int32 => (some (.int x), M))) (r := f_X12_isIn M a0 a1 a2 a3) (by decide +kernel) (Nat.le_of_ble_eq_true rfl) ?_ h (fun _ _ => rfl)
  show q_V Y_X12_isIn none (fun x : Int32 => (some (.int x), M)) 0 0 0 [(0, .ref a0), (1, .int a1), (2, .int a2), (3, .int a3)] [] M (f_X12_isIn M a0 a1 a2 a3)
  unfold f_X12_isIn
  refine q_obV ?_
  refine q_bipush (x := (100 : Int32)) dX12_isIn_0 rfl ?_
  refine q_iconst (x := (4 : Int32)) dX12_isIn_2 rfl ?_
  refine q_iload_n 1 dX12_isIn_3 rfl ?_
  refine q_imul dX12_isIn_4 ?_
  refine q_iadd dX12_isIn_5 ?_
  refine q_istore (ls' := [(4, .int ((100 : Int32) + ((4 : Int32) * a1))), (0, .ref a0), (1, .int a1), (2, .int a2), (3, .int a3)]) dX12_isIn_6 (by decide) rfl ?_
  refine q_aload_n 1 dX12_isIn_8 rfl ?_
  refine q_getR (f := 0) cl_X12 (by decide) qw_1117 rfl dX12_isIn_9 (fun _ _ _ => rfl) (fun v1 h2 => ?_)
  refine q_iload 0 dX12_isIn_12 rfl ?_
  refine q_iald dX12_isIn_14 (fun v3 h4 => ?_)
  refine q_iload_n 3 dX12_isIn_15 rfl ?_
  refine q_icmp_ne (tgt := 63) dX12_isIn_16 (by decide) (fun c21 => ?_) (fun c21 => ?_)
  · refine q_aload_n 1 dX12_isIn_19 rfl ?_
    refine q_getR (f := 0) cl_X12 (by decide) qw_1117 rfl dX12_isIn_20 (fun _ _ _ => rfl) (fun v5 h6 => ?_)
    refine q_iload 0 dX12_isIn_23 rfl ?_
    refine q_iconst (x := (3 : Int32)) dX12_isIn_25 rfl ?_
    refine q_iadd dX12_isIn_26 ?_
    refine q_iald dX12_isIn_27 (fun v7 h8 => ?_)
    refine q_iconst (x := (-1 : Int32)) dX12_isIn_28 rfl ?_
    refine q_icmp_eq (tgt := 63) dX12_isIn_29 (by decide) (fun c20 => ?_) (fun c20 => ?_)
    · refine q_iconst (x := (0 : Int32)) dX12_isIn_63 rfl ?_
      exact q_zretL dX12_isIn_64 rfl (Or.inl rfl) rfl (Nat.le_of_ble_eq_true rfl) rfl
    · refine q_aload_n 1 dX12_isIn_32 rfl ?_
      refine q_getR (f := 0) cl_X12 (by decide) qw_1117 rfl dX12_isIn_33 (fun _ _ _ => rfl) (fun v9 h10 => ?_)
      refine q_sipush (x := (2700 : Int32)) dX12_isIn_36 rfl ?_
      refine q_iconst (x := (3 : Int32)) dX12_isIn_39 rfl ?_
      refine q_aload_n 1 dX12_isIn_40 rfl ?_
      refine q_getR (f := 0) cl_X12 (by decide) qw_1117 rfl dX12_isIn_41 (fun _ _ _ => rfl) (fun v11 h12 => ?_)
      refine q_iload 0 dX12_isIn_44 rfl ?_
      refine q_iconst (x := (3 : Int32)) dX12_isIn_46 rfl ?_
      refine q_iadd dX12_isIn_47 ?_
      refine q_iald dX12_isIn_48 (fun v13 h14 => ?_)
      refine q_imul dX12_isIn_49 ?_
      refine q_iadd dX12_isIn_50 ?_
      refine q_iald dX12_isIn_51 (fun v15 h16 => ?_)
      refine q_bipush (x := (7 : Int32)) dX12_isIn_52 rfl ?_
      refine q_idiv dX12_isIn_54 (fun v17 h18 => ?_)
      refine q_iload_n 4 dX12_isIn_55 rfl ?_
      refine q_icmp_ne (tgt := 63) dX12_isIn_56 (by decide) (fun c19 => ?_) (fun c19 => ?_)
      · refine q_iconst (x := (1 : Int32)) dX12_isIn_59 rfl ?_
        refine q_goto (tgt := 64) dX12_isIn_60 (by decide) ?_
        exact q_zretL dX12_isIn_64 rfl (Or.inr rfl) rfl (Nat.le_of_ble_eq_true rfl) rfl
      · refine q_iconst (x := (0 : Int32)) dX12_isIn_63 rfl ?_
        exact q_zretL dX12_isIn_64 rfl (Or.inl rfl) rfl (Nat.le_of_ble_eq_true rfl) rfl
  · refine q_iconst (x := (0 : Int32)) dX12_isIn_63 rfl ?_
    exact q_zretL dX12_isIn_64 rfl (Or.inl rfl) rfl (Nat.le_of_ble_eq_true rfl) rfl
theorem dX12_weightOf_0 : decode cX12_weightOf 0 = .ok (.iconst 0, 1) := by decide +kernel
theorem dX12_weightOf_1 : decode cX12_weightOf 1 = .ok (.istore_n 3, 1) := by decide +kernel
theorem dX12_weightOf_2 : decode cX12_weightOf 2 = .ok (.iconst 0, 1) := by decide +kernel
theorem dX12_weightOf_3 : decode cX12_weightOf 3 = .ok (.istore 4, 2) := by decide +kernel
theorem dX12_weightOf_5 : decode cX12_weightOf 5 = .ok (.iload 4, 2) := by decide +kernel
theorem dX12_weightOf_7 : decode cX12_weightOf 7 = .ok (.aload_n 0, 1) := by decide +kernel
theorem dX12_weightOf_8 : decode cX12_weightOf 8 = .ok (.getfield 7, 3) := by decide +kernel
theorem dX12_weightOf_11 : decode cX12_weightOf 11 = .ok (.iconst 1, 1) := by decide +kernel
theorem dX12_weightOf_12 : decode cX12_weightOf 12 = .ok (.iaload, 1) := by decide +kernel
theorem dX12_weightOf_13 : decode cX12_weightOf 13 = .ok (.if_icmp .ge 41, 3) := by decide +kernel
theorem dX12_weightOf_16 : decode cX12_weightOf 16 = .ok (.iload_n 3, 1) := by decide +kernel
theorem dX12_weightOf_17 : decode cX12_weightOf 17 = .ok (.aload_n 0, 1) := by decide +kernel
theorem dX12_weightOf_18 : decode cX12_weightOf 18 = .ok (.iload 4, 2) := by decide +kernel
theorem dX12_weightOf_20 : decode cX12_weightOf 20 = .ok (.iload_n 1, 1) := by decide +kernel
theorem dX12_weightOf_21 : decode cX12_weightOf 21 = .ok (.iload_n 2, 1) := by decide +kernel
theorem dX12_weightOf_22 : decode cX12_weightOf 22 = .ok (.invokevirtual 202, 3) := by decide +kernel
theorem dX12_weightOf_25 : decode cX12_weightOf 25 = .ok (.ifCond .eq 20, 3) := by decide +kernel
theorem dX12_weightOf_28 : decode cX12_weightOf 28 = .ok (.aload_n 0, 1) := by decide +kernel
theorem dX12_weightOf_29 : decode cX12_weightOf 29 = .ok (.getfield 7, 3) := by decide +kernel
theorem dX12_weightOf_32 : decode cX12_weightOf 32 = .ok (.bipush 100, 2) := by decide +kernel
theorem dX12_weightOf_34 : decode cX12_weightOf 34 = .ok (.iconst 4, 1) := by decide +kernel
theorem dX12_weightOf_35 : decode cX12_weightOf 35 = .ok (.iload 4, 2) := by decide +kernel
theorem dX12_weightOf_37 : decode cX12_weightOf 37 = .ok (.imul, 1) := by decide +kernel
theorem dX12_weightOf_38 : decode cX12_weightOf 38 = .ok (.iadd, 1) := by decide +kernel
theorem dX12_weightOf_39 : decode cX12_weightOf 39 = .ok (.iconst 2, 1) := by decide +kernel
theorem dX12_weightOf_40 : decode cX12_weightOf 40 = .ok (.iadd, 1) := by decide +kernel
theorem dX12_weightOf_41 : decode cX12_weightOf 41 = .ok (.iaload, 1) := by decide +kernel
theorem dX12_weightOf_42 : decode cX12_weightOf 42 = .ok (.goto 4, 3) := by decide +kernel
theorem dX12_weightOf_45 : decode cX12_weightOf 45 = .ok (.iconst 0, 1) := by decide +kernel
theorem dX12_weightOf_46 : decode cX12_weightOf 46 = .ok (.iadd, 1) := by decide +kernel
theorem dX12_weightOf_47 : decode cX12_weightOf 47 = .ok (.istore_n 3, 1) := by decide +kernel
theorem dX12_weightOf_48 : decode cX12_weightOf 48 = .ok (.iinc 4 1, 3) := by decide +kernel
theorem dX12_weightOf_51 : decode cX12_weightOf 51 = .ok (.goto (-46), 3) := by decide +kernel
theorem dX12_weightOf_54 : decode cX12_weightOf 54 = .ok (.iload_n 3, 1) := by decide +kernel
theorem dX12_weightOf_55 : decode cX12_weightOf 55 = .ok (.ireturn, 1) := by decide +kernel
def f_X12_weightOf_b5 (M : q_Mem) (a0 : Nat) (a1 : Int32) (a2 : Int32) : Nat → Int32 → Int32 → Option Int32
  | 0, _, _ => none
  | n + 1, a3, a4 =>
    (q_gR 11 0 M a0).bind fun v1 =>
    (q_lI M v1 (1 : Int32)).bind fun v3 =>
    (if a4 < v3 then
      (f_X12_isIn M a0 a4 a1 a2).bind fun v6 =>
      (if v6 = 0 then
        f_X12_weightOf_b5 M a0 a1 a2 n (a3 + (0 : Int32)) (a4 + (1 : Int32))
      else
        (q_gR 11 0 M a0).bind fun v7 =>
        (q_lI M v7 (((100 : Int32) + ((4 : Int32) * a4)) + (2 : Int32))).bind fun v9 =>
        f_X12_weightOf_b5 M a0 a1 a2 n (a3 + v9) (a4 + (1 : Int32)))
    else
      some a3)
def f_X12_weightOf (M : q_Mem) (a0 : Nat) (a1 : Int32) (a2 : Int32) : Option Int32 :=
  q_ob 11 M a0 (f_X12_weightOf_b5 M a0 a1 a2 q_fuel (0 : Int32) (0 : Int32))
set_option maxRecDepth 20000 in
theorem v_X12_weightOf_b5 {M : q_Mem} {a0 : Nat} {a1 : Int32} {a2 : Int32}  : ∀ (n : Nat) (a3 : Int32) (a4 : Int32), q_V Y_X12_weightOf none (fun x : Int32 => (some (.int x), M)) 0 0 5 [(0, .ref a0), (1, .int a1), (2, .int a2), (3, .int a3), (4, .int a4)] [] M (f_X12_weightOf_b5 M a0 a1 a2 n a3 a4) := by
  intro n
  induction n with
  | zero => intro a3 a4; exact q_none
  | succ n ih =>
    intro a3 a4
    rw [f_X12_weightOf_b5.eq_2]
    refine q_iload 4 dX12_weightOf_5 rfl ?_
    refine q_aload_n 0 dX12_weightOf_7 rfl ?_
    refine q_getR (f := 0) cl_X12 (by decide) qw_1117 rfl dX12_weightOf_8 (fun _ _ _ => rfl) (fun v1 h2 => ?_)
    refine q_iconst (x := (1 : Int32)) dX12_weightOf_11 rfl ?_
    refine q_iald dX12_weightOf_12 (fun v3 h4 => ?_)
    refine q_icmp_ge (tgt := 54) dX12_weightOf_13 (by decide) (fun c12 => ?_) (fun c12 => ?_)
    · refine q_iload_n 3 dX12_weightOf_16 rfl ?_
      refine q_aload_n 0 dX12_weightOf_17 rfl ?_
      refine q_iload 4 dX12_weightOf_18 rfl ?_
      refine q_iload_n 1 dX12_weightOf_20 rfl ?_
      refine q_iload_n 2 dX12_weightOf_21 rfl ?_
      refine q_cVI (Y2 := Y_X12_isIn) (As := [.int a4, .int a1, .int a2]) (b := a0) (st := [.int a3]) cl_X12 mv_X12_isIn qw_1442 dX12_weightOf_22 ⟨Nat.le_of_ble_eq_true rfl, Nat.le_of_ble_eq_true rfl⟩ rfl (fun _ _ => rfl) (Nat.le_of_ble_eq_true rfl) ⟨Nat.le_of_ble_eq_true rfl, Nat.le_of_ble_eq_true rfl⟩ (fun v6 h5 => q_ob_is h5) (fun v6 h5 => m_X12_isIn h5) (fun v6 h5 => ?_)
      refine q_if_eq (tgt := 45) dX12_weightOf_25 (by decide) (fun c11 => ?_) (fun c11 => ?_)
      · refine q_iconst (x := (0 : Int32)) dX12_weightOf_45 rfl ?_
        refine q_iadd dX12_weightOf_46 ?_
        refine q_istore_n (ls' := [(3, .int (a3 + (0 : Int32))), (0, .ref a0), (1, .int a1), (2, .int a2), (4, .int a4)]) dX12_weightOf_47 (by decide) rfl ?_
        refine q_iinc 4 (y := (a4 + (1 : Int32))) (ls' := [(4, .int (a4 + (1 : Int32))), (3, .int (a3 + (0 : Int32))), (0, .ref a0), (1, .int a1), (2, .int a2)]) dX12_weightOf_48 rfl rfl (by decide) rfl ?_
        refine q_goto (tgt := 5) dX12_weightOf_51 (by decide) ?_
        refine q_sub (ls' := [(0, .ref a0), (1, .int a1), (2, .int a2), (3, .int (a3 + (0 : Int32))), (4, .int (a4 + (1 : Int32)))]) [2, 3, 4, 1, 0] rfl ?_
        exact ih _ _
      · refine q_aload_n 0 dX12_weightOf_28 rfl ?_
        refine q_getR (f := 0) cl_X12 (by decide) qw_1117 rfl dX12_weightOf_29 (fun _ _ _ => rfl) (fun v7 h8 => ?_)
        refine q_bipush (x := (100 : Int32)) dX12_weightOf_32 rfl ?_
        refine q_iconst (x := (4 : Int32)) dX12_weightOf_34 rfl ?_
        refine q_iload 4 dX12_weightOf_35 rfl ?_
        refine q_imul dX12_weightOf_37 ?_
        refine q_iadd dX12_weightOf_38 ?_
        refine q_iconst (x := (2 : Int32)) dX12_weightOf_39 rfl ?_
        refine q_iadd dX12_weightOf_40 ?_
        refine q_iald dX12_weightOf_41 (fun v9 h10 => ?_)
        refine q_goto (tgt := 46) dX12_weightOf_42 (by decide) ?_
        refine q_iadd dX12_weightOf_46 ?_
        refine q_istore_n (ls' := [(3, .int (a3 + v9)), (0, .ref a0), (1, .int a1), (2, .int a2), (4, .int a4)]) dX12_weightOf_47 (by decide) rfl ?_
        refine q_iinc 4 (y := (a4 + (1 : Int32))) (ls' := [(4, .int (a4 + (1 : Int32))), (3, .int (a3 + v9)), (0, .ref a0), (1, .int a1), (2, .int a2)]) dX12_weightOf_48 rfl rfl (by decide) rfl ?_
        refine q_goto (tgt := 5) dX12_weightOf_51 (by decide) ?_
        refine q_sub (ls' := [(0, .ref a0), (1, .int a1), (2, .int a2), (3, .int (a3 + v9)), (4, .int (a4 + (1 : Int32)))]) [2, 3, 4, 1, 0] rfl ?_
        exact ih _ _
    · refine q_iload_n 3 dX12_weightOf_54 rfl ?_
      exact q_iret dX12_weightOf_55 rfl rfl (Nat.le_of_ble_eq_true rfl) rfl
set_option maxRecDepth 20000 in
theorem m_X12_weightOf {M : q_Mem} {a0 : Nat} {a1 : Int32} {a2 : Int32} {x : Int32} (h : f_X12_weightOf M a0 a1 a2 = some x) : q_C Y_X12_weightOf [.ref a0, .int a1, .int a2] M (some (.int x)) M := by
  refine q_met (φ := (fun x : Int32 => (some (.int x), M))) (r := f_X12_weightOf M a0 a1 a2) (by decide +kernel) (Nat.le_of_ble_eq_true rfl) ?_ h (fun _ _ => rfl)
  show q_V Y_X12_weightOf none (fun x : Int32 => (some (.int x), M)) 0 0 0 [(0, .ref a0), (1, .int a1), (2, .int a2)] [] M (f_X12_weightOf M a0 a1 a2)
  unfold f_X12_weightOf
  refine q_obV ?_
  refine q_iconst (x := (0 : Int32)) dX12_weightOf_0 rfl ?_
  refine q_istore_n (ls' := [(3, .int (0 : Int32)), (0, .ref a0), (1, .int a1), (2, .int a2)]) dX12_weightOf_1 (by decide) rfl ?_
  refine q_iconst (x := (0 : Int32)) dX12_weightOf_2 rfl ?_
  refine q_istore (ls' := [(4, .int (0 : Int32)), (3, .int (0 : Int32)), (0, .ref a0), (1, .int a1), (2, .int a2)]) dX12_weightOf_3 (by decide) rfl ?_
  refine q_sub (ls' := [(0, .ref a0), (1, .int a1), (2, .int a2), (3, .int (0 : Int32)), (4, .int (0 : Int32))]) [2, 3, 4, 1, 0] rfl ?_
  exact v_X12_weightOf_b5 _ _ _
