theorem dX8_readUnit_0 : decode cX8_readUnit 0 = .ok (.iload_n 2, 1) := by decide +kernel
theorem dX8_readUnit_1 : decode cX8_readUnit 1 = .ok (.bipush 33, 2) := by decide +kernel
theorem dX8_readUnit_3 : decode cX8_readUnit 3 = .ok (.if_icmp .ne 13, 3) := by decide +kernel
theorem dX8_readUnit_6 : decode cX8_readUnit 6 = .ok (.aload_n 0, 1) := by decide +kernel
theorem dX8_readUnit_7 : decode cX8_readUnit 7 = .ok (.bipush 33, 2) := by decide +kernel
theorem dX8_readUnit_9 : decode cX8_readUnit 9 = .ok (.iconst 0, 1) := by decide +kernel
theorem dX8_readUnit_10 : decode cX8_readUnit 10 = .ok (.invokevirtual 122, 3) := by decide +kernel
theorem dX8_readUnit_13 : decode cX8_readUnit 13 = .ok (.goto 98, 3) := by decide +kernel
theorem dX8_readUnit_16 : decode cX8_readUnit 16 = .ok (.iload_n 2, 1) := by decide +kernel
theorem dX8_readUnit_17 : decode cX8_readUnit 17 = .ok (.bipush 45, 2) := by decide +kernel
theorem dX8_readUnit_19 : decode cX8_readUnit 19 = .ok (.if_icmp .ne 14, 3) := by decide +kernel
theorem dX8_readUnit_22 : decode cX8_readUnit 22 = .ok (.aload_n 0, 1) := by decide +kernel
theorem dX8_readUnit_23 : decode cX8_readUnit 23 = .ok (.sipush 128, 3) := by decide +kernel
theorem dX8_readUnit_26 : decode cX8_readUnit 26 = .ok (.iconst 0, 1) := by decide +kernel
theorem dX8_readUnit_27 : decode cX8_readUnit 27 = .ok (.invokevirtual 122, 3) := by decide +kernel
theorem dX8_readUnit_30 : decode cX8_readUnit 30 = .ok (.goto 81, 3) := by decide +kernel
theorem dX8_readUnit_33 : decode cX8_readUnit 33 = .ok (.iload_n 2, 1) := by decide +kernel
theorem dX8_readUnit_34 : decode cX8_readUnit 34 = .ok (.bipush 40, 2) := by decide +kernel
theorem dX8_readUnit_36 : decode cX8_readUnit 36 = .ok (.if_icmp .ne 38, 3) := by decide +kernel
theorem dX8_readUnit_39 : decode cX8_readUnit 39 = .ok (.aload_n 0, 1) := by decide +kernel
theorem dX8_readUnit_40 : decode cX8_readUnit 40 = .ok (.getfield 53, 3) := by decide +kernel
theorem dX8_readUnit_43 : decode cX8_readUnit 43 = .ok (.bipush 8, 2) := by decide +kernel
theorem dX8_readUnit_45 : decode cX8_readUnit 45 = .ok (.if_icmp .lt 9, 3) := by decide +kernel
theorem dX8_readUnit_48 : decode cX8_readUnit 48 = .ok (.aload_n 0, 1) := by decide +kernel
theorem dX8_readUnit_49 : decode cX8_readUnit 49 = .ok (.iload_n 1, 1) := by decide +kernel
theorem dX8_readUnit_50 : decode cX8_readUnit 50 = .ok (.iconst 3, 1) := by decide +kernel
theorem dX8_readUnit_51 : decode cX8_readUnit 51 = .ok (.invokevirtual 107, 3) := by decide +kernel
theorem dX8_readUnit_54 : decode cX8_readUnit 54 = .ok (.aload_n 0, 1) := by decide +kernel
theorem dX8_readUnit_55 : decode cX8_readUnit 55 = .ok (.dup, 1) := by decide +kernel
theorem dX8_readUnit_56 : decode cX8_readUnit 56 = .ok (.getfield 53, 3) := by decide +kernel
theorem dX8_readUnit_59 : decode cX8_readUnit 59 = .ok (.iconst 1, 1) := by decide +kernel
theorem dX8_readUnit_60 : decode cX8_readUnit 60 = .ok (.iadd, 1) := by decide +kernel
theorem dX8_readUnit_61 : decode cX8_readUnit 61 = .ok (.putfield 53, 3) := by decide +kernel
theorem dX8_readUnit_64 : decode cX8_readUnit 64 = .ok (.aload_n 0, 1) := by decide +kernel
theorem dX8_readUnit_65 : decode cX8_readUnit 65 = .ok (.bipush 40, 2) := by decide +kernel
theorem dX8_readUnit_67 : decode cX8_readUnit 67 = .ok (.iconst 0, 1) := by decide +kernel
theorem dX8_readUnit_68 : decode cX8_readUnit 68 = .ok (.invokevirtual 122, 3) := by decide +kernel
theorem dX8_readUnit_71 : decode cX8_readUnit 71 = .ok (.goto 40, 3) := by decide +kernel
theorem dX8_readUnit_74 : decode cX8_readUnit 74 = .ok (.iload_n 2, 1) := by decide +kernel
theorem dX8_readUnit_75 : decode cX8_readUnit 75 = .ok (.invokestatic 126, 3) := by decide +kernel
theorem dX8_readUnit_78 : decode cX8_readUnit 78 = .ok (.istore_n 3, 1) := by decide +kernel
theorem dX8_readUnit_79 : decode cX8_readUnit 79 = .ok (.iload_n 3, 1) := by decide +kernel
theorem dX8_readUnit_80 : decode cX8_readUnit 80 = .ok (.ifCond .lt 12, 3) := by decide +kernel
theorem dX8_readUnit_83 : decode cX8_readUnit 83 = .ok (.iload_n 3, 1) := by decide +kernel
theorem dX8_readUnit_84 : decode cX8_readUnit 84 = .ok (.aload_n 0, 1) := by decide +kernel
theorem dX8_readUnit_85 : decode cX8_readUnit 85 = .ok (.getfield 15, 3) := by decide +kernel
theorem dX8_readUnit_88 : decode cX8_readUnit 88 = .ok (.arraylength, 1) := by decide +kernel
theorem dX8_readUnit_89 : decode cX8_readUnit 89 = .ok (.if_icmp .lt 12, 3) := by decide +kernel
theorem dX8_readUnit_92 : decode cX8_readUnit 92 = .ok (.aload_n 0, 1) := by decide +kernel
theorem dX8_readUnit_93 : decode cX8_readUnit 93 = .ok (.iload_n 1, 1) := by decide +kernel
theorem dX8_readUnit_94 : decode cX8_readUnit 94 = .ok (.iconst 1, 1) := by decide +kernel
theorem dX8_readUnit_95 : decode cX8_readUnit 95 = .ok (.invokevirtual 107, 3) := by decide +kernel
theorem dX8_readUnit_98 : decode cX8_readUnit 98 = .ok (.goto 13, 3) := by decide +kernel
theorem dX8_readUnit_101 : decode cX8_readUnit 101 = .ok (.aload_n 0, 1) := by decide +kernel
theorem dX8_readUnit_102 : decode cX8_readUnit 102 = .ok (.aload_n 0, 1) := by decide +kernel
theorem dX8_readUnit_103 : decode cX8_readUnit 103 = .ok (.getfield 15, 3) := by decide +kernel
theorem dX8_readUnit_106 : decode cX8_readUnit 106 = .ok (.iload_n 3, 1) := by decide +kernel
theorem dX8_readUnit_107 : decode cX8_readUnit 107 = .ok (.laload, 1) := by decide +kernel
theorem dX8_readUnit_108 : decode cX8_readUnit 108 = .ok (.invokevirtual 118, 3) := by decide +kernel
theorem dX8_readUnit_111 : decode cX8_readUnit 111 = .ok (.return_, 1) := by decide +kernel
def f_X8_readUnit_b92 (M : q_Mem) (a0 : Nat) (a1 : Int32) : Option q_Mem :=
  (f_X8_stop M a0 a1 (1 : Int32)).bind fun M40 =>
  some M40
def f_X8_readUnit_b54 (M : q_Mem) (a0 : Nat) : Option q_Mem :=
  (q_gI 7 8 M a0).bind fun v31 =>
  (q_pI 7 8 M a0 (v31 + (1 : Int32))).bind fun M33 =>
  (f_X8_pushMark M33 a0 (40 : Int32) (0 : Int32)).bind fun M37 =>
  some M37
def f_X8_readUnit (M : q_Mem) (a0 : Nat) (a1 : Int32) (a2 : Int32) : Option q_Mem :=
  q_ob 7 M a0 ((if a2 = (33 : Int32) then
    (f_X8_pushMark M a0 (33 : Int32) (0 : Int32)).bind fun M3 =>
    some M3
  else
    (if a2 = (45 : Int32) then
      (f_X8_pushMark M a0 (128 : Int32) (0 : Int32)).bind fun M6 =>
      some M6
    else
      (if a2 = (40 : Int32) then
        (q_gI 7 8 M a0).bind fun v7 =>
        (if v7 < (8 : Int32) then
          f_X8_readUnit_b54 M a0
        else
          (f_X8_stop M a0 a1 (3 : Int32)).bind fun M11 =>
          f_X8_readUnit_b54 M11 a0)
      else
        (f_X8_nameOf M a2).bind fun v14 =>
        (if v14 < 0 then
          f_X8_readUnit_b92 M a0 a1
        else
          (q_gR 7 2 M a0).bind fun v15 =>
          (q_ln M v15).bind fun v17 =>
          (if v14 < v17 then
            (q_gR 7 2 M a0).bind fun v19 =>
            (q_lJ M v19 v14).bind fun v21 =>
            (f_X8_endUnit M a0 v21).bind fun M25 =>
            some M25
          else
            f_X8_readUnit_b92 M a0 a1))))))
set_option maxRecDepth 20000 in
theorem v_X8_readUnit_b92 {M : q_Mem} {a0 : Nat} {a1 : Int32}  : q_V Y_X8_readUnit none (fun x : q_Mem => (none, x)) 0 0 92 [(0, .ref a0), (1, .int a1)] [] M (f_X8_readUnit_b92 M a0 a1 ) := by
  unfold f_X8_readUnit_b92
  refine q_aload_n 0 dX8_readUnit_92 rfl ?_
  refine q_iload_n 1 dX8_readUnit_93 rfl ?_
  refine q_iconst (x := (1 : Int32)) dX8_readUnit_94 rfl ?_
  refine q_cVM (Y2 := Y_X8_stop) (As := [.int a1, .int (1 : Int32)]) (b := a0) (st := []) cl_X8 mv_X8_stop qw_656 dX8_readUnit_95 ⟨Nat.le_of_ble_eq_true rfl, Nat.le_of_ble_eq_true rfl⟩ rfl (fun _ _ => rfl) (Nat.le_of_ble_eq_true rfl) ⟨Nat.le_of_ble_eq_true rfl, Nat.le_of_ble_eq_true rfl⟩ (fun M40 h38 => q_ob_is h38) (fun M40 h38 => m_X8_stop h38) (fun M40 h38 => ?_)
  refine q_goto (tgt := 111) dX8_readUnit_98 (by decide) ?_
  exact q_vret dX8_readUnit_111 rfl rfl (Nat.le_of_ble_eq_true rfl) rfl
set_option maxRecDepth 20000 in
theorem v_X8_readUnit_b54 {M : q_Mem} {a0 : Nat}  : q_V Y_X8_readUnit none (fun x : q_Mem => (none, x)) 0 0 54 [(0, .ref a0)] [] M (f_X8_readUnit_b54 M a0 ) := by
  unfold f_X8_readUnit_b54
  refine q_aload_n 0 dX8_readUnit_54 rfl ?_
  refine q_dup dX8_readUnit_55 rfl ?_
  refine q_getI (f := 8) cl_X8 (by decide) qw_201 rfl dX8_readUnit_56 (Or.inl rfl) (fun v31 h32 => ?_)
  refine q_iconst (x := (1 : Int32)) dX8_readUnit_59 rfl ?_
  refine q_iadd dX8_readUnit_60 ?_
  refine q_putI (f := 8) cl_X8 (by decide) qw_201 rfl (Or.inl rfl) dX8_readUnit_61 rfl (fun M33 h34 => ?_)
  refine q_aload_n 0 dX8_readUnit_64 rfl ?_
  refine q_bipush (x := (40 : Int32)) dX8_readUnit_65 rfl ?_
  refine q_iconst (x := (0 : Int32)) dX8_readUnit_67 rfl ?_
  refine q_cVM (Y2 := Y_X8_pushMark) (As := [.int (40 : Int32), .int (0 : Int32)]) (b := a0) (st := []) cl_X8 mv_X8_pushMark qw_681 dX8_readUnit_68 ⟨Nat.le_of_ble_eq_true rfl, Nat.le_of_ble_eq_true rfl⟩ rfl (fun _ _ => rfl) (Nat.le_of_ble_eq_true rfl) ⟨Nat.le_of_ble_eq_true rfl, Nat.le_of_ble_eq_true rfl⟩ (fun M37 h35 => q_ob_is h35) (fun M37 h35 => m_X8_pushMark h35) (fun M37 h35 => ?_)
  refine q_goto (tgt := 111) dX8_readUnit_71 (by decide) ?_
  exact q_vret dX8_readUnit_111 rfl rfl (Nat.le_of_ble_eq_true rfl) rfl
set_option maxRecDepth 20000 in
theorem m_X8_readUnit {M : q_Mem} {a0 : Nat} {a1 : Int32} {a2 : Int32} {x : q_Mem} (h : f_X8_readUnit M a0 a1 a2 = some x) : q_C Y_X8_readUnit [.ref a0, .int a1, .int a2] M none x := by
  refine q_met (φ := (fun x : q_Mem => (none, x))) (r := f_X8_readUnit M a0 a1 a2) (by decide +kernel) (Nat.le_of_ble_eq_true rfl) ?_ h (fun _ _ => rfl)
  show q_V Y_X8_readUnit none (fun x : q_Mem => (none, x)) 0 0 0 [(0, .ref a0), (1, .int a1), (2, .int a2)] [] M (f_X8_readUnit M a0 a1 a2)
  unfold f_X8_readUnit
  refine q_obV ?_
  refine q_iload_n 2 dX8_readUnit_0 rfl ?_
  refine q_bipush (x := (33 : Int32)) dX8_readUnit_1 rfl ?_
  refine q_icmp_ne (tgt := 16) dX8_readUnit_3 (by decide) (fun c30 => ?_) (fun c30 => ?_)
  · refine q_aload_n 0 dX8_readUnit_6 rfl ?_
    refine q_bipush (x := (33 : Int32)) dX8_readUnit_7 rfl ?_
    refine q_iconst (x := (0 : Int32)) dX8_readUnit_9 rfl ?_
    refine q_cVM (Y2 := Y_X8_pushMark) (As := [.int (33 : Int32), .int (0 : Int32)]) (b := a0) (st := []) cl_X8 mv_X8_pushMark qw_681 dX8_readUnit_10 ⟨Nat.le_of_ble_eq_true rfl, Nat.le_of_ble_eq_true rfl⟩ rfl (fun _ _ => rfl) (Nat.le_of_ble_eq_true rfl) ⟨Nat.le_of_ble_eq_true rfl, Nat.le_of_ble_eq_true rfl⟩ (fun M3 h1 => q_ob_is h1) (fun M3 h1 => m_X8_pushMark h1) (fun M3 h1 => ?_)
    refine q_goto (tgt := 111) dX8_readUnit_13 (by decide) ?_
    exact q_vret dX8_readUnit_111 rfl rfl (Nat.le_of_ble_eq_true rfl) rfl
  · refine q_iload_n 2 dX8_readUnit_16 rfl ?_
    refine q_bipush (x := (45 : Int32)) dX8_readUnit_17 rfl ?_
    refine q_icmp_ne (tgt := 33) dX8_readUnit_19 (by decide) (fun c29 => ?_) (fun c29 => ?_)
    · refine q_aload_n 0 dX8_readUnit_22 rfl ?_
      refine q_sipush (x := (128 : Int32)) dX8_readUnit_23 rfl ?_
      refine q_iconst (x := (0 : Int32)) dX8_readUnit_26 rfl ?_
      refine q_cVM (Y2 := Y_X8_pushMark) (As := [.int (128 : Int32), .int (0 : Int32)]) (b := a0) (st := []) cl_X8 mv_X8_pushMark qw_681 dX8_readUnit_27 ⟨Nat.le_of_ble_eq_true rfl, Nat.le_of_ble_eq_true rfl⟩ rfl (fun _ _ => rfl) (Nat.le_of_ble_eq_true rfl) ⟨Nat.le_of_ble_eq_true rfl, Nat.le_of_ble_eq_true rfl⟩ (fun M6 h4 => q_ob_is h4) (fun M6 h4 => m_X8_pushMark h4) (fun M6 h4 => ?_)
      refine q_goto (tgt := 111) dX8_readUnit_30 (by decide) ?_
      exact q_vret dX8_readUnit_111 rfl rfl (Nat.le_of_ble_eq_true rfl) rfl
    · refine q_iload_n 2 dX8_readUnit_33 rfl ?_
      refine q_bipush (x := (40 : Int32)) dX8_readUnit_34 rfl ?_
      refine q_icmp_ne (tgt := 74) dX8_readUnit_36 (by decide) (fun c28 => ?_) (fun c28 => ?_)
      · refine q_aload_n 0 dX8_readUnit_39 rfl ?_
        refine q_getI (f := 8) cl_X8 (by decide) qw_201 rfl dX8_readUnit_40 (Or.inl rfl) (fun v7 h8 => ?_)
        refine q_bipush (x := (8 : Int32)) dX8_readUnit_43 rfl ?_
        refine q_icmp_lt (tgt := 54) dX8_readUnit_45 (by decide) (fun c12 => ?_) (fun c12 => ?_)
        · refine q_sub (ls' := [(0, .ref a0)]) [0] rfl ?_
          exact v_X8_readUnit_b54
        · refine q_aload_n 0 dX8_readUnit_48 rfl ?_
          refine q_iload_n 1 dX8_readUnit_49 rfl ?_
          refine q_iconst (x := (3 : Int32)) dX8_readUnit_50 rfl ?_
          refine q_cVM (Y2 := Y_X8_stop) (As := [.int a1, .int (3 : Int32)]) (b := a0) (st := []) cl_X8 mv_X8_stop qw_656 dX8_readUnit_51 ⟨Nat.le_of_ble_eq_true rfl, Nat.le_of_ble_eq_true rfl⟩ rfl (fun _ _ => rfl) (Nat.le_of_ble_eq_true rfl) ⟨Nat.le_of_ble_eq_true rfl, Nat.le_of_ble_eq_true rfl⟩ (fun M11 h9 => q_ob_is h9) (fun M11 h9 => m_X8_stop h9) (fun M11 h9 => ?_)
          refine q_sub (ls' := [(0, .ref a0)]) [0] rfl ?_
          exact v_X8_readUnit_b54
      · refine q_iload_n 2 dX8_readUnit_74 rfl ?_
        refine q_cSI (Y2 := Y_X8_nameOf) (As := [.int a2]) (st := []) ms_X8_nameOf qw_685 dX8_readUnit_75 ⟨Nat.le_of_ble_eq_true rfl, Nat.le_of_ble_eq_true rfl⟩ rfl (fun _ _ => rfl) (Nat.le_of_ble_eq_true rfl) ⟨Nat.le_of_ble_eq_true rfl, Nat.le_of_ble_eq_true rfl⟩ (fun v14 h13 => m_X8_nameOf h13) (fun v14 h13 => ?_)
        refine q_istore_n (ls' := [(3, .int v14), (0, .ref a0), (1, .int a1), (2, .int a2)]) dX8_readUnit_78 (by decide) rfl ?_
        refine q_iload_n 0 dX8_readUnit_79 rfl ?_
        refine q_if_lt (tgt := 92) dX8_readUnit_80 (by decide) (fun c27 => ?_) (fun c27 => ?_)
        · refine q_sub (ls' := [(0, .ref a0), (1, .int a1)]) [1, 2] rfl ?_
          exact v_X8_readUnit_b92
        · refine q_iload_n 0 dX8_readUnit_83 rfl ?_
          refine q_aload_n 1 dX8_readUnit_84 rfl ?_
          refine q_getR (f := 2) cl_X8 (by decide) qw_195 rfl dX8_readUnit_85 (fun _ _ _ => rfl) (fun v15 h16 => ?_)
          refine q_alen dX8_readUnit_88 (fun v17 h18 => ?_)
          refine q_icmp_lt (tgt := 101) dX8_readUnit_89 (by decide) (fun c26 => ?_) (fun c26 => ?_)
          · refine q_aload_n 1 dX8_readUnit_101 rfl ?_
            refine q_aload_n 1 dX8_readUnit_102 rfl ?_
            refine q_getR (f := 2) cl_X8 (by decide) qw_195 rfl dX8_readUnit_103 (fun _ _ _ => rfl) (fun v19 h20 => ?_)
            refine q_iload_n 0 dX8_readUnit_106 rfl ?_
            refine q_lald dX8_readUnit_107 (fun v21 h22 => ?_)
            refine q_cVM (Y2 := Y_X8_endUnit) (As := [.long v21]) (b := a0) (st := []) cl_X8 mv_X8_endUnit qw_660 dX8_readUnit_108 ⟨Nat.le_of_ble_eq_true rfl, Nat.le_of_ble_eq_true rfl⟩ rfl (fun _ _ => rfl) (Nat.le_of_ble_eq_true rfl) ⟨Nat.le_of_ble_eq_true rfl, Nat.le_of_ble_eq_true rfl⟩ (fun M25 h23 => q_ob_is h23) (fun M25 h23 => m_X8_endUnit h23) (fun M25 h23 => ?_)
            exact q_vret dX8_readUnit_111 rfl rfl (Nat.le_of_ble_eq_true rfl) rfl
          · refine q_sub (ls' := [(0, .ref a0), (1, .int a1)]) [1, 2] rfl ?_
            exact v_X8_readUnit_b92
theorem dX8_rankOf_0 : decode cX8_rankOf 0 = .ok (.iload_n 0, 1) := by decide +kernel
theorem dX8_rankOf_1 : decode cX8_rankOf 1 = .ok (.lookupswitch 93 #[(38, 85), (42, 91), (43, 89), (45, 89), (47, 91), (60, 87), (61, 87), (62, 87), (124, 83)], 83) := by decide +kernel
theorem dX8_rankOf_84 : decode cX8_rankOf 84 = .ok (.iconst 1, 1) := by decide +kernel
theorem dX8_rankOf_85 : decode cX8_rankOf 85 = .ok (.ireturn, 1) := by decide +kernel
theorem dX8_rankOf_86 : decode cX8_rankOf 86 = .ok (.iconst 2, 1) := by decide +kernel
theorem dX8_rankOf_87 : decode cX8_rankOf 87 = .ok (.ireturn, 1) := by decide +kernel
theorem dX8_rankOf_88 : decode cX8_rankOf 88 = .ok (.iconst 3, 1) := by decide +kernel
theorem dX8_rankOf_89 : decode cX8_rankOf 89 = .ok (.ireturn, 1) := by decide +kernel
theorem dX8_rankOf_90 : decode cX8_rankOf 90 = .ok (.iconst 4, 1) := by decide +kernel
theorem dX8_rankOf_91 : decode cX8_rankOf 91 = .ok (.ireturn, 1) := by decide +kernel
theorem dX8_rankOf_92 : decode cX8_rankOf 92 = .ok (.iconst 5, 1) := by decide +kernel
theorem dX8_rankOf_93 : decode cX8_rankOf 93 = .ok (.ireturn, 1) := by decide +kernel
theorem dX8_rankOf_94 : decode cX8_rankOf 94 = .ok (.iconst 0, 1) := by decide +kernel
theorem dX8_rankOf_95 : decode cX8_rankOf 95 = .ok (.ireturn, 1) := by decide +kernel
def f_X8_rankOf (M : q_Mem) (a0 : Int32) : Option Int32 :=
  (if a0 = 38 then
    some (2 : Int32)
  else
    (if a0 = 42 then
      some (5 : Int32)
    else
      (if a0 = 43 then
        some (4 : Int32)
      else
        (if a0 = 45 then
          some (4 : Int32)
        else
          (if a0 = 47 then
            some (5 : Int32)
          else
            (if a0 = 60 then
              some (3 : Int32)
            else
              (if a0 = 61 then
                some (3 : Int32)
              else
                (if a0 = 62 then
                  some (3 : Int32)
                else
                  (if a0 = 124 then
                    some (1 : Int32)
                  else
                    some (0 : Int32))))))))))
set_option maxRecDepth 20000 in
theorem m_X8_rankOf {M : q_Mem} {a0 : Int32} {x : Int32} (h : f_X8_rankOf M a0 = some x) : q_C Y_X8_rankOf [.int a0] M (some (.int x)) M := by
  refine q_met (φ := (fun x : Int32 => (some (.int x), M))) (r := f_X8_rankOf M a0) (by decide +kernel) (Nat.le_of_ble_eq_true rfl) ?_ h (fun _ _ => rfl)
  show q_V Y_X8_rankOf none (fun x : Int32 => (some (.int x), M)) 0 0 0 [(0, .int a0)] [] M (f_X8_rankOf M a0)
  unfold f_X8_rankOf
  refine q_iload_n 0 dX8_rankOf_0 rfl ?_
  refine q_ifV (fun c1 => ?_) (fun c1 => ?_)
  · refine q_look (off := 85) (tgt := 86) dX8_rankOf_1 (by decide) (by rw [c1]; rfl) (by decide) ?_
    refine q_iconst (x := (2 : Int32)) dX8_rankOf_86 rfl ?_
    exact q_iret dX8_rankOf_87 rfl rfl (Nat.le_of_ble_eq_true rfl) rfl
  · refine q_ifV (fun c2 => ?_) (fun c2 => ?_)
    · refine q_look (off := 91) (tgt := 92) dX8_rankOf_1 (by decide) (by rw [c2]; rfl) (by decide) ?_
      refine q_iconst (x := (5 : Int32)) dX8_rankOf_92 rfl ?_
      exact q_iret dX8_rankOf_93 rfl rfl (Nat.le_of_ble_eq_true rfl) rfl
    · refine q_ifV (fun c3 => ?_) (fun c3 => ?_)
      · refine q_look (off := 89) (tgt := 90) dX8_rankOf_1 (by decide) (by rw [c3]; rfl) (by decide) ?_
        refine q_iconst (x := (4 : Int32)) dX8_rankOf_90 rfl ?_
        exact q_iret dX8_rankOf_91 rfl rfl (Nat.le_of_ble_eq_true rfl) rfl
      · refine q_ifV (fun c4 => ?_) (fun c4 => ?_)
        · refine q_look (off := 89) (tgt := 90) dX8_rankOf_1 (by decide) (by rw [c4]; rfl) (by decide) ?_
          refine q_iconst (x := (4 : Int32)) dX8_rankOf_90 rfl ?_
          exact q_iret dX8_rankOf_91 rfl rfl (Nat.le_of_ble_eq_true rfl) rfl
        · refine q_ifV (fun c5 => ?_) (fun c5 => ?_)
          · refine q_look (off := 91) (tgt := 92) dX8_rankOf_1 (by decide) (by rw [c5]; rfl) (by decide) ?_
            refine q_iconst (x := (5 : Int32)) dX8_rankOf_92 rfl ?_
            exact q_iret dX8_rankOf_93 rfl rfl (Nat.le_of_ble_eq_true rfl) rfl
          · refine q_ifV (fun c6 => ?_) (fun c6 => ?_)
            · refine q_look (off := 87) (tgt := 88) dX8_rankOf_1 (by decide) (by rw [c6]; rfl) (by decide) ?_
              refine q_iconst (x := (3 : Int32)) dX8_rankOf_88 rfl ?_
              exact q_iret dX8_rankOf_89 rfl rfl (Nat.le_of_ble_eq_true rfl) rfl
            · refine q_ifV (fun c7 => ?_) (fun c7 => ?_)
              · refine q_look (off := 87) (tgt := 88) dX8_rankOf_1 (by decide) (by rw [c7]; rfl) (by decide) ?_
                refine q_iconst (x := (3 : Int32)) dX8_rankOf_88 rfl ?_
                exact q_iret dX8_rankOf_89 rfl rfl (Nat.le_of_ble_eq_true rfl) rfl
              · refine q_ifV (fun c8 => ?_) (fun c8 => ?_)
                · refine q_look (off := 87) (tgt := 88) dX8_rankOf_1 (by decide) (by rw [c8]; rfl) (by decide) ?_
                  refine q_iconst (x := (3 : Int32)) dX8_rankOf_88 rfl ?_
                  exact q_iret dX8_rankOf_89 rfl rfl (Nat.le_of_ble_eq_true rfl) rfl
                · refine q_ifV (fun c9 => ?_) (fun c9 => ?_)
                  · refine q_look (off := 83) (tgt := 84) dX8_rankOf_1 (by decide) (by rw [c9]; rfl) (by decide) ?_
                    refine q_iconst (x := (1 : Int32)) dX8_rankOf_84 rfl ?_
                    exact q_iret dX8_rankOf_85 rfl rfl (Nat.le_of_ble_eq_true rfl) rfl
                  · refine q_look (tgt := 94) dX8_rankOf_1 (by decide) (q_lookD (fun q hq => by
                        simp only [List.mem_cons, List.not_mem_nil, or_false] at hq
                        rcases hq with rfl | rfl | rfl | rfl | rfl | rfl | rfl | rfl | rfl
                        · exact q_nlit c1 rfl
                        · exact q_nlit c2 rfl
                        · exact q_nlit c3 rfl
                        · exact q_nlit c4 rfl
                        · exact q_nlit c5 rfl
                        · exact q_nlit c6 rfl
                        · exact q_nlit c7 rfl
                        · exact q_nlit c8 rfl
                        · exact q_nlit c9 rfl)) (by decide) ?_
                    refine q_iconst (x := (0 : Int32)) dX8_rankOf_94 rfl ?_
                    exact q_iret dX8_rankOf_95 rfl rfl (Nat.le_of_ble_eq_true rfl) rfl
theorem dX8_popValue_0 : decode cX8_popValue 0 = .ok (.aload_n 0, 1) := by decide +kernel
theorem dX8_popValue_1 : decode cX8_popValue 1 = .ok (.getfield 47, 3) := by decide +kernel
theorem dX8_popValue_4 : decode cX8_popValue 4 = .ok (.ifCond .le 15, 3) := by decide +kernel
theorem dX8_popValue_7 : decode cX8_popValue 7 = .ok (.aload_n 0, 1) := by decide +kernel
theorem dX8_popValue_8 : decode cX8_popValue 8 = .ok (.getfield 47, 3) := by decide +kernel
theorem dX8_popValue_11 : decode cX8_popValue 11 = .ok (.aload_n 0, 1) := by decide +kernel
theorem dX8_popValue_12 : decode cX8_popValue 12 = .ok (.getfield 19, 3) := by decide +kernel
theorem dX8_popValue_15 : decode cX8_popValue 15 = .ok (.arraylength, 1) := by decide +kernel
theorem dX8_popValue_16 : decode cX8_popValue 16 = .ok (.if_icmp .le 5, 3) := by decide +kernel
theorem dX8_popValue_19 : decode cX8_popValue 19 = .ok (.lconst 0, 1) := by decide +kernel
theorem dX8_popValue_20 : decode cX8_popValue 20 = .ok (.lreturn, 1) := by decide +kernel
theorem dX8_popValue_21 : decode cX8_popValue 21 = .ok (.aload_n 0, 1) := by decide +kernel
theorem dX8_popValue_22 : decode cX8_popValue 22 = .ok (.dup, 1) := by decide +kernel
theorem dX8_popValue_23 : decode cX8_popValue 23 = .ok (.getfield 47, 3) := by decide +kernel
theorem dX8_popValue_26 : decode cX8_popValue 26 = .ok (.iconst 1, 1) := by decide +kernel
theorem dX8_popValue_27 : decode cX8_popValue 27 = .ok (.isub, 1) := by decide +kernel
theorem dX8_popValue_28 : decode cX8_popValue 28 = .ok (.putfield 47, 3) := by decide +kernel
theorem dX8_popValue_31 : decode cX8_popValue 31 = .ok (.aload_n 0, 1) := by decide +kernel
theorem dX8_popValue_32 : decode cX8_popValue 32 = .ok (.getfield 19, 3) := by decide +kernel
theorem dX8_popValue_35 : decode cX8_popValue 35 = .ok (.aload_n 0, 1) := by decide +kernel
theorem dX8_popValue_36 : decode cX8_popValue 36 = .ok (.getfield 47, 3) := by decide +kernel
theorem dX8_popValue_39 : decode cX8_popValue 39 = .ok (.laload, 1) := by decide +kernel
theorem dX8_popValue_40 : decode cX8_popValue 40 = .ok (.lreturn, 1) := by decide +kernel
def f_X8_popValue (M : q_Mem) (a0 : Nat) : Option (Int64 × q_Mem) :=
  q_ob 7 M a0 ((q_gI 7 4 M a0).bind fun v1 =>
  (if 0 < v1 then
    (q_gI 7 4 M a0).bind fun v3 =>
    (q_gR 7 3 M a0).bind fun v5 =>
    (q_ln M v5).bind fun v7 =>
    (if v7 < v3 then
      some ((0 : Int64), M)
    else
      (q_gI 7 4 M a0).bind fun v9 =>
      (q_pI 7 4 M a0 (v9 - (1 : Int32))).bind fun M11 =>
      (q_gR 7 3 M11 a0).bind fun v13 =>
      (q_gI 7 4 M11 a0).bind fun v15 =>
      (q_lJ M11 v13 v15).bind fun v17 =>
      some (v17, M11))
  else
    some ((0 : Int64), M)))
set_option maxRecDepth 20000 in
theorem m_X8_popValue {M : q_Mem} {a0 : Nat} {x : (Int64 × q_Mem)} (h : f_X8_popValue M a0 = some x) : q_C Y_X8_popValue [.ref a0] M (some (.long x.1)) x.2 := by
  refine q_met (φ := (fun x : Int64 × q_Mem => (some (.long x.1), x.2))) (r := f_X8_popValue M a0) (by decide +kernel) (Nat.le_of_ble_eq_true rfl) ?_ h (fun _ _ => rfl)
  show q_V Y_X8_popValue none (fun x : Int64 × q_Mem => (some (.long x.1), x.2)) 0 0 0 [(0, .ref a0)] [] M (f_X8_popValue M a0)
  unfold f_X8_popValue
  refine q_obV ?_
  refine q_aload_n 0 dX8_popValue_0 rfl ?_
  refine q_getI (f := 4) cl_X8 (by decide) qw_197 rfl dX8_popValue_1 (Or.inl rfl) (fun v1 h2 => ?_)
  refine q_if_le (tgt := 19) dX8_popValue_4 (by decide) (fun c20 => ?_) (fun c20 => ?_)
  · refine q_aload_n 0 dX8_popValue_7 rfl ?_
    refine q_getI (f := 4) cl_X8 (by decide) qw_197 rfl dX8_popValue_8 (Or.inl rfl) (fun v3 h4 => ?_)
    refine q_aload_n 0 dX8_popValue_11 rfl ?_
    refine q_getR (f := 3) cl_X8 (by decide) qw_196 rfl dX8_popValue_12 (fun _ _ _ => rfl) (fun v5 h6 => ?_)
    refine q_alen dX8_popValue_15 (fun v7 h8 => ?_)
    refine q_icmp_le (tgt := 21) dX8_popValue_16 (by decide) (fun c19 => ?_) (fun c19 => ?_)
    · refine q_lconst (x := (0 : Int64)) dX8_popValue_19 rfl ?_
      exact q_lret dX8_popValue_20 rfl rfl (Nat.le_of_ble_eq_true rfl) rfl
    · refine q_aload_n 0 dX8_popValue_21 rfl ?_
      refine q_dup dX8_popValue_22 rfl ?_
      refine q_getI (f := 4) cl_X8 (by decide) qw_197 rfl dX8_popValue_23 (Or.inl rfl) (fun v9 h10 => ?_)
      refine q_iconst (x := (1 : Int32)) dX8_popValue_26 rfl ?_
      refine q_isub dX8_popValue_27 ?_
      refine q_putI (f := 4) cl_X8 (by decide) qw_197 rfl (Or.inl rfl) dX8_popValue_28 rfl (fun M11 h12 => ?_)
      refine q_aload_n 0 dX8_popValue_31 rfl ?_
      refine q_getR (f := 3) cl_X8 (by decide) qw_196 rfl dX8_popValue_32 (fun _ _ _ => rfl) (fun v13 h14 => ?_)
      refine q_aload_n 0 dX8_popValue_35 rfl ?_
      refine q_getI (f := 4) cl_X8 (by decide) qw_197 rfl dX8_popValue_36 (Or.inl rfl) (fun v15 h16 => ?_)
      refine q_lald dX8_popValue_39 (fun v17 h18 => ?_)
      exact q_lret dX8_popValue_40 rfl rfl (Nat.le_of_ble_eq_true rfl) rfl
  · refine q_lconst (x := (0 : Int64)) dX8_popValue_19 rfl ?_
    exact q_lret dX8_popValue_20 rfl rfl (Nat.le_of_ble_eq_true rfl) rfl
theorem dX8_made_0 : decode cX8_made 0 = .ok (.iload_n 1, 1) := by decide +kernel
theorem dX8_made_1 : decode cX8_made 1 = .ok (.lookupswitch 142 #[(38, 75), (42, 137), (43, 127), (45, 132), (60, 88), (61, 114), (62, 101), (124, 75)], 75) := by decide +kernel
theorem dX8_made_76 : decode cX8_made 76 = .ok (.lload 4, 2) := by decide +kernel
theorem dX8_made_78 : decode cX8_made 78 = .ok (.lconst 0, 1) := by decide +kernel
theorem dX8_made_79 : decode cX8_made 79 = .ok (.lcmp, 1) := by decide +kernel
theorem dX8_made_80 : decode cX8_made 80 = .ok (.ifCond .eq 7, 3) := by decide +kernel
theorem dX8_made_83 : decode cX8_made 83 = .ok (.lconst 1, 1) := by decide +kernel
theorem dX8_made_84 : decode cX8_made 84 = .ok (.goto 4, 3) := by decide +kernel
theorem dX8_made_87 : decode cX8_made 87 = .ok (.lconst 0, 1) := by decide +kernel
theorem dX8_made_88 : decode cX8_made 88 = .ok (.lreturn, 1) := by decide +kernel
theorem dX8_made_89 : decode cX8_made 89 = .ok (.lload_n 2, 1) := by decide +kernel
theorem dX8_made_90 : decode cX8_made 90 = .ok (.lload 4, 2) := by decide +kernel
theorem dX8_made_92 : decode cX8_made 92 = .ok (.lcmp, 1) := by decide +kernel
theorem dX8_made_93 : decode cX8_made 93 = .ok (.ifCond .ge 7, 3) := by decide +kernel
theorem dX8_made_96 : decode cX8_made 96 = .ok (.lconst 1, 1) := by decide +kernel
theorem dX8_made_97 : decode cX8_made 97 = .ok (.goto 4, 3) := by decide +kernel
theorem dX8_made_100 : decode cX8_made 100 = .ok (.lconst 0, 1) := by decide +kernel
theorem dX8_made_101 : decode cX8_made 101 = .ok (.lreturn, 1) := by decide +kernel
theorem dX8_made_102 : decode cX8_made 102 = .ok (.lload_n 2, 1) := by decide +kernel
theorem dX8_made_103 : decode cX8_made 103 = .ok (.lload 4, 2) := by decide +kernel
theorem dX8_made_105 : decode cX8_made 105 = .ok (.lcmp, 1) := by decide +kernel
theorem dX8_made_106 : decode cX8_made 106 = .ok (.ifCond .le 7, 3) := by decide +kernel
theorem dX8_made_109 : decode cX8_made 109 = .ok (.lconst 1, 1) := by decide +kernel
theorem dX8_made_110 : decode cX8_made 110 = .ok (.goto 4, 3) := by decide +kernel
theorem dX8_made_113 : decode cX8_made 113 = .ok (.lconst 0, 1) := by decide +kernel
theorem dX8_made_114 : decode cX8_made 114 = .ok (.lreturn, 1) := by decide +kernel
theorem dX8_made_115 : decode cX8_made 115 = .ok (.lload_n 2, 1) := by decide +kernel
theorem dX8_made_116 : decode cX8_made 116 = .ok (.lload 4, 2) := by decide +kernel
theorem dX8_made_118 : decode cX8_made 118 = .ok (.lcmp, 1) := by decide +kernel
theorem dX8_made_119 : decode cX8_made 119 = .ok (.ifCond .ne 7, 3) := by decide +kernel
theorem dX8_made_122 : decode cX8_made 122 = .ok (.lconst 1, 1) := by decide +kernel
theorem dX8_made_123 : decode cX8_made 123 = .ok (.goto 4, 3) := by decide +kernel
theorem dX8_made_126 : decode cX8_made 126 = .ok (.lconst 0, 1) := by decide +kernel
theorem dX8_made_127 : decode cX8_made 127 = .ok (.lreturn, 1) := by decide +kernel
theorem dX8_made_128 : decode cX8_made 128 = .ok (.lload_n 2, 1) := by decide +kernel
theorem dX8_made_129 : decode cX8_made 129 = .ok (.lload 4, 2) := by decide +kernel
theorem dX8_made_131 : decode cX8_made 131 = .ok (.ladd, 1) := by decide +kernel
theorem dX8_made_132 : decode cX8_made 132 = .ok (.lreturn, 1) := by decide +kernel
theorem dX8_made_133 : decode cX8_made 133 = .ok (.lload_n 2, 1) := by decide +kernel
theorem dX8_made_134 : decode cX8_made 134 = .ok (.lload 4, 2) := by decide +kernel
theorem dX8_made_136 : decode cX8_made 136 = .ok (.lsub, 1) := by decide +kernel
theorem dX8_made_137 : decode cX8_made 137 = .ok (.lreturn, 1) := by decide +kernel
theorem dX8_made_138 : decode cX8_made 138 = .ok (.lload_n 2, 1) := by decide +kernel
theorem dX8_made_139 : decode cX8_made 139 = .ok (.lload 4, 2) := by decide +kernel
theorem dX8_made_141 : decode cX8_made 141 = .ok (.lmul, 1) := by decide +kernel
theorem dX8_made_142 : decode cX8_made 142 = .ok (.lreturn, 1) := by decide +kernel
theorem dX8_made_143 : decode cX8_made 143 = .ok (.lload 4, 2) := by decide +kernel
theorem dX8_made_145 : decode cX8_made 145 = .ok (.lconst 0, 1) := by decide +kernel
theorem dX8_made_146 : decode cX8_made 146 = .ok (.lcmp, 1) := by decide +kernel
theorem dX8_made_147 : decode cX8_made 147 = .ok (.ifCond .ne 15, 3) := by decide +kernel
theorem dX8_made_150 : decode cX8_made 150 = .ok (.aload_n 0, 1) := by decide +kernel
theorem dX8_made_151 : decode cX8_made 151 = .ok (.getfield 56, 3) := by decide +kernel
theorem dX8_made_154 : decode cX8_made 154 = .ok (.ifCond .ne 8, 3) := by decide +kernel
theorem dX8_made_157 : decode cX8_made 157 = .ok (.aload_n 0, 1) := by decide +kernel
theorem dX8_made_158 : decode cX8_made 158 = .ok (.iconst 1, 1) := by decide +kernel
theorem dX8_made_159 : decode cX8_made 159 = .ok (.putfield 66, 3) := by decide +kernel
theorem dX8_made_162 : decode cX8_made 162 = .ok (.lload 4, 2) := by decide +kernel
theorem dX8_made_164 : decode cX8_made 164 = .ok (.lconst 0, 1) := by decide +kernel
theorem dX8_made_165 : decode cX8_made 165 = .ok (.lcmp, 1) := by decide +kernel
theorem dX8_made_166 : decode cX8_made 166 = .ok (.ifCond .ne 7, 3) := by decide +kernel
theorem dX8_made_169 : decode cX8_made 169 = .ok (.lconst 0, 1) := by decide +kernel
theorem dX8_made_170 : decode cX8_made 170 = .ok (.goto 7, 3) := by decide +kernel
theorem dX8_made_173 : decode cX8_made 173 = .ok (.lload_n 2, 1) := by decide +kernel
theorem dX8_made_174 : decode cX8_made 174 = .ok (.lload 4, 2) := by decide +kernel
theorem dX8_made_176 : decode cX8_made 176 = .ok (.ldiv, 1) := by decide +kernel
theorem dX8_made_177 : decode cX8_made 177 = .ok (.lreturn, 1) := by decide +kernel
def f_X8_made_b162 (M : q_Mem) (a2 : Int64) (a4 : Int64) : Option (Int64 × q_Mem) :=
  (if a4 = (0 : Int64) then
    some ((0 : Int64), M)
  else
    (q_ldv a2 a4).bind fun v20 =>
    some (v20, M))
def f_X8_made (M : q_Mem) (a0 : Nat) (a1 : Int32) (a2 : Int64) (a4 : Int64) : Option (Int64 × q_Mem) :=
  q_ob 7 M a0 ((if a1 = 38 then
    (if a4 = (0 : Int64) then
      some ((0 : Int64), M)
    else
      some ((1 : Int64), M))
  else
    (if a1 = 42 then
      some ((a2 * a4), M)
    else
      (if a1 = 43 then
        some ((a2 + a4), M)
      else
        (if a1 = 45 then
          some ((a2 - a4), M)
        else
          (if a1 = 60 then
            (if a2 < a4 then
              some ((1 : Int64), M)
            else
              some ((0 : Int64), M))
          else
            (if a1 = 61 then
              (if a2 = a4 then
                some ((1 : Int64), M)
              else
                some ((0 : Int64), M))
            else
              (if a1 = 62 then
                (if a4 < a2 then
                  some ((1 : Int64), M)
                else
                  some ((0 : Int64), M))
              else
                (if a1 = 124 then
                  (if a4 = (0 : Int64) then
                    some ((0 : Int64), M)
                  else
                    some ((1 : Int64), M))
                else
                  (if a4 = (0 : Int64) then
                    (q_gI 7 9 M a0).bind fun v14 =>
                    (if v14 = 0 then
                      (q_pZ 7 12 M a0 (1 : Int32)).bind fun M16 =>
                      f_X8_made_b162 M16 a2 a4
                    else
                      f_X8_made_b162 M a2 a4)
                  else
                    f_X8_made_b162 M a2 a4))))))))))
set_option maxRecDepth 20000 in
theorem v_X8_made_b162 {M : q_Mem} {a2 : Int64} {a4 : Int64}  : q_V Y_X8_made none (fun x : Int64 × q_Mem => (some (.long x.1), x.2)) 0 0 162 [(2, .long a2), (4, .long a4)] [] M (f_X8_made_b162 M a2 a4 ) := by
  unfold f_X8_made_b162
  refine q_lload 1 dX8_made_162 rfl ?_
  refine q_lconst (x := (0 : Int64)) dX8_made_164 rfl ?_
  refine q_lcmp_ne (tgt := 173) dX8_made_165 dX8_made_166 (by decide) (fun c22 => ?_) (fun c22 => ?_)
  · refine q_lconst (x := (0 : Int64)) dX8_made_169 rfl ?_
    refine q_goto (tgt := 177) dX8_made_170 (by decide) ?_
    exact q_lret dX8_made_177 rfl rfl (Nat.le_of_ble_eq_true rfl) rfl
  · refine q_lload_n 0 dX8_made_173 rfl ?_
    refine q_lload 1 dX8_made_174 rfl ?_
    refine q_ldiv dX8_made_176 (fun v20 h21 => ?_)
    exact q_lret dX8_made_177 rfl rfl (Nat.le_of_ble_eq_true rfl) rfl
set_option maxRecDepth 20000 in
theorem m_X8_made {M : q_Mem} {a0 : Nat} {a1 : Int32} {a2 : Int64} {a4 : Int64} {x : (Int64 × q_Mem)} (h : f_X8_made M a0 a1 a2 a4 = some x) : q_C Y_X8_made [.ref a0, .int a1, .long a2, .long a4] M (some (.long x.1)) x.2 := by
  refine q_met (φ := (fun x : Int64 × q_Mem => (some (.long x.1), x.2))) (r := f_X8_made M a0 a1 a2 a4) (by decide +kernel) (Nat.le_of_ble_eq_true rfl) ?_ h (fun _ _ => rfl)
  show q_V Y_X8_made none (fun x : Int64 × q_Mem => (some (.long x.1), x.2)) 0 0 0 [(0, .ref a0), (1, .int a1), (2, .long a2), (4, .long a4)] [] M (f_X8_made M a0 a1 a2 a4)
  unfold f_X8_made
  refine q_obV ?_
  refine q_iload_n 1 dX8_made_0 rfl ?_
  refine q_ifV (fun c1 => ?_) (fun c1 => ?_)
  · refine q_look (off := 75) (tgt := 76) dX8_made_1 (by decide) (by rw [c1]; rfl) (by decide) ?_
    refine q_lload 3 dX8_made_76 rfl ?_
    refine q_lconst (x := (0 : Int64)) dX8_made_78 rfl ?_
    refine q_lcmp_eq (tgt := 87) dX8_made_79 dX8_made_80 (by decide) (fun c2 => ?_) (fun c2 => ?_)
    · refine q_lconst (x := (0 : Int64)) dX8_made_87 rfl ?_
      exact q_lret dX8_made_88 rfl rfl (Nat.le_of_ble_eq_true rfl) rfl
    · refine q_lconst (x := (1 : Int64)) dX8_made_83 rfl ?_
      refine q_goto (tgt := 88) dX8_made_84 (by decide) ?_
      exact q_lret dX8_made_88 rfl rfl (Nat.le_of_ble_eq_true rfl) rfl
  · refine q_ifV (fun c3 => ?_) (fun c3 => ?_)
    · refine q_look (off := 137) (tgt := 138) dX8_made_1 (by decide) (by rw [c3]; rfl) (by decide) ?_
      refine q_lload_n 2 dX8_made_138 rfl ?_
      refine q_lload 3 dX8_made_139 rfl ?_
      refine q_lmul dX8_made_141 ?_
      exact q_lret dX8_made_142 rfl rfl (Nat.le_of_ble_eq_true rfl) rfl
    · refine q_ifV (fun c4 => ?_) (fun c4 => ?_)
      · refine q_look (off := 127) (tgt := 128) dX8_made_1 (by decide) (by rw [c4]; rfl) (by decide) ?_
        refine q_lload_n 2 dX8_made_128 rfl ?_
        refine q_lload 3 dX8_made_129 rfl ?_
        refine q_ladd dX8_made_131 ?_
        exact q_lret dX8_made_132 rfl rfl (Nat.le_of_ble_eq_true rfl) rfl
      · refine q_ifV (fun c5 => ?_) (fun c5 => ?_)
        · refine q_look (off := 132) (tgt := 133) dX8_made_1 (by decide) (by rw [c5]; rfl) (by decide) ?_
          refine q_lload_n 2 dX8_made_133 rfl ?_
          refine q_lload 3 dX8_made_134 rfl ?_
          refine q_lsub dX8_made_136 ?_
          exact q_lret dX8_made_137 rfl rfl (Nat.le_of_ble_eq_true rfl) rfl
        · refine q_ifV (fun c6 => ?_) (fun c6 => ?_)
          · refine q_look (off := 88) (tgt := 89) dX8_made_1 (by decide) (by rw [c6]; rfl) (by decide) ?_
            refine q_lload_n 2 dX8_made_89 rfl ?_
            refine q_lload 3 dX8_made_90 rfl ?_
            refine q_lcmp_ge (tgt := 100) dX8_made_92 dX8_made_93 (by decide) (fun c7 => ?_) (fun c7 => ?_)
            · refine q_lconst (x := (1 : Int64)) dX8_made_96 rfl ?_
              refine q_goto (tgt := 101) dX8_made_97 (by decide) ?_
              exact q_lret dX8_made_101 rfl rfl (Nat.le_of_ble_eq_true rfl) rfl
            · refine q_lconst (x := (0 : Int64)) dX8_made_100 rfl ?_
              exact q_lret dX8_made_101 rfl rfl (Nat.le_of_ble_eq_true rfl) rfl
          · refine q_ifV (fun c8 => ?_) (fun c8 => ?_)
            · refine q_look (off := 114) (tgt := 115) dX8_made_1 (by decide) (by rw [c8]; rfl) (by decide) ?_
              refine q_lload_n 2 dX8_made_115 rfl ?_
              refine q_lload 3 dX8_made_116 rfl ?_
              refine q_lcmp_ne (tgt := 126) dX8_made_118 dX8_made_119 (by decide) (fun c9 => ?_) (fun c9 => ?_)
              · refine q_lconst (x := (1 : Int64)) dX8_made_122 rfl ?_
                refine q_goto (tgt := 127) dX8_made_123 (by decide) ?_
                exact q_lret dX8_made_127 rfl rfl (Nat.le_of_ble_eq_true rfl) rfl
              · refine q_lconst (x := (0 : Int64)) dX8_made_126 rfl ?_
                exact q_lret dX8_made_127 rfl rfl (Nat.le_of_ble_eq_true rfl) rfl
            · refine q_ifV (fun c10 => ?_) (fun c10 => ?_)
              · refine q_look (off := 101) (tgt := 102) dX8_made_1 (by decide) (by rw [c10]; rfl) (by decide) ?_
                refine q_lload_n 2 dX8_made_102 rfl ?_
                refine q_lload 3 dX8_made_103 rfl ?_
                refine q_lcmp_le (tgt := 113) dX8_made_105 dX8_made_106 (by decide) (fun c11 => ?_) (fun c11 => ?_)
                · refine q_lconst (x := (1 : Int64)) dX8_made_109 rfl ?_
                  refine q_goto (tgt := 114) dX8_made_110 (by decide) ?_
                  exact q_lret dX8_made_114 rfl rfl (Nat.le_of_ble_eq_true rfl) rfl
                · refine q_lconst (x := (0 : Int64)) dX8_made_113 rfl ?_
                  exact q_lret dX8_made_114 rfl rfl (Nat.le_of_ble_eq_true rfl) rfl
              · refine q_ifV (fun c12 => ?_) (fun c12 => ?_)
                · refine q_look (off := 75) (tgt := 76) dX8_made_1 (by decide) (by rw [c12]; rfl) (by decide) ?_
                  refine q_lload 3 dX8_made_76 rfl ?_
                  refine q_lconst (x := (0 : Int64)) dX8_made_78 rfl ?_
                  refine q_lcmp_eq (tgt := 87) dX8_made_79 dX8_made_80 (by decide) (fun c13 => ?_) (fun c13 => ?_)
                  · refine q_lconst (x := (0 : Int64)) dX8_made_87 rfl ?_
                    exact q_lret dX8_made_88 rfl rfl (Nat.le_of_ble_eq_true rfl) rfl
                  · refine q_lconst (x := (1 : Int64)) dX8_made_83 rfl ?_
                    refine q_goto (tgt := 88) dX8_made_84 (by decide) ?_
                    exact q_lret dX8_made_88 rfl rfl (Nat.le_of_ble_eq_true rfl) rfl
                · refine q_look (tgt := 143) dX8_made_1 (by decide) (q_lookD (fun q hq => by
                      simp only [List.mem_cons, List.not_mem_nil, or_false] at hq
                      rcases hq with rfl | rfl | rfl | rfl | rfl | rfl | rfl | rfl
                      · exact q_nlit c1 rfl
                      · exact q_nlit c3 rfl
                      · exact q_nlit c4 rfl
                      · exact q_nlit c5 rfl
                      · exact q_nlit c6 rfl
                      · exact q_nlit c8 rfl
                      · exact q_nlit c10 rfl
                      · exact q_nlit c12 rfl)) (by decide) ?_
                  refine q_lload 3 dX8_made_143 rfl ?_
                  refine q_lconst (x := (0 : Int64)) dX8_made_145 rfl ?_
                  refine q_lcmp_ne (tgt := 162) dX8_made_146 dX8_made_147 (by decide) (fun c19 => ?_) (fun c19 => ?_)
                  · refine q_aload_n 0 dX8_made_150 rfl ?_
                    refine q_getI (f := 9) cl_X8 (by decide) qw_202 rfl dX8_made_151 (Or.inl rfl) (fun v14 h15 => ?_)
                    refine q_if_ne (tgt := 162) dX8_made_154 (by decide) (fun c18 => ?_) (fun c18 => ?_)
                    · refine q_aload_n 0 dX8_made_157 rfl ?_
                      refine q_iconst (x := (1 : Int32)) dX8_made_158 rfl ?_
                      refine q_putZ (f := 12) cl_X8 (by decide) qw_205 rfl (Or.inl rfl) dX8_made_159 rfl (fun M16 h17 => ?_)
                      refine q_sub (ls' := [(2, .long a2), (4, .long a4)]) [2, 3] rfl ?_
                      exact v_X8_made_b162
                    · refine q_sub (ls' := [(2, .long a2), (4, .long a4)]) [2, 3] rfl ?_
                      exact v_X8_made_b162
                  · refine q_sub (ls' := [(2, .long a2), (4, .long a4)]) [2, 3] rfl ?_
                    exact v_X8_made_b162
theorem dX8_settle_0 : decode cX8_settle 0 = .ok (.aload_n 0, 1) := by decide +kernel
theorem dX8_settle_1 : decode cX8_settle 1 = .ok (.getfield 50, 3) := by decide +kernel
theorem dX8_settle_4 : decode cX8_settle 4 = .ok (.istore_n 2, 1) := by decide +kernel
theorem dX8_settle_5 : decode cX8_settle 5 = .ok (.iload_n 2, 1) := by decide +kernel
theorem dX8_settle_6 : decode cX8_settle 6 = .ok (.ifCond .le 79, 3) := by decide +kernel
theorem dX8_settle_9 : decode cX8_settle 9 = .ok (.aload_n 0, 1) := by decide +kernel
theorem dX8_settle_10 : decode cX8_settle 10 = .ok (.invokevirtual 129, 3) := by decide +kernel
theorem dX8_settle_13 : decode cX8_settle 13 = .ok (.invokestatic 144, 3) := by decide +kernel
theorem dX8_settle_16 : decode cX8_settle 16 = .ok (.iload_n 1, 1) := by decide +kernel
theorem dX8_settle_17 : decode cX8_settle 17 = .ok (.if_icmp .lt 68, 3) := by decide +kernel
theorem dX8_settle_20 : decode cX8_settle 20 = .ok (.aload_n 0, 1) := by decide +kernel
theorem dX8_settle_21 : decode cX8_settle 21 = .ok (.invokevirtual 129, 3) := by decide +kernel
theorem dX8_settle_24 : decode cX8_settle 24 = .ok (.istore_n 3, 1) := by decide +kernel
theorem dX8_settle_25 : decode cX8_settle 25 = .ok (.aload_n 0, 1) := by decide +kernel
theorem dX8_settle_26 : decode cX8_settle 26 = .ok (.invokevirtual 137, 3) := by decide +kernel
theorem dX8_settle_29 : decode cX8_settle 29 = .ok (.istore 4, 2) := by decide +kernel
theorem dX8_settle_31 : decode cX8_settle 31 = .ok (.aload_n 0, 1) := by decide +kernel
theorem dX8_settle_32 : decode cX8_settle 32 = .ok (.invokevirtual 110, 3) := by decide +kernel
theorem dX8_settle_35 : decode cX8_settle 35 = .ok (.lstore 5, 2) := by decide +kernel
theorem dX8_settle_37 : decode cX8_settle 37 = .ok (.aload_n 0, 1) := by decide +kernel
theorem dX8_settle_38 : decode cX8_settle 38 = .ok (.invokevirtual 110, 3) := by decide +kernel
theorem dX8_settle_41 : decode cX8_settle 41 = .ok (.lstore 7, 2) := by decide +kernel
theorem dX8_settle_43 : decode cX8_settle 43 = .ok (.aload_n 0, 1) := by decide +kernel
theorem dX8_settle_44 : decode cX8_settle 44 = .ok (.iload 4, 2) := by decide +kernel
theorem dX8_settle_46 : decode cX8_settle 46 = .ok (.ifCond .eq 21, 3) := by decide +kernel
theorem dX8_settle_49 : decode cX8_settle 49 = .ok (.iload_n 3, 1) := by decide +kernel
theorem dX8_settle_50 : decode cX8_settle 50 = .ok (.bipush 124, 2) := by decide +kernel
theorem dX8_settle_52 : decode cX8_settle 52 = .ok (.if_icmp .ne 7, 3) := by decide +kernel
theorem dX8_settle_55 : decode cX8_settle 55 = .ok (.iconst 1, 1) := by decide +kernel
theorem dX8_settle_56 : decode cX8_settle 56 = .ok (.goto 4, 3) := by decide +kernel
theorem dX8_settle_59 : decode cX8_settle 59 = .ok (.iconst 0, 1) := by decide +kernel
theorem dX8_settle_60 : decode cX8_settle 60 = .ok (.invokestatic 133, 3) := by decide +kernel
theorem dX8_settle_63 : decode cX8_settle 63 = .ok (.i2l, 1) := by decide +kernel
theorem dX8_settle_64 : decode cX8_settle 64 = .ok (.goto 12, 3) := by decide +kernel
theorem dX8_settle_67 : decode cX8_settle 67 = .ok (.aload_n 0, 1) := by decide +kernel
theorem dX8_settle_68 : decode cX8_settle 68 = .ok (.iload_n 3, 1) := by decide +kernel
theorem dX8_settle_69 : decode cX8_settle 69 = .ok (.lload 7, 2) := by decide +kernel
theorem dX8_settle_71 : decode cX8_settle 71 = .ok (.lload 5, 2) := by decide +kernel
theorem dX8_settle_73 : decode cX8_settle 73 = .ok (.invokevirtual 153, 3) := by decide +kernel
theorem dX8_settle_76 : decode cX8_settle 76 = .ok (.invokevirtual 141, 3) := by decide +kernel
theorem dX8_settle_79 : decode cX8_settle 79 = .ok (.iinc 2 (-1), 3) := by decide +kernel
theorem dX8_settle_82 : decode cX8_settle 82 = .ok (.goto (-77), 3) := by decide +kernel
theorem dX8_settle_85 : decode cX8_settle 85 = .ok (.return_, 1) := by decide +kernel
def f_X8_settle_b60 (kk5 : Int32 → q_Mem → Option q_Mem) (M : q_Mem) (a0 : Nat) (a1 : Int32) (a2 : Int32) (s0 : Nat) (s1 : Int32) : Option q_Mem :=
  (f_X11_asNumber M s1).bind fun v25 =>
  (f_X8_pushValue M s0 v25.toInt64).bind fun M28 =>
  kk5 (a2 + (-1 : Int32)) M28
def f_X8_settle_b5 (a0 : Nat) (a1 : Int32) : Nat → Int32 → q_Mem → Option q_Mem
  | 0, _, _ => none
  | n + 1, a2, M =>
    (if 0 < a2 then
      (f_X8_topMark M a0).bind fun v4 =>
      (f_X8_rankOf M v4).bind fun v6 =>
      (if v6 < a1 then
        some M
      else
        (f_X8_topMark M a0).bind fun v8 =>
        (f_X8_popMark M a0).bind fun r10 =>
        (f_X8_popValue r10.2 a0).bind fun r12 =>
        (f_X8_popValue r12.2 a0).bind fun r14 =>
        (if r10.1 = 0 then
          (f_X8_made r14.2 a0 v8 r14.1 r12.1).bind fun r16 =>
          (f_X8_pushValue r16.2 a0 r16.1).bind fun M19 =>
          f_X8_settle_b5 a0 a1 n (a2 + (-1 : Int32)) M19
        else
          (if v8 = (124 : Int32) then
            f_X8_settle_b60 (f_X8_settle_b5 a0 a1 n) r14.2 a0 a1 a2 a0 (1 : Int32)
          else
            f_X8_settle_b60 (f_X8_settle_b5 a0 a1 n) r14.2 a0 a1 a2 a0 (0 : Int32))))
    else
      some M)
def f_X8_settle (M : q_Mem) (a0 : Nat) (a1 : Int32) : Option q_Mem :=
  q_ob 7 M a0 ((q_gI 7 7 M a0).bind fun v1 =>
  f_X8_settle_b5 a0 a1 q_fuel v1 M)
set_option maxRecDepth 20000 in
theorem v_X8_settle_b60 {kk5 : Int32 → q_Mem → Option q_Mem} {M : q_Mem} {a0 : Nat} {a1 : Int32} {a2 : Int32} {s0 : Nat} {s1 : Int32}  (hk5 : ∀ (a2 : Int32) (M : q_Mem), q_V Y_X8_settle none (fun x : q_Mem => (none, x)) 0 0 5 [(0, .ref a0), (1, .int a1), (2, .int a2)] [] M (kk5 a2 M)): q_V Y_X8_settle none (fun x : q_Mem => (none, x)) 0 0 60 [(0, .ref a0), (1, .int a1), (2, .int a2)] [.int s1, .ref s0] M (f_X8_settle_b60 kk5 M a0 a1 a2 s0 s1) := by
  unfold f_X8_settle_b60
  refine q_cNI (Y2 := Y_X11_asNumber) (As := [.int s1]) (st := [.ref s0]) ms_X11_asNumber (host := "CountyCream") (by decide +kernel) dX8_settle_60 ⟨Nat.le_of_ble_eq_true rfl, Nat.le_of_ble_eq_true rfl⟩ rfl (fun _ _ => rfl) (Nat.le_of_ble_eq_true rfl) ⟨Nat.le_of_ble_eq_true rfl, Nat.le_of_ble_eq_true rfl⟩ (fun v25 h24 => m_X11_asNumber h24) (fun v25 h24 => ?_)
  refine q_i2l dX8_settle_63 ?_
  refine q_goto (tgt := 76) dX8_settle_64 (by decide) ?_
  refine q_cVM (Y2 := Y_X8_pushValue) (As := [.long v25.toInt64]) (b := s0) (st := []) cl_X8 mv_X8_pushValue qw_673 dX8_settle_76 ⟨Nat.le_of_ble_eq_true rfl, Nat.le_of_ble_eq_true rfl⟩ rfl (fun _ _ => rfl) (Nat.le_of_ble_eq_true rfl) ⟨Nat.le_of_ble_eq_true rfl, Nat.le_of_ble_eq_true rfl⟩ (fun M28 h26 => q_ob_is h26) (fun M28 h26 => m_X8_pushValue h26) (fun M28 h26 => ?_)
  refine q_iinc 2 (y := (a2 + (-1 : Int32))) (ls' := [(2, .int (a2 + (-1 : Int32))), (0, .ref a0), (1, .int a1)]) dX8_settle_79 rfl rfl (by decide) rfl ?_
  refine q_goto (tgt := 5) dX8_settle_82 (by decide) ?_
  refine q_sub (ls' := [(0, .ref a0), (1, .int a1), (2, .int (a2 + (-1 : Int32)))]) [1, 2, 0] rfl ?_
  exact hk5 _ _
set_option maxRecDepth 20000 in
theorem v_X8_settle_b5 {a0 : Nat} {a1 : Int32}  : ∀ (n : Nat) (a2 : Int32) (M : q_Mem), q_V Y_X8_settle none (fun x : q_Mem => (none, x)) 0 0 5 [(0, .ref a0), (1, .int a1), (2, .int a2)] [] M (f_X8_settle_b5 a0 a1 n a2 M) := by
  intro n
  induction n with
  | zero => intro a2 M; exact q_none
  | succ n ih =>
    intro a2 M
    rw [f_X8_settle_b5.eq_2]
    refine q_iload_n 2 dX8_settle_5 rfl ?_
    refine q_if_le (tgt := 85) dX8_settle_6 (by decide) (fun c23 => ?_) (fun c23 => ?_)
    · refine q_aload_n 0 dX8_settle_9 rfl ?_
      refine q_cVI (Y2 := Y_X8_topMark) (As := []) (b := a0) (st := []) cl_X8 mv_X8_topMark qw_664 dX8_settle_10 ⟨Nat.le_of_ble_eq_true rfl, Nat.le_of_ble_eq_true rfl⟩ rfl (fun _ _ => rfl) (Nat.le_of_ble_eq_true rfl) ⟨Nat.le_of_ble_eq_true rfl, Nat.le_of_ble_eq_true rfl⟩ (fun v4 h3 => q_ob_is h3) (fun v4 h3 => m_X8_topMark h3) (fun v4 h3 => ?_)
      refine q_cSI (Y2 := Y_X8_rankOf) (As := [.int v4]) (st := []) ms_X8_rankOf qw_696 dX8_settle_13 ⟨Nat.le_of_ble_eq_true rfl, Nat.le_of_ble_eq_true rfl⟩ rfl (fun _ _ => rfl) (Nat.le_of_ble_eq_true rfl) ⟨Nat.le_of_ble_eq_true rfl, Nat.le_of_ble_eq_true rfl⟩ (fun v6 h5 => m_X8_rankOf h5) (fun v6 h5 => ?_)
      refine q_iload_n 1 dX8_settle_16 rfl ?_
      refine q_icmp_lt (tgt := 85) dX8_settle_17 (by decide) (fun c22 => ?_) (fun c22 => ?_)
      · exact q_vret dX8_settle_85 rfl rfl (Nat.le_of_ble_eq_true rfl) rfl
      · refine q_aload_n 0 dX8_settle_20 rfl ?_
        refine q_cVI (Y2 := Y_X8_topMark) (As := []) (b := a0) (st := []) cl_X8 mv_X8_topMark qw_664 dX8_settle_21 ⟨Nat.le_of_ble_eq_true rfl, Nat.le_of_ble_eq_true rfl⟩ rfl (fun _ _ => rfl) (Nat.le_of_ble_eq_true rfl) ⟨Nat.le_of_ble_eq_true rfl, Nat.le_of_ble_eq_true rfl⟩ (fun v8 h7 => q_ob_is h7) (fun v8 h7 => m_X8_topMark h7) (fun v8 h7 => ?_)
        refine q_istore_n (ls' := [(3, .int v8), (0, .ref a0), (1, .int a1), (2, .int a2)]) dX8_settle_24 (by decide) rfl ?_
        refine q_aload_n 1 dX8_settle_25 rfl ?_
        refine q_cVMI (Y2 := Y_X8_popMark) (As := []) (b := a0) (st := []) cl_X8 mv_X8_popMark qw_669 dX8_settle_26 ⟨Nat.le_of_ble_eq_true rfl, Nat.le_of_ble_eq_true rfl⟩ rfl (fun _ _ => rfl) (Nat.le_of_ble_eq_true rfl) ⟨Nat.le_of_ble_eq_true rfl, Nat.le_of_ble_eq_true rfl⟩ (fun r10 h9 => q_ob_is h9) (fun r10 h9 => m_X8_popMark h9) (fun r10 h9 => ?_)
        refine q_istore (ls' := [(4, .int r10.1), (3, .int v8), (0, .ref a0), (1, .int a1), (2, .int a2)]) dX8_settle_29 (by decide) rfl ?_
        refine q_aload_n 2 dX8_settle_31 rfl ?_
        refine q_cVMJ (Y2 := Y_X8_popValue) (As := []) (b := a0) (st := []) cl_X8 mv_X8_popValue qw_699 dX8_settle_32 ⟨Nat.le_of_ble_eq_true rfl, Nat.le_of_ble_eq_true rfl⟩ rfl (fun _ _ => rfl) (Nat.le_of_ble_eq_true rfl) ⟨Nat.le_of_ble_eq_true rfl, Nat.le_of_ble_eq_true rfl⟩ (fun r12 h11 => q_ob_is h11) (fun r12 h11 => m_X8_popValue h11) (fun r12 h11 => ?_)
        refine q_lstore (ls' := [(5, .long r12.1), (4, .int r10.1), (3, .int v8), (0, .ref a0), (1, .int a1), (2, .int a2)]) dX8_settle_35 (by decide) rfl ?_
        refine q_aload_n 3 dX8_settle_37 rfl ?_
        refine q_cVMJ (Y2 := Y_X8_popValue) (As := []) (b := a0) (st := []) cl_X8 mv_X8_popValue qw_699 dX8_settle_38 ⟨Nat.le_of_ble_eq_true rfl, Nat.le_of_ble_eq_true rfl⟩ rfl (fun _ _ => rfl) (Nat.le_of_ble_eq_true rfl) ⟨Nat.le_of_ble_eq_true rfl, Nat.le_of_ble_eq_true rfl⟩ (fun r14 h13 => q_ob_is h13) (fun r14 h13 => m_X8_popValue h13) (fun r14 h13 => ?_)
        refine q_lstore (ls' := [(7, .long r14.1), (5, .long r12.1), (4, .int r10.1), (3, .int v8), (0, .ref a0), (1, .int a1), (2, .int a2)]) dX8_settle_41 (by decide) rfl ?_
        refine q_aload_n 4 dX8_settle_43 rfl ?_
        refine q_iload 2 dX8_settle_44 rfl ?_
        refine q_if_eq (tgt := 67) dX8_settle_46 (by decide) (fun c21 => ?_) (fun c21 => ?_)
        · refine q_aload_n 4 dX8_settle_67 rfl ?_
          refine q_iload_n 3 dX8_settle_68 rfl ?_
          refine q_lload 0 dX8_settle_69 rfl ?_
          refine q_lload 1 dX8_settle_71 rfl ?_
          refine q_cVMJ (Y2 := Y_X8_made) (As := [.int v8, .long r14.1, .long r12.1]) (b := a0) (st := [.ref a0]) cl_X8 mv_X8_made qw_703 dX8_settle_73 ⟨Nat.le_of_ble_eq_true rfl, Nat.le_of_ble_eq_true rfl⟩ rfl (fun _ _ => rfl) (Nat.le_of_ble_eq_true rfl) ⟨Nat.le_of_ble_eq_true rfl, Nat.le_of_ble_eq_true rfl⟩ (fun r16 h15 => q_ob_is h15) (fun r16 h15 => m_X8_made h15) (fun r16 h15 => ?_)
          refine q_cVM (Y2 := Y_X8_pushValue) (As := [.long r16.1]) (b := a0) (st := []) cl_X8 mv_X8_pushValue qw_673 dX8_settle_76 ⟨Nat.le_of_ble_eq_true rfl, Nat.le_of_ble_eq_true rfl⟩ rfl (fun _ _ => rfl) (Nat.le_of_ble_eq_true rfl) ⟨Nat.le_of_ble_eq_true rfl, Nat.le_of_ble_eq_true rfl⟩ (fun M19 h17 => q_ob_is h17) (fun M19 h17 => m_X8_pushValue h17) (fun M19 h17 => ?_)
          refine q_iinc 6 (y := (a2 + (-1 : Int32))) (ls' := [(2, .int (a2 + (-1 : Int32))), (7, .long r14.1), (5, .long r12.1), (4, .int r10.1), (3, .int v8), (0, .ref a0), (1, .int a1)]) dX8_settle_79 rfl rfl (by decide) rfl ?_
          refine q_goto (tgt := 5) dX8_settle_82 (by decide) ?_
          refine q_sub (ls' := [(0, .ref a0), (1, .int a1), (2, .int (a2 + (-1 : Int32)))]) [5, 6, 0] rfl ?_
          exact ih _ _
        · refine q_iload_n 3 dX8_settle_49 rfl ?_
          refine q_bipush (x := (124 : Int32)) dX8_settle_50 rfl ?_
          refine q_icmp_ne (tgt := 59) dX8_settle_52 (by decide) (fun c20 => ?_) (fun c20 => ?_)
          · refine q_iconst (x := (1 : Int32)) dX8_settle_55 rfl ?_
            refine q_goto (tgt := 60) dX8_settle_56 (by decide) ?_
            refine q_sub (ls' := [(0, .ref a0), (1, .int a1), (2, .int a2)]) [4, 5, 6] rfl ?_
            exact v_X8_settle_b60 (ih)
          · refine q_iconst (x := (0 : Int32)) dX8_settle_59 rfl ?_
            refine q_sub (ls' := [(0, .ref a0), (1, .int a1), (2, .int a2)]) [4, 5, 6] rfl ?_
            exact v_X8_settle_b60 (ih)
    · exact q_vret dX8_settle_85 rfl rfl (Nat.le_of_ble_eq_true rfl) rfl
set_option maxRecDepth 20000 in
theorem m_X8_settle {M : q_Mem} {a0 : Nat} {a1 : Int32} {x : q_Mem} (h : f_X8_settle M a0 a1 = some x) : q_C Y_X8_settle [.ref a0, .int a1] M none x := by
  refine q_met (φ := (fun x : q_Mem => (none, x))) (r := f_X8_settle M a0 a1) (by decide +kernel) (Nat.le_of_ble_eq_true rfl) ?_ h (fun _ _ => rfl)
  show q_V Y_X8_settle none (fun x : q_Mem => (none, x)) 0 0 0 [(0, .ref a0), (1, .int a1)] [] M (f_X8_settle M a0 a1)
  unfold f_X8_settle
  refine q_obV ?_
  refine q_aload_n 0 dX8_settle_0 rfl ?_
  refine q_getI (f := 7) cl_X8 (by decide) qw_200 rfl dX8_settle_1 (Or.inl rfl) (fun v1 h2 => ?_)
  refine q_istore_n (ls' := [(2, .int v1), (0, .ref a0), (1, .int a1)]) dX8_settle_4 (by decide) rfl ?_
  refine q_sub (ls' := [(0, .ref a0), (1, .int a1), (2, .int v1)]) [1, 2, 0] rfl ?_
  exact v_X8_settle_b5 _ _ _
theorem dX8_readQuestion_0 : decode cX8_readQuestion 0 = .ok (.aload_n 0, 1) := by decide +kernel
theorem dX8_readQuestion_1 : decode cX8_readQuestion 1 = .ok (.iconst 1, 1) := by decide +kernel
theorem dX8_readQuestion_2 : decode cX8_readQuestion 2 = .ok (.invokevirtual 147, 3) := by decide +kernel
theorem dX8_readQuestion_5 : decode cX8_readQuestion 5 = .ok (.aload_n 0, 1) := by decide +kernel
theorem dX8_readQuestion_6 : decode cX8_readQuestion 6 = .ok (.bipush 63, 2) := by decide +kernel
theorem dX8_readQuestion_8 : decode cX8_readQuestion 8 = .ok (.aload_n 0, 1) := by decide +kernel
theorem dX8_readQuestion_9 : decode cX8_readQuestion 9 = .ok (.invokevirtual 110, 3) := by decide +kernel
theorem dX8_readQuestion_12 : decode cX8_readQuestion 12 = .ok (.lconst 0, 1) := by decide +kernel
theorem dX8_readQuestion_13 : decode cX8_readQuestion 13 = .ok (.lcmp, 1) := by decide +kernel
theorem dX8_readQuestion_14 : decode cX8_readQuestion 14 = .ok (.ifCond .ne 7, 3) := by decide +kernel
theorem dX8_readQuestion_17 : decode cX8_readQuestion 17 = .ok (.iconst 1, 1) := by decide +kernel
theorem dX8_readQuestion_18 : decode cX8_readQuestion 18 = .ok (.goto 4, 3) := by decide +kernel
theorem dX8_readQuestion_21 : decode cX8_readQuestion 21 = .ok (.iconst 0, 1) := by decide +kernel
theorem dX8_readQuestion_22 : decode cX8_readQuestion 22 = .ok (.invokevirtual 122, 3) := by decide +kernel
theorem dX8_readQuestion_25 : decode cX8_readQuestion 25 = .ok (.aload_n 0, 1) := by decide +kernel
theorem dX8_readQuestion_26 : decode cX8_readQuestion 26 = .ok (.iconst 1, 1) := by decide +kernel
theorem dX8_readQuestion_27 : decode cX8_readQuestion 27 = .ok (.putfield 59, 3) := by decide +kernel
theorem dX8_readQuestion_30 : decode cX8_readQuestion 30 = .ok (.return_, 1) := by decide +kernel
def f_X8_readQuestion (M : q_Mem) (a0 : Nat) : Option q_Mem :=
  q_ob 7 M a0 ((f_X8_settle M a0 (1 : Int32)).bind fun M3 =>
  (f_X8_popValue M3 a0).bind fun r5 =>
  (if r5.1 = (0 : Int64) then
    (f_X8_pushMark r5.2 a0 (63 : Int32) (1 : Int32)).bind fun M8 =>
    (q_pZ 7 10 M8 a0 (1 : Int32)).bind fun M9 =>
    some M9
  else
    (f_X8_pushMark r5.2 a0 (63 : Int32) (0 : Int32)).bind fun M13 =>
    (q_pZ 7 10 M13 a0 (1 : Int32)).bind fun M14 =>
    some M14))
set_option maxRecDepth 20000 in
theorem m_X8_readQuestion {M : q_Mem} {a0 : Nat} {x : q_Mem} (h : f_X8_readQuestion M a0 = some x) : q_C Y_X8_readQuestion [.ref a0] M none x := by
  refine q_met (φ := (fun x : q_Mem => (none, x))) (r := f_X8_readQuestion M a0) (by decide +kernel) (Nat.le_of_ble_eq_true rfl) ?_ h (fun _ _ => rfl)
  show q_V Y_X8_readQuestion none (fun x : q_Mem => (none, x)) 0 0 0 [(0, .ref a0)] [] M (f_X8_readQuestion M a0)
  unfold f_X8_readQuestion
  refine q_obV ?_
  refine q_aload_n 0 dX8_readQuestion_0 rfl ?_
  refine q_iconst (x := (1 : Int32)) dX8_readQuestion_1 rfl ?_
  refine q_cVM (Y2 := Y_X8_settle) (As := [.int (1 : Int32)]) (b := a0) (st := []) cl_X8 mv_X8_settle qw_692 dX8_readQuestion_2 ⟨Nat.le_of_ble_eq_true rfl, Nat.le_of_ble_eq_true rfl⟩ rfl (fun _ _ => rfl) (Nat.le_of_ble_eq_true rfl) ⟨Nat.le_of_ble_eq_true rfl, Nat.le_of_ble_eq_true rfl⟩ (fun M3 h1 => q_ob_is h1) (fun M3 h1 => m_X8_settle h1) (fun M3 h1 => ?_)
  refine q_aload_n 0 dX8_readQuestion_5 rfl ?_
  refine q_bipush (x := (63 : Int32)) dX8_readQuestion_6 rfl ?_
  refine q_aload_n 0 dX8_readQuestion_8 rfl ?_
  refine q_cVMJ (Y2 := Y_X8_popValue) (As := []) (b := a0) (st := [.int (63 : Int32), .ref a0]) cl_X8 mv_X8_popValue qw_699 dX8_readQuestion_9 ⟨Nat.le_of_ble_eq_true rfl, Nat.le_of_ble_eq_true rfl⟩ rfl (fun _ _ => rfl) (Nat.le_of_ble_eq_true rfl) ⟨Nat.le_of_ble_eq_true rfl, Nat.le_of_ble_eq_true rfl⟩ (fun r5 h4 => q_ob_is h4) (fun r5 h4 => m_X8_popValue h4) (fun r5 h4 => ?_)
  refine q_lconst (x := (0 : Int64)) dX8_readQuestion_12 rfl ?_
  refine q_lcmp_ne (tgt := 21) dX8_readQuestion_13 dX8_readQuestion_14 (by decide) (fun c16 => ?_) (fun c16 => ?_)
  · refine q_iconst (x := (1 : Int32)) dX8_readQuestion_17 rfl ?_
    refine q_goto (tgt := 22) dX8_readQuestion_18 (by decide) ?_
    refine q_cVM (Y2 := Y_X8_pushMark) (As := [.int (63 : Int32), .int (1 : Int32)]) (b := a0) (st := []) cl_X8 mv_X8_pushMark qw_681 dX8_readQuestion_22 ⟨Nat.le_of_ble_eq_true rfl, Nat.le_of_ble_eq_true rfl⟩ rfl (fun _ _ => rfl) (Nat.le_of_ble_eq_true rfl) ⟨Nat.le_of_ble_eq_true rfl, Nat.le_of_ble_eq_true rfl⟩ (fun M8 h6 => q_ob_is h6) (fun M8 h6 => m_X8_pushMark h6) (fun M8 h6 => ?_)
    refine q_aload_n 0 dX8_readQuestion_25 rfl ?_
    refine q_iconst (x := (1 : Int32)) dX8_readQuestion_26 rfl ?_
    refine q_putZ (f := 10) cl_X8 (by decide) qw_203 rfl (Or.inl rfl) dX8_readQuestion_27 rfl (fun M9 h10 => ?_)
    exact q_vret dX8_readQuestion_30 rfl rfl (Nat.le_of_ble_eq_true rfl) rfl
  · refine q_iconst (x := (0 : Int32)) dX8_readQuestion_21 rfl ?_
    refine q_cVM (Y2 := Y_X8_pushMark) (As := [.int (63 : Int32), .int (0 : Int32)]) (b := a0) (st := []) cl_X8 mv_X8_pushMark qw_681 dX8_readQuestion_22 ⟨Nat.le_of_ble_eq_true rfl, Nat.le_of_ble_eq_true rfl⟩ rfl (fun _ _ => rfl) (Nat.le_of_ble_eq_true rfl) ⟨Nat.le_of_ble_eq_true rfl, Nat.le_of_ble_eq_true rfl⟩ (fun M13 h11 => q_ob_is h11) (fun M13 h11 => m_X8_pushMark h11) (fun M13 h11 => ?_)
    refine q_aload_n 0 dX8_readQuestion_25 rfl ?_
    refine q_iconst (x := (1 : Int32)) dX8_readQuestion_26 rfl ?_
    refine q_putZ (f := 10) cl_X8 (by decide) qw_203 rfl (Or.inl rfl) dX8_readQuestion_27 rfl (fun M14 h15 => ?_)
    exact q_vret dX8_readQuestion_30 rfl rfl (Nat.le_of_ble_eq_true rfl) rfl
theorem dX8_endChoices_0 : decode cX8_endChoices 0 = .ok (.aload_n 0, 1) := by decide +kernel
theorem dX8_endChoices_1 : decode cX8_endChoices 1 = .ok (.iconst 1, 1) := by decide +kernel
theorem dX8_endChoices_2 : decode cX8_endChoices 2 = .ok (.invokevirtual 147, 3) := by decide +kernel
theorem dX8_endChoices_5 : decode cX8_endChoices 5 = .ok (.aload_n 0, 1) := by decide +kernel
theorem dX8_endChoices_6 : decode cX8_endChoices 6 = .ok (.getfield 50, 3) := by decide +kernel
theorem dX8_endChoices_9 : decode cX8_endChoices 9 = .ok (.istore_n 1, 1) := by decide +kernel
theorem dX8_endChoices_10 : decode cX8_endChoices 10 = .ok (.iload_n 1, 1) := by decide +kernel
theorem dX8_endChoices_11 : decode cX8_endChoices 11 = .ok (.ifCond .le 30, 3) := by decide +kernel
theorem dX8_endChoices_14 : decode cX8_endChoices 14 = .ok (.aload_n 0, 1) := by decide +kernel
theorem dX8_endChoices_15 : decode cX8_endChoices 15 = .ok (.invokevirtual 129, 3) := by decide +kernel
theorem dX8_endChoices_18 : decode cX8_endChoices 18 = .ok (.bipush 58, 2) := by decide +kernel
theorem dX8_endChoices_20 : decode cX8_endChoices 20 = .ok (.if_icmp .ne 21, 3) := by decide +kernel
theorem dX8_endChoices_23 : decode cX8_endChoices 23 = .ok (.aload_n 0, 1) := by decide +kernel
theorem dX8_endChoices_24 : decode cX8_endChoices 24 = .ok (.invokevirtual 137, 3) := by decide +kernel
theorem dX8_endChoices_27 : decode cX8_endChoices 27 = .ok (.ifCond .eq 8, 3) := by decide +kernel
theorem dX8_endChoices_30 : decode cX8_endChoices 30 = .ok (.aload_n 0, 1) := by decide +kernel
theorem dX8_endChoices_31 : decode cX8_endChoices 31 = .ok (.invokevirtual 110, 3) := by decide +kernel
theorem dX8_endChoices_34 : decode cX8_endChoices 34 = .ok (.pop2, 1) := by decide +kernel
theorem dX8_endChoices_35 : decode cX8_endChoices 35 = .ok (.iinc 1 (-1), 3) := by decide +kernel
theorem dX8_endChoices_38 : decode cX8_endChoices 38 = .ok (.goto (-28), 3) := by decide +kernel
theorem dX8_endChoices_41 : decode cX8_endChoices 41 = .ok (.return_, 1) := by decide +kernel
def f_X8_endChoices_b10 (a0 : Nat) : Nat → Int32 → q_Mem → Option q_Mem
  | 0, _, _ => none
  | n + 1, a1, M =>
    (if 0 < a1 then
      (f_X8_topMark M a0).bind fun v7 =>
      (if v7 = (58 : Int32) then
        (f_X8_popMark M a0).bind fun r9 =>
        (if r9.1 = 0 then
          f_X8_endChoices_b10 a0 n (a1 + (-1 : Int32)) r9.2
        else
          (f_X8_popValue r9.2 a0).bind fun r11 =>
          f_X8_endChoices_b10 a0 n (a1 + (-1 : Int32)) r11.2)
      else
        some M)
    else
      some M)
def f_X8_endChoices (M : q_Mem) (a0 : Nat) : Option q_Mem :=
  q_ob 7 M a0 ((f_X8_settle M a0 (1 : Int32)).bind fun M3 =>
  (q_gI 7 7 M3 a0).bind fun v4 =>
  f_X8_endChoices_b10 a0 q_fuel v4 M3)
set_option maxRecDepth 20000 in
theorem v_X8_endChoices_b10 {a0 : Nat}  : ∀ (n : Nat) (a1 : Int32) (M : q_Mem), q_V Y_X8_endChoices none (fun x : q_Mem => (none, x)) 0 0 10 [(0, .ref a0), (1, .int a1)] [] M (f_X8_endChoices_b10 a0 n a1 M) := by
  intro n
  induction n with
  | zero => intro a1 M; exact q_none
  | succ n ih =>
    intro a1 M
    rw [f_X8_endChoices_b10.eq_2]
    refine q_iload_n 1 dX8_endChoices_10 rfl ?_
    refine q_if_le (tgt := 41) dX8_endChoices_11 (by decide) (fun c14 => ?_) (fun c14 => ?_)
    · refine q_aload_n 0 dX8_endChoices_14 rfl ?_
      refine q_cVI (Y2 := Y_X8_topMark) (As := []) (b := a0) (st := []) cl_X8 mv_X8_topMark qw_664 dX8_endChoices_15 ⟨Nat.le_of_ble_eq_true rfl, Nat.le_of_ble_eq_true rfl⟩ rfl (fun _ _ => rfl) (Nat.le_of_ble_eq_true rfl) ⟨Nat.le_of_ble_eq_true rfl, Nat.le_of_ble_eq_true rfl⟩ (fun v7 h6 => q_ob_is h6) (fun v7 h6 => m_X8_topMark h6) (fun v7 h6 => ?_)
      refine q_bipush (x := (58 : Int32)) dX8_endChoices_18 rfl ?_
      refine q_icmp_ne (tgt := 41) dX8_endChoices_20 (by decide) (fun c13 => ?_) (fun c13 => ?_)
      · refine q_aload_n 0 dX8_endChoices_23 rfl ?_
        refine q_cVMI (Y2 := Y_X8_popMark) (As := []) (b := a0) (st := []) cl_X8 mv_X8_popMark qw_669 dX8_endChoices_24 ⟨Nat.le_of_ble_eq_true rfl, Nat.le_of_ble_eq_true rfl⟩ rfl (fun _ _ => rfl) (Nat.le_of_ble_eq_true rfl) ⟨Nat.le_of_ble_eq_true rfl, Nat.le_of_ble_eq_true rfl⟩ (fun r9 h8 => q_ob_is h8) (fun r9 h8 => m_X8_popMark h8) (fun r9 h8 => ?_)
        refine q_if_eq (tgt := 35) dX8_endChoices_27 (by decide) (fun c12 => ?_) (fun c12 => ?_)
        · refine q_iinc 1 (y := (a1 + (-1 : Int32))) (ls' := [(1, .int (a1 + (-1 : Int32))), (0, .ref a0)]) dX8_endChoices_35 rfl rfl (by decide) rfl ?_
          refine q_goto (tgt := 10) dX8_endChoices_38 (by decide) ?_
          refine q_sub (ls' := [(0, .ref a0), (1, .int (a1 + (-1 : Int32)))]) [1, 0] rfl ?_
          exact ih _ _
        · refine q_aload_n 0 dX8_endChoices_30 rfl ?_
          refine q_cVMJ (Y2 := Y_X8_popValue) (As := []) (b := a0) (st := []) cl_X8 mv_X8_popValue qw_699 dX8_endChoices_31 ⟨Nat.le_of_ble_eq_true rfl, Nat.le_of_ble_eq_true rfl⟩ rfl (fun _ _ => rfl) (Nat.le_of_ble_eq_true rfl) ⟨Nat.le_of_ble_eq_true rfl, Nat.le_of_ble_eq_true rfl⟩ (fun r11 h10 => q_ob_is h10) (fun r11 h10 => m_X8_popValue h10) (fun r11 h10 => ?_)
          refine q_pop2 dX8_endChoices_34 rfl ?_
          refine q_iinc 1 (y := (a1 + (-1 : Int32))) (ls' := [(1, .int (a1 + (-1 : Int32))), (0, .ref a0)]) dX8_endChoices_35 rfl rfl (by decide) rfl ?_
          refine q_goto (tgt := 10) dX8_endChoices_38 (by decide) ?_
          refine q_sub (ls' := [(0, .ref a0), (1, .int (a1 + (-1 : Int32)))]) [1, 0] rfl ?_
          exact ih _ _
      · exact q_vret dX8_endChoices_41 rfl rfl (Nat.le_of_ble_eq_true rfl) rfl
    · exact q_vret dX8_endChoices_41 rfl rfl (Nat.le_of_ble_eq_true rfl) rfl
set_option maxRecDepth 20000 in
theorem m_X8_endChoices {M : q_Mem} {a0 : Nat} {x : q_Mem} (h : f_X8_endChoices M a0 = some x) : q_C Y_X8_endChoices [.ref a0] M none x := by
  refine q_met (φ := (fun x : q_Mem => (none, x))) (r := f_X8_endChoices M a0) (by decide +kernel) (Nat.le_of_ble_eq_true rfl) ?_ h (fun _ _ => rfl)
  show q_V Y_X8_endChoices none (fun x : q_Mem => (none, x)) 0 0 0 [(0, .ref a0)] [] M (f_X8_endChoices M a0)
  unfold f_X8_endChoices
  refine q_obV ?_
  refine q_aload_n 0 dX8_endChoices_0 rfl ?_
  refine q_iconst (x := (1 : Int32)) dX8_endChoices_1 rfl ?_
  refine q_cVM (Y2 := Y_X8_settle) (As := [.int (1 : Int32)]) (b := a0) (st := []) cl_X8 mv_X8_settle qw_692 dX8_endChoices_2 ⟨Nat.le_of_ble_eq_true rfl, Nat.le_of_ble_eq_true rfl⟩ rfl (fun _ _ => rfl) (Nat.le_of_ble_eq_true rfl) ⟨Nat.le_of_ble_eq_true rfl, Nat.le_of_ble_eq_true rfl⟩ (fun M3 h1 => q_ob_is h1) (fun M3 h1 => m_X8_settle h1) (fun M3 h1 => ?_)
  refine q_aload_n 0 dX8_endChoices_5 rfl ?_
  refine q_getI (f := 7) cl_X8 (by decide) qw_200 rfl dX8_endChoices_6 (Or.inl rfl) (fun v4 h5 => ?_)
  refine q_istore_n (ls' := [(1, .int v4), (0, .ref a0)]) dX8_endChoices_9 (by decide) rfl ?_
  refine q_sub (ls' := [(0, .ref a0), (1, .int v4)]) [1, 0] rfl ?_
  exact v_X8_endChoices_b10 _ _ _
theorem dX8_readElse_0 : decode cX8_readElse 0 = .ok (.aload_n 0, 1) := by decide +kernel
theorem dX8_readElse_1 : decode cX8_readElse 1 = .ok (.invokevirtual 104, 3) := by decide +kernel
theorem dX8_readElse_4 : decode cX8_readElse 4 = .ok (.aload_n 0, 1) := by decide +kernel
theorem dX8_readElse_5 : decode cX8_readElse 5 = .ok (.invokevirtual 129, 3) := by decide +kernel
theorem dX8_readElse_8 : decode cX8_readElse 8 = .ok (.bipush 63, 2) := by decide +kernel
theorem dX8_readElse_10 : decode cX8_readElse 10 = .ok (.if_icmp .eq 10, 3) := by decide +kernel
theorem dX8_readElse_13 : decode cX8_readElse 13 = .ok (.aload_n 0, 1) := by decide +kernel
theorem dX8_readElse_14 : decode cX8_readElse 14 = .ok (.iload_n 1, 1) := by decide +kernel
theorem dX8_readElse_15 : decode cX8_readElse 15 = .ok (.iconst 1, 1) := by decide +kernel
theorem dX8_readElse_16 : decode cX8_readElse 16 = .ok (.invokevirtual 107, 3) := by decide +kernel
theorem dX8_readElse_19 : decode cX8_readElse 19 = .ok (.return_, 1) := by decide +kernel
theorem dX8_readElse_20 : decode cX8_readElse 20 = .ok (.aload_n 0, 1) := by decide +kernel
theorem dX8_readElse_21 : decode cX8_readElse 21 = .ok (.invokevirtual 137, 3) := by decide +kernel
theorem dX8_readElse_24 : decode cX8_readElse 24 = .ok (.istore_n 2, 1) := by decide +kernel
theorem dX8_readElse_25 : decode cX8_readElse 25 = .ok (.iload_n 2, 1) := by decide +kernel
theorem dX8_readElse_26 : decode cX8_readElse 26 = .ok (.ifCond .eq 8, 3) := by decide +kernel
theorem dX8_readElse_29 : decode cX8_readElse 29 = .ok (.aload_n 0, 1) := by decide +kernel
theorem dX8_readElse_30 : decode cX8_readElse 30 = .ok (.invokevirtual 110, 3) := by decide +kernel
theorem dX8_readElse_33 : decode cX8_readElse 33 = .ok (.pop2, 1) := by decide +kernel
theorem dX8_readElse_34 : decode cX8_readElse 34 = .ok (.aload_n 0, 1) := by decide +kernel
theorem dX8_readElse_35 : decode cX8_readElse 35 = .ok (.bipush 58, 2) := by decide +kernel
theorem dX8_readElse_37 : decode cX8_readElse 37 = .ok (.iload_n 2, 1) := by decide +kernel
theorem dX8_readElse_38 : decode cX8_readElse 38 = .ok (.ifCond .ne 7, 3) := by decide +kernel
theorem dX8_readElse_41 : decode cX8_readElse 41 = .ok (.iconst 1, 1) := by decide +kernel
theorem dX8_readElse_42 : decode cX8_readElse 42 = .ok (.goto 4, 3) := by decide +kernel
theorem dX8_readElse_45 : decode cX8_readElse 45 = .ok (.iconst 0, 1) := by decide +kernel
theorem dX8_readElse_46 : decode cX8_readElse 46 = .ok (.invokevirtual 122, 3) := by decide +kernel
theorem dX8_readElse_49 : decode cX8_readElse 49 = .ok (.aload_n 0, 1) := by decide +kernel
theorem dX8_readElse_50 : decode cX8_readElse 50 = .ok (.iconst 1, 1) := by decide +kernel
theorem dX8_readElse_51 : decode cX8_readElse 51 = .ok (.putfield 59, 3) := by decide +kernel
theorem dX8_readElse_54 : decode cX8_readElse 54 = .ok (.return_, 1) := by decide +kernel
def f_X8_readElse_b34 (M : q_Mem) (a0 : Nat) (a2 : Int32) : Option q_Mem :=
  (if a2 = 0 then
    (f_X8_pushMark M a0 (58 : Int32) (1 : Int32)).bind fun M17 =>
    (q_pZ 7 10 M17 a0 (1 : Int32)).bind fun M18 =>
    some M18
  else
    (f_X8_pushMark M a0 (58 : Int32) (0 : Int32)).bind fun M22 =>
    (q_pZ 7 10 M22 a0 (1 : Int32)).bind fun M23 =>
    some M23)
def f_X8_readElse (M : q_Mem) (a0 : Nat) (a1 : Int32) : Option q_Mem :=
  q_ob 7 M a0 ((f_X8_endChoices M a0).bind fun M3 =>
  (f_X8_topMark M3 a0).bind fun v5 =>
  (if v5 = (63 : Int32) then
    (f_X8_popMark M3 a0).bind fun r7 =>
    (if r7.1 = 0 then
      f_X8_readElse_b34 r7.2 a0 r7.1
    else
      (f_X8_popValue r7.2 a0).bind fun r9 =>
      f_X8_readElse_b34 r9.2 a0 r7.1)
  else
    (f_X8_stop M3 a0 a1 (1 : Int32)).bind fun M13 =>
    some M13))
set_option maxRecDepth 20000 in
theorem v_X8_readElse_b34 {M : q_Mem} {a0 : Nat} {a2 : Int32}  : q_V Y_X8_readElse none (fun x : q_Mem => (none, x)) 0 0 34 [(0, .ref a0), (2, .int a2)] [] M (f_X8_readElse_b34 M a0 a2 ) := by
  unfold f_X8_readElse_b34
  refine q_aload_n 0 dX8_readElse_34 rfl ?_
  refine q_bipush (x := (58 : Int32)) dX8_readElse_35 rfl ?_
  refine q_iload_n 1 dX8_readElse_37 rfl ?_
  refine q_if_ne (tgt := 45) dX8_readElse_38 (by decide) (fun c25 => ?_) (fun c25 => ?_)
  · refine q_iconst (x := (1 : Int32)) dX8_readElse_41 rfl ?_
    refine q_goto (tgt := 46) dX8_readElse_42 (by decide) ?_
    refine q_cVM (Y2 := Y_X8_pushMark) (As := [.int (58 : Int32), .int (1 : Int32)]) (b := a0) (st := []) cl_X8 mv_X8_pushMark qw_681 dX8_readElse_46 ⟨Nat.le_of_ble_eq_true rfl, Nat.le_of_ble_eq_true rfl⟩ rfl (fun _ _ => rfl) (Nat.le_of_ble_eq_true rfl) ⟨Nat.le_of_ble_eq_true rfl, Nat.le_of_ble_eq_true rfl⟩ (fun M17 h15 => q_ob_is h15) (fun M17 h15 => m_X8_pushMark h15) (fun M17 h15 => ?_)
    refine q_aload_n 0 dX8_readElse_49 rfl ?_
    refine q_iconst (x := (1 : Int32)) dX8_readElse_50 rfl ?_
    refine q_putZ (f := 10) cl_X8 (by decide) qw_203 rfl (Or.inl rfl) dX8_readElse_51 rfl (fun M18 h19 => ?_)
    exact q_vret dX8_readElse_54 rfl rfl (Nat.le_of_ble_eq_true rfl) rfl
  · refine q_iconst (x := (0 : Int32)) dX8_readElse_45 rfl ?_
    refine q_cVM (Y2 := Y_X8_pushMark) (As := [.int (58 : Int32), .int (0 : Int32)]) (b := a0) (st := []) cl_X8 mv_X8_pushMark qw_681 dX8_readElse_46 ⟨Nat.le_of_ble_eq_true rfl, Nat.le_of_ble_eq_true rfl⟩ rfl (fun _ _ => rfl) (Nat.le_of_ble_eq_true rfl) ⟨Nat.le_of_ble_eq_true rfl, Nat.le_of_ble_eq_true rfl⟩ (fun M22 h20 => q_ob_is h20) (fun M22 h20 => m_X8_pushMark h20) (fun M22 h20 => ?_)
    refine q_aload_n 0 dX8_readElse_49 rfl ?_
    refine q_iconst (x := (1 : Int32)) dX8_readElse_50 rfl ?_
    refine q_putZ (f := 10) cl_X8 (by decide) qw_203 rfl (Or.inl rfl) dX8_readElse_51 rfl (fun M23 h24 => ?_)
    exact q_vret dX8_readElse_54 rfl rfl (Nat.le_of_ble_eq_true rfl) rfl
set_option maxRecDepth 20000 in
theorem m_X8_readElse {M : q_Mem} {a0 : Nat} {a1 : Int32} {x : q_Mem} (h : f_X8_readElse M a0 a1 = some x) : q_C Y_X8_readElse [.ref a0, .int a1] M none x := by
  refine q_met (φ := (fun x : q_Mem => (none, x))) (r := f_X8_readElse M a0 a1) (by decide +kernel) (Nat.le_of_ble_eq_true rfl) ?_ h (fun _ _ => rfl)
  show q_V Y_X8_readElse none (fun x : q_Mem => (none, x)) 0 0 0 [(0, .ref a0), (1, .int a1)] [] M (f_X8_readElse M a0 a1)
  unfold f_X8_readElse
  refine q_obV ?_
  refine q_aload_n 0 dX8_readElse_0 rfl ?_
  refine q_cVM (Y2 := Y_X8_endChoices) (As := []) (b := a0) (st := []) cl_X8 mv_X8_endChoices qw_711 dX8_readElse_1 ⟨Nat.le_of_ble_eq_true rfl, Nat.le_of_ble_eq_true rfl⟩ rfl (fun _ _ => rfl) (Nat.le_of_ble_eq_true rfl) ⟨Nat.le_of_ble_eq_true rfl, Nat.le_of_ble_eq_true rfl⟩ (fun M3 h1 => q_ob_is h1) (fun M3 h1 => m_X8_endChoices h1) (fun M3 h1 => ?_)
  refine q_aload_n 0 dX8_readElse_4 rfl ?_
  refine q_cVI (Y2 := Y_X8_topMark) (As := []) (b := a0) (st := []) cl_X8 mv_X8_topMark qw_664 dX8_readElse_5 ⟨Nat.le_of_ble_eq_true rfl, Nat.le_of_ble_eq_true rfl⟩ rfl (fun _ _ => rfl) (Nat.le_of_ble_eq_true rfl) ⟨Nat.le_of_ble_eq_true rfl, Nat.le_of_ble_eq_true rfl⟩ (fun v5 h4 => q_ob_is h4) (fun v5 h4 => m_X8_topMark h4) (fun v5 h4 => ?_)
  refine q_bipush (x := (63 : Int32)) dX8_readElse_8 rfl ?_
  refine q_icmp_eq (tgt := 20) dX8_readElse_10 (by decide) (fun c14 => ?_) (fun c14 => ?_)
  · refine q_aload_n 0 dX8_readElse_20 rfl ?_
    refine q_cVMI (Y2 := Y_X8_popMark) (As := []) (b := a0) (st := []) cl_X8 mv_X8_popMark qw_669 dX8_readElse_21 ⟨Nat.le_of_ble_eq_true rfl, Nat.le_of_ble_eq_true rfl⟩ rfl (fun _ _ => rfl) (Nat.le_of_ble_eq_true rfl) ⟨Nat.le_of_ble_eq_true rfl, Nat.le_of_ble_eq_true rfl⟩ (fun r7 h6 => q_ob_is h6) (fun r7 h6 => m_X8_popMark h6) (fun r7 h6 => ?_)
    refine q_istore_n (ls' := [(2, .int r7.1), (0, .ref a0), (1, .int a1)]) dX8_readElse_24 (by decide) rfl ?_
    refine q_iload_n 0 dX8_readElse_25 rfl ?_
    refine q_if_eq (tgt := 34) dX8_readElse_26 (by decide) (fun c10 => ?_) (fun c10 => ?_)
    · refine q_sub (ls' := [(0, .ref a0), (2, .int r7.1)]) [1, 0] rfl ?_
      exact v_X8_readElse_b34
    · refine q_aload_n 1 dX8_readElse_29 rfl ?_
      refine q_cVMJ (Y2 := Y_X8_popValue) (As := []) (b := a0) (st := []) cl_X8 mv_X8_popValue qw_699 dX8_readElse_30 ⟨Nat.le_of_ble_eq_true rfl, Nat.le_of_ble_eq_true rfl⟩ rfl (fun _ _ => rfl) (Nat.le_of_ble_eq_true rfl) ⟨Nat.le_of_ble_eq_true rfl, Nat.le_of_ble_eq_true rfl⟩ (fun r9 h8 => q_ob_is h8) (fun r9 h8 => m_X8_popValue h8) (fun r9 h8 => ?_)
      refine q_pop2 dX8_readElse_33 rfl ?_
      refine q_sub (ls' := [(0, .ref a0), (2, .int r7.1)]) [1, 0] rfl ?_
      exact v_X8_readElse_b34
  · refine q_aload_n 0 dX8_readElse_13 rfl ?_
    refine q_iload_n 1 dX8_readElse_14 rfl ?_
    refine q_iconst (x := (1 : Int32)) dX8_readElse_15 rfl ?_
    refine q_cVM (Y2 := Y_X8_stop) (As := [.int a1, .int (1 : Int32)]) (b := a0) (st := []) cl_X8 mv_X8_stop qw_656 dX8_readElse_16 ⟨Nat.le_of_ble_eq_true rfl, Nat.le_of_ble_eq_true rfl⟩ rfl (fun _ _ => rfl) (Nat.le_of_ble_eq_true rfl) ⟨Nat.le_of_ble_eq_true rfl, Nat.le_of_ble_eq_true rfl⟩ (fun M13 h11 => q_ob_is h11) (fun M13 h11 => m_X8_stop h11) (fun M13 h11 => ?_)
    exact q_vret dX8_readElse_19 rfl rfl (Nat.le_of_ble_eq_true rfl) rfl
theorem dX8_readClose_0 : decode cX8_readClose 0 = .ok (.aload_n 0, 1) := by decide +kernel
theorem dX8_readClose_1 : decode cX8_readClose 1 = .ok (.invokevirtual 104, 3) := by decide +kernel
theorem dX8_readClose_4 : decode cX8_readClose 4 = .ok (.aload_n 0, 1) := by decide +kernel
theorem dX8_readClose_5 : decode cX8_readClose 5 = .ok (.invokevirtual 129, 3) := by decide +kernel
theorem dX8_readClose_8 : decode cX8_readClose 8 = .ok (.bipush 40, 2) := by decide +kernel
theorem dX8_readClose_10 : decode cX8_readClose 10 = .ok (.if_icmp .eq 10, 3) := by decide +kernel
theorem dX8_readClose_13 : decode cX8_readClose 13 = .ok (.aload_n 0, 1) := by decide +kernel
theorem dX8_readClose_14 : decode cX8_readClose 14 = .ok (.iload_n 1, 1) := by decide +kernel
theorem dX8_readClose_15 : decode cX8_readClose 15 = .ok (.iconst 1, 1) := by decide +kernel
theorem dX8_readClose_16 : decode cX8_readClose 16 = .ok (.invokevirtual 107, 3) := by decide +kernel
theorem dX8_readClose_19 : decode cX8_readClose 19 = .ok (.return_, 1) := by decide +kernel
theorem dX8_readClose_20 : decode cX8_readClose 20 = .ok (.aload_n 0, 1) := by decide +kernel
theorem dX8_readClose_21 : decode cX8_readClose 21 = .ok (.invokevirtual 137, 3) := by decide +kernel
theorem dX8_readClose_24 : decode cX8_readClose 24 = .ok (.pop, 1) := by decide +kernel
theorem dX8_readClose_25 : decode cX8_readClose 25 = .ok (.aload_n 0, 1) := by decide +kernel
theorem dX8_readClose_26 : decode cX8_readClose 26 = .ok (.dup, 1) := by decide +kernel
theorem dX8_readClose_27 : decode cX8_readClose 27 = .ok (.getfield 53, 3) := by decide +kernel
theorem dX8_readClose_30 : decode cX8_readClose 30 = .ok (.iconst 1, 1) := by decide +kernel
theorem dX8_readClose_31 : decode cX8_readClose 31 = .ok (.isub, 1) := by decide +kernel
theorem dX8_readClose_32 : decode cX8_readClose 32 = .ok (.putfield 53, 3) := by decide +kernel
theorem dX8_readClose_35 : decode cX8_readClose 35 = .ok (.aload_n 0, 1) := by decide +kernel
theorem dX8_readClose_36 : decode cX8_readClose 36 = .ok (.aload_n 0, 1) := by decide +kernel
theorem dX8_readClose_37 : decode cX8_readClose 37 = .ok (.invokevirtual 110, 3) := by decide +kernel
theorem dX8_readClose_40 : decode cX8_readClose 40 = .ok (.invokevirtual 118, 3) := by decide +kernel
theorem dX8_readClose_43 : decode cX8_readClose 43 = .ok (.return_, 1) := by decide +kernel
def f_X8_readClose (M : q_Mem) (a0 : Nat) (a1 : Int32) : Option q_Mem :=
  q_ob 7 M a0 ((f_X8_endChoices M a0).bind fun M3 =>
  (f_X8_topMark M3 a0).bind fun v5 =>
  (if v5 = (40 : Int32) then
    (f_X8_popMark M3 a0).bind fun r7 =>
    (q_gI 7 8 r7.2 a0).bind fun v8 =>
    (q_pI 7 8 r7.2 a0 (v8 - (1 : Int32))).bind fun M10 =>
    (f_X8_popValue M10 a0).bind fun r13 =>
    (f_X8_endUnit r13.2 a0 r13.1).bind fun M16 =>
    some M16
  else
    (f_X8_stop M3 a0 a1 (1 : Int32)).bind fun M19 =>
    some M19))
set_option maxRecDepth 20000 in
theorem m_X8_readClose {M : q_Mem} {a0 : Nat} {a1 : Int32} {x : q_Mem} (h : f_X8_readClose M a0 a1 = some x) : q_C Y_X8_readClose [.ref a0, .int a1] M none x := by
  refine q_met (φ := (fun x : q_Mem => (none, x))) (r := f_X8_readClose M a0 a1) (by decide +kernel) (Nat.le_of_ble_eq_true rfl) ?_ h (fun _ _ => rfl)
  show q_V Y_X8_readClose none (fun x : q_Mem => (none, x)) 0 0 0 [(0, .ref a0), (1, .int a1)] [] M (f_X8_readClose M a0 a1)
  unfold f_X8_readClose
  refine q_obV ?_
  refine q_aload_n 0 dX8_readClose_0 rfl ?_
  refine q_cVM (Y2 := Y_X8_endChoices) (As := []) (b := a0) (st := []) cl_X8 mv_X8_endChoices qw_711 dX8_readClose_1 ⟨Nat.le_of_ble_eq_true rfl, Nat.le_of_ble_eq_true rfl⟩ rfl (fun _ _ => rfl) (Nat.le_of_ble_eq_true rfl) ⟨Nat.le_of_ble_eq_true rfl, Nat.le_of_ble_eq_true rfl⟩ (fun M3 h1 => q_ob_is h1) (fun M3 h1 => m_X8_endChoices h1) (fun M3 h1 => ?_)
  refine q_aload_n 0 dX8_readClose_4 rfl ?_
  refine q_cVI (Y2 := Y_X8_topMark) (As := []) (b := a0) (st := []) cl_X8 mv_X8_topMark qw_664 dX8_readClose_5 ⟨Nat.le_of_ble_eq_true rfl, Nat.le_of_ble_eq_true rfl⟩ rfl (fun _ _ => rfl) (Nat.le_of_ble_eq_true rfl) ⟨Nat.le_of_ble_eq_true rfl, Nat.le_of_ble_eq_true rfl⟩ (fun v5 h4 => q_ob_is h4) (fun v5 h4 => m_X8_topMark h4) (fun v5 h4 => ?_)
  refine q_bipush (x := (40 : Int32)) dX8_readClose_8 rfl ?_
  refine q_icmp_eq (tgt := 20) dX8_readClose_10 (by decide) (fun c20 => ?_) (fun c20 => ?_)
  · refine q_aload_n 0 dX8_readClose_20 rfl ?_
    refine q_cVMI (Y2 := Y_X8_popMark) (As := []) (b := a0) (st := []) cl_X8 mv_X8_popMark qw_669 dX8_readClose_21 ⟨Nat.le_of_ble_eq_true rfl, Nat.le_of_ble_eq_true rfl⟩ rfl (fun _ _ => rfl) (Nat.le_of_ble_eq_true rfl) ⟨Nat.le_of_ble_eq_true rfl, Nat.le_of_ble_eq_true rfl⟩ (fun r7 h6 => q_ob_is h6) (fun r7 h6 => m_X8_popMark h6) (fun r7 h6 => ?_)
    refine q_pop dX8_readClose_24 rfl ?_
    refine q_aload_n 0 dX8_readClose_25 rfl ?_
    refine q_dup dX8_readClose_26 rfl ?_
    refine q_getI (f := 8) cl_X8 (by decide) qw_201 rfl dX8_readClose_27 (Or.inl rfl) (fun v8 h9 => ?_)
    refine q_iconst (x := (1 : Int32)) dX8_readClose_30 rfl ?_
    refine q_isub dX8_readClose_31 ?_
    refine q_putI (f := 8) cl_X8 (by decide) qw_201 rfl (Or.inl rfl) dX8_readClose_32 rfl (fun M10 h11 => ?_)
    refine q_aload_n 0 dX8_readClose_35 rfl ?_
    refine q_aload_n 0 dX8_readClose_36 rfl ?_
    refine q_cVMJ (Y2 := Y_X8_popValue) (As := []) (b := a0) (st := [.ref a0]) cl_X8 mv_X8_popValue qw_699 dX8_readClose_37 ⟨Nat.le_of_ble_eq_true rfl, Nat.le_of_ble_eq_true rfl⟩ rfl (fun _ _ => rfl) (Nat.le_of_ble_eq_true rfl) ⟨Nat.le_of_ble_eq_true rfl, Nat.le_of_ble_eq_true rfl⟩ (fun r13 h12 => q_ob_is h12) (fun r13 h12 => m_X8_popValue h12) (fun r13 h12 => ?_)
    refine q_cVM (Y2 := Y_X8_endUnit) (As := [.long r13.1]) (b := a0) (st := []) cl_X8 mv_X8_endUnit qw_660 dX8_readClose_40 ⟨Nat.le_of_ble_eq_true rfl, Nat.le_of_ble_eq_true rfl⟩ rfl (fun _ _ => rfl) (Nat.le_of_ble_eq_true rfl) ⟨Nat.le_of_ble_eq_true rfl, Nat.le_of_ble_eq_true rfl⟩ (fun M16 h14 => q_ob_is h14) (fun M16 h14 => m_X8_endUnit h14) (fun M16 h14 => ?_)
    exact q_vret dX8_readClose_43 rfl rfl (Nat.le_of_ble_eq_true rfl) rfl
  · refine q_aload_n 0 dX8_readClose_13 rfl ?_
    refine q_iload_n 1 dX8_readClose_14 rfl ?_
    refine q_iconst (x := (1 : Int32)) dX8_readClose_15 rfl ?_
    refine q_cVM (Y2 := Y_X8_stop) (As := [.int a1, .int (1 : Int32)]) (b := a0) (st := []) cl_X8 mv_X8_stop qw_656 dX8_readClose_16 ⟨Nat.le_of_ble_eq_true rfl, Nat.le_of_ble_eq_true rfl⟩ rfl (fun _ _ => rfl) (Nat.le_of_ble_eq_true rfl) ⟨Nat.le_of_ble_eq_true rfl, Nat.le_of_ble_eq_true rfl⟩ (fun M19 h17 => q_ob_is h17) (fun M19 h17 => m_X8_stop h17) (fun M19 h17 => ?_)
    exact q_vret dX8_readClose_19 rfl rfl (Nat.le_of_ble_eq_true rfl) rfl
theorem dX8_topValue_0 : decode cX8_topValue 0 = .ok (.aload_n 0, 1) := by decide +kernel
theorem dX8_topValue_1 : decode cX8_topValue 1 = .ok (.getfield 47, 3) := by decide +kernel
theorem dX8_topValue_4 : decode cX8_topValue 4 = .ok (.ifCond .le 15, 3) := by decide +kernel
theorem dX8_topValue_7 : decode cX8_topValue 7 = .ok (.aload_n 0, 1) := by decide +kernel
theorem dX8_topValue_8 : decode cX8_topValue 8 = .ok (.getfield 47, 3) := by decide +kernel
theorem dX8_topValue_11 : decode cX8_topValue 11 = .ok (.aload_n 0, 1) := by decide +kernel
theorem dX8_topValue_12 : decode cX8_topValue 12 = .ok (.getfield 19, 3) := by decide +kernel
theorem dX8_topValue_15 : decode cX8_topValue 15 = .ok (.arraylength, 1) := by decide +kernel
theorem dX8_topValue_16 : decode cX8_topValue 16 = .ok (.if_icmp .le 7, 3) := by decide +kernel
theorem dX8_topValue_19 : decode cX8_topValue 19 = .ok (.lconst 0, 1) := by decide +kernel
theorem dX8_topValue_20 : decode cX8_topValue 20 = .ok (.goto 14, 3) := by decide +kernel
theorem dX8_topValue_23 : decode cX8_topValue 23 = .ok (.aload_n 0, 1) := by decide +kernel
theorem dX8_topValue_24 : decode cX8_topValue 24 = .ok (.getfield 19, 3) := by decide +kernel
theorem dX8_topValue_27 : decode cX8_topValue 27 = .ok (.aload_n 0, 1) := by decide +kernel
theorem dX8_topValue_28 : decode cX8_topValue 28 = .ok (.getfield 47, 3) := by decide +kernel
theorem dX8_topValue_31 : decode cX8_topValue 31 = .ok (.iconst 1, 1) := by decide +kernel
theorem dX8_topValue_32 : decode cX8_topValue 32 = .ok (.isub, 1) := by decide +kernel
theorem dX8_topValue_33 : decode cX8_topValue 33 = .ok (.laload, 1) := by decide +kernel
theorem dX8_topValue_34 : decode cX8_topValue 34 = .ok (.lreturn, 1) := by decide +kernel
def f_X8_topValue (M : q_Mem) (a0 : Nat) : Option Int64 :=
  q_ob 7 M a0 ((q_gI 7 4 M a0).bind fun v1 =>
  (if 0 < v1 then
    (q_gI 7 4 M a0).bind fun v3 =>
    (q_gR 7 3 M a0).bind fun v5 =>
    (q_ln M v5).bind fun v7 =>
    (if v7 < v3 then
      some (0 : Int64)
    else
      (q_gR 7 3 M a0).bind fun v9 =>
      (q_gI 7 4 M a0).bind fun v11 =>
      (q_lJ M v9 (v11 - (1 : Int32))).bind fun v13 =>
      some v13)
  else
    some (0 : Int64)))
set_option maxRecDepth 20000 in
theorem m_X8_topValue {M : q_Mem} {a0 : Nat} {x : Int64} (h : f_X8_topValue M a0 = some x) : q_C Y_X8_topValue [.ref a0] M (some (.long x)) M := by
  refine q_met (φ := (fun x : Int64 => (some (.long x), M))) (r := f_X8_topValue M a0) (by decide +kernel) (Nat.le_of_ble_eq_true rfl) ?_ h (fun _ _ => rfl)
  show q_V Y_X8_topValue none (fun x : Int64 => (some (.long x), M)) 0 0 0 [(0, .ref a0)] [] M (f_X8_topValue M a0)
  unfold f_X8_topValue
  refine q_obV ?_
  refine q_aload_n 0 dX8_topValue_0 rfl ?_
  refine q_getI (f := 4) cl_X8 (by decide) qw_197 rfl dX8_topValue_1 (Or.inl rfl) (fun v1 h2 => ?_)
  refine q_if_le (tgt := 19) dX8_topValue_4 (by decide) (fun c16 => ?_) (fun c16 => ?_)
  · refine q_aload_n 0 dX8_topValue_7 rfl ?_
    refine q_getI (f := 4) cl_X8 (by decide) qw_197 rfl dX8_topValue_8 (Or.inl rfl) (fun v3 h4 => ?_)
    refine q_aload_n 0 dX8_topValue_11 rfl ?_
    refine q_getR (f := 3) cl_X8 (by decide) qw_196 rfl dX8_topValue_12 (fun _ _ _ => rfl) (fun v5 h6 => ?_)
    refine q_alen dX8_topValue_15 (fun v7 h8 => ?_)
    refine q_icmp_le (tgt := 23) dX8_topValue_16 (by decide) (fun c15 => ?_) (fun c15 => ?_)
    · refine q_lconst (x := (0 : Int64)) dX8_topValue_19 rfl ?_
      refine q_goto (tgt := 34) dX8_topValue_20 (by decide) ?_
      exact q_lret dX8_topValue_34 rfl rfl (Nat.le_of_ble_eq_true rfl) rfl
    · refine q_aload_n 0 dX8_topValue_23 rfl ?_
      refine q_getR (f := 3) cl_X8 (by decide) qw_196 rfl dX8_topValue_24 (fun _ _ _ => rfl) (fun v9 h10 => ?_)
      refine q_aload_n 0 dX8_topValue_27 rfl ?_
      refine q_getI (f := 4) cl_X8 (by decide) qw_197 rfl dX8_topValue_28 (Or.inl rfl) (fun v11 h12 => ?_)
      refine q_iconst (x := (1 : Int32)) dX8_topValue_31 rfl ?_
      refine q_isub dX8_topValue_32 ?_
      refine q_lald dX8_topValue_33 (fun v13 h14 => ?_)
      exact q_lret dX8_topValue_34 rfl rfl (Nat.le_of_ble_eq_true rfl) rfl
  · refine q_lconst (x := (0 : Int64)) dX8_topValue_19 rfl ?_
    refine q_goto (tgt := 34) dX8_topValue_20 (by decide) ?_
    exact q_lret dX8_topValue_34 rfl rfl (Nat.le_of_ble_eq_true rfl) rfl
theorem dX8_readJoin_0 : decode cX8_readJoin 0 = .ok (.iload_n 2, 1) := by decide +kernel
theorem dX8_readJoin_1 : decode cX8_readJoin 1 = .ok (.invokestatic 144, 3) := by decide +kernel
theorem dX8_readJoin_4 : decode cX8_readJoin 4 = .ok (.istore_n 3, 1) := by decide +kernel
theorem dX8_readJoin_5 : decode cX8_readJoin 5 = .ok (.iload_n 3, 1) := by decide +kernel
theorem dX8_readJoin_6 : decode cX8_readJoin 6 = .ok (.ifCond .le 19, 3) := by decide +kernel
theorem dX8_readJoin_9 : decode cX8_readJoin 9 = .ok (.aload_n 0, 1) := by decide +kernel
theorem dX8_readJoin_10 : decode cX8_readJoin 10 = .ok (.iload_n 3, 1) := by decide +kernel
theorem dX8_readJoin_11 : decode cX8_readJoin 11 = .ok (.iconst 3, 1) := by decide +kernel
theorem dX8_readJoin_12 : decode cX8_readJoin 12 = .ok (.if_icmp .ne 9, 3) := by decide +kernel
theorem dX8_readJoin_15 : decode cX8_readJoin 15 = .ok (.iload_n 3, 1) := by decide +kernel
theorem dX8_readJoin_16 : decode cX8_readJoin 16 = .ok (.iconst 1, 1) := by decide +kernel
theorem dX8_readJoin_17 : decode cX8_readJoin 17 = .ok (.iadd, 1) := by decide +kernel
theorem dX8_readJoin_18 : decode cX8_readJoin 18 = .ok (.goto 4, 3) := by decide +kernel
theorem dX8_readJoin_21 : decode cX8_readJoin 21 = .ok (.iload_n 3, 1) := by decide +kernel
theorem dX8_readJoin_22 : decode cX8_readJoin 22 = .ok (.invokevirtual 147, 3) := by decide +kernel
theorem dX8_readJoin_25 : decode cX8_readJoin 25 = .ok (.iload_n 3, 1) := by decide +kernel
theorem dX8_readJoin_26 : decode cX8_readJoin 26 = .ok (.ifCond .eq 19, 3) := by decide +kernel
theorem dX8_readJoin_29 : decode cX8_readJoin 29 = .ok (.iload_n 3, 1) := by decide +kernel
theorem dX8_readJoin_30 : decode cX8_readJoin 30 = .ok (.iconst 3, 1) := by decide +kernel
theorem dX8_readJoin_31 : decode cX8_readJoin 31 = .ok (.if_icmp .ne 21, 3) := by decide +kernel
theorem dX8_readJoin_34 : decode cX8_readJoin 34 = .ok (.aload_n 0, 1) := by decide +kernel
theorem dX8_readJoin_35 : decode cX8_readJoin 35 = .ok (.invokevirtual 129, 3) := by decide +kernel
theorem dX8_readJoin_38 : decode cX8_readJoin 38 = .ok (.invokestatic 144, 3) := by decide +kernel
theorem dX8_readJoin_41 : decode cX8_readJoin 41 = .ok (.iconst 3, 1) := by decide +kernel
theorem dX8_readJoin_42 : decode cX8_readJoin 42 = .ok (.if_icmp .ne 10, 3) := by decide +kernel
theorem dX8_readJoin_45 : decode cX8_readJoin 45 = .ok (.aload_n 0, 1) := by decide +kernel
theorem dX8_readJoin_46 : decode cX8_readJoin 46 = .ok (.iload_n 1, 1) := by decide +kernel
theorem dX8_readJoin_47 : decode cX8_readJoin 47 = .ok (.iconst 1, 1) := by decide +kernel
theorem dX8_readJoin_48 : decode cX8_readJoin 48 = .ok (.invokevirtual 107, 3) := by decide +kernel
theorem dX8_readJoin_51 : decode cX8_readJoin 51 = .ok (.return_, 1) := by decide +kernel
theorem dX8_readJoin_52 : decode cX8_readJoin 52 = .ok (.iload_n 2, 1) := by decide +kernel
theorem dX8_readJoin_53 : decode cX8_readJoin 53 = .ok (.bipush 124, 2) := by decide +kernel
theorem dX8_readJoin_55 : decode cX8_readJoin 55 = .ok (.if_icmp .ne 12, 3) := by decide +kernel
theorem dX8_readJoin_58 : decode cX8_readJoin 58 = .ok (.aload_n 0, 1) := by decide +kernel
theorem dX8_readJoin_59 : decode cX8_readJoin 59 = .ok (.invokevirtual 150, 3) := by decide +kernel
theorem dX8_readJoin_62 : decode cX8_readJoin 62 = .ok (.lconst 0, 1) := by decide +kernel
theorem dX8_readJoin_63 : decode cX8_readJoin 63 = .ok (.lcmp, 1) := by decide +kernel
theorem dX8_readJoin_64 : decode cX8_readJoin 64 = .ok (.ifCond .ne 18, 3) := by decide +kernel
theorem dX8_readJoin_67 : decode cX8_readJoin 67 = .ok (.iload_n 2, 1) := by decide +kernel
theorem dX8_readJoin_68 : decode cX8_readJoin 68 = .ok (.bipush 38, 2) := by decide +kernel
theorem dX8_readJoin_70 : decode cX8_readJoin 70 = .ok (.if_icmp .ne 16, 3) := by decide +kernel
theorem dX8_readJoin_73 : decode cX8_readJoin 73 = .ok (.aload_n 0, 1) := by decide +kernel
theorem dX8_readJoin_74 : decode cX8_readJoin 74 = .ok (.invokevirtual 150, 3) := by decide +kernel
theorem dX8_readJoin_77 : decode cX8_readJoin 77 = .ok (.lconst 0, 1) := by decide +kernel
theorem dX8_readJoin_78 : decode cX8_readJoin 78 = .ok (.lcmp, 1) := by decide +kernel
theorem dX8_readJoin_79 : decode cX8_readJoin 79 = .ok (.ifCond .ne 7, 3) := by decide +kernel
theorem dX8_readJoin_82 : decode cX8_readJoin 82 = .ok (.iconst 1, 1) := by decide +kernel
theorem dX8_readJoin_83 : decode cX8_readJoin 83 = .ok (.goto 4, 3) := by decide +kernel
theorem dX8_readJoin_86 : decode cX8_readJoin 86 = .ok (.iconst 0, 1) := by decide +kernel
theorem dX8_readJoin_87 : decode cX8_readJoin 87 = .ok (.istore 4, 2) := by decide +kernel
theorem dX8_readJoin_89 : decode cX8_readJoin 89 = .ok (.aload_n 0, 1) := by decide +kernel
theorem dX8_readJoin_90 : decode cX8_readJoin 90 = .ok (.iload_n 2, 1) := by decide +kernel
theorem dX8_readJoin_91 : decode cX8_readJoin 91 = .ok (.iload 4, 2) := by decide +kernel
theorem dX8_readJoin_93 : decode cX8_readJoin 93 = .ok (.invokevirtual 122, 3) := by decide +kernel
theorem dX8_readJoin_96 : decode cX8_readJoin 96 = .ok (.aload_n 0, 1) := by decide +kernel
theorem dX8_readJoin_97 : decode cX8_readJoin 97 = .ok (.iconst 1, 1) := by decide +kernel
theorem dX8_readJoin_98 : decode cX8_readJoin 98 = .ok (.putfield 59, 3) := by decide +kernel
theorem dX8_readJoin_101 : decode cX8_readJoin 101 = .ok (.return_, 1) := by decide +kernel
def f_X8_readJoin_b87 (M : q_Mem) (a0 : Nat) (a2 : Int32) (s0 : Int32) : Option q_Mem :=
  (f_X8_pushMark M a0 a2 s0).bind fun M34 =>
  (q_pZ 7 10 M34 a0 (1 : Int32)).bind fun M35 =>
  some M35
def f_X8_readJoin_b67 (M : q_Mem) (a0 : Nat) (a2 : Int32) : Option q_Mem :=
  (if a2 = (38 : Int32) then
    (f_X8_topValue M a0).bind fun v29 =>
    (if v29 = (0 : Int64) then
      f_X8_readJoin_b87 M a0 a2 (1 : Int32)
    else
      f_X8_readJoin_b87 M a0 a2 (0 : Int32))
  else
    f_X8_readJoin_b87 M a0 a2 (0 : Int32))
def f_X8_readJoin_b52 (M : q_Mem) (a0 : Nat) (a2 : Int32) : Option q_Mem :=
  (if a2 = (124 : Int32) then
    (f_X8_topValue M a0).bind fun v25 =>
    (if v25 = (0 : Int64) then
      f_X8_readJoin_b67 M a0 a2
    else
      f_X8_readJoin_b87 M a0 a2 (1 : Int32))
  else
    f_X8_readJoin_b67 M a0 a2)
def f_X8_readJoin_b25 (M : q_Mem) (a0 : Nat) (a1 : Int32) (a2 : Int32) (a3 : Int32) : Option q_Mem :=
  (if a3 = 0 then
    (f_X8_stop M a0 a1 (1 : Int32)).bind fun M13 =>
    some M13
  else
    (if a3 = (3 : Int32) then
      (f_X8_topMark M a0).bind fun v15 =>
      (f_X8_rankOf M v15).bind fun v17 =>
      (if v17 = (3 : Int32) then
        (f_X8_stop M a0 a1 (1 : Int32)).bind fun M20 =>
        some M20
      else
        f_X8_readJoin_b52 M a0 a2)
    else
      f_X8_readJoin_b52 M a0 a2))
def f_X8_readJoin (M : q_Mem) (a0 : Nat) (a1 : Int32) (a2 : Int32) : Option q_Mem :=
  q_ob 7 M a0 ((f_X8_rankOf M a2).bind fun v2 =>
  (if 0 < v2 then
    (if v2 = (3 : Int32) then
      (f_X8_settle M a0 (v2 + (1 : Int32))).bind fun M5 =>
      f_X8_readJoin_b25 M5 a0 a1 a2 v2
    else
      (f_X8_settle M a0 v2).bind fun M8 =>
      f_X8_readJoin_b25 M8 a0 a1 a2 v2)
  else
    f_X8_readJoin_b25 M a0 a1 a2 v2))
set_option maxRecDepth 20000 in
theorem v_X8_readJoin_b87 {M : q_Mem} {a0 : Nat} {a2 : Int32} {s0 : Int32}  : q_V Y_X8_readJoin none (fun x : q_Mem => (none, x)) 0 0 87 [(0, .ref a0), (2, .int a2)] [.int s0] M (f_X8_readJoin_b87 M a0 a2 s0) := by
  unfold f_X8_readJoin_b87
  refine q_istore (ls' := [(4, .int s0), (0, .ref a0), (2, .int a2)]) dX8_readJoin_87 (by decide) rfl ?_
  refine q_aload_n 1 dX8_readJoin_89 rfl ?_
  refine q_iload_n 2 dX8_readJoin_90 rfl ?_
  refine q_iload 0 dX8_readJoin_91 rfl ?_
  refine q_cVM (Y2 := Y_X8_pushMark) (As := [.int a2, .int s0]) (b := a0) (st := []) cl_X8 mv_X8_pushMark qw_681 dX8_readJoin_93 ⟨Nat.le_of_ble_eq_true rfl, Nat.le_of_ble_eq_true rfl⟩ rfl (fun _ _ => rfl) (Nat.le_of_ble_eq_true rfl) ⟨Nat.le_of_ble_eq_true rfl, Nat.le_of_ble_eq_true rfl⟩ (fun M34 h32 => q_ob_is h32) (fun M34 h32 => m_X8_pushMark h32) (fun M34 h32 => ?_)
  refine q_aload_n 1 dX8_readJoin_96 rfl ?_
  refine q_iconst (x := (1 : Int32)) dX8_readJoin_97 rfl ?_
  refine q_putZ (f := 10) cl_X8 (by decide) qw_203 rfl (Or.inl rfl) dX8_readJoin_98 rfl (fun M35 h36 => ?_)
  exact q_vret dX8_readJoin_101 rfl rfl (Nat.le_of_ble_eq_true rfl) rfl
set_option maxRecDepth 20000 in
theorem v_X8_readJoin_b67 {M : q_Mem} {a0 : Nat} {a2 : Int32}  : q_V Y_X8_readJoin none (fun x : q_Mem => (none, x)) 0 0 67 [(0, .ref a0), (2, .int a2)] [] M (f_X8_readJoin_b67 M a0 a2 ) := by
  unfold f_X8_readJoin_b67
  refine q_iload_n 1 dX8_readJoin_67 rfl ?_
  refine q_bipush (x := (38 : Int32)) dX8_readJoin_68 rfl ?_
  refine q_icmp_ne (tgt := 86) dX8_readJoin_70 (by decide) (fun c31 => ?_) (fun c31 => ?_)
  · refine q_aload_n 0 dX8_readJoin_73 rfl ?_
    refine q_cVJ (Y2 := Y_X8_topValue) (As := []) (b := a0) (st := []) cl_X8 mv_X8_topValue qw_723 dX8_readJoin_74 ⟨Nat.le_of_ble_eq_true rfl, Nat.le_of_ble_eq_true rfl⟩ rfl (fun _ _ => rfl) (Nat.le_of_ble_eq_true rfl) ⟨Nat.le_of_ble_eq_true rfl, Nat.le_of_ble_eq_true rfl⟩ (fun v29 h28 => q_ob_is h28) (fun v29 h28 => m_X8_topValue h28) (fun v29 h28 => ?_)
    refine q_lconst (x := (0 : Int64)) dX8_readJoin_77 rfl ?_
    refine q_lcmp_ne (tgt := 86) dX8_readJoin_78 dX8_readJoin_79 (by decide) (fun c30 => ?_) (fun c30 => ?_)
    · refine q_iconst (x := (1 : Int32)) dX8_readJoin_82 rfl ?_
      refine q_goto (tgt := 87) dX8_readJoin_83 (by decide) ?_
      exact v_X8_readJoin_b87
    · refine q_iconst (x := (0 : Int32)) dX8_readJoin_86 rfl ?_
      exact v_X8_readJoin_b87
  · refine q_iconst (x := (0 : Int32)) dX8_readJoin_86 rfl ?_
    exact v_X8_readJoin_b87
set_option maxRecDepth 20000 in
theorem v_X8_readJoin_b52 {M : q_Mem} {a0 : Nat} {a2 : Int32}  : q_V Y_X8_readJoin none (fun x : q_Mem => (none, x)) 0 0 52 [(0, .ref a0), (2, .int a2)] [] M (f_X8_readJoin_b52 M a0 a2 ) := by
  unfold f_X8_readJoin_b52
  refine q_iload_n 1 dX8_readJoin_52 rfl ?_
  refine q_bipush (x := (124 : Int32)) dX8_readJoin_53 rfl ?_
  refine q_icmp_ne (tgt := 67) dX8_readJoin_55 (by decide) (fun c27 => ?_) (fun c27 => ?_)
  · refine q_aload_n 0 dX8_readJoin_58 rfl ?_
    refine q_cVJ (Y2 := Y_X8_topValue) (As := []) (b := a0) (st := []) cl_X8 mv_X8_topValue qw_723 dX8_readJoin_59 ⟨Nat.le_of_ble_eq_true rfl, Nat.le_of_ble_eq_true rfl⟩ rfl (fun _ _ => rfl) (Nat.le_of_ble_eq_true rfl) ⟨Nat.le_of_ble_eq_true rfl, Nat.le_of_ble_eq_true rfl⟩ (fun v25 h24 => q_ob_is h24) (fun v25 h24 => m_X8_topValue h24) (fun v25 h24 => ?_)
    refine q_lconst (x := (0 : Int64)) dX8_readJoin_62 rfl ?_
    refine q_lcmp_ne (tgt := 82) dX8_readJoin_63 dX8_readJoin_64 (by decide) (fun c26 => ?_) (fun c26 => ?_)
    · exact v_X8_readJoin_b67
    · refine q_iconst (x := (1 : Int32)) dX8_readJoin_82 rfl ?_
      refine q_goto (tgt := 87) dX8_readJoin_83 (by decide) ?_
      exact v_X8_readJoin_b87
  · exact v_X8_readJoin_b67
set_option maxRecDepth 20000 in
theorem v_X8_readJoin_b25 {M : q_Mem} {a0 : Nat} {a1 : Int32} {a2 : Int32} {a3 : Int32}  : q_V Y_X8_readJoin none (fun x : q_Mem => (none, x)) 0 0 25 [(0, .ref a0), (1, .int a1), (2, .int a2), (3, .int a3)] [] M (f_X8_readJoin_b25 M a0 a1 a2 a3 ) := by
  unfold f_X8_readJoin_b25
  refine q_iload_n 3 dX8_readJoin_25 rfl ?_
  refine q_if_eq (tgt := 45) dX8_readJoin_26 (by decide) (fun c23 => ?_) (fun c23 => ?_)
  · refine q_aload_n 0 dX8_readJoin_45 rfl ?_
    refine q_iload_n 1 dX8_readJoin_46 rfl ?_
    refine q_iconst (x := (1 : Int32)) dX8_readJoin_47 rfl ?_
    refine q_cVM (Y2 := Y_X8_stop) (As := [.int a1, .int (1 : Int32)]) (b := a0) (st := []) cl_X8 mv_X8_stop qw_656 dX8_readJoin_48 ⟨Nat.le_of_ble_eq_true rfl, Nat.le_of_ble_eq_true rfl⟩ rfl (fun _ _ => rfl) (Nat.le_of_ble_eq_true rfl) ⟨Nat.le_of_ble_eq_true rfl, Nat.le_of_ble_eq_true rfl⟩ (fun M13 h11 => q_ob_is h11) (fun M13 h11 => m_X8_stop h11) (fun M13 h11 => ?_)
    exact q_vret dX8_readJoin_51 rfl rfl (Nat.le_of_ble_eq_true rfl) rfl
  · refine q_iload_n 3 dX8_readJoin_29 rfl ?_
    refine q_iconst (x := (3 : Int32)) dX8_readJoin_30 rfl ?_
    refine q_icmp_ne (tgt := 52) dX8_readJoin_31 (by decide) (fun c22 => ?_) (fun c22 => ?_)
    · refine q_aload_n 0 dX8_readJoin_34 rfl ?_
      refine q_cVI (Y2 := Y_X8_topMark) (As := []) (b := a0) (st := []) cl_X8 mv_X8_topMark qw_664 dX8_readJoin_35 ⟨Nat.le_of_ble_eq_true rfl, Nat.le_of_ble_eq_true rfl⟩ rfl (fun _ _ => rfl) (Nat.le_of_ble_eq_true rfl) ⟨Nat.le_of_ble_eq_true rfl, Nat.le_of_ble_eq_true rfl⟩ (fun v15 h14 => q_ob_is h14) (fun v15 h14 => m_X8_topMark h14) (fun v15 h14 => ?_)
      refine q_cSI (Y2 := Y_X8_rankOf) (As := [.int v15]) (st := []) ms_X8_rankOf qw_696 dX8_readJoin_38 ⟨Nat.le_of_ble_eq_true rfl, Nat.le_of_ble_eq_true rfl⟩ rfl (fun _ _ => rfl) (Nat.le_of_ble_eq_true rfl) ⟨Nat.le_of_ble_eq_true rfl, Nat.le_of_ble_eq_true rfl⟩ (fun v17 h16 => m_X8_rankOf h16) (fun v17 h16 => ?_)
      refine q_iconst (x := (3 : Int32)) dX8_readJoin_41 rfl ?_
      refine q_icmp_ne (tgt := 52) dX8_readJoin_42 (by decide) (fun c21 => ?_) (fun c21 => ?_)
      · refine q_aload_n 0 dX8_readJoin_45 rfl ?_
        refine q_iload_n 1 dX8_readJoin_46 rfl ?_
        refine q_iconst (x := (1 : Int32)) dX8_readJoin_47 rfl ?_
        refine q_cVM (Y2 := Y_X8_stop) (As := [.int a1, .int (1 : Int32)]) (b := a0) (st := []) cl_X8 mv_X8_stop qw_656 dX8_readJoin_48 ⟨Nat.le_of_ble_eq_true rfl, Nat.le_of_ble_eq_true rfl⟩ rfl (fun _ _ => rfl) (Nat.le_of_ble_eq_true rfl) ⟨Nat.le_of_ble_eq_true rfl, Nat.le_of_ble_eq_true rfl⟩ (fun M20 h18 => q_ob_is h18) (fun M20 h18 => m_X8_stop h18) (fun M20 h18 => ?_)
        exact q_vret dX8_readJoin_51 rfl rfl (Nat.le_of_ble_eq_true rfl) rfl
      · refine q_sub (ls' := [(0, .ref a0), (2, .int a2)]) [0, 2] rfl ?_
        exact v_X8_readJoin_b52
    · refine q_sub (ls' := [(0, .ref a0), (2, .int a2)]) [0, 2] rfl ?_
      exact v_X8_readJoin_b52
set_option maxRecDepth 20000 in
theorem m_X8_readJoin {M : q_Mem} {a0 : Nat} {a1 : Int32} {a2 : Int32} {x : q_Mem} (h : f_X8_readJoin M a0 a1 a2 = some x) : q_C Y_X8_readJoin [.ref a0, .int a1, .int a2] M none x := by
  refine q_met (φ := (fun x : q_Mem => (none, x))) (r := f_X8_readJoin M a0 a1 a2) (by decide +kernel) (Nat.le_of_ble_eq_true rfl) ?_ h (fun _ _ => rfl)
  show q_V Y_X8_readJoin none (fun x : q_Mem => (none, x)) 0 0 0 [(0, .ref a0), (1, .int a1), (2, .int a2)] [] M (f_X8_readJoin M a0 a1 a2)
  unfold f_X8_readJoin
  refine q_obV ?_
  refine q_iload_n 2 dX8_readJoin_0 rfl ?_
  refine q_cSI (Y2 := Y_X8_rankOf) (As := [.int a2]) (st := []) ms_X8_rankOf qw_696 dX8_readJoin_1 ⟨Nat.le_of_ble_eq_true rfl, Nat.le_of_ble_eq_true rfl⟩ rfl (fun _ _ => rfl) (Nat.le_of_ble_eq_true rfl) ⟨Nat.le_of_ble_eq_true rfl, Nat.le_of_ble_eq_true rfl⟩ (fun v2 h1 => m_X8_rankOf h1) (fun v2 h1 => ?_)
  refine q_istore_n (ls' := [(3, .int v2), (0, .ref a0), (1, .int a1), (2, .int a2)]) dX8_readJoin_4 (by decide) rfl ?_
  refine q_iload_n 0 dX8_readJoin_5 rfl ?_
  refine q_if_le (tgt := 25) dX8_readJoin_6 (by decide) (fun c10 => ?_) (fun c10 => ?_)
  · refine q_aload_n 1 dX8_readJoin_9 rfl ?_
    refine q_iload_n 0 dX8_readJoin_10 rfl ?_
    refine q_iconst (x := (3 : Int32)) dX8_readJoin_11 rfl ?_
    refine q_icmp_ne (tgt := 21) dX8_readJoin_12 (by decide) (fun c9 => ?_) (fun c9 => ?_)
    · refine q_iload_n 0 dX8_readJoin_15 rfl ?_
      refine q_iconst (x := (1 : Int32)) dX8_readJoin_16 rfl ?_
      refine q_iadd dX8_readJoin_17 ?_
      refine q_goto (tgt := 22) dX8_readJoin_18 (by decide) ?_
      refine q_cVM (Y2 := Y_X8_settle) (As := [.int (v2 + (1 : Int32))]) (b := a0) (st := []) cl_X8 mv_X8_settle qw_692 dX8_readJoin_22 ⟨Nat.le_of_ble_eq_true rfl, Nat.le_of_ble_eq_true rfl⟩ rfl (fun _ _ => rfl) (Nat.le_of_ble_eq_true rfl) ⟨Nat.le_of_ble_eq_true rfl, Nat.le_of_ble_eq_true rfl⟩ (fun M5 h3 => q_ob_is h3) (fun M5 h3 => m_X8_settle h3) (fun M5 h3 => ?_)
      refine q_sub (ls' := [(0, .ref a0), (1, .int a1), (2, .int a2), (3, .int v2)]) [1, 2, 3, 0] rfl ?_
      exact v_X8_readJoin_b25
    · refine q_iload_n 0 dX8_readJoin_21 rfl ?_
      refine q_cVM (Y2 := Y_X8_settle) (As := [.int v2]) (b := a0) (st := []) cl_X8 mv_X8_settle qw_692 dX8_readJoin_22 ⟨Nat.le_of_ble_eq_true rfl, Nat.le_of_ble_eq_true rfl⟩ rfl (fun _ _ => rfl) (Nat.le_of_ble_eq_true rfl) ⟨Nat.le_of_ble_eq_true rfl, Nat.le_of_ble_eq_true rfl⟩ (fun M8 h6 => q_ob_is h6) (fun M8 h6 => m_X8_settle h6) (fun M8 h6 => ?_)
      refine q_sub (ls' := [(0, .ref a0), (1, .int a1), (2, .int a2), (3, .int v2)]) [1, 2, 3, 0] rfl ?_
      exact v_X8_readJoin_b25
  · refine q_sub (ls' := [(0, .ref a0), (1, .int a1), (2, .int a2), (3, .int v2)]) [1, 2, 3, 0] rfl ?_
    exact v_X8_readJoin_b25
theorem dX8_readEnd_0 : decode cX8_readEnd 0 = .ok (.aload_n 0, 1) := by decide +kernel
theorem dX8_readEnd_1 : decode cX8_readEnd 1 = .ok (.getfield 59, 3) := by decide +kernel
theorem dX8_readEnd_4 : decode cX8_readEnd 4 = .ok (.ifCond .ne 7, 3) := by decide +kernel
theorem dX8_readEnd_7 : decode cX8_readEnd 7 = .ok (.aload_n 0, 1) := by decide +kernel
theorem dX8_readEnd_8 : decode cX8_readEnd 8 = .ok (.invokevirtual 104, 3) := by decide +kernel
theorem dX8_readEnd_11 : decode cX8_readEnd 11 = .ok (.aload_n 0, 1) := by decide +kernel
theorem dX8_readEnd_12 : decode cX8_readEnd 12 = .ok (.getfield 59, 3) := by decide +kernel
theorem dX8_readEnd_15 : decode cX8_readEnd 15 = .ok (.ifCond .ne 10, 3) := by decide +kernel
theorem dX8_readEnd_18 : decode cX8_readEnd 18 = .ok (.aload_n 0, 1) := by decide +kernel
theorem dX8_readEnd_19 : decode cX8_readEnd 19 = .ok (.getfield 50, 3) := by decide +kernel
theorem dX8_readEnd_22 : decode cX8_readEnd 22 = .ok (.ifCond .le 15, 3) := by decide +kernel
theorem dX8_readEnd_25 : decode cX8_readEnd 25 = .ok (.aload_n 0, 1) := by decide +kernel
theorem dX8_readEnd_26 : decode cX8_readEnd 26 = .ok (.aload_n 0, 1) := by decide +kernel
theorem dX8_readEnd_27 : decode cX8_readEnd 27 = .ok (.getfield 43, 3) := by decide +kernel
theorem dX8_readEnd_30 : decode cX8_readEnd 30 = .ok (.iconst 1, 1) := by decide +kernel
theorem dX8_readEnd_31 : decode cX8_readEnd 31 = .ok (.invokevirtual 107, 3) := by decide +kernel
theorem dX8_readEnd_34 : decode cX8_readEnd 34 = .ok (.goto 11, 3) := by decide +kernel
theorem dX8_readEnd_37 : decode cX8_readEnd 37 = .ok (.aload_n 0, 1) := by decide +kernel
theorem dX8_readEnd_38 : decode cX8_readEnd 38 = .ok (.aload_n 0, 1) := by decide +kernel
theorem dX8_readEnd_39 : decode cX8_readEnd 39 = .ok (.invokevirtual 110, 3) := by decide +kernel
theorem dX8_readEnd_42 : decode cX8_readEnd 42 = .ok (.putfield 69, 3) := by decide +kernel
theorem dX8_readEnd_45 : decode cX8_readEnd 45 = .ok (.return_, 1) := by decide +kernel
def f_X8_readEnd_b25 (M : q_Mem) (a0 : Nat) : Option q_Mem :=
  (q_gI 7 1 M a0).bind fun v17 =>
  (f_X8_stop M a0 v17 (1 : Int32)).bind fun M21 =>
  some M21
def f_X8_readEnd_b11 (M : q_Mem) (a0 : Nat) : Option q_Mem :=
  (q_gI 7 10 M a0).bind fun v7 =>
  (if v7 = 0 then
    (q_gI 7 7 M a0).bind fun v9 =>
    (if 0 < v9 then
      f_X8_readEnd_b25 M a0
    else
      (f_X8_popValue M a0).bind fun r12 =>
      (q_pJ 7 13 r12.2 a0 r12.1).bind fun M13 =>
      some M13)
  else
    f_X8_readEnd_b25 M a0)
def f_X8_readEnd (M : q_Mem) (a0 : Nat) : Option q_Mem :=
  q_ob 7 M a0 ((q_gI 7 10 M a0).bind fun v1 =>
  (if v1 = 0 then
    (f_X8_endChoices M a0).bind fun M5 =>
    f_X8_readEnd_b11 M5 a0
  else
    f_X8_readEnd_b11 M a0))
set_option maxRecDepth 20000 in
theorem v_X8_readEnd_b25 {M : q_Mem} {a0 : Nat}  : q_V Y_X8_readEnd none (fun x : q_Mem => (none, x)) 0 0 25 [(0, .ref a0)] [] M (f_X8_readEnd_b25 M a0 ) := by
  unfold f_X8_readEnd_b25
  refine q_aload_n 0 dX8_readEnd_25 rfl ?_
  refine q_aload_n 0 dX8_readEnd_26 rfl ?_
  refine q_getI (f := 1) cl_X8 (by decide) qw_194 rfl dX8_readEnd_27 (Or.inl rfl) (fun v17 h18 => ?_)
  refine q_iconst (x := (1 : Int32)) dX8_readEnd_30 rfl ?_
  refine q_cVM (Y2 := Y_X8_stop) (As := [.int v17, .int (1 : Int32)]) (b := a0) (st := []) cl_X8 mv_X8_stop qw_656 dX8_readEnd_31 ⟨Nat.le_of_ble_eq_true rfl, Nat.le_of_ble_eq_true rfl⟩ rfl (fun _ _ => rfl) (Nat.le_of_ble_eq_true rfl) ⟨Nat.le_of_ble_eq_true rfl, Nat.le_of_ble_eq_true rfl⟩ (fun M21 h19 => q_ob_is h19) (fun M21 h19 => m_X8_stop h19) (fun M21 h19 => ?_)
  refine q_goto (tgt := 45) dX8_readEnd_34 (by decide) ?_
  exact q_vret dX8_readEnd_45 rfl rfl (Nat.le_of_ble_eq_true rfl) rfl
set_option maxRecDepth 20000 in
theorem v_X8_readEnd_b11 {M : q_Mem} {a0 : Nat}  : q_V Y_X8_readEnd none (fun x : q_Mem => (none, x)) 0 0 11 [(0, .ref a0)] [] M (f_X8_readEnd_b11 M a0 ) := by
  unfold f_X8_readEnd_b11
  refine q_aload_n 0 dX8_readEnd_11 rfl ?_
  refine q_getI (f := 10) cl_X8 (by decide) qw_203 rfl dX8_readEnd_12 (Or.inr rfl) (fun v7 h8 => ?_)
  refine q_if_ne (tgt := 25) dX8_readEnd_15 (by decide) (fun c16 => ?_) (fun c16 => ?_)
  · refine q_aload_n 0 dX8_readEnd_18 rfl ?_
    refine q_getI (f := 7) cl_X8 (by decide) qw_200 rfl dX8_readEnd_19 (Or.inl rfl) (fun v9 h10 => ?_)
    refine q_if_le (tgt := 37) dX8_readEnd_22 (by decide) (fun c15 => ?_) (fun c15 => ?_)
    · exact v_X8_readEnd_b25
    · refine q_aload_n 0 dX8_readEnd_37 rfl ?_
      refine q_aload_n 0 dX8_readEnd_38 rfl ?_
      refine q_cVMJ (Y2 := Y_X8_popValue) (As := []) (b := a0) (st := [.ref a0]) cl_X8 mv_X8_popValue qw_699 dX8_readEnd_39 ⟨Nat.le_of_ble_eq_true rfl, Nat.le_of_ble_eq_true rfl⟩ rfl (fun _ _ => rfl) (Nat.le_of_ble_eq_true rfl) ⟨Nat.le_of_ble_eq_true rfl, Nat.le_of_ble_eq_true rfl⟩ (fun r12 h11 => q_ob_is h11) (fun r12 h11 => m_X8_popValue h11) (fun r12 h11 => ?_)
      refine q_putJ (f := 13) cl_X8 (by decide) qw_208 rfl (Or.inl rfl) dX8_readEnd_42 rfl (fun M13 h14 => ?_)
      exact q_vret dX8_readEnd_45 rfl rfl (Nat.le_of_ble_eq_true rfl) rfl
  · exact v_X8_readEnd_b25
set_option maxRecDepth 20000 in
theorem m_X8_readEnd {M : q_Mem} {a0 : Nat} {x : q_Mem} (h : f_X8_readEnd M a0 = some x) : q_C Y_X8_readEnd [.ref a0] M none x := by
  refine q_met (φ := (fun x : q_Mem => (none, x))) (r := f_X8_readEnd M a0) (by decide +kernel) (Nat.le_of_ble_eq_true rfl) ?_ h (fun _ _ => rfl)
  show q_V Y_X8_readEnd none (fun x : q_Mem => (none, x)) 0 0 0 [(0, .ref a0)] [] M (f_X8_readEnd M a0)
  unfold f_X8_readEnd
  refine q_obV ?_
  refine q_aload_n 0 dX8_readEnd_0 rfl ?_
  refine q_getI (f := 10) cl_X8 (by decide) qw_203 rfl dX8_readEnd_1 (Or.inr rfl) (fun v1 h2 => ?_)
  refine q_if_ne (tgt := 11) dX8_readEnd_4 (by decide) (fun c6 => ?_) (fun c6 => ?_)
  · refine q_aload_n 0 dX8_readEnd_7 rfl ?_
    refine q_cVM (Y2 := Y_X8_endChoices) (As := []) (b := a0) (st := []) cl_X8 mv_X8_endChoices qw_711 dX8_readEnd_8 ⟨Nat.le_of_ble_eq_true rfl, Nat.le_of_ble_eq_true rfl⟩ rfl (fun _ _ => rfl) (Nat.le_of_ble_eq_true rfl) ⟨Nat.le_of_ble_eq_true rfl, Nat.le_of_ble_eq_true rfl⟩ (fun M5 h3 => q_ob_is h3) (fun M5 h3 => m_X8_endChoices h3) (fun M5 h3 => ?_)
    exact v_X8_readEnd_b11
  · exact v_X8_readEnd_b11
theorem dX8_read_0 : decode cX8_read 0 = .ok (.aload_n 0, 1) := by decide +kernel
theorem dX8_read_1 : decode cX8_read 1 = .ok (.iconst 0, 1) := by decide +kernel
theorem dX8_read_2 : decode cX8_read 2 = .ok (.putfield 47, 3) := by decide +kernel
theorem dX8_read_5 : decode cX8_read 5 = .ok (.aload_n 0, 1) := by decide +kernel
theorem dX8_read_6 : decode cX8_read 6 = .ok (.iconst 0, 1) := by decide +kernel
theorem dX8_read_7 : decode cX8_read 7 = .ok (.putfield 50, 3) := by decide +kernel
theorem dX8_read_10 : decode cX8_read 10 = .ok (.aload_n 0, 1) := by decide +kernel
theorem dX8_read_11 : decode cX8_read 11 = .ok (.iconst 0, 1) := by decide +kernel
theorem dX8_read_12 : decode cX8_read 12 = .ok (.putfield 53, 3) := by decide +kernel
theorem dX8_read_15 : decode cX8_read 15 = .ok (.aload_n 0, 1) := by decide +kernel
theorem dX8_read_16 : decode cX8_read 16 = .ok (.iconst 0, 1) := by decide +kernel
theorem dX8_read_17 : decode cX8_read 17 = .ok (.putfield 56, 3) := by decide +kernel
theorem dX8_read_20 : decode cX8_read 20 = .ok (.aload_n 0, 1) := by decide +kernel
theorem dX8_read_21 : decode cX8_read 21 = .ok (.iconst 1, 1) := by decide +kernel
theorem dX8_read_22 : decode cX8_read 22 = .ok (.putfield 59, 3) := by decide +kernel
theorem dX8_read_25 : decode cX8_read 25 = .ok (.aload_n 0, 1) := by decide +kernel
theorem dX8_read_26 : decode cX8_read 26 = .ok (.iconst (-1), 1) := by decide +kernel
theorem dX8_read_27 : decode cX8_read 27 = .ok (.putfield 63, 3) := by decide +kernel
theorem dX8_read_30 : decode cX8_read 30 = .ok (.aload_n 0, 1) := by decide +kernel
theorem dX8_read_31 : decode cX8_read 31 = .ok (.iconst 0, 1) := by decide +kernel
theorem dX8_read_32 : decode cX8_read 32 = .ok (.putfield 66, 3) := by decide +kernel
theorem dX8_read_35 : decode cX8_read 35 = .ok (.aload_n 0, 1) := by decide +kernel
theorem dX8_read_36 : decode cX8_read 36 = .ok (.lconst 0, 1) := by decide +kernel
theorem dX8_read_37 : decode cX8_read 37 = .ok (.putfield 69, 3) := by decide +kernel
theorem dX8_read_40 : decode cX8_read 40 = .ok (.iconst 0, 1) := by decide +kernel
theorem dX8_read_41 : decode cX8_read 41 = .ok (.istore_n 1, 1) := by decide +kernel
theorem dX8_read_42 : decode cX8_read 42 = .ok (.iconst 0, 1) := by decide +kernel
theorem dX8_read_43 : decode cX8_read 43 = .ok (.istore_n 2, 1) := by decide +kernel
theorem dX8_read_44 : decode cX8_read 44 = .ok (.iload_n 2, 1) := by decide +kernel
theorem dX8_read_45 : decode cX8_read 45 = .ok (.aload_n 0, 1) := by decide +kernel
theorem dX8_read_46 : decode cX8_read 46 = .ok (.getfield 43, 3) := by decide +kernel
theorem dX8_read_49 : decode cX8_read 49 = .ok (.if_icmp .ge 123, 3) := by decide +kernel
theorem dX8_read_52 : decode cX8_read 52 = .ok (.aload_n 0, 1) := by decide +kernel
theorem dX8_read_53 : decode cX8_read 53 = .ok (.getfield 63, 3) := by decide +kernel
theorem dX8_read_56 : decode cX8_read 56 = .ok (.iconst (-1), 1) := by decide +kernel
theorem dX8_read_57 : decode cX8_read 57 = .ok (.if_icmp .ne 115, 3) := by decide +kernel
theorem dX8_read_60 : decode cX8_read 60 = .ok (.aload_n 0, 1) := by decide +kernel
theorem dX8_read_61 : decode cX8_read 61 = .ok (.iload_n 2, 1) := by decide +kernel
theorem dX8_read_62 : decode cX8_read 62 = .ok (.invokevirtual 73, 3) := by decide +kernel
theorem dX8_read_65 : decode cX8_read 65 = .ok (.istore_n 3, 1) := by decide +kernel
theorem dX8_read_66 : decode cX8_read 66 = .ok (.iload_n 2, 1) := by decide +kernel
theorem dX8_read_67 : decode cX8_read 67 = .ok (.iload_n 1, 1) := by decide +kernel
theorem dX8_read_68 : decode cX8_read 68 = .ok (.if_icmp .lt 98, 3) := by decide +kernel
theorem dX8_read_71 : decode cX8_read 71 = .ok (.iload_n 3, 1) := by decide +kernel
theorem dX8_read_72 : decode cX8_read 72 = .ok (.bipush 32, 2) := by decide +kernel
theorem dX8_read_74 : decode cX8_read 74 = .ok (.if_icmp .ne 6, 3) := by decide +kernel
theorem dX8_read_77 : decode cX8_read 77 = .ok (.goto 89, 3) := by decide +kernel
theorem dX8_read_80 : decode cX8_read 80 = .ok (.aload_n 0, 1) := by decide +kernel
theorem dX8_read_81 : decode cX8_read 81 = .ok (.getfield 59, 3) := by decide +kernel
theorem dX8_read_84 : decode cX8_read 84 = .ok (.ifCond .eq 19, 3) := by decide +kernel
theorem dX8_read_87 : decode cX8_read 87 = .ok (.iload_n 3, 1) := by decide +kernel
theorem dX8_read_88 : decode cX8_read 88 = .ok (.invokestatic 77, 3) := by decide +kernel
theorem dX8_read_91 : decode cX8_read 91 = .ok (.ifCond .eq 12, 3) := by decide +kernel
theorem dX8_read_94 : decode cX8_read 94 = .ok (.aload_n 0, 1) := by decide +kernel
theorem dX8_read_95 : decode cX8_read 95 = .ok (.iload_n 2, 1) := by decide +kernel
theorem dX8_read_96 : decode cX8_read 96 = .ok (.invokevirtual 81, 3) := by decide +kernel
theorem dX8_read_99 : decode cX8_read 99 = .ok (.istore_n 1, 1) := by decide +kernel
theorem dX8_read_100 : decode cX8_read 100 = .ok (.goto 66, 3) := by decide +kernel
theorem dX8_read_103 : decode cX8_read 103 = .ok (.aload_n 0, 1) := by decide +kernel
theorem dX8_read_104 : decode cX8_read 104 = .ok (.getfield 59, 3) := by decide +kernel
theorem dX8_read_107 : decode cX8_read 107 = .ok (.ifCond .eq 12, 3) := by decide +kernel
theorem dX8_read_110 : decode cX8_read 110 = .ok (.aload_n 0, 1) := by decide +kernel
theorem dX8_read_111 : decode cX8_read 111 = .ok (.iload_n 2, 1) := by decide +kernel
theorem dX8_read_112 : decode cX8_read 112 = .ok (.iload_n 3, 1) := by decide +kernel
theorem dX8_read_113 : decode cX8_read 113 = .ok (.invokevirtual 84, 3) := by decide +kernel
theorem dX8_read_116 : decode cX8_read 116 = .ok (.goto 50, 3) := by decide +kernel
theorem dX8_read_119 : decode cX8_read 119 = .ok (.iload_n 3, 1) := by decide +kernel
theorem dX8_read_120 : decode cX8_read 120 = .ok (.bipush 63, 2) := by decide +kernel
theorem dX8_read_122 : decode cX8_read 122 = .ok (.if_icmp .ne 10, 3) := by decide +kernel
theorem dX8_read_125 : decode cX8_read 125 = .ok (.aload_n 0, 1) := by decide +kernel
theorem dX8_read_126 : decode cX8_read 126 = .ok (.invokevirtual 88, 3) := by decide +kernel
theorem dX8_read_129 : decode cX8_read 129 = .ok (.goto 37, 3) := by decide +kernel
theorem dX8_read_132 : decode cX8_read 132 = .ok (.iload_n 3, 1) := by decide +kernel
theorem dX8_read_133 : decode cX8_read 133 = .ok (.bipush 58, 2) := by decide +kernel
theorem dX8_read_135 : decode cX8_read 135 = .ok (.if_icmp .ne 11, 3) := by decide +kernel
theorem dX8_read_138 : decode cX8_read 138 = .ok (.aload_n 0, 1) := by decide +kernel
theorem dX8_read_139 : decode cX8_read 139 = .ok (.iload_n 2, 1) := by decide +kernel
theorem dX8_read_140 : decode cX8_read 140 = .ok (.invokevirtual 91, 3) := by decide +kernel
theorem dX8_read_143 : decode cX8_read 143 = .ok (.goto 23, 3) := by decide +kernel
theorem dX8_read_146 : decode cX8_read 146 = .ok (.iload_n 3, 1) := by decide +kernel
theorem dX8_read_147 : decode cX8_read 147 = .ok (.bipush 41, 2) := by decide +kernel
theorem dX8_read_149 : decode cX8_read 149 = .ok (.if_icmp .ne 11, 3) := by decide +kernel
theorem dX8_read_152 : decode cX8_read 152 = .ok (.aload_n 0, 1) := by decide +kernel
theorem dX8_read_153 : decode cX8_read 153 = .ok (.iload_n 2, 1) := by decide +kernel
theorem dX8_read_154 : decode cX8_read 154 = .ok (.invokevirtual 95, 3) := by decide +kernel
theorem dX8_read_157 : decode cX8_read 157 = .ok (.goto 9, 3) := by decide +kernel
theorem dX8_read_160 : decode cX8_read 160 = .ok (.aload_n 0, 1) := by decide +kernel
theorem dX8_read_161 : decode cX8_read 161 = .ok (.iload_n 2, 1) := by decide +kernel
theorem dX8_read_162 : decode cX8_read 162 = .ok (.iload_n 3, 1) := by decide +kernel
theorem dX8_read_163 : decode cX8_read 163 = .ok (.invokevirtual 98, 3) := by decide +kernel
theorem dX8_read_166 : decode cX8_read 166 = .ok (.iinc 2 1, 3) := by decide +kernel
theorem dX8_read_169 : decode cX8_read 169 = .ok (.goto (-125), 3) := by decide +kernel
theorem dX8_read_172 : decode cX8_read 172 = .ok (.aload_n 0, 1) := by decide +kernel
theorem dX8_read_173 : decode cX8_read 173 = .ok (.getfield 63, 3) := by decide +kernel
theorem dX8_read_176 : decode cX8_read 176 = .ok (.iconst (-1), 1) := by decide +kernel
theorem dX8_read_177 : decode cX8_read 177 = .ok (.if_icmp .ne 7, 3) := by decide +kernel
theorem dX8_read_180 : decode cX8_read 180 = .ok (.aload_n 0, 1) := by decide +kernel
theorem dX8_read_181 : decode cX8_read 181 = .ok (.invokevirtual 101, 3) := by decide +kernel
theorem dX8_read_184 : decode cX8_read 184 = .ok (.aload_n 0, 1) := by decide +kernel
theorem dX8_read_185 : decode cX8_read 185 = .ok (.getfield 63, 3) := by decide +kernel
theorem dX8_read_188 : decode cX8_read 188 = .ok (.ireturn, 1) := by decide +kernel
def f_X8_read_b172 (M : q_Mem) (a0 : Nat) : Option (Int32 × q_Mem) :=
  (q_gI 7 11 M a0).bind fun v56 =>
  (if v56 = (-1 : Int32) then
    (f_X8_readEnd M a0).bind fun M60 =>
    (q_gI 7 11 M60 a0).bind fun v61 =>
    some (v61, M60)
  else
    (q_gI 7 11 M a0).bind fun v63 =>
    some (v63, M))
def f_X8_read_b103 (kk44 : Int32 → Int32 → q_Mem → Option (Int32 × q_Mem)) (M : q_Mem) (a0 : Nat) (a1 : Int32) (a2 : Int32) (a3 : Int32) : Option (Int32 × q_Mem) :=
  (q_gI 7 10 M a0).bind fun v35 =>
  (if v35 = 0 then
    (if a3 = (63 : Int32) then
      (f_X8_readQuestion M a0).bind fun M39 =>
      kk44 a1 (a2 + (1 : Int32)) M39
    else
      (if a3 = (58 : Int32) then
        (f_X8_readElse M a0 a2).bind fun M42 =>
        kk44 a1 (a2 + (1 : Int32)) M42
      else
        (if a3 = (41 : Int32) then
          (f_X8_readClose M a0 a2).bind fun M45 =>
          kk44 a1 (a2 + (1 : Int32)) M45
        else
          (f_X8_readJoin M a0 a2 a3).bind fun M48 =>
          kk44 a1 (a2 + (1 : Int32)) M48)))
  else
    (f_X8_readUnit M a0 a2 a3).bind fun M54 =>
    kk44 a1 (a2 + (1 : Int32)) M54)
def f_X8_read_b44 (a0 : Nat) : Nat → Int32 → Int32 → q_Mem → Option (Int32 × q_Mem)
  | 0, _, _, _ => none
  | n + 1, a1, a2, M =>
    (q_gI 7 1 M a0).bind fun v17 =>
    (if a2 < v17 then
      (q_gI 7 11 M a0).bind fun v19 =>
      (if v19 = (-1 : Int32) then
        (f_X8_signAt M a0 a2).bind fun v22 =>
        (if a2 < a1 then
          f_X8_read_b44 a0 n a1 (a2 + (1 : Int32)) M
        else
          (if v22 = (32 : Int32) then
            f_X8_read_b44 a0 n a1 (a2 + (1 : Int32)) M
          else
            (q_gI 7 10 M a0).bind fun v23 =>
            (if v23 = 0 then
              f_X8_read_b103 (f_X8_read_b44 a0 n) M a0 a1 a2 v22
            else
              (f_X8_isDigit M v22).bind fun v26 =>
              (if v26 = 0 then
                f_X8_read_b103 (f_X8_read_b44 a0 n) M a0 a1 a2 v22
              else
                (f_X8_readNumber M a0 a2).bind fun r28 =>
                f_X8_read_b44 a0 n r28.1 (a2 + (1 : Int32)) r28.2))))
      else
        f_X8_read_b172 M a0)
    else
      f_X8_read_b172 M a0)
def f_X8_read (M : q_Mem) (a0 : Nat) : Option (Int32 × q_Mem) :=
  q_ob 7 M a0 ((q_pI 7 4 M a0 (0 : Int32)).bind fun M1 =>
  (q_pI 7 7 M1 a0 (0 : Int32)).bind fun M3 =>
  (q_pI 7 8 M3 a0 (0 : Int32)).bind fun M5 =>
  (q_pI 7 9 M5 a0 (0 : Int32)).bind fun M7 =>
  (q_pZ 7 10 M7 a0 (1 : Int32)).bind fun M9 =>
  (q_pI 7 11 M9 a0 (-1 : Int32)).bind fun M11 =>
  (q_pZ 7 12 M11 a0 (0 : Int32)).bind fun M13 =>
  (q_pJ 7 13 M13 a0 (0 : Int64)).bind fun M15 =>
  f_X8_read_b44 a0 q_fuel (0 : Int32) (0 : Int32) M15)
set_option maxRecDepth 20000 in
theorem v_X8_read_b172 {M : q_Mem} {a0 : Nat}  : q_V Y_X8_read none (fun x : Int32 × q_Mem => (some (.int x.1), x.2)) 0 0 172 [(0, .ref a0)] [] M (f_X8_read_b172 M a0 ) := by
  unfold f_X8_read_b172
  refine q_aload_n 0 dX8_read_172 rfl ?_
  refine q_getI (f := 11) cl_X8 (by decide) qw_204 rfl dX8_read_173 (Or.inl rfl) (fun v56 h57 => ?_)
  refine q_iconst (x := (-1 : Int32)) dX8_read_176 rfl ?_
  refine q_icmp_ne (tgt := 184) dX8_read_177 (by decide) (fun c65 => ?_) (fun c65 => ?_)
  · refine q_aload_n 0 dX8_read_180 rfl ?_
    refine q_cVM (Y2 := Y_X8_readEnd) (As := []) (b := a0) (st := []) cl_X8 mv_X8_readEnd qw_727 dX8_read_181 ⟨Nat.le_of_ble_eq_true rfl, Nat.le_of_ble_eq_true rfl⟩ rfl (fun _ _ => rfl) (Nat.le_of_ble_eq_true rfl) ⟨Nat.le_of_ble_eq_true rfl, Nat.le_of_ble_eq_true rfl⟩ (fun M60 h58 => q_ob_is h58) (fun M60 h58 => m_X8_readEnd h58) (fun M60 h58 => ?_)
    refine q_aload_n 0 dX8_read_184 rfl ?_
    refine q_getI (f := 11) cl_X8 (by decide) qw_204 rfl dX8_read_185 (Or.inl rfl) (fun v61 h62 => ?_)
    exact q_iret dX8_read_188 rfl rfl (Nat.le_of_ble_eq_true rfl) rfl
  · refine q_aload_n 0 dX8_read_184 rfl ?_
    refine q_getI (f := 11) cl_X8 (by decide) qw_204 rfl dX8_read_185 (Or.inl rfl) (fun v63 h64 => ?_)
    exact q_iret dX8_read_188 rfl rfl (Nat.le_of_ble_eq_true rfl) rfl
set_option maxRecDepth 20000 in
theorem v_X8_read_b103 {kk44 : Int32 → Int32 → q_Mem → Option (Int32 × q_Mem)} {M : q_Mem} {a0 : Nat} {a1 : Int32} {a2 : Int32} {a3 : Int32}  (hk44 : ∀ (a1 : Int32) (a2 : Int32) (M : q_Mem), q_V Y_X8_read none (fun x : Int32 × q_Mem => (some (.int x.1), x.2)) 0 0 44 [(0, .ref a0), (1, .int a1), (2, .int a2)] [] M (kk44 a1 a2 M)): q_V Y_X8_read none (fun x : Int32 × q_Mem => (some (.int x.1), x.2)) 0 0 103 [(0, .ref a0), (1, .int a1), (2, .int a2), (3, .int a3)] [] M (f_X8_read_b103 kk44 M a0 a1 a2 a3 ) := by
  unfold f_X8_read_b103
  refine q_aload_n 0 dX8_read_103 rfl ?_
  refine q_getI (f := 10) cl_X8 (by decide) qw_203 rfl dX8_read_104 (Or.inr rfl) (fun v35 h36 => ?_)
  refine q_if_eq (tgt := 119) dX8_read_107 (by decide) (fun c55 => ?_) (fun c55 => ?_)
  · refine q_iload_n 3 dX8_read_119 rfl ?_
    refine q_bipush (x := (63 : Int32)) dX8_read_120 rfl ?_
    refine q_icmp_ne (tgt := 132) dX8_read_122 (by decide) (fun c51 => ?_) (fun c51 => ?_)
    · refine q_aload_n 0 dX8_read_125 rfl ?_
      refine q_cVM (Y2 := Y_X8_readQuestion) (As := []) (b := a0) (st := []) cl_X8 mv_X8_readQuestion qw_688 dX8_read_126 ⟨Nat.le_of_ble_eq_true rfl, Nat.le_of_ble_eq_true rfl⟩ rfl (fun _ _ => rfl) (Nat.le_of_ble_eq_true rfl) ⟨Nat.le_of_ble_eq_true rfl, Nat.le_of_ble_eq_true rfl⟩ (fun M39 h37 => q_ob_is h37) (fun M39 h37 => m_X8_readQuestion h37) (fun M39 h37 => ?_)
      refine q_goto (tgt := 166) dX8_read_129 (by decide) ?_
      refine q_iinc 2 (y := (a2 + (1 : Int32))) (ls' := [(2, .int (a2 + (1 : Int32))), (0, .ref a0), (1, .int a1), (3, .int a3)]) dX8_read_166 rfl rfl (by decide) rfl ?_
      refine q_goto (tgt := 44) dX8_read_169 (by decide) ?_
      refine q_sub (ls' := [(0, .ref a0), (1, .int a1), (2, .int (a2 + (1 : Int32)))]) [1, 2, 0] rfl ?_
      exact hk44 _ _ _
    · refine q_iload_n 3 dX8_read_132 rfl ?_
      refine q_bipush (x := (58 : Int32)) dX8_read_133 rfl ?_
      refine q_icmp_ne (tgt := 146) dX8_read_135 (by decide) (fun c50 => ?_) (fun c50 => ?_)
      · refine q_aload_n 0 dX8_read_138 rfl ?_
        refine q_iload_n 2 dX8_read_139 rfl ?_
        refine q_cVM (Y2 := Y_X8_readElse) (As := [.int a2]) (b := a0) (st := []) cl_X8 mv_X8_readElse qw_707 dX8_read_140 ⟨Nat.le_of_ble_eq_true rfl, Nat.le_of_ble_eq_true rfl⟩ rfl (fun _ _ => rfl) (Nat.le_of_ble_eq_true rfl) ⟨Nat.le_of_ble_eq_true rfl, Nat.le_of_ble_eq_true rfl⟩ (fun M42 h40 => q_ob_is h40) (fun M42 h40 => m_X8_readElse h40) (fun M42 h40 => ?_)
        refine q_goto (tgt := 166) dX8_read_143 (by decide) ?_
        refine q_iinc 2 (y := (a2 + (1 : Int32))) (ls' := [(2, .int (a2 + (1 : Int32))), (0, .ref a0), (1, .int a1), (3, .int a3)]) dX8_read_166 rfl rfl (by decide) rfl ?_
        refine q_goto (tgt := 44) dX8_read_169 (by decide) ?_
        refine q_sub (ls' := [(0, .ref a0), (1, .int a1), (2, .int (a2 + (1 : Int32)))]) [1, 2, 0] rfl ?_
        exact hk44 _ _ _
      · refine q_iload_n 3 dX8_read_146 rfl ?_
        refine q_bipush (x := (41 : Int32)) dX8_read_147 rfl ?_
        refine q_icmp_ne (tgt := 160) dX8_read_149 (by decide) (fun c49 => ?_) (fun c49 => ?_)
        · refine q_aload_n 0 dX8_read_152 rfl ?_
          refine q_iload_n 2 dX8_read_153 rfl ?_
          refine q_cVM (Y2 := Y_X8_readClose) (As := [.int a2]) (b := a0) (st := []) cl_X8 mv_X8_readClose qw_715 dX8_read_154 ⟨Nat.le_of_ble_eq_true rfl, Nat.le_of_ble_eq_true rfl⟩ rfl (fun _ _ => rfl) (Nat.le_of_ble_eq_true rfl) ⟨Nat.le_of_ble_eq_true rfl, Nat.le_of_ble_eq_true rfl⟩ (fun M45 h43 => q_ob_is h43) (fun M45 h43 => m_X8_readClose h43) (fun M45 h43 => ?_)
          refine q_goto (tgt := 166) dX8_read_157 (by decide) ?_
          refine q_iinc 2 (y := (a2 + (1 : Int32))) (ls' := [(2, .int (a2 + (1 : Int32))), (0, .ref a0), (1, .int a1), (3, .int a3)]) dX8_read_166 rfl rfl (by decide) rfl ?_
          refine q_goto (tgt := 44) dX8_read_169 (by decide) ?_
          refine q_sub (ls' := [(0, .ref a0), (1, .int a1), (2, .int (a2 + (1 : Int32)))]) [1, 2, 0] rfl ?_
          exact hk44 _ _ _
        · refine q_aload_n 0 dX8_read_160 rfl ?_
          refine q_iload_n 2 dX8_read_161 rfl ?_
          refine q_iload_n 3 dX8_read_162 rfl ?_
          refine q_cVM (Y2 := Y_X8_readJoin) (As := [.int a2, .int a3]) (b := a0) (st := []) cl_X8 mv_X8_readJoin qw_719 dX8_read_163 ⟨Nat.le_of_ble_eq_true rfl, Nat.le_of_ble_eq_true rfl⟩ rfl (fun _ _ => rfl) (Nat.le_of_ble_eq_true rfl) ⟨Nat.le_of_ble_eq_true rfl, Nat.le_of_ble_eq_true rfl⟩ (fun M48 h46 => q_ob_is h46) (fun M48 h46 => m_X8_readJoin h46) (fun M48 h46 => ?_)
          refine q_iinc 2 (y := (a2 + (1 : Int32))) (ls' := [(2, .int (a2 + (1 : Int32))), (0, .ref a0), (1, .int a1), (3, .int a3)]) dX8_read_166 rfl rfl (by decide) rfl ?_
          refine q_goto (tgt := 44) dX8_read_169 (by decide) ?_
          refine q_sub (ls' := [(0, .ref a0), (1, .int a1), (2, .int (a2 + (1 : Int32)))]) [1, 2, 0] rfl ?_
          exact hk44 _ _ _
  · refine q_aload_n 0 dX8_read_110 rfl ?_
    refine q_iload_n 2 dX8_read_111 rfl ?_
    refine q_iload_n 3 dX8_read_112 rfl ?_
    refine q_cVM (Y2 := Y_X8_readUnit) (As := [.int a2, .int a3]) (b := a0) (st := []) cl_X8 mv_X8_readUnit qw_677 dX8_read_113 ⟨Nat.le_of_ble_eq_true rfl, Nat.le_of_ble_eq_true rfl⟩ rfl (fun _ _ => rfl) (Nat.le_of_ble_eq_true rfl) ⟨Nat.le_of_ble_eq_true rfl, Nat.le_of_ble_eq_true rfl⟩ (fun M54 h52 => q_ob_is h52) (fun M54 h52 => m_X8_readUnit h52) (fun M54 h52 => ?_)
    refine q_goto (tgt := 166) dX8_read_116 (by decide) ?_
    refine q_iinc 2 (y := (a2 + (1 : Int32))) (ls' := [(2, .int (a2 + (1 : Int32))), (0, .ref a0), (1, .int a1), (3, .int a3)]) dX8_read_166 rfl rfl (by decide) rfl ?_
    refine q_goto (tgt := 44) dX8_read_169 (by decide) ?_
    refine q_sub (ls' := [(0, .ref a0), (1, .int a1), (2, .int (a2 + (1 : Int32)))]) [1, 2, 0] rfl ?_
    exact hk44 _ _ _
set_option maxRecDepth 20000 in
theorem v_X8_read_b44 {a0 : Nat}  : ∀ (n : Nat) (a1 : Int32) (a2 : Int32) (M : q_Mem), q_V Y_X8_read none (fun x : Int32 × q_Mem => (some (.int x.1), x.2)) 0 0 44 [(0, .ref a0), (1, .int a1), (2, .int a2)] [] M (f_X8_read_b44 a0 n a1 a2 M) := by
  intro n
  induction n with
  | zero => intro a1 a2 M; exact q_none
  | succ n ih =>
    intro a1 a2 M
    rw [f_X8_read_b44.eq_2]
    refine q_iload_n 2 dX8_read_44 rfl ?_
    refine q_aload_n 0 dX8_read_45 rfl ?_
    refine q_getI (f := 1) cl_X8 (by decide) qw_194 rfl dX8_read_46 (Or.inl rfl) (fun v17 h18 => ?_)
    refine q_icmp_ge (tgt := 172) dX8_read_49 (by decide) (fun c34 => ?_) (fun c34 => ?_)
    · refine q_aload_n 0 dX8_read_52 rfl ?_
      refine q_getI (f := 11) cl_X8 (by decide) qw_204 rfl dX8_read_53 (Or.inl rfl) (fun v19 h20 => ?_)
      refine q_iconst (x := (-1 : Int32)) dX8_read_56 rfl ?_
      refine q_icmp_ne (tgt := 172) dX8_read_57 (by decide) (fun c33 => ?_) (fun c33 => ?_)
      · refine q_aload_n 0 dX8_read_60 rfl ?_
        refine q_iload_n 2 dX8_read_61 rfl ?_
        refine q_cVI (Y2 := Y_X8_signAt) (As := [.int a2]) (b := a0) (st := []) cl_X8 mv_X8_signAt qw_643 dX8_read_62 ⟨Nat.le_of_ble_eq_true rfl, Nat.le_of_ble_eq_true rfl⟩ rfl (fun _ _ => rfl) (Nat.le_of_ble_eq_true rfl) ⟨Nat.le_of_ble_eq_true rfl, Nat.le_of_ble_eq_true rfl⟩ (fun v22 h21 => q_ob_is h21) (fun v22 h21 => m_X8_signAt h21) (fun v22 h21 => ?_)
        refine q_istore_n (ls' := [(3, .int v22), (0, .ref a0), (1, .int a1), (2, .int a2)]) dX8_read_65 (by decide) rfl ?_
        refine q_iload_n 3 dX8_read_66 rfl ?_
        refine q_iload_n 2 dX8_read_67 rfl ?_
        refine q_icmp_lt (tgt := 166) dX8_read_68 (by decide) (fun c32 => ?_) (fun c32 => ?_)
        · refine q_iinc 3 (y := (a2 + (1 : Int32))) (ls' := [(2, .int (a2 + (1 : Int32))), (3, .int v22), (0, .ref a0), (1, .int a1)]) dX8_read_166 rfl rfl (by decide) rfl ?_
          refine q_goto (tgt := 44) dX8_read_169 (by decide) ?_
          refine q_sub (ls' := [(0, .ref a0), (1, .int a1), (2, .int (a2 + (1 : Int32)))]) [2, 3, 0] rfl ?_
          exact ih _ _ _
        · refine q_iload_n 0 dX8_read_71 rfl ?_
          refine q_bipush (x := (32 : Int32)) dX8_read_72 rfl ?_
          refine q_icmp_ne (tgt := 80) dX8_read_74 (by decide) (fun c31 => ?_) (fun c31 => ?_)
          · refine q_goto (tgt := 166) dX8_read_77 (by decide) ?_
            refine q_iinc 3 (y := (a2 + (1 : Int32))) (ls' := [(2, .int (a2 + (1 : Int32))), (3, .int v22), (0, .ref a0), (1, .int a1)]) dX8_read_166 rfl rfl (by decide) rfl ?_
            refine q_goto (tgt := 44) dX8_read_169 (by decide) ?_
            refine q_sub (ls' := [(0, .ref a0), (1, .int a1), (2, .int (a2 + (1 : Int32)))]) [2, 3, 0] rfl ?_
            exact ih _ _ _
          · refine q_aload_n 1 dX8_read_80 rfl ?_
            refine q_getI (f := 10) cl_X8 (by decide) qw_203 rfl dX8_read_81 (Or.inr rfl) (fun v23 h24 => ?_)
            refine q_if_eq (tgt := 103) dX8_read_84 (by decide) (fun c30 => ?_) (fun c30 => ?_)
            · refine q_sub (ls' := [(0, .ref a0), (1, .int a1), (2, .int a2), (3, .int v22)]) [1, 2, 3, 0] rfl ?_
              exact v_X8_read_b103 (ih)
            · refine q_iload_n 0 dX8_read_87 rfl ?_
              refine q_cSI (Y2 := Y_X8_isDigit) (As := [.int v22]) (st := []) ms_X8_isDigit qw_647 dX8_read_88 ⟨Nat.le_of_ble_eq_true rfl, Nat.le_of_ble_eq_true rfl⟩ rfl (fun _ _ => rfl) (Nat.le_of_ble_eq_true rfl) ⟨Nat.le_of_ble_eq_true rfl, Nat.le_of_ble_eq_true rfl⟩ (fun v26 h25 => m_X8_isDigit h25) (fun v26 h25 => ?_)
              refine q_if_eq (tgt := 103) dX8_read_91 (by decide) (fun c29 => ?_) (fun c29 => ?_)
              · refine q_sub (ls' := [(0, .ref a0), (1, .int a1), (2, .int a2), (3, .int v22)]) [1, 2, 3, 0] rfl ?_
                exact v_X8_read_b103 (ih)
              · refine q_aload_n 1 dX8_read_94 rfl ?_
                refine q_iload_n 3 dX8_read_95 rfl ?_
                refine q_cVMI (Y2 := Y_X8_readNumber) (As := [.int a2]) (b := a0) (st := []) cl_X8 mv_X8_readNumber qw_650 dX8_read_96 ⟨Nat.le_of_ble_eq_true rfl, Nat.le_of_ble_eq_true rfl⟩ rfl (fun _ _ => rfl) (Nat.le_of_ble_eq_true rfl) ⟨Nat.le_of_ble_eq_true rfl, Nat.le_of_ble_eq_true rfl⟩ (fun r28 h27 => q_ob_is h27) (fun r28 h27 => m_X8_readNumber h27) (fun r28 h27 => ?_)
                refine q_istore_n (ls' := [(1, .int r28.1), (3, .int v22), (0, .ref a0), (2, .int a2)]) dX8_read_99 (by decide) rfl ?_
                refine q_goto (tgt := 166) dX8_read_100 (by decide) ?_
                refine q_iinc 3 (y := (a2 + (1 : Int32))) (ls' := [(2, .int (a2 + (1 : Int32))), (1, .int r28.1), (3, .int v22), (0, .ref a0)]) dX8_read_166 rfl rfl (by decide) rfl ?_
                refine q_goto (tgt := 44) dX8_read_169 (by decide) ?_
                refine q_sub (ls' := [(0, .ref a0), (1, .int r28.1), (2, .int (a2 + (1 : Int32)))]) [3, 1, 0] rfl ?_
                exact ih _ _ _
      · refine q_sub (ls' := [(0, .ref a0)]) [0] rfl ?_
        exact v_X8_read_b172
    · refine q_sub (ls' := [(0, .ref a0)]) [0] rfl ?_
      exact v_X8_read_b172
set_option maxRecDepth 20000 in
theorem m_X8_read {M : q_Mem} {a0 : Nat} {x : (Int32 × q_Mem)} (h : f_X8_read M a0 = some x) : q_C Y_X8_read [.ref a0] M (some (.int x.1)) x.2 := by
  refine q_met (φ := (fun x : Int32 × q_Mem => (some (.int x.1), x.2))) (r := f_X8_read M a0) (by decide +kernel) (Nat.le_of_ble_eq_true rfl) ?_ h (fun _ _ => rfl)
  show q_V Y_X8_read none (fun x : Int32 × q_Mem => (some (.int x.1), x.2)) 0 0 0 [(0, .ref a0)] [] M (f_X8_read M a0)
  unfold f_X8_read
  refine q_obV ?_
  refine q_aload_n 0 dX8_read_0 rfl ?_
  refine q_iconst (x := (0 : Int32)) dX8_read_1 rfl ?_
  refine q_putI (f := 4) cl_X8 (by decide) qw_197 rfl (Or.inl rfl) dX8_read_2 rfl (fun M1 h2 => ?_)
  refine q_aload_n 0 dX8_read_5 rfl ?_
  refine q_iconst (x := (0 : Int32)) dX8_read_6 rfl ?_
  refine q_putI (f := 7) cl_X8 (by decide) qw_200 rfl (Or.inl rfl) dX8_read_7 rfl (fun M3 h4 => ?_)
  refine q_aload_n 0 dX8_read_10 rfl ?_
  refine q_iconst (x := (0 : Int32)) dX8_read_11 rfl ?_
  refine q_putI (f := 8) cl_X8 (by decide) qw_201 rfl (Or.inl rfl) dX8_read_12 rfl (fun M5 h6 => ?_)
  refine q_aload_n 0 dX8_read_15 rfl ?_
  refine q_iconst (x := (0 : Int32)) dX8_read_16 rfl ?_
  refine q_putI (f := 9) cl_X8 (by decide) qw_202 rfl (Or.inl rfl) dX8_read_17 rfl (fun M7 h8 => ?_)
  refine q_aload_n 0 dX8_read_20 rfl ?_
  refine q_iconst (x := (1 : Int32)) dX8_read_21 rfl ?_
  refine q_putZ (f := 10) cl_X8 (by decide) qw_203 rfl (Or.inl rfl) dX8_read_22 rfl (fun M9 h10 => ?_)
  refine q_aload_n 0 dX8_read_25 rfl ?_
  refine q_iconst (x := (-1 : Int32)) dX8_read_26 rfl ?_
  refine q_putI (f := 11) cl_X8 (by decide) qw_204 rfl (Or.inl rfl) dX8_read_27 rfl (fun M11 h12 => ?_)
  refine q_aload_n 0 dX8_read_30 rfl ?_
  refine q_iconst (x := (0 : Int32)) dX8_read_31 rfl ?_
  refine q_putZ (f := 12) cl_X8 (by decide) qw_205 rfl (Or.inl rfl) dX8_read_32 rfl (fun M13 h14 => ?_)
  refine q_aload_n 0 dX8_read_35 rfl ?_
  refine q_lconst (x := (0 : Int64)) dX8_read_36 rfl ?_
  refine q_putJ (f := 13) cl_X8 (by decide) qw_208 rfl (Or.inl rfl) dX8_read_37 rfl (fun M15 h16 => ?_)
  refine q_iconst (x := (0 : Int32)) dX8_read_40 rfl ?_
  refine q_istore_n (ls' := [(1, .int (0 : Int32)), (0, .ref a0)]) dX8_read_41 (by decide) rfl ?_
  refine q_iconst (x := (0 : Int32)) dX8_read_42 rfl ?_
  refine q_istore_n (ls' := [(2, .int (0 : Int32)), (1, .int (0 : Int32)), (0, .ref a0)]) dX8_read_43 (by decide) rfl ?_
  refine q_sub (ls' := [(0, .ref a0), (1, .int (0 : Int32)), (2, .int (0 : Int32))]) [2, 1, 0] rfl ?_
  exact v_X8_read_b44 _ _ _ _
theorem dX7_findShares_0 : decode cX7_findShares 0 = .ok (.aload_n 0, 1) := by decide +kernel
theorem dX7_findShares_1 : decode cX7_findShares 1 = .ok (.getfield 43, 3) := by decide +kernel
theorem dX7_findShares_4 : decode cX7_findShares 4 = .ok (.bipush 7, 2) := by decide +kernel
theorem dX7_findShares_6 : decode cX7_findShares 6 = .ok (.iload_n 1, 1) := by decide +kernel
theorem dX7_findShares_7 : decode cX7_findShares 7 = .ok (.imul, 1) := by decide +kernel
theorem dX7_findShares_8 : decode cX7_findShares 8 = .ok (.invokevirtual 108, 3) := by decide +kernel
theorem dX7_findShares_11 : decode cX7_findShares 11 = .ok (.istore_n 2, 1) := by decide +kernel
theorem dX7_findShares_12 : decode cX7_findShares 12 = .ok (.iload_n 2, 1) := by decide +kernel
theorem dX7_findShares_13 : decode cX7_findShares 13 = .ok (.iconst (-1), 1) := by decide +kernel
theorem dX7_findShares_14 : decode cX7_findShares 14 = .ok (.if_icmp .eq 19, 3) := by decide +kernel
theorem dX7_findShares_17 : decode cX7_findShares 17 = .ok (.aload_n 0, 1) := by decide +kernel
theorem dX7_findShares_18 : decode cX7_findShares 18 = .ok (.getfield 39, 3) := by decide +kernel
theorem dX7_findShares_21 : decode cX7_findShares 21 = .ok (.aload_n 0, 1) := by decide +kernel
theorem dX7_findShares_22 : decode cX7_findShares 22 = .ok (.getfield 31, 3) := by decide +kernel
theorem dX7_findShares_25 : decode cX7_findShares 25 = .ok (.getfield 113, 3) := by decide +kernel
theorem dX7_findShares_28 : decode cX7_findShares 28 = .ok (.iload_n 2, 1) := by decide +kernel
theorem dX7_findShares_29 : decode cX7_findShares 29 = .ok (.iconst 3, 1) := by decide +kernel
theorem dX7_findShares_30 : decode cX7_findShares 30 = .ok (.invokevirtual 116, 3) := by decide +kernel
theorem dX7_findShares_33 : decode cX7_findShares 33 = .ok (.iconst 0, 1) := by decide +kernel
theorem dX7_findShares_34 : decode cX7_findShares 34 = .ok (.istore_n 3, 1) := by decide +kernel
theorem dX7_findShares_35 : decode cX7_findShares 35 = .ok (.iload_n 3, 1) := by decide +kernel
theorem dX7_findShares_36 : decode cX7_findShares 36 = .ok (.bipush 20, 2) := by decide +kernel
theorem dX7_findShares_38 : decode cX7_findShares 38 = .ok (.if_icmp .ge 93, 3) := by decide +kernel
theorem dX7_findShares_41 : decode cX7_findShares 41 = .ok (.aload_n 0, 1) := by decide +kernel
theorem dX7_findShares_42 : decode cX7_findShares 42 = .ok (.getfield 15, 3) := by decide +kernel
theorem dX7_findShares_45 : decode cX7_findShares 45 = .ok (.iload_n 3, 1) := by decide +kernel
theorem dX7_findShares_46 : decode cX7_findShares 46 = .ok (.laload, 1) := by decide +kernel
theorem dX7_findShares_47 : decode cX7_findShares 47 = .ok (.ldc2_w 100, 3) := by decide +kernel
theorem dX7_findShares_50 : decode cX7_findShares 50 = .ok (.ldiv, 1) := by decide +kernel
theorem dX7_findShares_51 : decode cX7_findShares 51 = .ok (.lstore 4, 2) := by decide +kernel
theorem dX7_findShares_53 : decode cX7_findShares 53 = .ok (.iload_n 2, 1) := by decide +kernel
theorem dX7_findShares_54 : decode cX7_findShares 54 = .ok (.iconst (-1), 1) := by decide +kernel
theorem dX7_findShares_55 : decode cX7_findShares 55 = .ok (.if_icmp .eq 39, 3) := by decide +kernel
theorem dX7_findShares_58 : decode cX7_findShares 58 = .ok (.aload_n 0, 1) := by decide +kernel
theorem dX7_findShares_59 : decode cX7_findShares 59 = .ok (.iload_n 3, 1) := by decide +kernel
theorem dX7_findShares_60 : decode cX7_findShares 60 = .ok (.invokevirtual 120, 3) := by decide +kernel
theorem dX7_findShares_63 : decode cX7_findShares 63 = .ok (.aload_n 0, 1) := by decide +kernel
theorem dX7_findShares_64 : decode cX7_findShares 64 = .ok (.getfield 39, 3) := by decide +kernel
theorem dX7_findShares_67 : decode cX7_findShares 67 = .ok (.invokevirtual 123, 3) := by decide +kernel
theorem dX7_findShares_70 : decode cX7_findShares 70 = .ok (.pop, 1) := by decide +kernel
theorem dX7_findShares_71 : decode cX7_findShares 71 = .ok (.aload_n 0, 1) := by decide +kernel
theorem dX7_findShares_72 : decode cX7_findShares 72 = .ok (.getfield 39, 3) := by decide +kernel
theorem dX7_findShares_75 : decode cX7_findShares 75 = .ok (.getfield 127, 3) := by decide +kernel
theorem dX7_findShares_78 : decode cX7_findShares 78 = .ok (.ifCond .eq 7, 3) := by decide +kernel
theorem dX7_findShares_81 : decode cX7_findShares 81 = .ok (.lconst 0, 1) := by decide +kernel
theorem dX7_findShares_82 : decode cX7_findShares 82 = .ok (.goto 10, 3) := by decide +kernel
theorem dX7_findShares_85 : decode cX7_findShares 85 = .ok (.aload_n 0, 1) := by decide +kernel
theorem dX7_findShares_86 : decode cX7_findShares 86 = .ok (.getfield 39, 3) := by decide +kernel
theorem dX7_findShares_89 : decode cX7_findShares 89 = .ok (.getfield 131, 3) := by decide +kernel
theorem dX7_findShares_92 : decode cX7_findShares 92 = .ok (.lstore 4, 2) := by decide +kernel
theorem dX7_findShares_94 : decode cX7_findShares 94 = .ok (.aload_n 0, 1) := by decide +kernel
theorem dX7_findShares_95 : decode cX7_findShares 95 = .ok (.getfield 28, 3) := by decide +kernel
theorem dX7_findShares_98 : decode cX7_findShares 98 = .ok (.iload_n 3, 1) := by decide +kernel
theorem dX7_findShares_99 : decode cX7_findShares 99 = .ok (.aload_n 0, 1) := by decide +kernel
theorem dX7_findShares_100 : decode cX7_findShares 100 = .ok (.getfield 19, 3) := by decide +kernel
theorem dX7_findShares_103 : decode cX7_findShares 103 = .ok (.iload_n 3, 1) := by decide +kernel
theorem dX7_findShares_104 : decode cX7_findShares 104 = .ok (.iaload, 1) := by decide +kernel
theorem dX7_findShares_105 : decode cX7_findShares 105 = .ok (.ifCond .ne 7, 3) := by decide +kernel
theorem dX7_findShares_108 : decode cX7_findShares 108 = .ok (.lconst 0, 1) := by decide +kernel
theorem dX7_findShares_109 : decode cX7_findShares 109 = .ok (.goto 15, 3) := by decide +kernel
theorem dX7_findShares_112 : decode cX7_findShares 112 = .ok (.lconst 0, 1) := by decide +kernel
theorem dX7_findShares_113 : decode cX7_findShares 113 = .ok (.ldc2_w 135, 3) := by decide +kernel
theorem dX7_findShares_116 : decode cX7_findShares 116 = .ok (.lload 4, 2) := by decide +kernel
theorem dX7_findShares_118 : decode cX7_findShares 118 = .ok (.invokestatic 137, 3) := by decide +kernel
theorem dX7_findShares_121 : decode cX7_findShares 121 = .ok (.invokestatic 143, 3) := by decide +kernel
theorem dX7_findShares_124 : decode cX7_findShares 124 = .ok (.lastore, 1) := by decide +kernel
theorem dX7_findShares_125 : decode cX7_findShares 125 = .ok (.iinc 3 1, 3) := by decide +kernel
theorem dX7_findShares_128 : decode cX7_findShares 128 = .ok (.goto (-93), 3) := by decide +kernel
theorem dX7_findShares_131 : decode cX7_findShares 131 = .ok (.return_, 1) := by decide +kernel
def f_X7_findShares_b94 (kk35 : Int32 → q_Mem → Option q_Mem) (M : q_Mem) (a0 : Nat) (a2 : Int32) (a3 : Int32) (a4 : Int64) : Option q_Mem :=
  (q_gR 6 9 M a0).bind fun v39 =>
  (q_gR 6 6 M a0).bind fun v41 =>
  (q_lI M v41 a3).bind fun v43 =>
  (if v43 = 0 then
    (q_tJ M v39 a3 (0 : Int64)).bind fun M45 =>
    kk35 (a3 + (1 : Int32)) M45
  else
    (q_tJ M v39 a3 (q_mxJ (0 : Int64) (q_miJ (1000000000 : Int64) a4))).bind fun M47 =>
    kk35 (a3 + (1 : Int32)) M47)
def f_X7_findShares_b35 (a0 : Nat) (a2 : Int32) : Nat → Int32 → q_Mem → Option q_Mem
  | 0, _, _ => none
  | n + 1, a3, M =>
    (if a3 < (20 : Int32) then
      (q_gR 6 5 M a0).bind fun v15 =>
      (q_lJ M v15 a3).bind fun v17 =>
      (q_ldv v17 (100 : Int64)).bind fun v19 =>
      (if a2 = (-1 : Int32) then
        f_X7_findShares_b94 (f_X7_findShares_b35 a0 a2 n) M a0 a2 a3 v19
      else
        (f_X7_nameFor M a0 a3).bind fun M23 =>
        (q_gR 6 2 M23 a0).bind fun v24 =>
        (f_X8_read M23 v24).bind fun r27 =>
        (q_gR 6 2 r27.2 a0).bind fun v28 =>
        (q_gI 7 12 r27.2 v28).bind fun v30 =>
        (if v30 = 0 then
          (q_gR 6 2 r27.2 a0).bind fun v32 =>
          (q_gJ 7 13 r27.2 v32).bind fun v34 =>
          f_X7_findShares_b94 (f_X7_findShares_b35 a0 a2 n) r27.2 a0 a2 a3 v34
        else
          f_X7_findShares_b94 (f_X7_findShares_b35 a0 a2 n) r27.2 a0 a2 a3 (0 : Int64)))
    else
      some M)
def f_X7_findShares (M : q_Mem) (a0 : Nat) (a1 : Int32) : Option q_Mem :=
  q_ob 6 M a0 ((q_gR 6 3 M a0).bind fun v1 =>
  (f_X0_inForce M v1 ((7 : Int32) * a1)).bind fun v4 =>
  (if v4 = (-1 : Int32) then
    f_X7_findShares_b35 a0 v4 q_fuel (0 : Int32) M
  else
    (q_gR 6 2 M a0).bind fun v5 =>
    (q_gR 6 0 M a0).bind fun v7 =>
    (q_gR 4 6 M v7).bind fun v9 =>
    (f_X8_load M v5 v9 v4 (3 : Int32)).bind fun M13 =>
    f_X7_findShares_b35 a0 v4 q_fuel (0 : Int32) M13))
set_option maxRecDepth 20000 in
theorem v_X7_findShares_b94 {kk35 : Int32 → q_Mem → Option q_Mem} {M : q_Mem} {a0 : Nat} {a2 : Int32} {a3 : Int32} {a4 : Int64}  (hk35 : ∀ (a3 : Int32) (M : q_Mem), q_V Y_X7_findShares none (fun x : q_Mem => (none, x)) 0 0 35 [(0, .ref a0), (2, .int a2), (3, .int a3)] [] M (kk35 a3 M)): q_V Y_X7_findShares none (fun x : q_Mem => (none, x)) 0 0 94 [(0, .ref a0), (2, .int a2), (3, .int a3), (4, .long a4)] [] M (f_X7_findShares_b94 kk35 M a0 a2 a3 a4 ) := by
  unfold f_X7_findShares_b94
  refine q_aload_n 0 dX7_findShares_94 rfl ?_
  refine q_getR (f := 9) cl_X7 (by decide) qw_269 rfl dX7_findShares_95 (fun _ _ _ => rfl) (fun v39 h40 => ?_)
  refine q_iload_n 2 dX7_findShares_98 rfl ?_
  refine q_aload_n 0 dX7_findShares_99 rfl ?_
  refine q_getR (f := 6) cl_X7 (by decide) qw_266 rfl dX7_findShares_100 (fun _ _ _ => rfl) (fun v41 h42 => ?_)
  refine q_iload_n 2 dX7_findShares_103 rfl ?_
  refine q_iald dX7_findShares_104 (fun v43 h44 => ?_)
  refine q_if_ne (tgt := 112) dX7_findShares_105 (by decide) (fun c49 => ?_) (fun c49 => ?_)
  · refine q_lconst (x := (0 : Int64)) dX7_findShares_108 rfl ?_
    refine q_goto (tgt := 124) dX7_findShares_109 (by decide) ?_
    refine q_last dX7_findShares_124 (fun M45 h46 => ?_)
    refine q_iinc 2 (y := (a3 + (1 : Int32))) (ls' := [(3, .int (a3 + (1 : Int32))), (0, .ref a0), (2, .int a2), (4, .long a4)]) dX7_findShares_125 rfl rfl (by decide) rfl ?_
    refine q_goto (tgt := 35) dX7_findShares_128 (by decide) ?_
    refine q_sub (ls' := [(0, .ref a0), (2, .int a2), (3, .int (a3 + (1 : Int32)))]) [1, 2, 0] rfl ?_
    exact hk35 _ _
  · refine q_lconst (x := (0 : Int64)) dX7_findShares_112 rfl ?_
    refine q_ldc2 (x := (1000000000 : Int64)) qw_833 dX7_findShares_113 ?_
    refine q_lload 3 dX7_findShares_116 rfl ?_
    refine q_mminJ qw_834 qm_mminJ_1 qm_2 qm_mminJ_3 dX7_findShares_118 (Nat.le_of_ble_eq_true rfl) (Nat.le_of_ble_eq_true rfl) (Nat.le_of_ble_eq_true rfl) ⟨Nat.le_of_ble_eq_true rfl, Nat.le_of_ble_eq_true rfl⟩ ?_
    refine q_mmaxJ qw_837 qm_mmaxJ_1 qm_2 qm_mmaxJ_3 dX7_findShares_121 (Nat.le_of_ble_eq_true rfl) (Nat.le_of_ble_eq_true rfl) (Nat.le_of_ble_eq_true rfl) ⟨Nat.le_of_ble_eq_true rfl, Nat.le_of_ble_eq_true rfl⟩ ?_
    refine q_last dX7_findShares_124 (fun M47 h48 => ?_)
    refine q_iinc 2 (y := (a3 + (1 : Int32))) (ls' := [(3, .int (a3 + (1 : Int32))), (0, .ref a0), (2, .int a2), (4, .long a4)]) dX7_findShares_125 rfl rfl (by decide) rfl ?_
    refine q_goto (tgt := 35) dX7_findShares_128 (by decide) ?_
    refine q_sub (ls' := [(0, .ref a0), (2, .int a2), (3, .int (a3 + (1 : Int32)))]) [1, 2, 0] rfl ?_
    exact hk35 _ _
set_option maxRecDepth 20000 in
theorem v_X7_findShares_b35 {a0 : Nat} {a2 : Int32}  : ∀ (n : Nat) (a3 : Int32) (M : q_Mem), q_V Y_X7_findShares none (fun x : q_Mem => (none, x)) 0 0 35 [(0, .ref a0), (2, .int a2), (3, .int a3)] [] M (f_X7_findShares_b35 a0 a2 n a3 M) := by
  intro n
  induction n with
  | zero => intro a3 M; exact q_none
  | succ n ih =>
    intro a3 M
    rw [f_X7_findShares_b35.eq_2]
    refine q_iload_n 2 dX7_findShares_35 rfl ?_
    refine q_bipush (x := (20 : Int32)) dX7_findShares_36 rfl ?_
    refine q_icmp_ge (tgt := 131) dX7_findShares_38 (by decide) (fun c38 => ?_) (fun c38 => ?_)
    · refine q_aload_n 0 dX7_findShares_41 rfl ?_
      refine q_getR (f := 5) cl_X7 (by decide) qw_265 rfl dX7_findShares_42 (fun _ _ _ => rfl) (fun v15 h16 => ?_)
      refine q_iload_n 2 dX7_findShares_45 rfl ?_
      refine q_lald dX7_findShares_46 (fun v17 h18 => ?_)
      refine q_ldc2 (x := (100 : Int64)) qw_762 dX7_findShares_47 ?_
      refine q_ldiv dX7_findShares_50 (fun v19 h20 => ?_)
      refine q_lstore (ls' := [(4, .long v19), (0, .ref a0), (2, .int a2), (3, .int a3)]) dX7_findShares_51 (by decide) rfl ?_
      refine q_iload_n 2 dX7_findShares_53 rfl ?_
      refine q_iconst (x := (-1 : Int32)) dX7_findShares_54 rfl ?_
      refine q_icmp_eq (tgt := 94) dX7_findShares_55 (by decide) (fun c37 => ?_) (fun c37 => ?_)
      · refine q_sub (ls' := [(0, .ref a0), (2, .int a2), (3, .int a3), (4, .long v19)]) [1, 2, 3, 0] rfl ?_
        exact v_X7_findShares_b94 (ih)
      · refine q_aload_n 1 dX7_findShares_58 rfl ?_
        refine q_iload_n 3 dX7_findShares_59 rfl ?_
        refine q_cVM (Y2 := Y_X7_nameFor) (As := [.int a3]) (b := a0) (st := []) cl_X7 mv_X7_nameFor qw_831 dX7_findShares_60 ⟨Nat.le_of_ble_eq_true rfl, Nat.le_of_ble_eq_true rfl⟩ rfl (fun _ _ => rfl) (Nat.le_of_ble_eq_true rfl) ⟨Nat.le_of_ble_eq_true rfl, Nat.le_of_ble_eq_true rfl⟩ (fun M23 h21 => q_ob_is h21) (fun M23 h21 => m_X7_nameFor h21) (fun M23 h21 => ?_)
        refine q_aload_n 1 dX7_findShares_63 rfl ?_
        refine q_getR (f := 2) cl_X7 (by decide) qw_262 rfl dX7_findShares_64 (fun _ _ _ => rfl) (fun v24 h25 => ?_)
        refine q_cVMI (Y2 := Y_X8_read) (As := []) (b := v24) (st := []) cl_X8 mv_X8_read qw_832 dX7_findShares_67 ⟨Nat.le_of_ble_eq_true rfl, Nat.le_of_ble_eq_true rfl⟩ rfl (fun _ _ => rfl) (Nat.le_of_ble_eq_true rfl) ⟨Nat.le_of_ble_eq_true rfl, Nat.le_of_ble_eq_true rfl⟩ (fun r27 h26 => q_ob_is h26) (fun r27 h26 => m_X8_read h26) (fun r27 h26 => ?_)
        refine q_pop dX7_findShares_70 rfl ?_
        refine q_aload_n 1 dX7_findShares_71 rfl ?_
        refine q_getR (f := 2) cl_X7 (by decide) qw_262 rfl dX7_findShares_72 (fun _ _ _ => rfl) (fun v28 h29 => ?_)
        refine q_getI (f := 12) cl_X8 (by decide) qw_206 rfl dX7_findShares_75 (Or.inr rfl) (fun v30 h31 => ?_)
        refine q_if_eq (tgt := 85) dX7_findShares_78 (by decide) (fun c36 => ?_) (fun c36 => ?_)
        · refine q_aload_n 1 dX7_findShares_85 rfl ?_
          refine q_getR (f := 2) cl_X7 (by decide) qw_262 rfl dX7_findShares_86 (fun _ _ _ => rfl) (fun v32 h33 => ?_)
          refine q_getJ (f := 13) cl_X8 (by decide) qw_209 rfl dX7_findShares_89 rfl (fun v34 h35 => ?_)
          refine q_lstore (ls' := [(4, .long v34), (0, .ref a0), (2, .int a2), (3, .int a3)]) dX7_findShares_92 (by decide) rfl ?_
          refine q_sub (ls' := [(0, .ref a0), (2, .int a2), (3, .int a3), (4, .long v34)]) [1, 2, 3, 0] rfl ?_
          exact v_X7_findShares_b94 (ih)
        · refine q_lconst (x := (0 : Int64)) dX7_findShares_81 rfl ?_
          refine q_goto (tgt := 92) dX7_findShares_82 (by decide) ?_
          refine q_lstore (ls' := [(4, .long (0 : Int64)), (0, .ref a0), (2, .int a2), (3, .int a3)]) dX7_findShares_92 (by decide) rfl ?_
          refine q_sub (ls' := [(0, .ref a0), (2, .int a2), (3, .int a3), (4, .long (0 : Int64))]) [1, 2, 3, 0] rfl ?_
          exact v_X7_findShares_b94 (ih)
    · exact q_vret dX7_findShares_131 rfl rfl (Nat.le_of_ble_eq_true rfl) rfl
set_option maxRecDepth 20000 in
theorem m_X7_findShares {M : q_Mem} {a0 : Nat} {a1 : Int32} {x : q_Mem} (h : f_X7_findShares M a0 a1 = some x) : q_C Y_X7_findShares [.ref a0, .int a1] M none x := by
  refine q_met (φ := (fun x : q_Mem => (none, x))) (r := f_X7_findShares M a0 a1) (by decide +kernel) (Nat.le_of_ble_eq_true rfl) ?_ h (fun _ _ => rfl)
  show q_V Y_X7_findShares none (fun x : q_Mem => (none, x)) 0 0 0 [(0, .ref a0), (1, .int a1)] [] M (f_X7_findShares M a0 a1)
  unfold f_X7_findShares
  refine q_obV ?_
  refine q_aload_n 0 dX7_findShares_0 rfl ?_
  refine q_getR (f := 3) cl_X7 (by decide) qw_263 rfl dX7_findShares_1 (fun _ _ _ => rfl) (fun v1 h2 => ?_)
  refine q_bipush (x := (7 : Int32)) dX7_findShares_4 rfl ?_
  refine q_iload_n 1 dX7_findShares_6 rfl ?_
  refine q_imul dX7_findShares_7 ?_
  refine q_cVI (Y2 := Y_X0_inForce) (As := [.int ((7 : Int32) * a1)]) (b := v1) (st := []) cl_X0 mv_X0_inForce qw_829 dX7_findShares_8 ⟨Nat.le_of_ble_eq_true rfl, Nat.le_of_ble_eq_true rfl⟩ rfl (fun _ _ => rfl) (Nat.le_of_ble_eq_true rfl) ⟨Nat.le_of_ble_eq_true rfl, Nat.le_of_ble_eq_true rfl⟩ (fun v4 h3 => q_ob_is h3) (fun v4 h3 => m_X0_inForce h3) (fun v4 h3 => ?_)
  refine q_istore_n (ls' := [(2, .int v4), (0, .ref a0), (1, .int a1)]) dX7_findShares_11 (by decide) rfl ?_
  refine q_iload_n 0 dX7_findShares_12 rfl ?_
  refine q_iconst (x := (-1 : Int32)) dX7_findShares_13 rfl ?_
  refine q_icmp_eq (tgt := 33) dX7_findShares_14 (by decide) (fun c14 => ?_) (fun c14 => ?_)
  · refine q_iconst (x := (0 : Int32)) dX7_findShares_33 rfl ?_
    refine q_istore_n (ls' := [(3, .int (0 : Int32)), (2, .int v4), (0, .ref a0), (1, .int a1)]) dX7_findShares_34 (by decide) rfl ?_
    refine q_sub (ls' := [(0, .ref a0), (2, .int v4), (3, .int (0 : Int32))]) [2, 1, 0] rfl ?_
    exact v_X7_findShares_b35 _ _ _
  · refine q_aload_n 1 dX7_findShares_17 rfl ?_
    refine q_getR (f := 2) cl_X7 (by decide) qw_262 rfl dX7_findShares_18 (fun _ _ _ => rfl) (fun v5 h6 => ?_)
    refine q_aload_n 1 dX7_findShares_21 rfl ?_
    refine q_getR (f := 0) cl_X7 (by decide) qw_260 rfl dX7_findShares_22 (fun _ _ _ => rfl) (fun v7 h8 => ?_)
    refine q_getR (f := 6) cl_X5 (by decide) qw_99 rfl dX7_findShares_25 (fun _ _ _ => rfl) (fun v9 h10 => ?_)
    refine q_iload_n 0 dX7_findShares_28 rfl ?_
    refine q_iconst (x := (3 : Int32)) dX7_findShares_29 rfl ?_
    refine q_cVM (Y2 := Y_X8_load) (As := [.ref v9, .int v4, .int (3 : Int32)]) (b := v5) (st := []) cl_X8 mv_X8_load qw_830 dX7_findShares_30 ⟨Nat.le_of_ble_eq_true rfl, Nat.le_of_ble_eq_true rfl⟩ rfl (fun _ _ => rfl) (Nat.le_of_ble_eq_true rfl) ⟨Nat.le_of_ble_eq_true rfl, Nat.le_of_ble_eq_true rfl⟩ (fun M13 h11 => q_ob_is h11) (fun M13 h11 => m_X8_load h11) (fun M13 h11 => ?_)
    refine q_iconst (x := (0 : Int32)) dX7_findShares_33 rfl ?_
    refine q_istore_n (ls' := [(3, .int (0 : Int32)), (2, .int v4), (0, .ref a0), (1, .int a1)]) dX7_findShares_34 (by decide) rfl ?_
    refine q_sub (ls' := [(0, .ref a0), (2, .int v4), (3, .int (0 : Int32))]) [2, 1, 0] rfl ?_
    exact v_X7_findShares_b35 _ _ _
theorem dX7_penceOfWeek_0 : decode cX7_penceOfWeek 0 = .ok (.aload_n 0, 1) := by decide +kernel
theorem dX7_penceOfWeek_1 : decode cX7_penceOfWeek 1 = .ok (.getfield 31, 3) := by decide +kernel
theorem dX7_penceOfWeek_4 : decode cX7_penceOfWeek 4 = .ok (.getfield 146, 3) := by decide +kernel
theorem dX7_penceOfWeek_7 : decode cX7_penceOfWeek 7 = .ok (.astore_n 3, 1) := by decide +kernel
theorem dX7_penceOfWeek_8 : decode cX7_penceOfWeek 8 = .ok (.lconst 0, 1) := by decide +kernel
theorem dX7_penceOfWeek_9 : decode cX7_penceOfWeek 9 = .ok (.lstore 4, 2) := by decide +kernel
theorem dX7_penceOfWeek_11 : decode cX7_penceOfWeek 11 = .ok (.iconst 0, 1) := by decide +kernel
theorem dX7_penceOfWeek_12 : decode cX7_penceOfWeek 12 = .ok (.istore 6, 2) := by decide +kernel
theorem dX7_penceOfWeek_14 : decode cX7_penceOfWeek 14 = .ok (.iload 6, 2) := by decide +kernel
theorem dX7_penceOfWeek_16 : decode cX7_penceOfWeek 16 = .ok (.aload_n 3, 1) := by decide +kernel
theorem dX7_penceOfWeek_17 : decode cX7_penceOfWeek 17 = .ok (.getfield 67, 3) := by decide +kernel
theorem dX7_penceOfWeek_20 : decode cX7_penceOfWeek 20 = .ok (.if_icmp .ge 72, 3) := by decide +kernel
theorem dX7_penceOfWeek_23 : decode cX7_penceOfWeek 23 = .ok (.aload_n 3, 1) := by decide +kernel
theorem dX7_penceOfWeek_24 : decode cX7_penceOfWeek 24 = .ok (.iload 6, 2) := by decide +kernel
theorem dX7_penceOfWeek_26 : decode cX7_penceOfWeek 26 = .ok (.iconst 2, 1) := by decide +kernel
theorem dX7_penceOfWeek_27 : decode cX7_penceOfWeek 27 = .ok (.invokevirtual 79, 3) := by decide +kernel
theorem dX7_penceOfWeek_30 : decode cX7_penceOfWeek 30 = .ok (.istore 7, 2) := by decide +kernel
theorem dX7_penceOfWeek_32 : decode cX7_penceOfWeek 32 = .ok (.aload_n 0, 1) := by decide +kernel
theorem dX7_penceOfWeek_33 : decode cX7_penceOfWeek 33 = .ok (.getfield 31, 3) := by decide +kernel
theorem dX7_penceOfWeek_36 : decode cX7_penceOfWeek 36 = .ok (.getfield 87, 3) := by decide +kernel
theorem dX7_penceOfWeek_39 : decode cX7_penceOfWeek 39 = .ok (.aload_n 3, 1) := by decide +kernel
theorem dX7_penceOfWeek_40 : decode cX7_penceOfWeek 40 = .ok (.iload 6, 2) := by decide +kernel
theorem dX7_penceOfWeek_42 : decode cX7_penceOfWeek 42 = .ok (.iconst 0, 1) := by decide +kernel
theorem dX7_penceOfWeek_43 : decode cX7_penceOfWeek 43 = .ok (.invokevirtual 79, 3) := by decide +kernel
theorem dX7_penceOfWeek_46 : decode cX7_penceOfWeek 46 = .ok (.iconst 0, 1) := by decide +kernel
theorem dX7_penceOfWeek_47 : decode cX7_penceOfWeek 47 = .ok (.invokevirtual 79, 3) := by decide +kernel
theorem dX7_penceOfWeek_50 : decode cX7_penceOfWeek 50 = .ok (.istore 8, 2) := by decide +kernel
theorem dX7_penceOfWeek_52 : decode cX7_penceOfWeek 52 = .ok (.iload 7, 2) := by decide +kernel
theorem dX7_penceOfWeek_54 : decode cX7_penceOfWeek 54 = .ok (.iconst (-1), 1) := by decide +kernel
theorem dX7_penceOfWeek_55 : decode cX7_penceOfWeek 55 = .ok (.if_icmp .eq 31, 3) := by decide +kernel
theorem dX7_penceOfWeek_58 : decode cX7_penceOfWeek 58 = .ok (.iload 7, 2) := by decide +kernel
theorem dX7_penceOfWeek_60 : decode cX7_penceOfWeek 60 = .ok (.iload_n 2, 1) := by decide +kernel
theorem dX7_penceOfWeek_61 : decode cX7_penceOfWeek 61 = .ok (.if_icmp .gt 25, 3) := by decide +kernel
theorem dX7_penceOfWeek_64 : decode cX7_penceOfWeek 64 = .ok (.iload 8, 2) := by decide +kernel
theorem dX7_penceOfWeek_66 : decode cX7_penceOfWeek 66 = .ok (.bipush 7, 2) := by decide +kernel
theorem dX7_penceOfWeek_68 : decode cX7_penceOfWeek 68 = .ok (.idiv, 1) := by decide +kernel
theorem dX7_penceOfWeek_69 : decode cX7_penceOfWeek 69 = .ok (.iload_n 1, 1) := by decide +kernel
theorem dX7_penceOfWeek_70 : decode cX7_penceOfWeek 70 = .ok (.if_icmp .ne 16, 3) := by decide +kernel
theorem dX7_penceOfWeek_73 : decode cX7_penceOfWeek 73 = .ok (.lload 4, 2) := by decide +kernel
theorem dX7_penceOfWeek_75 : decode cX7_penceOfWeek 75 = .ok (.aload_n 3, 1) := by decide +kernel
theorem dX7_penceOfWeek_76 : decode cX7_penceOfWeek 76 = .ok (.iload 6, 2) := by decide +kernel
theorem dX7_penceOfWeek_78 : decode cX7_penceOfWeek 78 = .ok (.iconst 1, 1) := by decide +kernel
theorem dX7_penceOfWeek_79 : decode cX7_penceOfWeek 79 = .ok (.invokevirtual 79, 3) := by decide +kernel
theorem dX7_penceOfWeek_82 : decode cX7_penceOfWeek 82 = .ok (.i2l, 1) := by decide +kernel
theorem dX7_penceOfWeek_83 : decode cX7_penceOfWeek 83 = .ok (.ladd, 1) := by decide +kernel
theorem dX7_penceOfWeek_84 : decode cX7_penceOfWeek 84 = .ok (.lstore 4, 2) := by decide +kernel
theorem dX7_penceOfWeek_86 : decode cX7_penceOfWeek 86 = .ok (.iinc 6 1, 3) := by decide +kernel
theorem dX7_penceOfWeek_89 : decode cX7_penceOfWeek 89 = .ok (.goto (-75), 3) := by decide +kernel
theorem dX7_penceOfWeek_92 : decode cX7_penceOfWeek 92 = .ok (.lload 4, 2) := by decide +kernel
theorem dX7_penceOfWeek_94 : decode cX7_penceOfWeek 94 = .ok (.lreturn, 1) := by decide +kernel
def f_X7_penceOfWeek_b14 (M : q_Mem) (a0 : Nat) (a1 : Int32) (a2 : Int32) (a3 : Nat) : Nat → Int64 → Int32 → Option Int64
  | 0, _, _ => none
  | n + 1, a4, a6 =>
    (q_gI 8 3 M a3).bind fun v5 =>
    (if a6 < v5 then
      (f_X9_at M a3 a6 (2 : Int32)).bind fun v8 =>
      (q_gR 6 0 M a0).bind fun v9 =>
      (q_gR 4 3 M v9).bind fun v11 =>
      (f_X9_at M a3 a6 (0 : Int32)).bind fun v14 =>
      (f_X9_at M v11 v14 (0 : Int32)).bind fun v16 =>
      (if v8 = (-1 : Int32) then
        f_X7_penceOfWeek_b14 M a0 a1 a2 a3 n a4 (a6 + (1 : Int32))
      else
        (if a2 < v8 then
          f_X7_penceOfWeek_b14 M a0 a1 a2 a3 n a4 (a6 + (1 : Int32))
        else
          (q_dv v16 (7 : Int32)).bind fun v17 =>
          (if v17 = a1 then
            (f_X9_at M a3 a6 (1 : Int32)).bind fun v20 =>
            f_X7_penceOfWeek_b14 M a0 a1 a2 a3 n (a4 + v20.toInt64) (a6 + (1 : Int32))
          else
            f_X7_penceOfWeek_b14 M a0 a1 a2 a3 n a4 (a6 + (1 : Int32)))))
    else
      some a4)
def f_X7_penceOfWeek (M : q_Mem) (a0 : Nat) (a1 : Int32) (a2 : Int32) : Option Int64 :=
  q_ob 6 M a0 ((q_gR 6 0 M a0).bind fun v1 =>
  (q_gR 4 4 M v1).bind fun v3 =>
  f_X7_penceOfWeek_b14 M a0 a1 a2 v3 q_fuel (0 : Int64) (0 : Int32))
set_option maxRecDepth 20000 in
theorem v_X7_penceOfWeek_b14 {M : q_Mem} {a0 : Nat} {a1 : Int32} {a2 : Int32} {a3 : Nat}  : ∀ (n : Nat) (a4 : Int64) (a6 : Int32), q_V Y_X7_penceOfWeek none (fun x : Int64 => (some (.long x), M)) 0 0 14 [(0, .ref a0), (1, .int a1), (2, .int a2), (3, .ref a3), (4, .long a4), (6, .int a6)] [] M (f_X7_penceOfWeek_b14 M a0 a1 a2 a3 n a4 a6) := by
  intro n
  induction n with
  | zero => intro a4 a6; exact q_none
  | succ n ih =>
    intro a4 a6
    rw [f_X7_penceOfWeek_b14.eq_2]
    refine q_iload 5 dX7_penceOfWeek_14 rfl ?_
    refine q_aload_n 3 dX7_penceOfWeek_16 rfl ?_
    refine q_getI (f := 3) cl_X9 (by decide) qw_49 rfl dX7_penceOfWeek_17 (Or.inl rfl) (fun v5 h6 => ?_)
    refine q_icmp_ge (tgt := 92) dX7_penceOfWeek_20 (by decide) (fun c24 => ?_) (fun c24 => ?_)
    · refine q_aload_n 3 dX7_penceOfWeek_23 rfl ?_
      refine q_iload 5 dX7_penceOfWeek_24 rfl ?_
      refine q_iconst (x := (2 : Int32)) dX7_penceOfWeek_26 rfl ?_
      refine q_cVI (Y2 := Y_X9_at) (As := [.int a6, .int (2 : Int32)]) (b := a3) (st := []) cl_X9 mv_X9_at qw_751 dX7_penceOfWeek_27 ⟨Nat.le_of_ble_eq_true rfl, Nat.le_of_ble_eq_true rfl⟩ rfl (fun _ _ => rfl) (Nat.le_of_ble_eq_true rfl) ⟨Nat.le_of_ble_eq_true rfl, Nat.le_of_ble_eq_true rfl⟩ (fun v8 h7 => q_ob_is h7) (fun v8 h7 => m_X9_at h7) (fun v8 h7 => ?_)
      refine q_istore (ls' := [(7, .int v8), (0, .ref a0), (1, .int a1), (2, .int a2), (3, .ref a3), (4, .long a4), (6, .int a6)]) dX7_penceOfWeek_30 (by decide) rfl ?_
      refine q_aload_n 1 dX7_penceOfWeek_32 rfl ?_
      refine q_getR (f := 0) cl_X7 (by decide) qw_260 rfl dX7_penceOfWeek_33 (fun _ _ _ => rfl) (fun v9 h10 => ?_)
      refine q_getR (f := 3) cl_X5 (by decide) qw_88 rfl dX7_penceOfWeek_36 (fun _ _ _ => rfl) (fun v11 h12 => ?_)
      refine q_aload_n 4 dX7_penceOfWeek_39 rfl ?_
      refine q_iload 6 dX7_penceOfWeek_40 rfl ?_
      refine q_iconst (x := (0 : Int32)) dX7_penceOfWeek_42 rfl ?_
      refine q_cVI (Y2 := Y_X9_at) (As := [.int a6, .int (0 : Int32)]) (b := a3) (st := [.ref v11]) cl_X9 mv_X9_at qw_751 dX7_penceOfWeek_43 ⟨Nat.le_of_ble_eq_true rfl, Nat.le_of_ble_eq_true rfl⟩ rfl (fun _ _ => rfl) (Nat.le_of_ble_eq_true rfl) ⟨Nat.le_of_ble_eq_true rfl, Nat.le_of_ble_eq_true rfl⟩ (fun v14 h13 => q_ob_is h13) (fun v14 h13 => m_X9_at h13) (fun v14 h13 => ?_)
      refine q_iconst (x := (0 : Int32)) dX7_penceOfWeek_46 rfl ?_
      refine q_cVI (Y2 := Y_X9_at) (As := [.int v14, .int (0 : Int32)]) (b := v11) (st := []) cl_X9 mv_X9_at qw_751 dX7_penceOfWeek_47 ⟨Nat.le_of_ble_eq_true rfl, Nat.le_of_ble_eq_true rfl⟩ rfl (fun _ _ => rfl) (Nat.le_of_ble_eq_true rfl) ⟨Nat.le_of_ble_eq_true rfl, Nat.le_of_ble_eq_true rfl⟩ (fun v16 h15 => q_ob_is h15) (fun v16 h15 => m_X9_at h15) (fun v16 h15 => ?_)
      refine q_istore (ls' := [(8, .int v16), (7, .int v8), (0, .ref a0), (1, .int a1), (2, .int a2), (3, .ref a3), (4, .long a4), (6, .int a6)]) dX7_penceOfWeek_50 (by decide) rfl ?_
      refine q_iload 1 dX7_penceOfWeek_52 rfl ?_
      refine q_iconst (x := (-1 : Int32)) dX7_penceOfWeek_54 rfl ?_
      refine q_icmp_eq (tgt := 86) dX7_penceOfWeek_55 (by decide) (fun c23 => ?_) (fun c23 => ?_)
      · refine q_iinc 7 (y := (a6 + (1 : Int32))) (ls' := [(6, .int (a6 + (1 : Int32))), (8, .int v16), (7, .int v8), (0, .ref a0), (1, .int a1), (2, .int a2), (3, .ref a3), (4, .long a4)]) dX7_penceOfWeek_86 rfl rfl (by decide) rfl ?_
        refine q_goto (tgt := 14) dX7_penceOfWeek_89 (by decide) ?_
        refine q_sub (ls' := [(0, .ref a0), (1, .int a1), (2, .int a2), (3, .ref a3), (4, .long a4), (6, .int (a6 + (1 : Int32)))]) [3, 4, 5, 6, 7, 0] rfl ?_
        exact ih _ _
      · refine q_iload 1 dX7_penceOfWeek_58 rfl ?_
        refine q_iload_n 4 dX7_penceOfWeek_60 rfl ?_
        refine q_icmp_gt (tgt := 86) dX7_penceOfWeek_61 (by decide) (fun c22 => ?_) (fun c22 => ?_)
        · refine q_iinc 7 (y := (a6 + (1 : Int32))) (ls' := [(6, .int (a6 + (1 : Int32))), (8, .int v16), (7, .int v8), (0, .ref a0), (1, .int a1), (2, .int a2), (3, .ref a3), (4, .long a4)]) dX7_penceOfWeek_86 rfl rfl (by decide) rfl ?_
          refine q_goto (tgt := 14) dX7_penceOfWeek_89 (by decide) ?_
          refine q_sub (ls' := [(0, .ref a0), (1, .int a1), (2, .int a2), (3, .ref a3), (4, .long a4), (6, .int (a6 + (1 : Int32)))]) [3, 4, 5, 6, 7, 0] rfl ?_
          exact ih _ _
        · refine q_iload 0 dX7_penceOfWeek_64 rfl ?_
          refine q_bipush (x := (7 : Int32)) dX7_penceOfWeek_66 rfl ?_
          refine q_idiv dX7_penceOfWeek_68 (fun v17 h18 => ?_)
          refine q_iload_n 3 dX7_penceOfWeek_69 rfl ?_
          refine q_icmp_ne (tgt := 86) dX7_penceOfWeek_70 (by decide) (fun c21 => ?_) (fun c21 => ?_)
          · refine q_lload 6 dX7_penceOfWeek_73 rfl ?_
            refine q_aload_n 5 dX7_penceOfWeek_75 rfl ?_
            refine q_iload 7 dX7_penceOfWeek_76 rfl ?_
            refine q_iconst (x := (1 : Int32)) dX7_penceOfWeek_78 rfl ?_
            refine q_cVI (Y2 := Y_X9_at) (As := [.int a6, .int (1 : Int32)]) (b := a3) (st := [.long a4]) cl_X9 mv_X9_at qw_751 dX7_penceOfWeek_79 ⟨Nat.le_of_ble_eq_true rfl, Nat.le_of_ble_eq_true rfl⟩ rfl (fun _ _ => rfl) (Nat.le_of_ble_eq_true rfl) ⟨Nat.le_of_ble_eq_true rfl, Nat.le_of_ble_eq_true rfl⟩ (fun v20 h19 => q_ob_is h19) (fun v20 h19 => m_X9_at h19) (fun v20 h19 => ?_)
            refine q_i2l dX7_penceOfWeek_82 ?_
            refine q_ladd dX7_penceOfWeek_83 ?_
            refine q_lstore (ls' := [(4, .long (a4 + v20.toInt64)), (8, .int v16), (7, .int v8), (0, .ref a0), (1, .int a1), (2, .int a2), (3, .ref a3), (6, .int a6)]) dX7_penceOfWeek_84 (by decide) rfl ?_
            refine q_iinc 7 (y := (a6 + (1 : Int32))) (ls' := [(6, .int (a6 + (1 : Int32))), (4, .long (a4 + v20.toInt64)), (8, .int v16), (7, .int v8), (0, .ref a0), (1, .int a1), (2, .int a2), (3, .ref a3)]) dX7_penceOfWeek_86 rfl rfl (by decide) rfl ?_
            refine q_goto (tgt := 14) dX7_penceOfWeek_89 (by decide) ?_
            refine q_sub (ls' := [(0, .ref a0), (1, .int a1), (2, .int a2), (3, .ref a3), (4, .long (a4 + v20.toInt64)), (6, .int (a6 + (1 : Int32)))]) [4, 5, 6, 7, 1, 0] rfl ?_
            exact ih _ _
          · refine q_iinc 7 (y := (a6 + (1 : Int32))) (ls' := [(6, .int (a6 + (1 : Int32))), (8, .int v16), (7, .int v8), (0, .ref a0), (1, .int a1), (2, .int a2), (3, .ref a3), (4, .long a4)]) dX7_penceOfWeek_86 rfl rfl (by decide) rfl ?_
            refine q_goto (tgt := 14) dX7_penceOfWeek_89 (by decide) ?_
            refine q_sub (ls' := [(0, .ref a0), (1, .int a1), (2, .int a2), (3, .ref a3), (4, .long a4), (6, .int (a6 + (1 : Int32)))]) [3, 4, 5, 6, 7, 0] rfl ?_
            exact ih _ _
    · refine q_lload 4 dX7_penceOfWeek_92 rfl ?_
      exact q_lret dX7_penceOfWeek_94 rfl rfl (Nat.le_of_ble_eq_true rfl) rfl
set_option maxRecDepth 20000 in
theorem m_X7_penceOfWeek {M : q_Mem} {a0 : Nat} {a1 : Int32} {a2 : Int32} {x : Int64} (h : f_X7_penceOfWeek M a0 a1 a2 = some x) : q_C Y_X7_penceOfWeek [.ref a0, .int a1, .int a2] M (some (.long x)) M := by
  refine q_met (φ := (fun x : Int64 => (some (.long x), M))) (r := f_X7_penceOfWeek M a0 a1 a2) (by decide +kernel) (Nat.le_of_ble_eq_true rfl) ?_ h (fun _ _ => rfl)
  show q_V Y_X7_penceOfWeek none (fun x : Int64 => (some (.long x), M)) 0 0 0 [(0, .ref a0), (1, .int a1), (2, .int a2)] [] M (f_X7_penceOfWeek M a0 a1 a2)
  unfold f_X7_penceOfWeek
  refine q_obV ?_
  refine q_aload_n 0 dX7_penceOfWeek_0 rfl ?_
  refine q_getR (f := 0) cl_X7 (by decide) qw_260 rfl dX7_penceOfWeek_1 (fun _ _ _ => rfl) (fun v1 h2 => ?_)
  refine q_getR (f := 4) cl_X5 (by decide) qw_91 rfl dX7_penceOfWeek_4 (fun _ _ _ => rfl) (fun v3 h4 => ?_)
  refine q_astore_n (ls' := [(3, .ref v3), (0, .ref a0), (1, .int a1), (2, .int a2)]) dX7_penceOfWeek_7 (by decide) rfl ?_
  refine q_lconst (x := (0 : Int64)) dX7_penceOfWeek_8 rfl ?_
  refine q_lstore (ls' := [(4, .long (0 : Int64)), (3, .ref v3), (0, .ref a0), (1, .int a1), (2, .int a2)]) dX7_penceOfWeek_9 (by decide) rfl ?_
  refine q_iconst (x := (0 : Int32)) dX7_penceOfWeek_11 rfl ?_
  refine q_istore (ls' := [(6, .int (0 : Int32)), (4, .long (0 : Int64)), (3, .ref v3), (0, .ref a0), (1, .int a1), (2, .int a2)]) dX7_penceOfWeek_12 (by decide) rfl ?_
  refine q_sub (ls' := [(0, .ref a0), (1, .int a1), (2, .int a2), (3, .ref v3), (4, .long (0 : Int64)), (6, .int (0 : Int32))]) [3, 4, 5, 2, 1, 0] rfl ?_
  exact v_X7_penceOfWeek_b14 _ _ _
theorem dX7_partOf_0 : decode cX7_partOf 0 = .ok (.iload_n 1, 1) := by decide +kernel
theorem dX7_partOf_1 : decode cX7_partOf 1 = .ok (.ifCond .lt 9, 3) := by decide +kernel
theorem dX7_partOf_4 : decode cX7_partOf 4 = .ok (.iload_n 1, 1) := by decide +kernel
theorem dX7_partOf_5 : decode cX7_partOf 5 = .ok (.bipush 20, 2) := by decide +kernel
theorem dX7_partOf_7 : decode cX7_partOf 7 = .ok (.if_icmp .lt 5, 3) := by decide +kernel
theorem dX7_partOf_10 : decode cX7_partOf 10 = .ok (.lconst 0, 1) := by decide +kernel
theorem dX7_partOf_11 : decode cX7_partOf 11 = .ok (.lreturn, 1) := by decide +kernel
theorem dX7_partOf_12 : decode cX7_partOf 12 = .ok (.lconst 0, 1) := by decide +kernel
theorem dX7_partOf_13 : decode cX7_partOf 13 = .ok (.lstore 4, 2) := by decide +kernel
theorem dX7_partOf_15 : decode cX7_partOf 15 = .ok (.iconst 0, 1) := by decide +kernel
theorem dX7_partOf_16 : decode cX7_partOf 16 = .ok (.istore 6, 2) := by decide +kernel
theorem dX7_partOf_18 : decode cX7_partOf 18 = .ok (.iload 6, 2) := by decide +kernel
theorem dX7_partOf_20 : decode cX7_partOf 20 = .ok (.bipush 20, 2) := by decide +kernel
theorem dX7_partOf_22 : decode cX7_partOf 22 = .ok (.if_icmp .ge 21, 3) := by decide +kernel
theorem dX7_partOf_25 : decode cX7_partOf 25 = .ok (.lload 4, 2) := by decide +kernel
theorem dX7_partOf_27 : decode cX7_partOf 27 = .ok (.aload_n 0, 1) := by decide +kernel
theorem dX7_partOf_28 : decode cX7_partOf 28 = .ok (.getfield 28, 3) := by decide +kernel
theorem dX7_partOf_31 : decode cX7_partOf 31 = .ok (.iload 6, 2) := by decide +kernel
theorem dX7_partOf_33 : decode cX7_partOf 33 = .ok (.laload, 1) := by decide +kernel
theorem dX7_partOf_34 : decode cX7_partOf 34 = .ok (.ladd, 1) := by decide +kernel
theorem dX7_partOf_35 : decode cX7_partOf 35 = .ok (.lstore 4, 2) := by decide +kernel
theorem dX7_partOf_37 : decode cX7_partOf 37 = .ok (.iinc 6 1, 3) := by decide +kernel
theorem dX7_partOf_40 : decode cX7_partOf 40 = .ok (.goto (-22), 3) := by decide +kernel
theorem dX7_partOf_43 : decode cX7_partOf 43 = .ok (.lload 4, 2) := by decide +kernel
theorem dX7_partOf_45 : decode cX7_partOf 45 = .ok (.lconst 0, 1) := by decide +kernel
theorem dX7_partOf_46 : decode cX7_partOf 46 = .ok (.lcmp, 1) := by decide +kernel
theorem dX7_partOf_47 : decode cX7_partOf 47 = .ok (.ifCond .ne 5, 3) := by decide +kernel
theorem dX7_partOf_50 : decode cX7_partOf 50 = .ok (.lconst 0, 1) := by decide +kernel
theorem dX7_partOf_51 : decode cX7_partOf 51 = .ok (.lreturn, 1) := by decide +kernel
theorem dX7_partOf_52 : decode cX7_partOf 52 = .ok (.lload_n 2, 1) := by decide +kernel
theorem dX7_partOf_53 : decode cX7_partOf 53 = .ok (.aload_n 0, 1) := by decide +kernel
theorem dX7_partOf_54 : decode cX7_partOf 54 = .ok (.getfield 28, 3) := by decide +kernel
theorem dX7_partOf_57 : decode cX7_partOf 57 = .ok (.iload_n 1, 1) := by decide +kernel
theorem dX7_partOf_58 : decode cX7_partOf 58 = .ok (.laload, 1) := by decide +kernel
theorem dX7_partOf_59 : decode cX7_partOf 59 = .ok (.lmul, 1) := by decide +kernel
theorem dX7_partOf_60 : decode cX7_partOf 60 = .ok (.lload 4, 2) := by decide +kernel
theorem dX7_partOf_62 : decode cX7_partOf 62 = .ok (.lrem, 1) := by decide +kernel
theorem dX7_partOf_63 : decode cX7_partOf 63 = .ok (.lstore 6, 2) := by decide +kernel
theorem dX7_partOf_65 : decode cX7_partOf 65 = .ok (.lload_n 2, 1) := by decide +kernel
theorem dX7_partOf_66 : decode cX7_partOf 66 = .ok (.lstore 8, 2) := by decide +kernel
theorem dX7_partOf_68 : decode cX7_partOf 68 = .ok (.iconst 0, 1) := by decide +kernel
theorem dX7_partOf_69 : decode cX7_partOf 69 = .ok (.istore 10, 2) := by decide +kernel
theorem dX7_partOf_71 : decode cX7_partOf 71 = .ok (.iconst 0, 1) := by decide +kernel
theorem dX7_partOf_72 : decode cX7_partOf 72 = .ok (.istore 11, 2) := by decide +kernel
theorem dX7_partOf_74 : decode cX7_partOf 74 = .ok (.iload 11, 2) := by decide +kernel
theorem dX7_partOf_76 : decode cX7_partOf 76 = .ok (.bipush 20, 2) := by decide +kernel
theorem dX7_partOf_78 : decode cX7_partOf 78 = .ok (.if_icmp .ge 62, 3) := by decide +kernel
theorem dX7_partOf_81 : decode cX7_partOf 81 = .ok (.lload_n 2, 1) := by decide +kernel
theorem dX7_partOf_82 : decode cX7_partOf 82 = .ok (.aload_n 0, 1) := by decide +kernel
theorem dX7_partOf_83 : decode cX7_partOf 83 = .ok (.getfield 28, 3) := by decide +kernel
theorem dX7_partOf_86 : decode cX7_partOf 86 = .ok (.iload 11, 2) := by decide +kernel
theorem dX7_partOf_88 : decode cX7_partOf 88 = .ok (.laload, 1) := by decide +kernel
theorem dX7_partOf_89 : decode cX7_partOf 89 = .ok (.lmul, 1) := by decide +kernel
theorem dX7_partOf_90 : decode cX7_partOf 90 = .ok (.lstore 12, 2) := by decide +kernel
theorem dX7_partOf_92 : decode cX7_partOf 92 = .ok (.lload 8, 2) := by decide +kernel
theorem dX7_partOf_94 : decode cX7_partOf 94 = .ok (.lload 12, 2) := by decide +kernel
theorem dX7_partOf_96 : decode cX7_partOf 96 = .ok (.lload 4, 2) := by decide +kernel
theorem dX7_partOf_98 : decode cX7_partOf 98 = .ok (.ldiv, 1) := by decide +kernel
theorem dX7_partOf_99 : decode cX7_partOf 99 = .ok (.lsub, 1) := by decide +kernel
theorem dX7_partOf_100 : decode cX7_partOf 100 = .ok (.lstore 8, 2) := by decide +kernel
theorem dX7_partOf_102 : decode cX7_partOf 102 = .ok (.lload 12, 2) := by decide +kernel
theorem dX7_partOf_104 : decode cX7_partOf 104 = .ok (.lload 4, 2) := by decide +kernel
theorem dX7_partOf_106 : decode cX7_partOf 106 = .ok (.lrem, 1) := by decide +kernel
theorem dX7_partOf_107 : decode cX7_partOf 107 = .ok (.lstore 14, 2) := by decide +kernel
theorem dX7_partOf_109 : decode cX7_partOf 109 = .ok (.lload 14, 2) := by decide +kernel
theorem dX7_partOf_111 : decode cX7_partOf 111 = .ok (.lload 6, 2) := by decide +kernel
theorem dX7_partOf_113 : decode cX7_partOf 113 = .ok (.lcmp, 1) := by decide +kernel
theorem dX7_partOf_114 : decode cX7_partOf 114 = .ok (.ifCond .gt 17, 3) := by decide +kernel
theorem dX7_partOf_117 : decode cX7_partOf 117 = .ok (.lload 14, 2) := by decide +kernel
theorem dX7_partOf_119 : decode cX7_partOf 119 = .ok (.lload 6, 2) := by decide +kernel
theorem dX7_partOf_121 : decode cX7_partOf 121 = .ok (.lcmp, 1) := by decide +kernel
theorem dX7_partOf_122 : decode cX7_partOf 122 = .ok (.ifCond .ne 12, 3) := by decide +kernel
theorem dX7_partOf_125 : decode cX7_partOf 125 = .ok (.iload 11, 2) := by decide +kernel
theorem dX7_partOf_127 : decode cX7_partOf 127 = .ok (.iload_n 1, 1) := by decide +kernel
theorem dX7_partOf_128 : decode cX7_partOf 128 = .ok (.if_icmp .ge 6, 3) := by decide +kernel
theorem dX7_partOf_131 : decode cX7_partOf 131 = .ok (.iinc 10 1, 3) := by decide +kernel
theorem dX7_partOf_134 : decode cX7_partOf 134 = .ok (.iinc 11 1, 3) := by decide +kernel
theorem dX7_partOf_137 : decode cX7_partOf 137 = .ok (.goto (-63), 3) := by decide +kernel
theorem dX7_partOf_140 : decode cX7_partOf 140 = .ok (.lload_n 2, 1) := by decide +kernel
theorem dX7_partOf_141 : decode cX7_partOf 141 = .ok (.aload_n 0, 1) := by decide +kernel
theorem dX7_partOf_142 : decode cX7_partOf 142 = .ok (.getfield 28, 3) := by decide +kernel
theorem dX7_partOf_145 : decode cX7_partOf 145 = .ok (.iload_n 1, 1) := by decide +kernel
theorem dX7_partOf_146 : decode cX7_partOf 146 = .ok (.laload, 1) := by decide +kernel
theorem dX7_partOf_147 : decode cX7_partOf 147 = .ok (.lmul, 1) := by decide +kernel
theorem dX7_partOf_148 : decode cX7_partOf 148 = .ok (.lload 4, 2) := by decide +kernel
theorem dX7_partOf_150 : decode cX7_partOf 150 = .ok (.ldiv, 1) := by decide +kernel
theorem dX7_partOf_151 : decode cX7_partOf 151 = .ok (.iload 10, 2) := by decide +kernel
theorem dX7_partOf_153 : decode cX7_partOf 153 = .ok (.i2l, 1) := by decide +kernel
theorem dX7_partOf_154 : decode cX7_partOf 154 = .ok (.lload 8, 2) := by decide +kernel
theorem dX7_partOf_156 : decode cX7_partOf 156 = .ok (.lcmp, 1) := by decide +kernel
theorem dX7_partOf_157 : decode cX7_partOf 157 = .ok (.ifCond .ge 7, 3) := by decide +kernel
theorem dX7_partOf_160 : decode cX7_partOf 160 = .ok (.iconst 1, 1) := by decide +kernel
theorem dX7_partOf_161 : decode cX7_partOf 161 = .ok (.goto 4, 3) := by decide +kernel
theorem dX7_partOf_164 : decode cX7_partOf 164 = .ok (.iconst 0, 1) := by decide +kernel
theorem dX7_partOf_165 : decode cX7_partOf 165 = .ok (.invokestatic 149, 3) := by decide +kernel
theorem dX7_partOf_168 : decode cX7_partOf 168 = .ok (.i2l, 1) := by decide +kernel
theorem dX7_partOf_169 : decode cX7_partOf 169 = .ok (.ladd, 1) := by decide +kernel
theorem dX7_partOf_170 : decode cX7_partOf 170 = .ok (.lreturn, 1) := by decide +kernel
def f_X7_partOf_b140 (M : q_Mem) (a0 : Nat) (a1 : Int32) (a2 : Int64) (a4 : Int64) (a8 : Int64) (a10 : Int32) : Option Int64 :=
  (q_gR 6 9 M a0).bind fun v27 =>
  (q_lJ M v27 a1).bind fun v29 =>
  (q_ldv (a2 * v29) a4).bind fun v31 =>
  (if a10.toInt64 < a8 then
    (f_X11_asNumber M (1 : Int32)).bind fun v34 =>
    some (v31 + v34.toInt64)
  else
    (f_X11_asNumber M (0 : Int32)).bind fun v36 =>
    some (v31 + v36.toInt64))
def f_X7_partOf_b74 (M : q_Mem) (a0 : Nat) (a1 : Int32) (a2 : Int64) (a4 : Int64) (a6 : Int64) : Nat → Int64 → Int32 → Int32 → Option Int64
  | 0, _, _, _ => none
  | n + 1, a8, a10, a11 =>
    (if a11 < (20 : Int32) then
      (q_gR 6 9 M a0).bind fun v15 =>
      (q_lJ M v15 a11).bind fun v17 =>
      (q_ldv (a2 * v17) a4).bind fun v19 =>
      (q_lrm (a2 * v17) a4).bind fun v21 =>
      (if a6 < v21 then
        f_X7_partOf_b74 M a0 a1 a2 a4 a6 n (a8 - v19) (a10 + (1 : Int32)) (a11 + (1 : Int32))
      else
        (if v21 = a6 then
          (if a11 < a1 then
            f_X7_partOf_b74 M a0 a1 a2 a4 a6 n (a8 - v19) (a10 + (1 : Int32)) (a11 + (1 : Int32))
          else
            f_X7_partOf_b74 M a0 a1 a2 a4 a6 n (a8 - v19) a10 (a11 + (1 : Int32)))
        else
          f_X7_partOf_b74 M a0 a1 a2 a4 a6 n (a8 - v19) a10 (a11 + (1 : Int32))))
    else
      f_X7_partOf_b140 M a0 a1 a2 a4 a8 a10)
def f_X7_partOf_b43 (M : q_Mem) (a0 : Nat) (a1 : Int32) (a2 : Int64) (a4 : Int64) : Option Int64 :=
  (if a4 = (0 : Int64) then
    some (0 : Int64)
  else
    (q_gR 6 9 M a0).bind fun v8 =>
    (q_lJ M v8 a1).bind fun v10 =>
    (q_lrm (a2 * v10) a4).bind fun v12 =>
    f_X7_partOf_b74 M a0 a1 a2 a4 v12 q_fuel a2 (0 : Int32) (0 : Int32))
def f_X7_partOf_b18 (M : q_Mem) (a0 : Nat) (a1 : Int32) (a2 : Int64) : Nat → Int64 → Int32 → Option Int64
  | 0, _, _ => none
  | n + 1, a4, a6 =>
    (if a6 < (20 : Int32) then
      (q_gR 6 9 M a0).bind fun v3 =>
      (q_lJ M v3 a6).bind fun v5 =>
      f_X7_partOf_b18 M a0 a1 a2 n (a4 + v5) (a6 + (1 : Int32))
    else
      f_X7_partOf_b43 M a0 a1 a2 a4)
def f_X7_partOf (M : q_Mem) (a0 : Nat) (a1 : Int32) (a2 : Int64) : Option Int64 :=
  q_ob 6 M a0 ((if a1 < 0 then
    some (0 : Int64)
  else
    (if a1 < (20 : Int32) then
      f_X7_partOf_b18 M a0 a1 a2 q_fuel (0 : Int64) (0 : Int32)
    else
      some (0 : Int64))))
set_option maxRecDepth 20000 in
theorem v_X7_partOf_b140 {M : q_Mem} {a0 : Nat} {a1 : Int32} {a2 : Int64} {a4 : Int64} {a8 : Int64} {a10 : Int32}  : q_V Y_X7_partOf none (fun x : Int64 => (some (.long x), M)) 0 0 140 [(0, .ref a0), (1, .int a1), (2, .long a2), (4, .long a4), (8, .long a8), (10, .int a10)] [] M (f_X7_partOf_b140 M a0 a1 a2 a4 a8 a10 ) := by
  unfold f_X7_partOf_b140
  refine q_lload_n 2 dX7_partOf_140 rfl ?_
  refine q_aload_n 0 dX7_partOf_141 rfl ?_
  refine q_getR (f := 9) cl_X7 (by decide) qw_269 rfl dX7_partOf_142 (fun _ _ _ => rfl) (fun v27 h28 => ?_)
  refine q_iload_n 1 dX7_partOf_145 rfl ?_
  refine q_lald dX7_partOf_146 (fun v29 h30 => ?_)
  refine q_lmul dX7_partOf_147 ?_
  refine q_lload 3 dX7_partOf_148 rfl ?_
  refine q_ldiv dX7_partOf_150 (fun v31 h32 => ?_)
  refine q_iload 5 dX7_partOf_151 rfl ?_
  refine q_i2l dX7_partOf_153 ?_
  refine q_lload 4 dX7_partOf_154 rfl ?_
  refine q_lcmp_ge (tgt := 164) dX7_partOf_156 dX7_partOf_157 (by decide) (fun c37 => ?_) (fun c37 => ?_)
  · refine q_iconst (x := (1 : Int32)) dX7_partOf_160 rfl ?_
    refine q_goto (tgt := 165) dX7_partOf_161 (by decide) ?_
    refine q_cNI (Y2 := Y_X11_asNumber) (As := [.int (1 : Int32)]) (st := [.long v31]) ms_X11_asNumber (host := "CountyCream") (by decide +kernel) dX7_partOf_165 ⟨Nat.le_of_ble_eq_true rfl, Nat.le_of_ble_eq_true rfl⟩ rfl (fun _ _ => rfl) (Nat.le_of_ble_eq_true rfl) ⟨Nat.le_of_ble_eq_true rfl, Nat.le_of_ble_eq_true rfl⟩ (fun v34 h33 => m_X11_asNumber h33) (fun v34 h33 => ?_)
    refine q_i2l dX7_partOf_168 ?_
    refine q_ladd dX7_partOf_169 ?_
    exact q_lret dX7_partOf_170 rfl rfl (Nat.le_of_ble_eq_true rfl) rfl
  · refine q_iconst (x := (0 : Int32)) dX7_partOf_164 rfl ?_
    refine q_cNI (Y2 := Y_X11_asNumber) (As := [.int (0 : Int32)]) (st := [.long v31]) ms_X11_asNumber (host := "CountyCream") (by decide +kernel) dX7_partOf_165 ⟨Nat.le_of_ble_eq_true rfl, Nat.le_of_ble_eq_true rfl⟩ rfl (fun _ _ => rfl) (Nat.le_of_ble_eq_true rfl) ⟨Nat.le_of_ble_eq_true rfl, Nat.le_of_ble_eq_true rfl⟩ (fun v36 h35 => m_X11_asNumber h35) (fun v36 h35 => ?_)
    refine q_i2l dX7_partOf_168 ?_
    refine q_ladd dX7_partOf_169 ?_
    exact q_lret dX7_partOf_170 rfl rfl (Nat.le_of_ble_eq_true rfl) rfl
set_option maxRecDepth 20000 in
theorem v_X7_partOf_b74 {M : q_Mem} {a0 : Nat} {a1 : Int32} {a2 : Int64} {a4 : Int64} {a6 : Int64}  : ∀ (n : Nat) (a8 : Int64) (a10 : Int32) (a11 : Int32), q_V Y_X7_partOf none (fun x : Int64 => (some (.long x), M)) 0 0 74 [(0, .ref a0), (1, .int a1), (2, .long a2), (4, .long a4), (6, .long a6), (8, .long a8), (10, .int a10), (11, .int a11)] [] M (f_X7_partOf_b74 M a0 a1 a2 a4 a6 n a8 a10 a11) := by
  intro n
  induction n with
  | zero => intro a8 a10 a11; exact q_none
  | succ n ih =>
    intro a8 a10 a11
    rw [f_X7_partOf_b74.eq_2]
    refine q_iload 7 dX7_partOf_74 rfl ?_
    refine q_bipush (x := (20 : Int32)) dX7_partOf_76 rfl ?_
    refine q_icmp_ge (tgt := 140) dX7_partOf_78 (by decide) (fun c26 => ?_) (fun c26 => ?_)
    · refine q_lload_n 2 dX7_partOf_81 rfl ?_
      refine q_aload_n 0 dX7_partOf_82 rfl ?_
      refine q_getR (f := 9) cl_X7 (by decide) qw_269 rfl dX7_partOf_83 (fun _ _ _ => rfl) (fun v15 h16 => ?_)
      refine q_iload 7 dX7_partOf_86 rfl ?_
      refine q_lald dX7_partOf_88 (fun v17 h18 => ?_)
      refine q_lmul dX7_partOf_89 ?_
      refine q_lstore (ls' := [(12, .long (a2 * v17)), (0, .ref a0), (1, .int a1), (2, .long a2), (4, .long a4), (6, .long a6), (8, .long a8), (10, .int a10), (11, .int a11)]) dX7_partOf_90 (by decide) rfl ?_
      refine q_lload 6 dX7_partOf_92 rfl ?_
      refine q_lload 0 dX7_partOf_94 rfl ?_
      refine q_lload 4 dX7_partOf_96 rfl ?_
      refine q_ldiv dX7_partOf_98 (fun v19 h20 => ?_)
      refine q_lsub dX7_partOf_99 ?_
      refine q_lstore (ls' := [(8, .long (a8 - v19)), (12, .long (a2 * v17)), (0, .ref a0), (1, .int a1), (2, .long a2), (4, .long a4), (6, .long a6), (10, .int a10), (11, .int a11)]) dX7_partOf_100 (by decide) rfl ?_
      refine q_lload 1 dX7_partOf_102 rfl ?_
      refine q_lload 5 dX7_partOf_104 rfl ?_
      refine q_lrem dX7_partOf_106 (fun v21 h22 => ?_)
      refine q_lstore (ls' := [(14, .long v21), (8, .long (a8 - v19)), (12, .long (a2 * v17)), (0, .ref a0), (1, .int a1), (2, .long a2), (4, .long a4), (6, .long a6), (10, .int a10), (11, .int a11)]) dX7_partOf_107 (by decide) rfl ?_
      refine q_lload 0 dX7_partOf_109 rfl ?_
      refine q_lload 7 dX7_partOf_111 rfl ?_
      refine q_lcmp_gt (tgt := 131) dX7_partOf_113 dX7_partOf_114 (by decide) (fun c25 => ?_) (fun c25 => ?_)
      · refine q_iinc 8 (y := (a10 + (1 : Int32))) (ls' := [(10, .int (a10 + (1 : Int32))), (14, .long v21), (8, .long (a8 - v19)), (12, .long (a2 * v17)), (0, .ref a0), (1, .int a1), (2, .long a2), (4, .long a4), (6, .long a6), (11, .int a11)]) dX7_partOf_131 rfl rfl (by decide) rfl ?_
        refine q_iinc 9 (y := (a11 + (1 : Int32))) (ls' := [(11, .int (a11 + (1 : Int32))), (10, .int (a10 + (1 : Int32))), (14, .long v21), (8, .long (a8 - v19)), (12, .long (a2 * v17)), (0, .ref a0), (1, .int a1), (2, .long a2), (4, .long a4), (6, .long a6)]) dX7_partOf_134 rfl rfl (by decide) rfl ?_
        refine q_goto (tgt := 74) dX7_partOf_137 (by decide) ?_
        refine q_sub (ls' := [(0, .ref a0), (1, .int a1), (2, .long a2), (4, .long a4), (6, .long a6), (8, .long (a8 - v19)), (10, .int (a10 + (1 : Int32))), (11, .int (a11 + (1 : Int32)))]) [5, 6, 7, 8, 9, 3, 1, 0] rfl ?_
        exact ih _ _ _
      · refine q_lload 0 dX7_partOf_117 rfl ?_
        refine q_lload 7 dX7_partOf_119 rfl ?_
        refine q_lcmp_ne (tgt := 134) dX7_partOf_121 dX7_partOf_122 (by decide) (fun c24 => ?_) (fun c24 => ?_)
        · refine q_iload 9 dX7_partOf_125 rfl ?_
          refine q_iload_n 4 dX7_partOf_127 rfl ?_
          refine q_icmp_ge (tgt := 134) dX7_partOf_128 (by decide) (fun c23 => ?_) (fun c23 => ?_)
          · refine q_iinc 8 (y := (a10 + (1 : Int32))) (ls' := [(10, .int (a10 + (1 : Int32))), (14, .long v21), (8, .long (a8 - v19)), (12, .long (a2 * v17)), (0, .ref a0), (1, .int a1), (2, .long a2), (4, .long a4), (6, .long a6), (11, .int a11)]) dX7_partOf_131 rfl rfl (by decide) rfl ?_
            refine q_iinc 9 (y := (a11 + (1 : Int32))) (ls' := [(11, .int (a11 + (1 : Int32))), (10, .int (a10 + (1 : Int32))), (14, .long v21), (8, .long (a8 - v19)), (12, .long (a2 * v17)), (0, .ref a0), (1, .int a1), (2, .long a2), (4, .long a4), (6, .long a6)]) dX7_partOf_134 rfl rfl (by decide) rfl ?_
            refine q_goto (tgt := 74) dX7_partOf_137 (by decide) ?_
            refine q_sub (ls' := [(0, .ref a0), (1, .int a1), (2, .long a2), (4, .long a4), (6, .long a6), (8, .long (a8 - v19)), (10, .int (a10 + (1 : Int32))), (11, .int (a11 + (1 : Int32)))]) [5, 6, 7, 8, 9, 3, 1, 0] rfl ?_
            exact ih _ _ _
          · refine q_iinc 9 (y := (a11 + (1 : Int32))) (ls' := [(11, .int (a11 + (1 : Int32))), (14, .long v21), (8, .long (a8 - v19)), (12, .long (a2 * v17)), (0, .ref a0), (1, .int a1), (2, .long a2), (4, .long a4), (6, .long a6), (10, .int a10)]) dX7_partOf_134 rfl rfl (by decide) rfl ?_
            refine q_goto (tgt := 74) dX7_partOf_137 (by decide) ?_
            refine q_sub (ls' := [(0, .ref a0), (1, .int a1), (2, .long a2), (4, .long a4), (6, .long a6), (8, .long (a8 - v19)), (10, .int a10), (11, .int (a11 + (1 : Int32)))]) [4, 5, 6, 7, 8, 2, 9, 0] rfl ?_
            exact ih _ _ _
        · refine q_iinc 9 (y := (a11 + (1 : Int32))) (ls' := [(11, .int (a11 + (1 : Int32))), (14, .long v21), (8, .long (a8 - v19)), (12, .long (a2 * v17)), (0, .ref a0), (1, .int a1), (2, .long a2), (4, .long a4), (6, .long a6), (10, .int a10)]) dX7_partOf_134 rfl rfl (by decide) rfl ?_
          refine q_goto (tgt := 74) dX7_partOf_137 (by decide) ?_
          refine q_sub (ls' := [(0, .ref a0), (1, .int a1), (2, .long a2), (4, .long a4), (6, .long a6), (8, .long (a8 - v19)), (10, .int a10), (11, .int (a11 + (1 : Int32)))]) [4, 5, 6, 7, 8, 2, 9, 0] rfl ?_
          exact ih _ _ _
    · refine q_sub (ls' := [(0, .ref a0), (1, .int a1), (2, .long a2), (4, .long a4), (8, .long a8), (10, .int a10)]) [0, 1, 2, 3, 5, 6] rfl ?_
      exact v_X7_partOf_b140
set_option maxRecDepth 20000 in
theorem v_X7_partOf_b43 {M : q_Mem} {a0 : Nat} {a1 : Int32} {a2 : Int64} {a4 : Int64}  : q_V Y_X7_partOf none (fun x : Int64 => (some (.long x), M)) 0 0 43 [(0, .ref a0), (1, .int a1), (2, .long a2), (4, .long a4)] [] M (f_X7_partOf_b43 M a0 a1 a2 a4 ) := by
  unfold f_X7_partOf_b43
  refine q_lload 3 dX7_partOf_43 rfl ?_
  refine q_lconst (x := (0 : Int64)) dX7_partOf_45 rfl ?_
  refine q_lcmp_ne (tgt := 52) dX7_partOf_46 dX7_partOf_47 (by decide) (fun c14 => ?_) (fun c14 => ?_)
  · refine q_lconst (x := (0 : Int64)) dX7_partOf_50 rfl ?_
    exact q_lret dX7_partOf_51 rfl rfl (Nat.le_of_ble_eq_true rfl) rfl
  · refine q_lload_n 2 dX7_partOf_52 rfl ?_
    refine q_aload_n 0 dX7_partOf_53 rfl ?_
    refine q_getR (f := 9) cl_X7 (by decide) qw_269 rfl dX7_partOf_54 (fun _ _ _ => rfl) (fun v8 h9 => ?_)
    refine q_iload_n 1 dX7_partOf_57 rfl ?_
    refine q_lald dX7_partOf_58 (fun v10 h11 => ?_)
    refine q_lmul dX7_partOf_59 ?_
    refine q_lload 3 dX7_partOf_60 rfl ?_
    refine q_lrem dX7_partOf_62 (fun v12 h13 => ?_)
    refine q_lstore (ls' := [(6, .long v12), (0, .ref a0), (1, .int a1), (2, .long a2), (4, .long a4)]) dX7_partOf_63 (by decide) rfl ?_
    refine q_lload_n 3 dX7_partOf_65 rfl ?_
    refine q_lstore (ls' := [(8, .long a2), (6, .long v12), (0, .ref a0), (1, .int a1), (2, .long a2), (4, .long a4)]) dX7_partOf_66 (by decide) rfl ?_
    refine q_iconst (x := (0 : Int32)) dX7_partOf_68 rfl ?_
    refine q_istore (ls' := [(10, .int (0 : Int32)), (8, .long a2), (6, .long v12), (0, .ref a0), (1, .int a1), (2, .long a2), (4, .long a4)]) dX7_partOf_69 (by decide) rfl ?_
    refine q_iconst (x := (0 : Int32)) dX7_partOf_71 rfl ?_
    refine q_istore (ls' := [(11, .int (0 : Int32)), (10, .int (0 : Int32)), (8, .long a2), (6, .long v12), (0, .ref a0), (1, .int a1), (2, .long a2), (4, .long a4)]) dX7_partOf_72 (by decide) rfl ?_
    refine q_sub (ls' := [(0, .ref a0), (1, .int a1), (2, .long a2), (4, .long a4), (6, .long v12), (8, .long a2), (10, .int (0 : Int32)), (11, .int (0 : Int32))]) [4, 5, 6, 7, 3, 2, 1, 0] rfl ?_
    exact v_X7_partOf_b74 _ _ _ _
set_option maxRecDepth 20000 in
theorem v_X7_partOf_b18 {M : q_Mem} {a0 : Nat} {a1 : Int32} {a2 : Int64}  : ∀ (n : Nat) (a4 : Int64) (a6 : Int32), q_V Y_X7_partOf none (fun x : Int64 => (some (.long x), M)) 0 0 18 [(0, .ref a0), (1, .int a1), (2, .long a2), (4, .long a4), (6, .int a6)] [] M (f_X7_partOf_b18 M a0 a1 a2 n a4 a6) := by
  intro n
  induction n with
  | zero => intro a4 a6; exact q_none
  | succ n ih =>
    intro a4 a6
    rw [f_X7_partOf_b18.eq_2]
    refine q_iload 4 dX7_partOf_18 rfl ?_
    refine q_bipush (x := (20 : Int32)) dX7_partOf_20 rfl ?_
    refine q_icmp_ge (tgt := 43) dX7_partOf_22 (by decide) (fun c7 => ?_) (fun c7 => ?_)
    · refine q_lload 3 dX7_partOf_25 rfl ?_
      refine q_aload_n 0 dX7_partOf_27 rfl ?_
      refine q_getR (f := 9) cl_X7 (by decide) qw_269 rfl dX7_partOf_28 (fun _ _ _ => rfl) (fun v3 h4 => ?_)
      refine q_iload 4 dX7_partOf_31 rfl ?_
      refine q_lald dX7_partOf_33 (fun v5 h6 => ?_)
      refine q_ladd dX7_partOf_34 ?_
      refine q_lstore (ls' := [(4, .long (a4 + v5)), (0, .ref a0), (1, .int a1), (2, .long a2), (6, .int a6)]) dX7_partOf_35 (by decide) rfl ?_
      refine q_iinc 4 (y := (a6 + (1 : Int32))) (ls' := [(6, .int (a6 + (1 : Int32))), (4, .long (a4 + v5)), (0, .ref a0), (1, .int a1), (2, .long a2)]) dX7_partOf_37 rfl rfl (by decide) rfl ?_
      refine q_goto (tgt := 18) dX7_partOf_40 (by decide) ?_
      refine q_sub (ls' := [(0, .ref a0), (1, .int a1), (2, .long a2), (4, .long (a4 + v5)), (6, .int (a6 + (1 : Int32)))]) [2, 3, 4, 1, 0] rfl ?_
      exact ih _ _
    · refine q_sub (ls' := [(0, .ref a0), (1, .int a1), (2, .long a2), (4, .long a4)]) [0, 1, 2, 3] rfl ?_
      exact v_X7_partOf_b43
set_option maxRecDepth 20000 in
theorem m_X7_partOf {M : q_Mem} {a0 : Nat} {a1 : Int32} {a2 : Int64} {x : Int64} (h : f_X7_partOf M a0 a1 a2 = some x) : q_C Y_X7_partOf [.ref a0, .int a1, .long a2] M (some (.long x)) M := by
  refine q_met (φ := (fun x : Int64 => (some (.long x), M))) (r := f_X7_partOf M a0 a1 a2) (by decide +kernel) (Nat.le_of_ble_eq_true rfl) ?_ h (fun _ _ => rfl)
  show q_V Y_X7_partOf none (fun x : Int64 => (some (.long x), M)) 0 0 0 [(0, .ref a0), (1, .int a1), (2, .long a2)] [] M (f_X7_partOf M a0 a1 a2)
  unfold f_X7_partOf
  refine q_obV ?_
  refine q_iload_n 1 dX7_partOf_0 rfl ?_
  refine q_if_lt (tgt := 10) dX7_partOf_1 (by decide) (fun c2 => ?_) (fun c2 => ?_)
  · refine q_lconst (x := (0 : Int64)) dX7_partOf_10 rfl ?_
    exact q_lret dX7_partOf_11 rfl rfl (Nat.le_of_ble_eq_true rfl) rfl
  · refine q_iload_n 1 dX7_partOf_4 rfl ?_
    refine q_bipush (x := (20 : Int32)) dX7_partOf_5 rfl ?_
    refine q_icmp_lt (tgt := 12) dX7_partOf_7 (by decide) (fun c1 => ?_) (fun c1 => ?_)
    · refine q_lconst (x := (0 : Int64)) dX7_partOf_12 rfl ?_
      refine q_lstore (ls' := [(4, .long (0 : Int64)), (0, .ref a0), (1, .int a1), (2, .long a2)]) dX7_partOf_13 (by decide) rfl ?_
      refine q_iconst (x := (0 : Int32)) dX7_partOf_15 rfl ?_
      refine q_istore (ls' := [(6, .int (0 : Int32)), (4, .long (0 : Int64)), (0, .ref a0), (1, .int a1), (2, .long a2)]) dX7_partOf_16 (by decide) rfl ?_
      refine q_sub (ls' := [(0, .ref a0), (1, .int a1), (2, .long a2), (4, .long (0 : Int64)), (6, .int (0 : Int32))]) [2, 3, 4, 1, 0] rfl ?_
      exact v_X7_partOf_b18 _ _ _
    · refine q_lconst (x := (0 : Int64)) dX7_partOf_10 rfl ?_
      exact q_lret dX7_partOf_11 rfl rfl (Nat.le_of_ble_eq_true rfl) rfl
theorem dX8_init_0 : decode cX8_init 0 = .ok (.aload_n 0, 1) := by decide +kernel
theorem dX8_init_1 : decode cX8_init 1 = .ok (.invokespecial 3, 3) := by decide +kernel
theorem dX8_init_4 : decode cX8_init 4 = .ok (.aload_n 0, 1) := by decide +kernel
theorem dX8_init_5 : decode cX8_init 5 = .ok (.bipush 60, 2) := by decide +kernel
theorem dX8_init_7 : decode cX8_init 7 = .ok (.newarray .int, 2) := by decide +kernel
theorem dX8_init_9 : decode cX8_init 9 = .ok (.putfield 9, 3) := by decide +kernel
theorem dX8_init_12 : decode cX8_init 12 = .ok (.aload_n 0, 1) := by decide +kernel
theorem dX8_init_13 : decode cX8_init 13 = .ok (.bipush 8, 2) := by decide +kernel
theorem dX8_init_15 : decode cX8_init 15 = .ok (.newarray .long, 2) := by decide +kernel
theorem dX8_init_17 : decode cX8_init 17 = .ok (.putfield 15, 3) := by decide +kernel
theorem dX8_init_20 : decode cX8_init 20 = .ok (.aload_n 0, 1) := by decide +kernel
theorem dX8_init_21 : decode cX8_init 21 = .ok (.bipush 60, 2) := by decide +kernel
theorem dX8_init_23 : decode cX8_init 23 = .ok (.newarray .long, 2) := by decide +kernel
theorem dX8_init_25 : decode cX8_init 25 = .ok (.putfield 19, 3) := by decide +kernel
theorem dX8_init_28 : decode cX8_init 28 = .ok (.aload_n 0, 1) := by decide +kernel
theorem dX8_init_29 : decode cX8_init 29 = .ok (.bipush 60, 2) := by decide +kernel
theorem dX8_init_31 : decode cX8_init 31 = .ok (.newarray .int, 2) := by decide +kernel
theorem dX8_init_33 : decode cX8_init 33 = .ok (.putfield 22, 3) := by decide +kernel
theorem dX8_init_36 : decode cX8_init 36 = .ok (.aload_n 0, 1) := by decide +kernel
theorem dX8_init_37 : decode cX8_init 37 = .ok (.bipush 60, 2) := by decide +kernel
theorem dX8_init_39 : decode cX8_init 39 = .ok (.newarray .boolean, 2) := by decide +kernel
theorem dX8_init_41 : decode cX8_init 41 = .ok (.putfield 25, 3) := by decide +kernel
theorem dX8_init_44 : decode cX8_init 44 = .ok (.return_, 1) := by decide +kernel
def f_X8_init (M : q_Mem) (a0 : Nat) : Option q_Mem :=
  q_ob 7 M a0 ((q_na M 100 (60 : Int32)).bind fun M1 =>
  (q_pR 7 0 M1 a0 M.1).bind fun M2 =>
  (q_na M2 101 (8 : Int32)).bind fun M4 =>
  (q_pR 7 2 M4 a0 M2.1).bind fun M5 =>
  (q_na M5 101 (60 : Int32)).bind fun M7 =>
  (q_pR 7 3 M7 a0 M5.1).bind fun M8 =>
  (q_na M8 100 (60 : Int32)).bind fun M10 =>
  (q_pR 7 5 M10 a0 M8.1).bind fun M11 =>
  (q_na M11 102 (60 : Int32)).bind fun M13 =>
  (q_pR 7 6 M13 a0 M11.1).bind fun M14 =>
  some M14)
set_option maxRecDepth 20000 in
theorem m_X8_init {M : q_Mem} {a0 : Nat} {x : q_Mem} (h : f_X8_init M a0 = some x) : q_C Y_X8_init [.ref a0] M none x := by
  refine q_met (φ := (fun x : q_Mem => (none, x))) (r := f_X8_init M a0) (by decide +kernel) (Nat.le_of_ble_eq_true rfl) ?_ h (fun _ _ => rfl)
  show q_V Y_X8_init none (fun x : q_Mem => (none, x)) 0 0 0 [(0, .ref a0)] [] M (f_X8_init M a0)
  unfold f_X8_init
  refine q_obV ?_
  refine q_aload_n 0 dX8_init_0 rfl ?_
  refine q_objInit qw_192 qo_2 qo_3 dX8_init_1 (Nat.le_of_ble_eq_true rfl) (Nat.le_of_ble_eq_true rfl) (Nat.le_of_ble_eq_true rfl) ?_
  refine q_aload_n 0 dX8_init_4 rfl ?_
  refine q_bipush (x := (60 : Int32)) dX8_init_5 rfl ?_
  refine q_newarr (at_ := .int) (ty := .int) (len := 60) rfl qa_int (Or.inl ⟨rfl, rfl, rfl⟩) (by decide) rfl (by decide) (Nat.le_of_ble_eq_true rfl) (Nat.le_of_ble_eq_true rfl) dX8_init_7 ?_
  refine q_putR (f := 0) cl_X8 (by decide) qw_193 rfl (Or.inr ⟨rfl, rfl, rfl⟩) dX8_init_9 (fun _ _ _ => rfl) (fun _ => rfl) (fun _ => rfl) (fun M2 h3 => ?_)
  refine q_aload_n 0 dX8_init_12 rfl ?_
  refine q_bipush (x := (8 : Int32)) dX8_init_13 rfl ?_
  refine q_newarr (at_ := .long) (ty := .long) (len := 8) rfl qa_long (Or.inr (Or.inl ⟨rfl, rfl, rfl⟩)) (by decide) rfl (by decide) (Nat.le_of_ble_eq_true rfl) (Nat.le_of_ble_eq_true rfl) dX8_init_15 ?_
  refine q_putR (f := 2) cl_X8 (by decide) qw_195 rfl (Or.inr ⟨rfl, rfl, rfl⟩) dX8_init_17 (fun _ _ _ => rfl) (fun _ => rfl) (fun _ => rfl) (fun M5 h6 => ?_)
  refine q_aload_n 0 dX8_init_20 rfl ?_
  refine q_bipush (x := (60 : Int32)) dX8_init_21 rfl ?_
  refine q_newarr (at_ := .long) (ty := .long) (len := 60) rfl qa_long (Or.inr (Or.inl ⟨rfl, rfl, rfl⟩)) (by decide) rfl (by decide) (Nat.le_of_ble_eq_true rfl) (Nat.le_of_ble_eq_true rfl) dX8_init_23 ?_
  refine q_putR (f := 3) cl_X8 (by decide) qw_196 rfl (Or.inr ⟨rfl, rfl, rfl⟩) dX8_init_25 (fun _ _ _ => rfl) (fun _ => rfl) (fun _ => rfl) (fun M8 h9 => ?_)
  refine q_aload_n 0 dX8_init_28 rfl ?_
  refine q_bipush (x := (60 : Int32)) dX8_init_29 rfl ?_
  refine q_newarr (at_ := .int) (ty := .int) (len := 60) rfl qa_int (Or.inl ⟨rfl, rfl, rfl⟩) (by decide) rfl (by decide) (Nat.le_of_ble_eq_true rfl) (Nat.le_of_ble_eq_true rfl) dX8_init_31 ?_
  refine q_putR (f := 5) cl_X8 (by decide) qw_198 rfl (Or.inr ⟨rfl, rfl, rfl⟩) dX8_init_33 (fun _ _ _ => rfl) (fun _ => rfl) (fun _ => rfl) (fun M11 h12 => ?_)
  refine q_aload_n 0 dX8_init_36 rfl ?_
  refine q_bipush (x := (60 : Int32)) dX8_init_37 rfl ?_
  refine q_newarr (at_ := .boolean) (ty := .boolean) (len := 60) rfl qa_boolean (Or.inr (Or.inr ⟨rfl, rfl, rfl⟩)) (by decide) rfl (by decide) (Nat.le_of_ble_eq_true rfl) (Nat.le_of_ble_eq_true rfl) dX8_init_39 ?_
  refine q_putR (f := 6) cl_X8 (by decide) qw_199 rfl (Or.inr ⟨rfl, rfl, rfl⟩) dX8_init_41 (fun _ _ _ => rfl) (fun _ => rfl) (fun _ => rfl) (fun M14 h15 => ?_)
  exact q_vret dX8_init_44 rfl rfl (Nat.le_of_ble_eq_true rfl) rfl
theorem dX9_has_0 : decode cX9_has 0 = .ok (.iload_n 1, 1) := by decide +kernel
theorem dX9_has_1 : decode cX9_has 1 = .ok (.ifCond .lt 15, 3) := by decide +kernel
theorem dX9_has_4 : decode cX9_has 4 = .ok (.iload_n 1, 1) := by decide +kernel
theorem dX9_has_5 : decode cX9_has 5 = .ok (.aload_n 0, 1) := by decide +kernel
theorem dX9_has_6 : decode cX9_has 6 = .ok (.getfield 28, 3) := by decide +kernel
theorem dX9_has_9 : decode cX9_has 9 = .ok (.if_icmp .ge 7, 3) := by decide +kernel
theorem dX9_has_12 : decode cX9_has 12 = .ok (.iconst 1, 1) := by decide +kernel
theorem dX9_has_13 : decode cX9_has 13 = .ok (.goto 4, 3) := by decide +kernel
theorem dX9_has_16 : decode cX9_has 16 = .ok (.iconst 0, 1) := by decide +kernel
theorem dX9_has_17 : decode cX9_has 17 = .ok (.ireturn, 1) := by decide +kernel
def f_X9_has (M : q_Mem) (a0 : Nat) (a1 : Int32) : Option Int32 :=
  q_ob 8 M a0 ((if a1 < 0 then
    some (0 : Int32)
  else
    (q_gI 8 3 M a0).bind fun v1 =>
    (if a1 < v1 then
      some (1 : Int32)
    else
      some (0 : Int32))))
set_option maxRecDepth 20000 in
theorem m_X9_has {M : q_Mem} {a0 : Nat} {a1 : Int32} {x : Int32} (h : f_X9_has M a0 a1 = some x) : q_C Y_X9_has [.ref a0, .int a1] M (some (.int x)) M := by
  refine q_met (φ := (fun x : Int32 => (some (.int x), M))) (r := f_X9_has M a0 a1) (by decide +kernel) (Nat.le_of_ble_eq_true rfl) ?_ h (fun _ _ => rfl)
  show q_V Y_X9_has none (fun x : Int32 => (some (.int x), M)) 0 0 0 [(0, .ref a0), (1, .int a1)] [] M (f_X9_has M a0 a1)
  unfold f_X9_has
  refine q_obV ?_
  refine q_iload_n 1 dX9_has_0 rfl ?_
  refine q_if_lt (tgt := 16) dX9_has_1 (by decide) (fun c4 => ?_) (fun c4 => ?_)
  · refine q_iconst (x := (0 : Int32)) dX9_has_16 rfl ?_
    exact q_zretL dX9_has_17 rfl (Or.inl rfl) rfl (Nat.le_of_ble_eq_true rfl) rfl
  · refine q_iload_n 1 dX9_has_4 rfl ?_
    refine q_aload_n 0 dX9_has_5 rfl ?_
    refine q_getI (f := 3) cl_X9 (by decide) qw_44 rfl dX9_has_6 (Or.inl rfl) (fun v1 h2 => ?_)
    refine q_icmp_ge (tgt := 16) dX9_has_9 (by decide) (fun c3 => ?_) (fun c3 => ?_)
    · refine q_iconst (x := (1 : Int32)) dX9_has_12 rfl ?_
      refine q_goto (tgt := 17) dX9_has_13 (by decide) ?_
      exact q_zretL dX9_has_17 rfl (Or.inr rfl) rfl (Nat.le_of_ble_eq_true rfl) rfl
    · refine q_iconst (x := (0 : Int32)) dX9_has_16 rfl ?_
      exact q_zretL dX9_has_17 rfl (Or.inl rfl) rfl (Nat.le_of_ble_eq_true rfl) rfl
theorem dX9_digestOn_0 : decode cX9_digestOn 0 = .ok (.lload_n 1, 1) := by decide +kernel
theorem dX9_digestOn_1 : decode cX9_digestOn 1 = .ok (.lstore_n 3, 1) := by decide +kernel
theorem dX9_digestOn_2 : decode cX9_digestOn 2 = .ok (.iconst 0, 1) := by decide +kernel
theorem dX9_digestOn_3 : decode cX9_digestOn 3 = .ok (.istore 5, 2) := by decide +kernel
theorem dX9_digestOn_5 : decode cX9_digestOn 5 = .ok (.iload 5, 2) := by decide +kernel
theorem dX9_digestOn_7 : decode cX9_digestOn 7 = .ok (.aload_n 0, 1) := by decide +kernel
theorem dX9_digestOn_8 : decode cX9_digestOn 8 = .ok (.getfield 28, 3) := by decide +kernel
theorem dX9_digestOn_11 : decode cX9_digestOn 11 = .ok (.if_icmp .ge 43, 3) := by decide +kernel
theorem dX9_digestOn_14 : decode cX9_digestOn 14 = .ok (.iconst 0, 1) := by decide +kernel
theorem dX9_digestOn_15 : decode cX9_digestOn 15 = .ok (.istore 6, 2) := by decide +kernel
theorem dX9_digestOn_17 : decode cX9_digestOn 17 = .ok (.iload 6, 2) := by decide +kernel
theorem dX9_digestOn_19 : decode cX9_digestOn 19 = .ok (.aload_n 0, 1) := by decide +kernel
theorem dX9_digestOn_20 : decode cX9_digestOn 20 = .ok (.getfield 15, 3) := by decide +kernel
theorem dX9_digestOn_23 : decode cX9_digestOn 23 = .ok (.if_icmp .ge 25, 3) := by decide +kernel
theorem dX9_digestOn_26 : decode cX9_digestOn 26 = .ok (.ldc2_w 44, 3) := by decide +kernel
theorem dX9_digestOn_29 : decode cX9_digestOn 29 = .ok (.lload_n 3, 1) := by decide +kernel
theorem dX9_digestOn_30 : decode cX9_digestOn 30 = .ok (.lmul, 1) := by decide +kernel
theorem dX9_digestOn_31 : decode cX9_digestOn 31 = .ok (.aload_n 0, 1) := by decide +kernel
theorem dX9_digestOn_32 : decode cX9_digestOn 32 = .ok (.iload 5, 2) := by decide +kernel
theorem dX9_digestOn_34 : decode cX9_digestOn 34 = .ok (.iload 6, 2) := by decide +kernel
theorem dX9_digestOn_36 : decode cX9_digestOn 36 = .ok (.invokevirtual 46, 3) := by decide +kernel
theorem dX9_digestOn_39 : decode cX9_digestOn 39 = .ok (.i2l, 1) := by decide +kernel
theorem dX9_digestOn_40 : decode cX9_digestOn 40 = .ok (.ladd, 1) := by decide +kernel
theorem dX9_digestOn_41 : decode cX9_digestOn 41 = .ok (.lstore_n 3, 1) := by decide +kernel
theorem dX9_digestOn_42 : decode cX9_digestOn 42 = .ok (.iinc 6 1, 3) := by decide +kernel
theorem dX9_digestOn_45 : decode cX9_digestOn 45 = .ok (.goto (-28), 3) := by decide +kernel
theorem dX9_digestOn_48 : decode cX9_digestOn 48 = .ok (.iinc 5 1, 3) := by decide +kernel
theorem dX9_digestOn_51 : decode cX9_digestOn 51 = .ok (.goto (-46), 3) := by decide +kernel
theorem dX9_digestOn_54 : decode cX9_digestOn 54 = .ok (.lload_n 3, 1) := by decide +kernel
theorem dX9_digestOn_55 : decode cX9_digestOn 55 = .ok (.lreturn, 1) := by decide +kernel
def f_X9_digestOn_b17 (kk5 : Int64 → Int32 → Option Int64) (M : q_Mem) (a0 : Nat) (a5 : Int32) : Nat → Int64 → Int32 → Option Int64
  | 0, _, _ => none
  | n + 1, a3, a6 =>
    (q_gI 8 1 M a0).bind fun v4 =>
    (if a6 < v4 then
      (f_X9_at M a0 a5 a6).bind fun v7 =>
      f_X9_digestOn_b17 kk5 M a0 a5 n (((31 : Int64) * a3) + v7.toInt64) (a6 + (1 : Int32))
    else
      kk5 a3 (a5 + (1 : Int32)))
def f_X9_digestOn_b5 (M : q_Mem) (a0 : Nat) : Nat → Int64 → Int32 → Option Int64
  | 0, _, _ => none
  | n + 1, a3, a5 =>
    (q_gI 8 3 M a0).bind fun v1 =>
    (if a5 < v1 then
      f_X9_digestOn_b17 (f_X9_digestOn_b5 M a0 n) M a0 a5 q_fuel a3 (0 : Int32)
    else
      some a3)
def f_X9_digestOn (M : q_Mem) (a0 : Nat) (a1 : Int64) : Option Int64 :=
  q_ob 8 M a0 (f_X9_digestOn_b5 M a0 q_fuel a1 (0 : Int32))
set_option maxRecDepth 20000 in
theorem v_X9_digestOn_b17 {kk5 : Int64 → Int32 → Option Int64} {M : q_Mem} {a0 : Nat} {a5 : Int32} (hk5 : ∀ (a3 : Int64) (a5 : Int32), q_V Y_X9_digestOn none (fun x : Int64 => (some (.long x), M)) 0 0 5 [(0, .ref a0), (3, .long a3), (5, .int a5)] [] M (kk5 a3 a5)) : ∀ (n : Nat) (a3 : Int64) (a6 : Int32), q_V Y_X9_digestOn none (fun x : Int64 => (some (.long x), M)) 0 0 17 [(0, .ref a0), (3, .long a3), (5, .int a5), (6, .int a6)] [] M (f_X9_digestOn_b17 kk5 M a0 a5 n a3 a6) := by
  intro n
  induction n with
  | zero => intro a3 a6; exact q_none
  | succ n ih =>
    intro a3 a6
    rw [f_X9_digestOn_b17.eq_2]
    refine q_iload 3 dX9_digestOn_17 rfl ?_
    refine q_aload_n 0 dX9_digestOn_19 rfl ?_
    refine q_getI (f := 1) cl_X9 (by decide) qw_42 rfl dX9_digestOn_20 (Or.inl rfl) (fun v4 h5 => ?_)
    refine q_icmp_ge (tgt := 48) dX9_digestOn_23 (by decide) (fun c8 => ?_) (fun c8 => ?_)
    · refine q_ldc2 (x := (31 : Int64)) qw_1105 dX9_digestOn_26 ?_
      refine q_lload_n 1 dX9_digestOn_29 rfl ?_
      refine q_lmul dX9_digestOn_30 ?_
      refine q_aload_n 0 dX9_digestOn_31 rfl ?_
      refine q_iload 2 dX9_digestOn_32 rfl ?_
      refine q_iload 3 dX9_digestOn_34 rfl ?_
      refine q_cVI (Y2 := Y_X9_at) (As := [.int a5, .int a6]) (b := a0) (st := [.long ((31 : Int64) * a3)]) cl_X9 mv_X9_at qw_1106 dX9_digestOn_36 ⟨Nat.le_of_ble_eq_true rfl, Nat.le_of_ble_eq_true rfl⟩ rfl (fun _ _ => rfl) (Nat.le_of_ble_eq_true rfl) ⟨Nat.le_of_ble_eq_true rfl, Nat.le_of_ble_eq_true rfl⟩ (fun v7 h6 => q_ob_is h6) (fun v7 h6 => m_X9_at h6) (fun v7 h6 => ?_)
      refine q_i2l dX9_digestOn_39 ?_
      refine q_ladd dX9_digestOn_40 ?_
      refine q_lstore_n (ls' := [(3, .long (((31 : Int64) * a3) + v7.toInt64)), (0, .ref a0), (5, .int a5), (6, .int a6)]) dX9_digestOn_41 (by decide) rfl ?_
      refine q_iinc 3 (y := (a6 + (1 : Int32))) (ls' := [(6, .int (a6 + (1 : Int32))), (3, .long (((31 : Int64) * a3) + v7.toInt64)), (0, .ref a0), (5, .int a5)]) dX9_digestOn_42 rfl rfl (by decide) rfl ?_
      refine q_goto (tgt := 17) dX9_digestOn_45 (by decide) ?_
      refine q_sub (ls' := [(0, .ref a0), (3, .long (((31 : Int64) * a3) + v7.toInt64)), (5, .int a5), (6, .int (a6 + (1 : Int32)))]) [2, 1, 3, 0] rfl ?_
      exact ih _ _
    · refine q_iinc 2 (y := (a5 + (1 : Int32))) (ls' := [(5, .int (a5 + (1 : Int32))), (0, .ref a0), (3, .long a3), (6, .int a6)]) dX9_digestOn_48 rfl rfl (by decide) rfl ?_
      refine q_goto (tgt := 5) dX9_digestOn_51 (by decide) ?_
      refine q_sub (ls' := [(0, .ref a0), (3, .long a3), (5, .int (a5 + (1 : Int32)))]) [1, 2, 0] rfl ?_
      exact hk5 _ _
set_option maxRecDepth 20000 in
theorem v_X9_digestOn_b5 {M : q_Mem} {a0 : Nat}  : ∀ (n : Nat) (a3 : Int64) (a5 : Int32), q_V Y_X9_digestOn none (fun x : Int64 => (some (.long x), M)) 0 0 5 [(0, .ref a0), (3, .long a3), (5, .int a5)] [] M (f_X9_digestOn_b5 M a0 n a3 a5) := by
  intro n
  induction n with
  | zero => intro a3 a5; exact q_none
  | succ n ih =>
    intro a3 a5
    rw [f_X9_digestOn_b5.eq_2]
    refine q_iload 2 dX9_digestOn_5 rfl ?_
    refine q_aload_n 0 dX9_digestOn_7 rfl ?_
    refine q_getI (f := 3) cl_X9 (by decide) qw_44 rfl dX9_digestOn_8 (Or.inl rfl) (fun v1 h2 => ?_)
    refine q_icmp_ge (tgt := 54) dX9_digestOn_11 (by decide) (fun c3 => ?_) (fun c3 => ?_)
    · refine q_iconst (x := (0 : Int32)) dX9_digestOn_14 rfl ?_
      refine q_istore (ls' := [(6, .int (0 : Int32)), (0, .ref a0), (3, .long a3), (5, .int a5)]) dX9_digestOn_15 (by decide) rfl ?_
      refine q_sub (ls' := [(0, .ref a0), (3, .long a3), (5, .int a5), (6, .int (0 : Int32))]) [1, 2, 3, 0] rfl ?_
      exact v_X9_digestOn_b17 (ih) _ _ _
    · refine q_lload_n 1 dX9_digestOn_54 rfl ?_
      exact q_lret dX9_digestOn_55 rfl rfl (Nat.le_of_ble_eq_true rfl) rfl
set_option maxRecDepth 20000 in
theorem m_X9_digestOn {M : q_Mem} {a0 : Nat} {a1 : Int64} {x : Int64} (h : f_X9_digestOn M a0 a1 = some x) : q_C Y_X9_digestOn [.ref a0, .long a1] M (some (.long x)) M := by
  refine q_met (φ := (fun x : Int64 => (some (.long x), M))) (r := f_X9_digestOn M a0 a1) (by decide +kernel) (Nat.le_of_ble_eq_true rfl) ?_ h (fun _ _ => rfl)
  show q_V Y_X9_digestOn none (fun x : Int64 => (some (.long x), M)) 0 0 0 [(0, .ref a0), (1, .long a1)] [] M (f_X9_digestOn M a0 a1)
  unfold f_X9_digestOn
  refine q_obV ?_
  refine q_lload_n 1 dX9_digestOn_0 rfl ?_
  refine q_lstore_n (ls' := [(3, .long a1), (0, .ref a0), (1, .long a1)]) dX9_digestOn_1 (by decide) rfl ?_
  refine q_iconst (x := (0 : Int32)) dX9_digestOn_2 rfl ?_
  refine q_istore (ls' := [(5, .int (0 : Int32)), (3, .long a1), (0, .ref a0), (1, .long a1)]) dX9_digestOn_3 (by decide) rfl ?_
  refine q_sub (ls' := [(0, .ref a0), (3, .long a1), (5, .int (0 : Int32))]) [2, 1, 0] rfl ?_
  exact v_X9_digestOn_b5 _ _ _
theorem dX10_init_0 : decode cX10_init 0 = .ok (.aload_n 0, 1) := by decide +kernel
theorem dX10_init_1 : decode cX10_init 1 = .ok (.invokespecial 3, 3) := by decide +kernel
theorem dX10_init_4 : decode cX10_init 4 = .ok (.aload_n 0, 1) := by decide +kernel
theorem dX10_init_5 : decode cX10_init 5 = .ok (.aload_n 1, 1) := by decide +kernel
theorem dX10_init_6 : decode cX10_init 6 = .ok (.putfield 9, 3) := by decide +kernel
theorem dX10_init_9 : decode cX10_init 9 = .ok (.return_, 1) := by decide +kernel
def f_X10_init (M : q_Mem) (a0 : Nat) (a1 : Nat) : Option q_Mem :=
  q_ob 9 M a0 ((q_pR 9 0 M a0 a1).bind fun M1 =>
  some M1)
set_option maxRecDepth 20000 in
theorem m_X10_init {M : q_Mem} {a0 : Nat} {a1 : Nat} {x : q_Mem} (h : f_X10_init M a0 a1 = some x) : q_C Y_X10_init [.ref a0, .ref a1] M none x := by
  refine q_met (φ := (fun x : q_Mem => (none, x))) (r := f_X10_init M a0 a1) (by decide +kernel) (Nat.le_of_ble_eq_true rfl) ?_ h (fun _ _ => rfl)
  show q_V Y_X10_init none (fun x : q_Mem => (none, x)) 0 0 0 [(0, .ref a0), (1, .ref a1)] [] M (f_X10_init M a0 a1)
  unfold f_X10_init
  refine q_obV ?_
  refine q_aload_n 0 dX10_init_0 rfl ?_
  refine q_objInit qw_354 qo_2 qo_3 dX10_init_1 (Nat.le_of_ble_eq_true rfl) (Nat.le_of_ble_eq_true rfl) (Nat.le_of_ble_eq_true rfl) ?_
  refine q_aload_n 0 dX10_init_4 rfl ?_
  refine q_aload_n 1 dX10_init_5 rfl ?_
  refine q_putR (f := 0) cl_X10 (by decide) qw_355 rfl (Or.inr ⟨rfl, rfl, rfl⟩) dX10_init_6 (fun _ _ _ => rfl) (fun _ => rfl) (fun _ => rfl) (fun M1 h2 => ?_)
  exact q_vret dX10_init_9 rfl rfl (Nat.le_of_ble_eq_true rfl) rfl
theorem dX10_nearestOf_0 : decode cX10_nearestOf 0 = .ok (.iconst (-1), 1) := by decide +kernel
theorem dX10_nearestOf_1 : decode cX10_nearestOf 1 = .ok (.istore_n 3, 1) := by decide +kernel
theorem dX10_nearestOf_2 : decode cX10_nearestOf 2 = .ok (.iconst 0, 1) := by decide +kernel
theorem dX10_nearestOf_3 : decode cX10_nearestOf 3 = .ok (.istore 4, 2) := by decide +kernel
theorem dX10_nearestOf_5 : decode cX10_nearestOf 5 = .ok (.iconst 0, 1) := by decide +kernel
theorem dX10_nearestOf_6 : decode cX10_nearestOf 6 = .ok (.istore 5, 2) := by decide +kernel
theorem dX10_nearestOf_8 : decode cX10_nearestOf 8 = .ok (.iload 5, 2) := by decide +kernel
theorem dX10_nearestOf_10 : decode cX10_nearestOf 10 = .ok (.aload_n 0, 1) := by decide +kernel
theorem dX10_nearestOf_11 : decode cX10_nearestOf 11 = .ok (.getfield 9, 3) := by decide +kernel
theorem dX10_nearestOf_14 : decode cX10_nearestOf 14 = .ok (.getfield 23, 3) := by decide +kernel
theorem dX10_nearestOf_17 : decode cX10_nearestOf 17 = .ok (.getfield 29, 3) := by decide +kernel
theorem dX10_nearestOf_20 : decode cX10_nearestOf 20 = .ok (.if_icmp .ge 65, 3) := by decide +kernel
theorem dX10_nearestOf_23 : decode cX10_nearestOf 23 = .ok (.iload_n 2, 1) := by decide +kernel
theorem dX10_nearestOf_24 : decode cX10_nearestOf 24 = .ok (.iload 5, 2) := by decide +kernel
theorem dX10_nearestOf_26 : decode cX10_nearestOf 26 = .ok (.invokestatic 38, 3) := by decide +kernel
theorem dX10_nearestOf_29 : decode cX10_nearestOf 29 = .ok (.ifCond .ne 6, 3) := by decide +kernel
theorem dX10_nearestOf_32 : decode cX10_nearestOf 32 = .ok (.goto 47, 3) := by decide +kernel
theorem dX10_nearestOf_35 : decode cX10_nearestOf 35 = .ok (.aload_n 0, 1) := by decide +kernel
theorem dX10_nearestOf_36 : decode cX10_nearestOf 36 = .ok (.getfield 9, 3) := by decide +kernel
theorem dX10_nearestOf_39 : decode cX10_nearestOf 39 = .ok (.getfield 46, 3) := by decide +kernel
theorem dX10_nearestOf_42 : decode cX10_nearestOf 42 = .ok (.iload_n 1, 1) := by decide +kernel
theorem dX10_nearestOf_43 : decode cX10_nearestOf 43 = .ok (.aload_n 0, 1) := by decide +kernel
theorem dX10_nearestOf_44 : decode cX10_nearestOf 44 = .ok (.getfield 9, 3) := by decide +kernel
theorem dX10_nearestOf_47 : decode cX10_nearestOf 47 = .ok (.getfield 23, 3) := by decide +kernel
theorem dX10_nearestOf_50 : decode cX10_nearestOf 50 = .ok (.iload 5, 2) := by decide +kernel
theorem dX10_nearestOf_52 : decode cX10_nearestOf 52 = .ok (.invokestatic 52, 3) := by decide +kernel
theorem dX10_nearestOf_55 : decode cX10_nearestOf 55 = .ok (.istore 6, 2) := by decide +kernel
theorem dX10_nearestOf_57 : decode cX10_nearestOf 57 = .ok (.iload_n 3, 1) := by decide +kernel
theorem dX10_nearestOf_58 : decode cX10_nearestOf 58 = .ok (.iconst (-1), 1) := by decide +kernel
theorem dX10_nearestOf_59 : decode cX10_nearestOf 59 = .ok (.if_icmp .eq 13, 3) := by decide +kernel
theorem dX10_nearestOf_62 : decode cX10_nearestOf 62 = .ok (.iload 6, 2) := by decide +kernel
theorem dX10_nearestOf_64 : decode cX10_nearestOf 64 = .ok (.iload 4, 2) := by decide +kernel
theorem dX10_nearestOf_66 : decode cX10_nearestOf 66 = .ok (.if_icmp .lt 6, 3) := by decide +kernel
theorem dX10_nearestOf_69 : decode cX10_nearestOf 69 = .ok (.goto 10, 3) := by decide +kernel
theorem dX10_nearestOf_72 : decode cX10_nearestOf 72 = .ok (.iload 5, 2) := by decide +kernel
theorem dX10_nearestOf_74 : decode cX10_nearestOf 74 = .ok (.istore_n 3, 1) := by decide +kernel
theorem dX10_nearestOf_75 : decode cX10_nearestOf 75 = .ok (.iload 6, 2) := by decide +kernel
theorem dX10_nearestOf_77 : decode cX10_nearestOf 77 = .ok (.istore 4, 2) := by decide +kernel
theorem dX10_nearestOf_79 : decode cX10_nearestOf 79 = .ok (.iinc 5 1, 3) := by decide +kernel
theorem dX10_nearestOf_82 : decode cX10_nearestOf 82 = .ok (.goto (-74), 3) := by decide +kernel
theorem dX10_nearestOf_85 : decode cX10_nearestOf 85 = .ok (.iload_n 3, 1) := by decide +kernel
theorem dX10_nearestOf_86 : decode cX10_nearestOf 86 = .ok (.ireturn, 1) := by decide +kernel
def f_X10_nearestOf_b72 (kk8 : Int32 → Int32 → Int32 → Option Int32) (M : q_Mem) (a0 : Nat) (a1 : Int32) (a2 : Int32) (a5 : Int32) (a6 : Int32) : Option Int32 :=
  kk8 a5 a6 (a5 + (1 : Int32))
def f_X10_nearestOf_b8 (M : q_Mem) (a0 : Nat) (a1 : Int32) (a2 : Int32) : Nat → Int32 → Int32 → Int32 → Option Int32
  | 0, _, _, _ => none
  | n + 1, a3, a4, a5 =>
    (q_gR 9 0 M a0).bind fun v1 =>
    (q_gR 4 9 M v1).bind fun v3 =>
    (q_gI 8 3 M v3).bind fun v5 =>
    (if a5 < v5 then
      (f_X11_holds M a2 a5).bind fun v8 =>
      (if v8 = 0 then
        f_X10_nearestOf_b8 M a0 a1 a2 n a3 a4 (a5 + (1 : Int32))
      else
        (q_gR 9 0 M a0).bind fun v9 =>
        (q_gR 4 0 M v9).bind fun v11 =>
        (q_gR 9 0 M a0).bind fun v13 =>
        (q_gR 4 9 M v13).bind fun v15 =>
        (f_X11_milesBetween M v11 a1 v15 a5).bind fun v18 =>
        (if a3 = (-1 : Int32) then
          f_X10_nearestOf_b72 (f_X10_nearestOf_b8 M a0 a1 a2 n) M a0 a1 a2 a5 v18
        else
          (if v18 < a4 then
            f_X10_nearestOf_b72 (f_X10_nearestOf_b8 M a0 a1 a2 n) M a0 a1 a2 a5 v18
          else
            f_X10_nearestOf_b8 M a0 a1 a2 n a3 a4 (a5 + (1 : Int32)))))
    else
      some a3)
def f_X10_nearestOf (M : q_Mem) (a0 : Nat) (a1 : Int32) (a2 : Int32) : Option Int32 :=
  q_ob 9 M a0 (f_X10_nearestOf_b8 M a0 a1 a2 q_fuel (-1 : Int32) (0 : Int32) (0 : Int32))
set_option maxRecDepth 20000 in
theorem v_X10_nearestOf_b72 {kk8 : Int32 → Int32 → Int32 → Option Int32} {M : q_Mem} {a0 : Nat} {a1 : Int32} {a2 : Int32} {a5 : Int32} {a6 : Int32}  (hk8 : ∀ (a3 : Int32) (a4 : Int32) (a5 : Int32), q_V Y_X10_nearestOf none (fun x : Int32 => (some (.int x), M)) 0 0 8 [(0, .ref a0), (1, .int a1), (2, .int a2), (3, .int a3), (4, .int a4), (5, .int a5)] [] M (kk8 a3 a4 a5)): q_V Y_X10_nearestOf none (fun x : Int32 => (some (.int x), M)) 0 0 72 [(0, .ref a0), (1, .int a1), (2, .int a2), (5, .int a5), (6, .int a6)] [] M (f_X10_nearestOf_b72 kk8 M a0 a1 a2 a5 a6 ) := by
  unfold f_X10_nearestOf_b72
  refine q_iload 3 dX10_nearestOf_72 rfl ?_
  refine q_istore_n (ls' := [(3, .int a5), (0, .ref a0), (1, .int a1), (2, .int a2), (5, .int a5), (6, .int a6)]) dX10_nearestOf_74 (by decide) rfl ?_
  refine q_iload 5 dX10_nearestOf_75 rfl ?_
  refine q_istore (ls' := [(4, .int a6), (3, .int a5), (0, .ref a0), (1, .int a1), (2, .int a2), (5, .int a5), (6, .int a6)]) dX10_nearestOf_77 (by decide) rfl ?_
  refine q_iinc 5 (y := (a5 + (1 : Int32))) (ls' := [(5, .int (a5 + (1 : Int32))), (4, .int a6), (3, .int a5), (0, .ref a0), (1, .int a1), (2, .int a2), (6, .int a6)]) dX10_nearestOf_79 rfl rfl (by decide) rfl ?_
  refine q_goto (tgt := 8) dX10_nearestOf_82 (by decide) ?_
  refine q_sub (ls' := [(0, .ref a0), (1, .int a1), (2, .int a2), (3, .int a5), (4, .int a6), (5, .int (a5 + (1 : Int32)))]) [3, 4, 5, 2, 1, 0] rfl ?_
  exact hk8 _ _ _
set_option maxRecDepth 20000 in
theorem v_X10_nearestOf_b8 {M : q_Mem} {a0 : Nat} {a1 : Int32} {a2 : Int32}  : ∀ (n : Nat) (a3 : Int32) (a4 : Int32) (a5 : Int32), q_V Y_X10_nearestOf none (fun x : Int32 => (some (.int x), M)) 0 0 8 [(0, .ref a0), (1, .int a1), (2, .int a2), (3, .int a3), (4, .int a4), (5, .int a5)] [] M (f_X10_nearestOf_b8 M a0 a1 a2 n a3 a4 a5) := by
  intro n
  induction n with
  | zero => intro a3 a4 a5; exact q_none
  | succ n ih =>
    intro a3 a4 a5
    rw [f_X10_nearestOf_b8.eq_2]
    refine q_iload 5 dX10_nearestOf_8 rfl ?_
    refine q_aload_n 0 dX10_nearestOf_10 rfl ?_
    refine q_getR (f := 0) cl_X10 (by decide) qw_355 rfl dX10_nearestOf_11 (fun _ _ _ => rfl) (fun v1 h2 => ?_)
    refine q_getR (f := 9) cl_X5 (by decide) qw_106 rfl dX10_nearestOf_14 (fun _ _ _ => rfl) (fun v3 h4 => ?_)
    refine q_getI (f := 3) cl_X9 (by decide) qw_48 rfl dX10_nearestOf_17 (Or.inl rfl) (fun v5 h6 => ?_)
    refine q_icmp_ge (tgt := 85) dX10_nearestOf_20 (by decide) (fun c22 => ?_) (fun c22 => ?_)
    · refine q_iload_n 2 dX10_nearestOf_23 rfl ?_
      refine q_iload 5 dX10_nearestOf_24 rfl ?_
      refine q_cNI (Y2 := Y_X11_holds) (As := [.int a2, .int a5]) (st := []) ms_X11_holds (host := "CountyCream") (by decide +kernel) dX10_nearestOf_26 ⟨Nat.le_of_ble_eq_true rfl, Nat.le_of_ble_eq_true rfl⟩ rfl (fun _ _ => rfl) (Nat.le_of_ble_eq_true rfl) ⟨Nat.le_of_ble_eq_true rfl, Nat.le_of_ble_eq_true rfl⟩ (fun v8 h7 => m_X11_holds h7) (fun v8 h7 => ?_)
      refine q_if_ne (tgt := 35) dX10_nearestOf_29 (by decide) (fun c21 => ?_) (fun c21 => ?_)
      · refine q_goto (tgt := 79) dX10_nearestOf_32 (by decide) ?_
        refine q_iinc 5 (y := (a5 + (1 : Int32))) (ls' := [(5, .int (a5 + (1 : Int32))), (0, .ref a0), (1, .int a1), (2, .int a2), (3, .int a3), (4, .int a4)]) dX10_nearestOf_79 rfl rfl (by decide) rfl ?_
        refine q_goto (tgt := 8) dX10_nearestOf_82 (by decide) ?_
        refine q_sub (ls' := [(0, .ref a0), (1, .int a1), (2, .int a2), (3, .int a3), (4, .int a4), (5, .int (a5 + (1 : Int32)))]) [1, 2, 3, 4, 5, 0] rfl ?_
        exact ih _ _ _
      · refine q_aload_n 0 dX10_nearestOf_35 rfl ?_
        refine q_getR (f := 0) cl_X10 (by decide) qw_355 rfl dX10_nearestOf_36 (fun _ _ _ => rfl) (fun v9 h10 => ?_)
        refine q_getR (f := 0) cl_X5 (by decide) qw_73 rfl dX10_nearestOf_39 (fun _ _ _ => rfl) (fun v11 h12 => ?_)
        refine q_iload_n 1 dX10_nearestOf_42 rfl ?_
        refine q_aload_n 0 dX10_nearestOf_43 rfl ?_
        refine q_getR (f := 0) cl_X10 (by decide) qw_355 rfl dX10_nearestOf_44 (fun _ _ _ => rfl) (fun v13 h14 => ?_)
        refine q_getR (f := 9) cl_X5 (by decide) qw_106 rfl dX10_nearestOf_47 (fun _ _ _ => rfl) (fun v15 h16 => ?_)
        refine q_iload 5 dX10_nearestOf_50 rfl ?_
        refine q_cNI (Y2 := Y_X11_milesBetween) (As := [.ref v11, .int a1, .ref v15, .int a5]) (st := []) ms_X11_milesBetween (host := "CountyCream") (by decide +kernel) dX10_nearestOf_52 ⟨Nat.le_of_ble_eq_true rfl, Nat.le_of_ble_eq_true rfl⟩ rfl (fun _ _ => rfl) (Nat.le_of_ble_eq_true rfl) ⟨Nat.le_of_ble_eq_true rfl, Nat.le_of_ble_eq_true rfl⟩ (fun v18 h17 => m_X11_milesBetween h17) (fun v18 h17 => ?_)
        refine q_istore (ls' := [(6, .int v18), (0, .ref a0), (1, .int a1), (2, .int a2), (3, .int a3), (4, .int a4), (5, .int a5)]) dX10_nearestOf_55 (by decide) rfl ?_
        refine q_iload_n 4 dX10_nearestOf_57 rfl ?_
        refine q_iconst (x := (-1 : Int32)) dX10_nearestOf_58 rfl ?_
        refine q_icmp_eq (tgt := 72) dX10_nearestOf_59 (by decide) (fun c20 => ?_) (fun c20 => ?_)
        · refine q_sub (ls' := [(0, .ref a0), (1, .int a1), (2, .int a2), (5, .int a5), (6, .int v18)]) [1, 2, 3, 6, 0] rfl ?_
          exact v_X10_nearestOf_b72 (ih)
        · refine q_iload 0 dX10_nearestOf_62 rfl ?_
          refine q_iload 5 dX10_nearestOf_64 rfl ?_
          refine q_icmp_lt (tgt := 72) dX10_nearestOf_66 (by decide) (fun c19 => ?_) (fun c19 => ?_)
          · refine q_sub (ls' := [(0, .ref a0), (1, .int a1), (2, .int a2), (5, .int a5), (6, .int v18)]) [1, 2, 3, 6, 0] rfl ?_
            exact v_X10_nearestOf_b72 (ih)
          · refine q_goto (tgt := 79) dX10_nearestOf_69 (by decide) ?_
            refine q_iinc 6 (y := (a5 + (1 : Int32))) (ls' := [(5, .int (a5 + (1 : Int32))), (6, .int v18), (0, .ref a0), (1, .int a1), (2, .int a2), (3, .int a3), (4, .int a4)]) dX10_nearestOf_79 rfl rfl (by decide) rfl ?_
            refine q_goto (tgt := 8) dX10_nearestOf_82 (by decide) ?_
            refine q_sub (ls' := [(0, .ref a0), (1, .int a1), (2, .int a2), (3, .int a3), (4, .int a4), (5, .int (a5 + (1 : Int32)))]) [2, 3, 4, 5, 6, 0] rfl ?_
            exact ih _ _ _
    · refine q_iload_n 3 dX10_nearestOf_85 rfl ?_
      exact q_iret dX10_nearestOf_86 rfl rfl (Nat.le_of_ble_eq_true rfl) rfl
set_option maxRecDepth 20000 in
theorem m_X10_nearestOf {M : q_Mem} {a0 : Nat} {a1 : Int32} {a2 : Int32} {x : Int32} (h : f_X10_nearestOf M a0 a1 a2 = some x) : q_C Y_X10_nearestOf [.ref a0, .int a1, .int a2] M (some (.int x)) M := by
  refine q_met (φ := (fun x : Int32 => (some (.int x), M))) (r := f_X10_nearestOf M a0 a1 a2) (by decide +kernel) (Nat.le_of_ble_eq_true rfl) ?_ h (fun _ _ => rfl)
  show q_V Y_X10_nearestOf none (fun x : Int32 => (some (.int x), M)) 0 0 0 [(0, .ref a0), (1, .int a1), (2, .int a2)] [] M (f_X10_nearestOf M a0 a1 a2)
  unfold f_X10_nearestOf
  refine q_obV ?_
  refine q_iconst (x := (-1 : Int32)) dX10_nearestOf_0 rfl ?_
  refine q_istore_n (ls' := [(3, .int (-1 : Int32)), (0, .ref a0), (1, .int a1), (2, .int a2)]) dX10_nearestOf_1 (by decide) rfl ?_
  refine q_iconst (x := (0 : Int32)) dX10_nearestOf_2 rfl ?_
  refine q_istore (ls' := [(4, .int (0 : Int32)), (3, .int (-1 : Int32)), (0, .ref a0), (1, .int a1), (2, .int a2)]) dX10_nearestOf_3 (by decide) rfl ?_
  refine q_iconst (x := (0 : Int32)) dX10_nearestOf_5 rfl ?_
  refine q_istore (ls' := [(5, .int (0 : Int32)), (4, .int (0 : Int32)), (3, .int (-1 : Int32)), (0, .ref a0), (1, .int a1), (2, .int a2)]) dX10_nearestOf_6 (by decide) rfl ?_
  refine q_sub (ls' := [(0, .ref a0), (1, .int a1), (2, .int a2), (3, .int (-1 : Int32)), (4, .int (0 : Int32)), (5, .int (0 : Int32))]) [3, 4, 5, 2, 1, 0] rfl ?_
  exact v_X10_nearestOf_b8 _ _ _ _
theorem dX10_costOf_0 : decode cX10_costOf 0 = .ok (.lconst 0, 1) := by decide +kernel
theorem dX10_costOf_1 : decode cX10_costOf 1 = .ok (.lstore_n 2, 1) := by decide +kernel
theorem dX10_costOf_2 : decode cX10_costOf 2 = .ok (.iconst 0, 1) := by decide +kernel
theorem dX10_costOf_3 : decode cX10_costOf 3 = .ok (.istore 4, 2) := by decide +kernel
theorem dX10_costOf_5 : decode cX10_costOf 5 = .ok (.iload 4, 2) := by decide +kernel
theorem dX10_costOf_7 : decode cX10_costOf 7 = .ok (.aload_n 0, 1) := by decide +kernel
theorem dX10_costOf_8 : decode cX10_costOf 8 = .ok (.getfield 9, 3) := by decide +kernel
theorem dX10_costOf_11 : decode cX10_costOf 11 = .ok (.getfield 23, 3) := by decide +kernel
theorem dX10_costOf_14 : decode cX10_costOf 14 = .ok (.getfield 29, 3) := by decide +kernel
theorem dX10_costOf_17 : decode cX10_costOf 17 = .ok (.if_icmp .ge 35, 3) := by decide +kernel
theorem dX10_costOf_20 : decode cX10_costOf 20 = .ok (.iload_n 1, 1) := by decide +kernel
theorem dX10_costOf_21 : decode cX10_costOf 21 = .ok (.iload 4, 2) := by decide +kernel
theorem dX10_costOf_23 : decode cX10_costOf 23 = .ok (.invokestatic 38, 3) := by decide +kernel
theorem dX10_costOf_26 : decode cX10_costOf 26 = .ok (.ifCond .eq 20, 3) := by decide +kernel
theorem dX10_costOf_29 : decode cX10_costOf 29 = .ok (.lload_n 2, 1) := by decide +kernel
theorem dX10_costOf_30 : decode cX10_costOf 30 = .ok (.aload_n 0, 1) := by decide +kernel
theorem dX10_costOf_31 : decode cX10_costOf 31 = .ok (.getfield 9, 3) := by decide +kernel
theorem dX10_costOf_34 : decode cX10_costOf 34 = .ok (.getfield 23, 3) := by decide +kernel
theorem dX10_costOf_37 : decode cX10_costOf 37 = .ok (.iload 4, 2) := by decide +kernel
theorem dX10_costOf_39 : decode cX10_costOf 39 = .ok (.iconst 2, 1) := by decide +kernel
theorem dX10_costOf_40 : decode cX10_costOf 40 = .ok (.invokevirtual 42, 3) := by decide +kernel
theorem dX10_costOf_43 : decode cX10_costOf 43 = .ok (.i2l, 1) := by decide +kernel
theorem dX10_costOf_44 : decode cX10_costOf 44 = .ok (.ladd, 1) := by decide +kernel
theorem dX10_costOf_45 : decode cX10_costOf 45 = .ok (.lstore_n 2, 1) := by decide +kernel
theorem dX10_costOf_46 : decode cX10_costOf 46 = .ok (.iinc 4 1, 3) := by decide +kernel
theorem dX10_costOf_49 : decode cX10_costOf 49 = .ok (.goto (-44), 3) := by decide +kernel
theorem dX10_costOf_52 : decode cX10_costOf 52 = .ok (.iconst 0, 1) := by decide +kernel
theorem dX10_costOf_53 : decode cX10_costOf 53 = .ok (.istore 4, 2) := by decide +kernel
theorem dX10_costOf_55 : decode cX10_costOf 55 = .ok (.iload 4, 2) := by decide +kernel
theorem dX10_costOf_57 : decode cX10_costOf 57 = .ok (.aload_n 0, 1) := by decide +kernel
theorem dX10_costOf_58 : decode cX10_costOf 58 = .ok (.getfield 9, 3) := by decide +kernel
theorem dX10_costOf_61 : decode cX10_costOf 61 = .ok (.getfield 46, 3) := by decide +kernel
theorem dX10_costOf_64 : decode cX10_costOf 64 = .ok (.getfield 29, 3) := by decide +kernel
theorem dX10_costOf_67 : decode cX10_costOf 67 = .ok (.if_icmp .ge 67, 3) := by decide +kernel
theorem dX10_costOf_70 : decode cX10_costOf 70 = .ok (.aload_n 0, 1) := by decide +kernel
theorem dX10_costOf_71 : decode cX10_costOf 71 = .ok (.getfield 9, 3) := by decide +kernel
theorem dX10_costOf_74 : decode cX10_costOf 74 = .ok (.getfield 46, 3) := by decide +kernel
theorem dX10_costOf_77 : decode cX10_costOf 77 = .ok (.iload 4, 2) := by decide +kernel
theorem dX10_costOf_79 : decode cX10_costOf 79 = .ok (.aload_n 0, 1) := by decide +kernel
theorem dX10_costOf_80 : decode cX10_costOf 80 = .ok (.getfield 9, 3) := by decide +kernel
theorem dX10_costOf_83 : decode cX10_costOf 83 = .ok (.getfield 23, 3) := by decide +kernel
theorem dX10_costOf_86 : decode cX10_costOf 86 = .ok (.aload_n 0, 1) := by decide +kernel
theorem dX10_costOf_87 : decode cX10_costOf 87 = .ok (.iload 4, 2) := by decide +kernel
theorem dX10_costOf_89 : decode cX10_costOf 89 = .ok (.iload_n 1, 1) := by decide +kernel
theorem dX10_costOf_90 : decode cX10_costOf 90 = .ok (.invokevirtual 49, 3) := by decide +kernel
theorem dX10_costOf_93 : decode cX10_costOf 93 = .ok (.invokestatic 52, 3) := by decide +kernel
theorem dX10_costOf_96 : decode cX10_costOf 96 = .ok (.istore 5, 2) := by decide +kernel
theorem dX10_costOf_98 : decode cX10_costOf 98 = .ok (.lload_n 2, 1) := by decide +kernel
theorem dX10_costOf_99 : decode cX10_costOf 99 = .ok (.aload_n 0, 1) := by decide +kernel
theorem dX10_costOf_100 : decode cX10_costOf 100 = .ok (.getfield 9, 3) := by decide +kernel
theorem dX10_costOf_103 : decode cX10_costOf 103 = .ok (.getfield 56, 3) := by decide +kernel
theorem dX10_costOf_106 : decode cX10_costOf 106 = .ok (.i2l, 1) := by decide +kernel
theorem dX10_costOf_107 : decode cX10_costOf 107 = .ok (.aload_n 0, 1) := by decide +kernel
theorem dX10_costOf_108 : decode cX10_costOf 108 = .ok (.getfield 9, 3) := by decide +kernel
theorem dX10_costOf_111 : decode cX10_costOf 111 = .ok (.getfield 46, 3) := by decide +kernel
theorem dX10_costOf_114 : decode cX10_costOf 114 = .ok (.iload 4, 2) := by decide +kernel
theorem dX10_costOf_116 : decode cX10_costOf 116 = .ok (.iconst 2, 1) := by decide +kernel
theorem dX10_costOf_117 : decode cX10_costOf 117 = .ok (.invokevirtual 42, 3) := by decide +kernel
theorem dX10_costOf_120 : decode cX10_costOf 120 = .ok (.i2l, 1) := by decide +kernel
theorem dX10_costOf_121 : decode cX10_costOf 121 = .ok (.lmul, 1) := by decide +kernel
theorem dX10_costOf_122 : decode cX10_costOf 122 = .ok (.iload 5, 2) := by decide +kernel
theorem dX10_costOf_124 : decode cX10_costOf 124 = .ok (.i2l, 1) := by decide +kernel
theorem dX10_costOf_125 : decode cX10_costOf 125 = .ok (.lmul, 1) := by decide +kernel
theorem dX10_costOf_126 : decode cX10_costOf 126 = .ok (.ladd, 1) := by decide +kernel
theorem dX10_costOf_127 : decode cX10_costOf 127 = .ok (.lstore_n 2, 1) := by decide +kernel
theorem dX10_costOf_128 : decode cX10_costOf 128 = .ok (.iinc 4 1, 3) := by decide +kernel
theorem dX10_costOf_131 : decode cX10_costOf 131 = .ok (.goto (-76), 3) := by decide +kernel
theorem dX10_costOf_134 : decode cX10_costOf 134 = .ok (.lload_n 2, 1) := by decide +kernel
theorem dX10_costOf_135 : decode cX10_costOf 135 = .ok (.lreturn, 1) := by decide +kernel
def f_X10_costOf_b55 (M : q_Mem) (a0 : Nat) (a1 : Int32) : Nat → Int64 → Int32 → Option Int64
  | 0, _, _ => none
  | n + 1, a2, a4 =>
    (q_gR 9 0 M a0).bind fun v17 =>
    (q_gR 4 0 M v17).bind fun v19 =>
    (q_gI 8 3 M v19).bind fun v21 =>
    (if a4 < v21 then
      (q_gR 9 0 M a0).bind fun v23 =>
      (q_gR 4 0 M v23).bind fun v25 =>
      (q_gR 9 0 M a0).bind fun v27 =>
      (q_gR 4 9 M v27).bind fun v29 =>
      (f_X10_nearestOf M a0 a4 a1).bind fun v32 =>
      (f_X11_milesBetween M v25 a4 v29 v32).bind fun v34 =>
      (q_gR 9 0 M a0).bind fun v35 =>
      (q_gI 4 15 M v35).bind fun v37 =>
      (q_gR 9 0 M a0).bind fun v39 =>
      (q_gR 4 0 M v39).bind fun v41 =>
      (f_X9_at M v41 a4 (2 : Int32)).bind fun v44 =>
      f_X10_costOf_b55 M a0 a1 n (a2 + ((v37.toInt64 * v44.toInt64) * v34.toInt64)) (a4 + (1 : Int32))
    else
      some a2)
def f_X10_costOf_b5 (M : q_Mem) (a0 : Nat) (a1 : Int32) : Nat → Int64 → Int32 → Option Int64
  | 0, _, _ => none
  | n + 1, a2, a4 =>
    (q_gR 9 0 M a0).bind fun v1 =>
    (q_gR 4 9 M v1).bind fun v3 =>
    (q_gI 8 3 M v3).bind fun v5 =>
    (if a4 < v5 then
      (f_X11_holds M a1 a4).bind fun v8 =>
      (if v8 = 0 then
        f_X10_costOf_b5 M a0 a1 n a2 (a4 + (1 : Int32))
      else
        (q_gR 9 0 M a0).bind fun v9 =>
        (q_gR 4 9 M v9).bind fun v11 =>
        (f_X9_at M v11 a4 (2 : Int32)).bind fun v14 =>
        f_X10_costOf_b5 M a0 a1 n (a2 + v14.toInt64) (a4 + (1 : Int32)))
    else
      f_X10_costOf_b55 M a0 a1 q_fuel a2 (0 : Int32))
def f_X10_costOf (M : q_Mem) (a0 : Nat) (a1 : Int32) : Option Int64 :=
  q_ob 9 M a0 (f_X10_costOf_b5 M a0 a1 q_fuel (0 : Int64) (0 : Int32))
set_option maxRecDepth 20000 in
theorem v_X10_costOf_b55 {M : q_Mem} {a0 : Nat} {a1 : Int32}  : ∀ (n : Nat) (a2 : Int64) (a4 : Int32), q_V Y_X10_costOf none (fun x : Int64 => (some (.long x), M)) 0 0 55 [(0, .ref a0), (1, .int a1), (2, .long a2), (4, .int a4)] [] M (f_X10_costOf_b55 M a0 a1 n a2 a4) := by
  intro n
  induction n with
  | zero => intro a2 a4; exact q_none
  | succ n ih =>
    intro a2 a4
    rw [f_X10_costOf_b55.eq_2]
    refine q_iload 3 dX10_costOf_55 rfl ?_
    refine q_aload_n 0 dX10_costOf_57 rfl ?_
    refine q_getR (f := 0) cl_X10 (by decide) qw_355 rfl dX10_costOf_58 (fun _ _ _ => rfl) (fun v17 h18 => ?_)
    refine q_getR (f := 0) cl_X5 (by decide) qw_73 rfl dX10_costOf_61 (fun _ _ _ => rfl) (fun v19 h20 => ?_)
    refine q_getI (f := 3) cl_X9 (by decide) qw_48 rfl dX10_costOf_64 (Or.inl rfl) (fun v21 h22 => ?_)
    refine q_icmp_ge (tgt := 134) dX10_costOf_67 (by decide) (fun c45 => ?_) (fun c45 => ?_)
    · refine q_aload_n 0 dX10_costOf_70 rfl ?_
      refine q_getR (f := 0) cl_X10 (by decide) qw_355 rfl dX10_costOf_71 (fun _ _ _ => rfl) (fun v23 h24 => ?_)
      refine q_getR (f := 0) cl_X5 (by decide) qw_73 rfl dX10_costOf_74 (fun _ _ _ => rfl) (fun v25 h26 => ?_)
      refine q_iload 3 dX10_costOf_77 rfl ?_
      refine q_aload_n 0 dX10_costOf_79 rfl ?_
      refine q_getR (f := 0) cl_X10 (by decide) qw_355 rfl dX10_costOf_80 (fun _ _ _ => rfl) (fun v27 h28 => ?_)
      refine q_getR (f := 9) cl_X5 (by decide) qw_106 rfl dX10_costOf_83 (fun _ _ _ => rfl) (fun v29 h30 => ?_)
      refine q_aload_n 0 dX10_costOf_86 rfl ?_
      refine q_iload 3 dX10_costOf_87 rfl ?_
      refine q_iload_n 1 dX10_costOf_89 rfl ?_
      refine q_cVI (Y2 := Y_X10_nearestOf) (As := [.int a4, .int a1]) (b := a0) (st := [.ref v29, .int a4, .ref v25]) cl_X10 mv_X10_nearestOf qw_1040 dX10_costOf_90 ⟨Nat.le_of_ble_eq_true rfl, Nat.le_of_ble_eq_true rfl⟩ rfl (fun _ _ => rfl) (Nat.le_of_ble_eq_true rfl) ⟨Nat.le_of_ble_eq_true rfl, Nat.le_of_ble_eq_true rfl⟩ (fun v32 h31 => q_ob_is h31) (fun v32 h31 => m_X10_nearestOf h31) (fun v32 h31 => ?_)
      refine q_cNI (Y2 := Y_X11_milesBetween) (As := [.ref v25, .int a4, .ref v29, .int v32]) (st := []) ms_X11_milesBetween (host := "CountyCream") (by decide +kernel) dX10_costOf_93 ⟨Nat.le_of_ble_eq_true rfl, Nat.le_of_ble_eq_true rfl⟩ rfl (fun _ _ => rfl) (Nat.le_of_ble_eq_true rfl) ⟨Nat.le_of_ble_eq_true rfl, Nat.le_of_ble_eq_true rfl⟩ (fun v34 h33 => m_X11_milesBetween h33) (fun v34 h33 => ?_)
      refine q_istore (ls' := [(5, .int v34), (0, .ref a0), (1, .int a1), (2, .long a2), (4, .int a4)]) dX10_costOf_96 (by decide) rfl ?_
      refine q_lload_n 3 dX10_costOf_98 rfl ?_
      refine q_aload_n 1 dX10_costOf_99 rfl ?_
      refine q_getR (f := 0) cl_X10 (by decide) qw_355 rfl dX10_costOf_100 (fun _ _ _ => rfl) (fun v35 h36 => ?_)
      refine q_getI (f := 15) cl_X5 (by decide) qw_121 rfl dX10_costOf_103 (Or.inl rfl) (fun v37 h38 => ?_)
      refine q_i2l dX10_costOf_106 ?_
      refine q_aload_n 1 dX10_costOf_107 rfl ?_
      refine q_getR (f := 0) cl_X10 (by decide) qw_355 rfl dX10_costOf_108 (fun _ _ _ => rfl) (fun v39 h40 => ?_)
      refine q_getR (f := 0) cl_X5 (by decide) qw_73 rfl dX10_costOf_111 (fun _ _ _ => rfl) (fun v41 h42 => ?_)
      refine q_iload 4 dX10_costOf_114 rfl ?_
      refine q_iconst (x := (2 : Int32)) dX10_costOf_116 rfl ?_
      refine q_cVI (Y2 := Y_X9_at) (As := [.int a4, .int (2 : Int32)]) (b := v41) (st := [.long v37.toInt64, .long a2]) cl_X9 mv_X9_at qw_1039 dX10_costOf_117 ⟨Nat.le_of_ble_eq_true rfl, Nat.le_of_ble_eq_true rfl⟩ rfl (fun _ _ => rfl) (Nat.le_of_ble_eq_true rfl) ⟨Nat.le_of_ble_eq_true rfl, Nat.le_of_ble_eq_true rfl⟩ (fun v44 h43 => q_ob_is h43) (fun v44 h43 => m_X9_at h43) (fun v44 h43 => ?_)
      refine q_i2l dX10_costOf_120 ?_
      refine q_lmul dX10_costOf_121 ?_
      refine q_iload 0 dX10_costOf_122 rfl ?_
      refine q_i2l dX10_costOf_124 ?_
      refine q_lmul dX10_costOf_125 ?_
      refine q_ladd dX10_costOf_126 ?_
      refine q_lstore_n (ls' := [(2, .long (a2 + ((v37.toInt64 * v44.toInt64) * v34.toInt64))), (5, .int v34), (0, .ref a0), (1, .int a1), (4, .int a4)]) dX10_costOf_127 (by decide) rfl ?_
      refine q_iinc 4 (y := (a4 + (1 : Int32))) (ls' := [(4, .int (a4 + (1 : Int32))), (2, .long (a2 + ((v37.toInt64 * v44.toInt64) * v34.toInt64))), (5, .int v34), (0, .ref a0), (1, .int a1)]) dX10_costOf_128 rfl rfl (by decide) rfl ?_
      refine q_goto (tgt := 55) dX10_costOf_131 (by decide) ?_
      refine q_sub (ls' := [(0, .ref a0), (1, .int a1), (2, .long (a2 + ((v37.toInt64 * v44.toInt64) * v34.toInt64))), (4, .int (a4 + (1 : Int32)))]) [3, 4, 1, 0] rfl ?_
      exact ih _ _
    · refine q_lload_n 2 dX10_costOf_134 rfl ?_
      exact q_lret dX10_costOf_135 rfl rfl (Nat.le_of_ble_eq_true rfl) rfl
set_option maxRecDepth 20000 in
theorem v_X10_costOf_b5 {M : q_Mem} {a0 : Nat} {a1 : Int32}  : ∀ (n : Nat) (a2 : Int64) (a4 : Int32), q_V Y_X10_costOf none (fun x : Int64 => (some (.long x), M)) 0 0 5 [(0, .ref a0), (1, .int a1), (2, .long a2), (4, .int a4)] [] M (f_X10_costOf_b5 M a0 a1 n a2 a4) := by
  intro n
  induction n with
  | zero => intro a2 a4; exact q_none
  | succ n ih =>
    intro a2 a4
    rw [f_X10_costOf_b5.eq_2]
    refine q_iload 3 dX10_costOf_5 rfl ?_
    refine q_aload_n 0 dX10_costOf_7 rfl ?_
    refine q_getR (f := 0) cl_X10 (by decide) qw_355 rfl dX10_costOf_8 (fun _ _ _ => rfl) (fun v1 h2 => ?_)
    refine q_getR (f := 9) cl_X5 (by decide) qw_106 rfl dX10_costOf_11 (fun _ _ _ => rfl) (fun v3 h4 => ?_)
    refine q_getI (f := 3) cl_X9 (by decide) qw_48 rfl dX10_costOf_14 (Or.inl rfl) (fun v5 h6 => ?_)
    refine q_icmp_ge (tgt := 52) dX10_costOf_17 (by decide) (fun c16 => ?_) (fun c16 => ?_)
    · refine q_iload_n 1 dX10_costOf_20 rfl ?_
      refine q_iload 3 dX10_costOf_21 rfl ?_
      refine q_cNI (Y2 := Y_X11_holds) (As := [.int a1, .int a4]) (st := []) ms_X11_holds (host := "CountyCream") (by decide +kernel) dX10_costOf_23 ⟨Nat.le_of_ble_eq_true rfl, Nat.le_of_ble_eq_true rfl⟩ rfl (fun _ _ => rfl) (Nat.le_of_ble_eq_true rfl) ⟨Nat.le_of_ble_eq_true rfl, Nat.le_of_ble_eq_true rfl⟩ (fun v8 h7 => m_X11_holds h7) (fun v8 h7 => ?_)
      refine q_if_eq (tgt := 46) dX10_costOf_26 (by decide) (fun c15 => ?_) (fun c15 => ?_)
      · refine q_iinc 3 (y := (a4 + (1 : Int32))) (ls' := [(4, .int (a4 + (1 : Int32))), (0, .ref a0), (1, .int a1), (2, .long a2)]) dX10_costOf_46 rfl rfl (by decide) rfl ?_
        refine q_goto (tgt := 5) dX10_costOf_49 (by decide) ?_
        refine q_sub (ls' := [(0, .ref a0), (1, .int a1), (2, .long a2), (4, .int (a4 + (1 : Int32)))]) [1, 2, 3, 0] rfl ?_
        exact ih _ _
      · refine q_lload_n 2 dX10_costOf_29 rfl ?_
        refine q_aload_n 0 dX10_costOf_30 rfl ?_
        refine q_getR (f := 0) cl_X10 (by decide) qw_355 rfl dX10_costOf_31 (fun _ _ _ => rfl) (fun v9 h10 => ?_)
        refine q_getR (f := 9) cl_X5 (by decide) qw_106 rfl dX10_costOf_34 (fun _ _ _ => rfl) (fun v11 h12 => ?_)
        refine q_iload 3 dX10_costOf_37 rfl ?_
        refine q_iconst (x := (2 : Int32)) dX10_costOf_39 rfl ?_
        refine q_cVI (Y2 := Y_X9_at) (As := [.int a4, .int (2 : Int32)]) (b := v11) (st := [.long a2]) cl_X9 mv_X9_at qw_1039 dX10_costOf_40 ⟨Nat.le_of_ble_eq_true rfl, Nat.le_of_ble_eq_true rfl⟩ rfl (fun _ _ => rfl) (Nat.le_of_ble_eq_true rfl) ⟨Nat.le_of_ble_eq_true rfl, Nat.le_of_ble_eq_true rfl⟩ (fun v14 h13 => q_ob_is h13) (fun v14 h13 => m_X9_at h13) (fun v14 h13 => ?_)
        refine q_i2l dX10_costOf_43 ?_
        refine q_ladd dX10_costOf_44 ?_
        refine q_lstore_n (ls' := [(2, .long (a2 + v14.toInt64)), (0, .ref a0), (1, .int a1), (4, .int a4)]) dX10_costOf_45 (by decide) rfl ?_
        refine q_iinc 3 (y := (a4 + (1 : Int32))) (ls' := [(4, .int (a4 + (1 : Int32))), (2, .long (a2 + v14.toInt64)), (0, .ref a0), (1, .int a1)]) dX10_costOf_46 rfl rfl (by decide) rfl ?_
        refine q_goto (tgt := 5) dX10_costOf_49 (by decide) ?_
        refine q_sub (ls' := [(0, .ref a0), (1, .int a1), (2, .long (a2 + v14.toInt64)), (4, .int (a4 + (1 : Int32)))]) [2, 3, 1, 0] rfl ?_
        exact ih _ _
    · refine q_iconst (x := (0 : Int32)) dX10_costOf_52 rfl ?_
      refine q_istore (ls' := [(4, .int (0 : Int32)), (0, .ref a0), (1, .int a1), (2, .long a2)]) dX10_costOf_53 (by decide) rfl ?_
      refine q_sub (ls' := [(0, .ref a0), (1, .int a1), (2, .long a2), (4, .int (0 : Int32))]) [1, 2, 3, 0] rfl ?_
      exact v_X10_costOf_b55 _ _ _
set_option maxRecDepth 20000 in
theorem m_X10_costOf {M : q_Mem} {a0 : Nat} {a1 : Int32} {x : Int64} (h : f_X10_costOf M a0 a1 = some x) : q_C Y_X10_costOf [.ref a0, .int a1] M (some (.long x)) M := by
  refine q_met (φ := (fun x : Int64 => (some (.long x), M))) (r := f_X10_costOf M a0 a1) (by decide +kernel) (Nat.le_of_ble_eq_true rfl) ?_ h (fun _ _ => rfl)
  show q_V Y_X10_costOf none (fun x : Int64 => (some (.long x), M)) 0 0 0 [(0, .ref a0), (1, .int a1)] [] M (f_X10_costOf M a0 a1)
  unfold f_X10_costOf
  refine q_obV ?_
  refine q_lconst (x := (0 : Int64)) dX10_costOf_0 rfl ?_
  refine q_lstore_n (ls' := [(2, .long (0 : Int64)), (0, .ref a0), (1, .int a1)]) dX10_costOf_1 (by decide) rfl ?_
  refine q_iconst (x := (0 : Int32)) dX10_costOf_2 rfl ?_
  refine q_istore (ls' := [(4, .int (0 : Int32)), (2, .long (0 : Int64)), (0, .ref a0), (1, .int a1)]) dX10_costOf_3 (by decide) rfl ?_
  refine q_sub (ls' := [(0, .ref a0), (1, .int a1), (2, .long (0 : Int64)), (4, .int (0 : Int32))]) [2, 3, 1, 0] rfl ?_
  exact v_X10_costOf_b5 _ _ _
theorem dX10_plan_0 : decode cX10_plan 0 = .ok (.aload_n 0, 1) := by decide +kernel
theorem dX10_plan_1 : decode cX10_plan 1 = .ok (.iconst 0, 1) := by decide +kernel
theorem dX10_plan_2 : decode cX10_plan 2 = .ok (.putfield 15, 3) := by decide +kernel
theorem dX10_plan_5 : decode cX10_plan 5 = .ok (.aload_n 0, 1) := by decide +kernel
theorem dX10_plan_6 : decode cX10_plan 6 = .ok (.lconst 0, 1) := by decide +kernel
theorem dX10_plan_7 : decode cX10_plan 7 = .ok (.putfield 19, 3) := by decide +kernel
theorem dX10_plan_10 : decode cX10_plan 10 = .ok (.iconst 1, 1) := by decide +kernel
theorem dX10_plan_11 : decode cX10_plan 11 = .ok (.istore_n 1, 1) := by decide +kernel
theorem dX10_plan_12 : decode cX10_plan 12 = .ok (.iload_n 1, 1) := by decide +kernel
theorem dX10_plan_13 : decode cX10_plan 13 = .ok (.iconst 1, 1) := by decide +kernel
theorem dX10_plan_14 : decode cX10_plan 14 = .ok (.aload_n 0, 1) := by decide +kernel
theorem dX10_plan_15 : decode cX10_plan 15 = .ok (.getfield 9, 3) := by decide +kernel
theorem dX10_plan_18 : decode cX10_plan 18 = .ok (.getfield 23, 3) := by decide +kernel
theorem dX10_plan_21 : decode cX10_plan 21 = .ok (.getfield 29, 3) := by decide +kernel
theorem dX10_plan_24 : decode cX10_plan 24 = .ok (.ishl, 1) := by decide +kernel
theorem dX10_plan_25 : decode cX10_plan 25 = .ok (.if_icmp .ge 44, 3) := by decide +kernel
theorem dX10_plan_28 : decode cX10_plan 28 = .ok (.aload_n 0, 1) := by decide +kernel
theorem dX10_plan_29 : decode cX10_plan 29 = .ok (.iload_n 1, 1) := by decide +kernel
theorem dX10_plan_30 : decode cX10_plan 30 = .ok (.invokevirtual 34, 3) := by decide +kernel
theorem dX10_plan_33 : decode cX10_plan 33 = .ok (.lstore_n 2, 1) := by decide +kernel
theorem dX10_plan_34 : decode cX10_plan 34 = .ok (.aload_n 0, 1) := by decide +kernel
theorem dX10_plan_35 : decode cX10_plan 35 = .ok (.getfield 15, 3) := by decide +kernel
theorem dX10_plan_38 : decode cX10_plan 38 = .ok (.ifCond .eq 15, 3) := by decide +kernel
theorem dX10_plan_41 : decode cX10_plan 41 = .ok (.lload_n 2, 1) := by decide +kernel
theorem dX10_plan_42 : decode cX10_plan 42 = .ok (.aload_n 0, 1) := by decide +kernel
theorem dX10_plan_43 : decode cX10_plan 43 = .ok (.getfield 19, 3) := by decide +kernel
theorem dX10_plan_46 : decode cX10_plan 46 = .ok (.lcmp, 1) := by decide +kernel
theorem dX10_plan_47 : decode cX10_plan 47 = .ok (.ifCond .lt 6, 3) := by decide +kernel
theorem dX10_plan_50 : decode cX10_plan 50 = .ok (.goto 13, 3) := by decide +kernel
theorem dX10_plan_53 : decode cX10_plan 53 = .ok (.aload_n 0, 1) := by decide +kernel
theorem dX10_plan_54 : decode cX10_plan 54 = .ok (.iload_n 1, 1) := by decide +kernel
theorem dX10_plan_55 : decode cX10_plan 55 = .ok (.putfield 15, 3) := by decide +kernel
theorem dX10_plan_58 : decode cX10_plan 58 = .ok (.aload_n 0, 1) := by decide +kernel
theorem dX10_plan_59 : decode cX10_plan 59 = .ok (.lload_n 2, 1) := by decide +kernel
theorem dX10_plan_60 : decode cX10_plan 60 = .ok (.putfield 19, 3) := by decide +kernel
theorem dX10_plan_63 : decode cX10_plan 63 = .ok (.iinc 1 1, 3) := by decide +kernel
theorem dX10_plan_66 : decode cX10_plan 66 = .ok (.goto (-54), 3) := by decide +kernel
theorem dX10_plan_69 : decode cX10_plan 69 = .ok (.return_, 1) := by decide +kernel
def f_X10_plan_b53 (kk12 : Int32 → q_Mem → Option q_Mem) (M : q_Mem) (a0 : Nat) (a1 : Int32) (a2 : Int64) : Option q_Mem :=
  (q_pI 9 1 M a0 a1).bind fun M20 =>
  (q_pJ 9 2 M20 a0 a2).bind fun M22 =>
  kk12 (a1 + (1 : Int32)) M22
def f_X10_plan_b12 (a0 : Nat) : Nat → Int32 → q_Mem → Option q_Mem
  | 0, _, _ => none
  | n + 1, a1, M =>
    (q_gR 9 0 M a0).bind fun v5 =>
    (q_gR 4 9 M v5).bind fun v7 =>
    (q_gI 8 3 M v7).bind fun v9 =>
    (if a1 < ((1 : Int32) <<< (v9 &&& 31)) then
      (f_X10_costOf M a0 a1).bind fun v12 =>
      (q_gI 9 1 M a0).bind fun v13 =>
      (if v13 = 0 then
        f_X10_plan_b53 (f_X10_plan_b12 a0 n) M a0 a1 v12
      else
        (q_gJ 9 2 M a0).bind fun v15 =>
        (if v12 < v15 then
          f_X10_plan_b53 (f_X10_plan_b12 a0 n) M a0 a1 v12
        else
          f_X10_plan_b12 a0 n (a1 + (1 : Int32)) M))
    else
      some M)
def f_X10_plan (M : q_Mem) (a0 : Nat) : Option q_Mem :=
  q_ob 9 M a0 ((q_pI 9 1 M a0 (0 : Int32)).bind fun M1 =>
  (q_pJ 9 2 M1 a0 (0 : Int64)).bind fun M3 =>
  f_X10_plan_b12 a0 q_fuel (1 : Int32) M3)
set_option maxRecDepth 20000 in
theorem v_X10_plan_b53 {kk12 : Int32 → q_Mem → Option q_Mem} {M : q_Mem} {a0 : Nat} {a1 : Int32} {a2 : Int64}  (hk12 : ∀ (a1 : Int32) (M : q_Mem), q_V Y_X10_plan none (fun x : q_Mem => (none, x)) 0 0 12 [(0, .ref a0), (1, .int a1)] [] M (kk12 a1 M)): q_V Y_X10_plan none (fun x : q_Mem => (none, x)) 0 0 53 [(0, .ref a0), (1, .int a1), (2, .long a2)] [] M (f_X10_plan_b53 kk12 M a0 a1 a2 ) := by
  unfold f_X10_plan_b53
  refine q_aload_n 0 dX10_plan_53 rfl ?_
  refine q_iload_n 1 dX10_plan_54 rfl ?_
  refine q_putI (f := 1) cl_X10 (by decide) qw_356 rfl (Or.inl rfl) dX10_plan_55 rfl (fun M20 h21 => ?_)
  refine q_aload_n 0 dX10_plan_58 rfl ?_
  refine q_lload_n 2 dX10_plan_59 rfl ?_
  refine q_putJ (f := 2) cl_X10 (by decide) qw_358 rfl (Or.inl rfl) dX10_plan_60 rfl (fun M22 h23 => ?_)
  refine q_iinc 1 (y := (a1 + (1 : Int32))) (ls' := [(1, .int (a1 + (1 : Int32))), (0, .ref a0), (2, .long a2)]) dX10_plan_63 rfl rfl (by decide) rfl ?_
  refine q_goto (tgt := 12) dX10_plan_66 (by decide) ?_
  refine q_sub (ls' := [(0, .ref a0), (1, .int (a1 + (1 : Int32)))]) [1, 0] rfl ?_
  exact hk12 _ _
set_option maxRecDepth 20000 in
theorem v_X10_plan_b12 {a0 : Nat}  : ∀ (n : Nat) (a1 : Int32) (M : q_Mem), q_V Y_X10_plan none (fun x : q_Mem => (none, x)) 0 0 12 [(0, .ref a0), (1, .int a1)] [] M (f_X10_plan_b12 a0 n a1 M) := by
  intro n
  induction n with
  | zero => intro a1 M; exact q_none
  | succ n ih =>
    intro a1 M
    rw [f_X10_plan_b12.eq_2]
    refine q_iload_n 1 dX10_plan_12 rfl ?_
    refine q_iconst (x := (1 : Int32)) dX10_plan_13 rfl ?_
    refine q_aload_n 0 dX10_plan_14 rfl ?_
    refine q_getR (f := 0) cl_X10 (by decide) qw_355 rfl dX10_plan_15 (fun _ _ _ => rfl) (fun v5 h6 => ?_)
    refine q_getR (f := 9) cl_X5 (by decide) qw_106 rfl dX10_plan_18 (fun _ _ _ => rfl) (fun v7 h8 => ?_)
    refine q_getI (f := 3) cl_X9 (by decide) qw_48 rfl dX10_plan_21 (Or.inl rfl) (fun v9 h10 => ?_)
    refine q_ishl dX10_plan_24 ?_
    refine q_icmp_ge (tgt := 69) dX10_plan_25 (by decide) (fun c19 => ?_) (fun c19 => ?_)
    · refine q_aload_n 0 dX10_plan_28 rfl ?_
      refine q_iload_n 1 dX10_plan_29 rfl ?_
      refine q_cVJ (Y2 := Y_X10_costOf) (As := [.int a1]) (b := a0) (st := []) cl_X10 mv_X10_costOf qw_1034 dX10_plan_30 ⟨Nat.le_of_ble_eq_true rfl, Nat.le_of_ble_eq_true rfl⟩ rfl (fun _ _ => rfl) (Nat.le_of_ble_eq_true rfl) ⟨Nat.le_of_ble_eq_true rfl, Nat.le_of_ble_eq_true rfl⟩ (fun v12 h11 => q_ob_is h11) (fun v12 h11 => m_X10_costOf h11) (fun v12 h11 => ?_)
      refine q_lstore_n (ls' := [(2, .long v12), (0, .ref a0), (1, .int a1)]) dX10_plan_33 (by decide) rfl ?_
      refine q_aload_n 1 dX10_plan_34 rfl ?_
      refine q_getI (f := 1) cl_X10 (by decide) qw_356 rfl dX10_plan_35 (Or.inl rfl) (fun v13 h14 => ?_)
      refine q_if_eq (tgt := 53) dX10_plan_38 (by decide) (fun c18 => ?_) (fun c18 => ?_)
      · refine q_sub (ls' := [(0, .ref a0), (1, .int a1), (2, .long v12)]) [1, 2, 0] rfl ?_
        exact v_X10_plan_b53 (ih)
      · refine q_lload_n 0 dX10_plan_41 rfl ?_
        refine q_aload_n 1 dX10_plan_42 rfl ?_
        refine q_getJ (f := 2) cl_X10 (by decide) qw_358 rfl dX10_plan_43 rfl (fun v15 h16 => ?_)
        refine q_lcmp_lt (tgt := 53) dX10_plan_46 dX10_plan_47 (by decide) (fun c17 => ?_) (fun c17 => ?_)
        · refine q_sub (ls' := [(0, .ref a0), (1, .int a1), (2, .long v12)]) [1, 2, 0] rfl ?_
          exact v_X10_plan_b53 (ih)
        · refine q_goto (tgt := 63) dX10_plan_50 (by decide) ?_
          refine q_iinc 2 (y := (a1 + (1 : Int32))) (ls' := [(1, .int (a1 + (1 : Int32))), (2, .long v12), (0, .ref a0)]) dX10_plan_63 rfl rfl (by decide) rfl ?_
          refine q_goto (tgt := 12) dX10_plan_66 (by decide) ?_
          refine q_sub (ls' := [(0, .ref a0), (1, .int (a1 + (1 : Int32)))]) [2, 0] rfl ?_
          exact ih _ _
    · exact q_vret dX10_plan_69 rfl rfl (Nat.le_of_ble_eq_true rfl) rfl
set_option maxRecDepth 20000 in
theorem m_X10_plan {M : q_Mem} {a0 : Nat} {x : q_Mem} (h : f_X10_plan M a0 = some x) : q_C Y_X10_plan [.ref a0] M none x := by
  refine q_met (φ := (fun x : q_Mem => (none, x))) (r := f_X10_plan M a0) (by decide +kernel) (Nat.le_of_ble_eq_true rfl) ?_ h (fun _ _ => rfl)
  show q_V Y_X10_plan none (fun x : q_Mem => (none, x)) 0 0 0 [(0, .ref a0)] [] M (f_X10_plan M a0)
  unfold f_X10_plan
  refine q_obV ?_
  refine q_aload_n 0 dX10_plan_0 rfl ?_
  refine q_iconst (x := (0 : Int32)) dX10_plan_1 rfl ?_
  refine q_putI (f := 1) cl_X10 (by decide) qw_356 rfl (Or.inl rfl) dX10_plan_2 rfl (fun M1 h2 => ?_)
  refine q_aload_n 0 dX10_plan_5 rfl ?_
  refine q_lconst (x := (0 : Int64)) dX10_plan_6 rfl ?_
  refine q_putJ (f := 2) cl_X10 (by decide) qw_358 rfl (Or.inl rfl) dX10_plan_7 rfl (fun M3 h4 => ?_)
  refine q_iconst (x := (1 : Int32)) dX10_plan_10 rfl ?_
  refine q_istore_n (ls' := [(1, .int (1 : Int32)), (0, .ref a0)]) dX10_plan_11 (by decide) rfl ?_
  refine q_sub (ls' := [(0, .ref a0), (1, .int (1 : Int32))]) [1, 0] rfl ?_
  exact v_X10_plan_b12 _ _ _
theorem dX11_init_0 : decode cX11_init 0 = .ok (.aload_n 0, 1) := by decide +kernel
theorem dX11_init_1 : decode cX11_init 1 = .ok (.invokespecial 3, 3) := by decide +kernel
theorem dX11_init_4 : decode cX11_init 4 = .ok (.aload_n 0, 1) := by decide +kernel
theorem dX11_init_5 : decode cX11_init 5 = .ok (.new 9, 3) := by decide +kernel
theorem dX11_init_8 : decode cX11_init 8 = .ok (.dup, 1) := by decide +kernel
theorem dX11_init_9 : decode cX11_init 9 = .ok (.invokespecial 11, 3) := by decide +kernel
theorem dX11_init_12 : decode cX11_init 12 = .ok (.putfield 12, 3) := by decide +kernel
theorem dX11_init_15 : decode cX11_init 15 = .ok (.aload_n 0, 1) := by decide +kernel
theorem dX11_init_16 : decode cX11_init 16 = .ok (.iconst 2, 1) := by decide +kernel
theorem dX11_init_17 : decode cX11_init 17 = .ok (.anewarray 9, 3) := by decide +kernel
theorem dX11_init_20 : decode cX11_init 20 = .ok (.dup, 1) := by decide +kernel
theorem dX11_init_21 : decode cX11_init 21 = .ok (.iconst 0, 1) := by decide +kernel
theorem dX11_init_22 : decode cX11_init 22 = .ok (.new 9, 3) := by decide +kernel
theorem dX11_init_25 : decode cX11_init 25 = .ok (.dup, 1) := by decide +kernel
theorem dX11_init_26 : decode cX11_init 26 = .ok (.invokespecial 11, 3) := by decide +kernel
theorem dX11_init_29 : decode cX11_init 29 = .ok (.aastore, 1) := by decide +kernel
theorem dX11_init_30 : decode cX11_init 30 = .ok (.dup, 1) := by decide +kernel
theorem dX11_init_31 : decode cX11_init 31 = .ok (.iconst 1, 1) := by decide +kernel
theorem dX11_init_32 : decode cX11_init 32 = .ok (.new 9, 3) := by decide +kernel
theorem dX11_init_35 : decode cX11_init 35 = .ok (.dup, 1) := by decide +kernel
theorem dX11_init_36 : decode cX11_init 36 = .ok (.invokespecial 11, 3) := by decide +kernel
theorem dX11_init_39 : decode cX11_init 39 = .ok (.aastore, 1) := by decide +kernel
theorem dX11_init_40 : decode cX11_init 40 = .ok (.putfield 16, 3) := by decide +kernel
theorem dX11_init_43 : decode cX11_init 43 = .ok (.aload_n 0, 1) := by decide +kernel
theorem dX11_init_44 : decode cX11_init 44 = .ok (.iconst 2, 1) := by decide +kernel
theorem dX11_init_45 : decode cX11_init 45 = .ok (.newarray .boolean, 2) := by decide +kernel
theorem dX11_init_47 : decode cX11_init 47 = .ok (.putfield 20, 3) := by decide +kernel
theorem dX11_init_50 : decode cX11_init 50 = .ok (.aload_n 0, 1) := by decide +kernel
theorem dX11_init_51 : decode cX11_init 51 = .ok (.new 24, 3) := by decide +kernel
theorem dX11_init_54 : decode cX11_init 54 = .ok (.dup, 1) := by decide +kernel
theorem dX11_init_55 : decode cX11_init 55 = .ok (.aload_n 0, 1) := by decide +kernel
theorem dX11_init_56 : decode cX11_init 56 = .ok (.getfield 12, 3) := by decide +kernel
theorem dX11_init_59 : decode cX11_init 59 = .ok (.invokespecial 26, 3) := by decide +kernel
theorem dX11_init_62 : decode cX11_init 62 = .ok (.putfield 29, 3) := by decide +kernel
theorem dX11_init_65 : decode cX11_init 65 = .ok (.aload_n 0, 1) := by decide +kernel
theorem dX11_init_66 : decode cX11_init 66 = .ok (.new 33, 3) := by decide +kernel
theorem dX11_init_69 : decode cX11_init 69 = .ok (.dup, 1) := by decide +kernel
theorem dX11_init_70 : decode cX11_init 70 = .ok (.aload_n 0, 1) := by decide +kernel
theorem dX11_init_71 : decode cX11_init 71 = .ok (.getfield 12, 3) := by decide +kernel
theorem dX11_init_74 : decode cX11_init 74 = .ok (.aload_n 0, 1) := by decide +kernel
theorem dX11_init_75 : decode cX11_init 75 = .ok (.getfield 29, 3) := by decide +kernel
theorem dX11_init_78 : decode cX11_init 78 = .ok (.invokespecial 35, 3) := by decide +kernel
theorem dX11_init_81 : decode cX11_init 81 = .ok (.putfield 38, 3) := by decide +kernel
theorem dX11_init_84 : decode cX11_init 84 = .ok (.aload_n 0, 1) := by decide +kernel
theorem dX11_init_85 : decode cX11_init 85 = .ok (.new 42, 3) := by decide +kernel
theorem dX11_init_88 : decode cX11_init 88 = .ok (.dup, 1) := by decide +kernel
theorem dX11_init_89 : decode cX11_init 89 = .ok (.invokespecial 44, 3) := by decide +kernel
theorem dX11_init_92 : decode cX11_init 92 = .ok (.putfield 45, 3) := by decide +kernel
theorem dX11_init_95 : decode cX11_init 95 = .ok (.aload_n 0, 1) := by decide +kernel
theorem dX11_init_96 : decode cX11_init 96 = .ok (.new 49, 3) := by decide +kernel
theorem dX11_init_99 : decode cX11_init 99 = .ok (.dup, 1) := by decide +kernel
theorem dX11_init_100 : decode cX11_init 100 = .ok (.aload_n 0, 1) := by decide +kernel
theorem dX11_init_101 : decode cX11_init 101 = .ok (.getfield 12, 3) := by decide +kernel
theorem dX11_init_104 : decode cX11_init 104 = .ok (.invokespecial 51, 3) := by decide +kernel
theorem dX11_init_107 : decode cX11_init 107 = .ok (.putfield 52, 3) := by decide +kernel
theorem dX11_init_110 : decode cX11_init 110 = .ok (.aload_n 0, 1) := by decide +kernel
theorem dX11_init_111 : decode cX11_init 111 = .ok (.new 56, 3) := by decide +kernel
theorem dX11_init_114 : decode cX11_init 114 = .ok (.dup, 1) := by decide +kernel
theorem dX11_init_115 : decode cX11_init 115 = .ok (.aload_n 0, 1) := by decide +kernel
theorem dX11_init_116 : decode cX11_init 116 = .ok (.getfield 12, 3) := by decide +kernel
theorem dX11_init_119 : decode cX11_init 119 = .ok (.aload_n 0, 1) := by decide +kernel
theorem dX11_init_120 : decode cX11_init 120 = .ok (.getfield 29, 3) := by decide +kernel
theorem dX11_init_123 : decode cX11_init 123 = .ok (.aload_n 0, 1) := by decide +kernel
theorem dX11_init_124 : decode cX11_init 124 = .ok (.getfield 45, 3) := by decide +kernel
theorem dX11_init_127 : decode cX11_init 127 = .ok (.aload_n 0, 1) := by decide +kernel
theorem dX11_init_128 : decode cX11_init 128 = .ok (.getfield 52, 3) := by decide +kernel
theorem dX11_init_131 : decode cX11_init 131 = .ok (.invokespecial 58, 3) := by decide +kernel
theorem dX11_init_134 : decode cX11_init 134 = .ok (.putfield 61, 3) := by decide +kernel
theorem dX11_init_137 : decode cX11_init 137 = .ok (.aload_n 0, 1) := by decide +kernel
theorem dX11_init_138 : decode cX11_init 138 = .ok (.new 65, 3) := by decide +kernel
theorem dX11_init_141 : decode cX11_init 141 = .ok (.dup, 1) := by decide +kernel
theorem dX11_init_142 : decode cX11_init 142 = .ok (.aload_n 0, 1) := by decide +kernel
theorem dX11_init_143 : decode cX11_init 143 = .ok (.getfield 12, 3) := by decide +kernel
theorem dX11_init_146 : decode cX11_init 146 = .ok (.invokespecial 67, 3) := by decide +kernel
theorem dX11_init_149 : decode cX11_init 149 = .ok (.putfield 68, 3) := by decide +kernel
theorem dX11_init_152 : decode cX11_init 152 = .ok (.aload_n 0, 1) := by decide +kernel
theorem dX11_init_153 : decode cX11_init 153 = .ok (.new 72, 3) := by decide +kernel
theorem dX11_init_156 : decode cX11_init 156 = .ok (.dup, 1) := by decide +kernel
theorem dX11_init_157 : decode cX11_init 157 = .ok (.aload_n 0, 1) := by decide +kernel
theorem dX11_init_158 : decode cX11_init 158 = .ok (.getfield 12, 3) := by decide +kernel
theorem dX11_init_161 : decode cX11_init 161 = .ok (.getfield 74, 3) := by decide +kernel
theorem dX11_init_164 : decode cX11_init 164 = .ok (.invokespecial 78, 3) := by decide +kernel
theorem dX11_init_167 : decode cX11_init 167 = .ok (.putfield 81, 3) := by decide +kernel
theorem dX11_init_170 : decode cX11_init 170 = .ok (.aload_n 0, 1) := by decide +kernel
theorem dX11_init_171 : decode cX11_init 171 = .ok (.new 85, 3) := by decide +kernel
theorem dX11_init_174 : decode cX11_init 174 = .ok (.dup, 1) := by decide +kernel
theorem dX11_init_175 : decode cX11_init 175 = .ok (.aload_n 0, 1) := by decide +kernel
theorem dX11_init_176 : decode cX11_init 176 = .ok (.getfield 12, 3) := by decide +kernel
theorem dX11_init_179 : decode cX11_init 179 = .ok (.invokespecial 87, 3) := by decide +kernel
theorem dX11_init_182 : decode cX11_init 182 = .ok (.putfield 88, 3) := by decide +kernel
theorem dX11_init_185 : decode cX11_init 185 = .ok (.return_, 1) := by decide +kernel
def f_X11_init (M : q_Mem) (a0 : Nat) : Option q_Mem :=
  q_ob 10 M a0 ((f_X5_init (q_nw M 4 0) M.1).bind fun M2 =>
  (q_pR 10 0 M2 a0 M.1).bind fun M3 =>
  (q_na M3 103 (2 : Int32)).bind fun M5 =>
  (f_X5_init (q_nw M5 4 0) M5.1).bind fun M7 =>
  (q_tR M7 M3.1 (0 : Int32) M5.1).bind fun M8 =>
  (f_X5_init (q_nw M8 4 0) M8.1).bind fun M11 =>
  (q_tR M11 M3.1 (1 : Int32) M8.1).bind fun M12 =>
  (q_pR 10 1 M12 a0 M3.1).bind fun M14 =>
  (q_na M14 102 (2 : Int32)).bind fun M16 =>
  (q_pR 10 2 M16 a0 M14.1).bind fun M17 =>
  (q_gR 10 0 (q_nw M17 5 0) a0).bind fun v19 =>
  (f_X6_init (q_nw M17 5 0) M17.1 v19).bind fun M22 =>
  (q_pR 10 3 M22 a0 M17.1).bind fun M23 =>
  (q_gR 10 0 (q_nw M23 3 0) a0).bind fun v25 =>
  (q_gR 10 3 (q_nw M23 3 0) a0).bind fun v27 =>
  (f_X4_init (q_nw M23 3 0) M23.1 v25 v27).bind fun M30 =>
  (q_pR 10 4 M30 a0 M23.1).bind fun M31 =>
  (f_X8_init (q_nw M31 7 0) M31.1).bind fun M34 =>
  (q_pR 10 5 M34 a0 M31.1).bind fun M35 =>
  (q_gR 10 0 (q_nw M35 0 0) a0).bind fun v37 =>
  (f_X0_init (q_nw M35 0 0) M35.1 v37).bind fun M40 =>
  (q_pR 10 6 M40 a0 M35.1).bind fun M41 =>
  (q_gR 10 0 (q_nw M41 6 0) a0).bind fun v43 =>
  (q_gR 10 3 (q_nw M41 6 0) a0).bind fun v45 =>
  (q_gR 10 5 (q_nw M41 6 0) a0).bind fun v47 =>
  (q_gR 10 6 (q_nw M41 6 0) a0).bind fun v49 =>
  (f_X7_init (q_nw M41 6 0) M41.1 v43 v45 v47 v49).bind fun M52 =>
  (q_pR 10 7 M52 a0 M41.1).bind fun M53 =>
  (q_gR 10 0 (q_nw M53 2 0) a0).bind fun v55 =>
  (f_X3_init (q_nw M53 2 0) M53.1 v55).bind fun M58 =>
  (q_pR 10 8 M58 a0 M53.1).bind fun M59 =>
  (q_gR 10 0 (q_nw M59 1 0) a0).bind fun v61 =>
  (q_gR 4 7 (q_nw M59 1 0) v61).bind fun v63 =>
  (f_X2_init (q_nw M59 1 0) M59.1 v63).bind fun M66 =>
  (q_pR 10 9 M66 a0 M59.1).bind fun M67 =>
  (q_gR 10 0 (q_nw M67 9 0) a0).bind fun v69 =>
  (f_X10_init (q_nw M67 9 0) M67.1 v69).bind fun M72 =>
  (q_pR 10 10 M72 a0 M67.1).bind fun M73 =>
  some M73)
set_option maxRecDepth 20000 in
theorem m_X11_init {M : q_Mem} {a0 : Nat} {x : q_Mem} (h : f_X11_init M a0 = some x) : q_C Y_X11_init [.ref a0] M none x := by
  refine q_met (φ := (fun x : q_Mem => (none, x))) (r := f_X11_init M a0) (by decide +kernel) (Nat.le_of_ble_eq_true rfl) ?_ h (fun _ _ => rfl)
  show q_V Y_X11_init none (fun x : q_Mem => (none, x)) 0 0 0 [(0, .ref a0)] [] M (f_X11_init M a0)
  unfold f_X11_init
  refine q_obV ?_
  refine q_aload_n 0 dX11_init_0 rfl ?_
  refine q_objInit qw_23 qo_2 qo_3 dX11_init_1 (Nat.le_of_ble_eq_true rfl) (Nat.le_of_ble_eq_true rfl) (Nat.le_of_ble_eq_true rfl) ?_
  refine q_aload_n 0 dX11_init_4 rfl ?_
  refine q_new cl_X5 qw_26 qw_27 qw_2 q_dv_X5 (Nat.le_of_ble_eq_true rfl) (Nat.le_of_ble_eq_true rfl) dX11_init_5 ?_
  refine q_dup dX11_init_8 rfl ?_
  refine q_cI2 (Y2 := Y_X5_init) (As := []) (b := M.1) (st := [.ref M.1, .ref a0]) (k' := 25) (n' := 4808) mi_X5_init qw_28 dX11_init_9 ⟨Nat.le_of_ble_eq_true rfl, Nat.le_of_ble_eq_true rfl⟩ rfl (fun _ _ => rfl) (Nat.le_of_ble_eq_true rfl) rfl rfl ⟨Nat.le_of_ble_eq_true rfl, Nat.le_of_ble_eq_true rfl⟩ (fun M2 h1 => m_X5_init h1) (fun M2 h1 => ?_)
  refine q_putR (f := 0) cl_X11 (by decide) qw_367 rfl (Or.inr ⟨rfl, rfl, rfl⟩) dX11_init_12 (fun _ _ _ => rfl) (fun _ => rfl) (fun _ => rfl) (fun M3 h4 => ?_)
  refine q_aload_n 0 dX11_init_15 rfl ?_
  refine q_iconst (x := (2 : Int32)) dX11_init_16 rfl ?_
  refine q_anew (len := 2) qw_26 (by decide) rfl (by decide) (Nat.le_of_ble_eq_true rfl) (Nat.le_of_ble_eq_true rfl) dX11_init_17 ?_
  refine q_dup dX11_init_20 rfl ?_
  refine q_iconst (x := (0 : Int32)) dX11_init_21 rfl ?_
  refine q_new cl_X5 qw_26 qw_27 qw_2 q_dv_X5 (Nat.le_of_ble_eq_true rfl) (Nat.le_of_ble_eq_true rfl) dX11_init_22 ?_
  refine q_dup dX11_init_25 rfl ?_
  refine q_cI2 (Y2 := Y_X5_init) (As := []) (b := (q_nw M3 103 2).1) (st := [.ref (q_nw M3 103 2).1, .int (0 : Int32), .ref M3.1, .ref M3.1, .ref a0]) (k' := 51) (n' := 9618) mi_X5_init qw_28 dX11_init_26 ⟨Nat.le_of_ble_eq_true rfl, Nat.le_of_ble_eq_true rfl⟩ rfl (fun _ _ => rfl) (Nat.le_of_ble_eq_true rfl) rfl rfl ⟨Nat.le_of_ble_eq_true rfl, Nat.le_of_ble_eq_true rfl⟩ (fun M7 h6 => m_X5_init h6) (fun M7 h6 => ?_)
  refine q_rast dX11_init_29 (fun M8 h9 => ?_)
  refine q_dup dX11_init_30 rfl ?_
  refine q_iconst (x := (1 : Int32)) dX11_init_31 rfl ?_
  refine q_new cl_X5 qw_26 qw_27 qw_2 q_dv_X5 (Nat.le_of_ble_eq_true rfl) (Nat.le_of_ble_eq_true rfl) dX11_init_32 ?_
  refine q_dup dX11_init_35 rfl ?_
  refine q_cI2 (Y2 := Y_X5_init) (As := []) (b := M8.1) (st := [.ref M8.1, .int (1 : Int32), .ref M3.1, .ref M3.1, .ref a0]) (k' := 76) (n' := 14426) mi_X5_init qw_28 dX11_init_36 ⟨Nat.le_of_ble_eq_true rfl, Nat.le_of_ble_eq_true rfl⟩ rfl (fun _ _ => rfl) (Nat.le_of_ble_eq_true rfl) rfl rfl ⟨Nat.le_of_ble_eq_true rfl, Nat.le_of_ble_eq_true rfl⟩ (fun M11 h10 => m_X5_init h10) (fun M11 h10 => ?_)
  refine q_rast dX11_init_39 (fun M12 h13 => ?_)
  refine q_putR (f := 1) cl_X11 (by decide) qw_368 rfl (Or.inr ⟨rfl, rfl, rfl⟩) dX11_init_40 (fun _ _ _ => rfl) (fun _ => rfl) (fun _ => rfl) (fun M14 h15 => ?_)
  refine q_aload_n 0 dX11_init_43 rfl ?_
  refine q_iconst (x := (2 : Int32)) dX11_init_44 rfl ?_
  refine q_newarr (at_ := .boolean) (ty := .boolean) (len := 2) rfl qa_boolean (Or.inr (Or.inr ⟨rfl, rfl, rfl⟩)) (by decide) rfl (by decide) (Nat.le_of_ble_eq_true rfl) (Nat.le_of_ble_eq_true rfl) dX11_init_45 ?_
  refine q_putR (f := 2) cl_X11 (by decide) qw_369 rfl (Or.inr ⟨rfl, rfl, rfl⟩) dX11_init_47 (fun _ _ _ => rfl) (fun _ => rfl) (fun _ => rfl) (fun M17 h18 => ?_)
  refine q_aload_n 0 dX11_init_50 rfl ?_
  refine q_new cl_X6 qw_157 qw_158 qw_5 q_dv_X6 (Nat.le_of_ble_eq_true rfl) (Nat.le_of_ble_eq_true rfl) dX11_init_51 ?_
  refine q_dup dX11_init_54 rfl ?_
  refine q_aload_n 0 dX11_init_55 rfl ?_
  refine q_getR (f := 0) cl_X11 (by decide) qw_367 rfl dX11_init_56 (fun _ _ _ => rfl) (fun v19 h20 => ?_)
  refine q_cI2 (Y2 := Y_X6_init) (As := [.ref v19]) (b := M17.1) (st := [.ref M17.1, .ref a0]) (k' := 79) (n' := 14631) mi_X6_init qw_159 dX11_init_59 ⟨Nat.le_of_ble_eq_true rfl, Nat.le_of_ble_eq_true rfl⟩ rfl (fun _ _ => rfl) (Nat.le_of_ble_eq_true rfl) rfl rfl ⟨Nat.le_of_ble_eq_true rfl, Nat.le_of_ble_eq_true rfl⟩ (fun M22 h21 => m_X6_init h21) (fun M22 h21 => ?_)
  refine q_putR (f := 3) cl_X11 (by decide) qw_370 rfl (Or.inr ⟨rfl, rfl, rfl⟩) dX11_init_62 (fun _ _ _ => rfl) (fun _ => rfl) (fun _ => rfl) (fun M23 h24 => ?_)
  refine q_aload_n 0 dX11_init_65 rfl ?_
  refine q_new cl_X4 qw_174 qw_175 qw_6 q_dv_X4 (Nat.le_of_ble_eq_true rfl) (Nat.le_of_ble_eq_true rfl) dX11_init_66 ?_
  refine q_dup dX11_init_69 rfl ?_
  refine q_aload_n 0 dX11_init_70 rfl ?_
  refine q_getR (f := 0) cl_X11 (by decide) qw_367 rfl dX11_init_71 (fun _ _ _ => rfl) (fun v25 h26 => ?_)
  refine q_aload_n 0 dX11_init_74 rfl ?_
  refine q_getR (f := 3) cl_X11 (by decide) qw_370 rfl dX11_init_75 (fun _ _ _ => rfl) (fun v27 h28 => ?_)
  refine q_cI2 (Y2 := Y_X4_init) (As := [.ref v25, .ref v27]) (b := M23.1) (st := [.ref M23.1, .ref a0]) (k' := 80) (n' := 14633) mi_X4_init qw_176 dX11_init_78 ⟨Nat.le_of_ble_eq_true rfl, Nat.le_of_ble_eq_true rfl⟩ rfl (fun _ _ => rfl) (Nat.le_of_ble_eq_true rfl) rfl rfl ⟨Nat.le_of_ble_eq_true rfl, Nat.le_of_ble_eq_true rfl⟩ (fun M30 h29 => m_X4_init h29) (fun M30 h29 => ?_)
  refine q_putR (f := 4) cl_X11 (by decide) qw_371 rfl (Or.inr ⟨rfl, rfl, rfl⟩) dX11_init_81 (fun _ _ _ => rfl) (fun _ => rfl) (fun _ => rfl) (fun M31 h32 => ?_)
  refine q_aload_n 0 dX11_init_84 rfl ?_
  refine q_new cl_X8 qw_187 qw_188 qw_7 q_dv_X8 (Nat.le_of_ble_eq_true rfl) (Nat.le_of_ble_eq_true rfl) dX11_init_85 ?_
  refine q_dup dX11_init_88 rfl ?_
  refine q_cIN2 (Y2 := Y_X8_init) (As := []) (b := M31.1) (st := [.ref M31.1, .ref a0]) (k' := 86) (n' := 14895) mi_X8_init (host := "CountyCream") (by decide +kernel) dX11_init_89 ⟨Nat.le_of_ble_eq_true rfl, Nat.le_of_ble_eq_true rfl⟩ rfl (fun _ _ => rfl) (Nat.le_of_ble_eq_true rfl) rfl rfl ⟨Nat.le_of_ble_eq_true rfl, Nat.le_of_ble_eq_true rfl⟩ (fun M34 h33 => m_X8_init h33) (fun M34 h33 => ?_)
  refine q_putR (f := 5) cl_X11 (by decide) qw_372 rfl (Or.inr ⟨rfl, rfl, rfl⟩) dX11_init_92 (fun _ _ _ => rfl) (fun _ => rfl) (fun _ => rfl) (fun M35 h36 => ?_)
  refine q_aload_n 0 dX11_init_95 rfl ?_
  refine q_new cl_X0 qw_241 qw_242 qw_8 q_dv_X0 (Nat.le_of_ble_eq_true rfl) (Nat.le_of_ble_eq_true rfl) dX11_init_96 ?_
  refine q_dup dX11_init_99 rfl ?_
  refine q_aload_n 0 dX11_init_100 rfl ?_
  refine q_getR (f := 0) cl_X11 (by decide) qw_367 rfl dX11_init_101 (fun _ _ _ => rfl) (fun v37 h38 => ?_)
  refine q_cI2 (Y2 := Y_X0_init) (As := [.ref v37]) (b := M35.1) (st := [.ref M35.1, .ref a0]) (k' := 87) (n' := 14897) mi_X0_init qw_243 dX11_init_104 ⟨Nat.le_of_ble_eq_true rfl, Nat.le_of_ble_eq_true rfl⟩ rfl (fun _ _ => rfl) (Nat.le_of_ble_eq_true rfl) rfl rfl ⟨Nat.le_of_ble_eq_true rfl, Nat.le_of_ble_eq_true rfl⟩ (fun M40 h39 => m_X0_init h39) (fun M40 h39 => ?_)
  refine q_putR (f := 6) cl_X11 (by decide) qw_373 rfl (Or.inr ⟨rfl, rfl, rfl⟩) dX11_init_107 (fun _ _ _ => rfl) (fun _ => rfl) (fun _ => rfl) (fun M41 h42 => ?_)
  refine q_aload_n 0 dX11_init_110 rfl ?_
  refine q_new cl_X7 qw_254 qw_255 qw_9 q_dv_X7 (Nat.le_of_ble_eq_true rfl) (Nat.le_of_ble_eq_true rfl) dX11_init_111 ?_
  refine q_dup dX11_init_114 rfl ?_
  refine q_aload_n 0 dX11_init_115 rfl ?_
  refine q_getR (f := 0) cl_X11 (by decide) qw_367 rfl dX11_init_116 (fun _ _ _ => rfl) (fun v43 h44 => ?_)
  refine q_aload_n 0 dX11_init_119 rfl ?_
  refine q_getR (f := 3) cl_X11 (by decide) qw_370 rfl dX11_init_120 (fun _ _ _ => rfl) (fun v45 h46 => ?_)
  refine q_aload_n 0 dX11_init_123 rfl ?_
  refine q_getR (f := 5) cl_X11 (by decide) qw_372 rfl dX11_init_124 (fun _ _ _ => rfl) (fun v47 h48 => ?_)
  refine q_aload_n 0 dX11_init_127 rfl ?_
  refine q_getR (f := 6) cl_X11 (by decide) qw_373 rfl dX11_init_128 (fun _ _ _ => rfl) (fun v49 h50 => ?_)
  refine q_cI2 (Y2 := Y_X7_init) (As := [.ref v43, .ref v45, .ref v47, .ref v49]) (b := M41.1) (st := [.ref M41.1, .ref a0]) (k' := 94) (n' := 15027) mi_X7_init qw_256 dX11_init_131 ⟨Nat.le_of_ble_eq_true rfl, Nat.le_of_ble_eq_true rfl⟩ rfl (fun _ _ => rfl) (Nat.le_of_ble_eq_true rfl) rfl rfl ⟨Nat.le_of_ble_eq_true rfl, Nat.le_of_ble_eq_true rfl⟩ (fun M52 h51 => m_X7_init h51) (fun M52 h51 => ?_)
  refine q_putR (f := 7) cl_X11 (by decide) qw_374 rfl (Or.inr ⟨rfl, rfl, rfl⟩) dX11_init_134 (fun _ _ _ => rfl) (fun _ => rfl) (fun _ => rfl) (fun M53 h54 => ?_)
  refine q_aload_n 0 dX11_init_137 rfl ?_
  refine q_new cl_X3 qw_292 qw_293 qw_10 q_dv_X3 (Nat.le_of_ble_eq_true rfl) (Nat.le_of_ble_eq_true rfl) dX11_init_138 ?_
  refine q_dup dX11_init_141 rfl ?_
  refine q_aload_n 0 dX11_init_142 rfl ?_
  refine q_getR (f := 0) cl_X11 (by decide) qw_367 rfl dX11_init_143 (fun _ _ _ => rfl) (fun v55 h56 => ?_)
  refine q_cI2 (Y2 := Y_X3_init) (As := [.ref v55]) (b := M53.1) (st := [.ref M53.1, .ref a0]) (k' := 100) (n' := 17171) mi_X3_init qw_294 dX11_init_146 ⟨Nat.le_of_ble_eq_true rfl, Nat.le_of_ble_eq_true rfl⟩ rfl (fun _ _ => rfl) (Nat.le_of_ble_eq_true rfl) rfl rfl ⟨Nat.le_of_ble_eq_true rfl, Nat.le_of_ble_eq_true rfl⟩ (fun M58 h57 => m_X3_init h57) (fun M58 h57 => ?_)
  refine q_putR (f := 8) cl_X11 (by decide) qw_375 rfl (Or.inr ⟨rfl, rfl, rfl⟩) dX11_init_149 (fun _ _ _ => rfl) (fun _ => rfl) (fun _ => rfl) (fun M59 h60 => ?_)
  refine q_aload_n 0 dX11_init_152 rfl ?_
  refine q_new cl_X2 qw_324 qw_325 qw_11 q_dv_X2 (Nat.le_of_ble_eq_true rfl) (Nat.le_of_ble_eq_true rfl) dX11_init_153 ?_
  refine q_dup dX11_init_156 rfl ?_
  refine q_aload_n 0 dX11_init_157 rfl ?_
  refine q_getR (f := 0) cl_X11 (by decide) qw_367 rfl dX11_init_158 (fun _ _ _ => rfl) (fun v61 h62 => ?_)
  refine q_getR (f := 7) cl_X5 (by decide) qw_102 rfl dX11_init_161 (fun _ _ _ => rfl) (fun v63 h64 => ?_)
  refine q_cI2 (Y2 := Y_X2_init) (As := [.ref v63]) (b := M59.1) (st := [.ref M59.1, .ref a0]) (k' := 106) (n' := 22297) mi_X2_init qw_326 dX11_init_164 ⟨Nat.le_of_ble_eq_true rfl, Nat.le_of_ble_eq_true rfl⟩ rfl (fun _ _ => rfl) (Nat.le_of_ble_eq_true rfl) rfl rfl ⟨Nat.le_of_ble_eq_true rfl, Nat.le_of_ble_eq_true rfl⟩ (fun M66 h65 => m_X2_init h65) (fun M66 h65 => ?_)
  refine q_putR (f := 9) cl_X11 (by decide) qw_376 rfl (Or.inr ⟨rfl, rfl, rfl⟩) dX11_init_167 (fun _ _ _ => rfl) (fun _ => rfl) (fun _ => rfl) (fun M67 h68 => ?_)
  refine q_aload_n 0 dX11_init_170 rfl ?_
  refine q_new cl_X10 qw_349 qw_350 qw_12 q_dv_X10 (Nat.le_of_ble_eq_true rfl) (Nat.le_of_ble_eq_true rfl) dX11_init_171 ?_
  refine q_dup dX11_init_174 rfl ?_
  refine q_aload_n 0 dX11_init_175 rfl ?_
  refine q_getR (f := 0) cl_X11 (by decide) qw_367 rfl dX11_init_176 (fun _ _ _ => rfl) (fun v69 h70 => ?_)
  refine q_cI2 (Y2 := Y_X10_init) (As := [.ref v69]) (b := M67.1) (st := [.ref M67.1, .ref a0]) (k' := 107) (n' := 22300) mi_X10_init qw_351 dX11_init_179 ⟨Nat.le_of_ble_eq_true rfl, Nat.le_of_ble_eq_true rfl⟩ rfl (fun _ _ => rfl) (Nat.le_of_ble_eq_true rfl) rfl rfl ⟨Nat.le_of_ble_eq_true rfl, Nat.le_of_ble_eq_true rfl⟩ (fun M72 h71 => m_X10_init h71) (fun M72 h71 => ?_)
  refine q_putR (f := 10) cl_X11 (by decide) qw_377 rfl (Or.inr ⟨rfl, rfl, rfl⟩) dX11_init_182 (fun _ _ _ => rfl) (fun _ => rfl) (fun _ => rfl) (fun M73 h74 => ?_)
  exact q_vret dX11_init_185 rfl rfl (Nat.le_of_ble_eq_true rfl) rfl
theorem dX11_within_0 : decode cX11_within 0 = .ok (.iload_n 0, 1) := by decide +kernel
theorem dX11_within_1 : decode cX11_within 1 = .ok (.iload_n 1, 1) := by decide +kernel
theorem dX11_within_2 : decode cX11_within 2 = .ok (.if_icmp .lt 12, 3) := by decide +kernel
theorem dX11_within_5 : decode cX11_within 5 = .ok (.iload_n 0, 1) := by decide +kernel
theorem dX11_within_6 : decode cX11_within 6 = .ok (.iload_n 2, 1) := by decide +kernel
theorem dX11_within_7 : decode cX11_within 7 = .ok (.if_icmp .gt 7, 3) := by decide +kernel
theorem dX11_within_10 : decode cX11_within 10 = .ok (.iconst 1, 1) := by decide +kernel
theorem dX11_within_11 : decode cX11_within 11 = .ok (.goto 4, 3) := by decide +kernel
theorem dX11_within_14 : decode cX11_within 14 = .ok (.iconst 0, 1) := by decide +kernel
theorem dX11_within_15 : decode cX11_within 15 = .ok (.ireturn, 1) := by decide +kernel
def f_X11_within (M : q_Mem) (a0 : Int32) (a1 : Int32) (a2 : Int32) : Option Int32 :=
  (if a0 < a1 then
    some (0 : Int32)
  else
    (if a2 < a0 then
      some (0 : Int32)
    else
      some (1 : Int32)))
set_option maxRecDepth 20000 in
theorem m_X11_within {M : q_Mem} {a0 : Int32} {a1 : Int32} {a2 : Int32} {x : Int32} (h : f_X11_within M a0 a1 a2 = some x) : q_C Y_X11_within [.int a0, .int a1, .int a2] M (some (.int x)) M := by
  refine q_met (φ := (fun x : Int32 => (some (.int x), M))) (r := f_X11_within M a0 a1 a2) (by decide +kernel) (Nat.le_of_ble_eq_true rfl) ?_ h (fun _ _ => rfl)
  show q_V Y_X11_within none (fun x : Int32 => (some (.int x), M)) 0 0 0 [(0, .int a0), (1, .int a1), (2, .int a2)] [] M (f_X11_within M a0 a1 a2)
  unfold f_X11_within
  refine q_iload_n 0 dX11_within_0 rfl ?_
  refine q_iload_n 1 dX11_within_1 rfl ?_
  refine q_icmp_lt (tgt := 14) dX11_within_2 (by decide) (fun c2 => ?_) (fun c2 => ?_)
  · refine q_iconst (x := (0 : Int32)) dX11_within_14 rfl ?_
    exact q_zretL dX11_within_15 rfl (Or.inl rfl) rfl (Nat.le_of_ble_eq_true rfl) rfl
  · refine q_iload_n 0 dX11_within_5 rfl ?_
    refine q_iload_n 2 dX11_within_6 rfl ?_
    refine q_icmp_gt (tgt := 14) dX11_within_7 (by decide) (fun c1 => ?_) (fun c1 => ?_)
    · refine q_iconst (x := (0 : Int32)) dX11_within_14 rfl ?_
      exact q_zretL dX11_within_15 rfl (Or.inl rfl) rfl (Nat.le_of_ble_eq_true rfl) rfl
    · refine q_iconst (x := (1 : Int32)) dX11_within_10 rfl ?_
      refine q_goto (tgt := 15) dX11_within_11 (by decide) ?_
      exact q_zretL dX11_within_15 rfl (Or.inr rfl) rfl (Nat.le_of_ble_eq_true rfl) rfl
theorem dX11_isPlace_0 : decode cX11_isPlace 0 = .ok (.iload_n 0, 1) := by decide +kernel
theorem dX11_isPlace_1 : decode cX11_isPlace 1 = .ok (.iconst 0, 1) := by decide +kernel
theorem dX11_isPlace_2 : decode cX11_isPlace 2 = .ok (.sipush 200, 3) := by decide +kernel
theorem dX11_isPlace_5 : decode cX11_isPlace 5 = .ok (.invokestatic 96, 3) := by decide +kernel
theorem dX11_isPlace_8 : decode cX11_isPlace 8 = .ok (.ifCond .eq 18, 3) := by decide +kernel
theorem dX11_isPlace_11 : decode cX11_isPlace 11 = .ok (.iload_n 1, 1) := by decide +kernel
theorem dX11_isPlace_12 : decode cX11_isPlace 12 = .ok (.iconst 0, 1) := by decide +kernel
theorem dX11_isPlace_13 : decode cX11_isPlace 13 = .ok (.sipush 200, 3) := by decide +kernel
theorem dX11_isPlace_16 : decode cX11_isPlace 16 = .ok (.invokestatic 96, 3) := by decide +kernel
theorem dX11_isPlace_19 : decode cX11_isPlace 19 = .ok (.ifCond .eq 7, 3) := by decide +kernel
theorem dX11_isPlace_22 : decode cX11_isPlace 22 = .ok (.iconst 1, 1) := by decide +kernel
theorem dX11_isPlace_23 : decode cX11_isPlace 23 = .ok (.goto 4, 3) := by decide +kernel
theorem dX11_isPlace_26 : decode cX11_isPlace 26 = .ok (.iconst 0, 1) := by decide +kernel
theorem dX11_isPlace_27 : decode cX11_isPlace 27 = .ok (.ireturn, 1) := by decide +kernel
def f_X11_isPlace (M : q_Mem) (a0 : Int32) (a1 : Int32) : Option Int32 :=
  (f_X11_within M a0 (0 : Int32) (200 : Int32)).bind fun v2 =>
  (if v2 = 0 then
    some (0 : Int32)
  else
    (f_X11_within M a1 (0 : Int32) (200 : Int32)).bind fun v4 =>
    (if v4 = 0 then
      some (0 : Int32)
    else
      some (1 : Int32)))
set_option maxRecDepth 20000 in
theorem m_X11_isPlace {M : q_Mem} {a0 : Int32} {a1 : Int32} {x : Int32} (h : f_X11_isPlace M a0 a1 = some x) : q_C Y_X11_isPlace [.int a0, .int a1] M (some (.int x)) M := by
  refine q_met (φ := (fun x : Int32 => (some (.int x), M))) (r := f_X11_isPlace M a0 a1) (by decide +kernel) (Nat.le_of_ble_eq_true rfl) ?_ h (fun _ _ => rfl)
  show q_V Y_X11_isPlace none (fun x : Int32 => (some (.int x), M)) 0 0 0 [(0, .int a0), (1, .int a1)] [] M (f_X11_isPlace M a0 a1)
  unfold f_X11_isPlace
  refine q_iload_n 0 dX11_isPlace_0 rfl ?_
  refine q_iconst (x := (0 : Int32)) dX11_isPlace_1 rfl ?_
  refine q_sipush (x := (200 : Int32)) dX11_isPlace_2 rfl ?_
  refine q_cSI (Y2 := Y_X11_within) (As := [.int a0, .int (0 : Int32), .int (200 : Int32)]) (st := []) ms_X11_within qw_408 dX11_isPlace_5 ⟨Nat.le_of_ble_eq_true rfl, Nat.le_of_ble_eq_true rfl⟩ rfl (fun _ _ => rfl) (Nat.le_of_ble_eq_true rfl) ⟨Nat.le_of_ble_eq_true rfl, Nat.le_of_ble_eq_true rfl⟩ (fun v2 h1 => m_X11_within h1) (fun v2 h1 => ?_)
  refine q_if_eq (tgt := 26) dX11_isPlace_8 (by decide) (fun c6 => ?_) (fun c6 => ?_)
  · refine q_iconst (x := (0 : Int32)) dX11_isPlace_26 rfl ?_
    exact q_zretL dX11_isPlace_27 rfl (Or.inl rfl) rfl (Nat.le_of_ble_eq_true rfl) rfl
  · refine q_iload_n 1 dX11_isPlace_11 rfl ?_
    refine q_iconst (x := (0 : Int32)) dX11_isPlace_12 rfl ?_
    refine q_sipush (x := (200 : Int32)) dX11_isPlace_13 rfl ?_
    refine q_cSI (Y2 := Y_X11_within) (As := [.int a1, .int (0 : Int32), .int (200 : Int32)]) (st := []) ms_X11_within qw_408 dX11_isPlace_16 ⟨Nat.le_of_ble_eq_true rfl, Nat.le_of_ble_eq_true rfl⟩ rfl (fun _ _ => rfl) (Nat.le_of_ble_eq_true rfl) ⟨Nat.le_of_ble_eq_true rfl, Nat.le_of_ble_eq_true rfl⟩ (fun v4 h3 => m_X11_within h3) (fun v4 h3 => ?_)
    refine q_if_eq (tgt := 26) dX11_isPlace_19 (by decide) (fun c5 => ?_) (fun c5 => ?_)
    · refine q_iconst (x := (0 : Int32)) dX11_isPlace_26 rfl ?_
      exact q_zretL dX11_isPlace_27 rfl (Or.inl rfl) rfl (Nat.le_of_ble_eq_true rfl) rfl
    · refine q_iconst (x := (1 : Int32)) dX11_isPlace_22 rfl ?_
      refine q_goto (tgt := 27) dX11_isPlace_23 (by decide) ?_
      exact q_zretL dX11_isPlace_27 rfl (Or.inr rfl) rfl (Nat.le_of_ble_eq_true rfl) rfl
theorem dX11_farm_0 : decode cX11_farm 0 = .ok (.iload_n 1, 1) := by decide +kernel
theorem dX11_farm_1 : decode cX11_farm 1 = .ok (.iload_n 2, 1) := by decide +kernel
theorem dX11_farm_2 : decode cX11_farm 2 = .ok (.invokestatic 92, 3) := by decide +kernel
theorem dX11_farm_5 : decode cX11_farm 5 = .ok (.ifCond .eq 13, 3) := by decide +kernel
theorem dX11_farm_8 : decode cX11_farm 8 = .ok (.iload_n 3, 1) := by decide +kernel
theorem dX11_farm_9 : decode cX11_farm 9 = .ok (.iconst 0, 1) := by decide +kernel
theorem dX11_farm_10 : decode cX11_farm 10 = .ok (.bipush 60, 2) := by decide +kernel
theorem dX11_farm_12 : decode cX11_farm 12 = .ok (.invokestatic 96, 3) := by decide +kernel
theorem dX11_farm_15 : decode cX11_farm 15 = .ok (.ifCond .ne 6, 3) := by decide +kernel
theorem dX11_farm_18 : decode cX11_farm 18 = .ok (.bipush (-2), 2) := by decide +kernel
theorem dX11_farm_20 : decode cX11_farm 20 = .ok (.ireturn, 1) := by decide +kernel
theorem dX11_farm_21 : decode cX11_farm 21 = .ok (.aload_n 0, 1) := by decide +kernel
theorem dX11_farm_22 : decode cX11_farm 22 = .ok (.getfield 12, 3) := by decide +kernel
theorem dX11_farm_25 : decode cX11_farm 25 = .ok (.getfield 100, 3) := by decide +kernel
theorem dX11_farm_28 : decode cX11_farm 28 = .ok (.iload_n 1, 1) := by decide +kernel
theorem dX11_farm_29 : decode cX11_farm 29 = .ok (.iload_n 2, 1) := by decide +kernel
theorem dX11_farm_30 : decode cX11_farm 30 = .ok (.iload_n 3, 1) := by decide +kernel
theorem dX11_farm_31 : decode cX11_farm 31 = .ok (.invokevirtual 103, 3) := by decide +kernel
theorem dX11_farm_34 : decode cX11_farm 34 = .ok (.istore 5, 2) := by decide +kernel
theorem dX11_farm_36 : decode cX11_farm 36 = .ok (.aload_n 0, 1) := by decide +kernel
theorem dX11_farm_37 : decode cX11_farm 37 = .ok (.getfield 12, 3) := by decide +kernel
theorem dX11_farm_40 : decode cX11_farm 40 = .ok (.getfield 100, 3) := by decide +kernel
theorem dX11_farm_43 : decode cX11_farm 43 = .ok (.iload 5, 2) := by decide +kernel
theorem dX11_farm_45 : decode cX11_farm 45 = .ok (.iconst 3, 1) := by decide +kernel
theorem dX11_farm_46 : decode cX11_farm 46 = .ok (.iload 4, 2) := by decide +kernel
theorem dX11_farm_48 : decode cX11_farm 48 = .ok (.invokestatic 109, 3) := by decide +kernel
theorem dX11_farm_51 : decode cX11_farm 51 = .ok (.invokevirtual 113, 3) := by decide +kernel
theorem dX11_farm_54 : decode cX11_farm 54 = .ok (.iload 5, 2) := by decide +kernel
theorem dX11_farm_56 : decode cX11_farm 56 = .ok (.ireturn, 1) := by decide +kernel
def f_X11_farm (M : q_Mem) (a0 : Nat) (a1 : Int32) (a2 : Int32) (a3 : Int32) (a4 : Int32) : Option (Int32 × q_Mem) :=
  q_ob 10 M a0 ((f_X11_isPlace M a1 a2).bind fun v2 =>
  (if v2 = 0 then
    some ((-2 : Int32), M)
  else
    (f_X11_within M a3 (0 : Int32) (60 : Int32)).bind fun v4 =>
    (if v4 = 0 then
      some ((-2 : Int32), M)
    else
      (q_gR 10 0 M a0).bind fun v5 =>
      (q_gR 4 0 M v5).bind fun v7 =>
      (f_X9_come M v7 a1 a2 a3).bind fun r10 =>
      (q_gR 10 0 r10.2 a0).bind fun v11 =>
      (q_gR 4 0 r10.2 v11).bind fun v13 =>
      (f_X11_asNumber r10.2 a4).bind fun v16 =>
      (f_X9_put r10.2 v13 r10.1 (3 : Int32) v16).bind fun M19 =>
      some (r10.1, M19))))
set_option maxRecDepth 20000 in
theorem m_X11_farm {M : q_Mem} {a0 : Nat} {a1 : Int32} {a2 : Int32} {a3 : Int32} {a4 : Int32} {x : (Int32 × q_Mem)} (h : f_X11_farm M a0 a1 a2 a3 a4 = some x) : q_C Y_X11_farm [.ref a0, .int a1, .int a2, .int a3, .int a4] M (some (.int x.1)) x.2 := by
  refine q_met (φ := (fun x : Int32 × q_Mem => (some (.int x.1), x.2))) (r := f_X11_farm M a0 a1 a2 a3 a4) (by decide +kernel) (Nat.le_of_ble_eq_true rfl) ?_ h (fun _ _ => rfl)
  show q_V Y_X11_farm none (fun x : Int32 × q_Mem => (some (.int x.1), x.2)) 0 0 0 [(0, .ref a0), (1, .int a1), (2, .int a2), (3, .int a3), (4, .int a4)] [] M (f_X11_farm M a0 a1 a2 a3 a4)
  unfold f_X11_farm
  refine q_obV ?_
  refine q_iload_n 1 dX11_farm_0 rfl ?_
  refine q_iload_n 2 dX11_farm_1 rfl ?_
  refine q_cSI (Y2 := Y_X11_isPlace) (As := [.int a1, .int a2]) (st := []) ms_X11_isPlace qw_405 dX11_farm_2 ⟨Nat.le_of_ble_eq_true rfl, Nat.le_of_ble_eq_true rfl⟩ rfl (fun _ _ => rfl) (Nat.le_of_ble_eq_true rfl) ⟨Nat.le_of_ble_eq_true rfl, Nat.le_of_ble_eq_true rfl⟩ (fun v2 h1 => m_X11_isPlace h1) (fun v2 h1 => ?_)
  refine q_if_eq (tgt := 18) dX11_farm_5 (by decide) (fun c21 => ?_) (fun c21 => ?_)
  · refine q_bipush (x := (-2 : Int32)) dX11_farm_18 rfl ?_
    exact q_iret dX11_farm_20 rfl rfl (Nat.le_of_ble_eq_true rfl) rfl
  · refine q_iload_n 3 dX11_farm_8 rfl ?_
    refine q_iconst (x := (0 : Int32)) dX11_farm_9 rfl ?_
    refine q_bipush (x := (60 : Int32)) dX11_farm_10 rfl ?_
    refine q_cSI (Y2 := Y_X11_within) (As := [.int a3, .int (0 : Int32), .int (60 : Int32)]) (st := []) ms_X11_within qw_408 dX11_farm_12 ⟨Nat.le_of_ble_eq_true rfl, Nat.le_of_ble_eq_true rfl⟩ rfl (fun _ _ => rfl) (Nat.le_of_ble_eq_true rfl) ⟨Nat.le_of_ble_eq_true rfl, Nat.le_of_ble_eq_true rfl⟩ (fun v4 h3 => m_X11_within h3) (fun v4 h3 => ?_)
    refine q_if_ne (tgt := 21) dX11_farm_15 (by decide) (fun c20 => ?_) (fun c20 => ?_)
    · refine q_bipush (x := (-2 : Int32)) dX11_farm_18 rfl ?_
      exact q_iret dX11_farm_20 rfl rfl (Nat.le_of_ble_eq_true rfl) rfl
    · refine q_aload_n 0 dX11_farm_21 rfl ?_
      refine q_getR (f := 0) cl_X11 (by decide) qw_367 rfl dX11_farm_22 (fun _ _ _ => rfl) (fun v5 h6 => ?_)
      refine q_getR (f := 0) cl_X5 (by decide) qw_72 rfl dX11_farm_25 (fun _ _ _ => rfl) (fun v7 h8 => ?_)
      refine q_iload_n 1 dX11_farm_28 rfl ?_
      refine q_iload_n 2 dX11_farm_29 rfl ?_
      refine q_iload_n 3 dX11_farm_30 rfl ?_
      refine q_cVMI (Y2 := Y_X9_come) (As := [.int a1, .int a2, .int a3]) (b := v7) (st := []) cl_X9 mv_X9_come qw_411 dX11_farm_31 ⟨Nat.le_of_ble_eq_true rfl, Nat.le_of_ble_eq_true rfl⟩ rfl (fun _ _ => rfl) (Nat.le_of_ble_eq_true rfl) ⟨Nat.le_of_ble_eq_true rfl, Nat.le_of_ble_eq_true rfl⟩ (fun r10 h9 => q_ob_is h9) (fun r10 h9 => m_X9_come h9) (fun r10 h9 => ?_)
      refine q_istore (ls' := [(5, .int r10.1), (0, .ref a0), (1, .int a1), (2, .int a2), (3, .int a3), (4, .int a4)]) dX11_farm_34 (by decide) rfl ?_
      refine q_aload_n 1 dX11_farm_36 rfl ?_
      refine q_getR (f := 0) cl_X11 (by decide) qw_367 rfl dX11_farm_37 (fun _ _ _ => rfl) (fun v11 h12 => ?_)
      refine q_getR (f := 0) cl_X5 (by decide) qw_72 rfl dX11_farm_40 (fun _ _ _ => rfl) (fun v13 h14 => ?_)
      refine q_iload 0 dX11_farm_43 rfl ?_
      refine q_iconst (x := (3 : Int32)) dX11_farm_45 rfl ?_
      refine q_iload 5 dX11_farm_46 rfl ?_
      refine q_cSI (Y2 := Y_X11_asNumber) (As := [.int a4]) (st := [.int (3 : Int32), .int r10.1, .ref v13]) ms_X11_asNumber qw_412 dX11_farm_48 ⟨Nat.le_of_ble_eq_true rfl, Nat.le_of_ble_eq_true rfl⟩ rfl (fun _ _ => rfl) (Nat.le_of_ble_eq_true rfl) ⟨Nat.le_of_ble_eq_true rfl, Nat.le_of_ble_eq_true rfl⟩ (fun v16 h15 => m_X11_asNumber h15) (fun v16 h15 => ?_)
      refine q_cVM (Y2 := Y_X9_put) (As := [.int r10.1, .int (3 : Int32), .int v16]) (b := v13) (st := []) cl_X9 mv_X9_put qw_415 dX11_farm_51 ⟨Nat.le_of_ble_eq_true rfl, Nat.le_of_ble_eq_true rfl⟩ rfl (fun _ _ => rfl) (Nat.le_of_ble_eq_true rfl) ⟨Nat.le_of_ble_eq_true rfl, Nat.le_of_ble_eq_true rfl⟩ (fun M19 h17 => q_ob_is h17) (fun M19 h17 => m_X9_put h17) (fun M19 h17 => ?_)
      refine q_iload 0 dX11_farm_54 rfl ?_
      exact q_iret dX11_farm_56 rfl rfl (Nat.le_of_ble_eq_true rfl) rfl
