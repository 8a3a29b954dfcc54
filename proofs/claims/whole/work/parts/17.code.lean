theorem dX12_money_0 : decode cX12_money 0 = .ok (.iload_n 1, 1) := by decide +kernel
theorem dX12_money_1 : decode cX12_money 1 = .ok (.invokestatic 120, 3) := by decide +kernel
theorem dX12_money_4 : decode cX12_money 4 = .ok (.ifCond .eq 19, 3) := by decide +kernel
theorem dX12_money_7 : decode cX12_money 7 = .ok (.iload_n 2, 1) := by decide +kernel
theorem dX12_money_8 : decode cX12_money 8 = .ok (.invokestatic 90, 3) := by decide +kernel
theorem dX12_money_11 : decode cX12_money 11 = .ok (.ifCond .eq 12, 3) := by decide +kernel
theorem dX12_money_14 : decode cX12_money 14 = .ok (.aload_n 0, 1) := by decide +kernel
theorem dX12_money_15 : decode cX12_money 15 = .ok (.iload_n 1, 1) := by decide +kernel
theorem dX12_money_16 : decode cX12_money 16 = .ok (.iload_n 2, 1) := by decide +kernel
theorem dX12_money_17 : decode cX12_money 17 = .ok (.invokevirtual 265, 3) := by decide +kernel
theorem dX12_money_20 : decode cX12_money 20 = .ok (.goto 6, 3) := by decide +kernel
theorem dX12_money_23 : decode cX12_money 23 = .ok (.ldc2_w 123, 3) := by decide +kernel
theorem dX12_money_26 : decode cX12_money 26 = .ok (.lreturn, 1) := by decide +kernel
def f_X12_money (M : q_Mem) (a0 : Nat) (a1 : Int32) (a2 : Int32) : Option Int64 :=
  q_ob 11 M a0 ((f_X12_isWeek M a1).bind fun v2 =>
  (if v2 = 0 then
    some (-2 : Int64)
  else
    (f_X12_isDay M a2).bind fun v4 =>
    (if v4 = 0 then
      some (-2 : Int64)
    else
      (f_X12_moneyOf M a0 a1 a2).bind fun v6 =>
      some v6)))
set_option maxRecDepth 20000 in
theorem m_X12_money {M : q_Mem} {a0 : Nat} {a1 : Int32} {a2 : Int32} {x : Int64} (h : f_X12_money M a0 a1 a2 = some x) : q_C Y_X12_money [.ref a0, .int a1, .int a2] M (some (.long x)) M := by
  refine q_met (φ := (fun x : Int64 => (some (.long x), M))) (r := f_X12_money M a0 a1 a2) (by decide +kernel) (Nat.le_of_ble_eq_true rfl) ?_ h (fun _ _ => rfl)
  show q_V Y_X12_money none (fun x : Int64 => (some (.long x), M)) 0 0 0 [(0, .ref a0), (1, .int a1), (2, .int a2)] [] M (f_X12_money M a0 a1 a2)
  unfold f_X12_money
  refine q_obV ?_
  refine q_iload_n 1 dX12_money_0 rfl ?_
  refine q_cSI (Y2 := Y_X12_isWeek) (As := [.int a1]) (st := []) ms_X12_isWeek qw_1296 dX12_money_1 ⟨Nat.le_of_ble_eq_true rfl, Nat.le_of_ble_eq_true rfl⟩ rfl (fun _ _ => rfl) (Nat.le_of_ble_eq_true rfl) ⟨Nat.le_of_ble_eq_true rfl, Nat.le_of_ble_eq_true rfl⟩ (fun v2 h1 => m_X12_isWeek h1) (fun v2 h1 => ?_)
  refine q_if_eq (tgt := 23) dX12_money_4 (by decide) (fun c8 => ?_) (fun c8 => ?_)
  · refine q_ldc2 (x := (-2 : Int64)) qw_1299 dX12_money_23 ?_
    exact q_lret dX12_money_26 rfl rfl (Nat.le_of_ble_eq_true rfl) rfl
  · refine q_iload_n 2 dX12_money_7 rfl ?_
    refine q_cSI (Y2 := Y_X12_isDay) (As := [.int a2]) (st := []) ms_X12_isDay qw_1233 dX12_money_8 ⟨Nat.le_of_ble_eq_true rfl, Nat.le_of_ble_eq_true rfl⟩ rfl (fun _ _ => rfl) (Nat.le_of_ble_eq_true rfl) ⟨Nat.le_of_ble_eq_true rfl, Nat.le_of_ble_eq_true rfl⟩ (fun v4 h3 => m_X12_isDay h3) (fun v4 h3 => ?_)
    refine q_if_eq (tgt := 23) dX12_money_11 (by decide) (fun c7 => ?_) (fun c7 => ?_)
    · refine q_ldc2 (x := (-2 : Int64)) qw_1299 dX12_money_23 ?_
      exact q_lret dX12_money_26 rfl rfl (Nat.le_of_ble_eq_true rfl) rfl
    · refine q_aload_n 0 dX12_money_14 rfl ?_
      refine q_iload_n 1 dX12_money_15 rfl ?_
      refine q_iload_n 2 dX12_money_16 rfl ?_
      refine q_cVJ (Y2 := Y_X12_moneyOf) (As := [.int a1, .int a2]) (b := a0) (st := []) cl_X12 mv_X12_moneyOf qw_1519 dX12_money_17 ⟨Nat.le_of_ble_eq_true rfl, Nat.le_of_ble_eq_true rfl⟩ rfl (fun _ _ => rfl) (Nat.le_of_ble_eq_true rfl) ⟨Nat.le_of_ble_eq_true rfl, Nat.le_of_ble_eq_true rfl⟩ (fun v6 h5 => q_ob_is h5) (fun v6 h5 => m_X12_moneyOf h5) (fun v6 h5 => ?_)
      refine q_goto (tgt := 26) dX12_money_20 (by decide) ?_
      exact q_lret dX12_money_26 rfl rfl (Nat.le_of_ble_eq_true rfl) rfl
theorem dX12_findShares_0 : decode cX12_findShares 0 = .ok (.aload_n 0, 1) := by decide +kernel
theorem dX12_findShares_1 : decode cX12_findShares 1 = .ok (.iload_n 2, 1) := by decide +kernel
theorem dX12_findShares_2 : decode cX12_findShares 2 = .ok (.invokevirtual 113, 3) := by decide +kernel
theorem dX12_findShares_5 : decode cX12_findShares 5 = .ok (.aload_n 0, 1) := by decide +kernel
theorem dX12_findShares_6 : decode cX12_findShares 6 = .ok (.bipush 7, 2) := by decide +kernel
theorem dX12_findShares_8 : decode cX12_findShares 8 = .ok (.iload_n 1, 1) := by decide +kernel
theorem dX12_findShares_9 : decode cX12_findShares 9 = .ok (.imul, 1) := by decide +kernel
theorem dX12_findShares_10 : decode cX12_findShares 10 = .ok (.invokevirtual 262, 3) := by decide +kernel
theorem dX12_findShares_13 : decode cX12_findShares 13 = .ok (.istore_n 3, 1) := by decide +kernel
theorem dX12_findShares_14 : decode cX12_findShares 14 = .ok (.iload_n 3, 1) := by decide +kernel
theorem dX12_findShares_15 : decode cX12_findShares 15 = .ok (.iconst (-1), 1) := by decide +kernel
theorem dX12_findShares_16 : decode cX12_findShares 16 = .ok (.if_icmp .eq 16, 3) := by decide +kernel
theorem dX12_findShares_19 : decode cX12_findShares 19 = .ok (.aload_n 0, 1) := by decide +kernel
theorem dX12_findShares_20 : decode cX12_findShares 20 = .ok (.sipush 3686, 3) := by decide +kernel
theorem dX12_findShares_23 : decode cX12_findShares 23 = .ok (.bipush 84, 2) := by decide +kernel
theorem dX12_findShares_25 : decode cX12_findShares 25 = .ok (.iload_n 3, 1) := by decide +kernel
theorem dX12_findShares_26 : decode cX12_findShares 26 = .ok (.imul, 1) := by decide +kernel
theorem dX12_findShares_27 : decode cX12_findShares 27 = .ok (.iadd, 1) := by decide +kernel
theorem dX12_findShares_28 : decode cX12_findShares 28 = .ok (.invokevirtual 236, 3) := by decide +kernel
theorem dX12_findShares_31 : decode cX12_findShares 31 = .ok (.pop, 1) := by decide +kernel
theorem dX12_findShares_32 : decode cX12_findShares 32 = .ok (.iconst 0, 1) := by decide +kernel
theorem dX12_findShares_33 : decode cX12_findShares 33 = .ok (.istore 4, 2) := by decide +kernel
theorem dX12_findShares_35 : decode cX12_findShares 35 = .ok (.iload 4, 2) := by decide +kernel
theorem dX12_findShares_37 : decode cX12_findShares 37 = .ok (.aload_n 0, 1) := by decide +kernel
theorem dX12_findShares_38 : decode cX12_findShares 38 = .ok (.getfield 7, 3) := by decide +kernel
theorem dX12_findShares_41 : decode cX12_findShares 41 = .ok (.iconst 0, 1) := by decide +kernel
theorem dX12_findShares_42 : decode cX12_findShares 42 = .ok (.iaload, 1) := by decide +kernel
theorem dX12_findShares_43 : decode cX12_findShares 43 = .ok (.if_icmp .ge 99, 3) := by decide +kernel
theorem dX12_findShares_46 : decode cX12_findShares 46 = .ok (.aload_n 0, 1) := by decide +kernel
theorem dX12_findShares_47 : decode cX12_findShares 47 = .ok (.iload 4, 2) := by decide +kernel
theorem dX12_findShares_49 : decode cX12_findShares 49 = .ok (.iload_n 1, 1) := by decide +kernel
theorem dX12_findShares_50 : decode cX12_findShares 50 = .ok (.invokevirtual 243, 3) := by decide +kernel
theorem dX12_findShares_53 : decode cX12_findShares 53 = .ok (.iload_n 3, 1) := by decide +kernel
theorem dX12_findShares_54 : decode cX12_findShares 54 = .ok (.iconst (-1), 1) := by decide +kernel
theorem dX12_findShares_55 : decode cX12_findShares 55 = .ok (.if_icmp .ne 12, 3) := by decide +kernel
theorem dX12_findShares_58 : decode cX12_findShares 58 = .ok (.aload_n 0, 1) := by decide +kernel
theorem dX12_findShares_59 : decode cX12_findShares 59 = .ok (.getfield 41, 3) := by decide +kernel
theorem dX12_findShares_62 : decode cX12_findShares 62 = .ok (.iconst 1, 1) := by decide +kernel
theorem dX12_findShares_63 : decode cX12_findShares 63 = .ok (.laload, 1) := by decide +kernel
theorem dX12_findShares_64 : decode cX12_findShares 64 = .ok (.goto 20, 3) := by decide +kernel
theorem dX12_findShares_67 : decode cX12_findShares 67 = .ok (.aload_n 0, 1) := by decide +kernel
theorem dX12_findShares_68 : decode cX12_findShares 68 = .ok (.invokevirtual 247, 3) := by decide +kernel
theorem dX12_findShares_71 : decode cX12_findShares 71 = .ok (.ifCond .eq 12, 3) := by decide +kernel
theorem dX12_findShares_74 : decode cX12_findShares 74 = .ok (.aload_n 0, 1) := by decide +kernel
theorem dX12_findShares_75 : decode cX12_findShares 75 = .ok (.getfield 48, 3) := by decide +kernel
theorem dX12_findShares_78 : decode cX12_findShares 78 = .ok (.iconst 0, 1) := by decide +kernel
theorem dX12_findShares_79 : decode cX12_findShares 79 = .ok (.laload, 1) := by decide +kernel
theorem dX12_findShares_80 : decode cX12_findShares 80 = .ok (.goto 4, 3) := by decide +kernel
theorem dX12_findShares_83 : decode cX12_findShares 83 = .ok (.lconst 0, 1) := by decide +kernel
theorem dX12_findShares_84 : decode cX12_findShares 84 = .ok (.lstore 5, 2) := by decide +kernel
theorem dX12_findShares_86 : decode cX12_findShares 86 = .ok (.lload 5, 2) := by decide +kernel
theorem dX12_findShares_88 : decode cX12_findShares 88 = .ok (.lconst 0, 1) := by decide +kernel
theorem dX12_findShares_89 : decode cX12_findShares 89 = .ok (.lcmp, 1) := by decide +kernel
theorem dX12_findShares_90 : decode cX12_findShares 90 = .ok (.ifCond .lt 14, 3) := by decide +kernel
theorem dX12_findShares_93 : decode cX12_findShares 93 = .ok (.aload_n 0, 1) := by decide +kernel
theorem dX12_findShares_94 : decode cX12_findShares 94 = .ok (.getfield 41, 3) := by decide +kernel
theorem dX12_findShares_97 : decode cX12_findShares 97 = .ok (.iconst 2, 1) := by decide +kernel
theorem dX12_findShares_98 : decode cX12_findShares 98 = .ok (.laload, 1) := by decide +kernel
theorem dX12_findShares_99 : decode cX12_findShares 99 = .ok (.lconst 0, 1) := by decide +kernel
theorem dX12_findShares_100 : decode cX12_findShares 100 = .ok (.lcmp, 1) := by decide +kernel
theorem dX12_findShares_101 : decode cX12_findShares 101 = .ok (.ifCond .ne 7, 3) := by decide +kernel
theorem dX12_findShares_104 : decode cX12_findShares 104 = .ok (.lconst 0, 1) := by decide +kernel
theorem dX12_findShares_105 : decode cX12_findShares 105 = .ok (.goto 5, 3) := by decide +kernel
theorem dX12_findShares_108 : decode cX12_findShares 108 = .ok (.lload 5, 2) := by decide +kernel
theorem dX12_findShares_110 : decode cX12_findShares 110 = .ok (.lstore 5, 2) := by decide +kernel
theorem dX12_findShares_112 : decode cX12_findShares 112 = .ok (.aload_n 0, 1) := by decide +kernel
theorem dX12_findShares_113 : decode cX12_findShares 113 = .ok (.getfield 54, 3) := by decide +kernel
theorem dX12_findShares_116 : decode cX12_findShares 116 = .ok (.iload 4, 2) := by decide +kernel
theorem dX12_findShares_118 : decode cX12_findShares 118 = .ok (.lload 5, 2) := by decide +kernel
theorem dX12_findShares_120 : decode cX12_findShares 120 = .ok (.ldc2_w 268, 3) := by decide +kernel
theorem dX12_findShares_123 : decode cX12_findShares 123 = .ok (.lcmp, 1) := by decide +kernel
theorem dX12_findShares_124 : decode cX12_findShares 124 = .ok (.ifCond .le 9, 3) := by decide +kernel
theorem dX12_findShares_127 : decode cX12_findShares 127 = .ok (.ldc2_w 268, 3) := by decide +kernel
theorem dX12_findShares_130 : decode cX12_findShares 130 = .ok (.goto 5, 3) := by decide +kernel
theorem dX12_findShares_133 : decode cX12_findShares 133 = .ok (.lload 5, 2) := by decide +kernel
theorem dX12_findShares_135 : decode cX12_findShares 135 = .ok (.lastore, 1) := by decide +kernel
theorem dX12_findShares_136 : decode cX12_findShares 136 = .ok (.iinc 4 1, 3) := by decide +kernel
theorem dX12_findShares_139 : decode cX12_findShares 139 = .ok (.goto (-104), 3) := by decide +kernel
theorem dX12_findShares_142 : decode cX12_findShares 142 = .ok (.return_, 1) := by decide +kernel
def f_X12_findShares_b110 (kk35 : Int32 → q_Mem → Option q_Mem) (M : q_Mem) (a0 : Nat) (a1 : Int32) (a3 : Int32) (a4 : Int32) (s0 : Int64) : Option q_Mem :=
  (q_gR 11 19 M a0).bind fun v35 =>
  (if (1000000000 : Int64) < s0 then
    (q_tJ M v35 a4 (1000000000 : Int64)).bind fun M37 =>
    kk35 (a4 + (1 : Int32)) M37
  else
    (q_tJ M v35 a4 s0).bind fun M39 =>
    kk35 (a4 + (1 : Int32)) M39)
def f_X12_findShares_b84 (kk35 : Int32 → q_Mem → Option q_Mem) (M : q_Mem) (a0 : Nat) (a1 : Int32) (a3 : Int32) (a4 : Int32) (s0 : Int64) : Option q_Mem :=
  (if s0 < (0 : Int64) then
    f_X12_findShares_b110 kk35 M a0 a1 a3 a4 (0 : Int64)
  else
    (q_gR 11 14 M a0).bind fun v29 =>
    (q_lJ M v29 (2 : Int32)).bind fun v31 =>
    (if v31 = (0 : Int64) then
      f_X12_findShares_b110 kk35 M a0 a1 a3 a4 (0 : Int64)
    else
      f_X12_findShares_b110 kk35 M a0 a1 a3 a4 s0))
def f_X12_findShares_b35 (a0 : Nat) (a1 : Int32) (a3 : Int32) : Nat → Int32 → q_Mem → Option q_Mem
  | 0, _, _ => none
  | n + 1, a4, M =>
    (q_gR 11 0 M a0).bind fun v9 =>
    (q_lI M v9 (0 : Int32)).bind fun v11 =>
    (if a4 < v11 then
      (f_X12_findNames M a0 a4 a1).bind fun M15 =>
      (if a3 = (-1 : Int32) then
        (q_gR 11 14 M15 a0).bind fun v16 =>
        (q_lJ M15 v16 (1 : Int32)).bind fun v18 =>
        f_X12_findShares_b84 (f_X12_findShares_b35 a0 a1 a3 n) M15 a0 a1 a3 a4 v18
      else
        (f_X12_goes M15 a0).bind fun r21 =>
        (if r21.1 = 0 then
          f_X12_findShares_b84 (f_X12_findShares_b35 a0 a1 a3 n) r21.2 a0 a1 a3 a4 (0 : Int64)
        else
          (q_gR 11 16 r21.2 a0).bind fun v22 =>
          (q_lJ r21.2 v22 (0 : Int32)).bind fun v24 =>
          f_X12_findShares_b84 (f_X12_findShares_b35 a0 a1 a3 n) r21.2 a0 a1 a3 a4 v24))
    else
      some M)
def f_X12_findShares (M : q_Mem) (a0 : Nat) (a1 : Int32) (a2 : Int32) : Option q_Mem :=
  q_ob 11 M a0 ((f_X12_findRates M a0 a2).bind fun M3 =>
  (f_X12_forceOf M3 a0 ((7 : Int32) * a1)).bind fun v5 =>
  (if v5 = (-1 : Int32) then
    f_X12_findShares_b35 a0 a1 v5 q_fuel (0 : Int32) M3
  else
    (f_X12_reads M3 a0 ((3686 : Int32) + ((84 : Int32) * v5))).bind fun r7 =>
    f_X12_findShares_b35 a0 a1 v5 q_fuel (0 : Int32) r7.2))
set_option maxRecDepth 20000 in
theorem v_X12_findShares_b110 {kk35 : Int32 → q_Mem → Option q_Mem} {M : q_Mem} {a0 : Nat} {a1 : Int32} {a3 : Int32} {a4 : Int32} {s0 : Int64}  (hk35 : ∀ (a4 : Int32) (M : q_Mem), q_V Y_X12_findShares none (fun x : q_Mem => (none, x)) 0 0 35 [(0, .ref a0), (1, .int a1), (3, .int a3), (4, .int a4)] [] M (kk35 a4 M)): q_V Y_X12_findShares none (fun x : q_Mem => (none, x)) 0 0 110 [(0, .ref a0), (1, .int a1), (3, .int a3), (4, .int a4)] [.long s0] M (f_X12_findShares_b110 kk35 M a0 a1 a3 a4 s0) := by
  unfold f_X12_findShares_b110
  refine q_lstore (ls' := [(5, .long s0), (0, .ref a0), (1, .int a1), (3, .int a3), (4, .int a4)]) dX12_findShares_110 (by decide) rfl ?_
  refine q_aload_n 1 dX12_findShares_112 rfl ?_
  refine q_getR (f := 19) cl_X12 (by decide) qw_1135 rfl dX12_findShares_113 (fun _ _ _ => rfl) (fun v35 h36 => ?_)
  refine q_iload 4 dX12_findShares_116 rfl ?_
  refine q_lload 0 dX12_findShares_118 rfl ?_
  refine q_ldc2 (x := (1000000000 : Int64)) qw_1531 dX12_findShares_120 ?_
  refine q_lcmp_le (tgt := 133) dX12_findShares_123 dX12_findShares_124 (by decide) (fun c41 => ?_) (fun c41 => ?_)
  · refine q_ldc2 (x := (1000000000 : Int64)) qw_1531 dX12_findShares_127 ?_
    refine q_goto (tgt := 135) dX12_findShares_130 (by decide) ?_
    refine q_last dX12_findShares_135 (fun M37 h38 => ?_)
    refine q_iinc 4 (y := (a4 + (1 : Int32))) (ls' := [(4, .int (a4 + (1 : Int32))), (5, .long s0), (0, .ref a0), (1, .int a1), (3, .int a3)]) dX12_findShares_136 rfl rfl (by decide) rfl ?_
    refine q_goto (tgt := 35) dX12_findShares_139 (by decide) ?_
    refine q_sub (ls' := [(0, .ref a0), (1, .int a1), (3, .int a3), (4, .int (a4 + (1 : Int32)))]) [2, 3, 4, 0] rfl ?_
    exact hk35 _ _
  · refine q_lload 0 dX12_findShares_133 rfl ?_
    refine q_last dX12_findShares_135 (fun M39 h40 => ?_)
    refine q_iinc 4 (y := (a4 + (1 : Int32))) (ls' := [(4, .int (a4 + (1 : Int32))), (5, .long s0), (0, .ref a0), (1, .int a1), (3, .int a3)]) dX12_findShares_136 rfl rfl (by decide) rfl ?_
    refine q_goto (tgt := 35) dX12_findShares_139 (by decide) ?_
    refine q_sub (ls' := [(0, .ref a0), (1, .int a1), (3, .int a3), (4, .int (a4 + (1 : Int32)))]) [2, 3, 4, 0] rfl ?_
    exact hk35 _ _
set_option maxRecDepth 20000 in
theorem v_X12_findShares_b84 {kk35 : Int32 → q_Mem → Option q_Mem} {M : q_Mem} {a0 : Nat} {a1 : Int32} {a3 : Int32} {a4 : Int32} {s0 : Int64}  (hk35 : ∀ (a4 : Int32) (M : q_Mem), q_V Y_X12_findShares none (fun x : q_Mem => (none, x)) 0 0 35 [(0, .ref a0), (1, .int a1), (3, .int a3), (4, .int a4)] [] M (kk35 a4 M)): q_V Y_X12_findShares none (fun x : q_Mem => (none, x)) 0 0 84 [(0, .ref a0), (1, .int a1), (3, .int a3), (4, .int a4)] [.long s0] M (f_X12_findShares_b84 kk35 M a0 a1 a3 a4 s0) := by
  unfold f_X12_findShares_b84
  refine q_lstore (ls' := [(5, .long s0), (0, .ref a0), (1, .int a1), (3, .int a3), (4, .int a4)]) dX12_findShares_84 (by decide) rfl ?_
  refine q_lload 0 dX12_findShares_86 rfl ?_
  refine q_lconst (x := (0 : Int64)) dX12_findShares_88 rfl ?_
  refine q_lcmp_lt (tgt := 104) dX12_findShares_89 dX12_findShares_90 (by decide) (fun c34 => ?_) (fun c34 => ?_)
  · refine q_lconst (x := (0 : Int64)) dX12_findShares_104 rfl ?_
    refine q_goto (tgt := 110) dX12_findShares_105 (by decide) ?_
    refine q_sub (ls' := [(0, .ref a0), (1, .int a1), (3, .int a3), (4, .int a4)]) [1, 2, 3, 4] rfl ?_
    exact v_X12_findShares_b110 (hk35)
  · refine q_aload_n 1 dX12_findShares_93 rfl ?_
    refine q_getR (f := 14) cl_X12 (by decide) qw_1130 rfl dX12_findShares_94 (fun _ _ _ => rfl) (fun v29 h30 => ?_)
    refine q_iconst (x := (2 : Int32)) dX12_findShares_97 rfl ?_
    refine q_lald dX12_findShares_98 (fun v31 h32 => ?_)
    refine q_lconst (x := (0 : Int64)) dX12_findShares_99 rfl ?_
    refine q_lcmp_ne (tgt := 108) dX12_findShares_100 dX12_findShares_101 (by decide) (fun c33 => ?_) (fun c33 => ?_)
    · refine q_lconst (x := (0 : Int64)) dX12_findShares_104 rfl ?_
      refine q_goto (tgt := 110) dX12_findShares_105 (by decide) ?_
      refine q_sub (ls' := [(0, .ref a0), (1, .int a1), (3, .int a3), (4, .int a4)]) [1, 2, 3, 4] rfl ?_
      exact v_X12_findShares_b110 (hk35)
    · refine q_lload 0 dX12_findShares_108 rfl ?_
      refine q_sub (ls' := [(0, .ref a0), (1, .int a1), (3, .int a3), (4, .int a4)]) [1, 2, 3, 4] rfl ?_
      exact v_X12_findShares_b110 (hk35)
set_option maxRecDepth 20000 in
theorem v_X12_findShares_b35 {a0 : Nat} {a1 : Int32} {a3 : Int32}  : ∀ (n : Nat) (a4 : Int32) (M : q_Mem), q_V Y_X12_findShares none (fun x : q_Mem => (none, x)) 0 0 35 [(0, .ref a0), (1, .int a1), (3, .int a3), (4, .int a4)] [] M (f_X12_findShares_b35 a0 a1 a3 n a4 M) := by
  intro n
  induction n with
  | zero => intro a4 M; exact q_none
  | succ n ih =>
    intro a4 M
    rw [f_X12_findShares_b35.eq_2]
    refine q_iload 3 dX12_findShares_35 rfl ?_
    refine q_aload_n 0 dX12_findShares_37 rfl ?_
    refine q_getR (f := 0) cl_X12 (by decide) qw_1117 rfl dX12_findShares_38 (fun _ _ _ => rfl) (fun v9 h10 => ?_)
    refine q_iconst (x := (0 : Int32)) dX12_findShares_41 rfl ?_
    refine q_iald dX12_findShares_42 (fun v11 h12 => ?_)
    refine q_icmp_ge (tgt := 142) dX12_findShares_43 (by decide) (fun c28 => ?_) (fun c28 => ?_)
    · refine q_aload_n 0 dX12_findShares_46 rfl ?_
      refine q_iload 3 dX12_findShares_47 rfl ?_
      refine q_iload_n 1 dX12_findShares_49 rfl ?_
      refine q_cVM (Y2 := Y_X12_findNames) (As := [.int a4, .int a1]) (b := a0) (st := []) cl_X12 mv_X12_findNames qw_1438 dX12_findShares_50 ⟨Nat.le_of_ble_eq_true rfl, Nat.le_of_ble_eq_true rfl⟩ rfl (fun _ _ => rfl) (Nat.le_of_ble_eq_true rfl) ⟨Nat.le_of_ble_eq_true rfl, Nat.le_of_ble_eq_true rfl⟩ (fun M15 h13 => q_ob_is h13) (fun M15 h13 => m_X12_findNames h13) (fun M15 h13 => ?_)
      refine q_iload_n 2 dX12_findShares_53 rfl ?_
      refine q_iconst (x := (-1 : Int32)) dX12_findShares_54 rfl ?_
      refine q_icmp_ne (tgt := 67) dX12_findShares_55 (by decide) (fun c27 => ?_) (fun c27 => ?_)
      · refine q_aload_n 0 dX12_findShares_58 rfl ?_
        refine q_getR (f := 14) cl_X12 (by decide) qw_1130 rfl dX12_findShares_59 (fun _ _ _ => rfl) (fun v16 h17 => ?_)
        refine q_iconst (x := (1 : Int32)) dX12_findShares_62 rfl ?_
        refine q_lald dX12_findShares_63 (fun v18 h19 => ?_)
        refine q_goto (tgt := 84) dX12_findShares_64 (by decide) ?_
        exact v_X12_findShares_b84 (ih)
      · refine q_aload_n 0 dX12_findShares_67 rfl ?_
        refine q_cVMI (Y2 := Y_X12_goes) (As := []) (b := a0) (st := []) cl_X12 mv_X12_goes qw_1459 dX12_findShares_68 ⟨Nat.le_of_ble_eq_true rfl, Nat.le_of_ble_eq_true rfl⟩ rfl (fun _ _ => rfl) (Nat.le_of_ble_eq_true rfl) ⟨Nat.le_of_ble_eq_true rfl, Nat.le_of_ble_eq_true rfl⟩ (fun r21 h20 => q_ob_is h20) (fun r21 h20 => m_X12_goes h20) (fun r21 h20 => ?_)
        refine q_if_eq (tgt := 83) dX12_findShares_71 (by decide) (fun c26 => ?_) (fun c26 => ?_)
        · refine q_lconst (x := (0 : Int64)) dX12_findShares_83 rfl ?_
          exact v_X12_findShares_b84 (ih)
        · refine q_aload_n 0 dX12_findShares_74 rfl ?_
          refine q_getR (f := 16) cl_X12 (by decide) qw_1132 rfl dX12_findShares_75 (fun _ _ _ => rfl) (fun v22 h23 => ?_)
          refine q_iconst (x := (0 : Int32)) dX12_findShares_78 rfl ?_
          refine q_lald dX12_findShares_79 (fun v24 h25 => ?_)
          refine q_goto (tgt := 84) dX12_findShares_80 (by decide) ?_
          exact v_X12_findShares_b84 (ih)
    · exact q_vret dX12_findShares_142 rfl rfl (Nat.le_of_ble_eq_true rfl) rfl
set_option maxRecDepth 20000 in
theorem m_X12_findShares {M : q_Mem} {a0 : Nat} {a1 : Int32} {a2 : Int32} {x : q_Mem} (h : f_X12_findShares M a0 a1 a2 = some x) : q_C Y_X12_findShares [.ref a0, .int a1, .int a2] M none x := by
  refine q_met (φ := (fun x : q_Mem => (none, x))) (r := f_X12_findShares M a0 a1 a2) (by decide +kernel) (Nat.le_of_ble_eq_true rfl) ?_ h (fun _ _ => rfl)
  show q_V Y_X12_findShares none (fun x : q_Mem => (none, x)) 0 0 0 [(0, .ref a0), (1, .int a1), (2, .int a2)] [] M (f_X12_findShares M a0 a1 a2)
  unfold f_X12_findShares
  refine q_obV ?_
  refine q_aload_n 0 dX12_findShares_0 rfl ?_
  refine q_iload_n 2 dX12_findShares_1 rfl ?_
  refine q_cVM (Y2 := Y_X12_findRates) (As := [.int a2]) (b := a0) (st := []) cl_X12 mv_X12_findRates qw_1280 dX12_findShares_2 ⟨Nat.le_of_ble_eq_true rfl, Nat.le_of_ble_eq_true rfl⟩ rfl (fun _ _ => rfl) (Nat.le_of_ble_eq_true rfl) ⟨Nat.le_of_ble_eq_true rfl, Nat.le_of_ble_eq_true rfl⟩ (fun M3 h1 => q_ob_is h1) (fun M3 h1 => m_X12_findRates h1) (fun M3 h1 => ?_)
  refine q_aload_n 0 dX12_findShares_5 rfl ?_
  refine q_bipush (x := (7 : Int32)) dX12_findShares_6 rfl ?_
  refine q_iload_n 1 dX12_findShares_8 rfl ?_
  refine q_imul dX12_findShares_9 ?_
  refine q_cVI (Y2 := Y_X12_forceOf) (As := [.int ((7 : Int32) * a1)]) (b := a0) (st := []) cl_X12 mv_X12_forceOf qw_1511 dX12_findShares_10 ⟨Nat.le_of_ble_eq_true rfl, Nat.le_of_ble_eq_true rfl⟩ rfl (fun _ _ => rfl) (Nat.le_of_ble_eq_true rfl) ⟨Nat.le_of_ble_eq_true rfl, Nat.le_of_ble_eq_true rfl⟩ (fun v5 h4 => q_ob_is h4) (fun v5 h4 => m_X12_forceOf h4) (fun v5 h4 => ?_)
  refine q_istore_n (ls' := [(3, .int v5), (0, .ref a0), (1, .int a1), (2, .int a2)]) dX12_findShares_13 (by decide) rfl ?_
  refine q_iload_n 0 dX12_findShares_14 rfl ?_
  refine q_iconst (x := (-1 : Int32)) dX12_findShares_15 rfl ?_
  refine q_icmp_eq (tgt := 32) dX12_findShares_16 (by decide) (fun c8 => ?_) (fun c8 => ?_)
  · refine q_iconst (x := (0 : Int32)) dX12_findShares_32 rfl ?_
    refine q_istore (ls' := [(4, .int (0 : Int32)), (3, .int v5), (0, .ref a0), (1, .int a1), (2, .int a2)]) dX12_findShares_33 (by decide) rfl ?_
    refine q_sub (ls' := [(0, .ref a0), (1, .int a1), (3, .int v5), (4, .int (0 : Int32))]) [2, 3, 1, 0] rfl ?_
    exact v_X12_findShares_b35 _ _ _
  · refine q_aload_n 1 dX12_findShares_19 rfl ?_
    refine q_sipush (x := (3686 : Int32)) dX12_findShares_20 rfl ?_
    refine q_bipush (x := (84 : Int32)) dX12_findShares_23 rfl ?_
    refine q_iload_n 0 dX12_findShares_25 rfl ?_
    refine q_imul dX12_findShares_26 ?_
    refine q_iadd dX12_findShares_27 ?_
    refine q_cVMI (Y2 := Y_X12_reads) (As := [.int ((3686 : Int32) + ((84 : Int32) * v5))]) (b := a0) (st := []) cl_X12 mv_X12_reads qw_1395 dX12_findShares_28 ⟨Nat.le_of_ble_eq_true rfl, Nat.le_of_ble_eq_true rfl⟩ rfl (fun _ _ => rfl) (Nat.le_of_ble_eq_true rfl) ⟨Nat.le_of_ble_eq_true rfl, Nat.le_of_ble_eq_true rfl⟩ (fun r7 h6 => q_ob_is h6) (fun r7 h6 => m_X12_reads h6) (fun r7 h6 => ?_)
    refine q_pop dX12_findShares_31 rfl ?_
    refine q_iconst (x := (0 : Int32)) dX12_findShares_32 rfl ?_
    refine q_istore (ls' := [(4, .int (0 : Int32)), (3, .int v5), (0, .ref a0), (1, .int a1), (2, .int a2)]) dX12_findShares_33 (by decide) rfl ?_
    refine q_sub (ls' := [(0, .ref a0), (1, .int a1), (3, .int v5), (4, .int (0 : Int32))]) [2, 3, 1, 0] rfl ?_
    exact v_X12_findShares_b35 _ _ _
theorem dX12_share_0 : decode cX12_share 0 = .ok (.iload_n 1, 1) := by decide +kernel
theorem dX12_share_1 : decode cX12_share 1 = .ok (.invokestatic 120, 3) := by decide +kernel
theorem dX12_share_4 : decode cX12_share 4 = .ok (.ifCond .eq 19, 3) := by decide +kernel
theorem dX12_share_7 : decode cX12_share 7 = .ok (.aload_n 0, 1) := by decide +kernel
theorem dX12_share_8 : decode cX12_share 8 = .ok (.iconst 0, 1) := by decide +kernel
theorem dX12_share_9 : decode cX12_share 9 = .ok (.iload_n 2, 1) := by decide +kernel
theorem dX12_share_10 : decode cX12_share 10 = .ok (.invokevirtual 86, 3) := by decide +kernel
theorem dX12_share_13 : decode cX12_share 13 = .ok (.ifCond .eq 10, 3) := by decide +kernel
theorem dX12_share_16 : decode cX12_share 16 = .ok (.iload_n 3, 1) := by decide +kernel
theorem dX12_share_17 : decode cX12_share 17 = .ok (.invokestatic 90, 3) := by decide +kernel
theorem dX12_share_20 : decode cX12_share 20 = .ok (.ifCond .ne 7, 3) := by decide +kernel
theorem dX12_share_23 : decode cX12_share 23 = .ok (.ldc2_w 123, 3) := by decide +kernel
theorem dX12_share_26 : decode cX12_share 26 = .ok (.lreturn, 1) := by decide +kernel
theorem dX12_share_27 : decode cX12_share 27 = .ok (.aload_n 0, 1) := by decide +kernel
theorem dX12_share_28 : decode cX12_share 28 = .ok (.iload_n 1, 1) := by decide +kernel
theorem dX12_share_29 : decode cX12_share 29 = .ok (.iload_n 3, 1) := by decide +kernel
theorem dX12_share_30 : decode cX12_share 30 = .ok (.invokevirtual 270, 3) := by decide +kernel
theorem dX12_share_33 : decode cX12_share 33 = .ok (.aload_n 0, 1) := by decide +kernel
theorem dX12_share_34 : decode cX12_share 34 = .ok (.getfield 54, 3) := by decide +kernel
theorem dX12_share_37 : decode cX12_share 37 = .ok (.iload_n 2, 1) := by decide +kernel
theorem dX12_share_38 : decode cX12_share 38 = .ok (.laload, 1) := by decide +kernel
theorem dX12_share_39 : decode cX12_share 39 = .ok (.lreturn, 1) := by decide +kernel
def f_X12_share (M : q_Mem) (a0 : Nat) (a1 : Int32) (a2 : Int32) (a3 : Int32) : Option (Int64 × q_Mem) :=
  q_ob 11 M a0 ((f_X12_isWeek M a1).bind fun v2 =>
  (if v2 = 0 then
    some ((-2 : Int64), M)
  else
    (f_X12_is M a0 (0 : Int32) a2).bind fun v4 =>
    (if v4 = 0 then
      some ((-2 : Int64), M)
    else
      (f_X12_isDay M a3).bind fun v6 =>
      (if v6 = 0 then
        some ((-2 : Int64), M)
      else
        (f_X12_findShares M a0 a1 a3).bind fun M9 =>
        (q_gR 11 19 M9 a0).bind fun v10 =>
        (q_lJ M9 v10 a2).bind fun v12 =>
        some (v12, M9)))))
set_option maxRecDepth 20000 in
theorem m_X12_share {M : q_Mem} {a0 : Nat} {a1 : Int32} {a2 : Int32} {a3 : Int32} {x : (Int64 × q_Mem)} (h : f_X12_share M a0 a1 a2 a3 = some x) : q_C Y_X12_share [.ref a0, .int a1, .int a2, .int a3] M (some (.long x.1)) x.2 := by
  refine q_met (φ := (fun x : Int64 × q_Mem => (some (.long x.1), x.2))) (r := f_X12_share M a0 a1 a2 a3) (by decide +kernel) (Nat.le_of_ble_eq_true rfl) ?_ h (fun _ _ => rfl)
  show q_V Y_X12_share none (fun x : Int64 × q_Mem => (some (.long x.1), x.2)) 0 0 0 [(0, .ref a0), (1, .int a1), (2, .int a2), (3, .int a3)] [] M (f_X12_share M a0 a1 a2 a3)
  unfold f_X12_share
  refine q_obV ?_
  refine q_iload_n 1 dX12_share_0 rfl ?_
  refine q_cSI (Y2 := Y_X12_isWeek) (As := [.int a1]) (st := []) ms_X12_isWeek qw_1296 dX12_share_1 ⟨Nat.le_of_ble_eq_true rfl, Nat.le_of_ble_eq_true rfl⟩ rfl (fun _ _ => rfl) (Nat.le_of_ble_eq_true rfl) ⟨Nat.le_of_ble_eq_true rfl, Nat.le_of_ble_eq_true rfl⟩ (fun v2 h1 => m_X12_isWeek h1) (fun v2 h1 => ?_)
  refine q_if_eq (tgt := 23) dX12_share_4 (by decide) (fun c16 => ?_) (fun c16 => ?_)
  · refine q_ldc2 (x := (-2 : Int64)) qw_1299 dX12_share_23 ?_
    exact q_lret dX12_share_26 rfl rfl (Nat.le_of_ble_eq_true rfl) rfl
  · refine q_aload_n 0 dX12_share_7 rfl ?_
    refine q_iconst (x := (0 : Int32)) dX12_share_8 rfl ?_
    refine q_iload_n 2 dX12_share_9 rfl ?_
    refine q_cVI (Y2 := Y_X12_is) (As := [.int (0 : Int32), .int a2]) (b := a0) (st := []) cl_X12 mv_X12_is qw_1225 dX12_share_10 ⟨Nat.le_of_ble_eq_true rfl, Nat.le_of_ble_eq_true rfl⟩ rfl (fun _ _ => rfl) (Nat.le_of_ble_eq_true rfl) ⟨Nat.le_of_ble_eq_true rfl, Nat.le_of_ble_eq_true rfl⟩ (fun v4 h3 => q_ob_is h3) (fun v4 h3 => m_X12_is h3) (fun v4 h3 => ?_)
    refine q_if_eq (tgt := 23) dX12_share_13 (by decide) (fun c15 => ?_) (fun c15 => ?_)
    · refine q_ldc2 (x := (-2 : Int64)) qw_1299 dX12_share_23 ?_
      exact q_lret dX12_share_26 rfl rfl (Nat.le_of_ble_eq_true rfl) rfl
    · refine q_iload_n 3 dX12_share_16 rfl ?_
      refine q_cSI (Y2 := Y_X12_isDay) (As := [.int a3]) (st := []) ms_X12_isDay qw_1233 dX12_share_17 ⟨Nat.le_of_ble_eq_true rfl, Nat.le_of_ble_eq_true rfl⟩ rfl (fun _ _ => rfl) (Nat.le_of_ble_eq_true rfl) ⟨Nat.le_of_ble_eq_true rfl, Nat.le_of_ble_eq_true rfl⟩ (fun v6 h5 => m_X12_isDay h5) (fun v6 h5 => ?_)
      refine q_if_ne (tgt := 27) dX12_share_20 (by decide) (fun c14 => ?_) (fun c14 => ?_)
      · refine q_ldc2 (x := (-2 : Int64)) qw_1299 dX12_share_23 ?_
        exact q_lret dX12_share_26 rfl rfl (Nat.le_of_ble_eq_true rfl) rfl
      · refine q_aload_n 0 dX12_share_27 rfl ?_
        refine q_iload_n 1 dX12_share_28 rfl ?_
        refine q_iload_n 3 dX12_share_29 rfl ?_
        refine q_cVM (Y2 := Y_X12_findShares) (As := [.int a1, .int a3]) (b := a0) (st := []) cl_X12 mv_X12_findShares qw_1527 dX12_share_30 ⟨Nat.le_of_ble_eq_true rfl, Nat.le_of_ble_eq_true rfl⟩ rfl (fun _ _ => rfl) (Nat.le_of_ble_eq_true rfl) ⟨Nat.le_of_ble_eq_true rfl, Nat.le_of_ble_eq_true rfl⟩ (fun M9 h7 => q_ob_is h7) (fun M9 h7 => m_X12_findShares h7) (fun M9 h7 => ?_)
        refine q_aload_n 0 dX12_share_33 rfl ?_
        refine q_getR (f := 19) cl_X12 (by decide) qw_1135 rfl dX12_share_34 (fun _ _ _ => rfl) (fun v10 h11 => ?_)
        refine q_iload_n 2 dX12_share_37 rfl ?_
        refine q_lald dX12_share_38 (fun v12 h13 => ?_)
        exact q_lret dX12_share_39 rfl rfl (Nat.le_of_ble_eq_true rfl) rfl
theorem dX12_pay_0 : decode cX12_pay 0 = .ok (.iload_n 1, 1) := by decide +kernel
theorem dX12_pay_1 : decode cX12_pay 1 = .ok (.invokestatic 120, 3) := by decide +kernel
theorem dX12_pay_4 : decode cX12_pay 4 = .ok (.ifCond .eq 19, 3) := by decide +kernel
theorem dX12_pay_7 : decode cX12_pay 7 = .ok (.aload_n 0, 1) := by decide +kernel
theorem dX12_pay_8 : decode cX12_pay 8 = .ok (.iconst 0, 1) := by decide +kernel
theorem dX12_pay_9 : decode cX12_pay 9 = .ok (.iload_n 2, 1) := by decide +kernel
theorem dX12_pay_10 : decode cX12_pay 10 = .ok (.invokevirtual 86, 3) := by decide +kernel
theorem dX12_pay_13 : decode cX12_pay 13 = .ok (.ifCond .eq 10, 3) := by decide +kernel
theorem dX12_pay_16 : decode cX12_pay 16 = .ok (.iload_n 3, 1) := by decide +kernel
theorem dX12_pay_17 : decode cX12_pay 17 = .ok (.invokestatic 90, 3) := by decide +kernel
theorem dX12_pay_20 : decode cX12_pay 20 = .ok (.ifCond .ne 7, 3) := by decide +kernel
theorem dX12_pay_23 : decode cX12_pay 23 = .ok (.ldc2_w 123, 3) := by decide +kernel
theorem dX12_pay_26 : decode cX12_pay 26 = .ok (.lreturn, 1) := by decide +kernel
theorem dX12_pay_27 : decode cX12_pay 27 = .ok (.aload_n 0, 1) := by decide +kernel
theorem dX12_pay_28 : decode cX12_pay 28 = .ok (.iload_n 1, 1) := by decide +kernel
theorem dX12_pay_29 : decode cX12_pay 29 = .ok (.iload_n 3, 1) := by decide +kernel
theorem dX12_pay_30 : decode cX12_pay 30 = .ok (.invokevirtual 270, 3) := by decide +kernel
theorem dX12_pay_33 : decode cX12_pay 33 = .ok (.aload_n 0, 1) := by decide +kernel
theorem dX12_pay_34 : decode cX12_pay 34 = .ok (.iload_n 1, 1) := by decide +kernel
theorem dX12_pay_35 : decode cX12_pay 35 = .ok (.iload_n 3, 1) := by decide +kernel
theorem dX12_pay_36 : decode cX12_pay 36 = .ok (.invokevirtual 265, 3) := by decide +kernel
theorem dX12_pay_39 : decode cX12_pay 39 = .ok (.lstore 4, 2) := by decide +kernel
theorem dX12_pay_41 : decode cX12_pay 41 = .ok (.lconst 0, 1) := by decide +kernel
theorem dX12_pay_42 : decode cX12_pay 42 = .ok (.lstore 6, 2) := by decide +kernel
theorem dX12_pay_44 : decode cX12_pay 44 = .ok (.iconst 0, 1) := by decide +kernel
theorem dX12_pay_45 : decode cX12_pay 45 = .ok (.istore 8, 2) := by decide +kernel
theorem dX12_pay_47 : decode cX12_pay 47 = .ok (.iload 8, 2) := by decide +kernel
theorem dX12_pay_49 : decode cX12_pay 49 = .ok (.aload_n 0, 1) := by decide +kernel
theorem dX12_pay_50 : decode cX12_pay 50 = .ok (.getfield 7, 3) := by decide +kernel
theorem dX12_pay_53 : decode cX12_pay 53 = .ok (.iconst 0, 1) := by decide +kernel
theorem dX12_pay_54 : decode cX12_pay 54 = .ok (.iaload, 1) := by decide +kernel
theorem dX12_pay_55 : decode cX12_pay 55 = .ok (.if_icmp .ge 21, 3) := by decide +kernel
theorem dX12_pay_58 : decode cX12_pay 58 = .ok (.lload 6, 2) := by decide +kernel
theorem dX12_pay_60 : decode cX12_pay 60 = .ok (.aload_n 0, 1) := by decide +kernel
theorem dX12_pay_61 : decode cX12_pay 61 = .ok (.getfield 54, 3) := by decide +kernel
theorem dX12_pay_64 : decode cX12_pay 64 = .ok (.iload 8, 2) := by decide +kernel
theorem dX12_pay_66 : decode cX12_pay 66 = .ok (.laload, 1) := by decide +kernel
theorem dX12_pay_67 : decode cX12_pay 67 = .ok (.ladd, 1) := by decide +kernel
theorem dX12_pay_68 : decode cX12_pay 68 = .ok (.lstore 6, 2) := by decide +kernel
theorem dX12_pay_70 : decode cX12_pay 70 = .ok (.iinc 8 1, 3) := by decide +kernel
theorem dX12_pay_73 : decode cX12_pay 73 = .ok (.goto (-26), 3) := by decide +kernel
theorem dX12_pay_76 : decode cX12_pay 76 = .ok (.lload 6, 2) := by decide +kernel
theorem dX12_pay_78 : decode cX12_pay 78 = .ok (.lconst 0, 1) := by decide +kernel
theorem dX12_pay_79 : decode cX12_pay 79 = .ok (.lcmp, 1) := by decide +kernel
theorem dX12_pay_80 : decode cX12_pay 80 = .ok (.ifCond .ne 5, 3) := by decide +kernel
theorem dX12_pay_83 : decode cX12_pay 83 = .ok (.lconst 0, 1) := by decide +kernel
theorem dX12_pay_84 : decode cX12_pay 84 = .ok (.lreturn, 1) := by decide +kernel
theorem dX12_pay_85 : decode cX12_pay 85 = .ok (.lload 4, 2) := by decide +kernel
theorem dX12_pay_87 : decode cX12_pay 87 = .ok (.lstore 8, 2) := by decide +kernel
theorem dX12_pay_89 : decode cX12_pay 89 = .ok (.iconst 0, 1) := by decide +kernel
theorem dX12_pay_90 : decode cX12_pay 90 = .ok (.istore 10, 2) := by decide +kernel
theorem dX12_pay_92 : decode cX12_pay 92 = .ok (.iload 10, 2) := by decide +kernel
theorem dX12_pay_94 : decode cX12_pay 94 = .ok (.aload_n 0, 1) := by decide +kernel
theorem dX12_pay_95 : decode cX12_pay 95 = .ok (.getfield 7, 3) := by decide +kernel
theorem dX12_pay_98 : decode cX12_pay 98 = .ok (.iconst 0, 1) := by decide +kernel
theorem dX12_pay_99 : decode cX12_pay 99 = .ok (.iaload, 1) := by decide +kernel
theorem dX12_pay_100 : decode cX12_pay 100 = .ok (.if_icmp .ge 27, 3) := by decide +kernel
theorem dX12_pay_103 : decode cX12_pay 103 = .ok (.lload 8, 2) := by decide +kernel
theorem dX12_pay_105 : decode cX12_pay 105 = .ok (.lload 4, 2) := by decide +kernel
theorem dX12_pay_107 : decode cX12_pay 107 = .ok (.aload_n 0, 1) := by decide +kernel
theorem dX12_pay_108 : decode cX12_pay 108 = .ok (.getfield 54, 3) := by decide +kernel
theorem dX12_pay_111 : decode cX12_pay 111 = .ok (.iload 10, 2) := by decide +kernel
theorem dX12_pay_113 : decode cX12_pay 113 = .ok (.laload, 1) := by decide +kernel
theorem dX12_pay_114 : decode cX12_pay 114 = .ok (.lmul, 1) := by decide +kernel
theorem dX12_pay_115 : decode cX12_pay 115 = .ok (.lload 6, 2) := by decide +kernel
theorem dX12_pay_117 : decode cX12_pay 117 = .ok (.ldiv, 1) := by decide +kernel
theorem dX12_pay_118 : decode cX12_pay 118 = .ok (.lsub, 1) := by decide +kernel
theorem dX12_pay_119 : decode cX12_pay 119 = .ok (.lstore 8, 2) := by decide +kernel
theorem dX12_pay_121 : decode cX12_pay 121 = .ok (.iinc 10 1, 3) := by decide +kernel
theorem dX12_pay_124 : decode cX12_pay 124 = .ok (.goto (-32), 3) := by decide +kernel
theorem dX12_pay_127 : decode cX12_pay 127 = .ok (.lload 4, 2) := by decide +kernel
theorem dX12_pay_129 : decode cX12_pay 129 = .ok (.aload_n 0, 1) := by decide +kernel
theorem dX12_pay_130 : decode cX12_pay 130 = .ok (.getfield 54, 3) := by decide +kernel
theorem dX12_pay_133 : decode cX12_pay 133 = .ok (.iload_n 2, 1) := by decide +kernel
theorem dX12_pay_134 : decode cX12_pay 134 = .ok (.laload, 1) := by decide +kernel
theorem dX12_pay_135 : decode cX12_pay 135 = .ok (.lmul, 1) := by decide +kernel
theorem dX12_pay_136 : decode cX12_pay 136 = .ok (.lload 6, 2) := by decide +kernel
theorem dX12_pay_138 : decode cX12_pay 138 = .ok (.lrem, 1) := by decide +kernel
theorem dX12_pay_139 : decode cX12_pay 139 = .ok (.lstore 10, 2) := by decide +kernel
theorem dX12_pay_141 : decode cX12_pay 141 = .ok (.iconst 0, 1) := by decide +kernel
theorem dX12_pay_142 : decode cX12_pay 142 = .ok (.istore 12, 2) := by decide +kernel
theorem dX12_pay_144 : decode cX12_pay 144 = .ok (.iconst 0, 1) := by decide +kernel
theorem dX12_pay_145 : decode cX12_pay 145 = .ok (.istore 13, 2) := by decide +kernel
theorem dX12_pay_147 : decode cX12_pay 147 = .ok (.iload 13, 2) := by decide +kernel
theorem dX12_pay_149 : decode cX12_pay 149 = .ok (.aload_n 0, 1) := by decide +kernel
theorem dX12_pay_150 : decode cX12_pay 150 = .ok (.getfield 7, 3) := by decide +kernel
theorem dX12_pay_153 : decode cX12_pay 153 = .ok (.iconst 0, 1) := by decide +kernel
theorem dX12_pay_154 : decode cX12_pay 154 = .ok (.iaload, 1) := by decide +kernel
theorem dX12_pay_155 : decode cX12_pay 155 = .ok (.if_icmp .ge 56, 3) := by decide +kernel
theorem dX12_pay_158 : decode cX12_pay 158 = .ok (.lload 4, 2) := by decide +kernel
theorem dX12_pay_160 : decode cX12_pay 160 = .ok (.aload_n 0, 1) := by decide +kernel
theorem dX12_pay_161 : decode cX12_pay 161 = .ok (.getfield 54, 3) := by decide +kernel
theorem dX12_pay_164 : decode cX12_pay 164 = .ok (.iload 13, 2) := by decide +kernel
theorem dX12_pay_166 : decode cX12_pay 166 = .ok (.laload, 1) := by decide +kernel
theorem dX12_pay_167 : decode cX12_pay 167 = .ok (.lmul, 1) := by decide +kernel
theorem dX12_pay_168 : decode cX12_pay 168 = .ok (.lload 6, 2) := by decide +kernel
theorem dX12_pay_170 : decode cX12_pay 170 = .ok (.lrem, 1) := by decide +kernel
theorem dX12_pay_171 : decode cX12_pay 171 = .ok (.lstore 14, 2) := by decide +kernel
theorem dX12_pay_173 : decode cX12_pay 173 = .ok (.iload 12, 2) := by decide +kernel
theorem dX12_pay_175 : decode cX12_pay 175 = .ok (.lload 14, 2) := by decide +kernel
theorem dX12_pay_177 : decode cX12_pay 177 = .ok (.lload 10, 2) := by decide +kernel
theorem dX12_pay_179 : decode cX12_pay 179 = .ok (.lcmp, 1) := by decide +kernel
theorem dX12_pay_180 : decode cX12_pay 180 = .ok (.ifCond .gt 17, 3) := by decide +kernel
theorem dX12_pay_183 : decode cX12_pay 183 = .ok (.lload 14, 2) := by decide +kernel
theorem dX12_pay_185 : decode cX12_pay 185 = .ok (.lload 10, 2) := by decide +kernel
theorem dX12_pay_187 : decode cX12_pay 187 = .ok (.lcmp, 1) := by decide +kernel
theorem dX12_pay_188 : decode cX12_pay 188 = .ok (.ifCond .ne 13, 3) := by decide +kernel
theorem dX12_pay_191 : decode cX12_pay 191 = .ok (.iload 13, 2) := by decide +kernel
theorem dX12_pay_193 : decode cX12_pay 193 = .ok (.iload_n 2, 1) := by decide +kernel
theorem dX12_pay_194 : decode cX12_pay 194 = .ok (.if_icmp .ge 7, 3) := by decide +kernel
theorem dX12_pay_197 : decode cX12_pay 197 = .ok (.iconst 1, 1) := by decide +kernel
theorem dX12_pay_198 : decode cX12_pay 198 = .ok (.goto 4, 3) := by decide +kernel
theorem dX12_pay_201 : decode cX12_pay 201 = .ok (.iconst 0, 1) := by decide +kernel
theorem dX12_pay_202 : decode cX12_pay 202 = .ok (.iadd, 1) := by decide +kernel
theorem dX12_pay_203 : decode cX12_pay 203 = .ok (.istore 12, 2) := by decide +kernel
theorem dX12_pay_205 : decode cX12_pay 205 = .ok (.iinc 13 1, 3) := by decide +kernel
theorem dX12_pay_208 : decode cX12_pay 208 = .ok (.goto (-61), 3) := by decide +kernel
theorem dX12_pay_211 : decode cX12_pay 211 = .ok (.lload 4, 2) := by decide +kernel
theorem dX12_pay_213 : decode cX12_pay 213 = .ok (.aload_n 0, 1) := by decide +kernel
theorem dX12_pay_214 : decode cX12_pay 214 = .ok (.getfield 54, 3) := by decide +kernel
theorem dX12_pay_217 : decode cX12_pay 217 = .ok (.iload_n 2, 1) := by decide +kernel
theorem dX12_pay_218 : decode cX12_pay 218 = .ok (.laload, 1) := by decide +kernel
theorem dX12_pay_219 : decode cX12_pay 219 = .ok (.lmul, 1) := by decide +kernel
theorem dX12_pay_220 : decode cX12_pay 220 = .ok (.lload 6, 2) := by decide +kernel
theorem dX12_pay_222 : decode cX12_pay 222 = .ok (.ldiv, 1) := by decide +kernel
theorem dX12_pay_223 : decode cX12_pay 223 = .ok (.iload 12, 2) := by decide +kernel
theorem dX12_pay_225 : decode cX12_pay 225 = .ok (.i2l, 1) := by decide +kernel
theorem dX12_pay_226 : decode cX12_pay 226 = .ok (.lload 8, 2) := by decide +kernel
theorem dX12_pay_228 : decode cX12_pay 228 = .ok (.lcmp, 1) := by decide +kernel
theorem dX12_pay_229 : decode cX12_pay 229 = .ok (.ifCond .ge 7, 3) := by decide +kernel
theorem dX12_pay_232 : decode cX12_pay 232 = .ok (.lconst 1, 1) := by decide +kernel
theorem dX12_pay_233 : decode cX12_pay 233 = .ok (.goto 4, 3) := by decide +kernel
theorem dX12_pay_236 : decode cX12_pay 236 = .ok (.lconst 0, 1) := by decide +kernel
theorem dX12_pay_237 : decode cX12_pay 237 = .ok (.ladd, 1) := by decide +kernel
theorem dX12_pay_238 : decode cX12_pay 238 = .ok (.lreturn, 1) := by decide +kernel
def f_X12_pay_b211 (M : q_Mem) (a0 : Nat) (a2 : Int32) (a4 : Int64) (a6 : Int64) (a8 : Int64) (a12 : Int32) : Option (Int64 × q_Mem) :=
  (q_gR 11 19 M a0).bind fun v56 =>
  (q_lJ M v56 a2).bind fun v58 =>
  (q_ldv (a4 * v58) a6).bind fun v60 =>
  (if a12.toInt64 < a8 then
    some ((v60 + (1 : Int64)), M)
  else
    some ((v60 + (0 : Int64)), M))
def f_X12_pay_b201 (kk147 : Int32 → Int32 → Option (Int64 × q_Mem)) (M : q_Mem) (a0 : Nat) (a2 : Int32) (a4 : Int64) (a6 : Int64) (a8 : Int64) (a10 : Int64) (a13 : Int32) (s0 : Int32) : Option (Int64 × q_Mem) :=
  kk147 (s0 + (0 : Int32)) (a13 + (1 : Int32))
def f_X12_pay_b197 (kk147 : Int32 → Int32 → Option (Int64 × q_Mem)) (M : q_Mem) (a0 : Nat) (a2 : Int32) (a4 : Int64) (a6 : Int64) (a8 : Int64) (a10 : Int64) (a13 : Int32) (s0 : Int32) : Option (Int64 × q_Mem) :=
  kk147 (s0 + (1 : Int32)) (a13 + (1 : Int32))
def f_X12_pay_b147 (M : q_Mem) (a0 : Nat) (a2 : Int32) (a4 : Int64) (a6 : Int64) (a8 : Int64) (a10 : Int64) : Nat → Int32 → Int32 → Option (Int64 × q_Mem)
  | 0, _, _ => none
  | n + 1, a12, a13 =>
    (q_gR 11 0 M a0).bind fun v42 =>
    (q_lI M v42 (0 : Int32)).bind fun v44 =>
    (if a13 < v44 then
      (q_gR 11 19 M a0).bind fun v46 =>
      (q_lJ M v46 a13).bind fun v48 =>
      (q_lrm (a4 * v48) a6).bind fun v50 =>
      (if a10 < v50 then
        f_X12_pay_b197 (f_X12_pay_b147 M a0 a2 a4 a6 a8 a10 n) M a0 a2 a4 a6 a8 a10 a13 a12
      else
        (if v50 = a10 then
          (if a13 < a2 then
            f_X12_pay_b197 (f_X12_pay_b147 M a0 a2 a4 a6 a8 a10 n) M a0 a2 a4 a6 a8 a10 a13 a12
          else
            f_X12_pay_b201 (f_X12_pay_b147 M a0 a2 a4 a6 a8 a10 n) M a0 a2 a4 a6 a8 a10 a13 a12)
        else
          f_X12_pay_b201 (f_X12_pay_b147 M a0 a2 a4 a6 a8 a10 n) M a0 a2 a4 a6 a8 a10 a13 a12))
    else
      f_X12_pay_b211 M a0 a2 a4 a6 a8 a12)
def f_X12_pay_b127 (M : q_Mem) (a0 : Nat) (a2 : Int32) (a4 : Int64) (a6 : Int64) (a8 : Int64) : Option (Int64 × q_Mem) :=
  (q_gR 11 19 M a0).bind fun v36 =>
  (q_lJ M v36 a2).bind fun v38 =>
  (q_lrm (a4 * v38) a6).bind fun v40 =>
  f_X12_pay_b147 M a0 a2 a4 a6 a8 v40 q_fuel (0 : Int32) (0 : Int32)
def f_X12_pay_b92 (M : q_Mem) (a0 : Nat) (a2 : Int32) (a4 : Int64) (a6 : Int64) : Nat → Int64 → Int32 → Option (Int64 × q_Mem)
  | 0, _, _ => none
  | n + 1, a8, a10 =>
    (q_gR 11 0 M a0).bind fun v25 =>
    (q_lI M v25 (0 : Int32)).bind fun v27 =>
    (if a10 < v27 then
      (q_gR 11 19 M a0).bind fun v29 =>
      (q_lJ M v29 a10).bind fun v31 =>
      (q_ldv (a4 * v31) a6).bind fun v33 =>
      f_X12_pay_b92 M a0 a2 a4 a6 n (a8 - v33) (a10 + (1 : Int32))
    else
      f_X12_pay_b127 M a0 a2 a4 a6 a8)
def f_X12_pay_b76 (M : q_Mem) (a0 : Nat) (a2 : Int32) (a4 : Int64) (a6 : Int64) : Option (Int64 × q_Mem) :=
  (if a6 = (0 : Int64) then
    some ((0 : Int64), M)
  else
    f_X12_pay_b92 M a0 a2 a4 a6 q_fuel a4 (0 : Int32))
def f_X12_pay_b47 (M : q_Mem) (a0 : Nat) (a2 : Int32) (a4 : Int64) : Nat → Int64 → Int32 → Option (Int64 × q_Mem)
  | 0, _, _ => none
  | n + 1, a6, a8 =>
    (q_gR 11 0 M a0).bind fun v15 =>
    (q_lI M v15 (0 : Int32)).bind fun v17 =>
    (if a8 < v17 then
      (q_gR 11 19 M a0).bind fun v19 =>
      (q_lJ M v19 a8).bind fun v21 =>
      f_X12_pay_b47 M a0 a2 a4 n (a6 + v21) (a8 + (1 : Int32))
    else
      f_X12_pay_b76 M a0 a2 a4 a6)
def f_X12_pay (M : q_Mem) (a0 : Nat) (a1 : Int32) (a2 : Int32) (a3 : Int32) : Option (Int64 × q_Mem) :=
  q_ob 11 M a0 ((f_X12_isWeek M a1).bind fun v2 =>
  (if v2 = 0 then
    some ((-2 : Int64), M)
  else
    (f_X12_is M a0 (0 : Int32) a2).bind fun v4 =>
    (if v4 = 0 then
      some ((-2 : Int64), M)
    else
      (f_X12_isDay M a3).bind fun v6 =>
      (if v6 = 0 then
        some ((-2 : Int64), M)
      else
        (f_X12_findShares M a0 a1 a3).bind fun M9 =>
        (f_X12_moneyOf M9 a0 a1 a3).bind fun v11 =>
        f_X12_pay_b47 M9 a0 a2 v11 q_fuel (0 : Int64) (0 : Int32)))))
set_option maxRecDepth 20000 in
theorem v_X12_pay_b211 {M : q_Mem} {a0 : Nat} {a2 : Int32} {a4 : Int64} {a6 : Int64} {a8 : Int64} {a12 : Int32}  : q_V Y_X12_pay none (fun x : Int64 × q_Mem => (some (.long x.1), x.2)) 0 0 211 [(0, .ref a0), (2, .int a2), (4, .long a4), (6, .long a6), (8, .long a8), (12, .int a12)] [] M (f_X12_pay_b211 M a0 a2 a4 a6 a8 a12 ) := by
  unfold f_X12_pay_b211
  refine q_lload 2 dX12_pay_211 rfl ?_
  refine q_aload_n 0 dX12_pay_213 rfl ?_
  refine q_getR (f := 19) cl_X12 (by decide) qw_1135 rfl dX12_pay_214 (fun _ _ _ => rfl) (fun v56 h57 => ?_)
  refine q_iload_n 1 dX12_pay_217 rfl ?_
  refine q_lald dX12_pay_218 (fun v58 h59 => ?_)
  refine q_lmul dX12_pay_219 ?_
  refine q_lload 3 dX12_pay_220 rfl ?_
  refine q_ldiv dX12_pay_222 (fun v60 h61 => ?_)
  refine q_iload 5 dX12_pay_223 rfl ?_
  refine q_i2l dX12_pay_225 ?_
  refine q_lload 4 dX12_pay_226 rfl ?_
  refine q_lcmp_ge (tgt := 236) dX12_pay_228 dX12_pay_229 (by decide) (fun c62 => ?_) (fun c62 => ?_)
  · refine q_lconst (x := (1 : Int64)) dX12_pay_232 rfl ?_
    refine q_goto (tgt := 237) dX12_pay_233 (by decide) ?_
    refine q_ladd dX12_pay_237 ?_
    exact q_lret dX12_pay_238 rfl rfl (Nat.le_of_ble_eq_true rfl) rfl
  · refine q_lconst (x := (0 : Int64)) dX12_pay_236 rfl ?_
    refine q_ladd dX12_pay_237 ?_
    exact q_lret dX12_pay_238 rfl rfl (Nat.le_of_ble_eq_true rfl) rfl
set_option maxRecDepth 20000 in
theorem v_X12_pay_b201 {kk147 : Int32 → Int32 → Option (Int64 × q_Mem)} {M : q_Mem} {a0 : Nat} {a2 : Int32} {a4 : Int64} {a6 : Int64} {a8 : Int64} {a10 : Int64} {a13 : Int32} {s0 : Int32}  (hk147 : ∀ (a12 : Int32) (a13 : Int32), q_V Y_X12_pay none (fun x : Int64 × q_Mem => (some (.long x.1), x.2)) 0 0 147 [(0, .ref a0), (2, .int a2), (4, .long a4), (6, .long a6), (8, .long a8), (10, .long a10), (12, .int a12), (13, .int a13)] [] M (kk147 a12 a13)): q_V Y_X12_pay none (fun x : Int64 × q_Mem => (some (.long x.1), x.2)) 0 0 201 [(0, .ref a0), (2, .int a2), (4, .long a4), (6, .long a6), (8, .long a8), (10, .long a10), (13, .int a13)] [.int s0] M (f_X12_pay_b201 kk147 M a0 a2 a4 a6 a8 a10 a13 s0) := by
  unfold f_X12_pay_b201
  refine q_iconst (x := (0 : Int32)) dX12_pay_201 rfl ?_
  refine q_iadd dX12_pay_202 ?_
  refine q_istore (ls' := [(12, .int (s0 + (0 : Int32))), (0, .ref a0), (2, .int a2), (4, .long a4), (6, .long a6), (8, .long a8), (10, .long a10), (13, .int a13)]) dX12_pay_203 (by decide) rfl ?_
  refine q_iinc 7 (y := (a13 + (1 : Int32))) (ls' := [(13, .int (a13 + (1 : Int32))), (12, .int (s0 + (0 : Int32))), (0, .ref a0), (2, .int a2), (4, .long a4), (6, .long a6), (8, .long a8), (10, .long a10)]) dX12_pay_205 rfl rfl (by decide) rfl ?_
  refine q_goto (tgt := 147) dX12_pay_208 (by decide) ?_
  refine q_sub (ls' := [(0, .ref a0), (2, .int a2), (4, .long a4), (6, .long a6), (8, .long a8), (10, .long a10), (12, .int (s0 + (0 : Int32))), (13, .int (a13 + (1 : Int32)))]) [2, 3, 4, 5, 6, 7, 1, 0] rfl ?_
  exact hk147 _ _
set_option maxRecDepth 20000 in
theorem v_X12_pay_b197 {kk147 : Int32 → Int32 → Option (Int64 × q_Mem)} {M : q_Mem} {a0 : Nat} {a2 : Int32} {a4 : Int64} {a6 : Int64} {a8 : Int64} {a10 : Int64} {a13 : Int32} {s0 : Int32}  (hk147 : ∀ (a12 : Int32) (a13 : Int32), q_V Y_X12_pay none (fun x : Int64 × q_Mem => (some (.long x.1), x.2)) 0 0 147 [(0, .ref a0), (2, .int a2), (4, .long a4), (6, .long a6), (8, .long a8), (10, .long a10), (12, .int a12), (13, .int a13)] [] M (kk147 a12 a13)): q_V Y_X12_pay none (fun x : Int64 × q_Mem => (some (.long x.1), x.2)) 0 0 197 [(0, .ref a0), (2, .int a2), (4, .long a4), (6, .long a6), (8, .long a8), (10, .long a10), (13, .int a13)] [.int s0] M (f_X12_pay_b197 kk147 M a0 a2 a4 a6 a8 a10 a13 s0) := by
  unfold f_X12_pay_b197
  refine q_iconst (x := (1 : Int32)) dX12_pay_197 rfl ?_
  refine q_goto (tgt := 202) dX12_pay_198 (by decide) ?_
  refine q_iadd dX12_pay_202 ?_
  refine q_istore (ls' := [(12, .int (s0 + (1 : Int32))), (0, .ref a0), (2, .int a2), (4, .long a4), (6, .long a6), (8, .long a8), (10, .long a10), (13, .int a13)]) dX12_pay_203 (by decide) rfl ?_
  refine q_iinc 7 (y := (a13 + (1 : Int32))) (ls' := [(13, .int (a13 + (1 : Int32))), (12, .int (s0 + (1 : Int32))), (0, .ref a0), (2, .int a2), (4, .long a4), (6, .long a6), (8, .long a8), (10, .long a10)]) dX12_pay_205 rfl rfl (by decide) rfl ?_
  refine q_goto (tgt := 147) dX12_pay_208 (by decide) ?_
  refine q_sub (ls' := [(0, .ref a0), (2, .int a2), (4, .long a4), (6, .long a6), (8, .long a8), (10, .long a10), (12, .int (s0 + (1 : Int32))), (13, .int (a13 + (1 : Int32)))]) [2, 3, 4, 5, 6, 7, 1, 0] rfl ?_
  exact hk147 _ _
set_option maxRecDepth 20000 in
theorem v_X12_pay_b147 {M : q_Mem} {a0 : Nat} {a2 : Int32} {a4 : Int64} {a6 : Int64} {a8 : Int64} {a10 : Int64}  : ∀ (n : Nat) (a12 : Int32) (a13 : Int32), q_V Y_X12_pay none (fun x : Int64 × q_Mem => (some (.long x.1), x.2)) 0 0 147 [(0, .ref a0), (2, .int a2), (4, .long a4), (6, .long a6), (8, .long a8), (10, .long a10), (12, .int a12), (13, .int a13)] [] M (f_X12_pay_b147 M a0 a2 a4 a6 a8 a10 n a12 a13) := by
  intro n
  induction n with
  | zero => intro a12 a13; exact q_none
  | succ n ih =>
    intro a12 a13
    rw [f_X12_pay_b147.eq_2]
    refine q_iload 7 dX12_pay_147 rfl ?_
    refine q_aload_n 0 dX12_pay_149 rfl ?_
    refine q_getR (f := 0) cl_X12 (by decide) qw_1117 rfl dX12_pay_150 (fun _ _ _ => rfl) (fun v42 h43 => ?_)
    refine q_iconst (x := (0 : Int32)) dX12_pay_153 rfl ?_
    refine q_iald dX12_pay_154 (fun v44 h45 => ?_)
    refine q_icmp_ge (tgt := 211) dX12_pay_155 (by decide) (fun c55 => ?_) (fun c55 => ?_)
    · refine q_lload 2 dX12_pay_158 rfl ?_
      refine q_aload_n 0 dX12_pay_160 rfl ?_
      refine q_getR (f := 19) cl_X12 (by decide) qw_1135 rfl dX12_pay_161 (fun _ _ _ => rfl) (fun v46 h47 => ?_)
      refine q_iload 7 dX12_pay_164 rfl ?_
      refine q_lald dX12_pay_166 (fun v48 h49 => ?_)
      refine q_lmul dX12_pay_167 ?_
      refine q_lload 3 dX12_pay_168 rfl ?_
      refine q_lrem dX12_pay_170 (fun v50 h51 => ?_)
      refine q_lstore (ls' := [(14, .long v50), (0, .ref a0), (2, .int a2), (4, .long a4), (6, .long a6), (8, .long a8), (10, .long a10), (12, .int a12), (13, .int a13)]) dX12_pay_171 (by decide) rfl ?_
      refine q_iload 7 dX12_pay_173 rfl ?_
      refine q_lload 0 dX12_pay_175 rfl ?_
      refine q_lload 6 dX12_pay_177 rfl ?_
      refine q_lcmp_gt (tgt := 197) dX12_pay_179 dX12_pay_180 (by decide) (fun c54 => ?_) (fun c54 => ?_)
      · refine q_sub (ls' := [(0, .ref a0), (2, .int a2), (4, .long a4), (6, .long a6), (8, .long a8), (10, .long a10), (13, .int a13)]) [1, 2, 3, 4, 5, 6, 8] rfl ?_
        exact v_X12_pay_b197 (ih)
      · refine q_lload 0 dX12_pay_183 rfl ?_
        refine q_lload 6 dX12_pay_185 rfl ?_
        refine q_lcmp_ne (tgt := 201) dX12_pay_187 dX12_pay_188 (by decide) (fun c53 => ?_) (fun c53 => ?_)
        · refine q_iload 8 dX12_pay_191 rfl ?_
          refine q_iload_n 2 dX12_pay_193 rfl ?_
          refine q_icmp_ge (tgt := 201) dX12_pay_194 (by decide) (fun c52 => ?_) (fun c52 => ?_)
          · refine q_sub (ls' := [(0, .ref a0), (2, .int a2), (4, .long a4), (6, .long a6), (8, .long a8), (10, .long a10), (13, .int a13)]) [1, 2, 3, 4, 5, 6, 8] rfl ?_
            exact v_X12_pay_b197 (ih)
          · refine q_sub (ls' := [(0, .ref a0), (2, .int a2), (4, .long a4), (6, .long a6), (8, .long a8), (10, .long a10), (13, .int a13)]) [1, 2, 3, 4, 5, 6, 8] rfl ?_
            exact v_X12_pay_b201 (ih)
        · refine q_sub (ls' := [(0, .ref a0), (2, .int a2), (4, .long a4), (6, .long a6), (8, .long a8), (10, .long a10), (13, .int a13)]) [1, 2, 3, 4, 5, 6, 8] rfl ?_
          exact v_X12_pay_b201 (ih)
    · refine q_sub (ls' := [(0, .ref a0), (2, .int a2), (4, .long a4), (6, .long a6), (8, .long a8), (12, .int a12)]) [0, 1, 2, 3, 4, 6] rfl ?_
      exact v_X12_pay_b211
set_option maxRecDepth 20000 in
theorem v_X12_pay_b127 {M : q_Mem} {a0 : Nat} {a2 : Int32} {a4 : Int64} {a6 : Int64} {a8 : Int64}  : q_V Y_X12_pay none (fun x : Int64 × q_Mem => (some (.long x.1), x.2)) 0 0 127 [(0, .ref a0), (2, .int a2), (4, .long a4), (6, .long a6), (8, .long a8)] [] M (f_X12_pay_b127 M a0 a2 a4 a6 a8 ) := by
  unfold f_X12_pay_b127
  refine q_lload 2 dX12_pay_127 rfl ?_
  refine q_aload_n 0 dX12_pay_129 rfl ?_
  refine q_getR (f := 19) cl_X12 (by decide) qw_1135 rfl dX12_pay_130 (fun _ _ _ => rfl) (fun v36 h37 => ?_)
  refine q_iload_n 1 dX12_pay_133 rfl ?_
  refine q_lald dX12_pay_134 (fun v38 h39 => ?_)
  refine q_lmul dX12_pay_135 ?_
  refine q_lload 3 dX12_pay_136 rfl ?_
  refine q_lrem dX12_pay_138 (fun v40 h41 => ?_)
  refine q_lstore (ls' := [(10, .long v40), (0, .ref a0), (2, .int a2), (4, .long a4), (6, .long a6), (8, .long a8)]) dX12_pay_139 (by decide) rfl ?_
  refine q_iconst (x := (0 : Int32)) dX12_pay_141 rfl ?_
  refine q_istore (ls' := [(12, .int (0 : Int32)), (10, .long v40), (0, .ref a0), (2, .int a2), (4, .long a4), (6, .long a6), (8, .long a8)]) dX12_pay_142 (by decide) rfl ?_
  refine q_iconst (x := (0 : Int32)) dX12_pay_144 rfl ?_
  refine q_istore (ls' := [(13, .int (0 : Int32)), (12, .int (0 : Int32)), (10, .long v40), (0, .ref a0), (2, .int a2), (4, .long a4), (6, .long a6), (8, .long a8)]) dX12_pay_145 (by decide) rfl ?_
  refine q_sub (ls' := [(0, .ref a0), (2, .int a2), (4, .long a4), (6, .long a6), (8, .long a8), (10, .long v40), (12, .int (0 : Int32)), (13, .int (0 : Int32))]) [3, 4, 5, 6, 7, 2, 1, 0] rfl ?_
  exact v_X12_pay_b147 _ _ _
set_option maxRecDepth 20000 in
theorem v_X12_pay_b92 {M : q_Mem} {a0 : Nat} {a2 : Int32} {a4 : Int64} {a6 : Int64}  : ∀ (n : Nat) (a8 : Int64) (a10 : Int32), q_V Y_X12_pay none (fun x : Int64 × q_Mem => (some (.long x.1), x.2)) 0 0 92 [(0, .ref a0), (2, .int a2), (4, .long a4), (6, .long a6), (8, .long a8), (10, .int a10)] [] M (f_X12_pay_b92 M a0 a2 a4 a6 n a8 a10) := by
  intro n
  induction n with
  | zero => intro a8 a10; exact q_none
  | succ n ih =>
    intro a8 a10
    rw [f_X12_pay_b92.eq_2]
    refine q_iload 5 dX12_pay_92 rfl ?_
    refine q_aload_n 0 dX12_pay_94 rfl ?_
    refine q_getR (f := 0) cl_X12 (by decide) qw_1117 rfl dX12_pay_95 (fun _ _ _ => rfl) (fun v25 h26 => ?_)
    refine q_iconst (x := (0 : Int32)) dX12_pay_98 rfl ?_
    refine q_iald dX12_pay_99 (fun v27 h28 => ?_)
    refine q_icmp_ge (tgt := 127) dX12_pay_100 (by decide) (fun c35 => ?_) (fun c35 => ?_)
    · refine q_lload 4 dX12_pay_103 rfl ?_
      refine q_lload 2 dX12_pay_105 rfl ?_
      refine q_aload_n 0 dX12_pay_107 rfl ?_
      refine q_getR (f := 19) cl_X12 (by decide) qw_1135 rfl dX12_pay_108 (fun _ _ _ => rfl) (fun v29 h30 => ?_)
      refine q_iload 5 dX12_pay_111 rfl ?_
      refine q_lald dX12_pay_113 (fun v31 h32 => ?_)
      refine q_lmul dX12_pay_114 ?_
      refine q_lload 3 dX12_pay_115 rfl ?_
      refine q_ldiv dX12_pay_117 (fun v33 h34 => ?_)
      refine q_lsub dX12_pay_118 ?_
      refine q_lstore (ls' := [(8, .long (a8 - v33)), (0, .ref a0), (2, .int a2), (4, .long a4), (6, .long a6), (10, .int a10)]) dX12_pay_119 (by decide) rfl ?_
      refine q_iinc 5 (y := (a10 + (1 : Int32))) (ls' := [(10, .int (a10 + (1 : Int32))), (8, .long (a8 - v33)), (0, .ref a0), (2, .int a2), (4, .long a4), (6, .long a6)]) dX12_pay_121 rfl rfl (by decide) rfl ?_
      refine q_goto (tgt := 92) dX12_pay_124 (by decide) ?_
      refine q_sub (ls' := [(0, .ref a0), (2, .int a2), (4, .long a4), (6, .long a6), (8, .long (a8 - v33)), (10, .int (a10 + (1 : Int32)))]) [2, 3, 4, 5, 1, 0] rfl ?_
      exact ih _ _
    · refine q_sub (ls' := [(0, .ref a0), (2, .int a2), (4, .long a4), (6, .long a6), (8, .long a8)]) [0, 1, 2, 3, 4] rfl ?_
      exact v_X12_pay_b127
set_option maxRecDepth 20000 in
theorem v_X12_pay_b76 {M : q_Mem} {a0 : Nat} {a2 : Int32} {a4 : Int64} {a6 : Int64}  : q_V Y_X12_pay none (fun x : Int64 × q_Mem => (some (.long x.1), x.2)) 0 0 76 [(0, .ref a0), (2, .int a2), (4, .long a4), (6, .long a6)] [] M (f_X12_pay_b76 M a0 a2 a4 a6 ) := by
  unfold f_X12_pay_b76
  refine q_lload 3 dX12_pay_76 rfl ?_
  refine q_lconst (x := (0 : Int64)) dX12_pay_78 rfl ?_
  refine q_lcmp_ne (tgt := 85) dX12_pay_79 dX12_pay_80 (by decide) (fun c24 => ?_) (fun c24 => ?_)
  · refine q_lconst (x := (0 : Int64)) dX12_pay_83 rfl ?_
    exact q_lret dX12_pay_84 rfl rfl (Nat.le_of_ble_eq_true rfl) rfl
  · refine q_lload 2 dX12_pay_85 rfl ?_
    refine q_lstore (ls' := [(8, .long a4), (0, .ref a0), (2, .int a2), (4, .long a4), (6, .long a6)]) dX12_pay_87 (by decide) rfl ?_
    refine q_iconst (x := (0 : Int32)) dX12_pay_89 rfl ?_
    refine q_istore (ls' := [(10, .int (0 : Int32)), (8, .long a4), (0, .ref a0), (2, .int a2), (4, .long a4), (6, .long a6)]) dX12_pay_90 (by decide) rfl ?_
    refine q_sub (ls' := [(0, .ref a0), (2, .int a2), (4, .long a4), (6, .long a6), (8, .long a4), (10, .int (0 : Int32))]) [2, 3, 4, 5, 1, 0] rfl ?_
    exact v_X12_pay_b92 _ _ _
set_option maxRecDepth 20000 in
theorem v_X12_pay_b47 {M : q_Mem} {a0 : Nat} {a2 : Int32} {a4 : Int64}  : ∀ (n : Nat) (a6 : Int64) (a8 : Int32), q_V Y_X12_pay none (fun x : Int64 × q_Mem => (some (.long x.1), x.2)) 0 0 47 [(0, .ref a0), (2, .int a2), (4, .long a4), (6, .long a6), (8, .int a8)] [] M (f_X12_pay_b47 M a0 a2 a4 n a6 a8) := by
  intro n
  induction n with
  | zero => intro a6 a8; exact q_none
  | succ n ih =>
    intro a6 a8
    rw [f_X12_pay_b47.eq_2]
    refine q_iload 4 dX12_pay_47 rfl ?_
    refine q_aload_n 0 dX12_pay_49 rfl ?_
    refine q_getR (f := 0) cl_X12 (by decide) qw_1117 rfl dX12_pay_50 (fun _ _ _ => rfl) (fun v15 h16 => ?_)
    refine q_iconst (x := (0 : Int32)) dX12_pay_53 rfl ?_
    refine q_iald dX12_pay_54 (fun v17 h18 => ?_)
    refine q_icmp_ge (tgt := 76) dX12_pay_55 (by decide) (fun c23 => ?_) (fun c23 => ?_)
    · refine q_lload 3 dX12_pay_58 rfl ?_
      refine q_aload_n 0 dX12_pay_60 rfl ?_
      refine q_getR (f := 19) cl_X12 (by decide) qw_1135 rfl dX12_pay_61 (fun _ _ _ => rfl) (fun v19 h20 => ?_)
      refine q_iload 4 dX12_pay_64 rfl ?_
      refine q_lald dX12_pay_66 (fun v21 h22 => ?_)
      refine q_ladd dX12_pay_67 ?_
      refine q_lstore (ls' := [(6, .long (a6 + v21)), (0, .ref a0), (2, .int a2), (4, .long a4), (8, .int a8)]) dX12_pay_68 (by decide) rfl ?_
      refine q_iinc 4 (y := (a8 + (1 : Int32))) (ls' := [(8, .int (a8 + (1 : Int32))), (6, .long (a6 + v21)), (0, .ref a0), (2, .int a2), (4, .long a4)]) dX12_pay_70 rfl rfl (by decide) rfl ?_
      refine q_goto (tgt := 47) dX12_pay_73 (by decide) ?_
      refine q_sub (ls' := [(0, .ref a0), (2, .int a2), (4, .long a4), (6, .long (a6 + v21)), (8, .int (a8 + (1 : Int32)))]) [2, 3, 4, 1, 0] rfl ?_
      exact ih _ _
    · refine q_sub (ls' := [(0, .ref a0), (2, .int a2), (4, .long a4), (6, .long a6)]) [0, 1, 2, 3] rfl ?_
      exact v_X12_pay_b76
set_option maxRecDepth 20000 in
theorem m_X12_pay {M : q_Mem} {a0 : Nat} {a1 : Int32} {a2 : Int32} {a3 : Int32} {x : (Int64 × q_Mem)} (h : f_X12_pay M a0 a1 a2 a3 = some x) : q_C Y_X12_pay [.ref a0, .int a1, .int a2, .int a3] M (some (.long x.1)) x.2 := by
  refine q_met (φ := (fun x : Int64 × q_Mem => (some (.long x.1), x.2))) (r := f_X12_pay M a0 a1 a2 a3) (by decide +kernel) (Nat.le_of_ble_eq_true rfl) ?_ h (fun _ _ => rfl)
  show q_V Y_X12_pay none (fun x : Int64 × q_Mem => (some (.long x.1), x.2)) 0 0 0 [(0, .ref a0), (1, .int a1), (2, .int a2), (3, .int a3)] [] M (f_X12_pay M a0 a1 a2 a3)
  unfold f_X12_pay
  refine q_obV ?_
  refine q_iload_n 1 dX12_pay_0 rfl ?_
  refine q_cSI (Y2 := Y_X12_isWeek) (As := [.int a1]) (st := []) ms_X12_isWeek qw_1296 dX12_pay_1 ⟨Nat.le_of_ble_eq_true rfl, Nat.le_of_ble_eq_true rfl⟩ rfl (fun _ _ => rfl) (Nat.le_of_ble_eq_true rfl) ⟨Nat.le_of_ble_eq_true rfl, Nat.le_of_ble_eq_true rfl⟩ (fun v2 h1 => m_X12_isWeek h1) (fun v2 h1 => ?_)
  refine q_if_eq (tgt := 23) dX12_pay_4 (by decide) (fun c14 => ?_) (fun c14 => ?_)
  · refine q_ldc2 (x := (-2 : Int64)) qw_1299 dX12_pay_23 ?_
    exact q_lret dX12_pay_26 rfl rfl (Nat.le_of_ble_eq_true rfl) rfl
  · refine q_aload_n 0 dX12_pay_7 rfl ?_
    refine q_iconst (x := (0 : Int32)) dX12_pay_8 rfl ?_
    refine q_iload_n 2 dX12_pay_9 rfl ?_
    refine q_cVI (Y2 := Y_X12_is) (As := [.int (0 : Int32), .int a2]) (b := a0) (st := []) cl_X12 mv_X12_is qw_1225 dX12_pay_10 ⟨Nat.le_of_ble_eq_true rfl, Nat.le_of_ble_eq_true rfl⟩ rfl (fun _ _ => rfl) (Nat.le_of_ble_eq_true rfl) ⟨Nat.le_of_ble_eq_true rfl, Nat.le_of_ble_eq_true rfl⟩ (fun v4 h3 => q_ob_is h3) (fun v4 h3 => m_X12_is h3) (fun v4 h3 => ?_)
    refine q_if_eq (tgt := 23) dX12_pay_13 (by decide) (fun c13 => ?_) (fun c13 => ?_)
    · refine q_ldc2 (x := (-2 : Int64)) qw_1299 dX12_pay_23 ?_
      exact q_lret dX12_pay_26 rfl rfl (Nat.le_of_ble_eq_true rfl) rfl
    · refine q_iload_n 3 dX12_pay_16 rfl ?_
      refine q_cSI (Y2 := Y_X12_isDay) (As := [.int a3]) (st := []) ms_X12_isDay qw_1233 dX12_pay_17 ⟨Nat.le_of_ble_eq_true rfl, Nat.le_of_ble_eq_true rfl⟩ rfl (fun _ _ => rfl) (Nat.le_of_ble_eq_true rfl) ⟨Nat.le_of_ble_eq_true rfl, Nat.le_of_ble_eq_true rfl⟩ (fun v6 h5 => m_X12_isDay h5) (fun v6 h5 => ?_)
      refine q_if_ne (tgt := 27) dX12_pay_20 (by decide) (fun c12 => ?_) (fun c12 => ?_)
      · refine q_ldc2 (x := (-2 : Int64)) qw_1299 dX12_pay_23 ?_
        exact q_lret dX12_pay_26 rfl rfl (Nat.le_of_ble_eq_true rfl) rfl
      · refine q_aload_n 0 dX12_pay_27 rfl ?_
        refine q_iload_n 1 dX12_pay_28 rfl ?_
        refine q_iload_n 3 dX12_pay_29 rfl ?_
        refine q_cVM (Y2 := Y_X12_findShares) (As := [.int a1, .int a3]) (b := a0) (st := []) cl_X12 mv_X12_findShares qw_1527 dX12_pay_30 ⟨Nat.le_of_ble_eq_true rfl, Nat.le_of_ble_eq_true rfl⟩ rfl (fun _ _ => rfl) (Nat.le_of_ble_eq_true rfl) ⟨Nat.le_of_ble_eq_true rfl, Nat.le_of_ble_eq_true rfl⟩ (fun M9 h7 => q_ob_is h7) (fun M9 h7 => m_X12_findShares h7) (fun M9 h7 => ?_)
        refine q_aload_n 0 dX12_pay_33 rfl ?_
        refine q_iload_n 1 dX12_pay_34 rfl ?_
        refine q_iload_n 3 dX12_pay_35 rfl ?_
        refine q_cVJ (Y2 := Y_X12_moneyOf) (As := [.int a1, .int a3]) (b := a0) (st := []) cl_X12 mv_X12_moneyOf qw_1519 dX12_pay_36 ⟨Nat.le_of_ble_eq_true rfl, Nat.le_of_ble_eq_true rfl⟩ rfl (fun _ _ => rfl) (Nat.le_of_ble_eq_true rfl) ⟨Nat.le_of_ble_eq_true rfl, Nat.le_of_ble_eq_true rfl⟩ (fun v11 h10 => q_ob_is h10) (fun v11 h10 => m_X12_moneyOf h10) (fun v11 h10 => ?_)
        refine q_lstore (ls' := [(4, .long v11), (0, .ref a0), (1, .int a1), (2, .int a2), (3, .int a3)]) dX12_pay_39 (by decide) rfl ?_
        refine q_lconst (x := (0 : Int64)) dX12_pay_41 rfl ?_
        refine q_lstore (ls' := [(6, .long (0 : Int64)), (4, .long v11), (0, .ref a0), (1, .int a1), (2, .int a2), (3, .int a3)]) dX12_pay_42 (by decide) rfl ?_
        refine q_iconst (x := (0 : Int32)) dX12_pay_44 rfl ?_
        refine q_istore (ls' := [(8, .int (0 : Int32)), (6, .long (0 : Int64)), (4, .long v11), (0, .ref a0), (1, .int a1), (2, .int a2), (3, .int a3)]) dX12_pay_45 (by decide) rfl ?_
        refine q_sub (ls' := [(0, .ref a0), (2, .int a2), (4, .long v11), (6, .long (0 : Int64)), (8, .int (0 : Int32))]) [3, 5, 2, 1, 0] rfl ?_
        exact v_X12_pay_b47 _ _ _
theorem dX12_watered_0 : decode cX12_watered 0 = .ok (.aload_n 0, 1) := by decide +kernel
theorem dX12_watered_1 : decode cX12_watered 1 = .ok (.iconst 0, 1) := by decide +kernel
theorem dX12_watered_2 : decode cX12_watered 2 = .ok (.iload_n 1, 1) := by decide +kernel
theorem dX12_watered_3 : decode cX12_watered 3 = .ok (.invokevirtual 86, 3) := by decide +kernel
theorem dX12_watered_6 : decode cX12_watered 6 = .ok (.ifCond .eq 17, 3) := by decide +kernel
theorem dX12_watered_9 : decode cX12_watered 9 = .ok (.iload_n 2, 1) := by decide +kernel
theorem dX12_watered_10 : decode cX12_watered 10 = .ok (.invokestatic 120, 3) := by decide +kernel
theorem dX12_watered_13 : decode cX12_watered 13 = .ok (.ifCond .eq 10, 3) := by decide +kernel
theorem dX12_watered_16 : decode cX12_watered 16 = .ok (.iload_n 3, 1) := by decide +kernel
theorem dX12_watered_17 : decode cX12_watered 17 = .ok (.invokestatic 90, 3) := by decide +kernel
theorem dX12_watered_20 : decode cX12_watered 20 = .ok (.ifCond .ne 6, 3) := by decide +kernel
theorem dX12_watered_23 : decode cX12_watered 23 = .ok (.bipush (-2), 2) := by decide +kernel
theorem dX12_watered_25 : decode cX12_watered 25 = .ok (.ireturn, 1) := by decide +kernel
theorem dX12_watered_26 : decode cX12_watered 26 = .ok (.aload_n 0, 1) := by decide +kernel
theorem dX12_watered_27 : decode cX12_watered 27 = .ok (.iload_n 3, 1) := by decide +kernel
theorem dX12_watered_28 : decode cX12_watered 28 = .ok (.invokevirtual 113, 3) := by decide +kernel
theorem dX12_watered_31 : decode cX12_watered 31 = .ok (.iconst 0, 1) := by decide +kernel
theorem dX12_watered_32 : decode cX12_watered 32 = .ok (.istore 4, 2) := by decide +kernel
theorem dX12_watered_34 : decode cX12_watered 34 = .ok (.iconst 0, 1) := by decide +kernel
theorem dX12_watered_35 : decode cX12_watered 35 = .ok (.istore 5, 2) := by decide +kernel
theorem dX12_watered_37 : decode cX12_watered 37 = .ok (.iconst 0, 1) := by decide +kernel
theorem dX12_watered_38 : decode cX12_watered 38 = .ok (.istore 6, 2) := by decide +kernel
theorem dX12_watered_40 : decode cX12_watered 40 = .ok (.iload 6, 2) := by decide +kernel
theorem dX12_watered_42 : decode cX12_watered 42 = .ok (.aload_n 0, 1) := by decide +kernel
theorem dX12_watered_43 : decode cX12_watered 43 = .ok (.getfield 7, 3) := by decide +kernel
theorem dX12_watered_46 : decode cX12_watered 46 = .ok (.iconst 2, 1) := by decide +kernel
theorem dX12_watered_47 : decode cX12_watered 47 = .ok (.iaload, 1) := by decide +kernel
theorem dX12_watered_48 : decode cX12_watered 48 = .ok (.if_icmp .ge 76, 3) := by decide +kernel
theorem dX12_watered_51 : decode cX12_watered 51 = .ok (.aload_n 0, 1) := by decide +kernel
theorem dX12_watered_52 : decode cX12_watered 52 = .ok (.getfield 7, 3) := by decide +kernel
theorem dX12_watered_55 : decode cX12_watered 55 = .ok (.sipush 1300, 3) := by decide +kernel
theorem dX12_watered_58 : decode cX12_watered 58 = .ok (.bipush 7, 2) := by decide +kernel
theorem dX12_watered_60 : decode cX12_watered 60 = .ok (.iload 6, 2) := by decide +kernel
theorem dX12_watered_62 : decode cX12_watered 62 = .ok (.imul, 1) := by decide +kernel
theorem dX12_watered_63 : decode cX12_watered 63 = .ok (.iadd, 1) := by decide +kernel
theorem dX12_watered_64 : decode cX12_watered 64 = .ok (.iaload, 1) := by decide +kernel
theorem dX12_watered_65 : decode cX12_watered 65 = .ok (.iload_n 1, 1) := by decide +kernel
theorem dX12_watered_66 : decode cX12_watered 66 = .ok (.if_icmp .ne 52, 3) := by decide +kernel
theorem dX12_watered_69 : decode cX12_watered 69 = .ok (.aload_n 0, 1) := by decide +kernel
theorem dX12_watered_70 : decode cX12_watered 70 = .ok (.getfield 20, 3) := by decide +kernel
theorem dX12_watered_73 : decode cX12_watered 73 = .ok (.iload 6, 2) := by decide +kernel
theorem dX12_watered_75 : decode cX12_watered 75 = .ok (.iaload, 1) := by decide +kernel
theorem dX12_watered_76 : decode cX12_watered 76 = .ok (.iconst (-1), 1) := by decide +kernel
theorem dX12_watered_77 : decode cX12_watered 77 = .ok (.if_icmp .eq 41, 3) := by decide +kernel
theorem dX12_watered_80 : decode cX12_watered 80 = .ok (.aload_n 0, 1) := by decide +kernel
theorem dX12_watered_81 : decode cX12_watered 81 = .ok (.getfield 7, 3) := by decide +kernel
theorem dX12_watered_84 : decode cX12_watered 84 = .ok (.sipush 1300, 3) := by decide +kernel
theorem dX12_watered_87 : decode cX12_watered 87 = .ok (.bipush 7, 2) := by decide +kernel
theorem dX12_watered_89 : decode cX12_watered 89 = .ok (.iload 6, 2) := by decide +kernel
theorem dX12_watered_91 : decode cX12_watered 91 = .ok (.imul, 1) := by decide +kernel
theorem dX12_watered_92 : decode cX12_watered 92 = .ok (.iadd, 1) := by decide +kernel
theorem dX12_watered_93 : decode cX12_watered 93 = .ok (.iconst 1, 1) := by decide +kernel
theorem dX12_watered_94 : decode cX12_watered 94 = .ok (.iadd, 1) := by decide +kernel
theorem dX12_watered_95 : decode cX12_watered 95 = .ok (.iaload, 1) := by decide +kernel
theorem dX12_watered_96 : decode cX12_watered 96 = .ok (.bipush 7, 2) := by decide +kernel
theorem dX12_watered_98 : decode cX12_watered 98 = .ok (.idiv, 1) := by decide +kernel
theorem dX12_watered_99 : decode cX12_watered 99 = .ok (.iload_n 2, 1) := by decide +kernel
theorem dX12_watered_100 : decode cX12_watered 100 = .ok (.if_icmp .ge 18, 3) := by decide +kernel
theorem dX12_watered_103 : decode cX12_watered 103 = .ok (.iload 4, 2) := by decide +kernel
theorem dX12_watered_105 : decode cX12_watered 105 = .ok (.aload_n 0, 1) := by decide +kernel
theorem dX12_watered_106 : decode cX12_watered 106 = .ok (.getfield 20, 3) := by decide +kernel
theorem dX12_watered_109 : decode cX12_watered 109 = .ok (.iload 6, 2) := by decide +kernel
theorem dX12_watered_111 : decode cX12_watered 111 = .ok (.iaload, 1) := by decide +kernel
theorem dX12_watered_112 : decode cX12_watered 112 = .ok (.iadd, 1) := by decide +kernel
theorem dX12_watered_113 : decode cX12_watered 113 = .ok (.istore 4, 2) := by decide +kernel
theorem dX12_watered_115 : decode cX12_watered 115 = .ok (.iinc 5 1, 3) := by decide +kernel
theorem dX12_watered_118 : decode cX12_watered 118 = .ok (.iinc 6 1, 3) := by decide +kernel
theorem dX12_watered_121 : decode cX12_watered 121 = .ok (.goto (-81), 3) := by decide +kernel
theorem dX12_watered_124 : decode cX12_watered 124 = .ok (.iload 5, 2) := by decide +kernel
theorem dX12_watered_126 : decode cX12_watered 126 = .ok (.iconst 3, 1) := by decide +kernel
theorem dX12_watered_127 : decode cX12_watered 127 = .ok (.if_icmp .ge 5, 3) := by decide +kernel
theorem dX12_watered_130 : decode cX12_watered 130 = .ok (.iconst 0, 1) := by decide +kernel
theorem dX12_watered_131 : decode cX12_watered 131 = .ok (.ireturn, 1) := by decide +kernel
theorem dX12_watered_132 : decode cX12_watered 132 = .ok (.iload 4, 2) := by decide +kernel
theorem dX12_watered_134 : decode cX12_watered 134 = .ok (.iload 5, 2) := by decide +kernel
theorem dX12_watered_136 : decode cX12_watered 136 = .ok (.idiv, 1) := by decide +kernel
theorem dX12_watered_137 : decode cX12_watered 137 = .ok (.istore 6, 2) := by decide +kernel
theorem dX12_watered_139 : decode cX12_watered 139 = .ok (.iconst 0, 1) := by decide +kernel
theorem dX12_watered_140 : decode cX12_watered 140 = .ok (.istore 7, 2) := by decide +kernel
theorem dX12_watered_142 : decode cX12_watered 142 = .ok (.iconst 0, 1) := by decide +kernel
theorem dX12_watered_143 : decode cX12_watered 143 = .ok (.istore 8, 2) := by decide +kernel
theorem dX12_watered_145 : decode cX12_watered 145 = .ok (.iconst (-1), 1) := by decide +kernel
theorem dX12_watered_146 : decode cX12_watered 146 = .ok (.istore 9, 2) := by decide +kernel
theorem dX12_watered_148 : decode cX12_watered 148 = .ok (.iconst 0, 1) := by decide +kernel
theorem dX12_watered_149 : decode cX12_watered 149 = .ok (.istore 10, 2) := by decide +kernel
theorem dX12_watered_151 : decode cX12_watered 151 = .ok (.iconst 0, 1) := by decide +kernel
theorem dX12_watered_152 : decode cX12_watered 152 = .ok (.istore 11, 2) := by decide +kernel
theorem dX12_watered_154 : decode cX12_watered 154 = .ok (.iload 11, 2) := by decide +kernel
theorem dX12_watered_156 : decode cX12_watered 156 = .ok (.aload_n 0, 1) := by decide +kernel
theorem dX12_watered_157 : decode cX12_watered 157 = .ok (.getfield 7, 3) := by decide +kernel
theorem dX12_watered_160 : decode cX12_watered 160 = .ok (.iconst 2, 1) := by decide +kernel
theorem dX12_watered_161 : decode cX12_watered 161 = .ok (.iaload, 1) := by decide +kernel
theorem dX12_watered_162 : decode cX12_watered 162 = .ok (.if_icmp .ge 115, 3) := by decide +kernel
theorem dX12_watered_165 : decode cX12_watered 165 = .ok (.aload_n 0, 1) := by decide +kernel
theorem dX12_watered_166 : decode cX12_watered 166 = .ok (.getfield 7, 3) := by decide +kernel
theorem dX12_watered_169 : decode cX12_watered 169 = .ok (.sipush 1300, 3) := by decide +kernel
theorem dX12_watered_172 : decode cX12_watered 172 = .ok (.bipush 7, 2) := by decide +kernel
theorem dX12_watered_174 : decode cX12_watered 174 = .ok (.iload 11, 2) := by decide +kernel
theorem dX12_watered_176 : decode cX12_watered 176 = .ok (.imul, 1) := by decide +kernel
theorem dX12_watered_177 : decode cX12_watered 177 = .ok (.iadd, 1) := by decide +kernel
theorem dX12_watered_178 : decode cX12_watered 178 = .ok (.iconst 1, 1) := by decide +kernel
theorem dX12_watered_179 : decode cX12_watered 179 = .ok (.iadd, 1) := by decide +kernel
theorem dX12_watered_180 : decode cX12_watered 180 = .ok (.iaload, 1) := by decide +kernel
theorem dX12_watered_181 : decode cX12_watered 181 = .ok (.istore 12, 2) := by decide +kernel
theorem dX12_watered_183 : decode cX12_watered 183 = .ok (.aload_n 0, 1) := by decide +kernel
theorem dX12_watered_184 : decode cX12_watered 184 = .ok (.getfield 7, 3) := by decide +kernel
theorem dX12_watered_187 : decode cX12_watered 187 = .ok (.sipush 1300, 3) := by decide +kernel
theorem dX12_watered_190 : decode cX12_watered 190 = .ok (.bipush 7, 2) := by decide +kernel
theorem dX12_watered_192 : decode cX12_watered 192 = .ok (.iload 11, 2) := by decide +kernel
theorem dX12_watered_194 : decode cX12_watered 194 = .ok (.imul, 1) := by decide +kernel
theorem dX12_watered_195 : decode cX12_watered 195 = .ok (.iadd, 1) := by decide +kernel
theorem dX12_watered_196 : decode cX12_watered 196 = .ok (.iaload, 1) := by decide +kernel
theorem dX12_watered_197 : decode cX12_watered 197 = .ok (.iload_n 1, 1) := by decide +kernel
theorem dX12_watered_198 : decode cX12_watered 198 = .ok (.if_icmp .ne 73, 3) := by decide +kernel
theorem dX12_watered_201 : decode cX12_watered 201 = .ok (.aload_n 0, 1) := by decide +kernel
theorem dX12_watered_202 : decode cX12_watered 202 = .ok (.getfield 20, 3) := by decide +kernel
theorem dX12_watered_205 : decode cX12_watered 205 = .ok (.iload 11, 2) := by decide +kernel
theorem dX12_watered_207 : decode cX12_watered 207 = .ok (.iaload, 1) := by decide +kernel
theorem dX12_watered_208 : decode cX12_watered 208 = .ok (.iconst (-1), 1) := by decide +kernel
theorem dX12_watered_209 : decode cX12_watered 209 = .ok (.if_icmp .eq 62, 3) := by decide +kernel
theorem dX12_watered_212 : decode cX12_watered 212 = .ok (.iload 12, 2) := by decide +kernel
theorem dX12_watered_214 : decode cX12_watered 214 = .ok (.bipush 7, 2) := by decide +kernel
theorem dX12_watered_216 : decode cX12_watered 216 = .ok (.idiv, 1) := by decide +kernel
theorem dX12_watered_217 : decode cX12_watered 217 = .ok (.iload_n 2, 1) := by decide +kernel
theorem dX12_watered_218 : decode cX12_watered 218 = .ok (.if_icmp .ne 53, 3) := by decide +kernel
theorem dX12_watered_221 : decode cX12_watered 221 = .ok (.iinc 8 1, 3) := by decide +kernel
theorem dX12_watered_224 : decode cX12_watered 224 = .ok (.aload_n 0, 1) := by decide +kernel
theorem dX12_watered_225 : decode cX12_watered 225 = .ok (.getfield 20, 3) := by decide +kernel
theorem dX12_watered_228 : decode cX12_watered 228 = .ok (.iload 11, 2) := by decide +kernel
theorem dX12_watered_230 : decode cX12_watered 230 = .ok (.iaload, 1) := by decide +kernel
theorem dX12_watered_231 : decode cX12_watered 231 = .ok (.iload 6, 2) := by decide +kernel
theorem dX12_watered_233 : decode cX12_watered 233 = .ok (.bipush 40, 2) := by decide +kernel
theorem dX12_watered_235 : decode cX12_watered 235 = .ok (.isub, 1) := by decide +kernel
theorem dX12_watered_236 : decode cX12_watered 236 = .ok (.if_icmp .gt 35, 3) := by decide +kernel
theorem dX12_watered_239 : decode cX12_watered 239 = .ok (.iinc 7 1, 3) := by decide +kernel
theorem dX12_watered_242 : decode cX12_watered 242 = .ok (.iload 10, 2) := by decide +kernel
theorem dX12_watered_244 : decode cX12_watered 244 = .ok (.ifCond .ne 16, 3) := by decide +kernel
theorem dX12_watered_247 : decode cX12_watered 247 = .ok (.iload 9, 2) := by decide +kernel
theorem dX12_watered_249 : decode cX12_watered 249 = .ok (.iconst (-1), 1) := by decide +kernel
theorem dX12_watered_250 : decode cX12_watered 250 = .ok (.if_icmp .eq 14, 3) := by decide +kernel
theorem dX12_watered_253 : decode cX12_watered 253 = .ok (.iload 9, 2) := by decide +kernel
theorem dX12_watered_255 : decode cX12_watered 255 = .ok (.iload 12, 2) := by decide +kernel
theorem dX12_watered_257 : decode cX12_watered 257 = .ok (.if_icmp .eq 7, 3) := by decide +kernel
theorem dX12_watered_260 : decode cX12_watered 260 = .ok (.iconst 1, 1) := by decide +kernel
theorem dX12_watered_261 : decode cX12_watered 261 = .ok (.goto 4, 3) := by decide +kernel
theorem dX12_watered_264 : decode cX12_watered 264 = .ok (.iconst 0, 1) := by decide +kernel
theorem dX12_watered_265 : decode cX12_watered 265 = .ok (.istore 10, 2) := by decide +kernel
theorem dX12_watered_267 : decode cX12_watered 267 = .ok (.iload 12, 2) := by decide +kernel
theorem dX12_watered_269 : decode cX12_watered 269 = .ok (.istore 9, 2) := by decide +kernel
theorem dX12_watered_271 : decode cX12_watered 271 = .ok (.iinc 11 1, 3) := by decide +kernel
theorem dX12_watered_274 : decode cX12_watered 274 = .ok (.goto (-120), 3) := by decide +kernel
theorem dX12_watered_277 : decode cX12_watered 277 = .ok (.iload 7, 2) := by decide +kernel
theorem dX12_watered_279 : decode cX12_watered 279 = .ok (.iconst 2, 1) := by decide +kernel
theorem dX12_watered_280 : decode cX12_watered 280 = .ok (.if_icmp .lt 22, 3) := by decide +kernel
theorem dX12_watered_283 : decode cX12_watered 283 = .ok (.iload 10, 2) := by decide +kernel
theorem dX12_watered_285 : decode cX12_watered 285 = .ok (.ifCond .eq 17, 3) := by decide +kernel
theorem dX12_watered_288 : decode cX12_watered 288 = .ok (.iconst 2, 1) := by decide +kernel
theorem dX12_watered_289 : decode cX12_watered 289 = .ok (.iload 7, 2) := by decide +kernel
theorem dX12_watered_291 : decode cX12_watered 291 = .ok (.imul, 1) := by decide +kernel
theorem dX12_watered_292 : decode cX12_watered 292 = .ok (.iload 8, 2) := by decide +kernel
theorem dX12_watered_294 : decode cX12_watered 294 = .ok (.if_icmp .lt 8, 3) := by decide +kernel
theorem dX12_watered_297 : decode cX12_watered 297 = .ok (.iload 7, 2) := by decide +kernel
theorem dX12_watered_299 : decode cX12_watered 299 = .ok (.goto 4, 3) := by decide +kernel
theorem dX12_watered_302 : decode cX12_watered 302 = .ok (.iconst 0, 1) := by decide +kernel
theorem dX12_watered_303 : decode cX12_watered 303 = .ok (.ireturn, 1) := by decide +kernel
def f_X12_watered_b277 (M : q_Mem) (a7 : Int32) (a8 : Int32) (a10 : Int32) : Option (Int32 × q_Mem) :=
  (if a7 < (2 : Int32) then
    some ((0 : Int32), M)
  else
    (if a10 = 0 then
      some ((0 : Int32), M)
    else
      (if ((2 : Int32) * a7) < a8 then
        some ((0 : Int32), M)
      else
        some (a7, M))))
def f_X12_watered_b265 (kk154 : Int32 → Int32 → Int32 → Int32 → Int32 → Option (Int32 × q_Mem)) (M : q_Mem) (a0 : Nat) (a1 : Int32) (a2 : Int32) (a6 : Int32) (a7 : Int32) (a8 : Int32) (a11 : Int32) (a12 : Int32) (s0 : Int32) : Option (Int32 × q_Mem) :=
  kk154 a7 a8 a12 s0 (a11 + (1 : Int32))
def f_X12_watered_b154 (M : q_Mem) (a0 : Nat) (a1 : Int32) (a2 : Int32) (a6 : Int32) : Nat → Int32 → Int32 → Int32 → Int32 → Int32 → Option (Int32 × q_Mem)
  | 0, _, _, _, _, _ => none
  | n + 1, a7, a8, a9, a10, a11 =>
    (q_gR 11 0 M a0).bind fun v42 =>
    (q_lI M v42 (2 : Int32)).bind fun v44 =>
    (if a11 < v44 then
      (q_gR 11 0 M a0).bind fun v46 =>
      (q_lI M v46 (((1300 : Int32) + ((7 : Int32) * a11)) + (1 : Int32))).bind fun v48 =>
      (q_gR 11 0 M a0).bind fun v50 =>
      (q_lI M v50 ((1300 : Int32) + ((7 : Int32) * a11))).bind fun v52 =>
      (if v52 = a1 then
        (q_gR 11 3 M a0).bind fun v54 =>
        (q_lI M v54 a11).bind fun v56 =>
        (if v56 = (-1 : Int32) then
          f_X12_watered_b154 M a0 a1 a2 a6 n a7 a8 a9 a10 (a11 + (1 : Int32))
        else
          (q_dv v48 (7 : Int32)).bind fun v58 =>
          (if v58 = a2 then
            (q_gR 11 3 M a0).bind fun v60 =>
            (q_lI M v60 a11).bind fun v62 =>
            (if (a6 - (40 : Int32)) < v62 then
              f_X12_watered_b154 M a0 a1 a2 a6 n a7 (a8 + (1 : Int32)) a9 a10 (a11 + (1 : Int32))
            else
              (if a10 = 0 then
                (if a9 = (-1 : Int32) then
                  f_X12_watered_b265 (f_X12_watered_b154 M a0 a1 a2 a6 n) M a0 a1 a2 a6 (a7 + (1 : Int32)) (a8 + (1 : Int32)) a11 v48 (0 : Int32)
                else
                  (if a9 = v48 then
                    f_X12_watered_b265 (f_X12_watered_b154 M a0 a1 a2 a6 n) M a0 a1 a2 a6 (a7 + (1 : Int32)) (a8 + (1 : Int32)) a11 v48 (0 : Int32)
                  else
                    f_X12_watered_b265 (f_X12_watered_b154 M a0 a1 a2 a6 n) M a0 a1 a2 a6 (a7 + (1 : Int32)) (a8 + (1 : Int32)) a11 v48 (1 : Int32)))
              else
                f_X12_watered_b265 (f_X12_watered_b154 M a0 a1 a2 a6 n) M a0 a1 a2 a6 (a7 + (1 : Int32)) (a8 + (1 : Int32)) a11 v48 (1 : Int32)))
          else
            f_X12_watered_b154 M a0 a1 a2 a6 n a7 a8 a9 a10 (a11 + (1 : Int32))))
      else
        f_X12_watered_b154 M a0 a1 a2 a6 n a7 a8 a9 a10 (a11 + (1 : Int32)))
    else
      f_X12_watered_b277 M a7 a8 a10)
def f_X12_watered_b124 (M : q_Mem) (a0 : Nat) (a1 : Int32) (a2 : Int32) (a4 : Int32) (a5 : Int32) : Option (Int32 × q_Mem) :=
  (if a5 < (3 : Int32) then
    some ((0 : Int32), M)
  else
    (q_dv a4 a5).bind fun v39 =>
    f_X12_watered_b154 M a0 a1 a2 v39 q_fuel (0 : Int32) (0 : Int32) (-1 : Int32) (0 : Int32) (0 : Int32))
def f_X12_watered_b40 (M : q_Mem) (a0 : Nat) (a1 : Int32) (a2 : Int32) : Nat → Int32 → Int32 → Int32 → Option (Int32 × q_Mem)
  | 0, _, _, _ => none
  | n + 1, a4, a5, a6 =>
    (q_gR 11 0 M a0).bind fun v13 =>
    (q_lI M v13 (2 : Int32)).bind fun v15 =>
    (if a6 < v15 then
      (q_gR 11 0 M a0).bind fun v17 =>
      (q_lI M v17 ((1300 : Int32) + ((7 : Int32) * a6))).bind fun v19 =>
      (if v19 = a1 then
        (q_gR 11 3 M a0).bind fun v21 =>
        (q_lI M v21 a6).bind fun v23 =>
        (if v23 = (-1 : Int32) then
          f_X12_watered_b40 M a0 a1 a2 n a4 a5 (a6 + (1 : Int32))
        else
          (q_gR 11 0 M a0).bind fun v25 =>
          (q_lI M v25 (((1300 : Int32) + ((7 : Int32) * a6)) + (1 : Int32))).bind fun v27 =>
          (q_dv v27 (7 : Int32)).bind fun v29 =>
          (if v29 < a2 then
            (q_gR 11 3 M a0).bind fun v31 =>
            (q_lI M v31 a6).bind fun v33 =>
            f_X12_watered_b40 M a0 a1 a2 n (a4 + v33) (a5 + (1 : Int32)) (a6 + (1 : Int32))
          else
            f_X12_watered_b40 M a0 a1 a2 n a4 a5 (a6 + (1 : Int32))))
      else
        f_X12_watered_b40 M a0 a1 a2 n a4 a5 (a6 + (1 : Int32)))
    else
      f_X12_watered_b124 M a0 a1 a2 a4 a5)
def f_X12_watered (M : q_Mem) (a0 : Nat) (a1 : Int32) (a2 : Int32) (a3 : Int32) : Option (Int32 × q_Mem) :=
  q_ob 11 M a0 ((f_X12_is M a0 (0 : Int32) a1).bind fun v2 =>
  (if v2 = 0 then
    some ((-2 : Int32), M)
  else
    (f_X12_isWeek M a2).bind fun v4 =>
    (if v4 = 0 then
      some ((-2 : Int32), M)
    else
      (f_X12_isDay M a3).bind fun v6 =>
      (if v6 = 0 then
        some ((-2 : Int32), M)
      else
        (f_X12_findRates M a0 a3).bind fun M9 =>
        f_X12_watered_b40 M9 a0 a1 a2 q_fuel (0 : Int32) (0 : Int32) (0 : Int32)))))
set_option maxRecDepth 20000 in
theorem v_X12_watered_b277 {M : q_Mem} {a7 : Int32} {a8 : Int32} {a10 : Int32}  : q_V Y_X12_watered none (fun x : Int32 × q_Mem => (some (.int x.1), x.2)) 0 0 277 [(7, .int a7), (8, .int a8), (10, .int a10)] [] M (f_X12_watered_b277 M a7 a8 a10 ) := by
  unfold f_X12_watered_b277
  refine q_iload 0 dX12_watered_277 rfl ?_
  refine q_iconst (x := (2 : Int32)) dX12_watered_279 rfl ?_
  refine q_icmp_lt (tgt := 302) dX12_watered_280 (by decide) (fun c74 => ?_) (fun c74 => ?_)
  · refine q_iconst (x := (0 : Int32)) dX12_watered_302 rfl ?_
    exact q_iret dX12_watered_303 rfl rfl (Nat.le_of_ble_eq_true rfl) rfl
  · refine q_iload 2 dX12_watered_283 rfl ?_
    refine q_if_eq (tgt := 302) dX12_watered_285 (by decide) (fun c73 => ?_) (fun c73 => ?_)
    · refine q_iconst (x := (0 : Int32)) dX12_watered_302 rfl ?_
      exact q_iret dX12_watered_303 rfl rfl (Nat.le_of_ble_eq_true rfl) rfl
    · refine q_iconst (x := (2 : Int32)) dX12_watered_288 rfl ?_
      refine q_iload 0 dX12_watered_289 rfl ?_
      refine q_imul dX12_watered_291 ?_
      refine q_iload 1 dX12_watered_292 rfl ?_
      refine q_icmp_lt (tgt := 302) dX12_watered_294 (by decide) (fun c72 => ?_) (fun c72 => ?_)
      · refine q_iconst (x := (0 : Int32)) dX12_watered_302 rfl ?_
        exact q_iret dX12_watered_303 rfl rfl (Nat.le_of_ble_eq_true rfl) rfl
      · refine q_iload 0 dX12_watered_297 rfl ?_
        refine q_goto (tgt := 303) dX12_watered_299 (by decide) ?_
        exact q_iret dX12_watered_303 rfl rfl (Nat.le_of_ble_eq_true rfl) rfl
set_option maxRecDepth 20000 in
theorem v_X12_watered_b265 {kk154 : Int32 → Int32 → Int32 → Int32 → Int32 → Option (Int32 × q_Mem)} {M : q_Mem} {a0 : Nat} {a1 : Int32} {a2 : Int32} {a6 : Int32} {a7 : Int32} {a8 : Int32} {a11 : Int32} {a12 : Int32} {s0 : Int32}  (hk154 : ∀ (a7 : Int32) (a8 : Int32) (a9 : Int32) (a10 : Int32) (a11 : Int32), q_V Y_X12_watered none (fun x : Int32 × q_Mem => (some (.int x.1), x.2)) 0 0 154 [(0, .ref a0), (1, .int a1), (2, .int a2), (6, .int a6), (7, .int a7), (8, .int a8), (9, .int a9), (10, .int a10), (11, .int a11)] [] M (kk154 a7 a8 a9 a10 a11)): q_V Y_X12_watered none (fun x : Int32 × q_Mem => (some (.int x.1), x.2)) 0 0 265 [(0, .ref a0), (1, .int a1), (2, .int a2), (6, .int a6), (7, .int a7), (8, .int a8), (11, .int a11), (12, .int a12)] [.int s0] M (f_X12_watered_b265 kk154 M a0 a1 a2 a6 a7 a8 a11 a12 s0) := by
  unfold f_X12_watered_b265
  refine q_istore (ls' := [(10, .int s0), (0, .ref a0), (1, .int a1), (2, .int a2), (6, .int a6), (7, .int a7), (8, .int a8), (11, .int a11), (12, .int a12)]) dX12_watered_265 (by decide) rfl ?_
  refine q_iload 8 dX12_watered_267 rfl ?_
  refine q_istore (ls' := [(9, .int a12), (10, .int s0), (0, .ref a0), (1, .int a1), (2, .int a2), (6, .int a6), (7, .int a7), (8, .int a8), (11, .int a11), (12, .int a12)]) dX12_watered_269 (by decide) rfl ?_
  refine q_iinc 8 (y := (a11 + (1 : Int32))) (ls' := [(11, .int (a11 + (1 : Int32))), (9, .int a12), (10, .int s0), (0, .ref a0), (1, .int a1), (2, .int a2), (6, .int a6), (7, .int a7), (8, .int a8), (12, .int a12)]) dX12_watered_271 rfl rfl (by decide) rfl ?_
  refine q_goto (tgt := 154) dX12_watered_274 (by decide) ?_
  refine q_sub (ls' := [(0, .ref a0), (1, .int a1), (2, .int a2), (6, .int a6), (7, .int a7), (8, .int a8), (9, .int a12), (10, .int s0), (11, .int (a11 + (1 : Int32)))]) [3, 4, 5, 6, 7, 8, 1, 2, 0] rfl ?_
  exact hk154 _ _ _ _ _
set_option maxRecDepth 20000 in
theorem v_X12_watered_b154 {M : q_Mem} {a0 : Nat} {a1 : Int32} {a2 : Int32} {a6 : Int32}  : ∀ (n : Nat) (a7 : Int32) (a8 : Int32) (a9 : Int32) (a10 : Int32) (a11 : Int32), q_V Y_X12_watered none (fun x : Int32 × q_Mem => (some (.int x.1), x.2)) 0 0 154 [(0, .ref a0), (1, .int a1), (2, .int a2), (6, .int a6), (7, .int a7), (8, .int a8), (9, .int a9), (10, .int a10), (11, .int a11)] [] M (f_X12_watered_b154 M a0 a1 a2 a6 n a7 a8 a9 a10 a11) := by
  intro n
  induction n with
  | zero => intro a7 a8 a9 a10 a11; exact q_none
  | succ n ih =>
    intro a7 a8 a9 a10 a11
    rw [f_X12_watered_b154.eq_2]
    refine q_iload 8 dX12_watered_154 rfl ?_
    refine q_aload_n 0 dX12_watered_156 rfl ?_
    refine q_getR (f := 0) cl_X12 (by decide) qw_1117 rfl dX12_watered_157 (fun _ _ _ => rfl) (fun v42 h43 => ?_)
    refine q_iconst (x := (2 : Int32)) dX12_watered_160 rfl ?_
    refine q_iald dX12_watered_161 (fun v44 h45 => ?_)
    refine q_icmp_ge (tgt := 277) dX12_watered_162 (by decide) (fun c71 => ?_) (fun c71 => ?_)
    · refine q_aload_n 0 dX12_watered_165 rfl ?_
      refine q_getR (f := 0) cl_X12 (by decide) qw_1117 rfl dX12_watered_166 (fun _ _ _ => rfl) (fun v46 h47 => ?_)
      refine q_sipush (x := (1300 : Int32)) dX12_watered_169 rfl ?_
      refine q_bipush (x := (7 : Int32)) dX12_watered_172 rfl ?_
      refine q_iload 8 dX12_watered_174 rfl ?_
      refine q_imul dX12_watered_176 ?_
      refine q_iadd dX12_watered_177 ?_
      refine q_iconst (x := (1 : Int32)) dX12_watered_178 rfl ?_
      refine q_iadd dX12_watered_179 ?_
      refine q_iald dX12_watered_180 (fun v48 h49 => ?_)
      refine q_istore (ls' := [(12, .int v48), (0, .ref a0), (1, .int a1), (2, .int a2), (6, .int a6), (7, .int a7), (8, .int a8), (9, .int a9), (10, .int a10), (11, .int a11)]) dX12_watered_181 (by decide) rfl ?_
      refine q_aload_n 1 dX12_watered_183 rfl ?_
      refine q_getR (f := 0) cl_X12 (by decide) qw_1117 rfl dX12_watered_184 (fun _ _ _ => rfl) (fun v50 h51 => ?_)
      refine q_sipush (x := (1300 : Int32)) dX12_watered_187 rfl ?_
      refine q_bipush (x := (7 : Int32)) dX12_watered_190 rfl ?_
      refine q_iload 9 dX12_watered_192 rfl ?_
      refine q_imul dX12_watered_194 ?_
      refine q_iadd dX12_watered_195 ?_
      refine q_iald dX12_watered_196 (fun v52 h53 => ?_)
      refine q_iload_n 2 dX12_watered_197 rfl ?_
      refine q_icmp_ne (tgt := 271) dX12_watered_198 (by decide) (fun c70 => ?_) (fun c70 => ?_)
      · refine q_aload_n 1 dX12_watered_201 rfl ?_
        refine q_getR (f := 3) cl_X12 (by decide) qw_1120 rfl dX12_watered_202 (fun _ _ _ => rfl) (fun v54 h55 => ?_)
        refine q_iload 9 dX12_watered_205 rfl ?_
        refine q_iald dX12_watered_207 (fun v56 h57 => ?_)
        refine q_iconst (x := (-1 : Int32)) dX12_watered_208 rfl ?_
        refine q_icmp_eq (tgt := 271) dX12_watered_209 (by decide) (fun c69 => ?_) (fun c69 => ?_)
        · refine q_iinc 9 (y := (a11 + (1 : Int32))) (ls' := [(11, .int (a11 + (1 : Int32))), (12, .int v48), (0, .ref a0), (1, .int a1), (2, .int a2), (6, .int a6), (7, .int a7), (8, .int a8), (9, .int a9), (10, .int a10)]) dX12_watered_271 rfl rfl (by decide) rfl ?_
          refine q_goto (tgt := 154) dX12_watered_274 (by decide) ?_
          refine q_sub (ls' := [(0, .ref a0), (1, .int a1), (2, .int a2), (6, .int a6), (7, .int a7), (8, .int a8), (9, .int a9), (10, .int a10), (11, .int (a11 + (1 : Int32)))]) [2, 3, 4, 5, 6, 7, 8, 9, 0] rfl ?_
          exact ih _ _ _ _ _
        · refine q_iload 0 dX12_watered_212 rfl ?_
          refine q_bipush (x := (7 : Int32)) dX12_watered_214 rfl ?_
          refine q_idiv dX12_watered_216 (fun v58 h59 => ?_)
          refine q_iload_n 3 dX12_watered_217 rfl ?_
          refine q_icmp_ne (tgt := 271) dX12_watered_218 (by decide) (fun c68 => ?_) (fun c68 => ?_)
          · refine q_iinc 6 (y := (a8 + (1 : Int32))) (ls' := [(8, .int (a8 + (1 : Int32))), (12, .int v48), (0, .ref a0), (1, .int a1), (2, .int a2), (6, .int a6), (7, .int a7), (9, .int a9), (10, .int a10), (11, .int a11)]) dX12_watered_221 rfl rfl (by decide) rfl ?_
            refine q_aload_n 2 dX12_watered_224 rfl ?_
            refine q_getR (f := 3) cl_X12 (by decide) qw_1120 rfl dX12_watered_225 (fun _ _ _ => rfl) (fun v60 h61 => ?_)
            refine q_iload 9 dX12_watered_228 rfl ?_
            refine q_iald dX12_watered_230 (fun v62 h63 => ?_)
            refine q_iload 5 dX12_watered_231 rfl ?_
            refine q_bipush (x := (40 : Int32)) dX12_watered_233 rfl ?_
            refine q_isub dX12_watered_235 ?_
            refine q_icmp_gt (tgt := 271) dX12_watered_236 (by decide) (fun c67 => ?_) (fun c67 => ?_)
            · refine q_iinc 9 (y := (a11 + (1 : Int32))) (ls' := [(11, .int (a11 + (1 : Int32))), (8, .int (a8 + (1 : Int32))), (12, .int v48), (0, .ref a0), (1, .int a1), (2, .int a2), (6, .int a6), (7, .int a7), (9, .int a9), (10, .int a10)]) dX12_watered_271 rfl rfl (by decide) rfl ?_
              refine q_goto (tgt := 154) dX12_watered_274 (by decide) ?_
              refine q_sub (ls' := [(0, .ref a0), (1, .int a1), (2, .int a2), (6, .int a6), (7, .int a7), (8, .int (a8 + (1 : Int32))), (9, .int a9), (10, .int a10), (11, .int (a11 + (1 : Int32)))]) [3, 4, 5, 6, 7, 1, 8, 9, 0] rfl ?_
              exact ih _ _ _ _ _
            · refine q_iinc 6 (y := (a7 + (1 : Int32))) (ls' := [(7, .int (a7 + (1 : Int32))), (8, .int (a8 + (1 : Int32))), (12, .int v48), (0, .ref a0), (1, .int a1), (2, .int a2), (6, .int a6), (9, .int a9), (10, .int a10), (11, .int a11)]) dX12_watered_239 rfl rfl (by decide) rfl ?_
              refine q_iload 8 dX12_watered_242 rfl ?_
              refine q_if_ne (tgt := 260) dX12_watered_244 (by decide) (fun c66 => ?_) (fun c66 => ?_)
              · refine q_iload 7 dX12_watered_247 rfl ?_
                refine q_iconst (x := (-1 : Int32)) dX12_watered_249 rfl ?_
                refine q_icmp_eq (tgt := 264) dX12_watered_250 (by decide) (fun c65 => ?_) (fun c65 => ?_)
                · refine q_iconst (x := (0 : Int32)) dX12_watered_264 rfl ?_
                  refine q_sub (ls' := [(0, .ref a0), (1, .int a1), (2, .int a2), (6, .int a6), (7, .int (a7 + (1 : Int32))), (8, .int (a8 + (1 : Int32))), (11, .int a11), (12, .int v48)]) [3, 4, 5, 6, 0, 1, 9, 2] rfl ?_
                  exact v_X12_watered_b265 (ih)
                · refine q_iload 7 dX12_watered_253 rfl ?_
                  refine q_iload 2 dX12_watered_255 rfl ?_
                  refine q_icmp_eq (tgt := 264) dX12_watered_257 (by decide) (fun c64 => ?_) (fun c64 => ?_)
                  · refine q_iconst (x := (0 : Int32)) dX12_watered_264 rfl ?_
                    refine q_sub (ls' := [(0, .ref a0), (1, .int a1), (2, .int a2), (6, .int a6), (7, .int (a7 + (1 : Int32))), (8, .int (a8 + (1 : Int32))), (11, .int a11), (12, .int v48)]) [3, 4, 5, 6, 0, 1, 9, 2] rfl ?_
                    exact v_X12_watered_b265 (ih)
                  · refine q_iconst (x := (1 : Int32)) dX12_watered_260 rfl ?_
                    refine q_goto (tgt := 265) dX12_watered_261 (by decide) ?_
                    refine q_sub (ls' := [(0, .ref a0), (1, .int a1), (2, .int a2), (6, .int a6), (7, .int (a7 + (1 : Int32))), (8, .int (a8 + (1 : Int32))), (11, .int a11), (12, .int v48)]) [3, 4, 5, 6, 0, 1, 9, 2] rfl ?_
                    exact v_X12_watered_b265 (ih)
              · refine q_iconst (x := (1 : Int32)) dX12_watered_260 rfl ?_
                refine q_goto (tgt := 265) dX12_watered_261 (by decide) ?_
                refine q_sub (ls' := [(0, .ref a0), (1, .int a1), (2, .int a2), (6, .int a6), (7, .int (a7 + (1 : Int32))), (8, .int (a8 + (1 : Int32))), (11, .int a11), (12, .int v48)]) [3, 4, 5, 6, 0, 1, 9, 2] rfl ?_
                exact v_X12_watered_b265 (ih)
          · refine q_iinc 9 (y := (a11 + (1 : Int32))) (ls' := [(11, .int (a11 + (1 : Int32))), (12, .int v48), (0, .ref a0), (1, .int a1), (2, .int a2), (6, .int a6), (7, .int a7), (8, .int a8), (9, .int a9), (10, .int a10)]) dX12_watered_271 rfl rfl (by decide) rfl ?_
            refine q_goto (tgt := 154) dX12_watered_274 (by decide) ?_
            refine q_sub (ls' := [(0, .ref a0), (1, .int a1), (2, .int a2), (6, .int a6), (7, .int a7), (8, .int a8), (9, .int a9), (10, .int a10), (11, .int (a11 + (1 : Int32)))]) [2, 3, 4, 5, 6, 7, 8, 9, 0] rfl ?_
            exact ih _ _ _ _ _
      · refine q_iinc 9 (y := (a11 + (1 : Int32))) (ls' := [(11, .int (a11 + (1 : Int32))), (12, .int v48), (0, .ref a0), (1, .int a1), (2, .int a2), (6, .int a6), (7, .int a7), (8, .int a8), (9, .int a9), (10, .int a10)]) dX12_watered_271 rfl rfl (by decide) rfl ?_
        refine q_goto (tgt := 154) dX12_watered_274 (by decide) ?_
        refine q_sub (ls' := [(0, .ref a0), (1, .int a1), (2, .int a2), (6, .int a6), (7, .int a7), (8, .int a8), (9, .int a9), (10, .int a10), (11, .int (a11 + (1 : Int32)))]) [2, 3, 4, 5, 6, 7, 8, 9, 0] rfl ?_
        exact ih _ _ _ _ _
    · refine q_sub (ls' := [(7, .int a7), (8, .int a8), (10, .int a10)]) [4, 5, 7] rfl ?_
      exact v_X12_watered_b277
set_option maxRecDepth 20000 in
theorem v_X12_watered_b124 {M : q_Mem} {a0 : Nat} {a1 : Int32} {a2 : Int32} {a4 : Int32} {a5 : Int32}  : q_V Y_X12_watered none (fun x : Int32 × q_Mem => (some (.int x.1), x.2)) 0 0 124 [(0, .ref a0), (1, .int a1), (2, .int a2), (4, .int a4), (5, .int a5)] [] M (f_X12_watered_b124 M a0 a1 a2 a4 a5 ) := by
  unfold f_X12_watered_b124
  refine q_iload 4 dX12_watered_124 rfl ?_
  refine q_iconst (x := (3 : Int32)) dX12_watered_126 rfl ?_
  refine q_icmp_ge (tgt := 132) dX12_watered_127 (by decide) (fun c41 => ?_) (fun c41 => ?_)
  · refine q_iconst (x := (0 : Int32)) dX12_watered_130 rfl ?_
    exact q_iret dX12_watered_131 rfl rfl (Nat.le_of_ble_eq_true rfl) rfl
  · refine q_iload 3 dX12_watered_132 rfl ?_
    refine q_iload 4 dX12_watered_134 rfl ?_
    refine q_idiv dX12_watered_136 (fun v39 h40 => ?_)
    refine q_istore (ls' := [(6, .int v39), (0, .ref a0), (1, .int a1), (2, .int a2), (4, .int a4), (5, .int a5)]) dX12_watered_137 (by decide) rfl ?_
    refine q_iconst (x := (0 : Int32)) dX12_watered_139 rfl ?_
    refine q_istore (ls' := [(7, .int (0 : Int32)), (6, .int v39), (0, .ref a0), (1, .int a1), (2, .int a2), (4, .int a4), (5, .int a5)]) dX12_watered_140 (by decide) rfl ?_
    refine q_iconst (x := (0 : Int32)) dX12_watered_142 rfl ?_
    refine q_istore (ls' := [(8, .int (0 : Int32)), (7, .int (0 : Int32)), (6, .int v39), (0, .ref a0), (1, .int a1), (2, .int a2), (4, .int a4), (5, .int a5)]) dX12_watered_143 (by decide) rfl ?_
    refine q_iconst (x := (-1 : Int32)) dX12_watered_145 rfl ?_
    refine q_istore (ls' := [(9, .int (-1 : Int32)), (8, .int (0 : Int32)), (7, .int (0 : Int32)), (6, .int v39), (0, .ref a0), (1, .int a1), (2, .int a2), (4, .int a4), (5, .int a5)]) dX12_watered_146 (by decide) rfl ?_
    refine q_iconst (x := (0 : Int32)) dX12_watered_148 rfl ?_
    refine q_istore (ls' := [(10, .int (0 : Int32)), (9, .int (-1 : Int32)), (8, .int (0 : Int32)), (7, .int (0 : Int32)), (6, .int v39), (0, .ref a0), (1, .int a1), (2, .int a2), (4, .int a4), (5, .int a5)]) dX12_watered_149 (by decide) rfl ?_
    refine q_iconst (x := (0 : Int32)) dX12_watered_151 rfl ?_
    refine q_istore (ls' := [(11, .int (0 : Int32)), (10, .int (0 : Int32)), (9, .int (-1 : Int32)), (8, .int (0 : Int32)), (7, .int (0 : Int32)), (6, .int v39), (0, .ref a0), (1, .int a1), (2, .int a2), (4, .int a4), (5, .int a5)]) dX12_watered_152 (by decide) rfl ?_
    refine q_sub (ls' := [(0, .ref a0), (1, .int a1), (2, .int a2), (6, .int v39), (7, .int (0 : Int32)), (8, .int (0 : Int32)), (9, .int (-1 : Int32)), (10, .int (0 : Int32)), (11, .int (0 : Int32))]) [6, 7, 8, 5, 4, 3, 2, 1, 0] rfl ?_
    exact v_X12_watered_b154 _ _ _ _ _ _
set_option maxRecDepth 20000 in
theorem v_X12_watered_b40 {M : q_Mem} {a0 : Nat} {a1 : Int32} {a2 : Int32}  : ∀ (n : Nat) (a4 : Int32) (a5 : Int32) (a6 : Int32), q_V Y_X12_watered none (fun x : Int32 × q_Mem => (some (.int x.1), x.2)) 0 0 40 [(0, .ref a0), (1, .int a1), (2, .int a2), (4, .int a4), (5, .int a5), (6, .int a6)] [] M (f_X12_watered_b40 M a0 a1 a2 n a4 a5 a6) := by
  intro n
  induction n with
  | zero => intro a4 a5 a6; exact q_none
  | succ n ih =>
    intro a4 a5 a6
    rw [f_X12_watered_b40.eq_2]
    refine q_iload 5 dX12_watered_40 rfl ?_
    refine q_aload_n 0 dX12_watered_42 rfl ?_
    refine q_getR (f := 0) cl_X12 (by decide) qw_1117 rfl dX12_watered_43 (fun _ _ _ => rfl) (fun v13 h14 => ?_)
    refine q_iconst (x := (2 : Int32)) dX12_watered_46 rfl ?_
    refine q_iald dX12_watered_47 (fun v15 h16 => ?_)
    refine q_icmp_ge (tgt := 124) dX12_watered_48 (by decide) (fun c38 => ?_) (fun c38 => ?_)
    · refine q_aload_n 0 dX12_watered_51 rfl ?_
      refine q_getR (f := 0) cl_X12 (by decide) qw_1117 rfl dX12_watered_52 (fun _ _ _ => rfl) (fun v17 h18 => ?_)
      refine q_sipush (x := (1300 : Int32)) dX12_watered_55 rfl ?_
      refine q_bipush (x := (7 : Int32)) dX12_watered_58 rfl ?_
      refine q_iload 5 dX12_watered_60 rfl ?_
      refine q_imul dX12_watered_62 ?_
      refine q_iadd dX12_watered_63 ?_
      refine q_iald dX12_watered_64 (fun v19 h20 => ?_)
      refine q_iload_n 1 dX12_watered_65 rfl ?_
      refine q_icmp_ne (tgt := 118) dX12_watered_66 (by decide) (fun c37 => ?_) (fun c37 => ?_)
      · refine q_aload_n 0 dX12_watered_69 rfl ?_
        refine q_getR (f := 3) cl_X12 (by decide) qw_1120 rfl dX12_watered_70 (fun _ _ _ => rfl) (fun v21 h22 => ?_)
        refine q_iload 5 dX12_watered_73 rfl ?_
        refine q_iald dX12_watered_75 (fun v23 h24 => ?_)
        refine q_iconst (x := (-1 : Int32)) dX12_watered_76 rfl ?_
        refine q_icmp_eq (tgt := 118) dX12_watered_77 (by decide) (fun c36 => ?_) (fun c36 => ?_)
        · refine q_iinc 5 (y := (a6 + (1 : Int32))) (ls' := [(6, .int (a6 + (1 : Int32))), (0, .ref a0), (1, .int a1), (2, .int a2), (4, .int a4), (5, .int a5)]) dX12_watered_118 rfl rfl (by decide) rfl ?_
          refine q_goto (tgt := 40) dX12_watered_121 (by decide) ?_
          refine q_sub (ls' := [(0, .ref a0), (1, .int a1), (2, .int a2), (4, .int a4), (5, .int a5), (6, .int (a6 + (1 : Int32)))]) [1, 2, 3, 4, 5, 0] rfl ?_
          exact ih _ _ _
        · refine q_aload_n 0 dX12_watered_80 rfl ?_
          refine q_getR (f := 0) cl_X12 (by decide) qw_1117 rfl dX12_watered_81 (fun _ _ _ => rfl) (fun v25 h26 => ?_)
          refine q_sipush (x := (1300 : Int32)) dX12_watered_84 rfl ?_
          refine q_bipush (x := (7 : Int32)) dX12_watered_87 rfl ?_
          refine q_iload 5 dX12_watered_89 rfl ?_
          refine q_imul dX12_watered_91 ?_
          refine q_iadd dX12_watered_92 ?_
          refine q_iconst (x := (1 : Int32)) dX12_watered_93 rfl ?_
          refine q_iadd dX12_watered_94 ?_
          refine q_iald dX12_watered_95 (fun v27 h28 => ?_)
          refine q_bipush (x := (7 : Int32)) dX12_watered_96 rfl ?_
          refine q_idiv dX12_watered_98 (fun v29 h30 => ?_)
          refine q_iload_n 2 dX12_watered_99 rfl ?_
          refine q_icmp_ge (tgt := 118) dX12_watered_100 (by decide) (fun c35 => ?_) (fun c35 => ?_)
          · refine q_iload 3 dX12_watered_103 rfl ?_
            refine q_aload_n 0 dX12_watered_105 rfl ?_
            refine q_getR (f := 3) cl_X12 (by decide) qw_1120 rfl dX12_watered_106 (fun _ _ _ => rfl) (fun v31 h32 => ?_)
            refine q_iload 5 dX12_watered_109 rfl ?_
            refine q_iald dX12_watered_111 (fun v33 h34 => ?_)
            refine q_iadd dX12_watered_112 ?_
            refine q_istore (ls' := [(4, .int (a4 + v33)), (0, .ref a0), (1, .int a1), (2, .int a2), (5, .int a5), (6, .int a6)]) dX12_watered_113 (by decide) rfl ?_
            refine q_iinc 4 (y := (a5 + (1 : Int32))) (ls' := [(5, .int (a5 + (1 : Int32))), (4, .int (a4 + v33)), (0, .ref a0), (1, .int a1), (2, .int a2), (6, .int a6)]) dX12_watered_115 rfl rfl (by decide) rfl ?_
            refine q_iinc 5 (y := (a6 + (1 : Int32))) (ls' := [(6, .int (a6 + (1 : Int32))), (5, .int (a5 + (1 : Int32))), (4, .int (a4 + v33)), (0, .ref a0), (1, .int a1), (2, .int a2)]) dX12_watered_118 rfl rfl (by decide) rfl ?_
            refine q_goto (tgt := 40) dX12_watered_121 (by decide) ?_
            refine q_sub (ls' := [(0, .ref a0), (1, .int a1), (2, .int a2), (4, .int (a4 + v33)), (5, .int (a5 + (1 : Int32))), (6, .int (a6 + (1 : Int32)))]) [3, 4, 5, 2, 1, 0] rfl ?_
            exact ih _ _ _
          · refine q_iinc 5 (y := (a6 + (1 : Int32))) (ls' := [(6, .int (a6 + (1 : Int32))), (0, .ref a0), (1, .int a1), (2, .int a2), (4, .int a4), (5, .int a5)]) dX12_watered_118 rfl rfl (by decide) rfl ?_
            refine q_goto (tgt := 40) dX12_watered_121 (by decide) ?_
            refine q_sub (ls' := [(0, .ref a0), (1, .int a1), (2, .int a2), (4, .int a4), (5, .int a5), (6, .int (a6 + (1 : Int32)))]) [1, 2, 3, 4, 5, 0] rfl ?_
            exact ih _ _ _
      · refine q_iinc 5 (y := (a6 + (1 : Int32))) (ls' := [(6, .int (a6 + (1 : Int32))), (0, .ref a0), (1, .int a1), (2, .int a2), (4, .int a4), (5, .int a5)]) dX12_watered_118 rfl rfl (by decide) rfl ?_
        refine q_goto (tgt := 40) dX12_watered_121 (by decide) ?_
        refine q_sub (ls' := [(0, .ref a0), (1, .int a1), (2, .int a2), (4, .int a4), (5, .int a5), (6, .int (a6 + (1 : Int32)))]) [1, 2, 3, 4, 5, 0] rfl ?_
        exact ih _ _ _
    · refine q_sub (ls' := [(0, .ref a0), (1, .int a1), (2, .int a2), (4, .int a4), (5, .int a5)]) [0, 1, 2, 3, 4] rfl ?_
      exact v_X12_watered_b124
set_option maxRecDepth 20000 in
theorem m_X12_watered {M : q_Mem} {a0 : Nat} {a1 : Int32} {a2 : Int32} {a3 : Int32} {x : (Int32 × q_Mem)} (h : f_X12_watered M a0 a1 a2 a3 = some x) : q_C Y_X12_watered [.ref a0, .int a1, .int a2, .int a3] M (some (.int x.1)) x.2 := by
  refine q_met (φ := (fun x : Int32 × q_Mem => (some (.int x.1), x.2))) (r := f_X12_watered M a0 a1 a2 a3) (by decide +kernel) (Nat.le_of_ble_eq_true rfl) ?_ h (fun _ _ => rfl)
  show q_V Y_X12_watered none (fun x : Int32 × q_Mem => (some (.int x.1), x.2)) 0 0 0 [(0, .ref a0), (1, .int a1), (2, .int a2), (3, .int a3)] [] M (f_X12_watered M a0 a1 a2 a3)
  unfold f_X12_watered
  refine q_obV ?_
  refine q_aload_n 0 dX12_watered_0 rfl ?_
  refine q_iconst (x := (0 : Int32)) dX12_watered_1 rfl ?_
  refine q_iload_n 1 dX12_watered_2 rfl ?_
  refine q_cVI (Y2 := Y_X12_is) (As := [.int (0 : Int32), .int a1]) (b := a0) (st := []) cl_X12 mv_X12_is qw_1225 dX12_watered_3 ⟨Nat.le_of_ble_eq_true rfl, Nat.le_of_ble_eq_true rfl⟩ rfl (fun _ _ => rfl) (Nat.le_of_ble_eq_true rfl) ⟨Nat.le_of_ble_eq_true rfl, Nat.le_of_ble_eq_true rfl⟩ (fun v2 h1 => q_ob_is h1) (fun v2 h1 => m_X12_is h1) (fun v2 h1 => ?_)
  refine q_if_eq (tgt := 23) dX12_watered_6 (by decide) (fun c12 => ?_) (fun c12 => ?_)
  · refine q_bipush (x := (-2 : Int32)) dX12_watered_23 rfl ?_
    exact q_iret dX12_watered_25 rfl rfl (Nat.le_of_ble_eq_true rfl) rfl
  · refine q_iload_n 2 dX12_watered_9 rfl ?_
    refine q_cSI (Y2 := Y_X12_isWeek) (As := [.int a2]) (st := []) ms_X12_isWeek qw_1296 dX12_watered_10 ⟨Nat.le_of_ble_eq_true rfl, Nat.le_of_ble_eq_true rfl⟩ rfl (fun _ _ => rfl) (Nat.le_of_ble_eq_true rfl) ⟨Nat.le_of_ble_eq_true rfl, Nat.le_of_ble_eq_true rfl⟩ (fun v4 h3 => m_X12_isWeek h3) (fun v4 h3 => ?_)
    refine q_if_eq (tgt := 23) dX12_watered_13 (by decide) (fun c11 => ?_) (fun c11 => ?_)
    · refine q_bipush (x := (-2 : Int32)) dX12_watered_23 rfl ?_
      exact q_iret dX12_watered_25 rfl rfl (Nat.le_of_ble_eq_true rfl) rfl
    · refine q_iload_n 3 dX12_watered_16 rfl ?_
      refine q_cSI (Y2 := Y_X12_isDay) (As := [.int a3]) (st := []) ms_X12_isDay qw_1233 dX12_watered_17 ⟨Nat.le_of_ble_eq_true rfl, Nat.le_of_ble_eq_true rfl⟩ rfl (fun _ _ => rfl) (Nat.le_of_ble_eq_true rfl) ⟨Nat.le_of_ble_eq_true rfl, Nat.le_of_ble_eq_true rfl⟩ (fun v6 h5 => m_X12_isDay h5) (fun v6 h5 => ?_)
      refine q_if_ne (tgt := 26) dX12_watered_20 (by decide) (fun c10 => ?_) (fun c10 => ?_)
      · refine q_bipush (x := (-2 : Int32)) dX12_watered_23 rfl ?_
        exact q_iret dX12_watered_25 rfl rfl (Nat.le_of_ble_eq_true rfl) rfl
      · refine q_aload_n 0 dX12_watered_26 rfl ?_
        refine q_iload_n 3 dX12_watered_27 rfl ?_
        refine q_cVM (Y2 := Y_X12_findRates) (As := [.int a3]) (b := a0) (st := []) cl_X12 mv_X12_findRates qw_1280 dX12_watered_28 ⟨Nat.le_of_ble_eq_true rfl, Nat.le_of_ble_eq_true rfl⟩ rfl (fun _ _ => rfl) (Nat.le_of_ble_eq_true rfl) ⟨Nat.le_of_ble_eq_true rfl, Nat.le_of_ble_eq_true rfl⟩ (fun M9 h7 => q_ob_is h7) (fun M9 h7 => m_X12_findRates h7) (fun M9 h7 => ?_)
        refine q_iconst (x := (0 : Int32)) dX12_watered_31 rfl ?_
        refine q_istore (ls' := [(4, .int (0 : Int32)), (0, .ref a0), (1, .int a1), (2, .int a2), (3, .int a3)]) dX12_watered_32 (by decide) rfl ?_
        refine q_iconst (x := (0 : Int32)) dX12_watered_34 rfl ?_
        refine q_istore (ls' := [(5, .int (0 : Int32)), (4, .int (0 : Int32)), (0, .ref a0), (1, .int a1), (2, .int a2), (3, .int a3)]) dX12_watered_35 (by decide) rfl ?_
        refine q_iconst (x := (0 : Int32)) dX12_watered_37 rfl ?_
        refine q_istore (ls' := [(6, .int (0 : Int32)), (5, .int (0 : Int32)), (4, .int (0 : Int32)), (0, .ref a0), (1, .int a1), (2, .int a2), (3, .int a3)]) dX12_watered_38 (by decide) rfl ?_
        refine q_sub (ls' := [(0, .ref a0), (1, .int a1), (2, .int a2), (4, .int (0 : Int32)), (5, .int (0 : Int32)), (6, .int (0 : Int32))]) [3, 4, 5, 2, 1, 0] rfl ?_
        exact v_X12_watered_b40 _ _ _ _
theorem dX12_sour_0 : decode cX12_sour 0 = .ok (.iload_n 1, 1) := by decide +kernel
theorem dX12_sour_1 : decode cX12_sour 1 = .ok (.iconst 1, 1) := by decide +kernel
theorem dX12_sour_2 : decode cX12_sour 2 = .ok (.sipush 2000, 3) := by decide +kernel
theorem dX12_sour_5 : decode cX12_sour 5 = .ok (.invokestatic 78, 3) := by decide +kernel
theorem dX12_sour_8 : decode cX12_sour 8 = .ok (.ifCond .ne 6, 3) := by decide +kernel
theorem dX12_sour_11 : decode cX12_sour 11 = .ok (.bipush (-2), 2) := by decide +kernel
theorem dX12_sour_13 : decode cX12_sour 13 = .ok (.ireturn, 1) := by decide +kernel
theorem dX12_sour_14 : decode cX12_sour 14 = .ok (.aload_n 0, 1) := by decide +kernel
theorem dX12_sour_15 : decode cX12_sour 15 = .ok (.getfield 7, 3) := by decide +kernel
theorem dX12_sour_18 : decode cX12_sour 18 = .ok (.bipush 11, 2) := by decide +kernel
theorem dX12_sour_20 : decode cX12_sour 20 = .ok (.iaload, 1) := by decide +kernel
theorem dX12_sour_21 : decode cX12_sour 21 = .ok (.istore_n 2, 1) := by decide +kernel
theorem dX12_sour_22 : decode cX12_sour 22 = .ok (.aload_n 0, 1) := by decide +kernel
theorem dX12_sour_23 : decode cX12_sour 23 = .ok (.getfield 7, 3) := by decide +kernel
theorem dX12_sour_26 : decode cX12_sour 26 = .ok (.bipush 11, 2) := by decide +kernel
theorem dX12_sour_28 : decode cX12_sour 28 = .ok (.iload_n 1, 1) := by decide +kernel
theorem dX12_sour_29 : decode cX12_sour 29 = .ok (.iastore, 1) := by decide +kernel
theorem dX12_sour_30 : decode cX12_sour 30 = .ok (.iload_n 2, 1) := by decide +kernel
theorem dX12_sour_31 : decode cX12_sour 31 = .ok (.ireturn, 1) := by decide +kernel
def f_X12_sour (M : q_Mem) (a0 : Nat) (a1 : Int32) : Option (Int32 × q_Mem) :=
  q_ob 11 M a0 ((f_X12_in M a1 (1 : Int32) (2000 : Int32)).bind fun v2 =>
  (if v2 = 0 then
    some ((-2 : Int32), M)
  else
    (q_gR 11 0 M a0).bind fun v3 =>
    (q_lI M v3 (11 : Int32)).bind fun v5 =>
    (q_gR 11 0 M a0).bind fun v7 =>
    (q_tI M v7 (11 : Int32) a1).bind fun M9 =>
    some (v5, M9)))
set_option maxRecDepth 20000 in
theorem m_X12_sour {M : q_Mem} {a0 : Nat} {a1 : Int32} {x : (Int32 × q_Mem)} (h : f_X12_sour M a0 a1 = some x) : q_C Y_X12_sour [.ref a0, .int a1] M (some (.int x.1)) x.2 := by
  refine q_met (φ := (fun x : Int32 × q_Mem => (some (.int x.1), x.2))) (r := f_X12_sour M a0 a1) (by decide +kernel) (Nat.le_of_ble_eq_true rfl) ?_ h (fun _ _ => rfl)
  show q_V Y_X12_sour none (fun x : Int32 × q_Mem => (some (.int x.1), x.2)) 0 0 0 [(0, .ref a0), (1, .int a1)] [] M (f_X12_sour M a0 a1)
  unfold f_X12_sour
  refine q_obV ?_
  refine q_iload_n 1 dX12_sour_0 rfl ?_
  refine q_iconst (x := (1 : Int32)) dX12_sour_1 rfl ?_
  refine q_sipush (x := (2000 : Int32)) dX12_sour_2 rfl ?_
  refine q_cSI (Y2 := Y_X12_in) (As := [.int a1, .int (1 : Int32), .int (2000 : Int32)]) (st := []) ms_X12_in qw_1214 dX12_sour_5 ⟨Nat.le_of_ble_eq_true rfl, Nat.le_of_ble_eq_true rfl⟩ rfl (fun _ _ => rfl) (Nat.le_of_ble_eq_true rfl) ⟨Nat.le_of_ble_eq_true rfl, Nat.le_of_ble_eq_true rfl⟩ (fun v2 h1 => m_X12_in h1) (fun v2 h1 => ?_)
  refine q_if_ne (tgt := 14) dX12_sour_8 (by decide) (fun c11 => ?_) (fun c11 => ?_)
  · refine q_bipush (x := (-2 : Int32)) dX12_sour_11 rfl ?_
    exact q_iret dX12_sour_13 rfl rfl (Nat.le_of_ble_eq_true rfl) rfl
  · refine q_aload_n 0 dX12_sour_14 rfl ?_
    refine q_getR (f := 0) cl_X12 (by decide) qw_1117 rfl dX12_sour_15 (fun _ _ _ => rfl) (fun v3 h4 => ?_)
    refine q_bipush (x := (11 : Int32)) dX12_sour_18 rfl ?_
    refine q_iald dX12_sour_20 (fun v5 h6 => ?_)
    refine q_istore_n (ls' := [(2, .int v5), (0, .ref a0), (1, .int a1)]) dX12_sour_21 (by decide) rfl ?_
    refine q_aload_n 1 dX12_sour_22 rfl ?_
    refine q_getR (f := 0) cl_X12 (by decide) qw_1117 rfl dX12_sour_23 (fun _ _ _ => rfl) (fun v7 h8 => ?_)
    refine q_bipush (x := (11 : Int32)) dX12_sour_26 rfl ?_
    refine q_iload_n 2 dX12_sour_28 rfl ?_
    refine q_iast dX12_sour_29 (fun M9 h10 => ?_)
    refine q_iload_n 0 dX12_sour_30 rfl ?_
    exact q_iret dX12_sour_31 rfl rfl (Nat.le_of_ble_eq_true rfl) rfl
theorem dX12_miles_0 : decode cX12_miles 0 = .ok (.iload_n 0, 1) := by decide +kernel
theorem dX12_miles_1 : decode cX12_miles 1 = .ok (.iload_n 2, 1) := by decide +kernel
theorem dX12_miles_2 : decode cX12_miles 2 = .ok (.isub, 1) := by decide +kernel
theorem dX12_miles_3 : decode cX12_miles 3 = .ok (.invokestatic 129, 3) := by decide +kernel
theorem dX12_miles_6 : decode cX12_miles 6 = .ok (.iload_n 1, 1) := by decide +kernel
theorem dX12_miles_7 : decode cX12_miles 7 = .ok (.iload_n 3, 1) := by decide +kernel
theorem dX12_miles_8 : decode cX12_miles 8 = .ok (.isub, 1) := by decide +kernel
theorem dX12_miles_9 : decode cX12_miles 9 = .ok (.invokestatic 129, 3) := by decide +kernel
theorem dX12_miles_12 : decode cX12_miles 12 = .ok (.iadd, 1) := by decide +kernel
theorem dX12_miles_13 : decode cX12_miles 13 = .ok (.ireturn, 1) := by decide +kernel
def f_X12_miles (M : q_Mem) (a0 : Int32) (a1 : Int32) (a2 : Int32) (a3 : Int32) : Option Int32 :=
  (f_X12_size M (a0 - a2)).bind fun v2 =>
  (f_X12_size M (a1 - a3)).bind fun v4 =>
  some (v2 + v4)
set_option maxRecDepth 20000 in
theorem m_X12_miles {M : q_Mem} {a0 : Int32} {a1 : Int32} {a2 : Int32} {a3 : Int32} {x : Int32} (h : f_X12_miles M a0 a1 a2 a3 = some x) : q_C Y_X12_miles [.int a0, .int a1, .int a2, .int a3] M (some (.int x)) M := by
  refine q_met (φ := (fun x : Int32 => (some (.int x), M))) (r := f_X12_miles M a0 a1 a2 a3) (by decide +kernel) (Nat.le_of_ble_eq_true rfl) ?_ h (fun _ _ => rfl)
  show q_V Y_X12_miles none (fun x : Int32 => (some (.int x), M)) 0 0 0 [(0, .int a0), (1, .int a1), (2, .int a2), (3, .int a3)] [] M (f_X12_miles M a0 a1 a2 a3)
  unfold f_X12_miles
  refine q_iload_n 0 dX12_miles_0 rfl ?_
  refine q_iload_n 2 dX12_miles_1 rfl ?_
  refine q_isub dX12_miles_2 ?_
  refine q_cSI (Y2 := Y_X12_size) (As := [.int (a0 - a2)]) (st := []) ms_X12_size qw_1324 dX12_miles_3 ⟨Nat.le_of_ble_eq_true rfl, Nat.le_of_ble_eq_true rfl⟩ rfl (fun _ _ => rfl) (Nat.le_of_ble_eq_true rfl) ⟨Nat.le_of_ble_eq_true rfl, Nat.le_of_ble_eq_true rfl⟩ (fun v2 h1 => m_X12_size h1) (fun v2 h1 => ?_)
  refine q_iload_n 1 dX12_miles_6 rfl ?_
  refine q_iload_n 3 dX12_miles_7 rfl ?_
  refine q_isub dX12_miles_8 ?_
  refine q_cSI (Y2 := Y_X12_size) (As := [.int (a1 - a3)]) (st := [.int v2]) ms_X12_size qw_1324 dX12_miles_9 ⟨Nat.le_of_ble_eq_true rfl, Nat.le_of_ble_eq_true rfl⟩ rfl (fun _ _ => rfl) (Nat.le_of_ble_eq_true rfl) ⟨Nat.le_of_ble_eq_true rfl, Nat.le_of_ble_eq_true rfl⟩ (fun v4 h3 => m_X12_size h3) (fun v4 h3 => ?_)
  refine q_iadd dX12_miles_12 ?_
  exact q_iret dX12_miles_13 rfl rfl (Nat.le_of_ble_eq_true rfl) rfl
theorem dX12_farmMiles_0 : decode cX12_farmMiles 0 = .ok (.aload_n 0, 1) := by decide +kernel
theorem dX12_farmMiles_1 : decode cX12_farmMiles 1 = .ok (.getfield 7, 3) := by decide +kernel
theorem dX12_farmMiles_4 : decode cX12_farmMiles 4 = .ok (.bipush 20, 2) := by decide +kernel
theorem dX12_farmMiles_6 : decode cX12_farmMiles 6 = .ok (.iconst 4, 1) := by decide +kernel
theorem dX12_farmMiles_7 : decode cX12_farmMiles 7 = .ok (.iload_n 1, 1) := by decide +kernel
theorem dX12_farmMiles_8 : decode cX12_farmMiles 8 = .ok (.imul, 1) := by decide +kernel
theorem dX12_farmMiles_9 : decode cX12_farmMiles 9 = .ok (.iadd, 1) := by decide +kernel
theorem dX12_farmMiles_10 : decode cX12_farmMiles 10 = .ok (.iaload, 1) := by decide +kernel
theorem dX12_farmMiles_11 : decode cX12_farmMiles 11 = .ok (.aload_n 0, 1) := by decide +kernel
theorem dX12_farmMiles_12 : decode cX12_farmMiles 12 = .ok (.getfield 7, 3) := by decide +kernel
theorem dX12_farmMiles_15 : decode cX12_farmMiles 15 = .ok (.bipush 20, 2) := by decide +kernel
theorem dX12_farmMiles_17 : decode cX12_farmMiles 17 = .ok (.iconst 4, 1) := by decide +kernel
theorem dX12_farmMiles_18 : decode cX12_farmMiles 18 = .ok (.iload_n 1, 1) := by decide +kernel
theorem dX12_farmMiles_19 : decode cX12_farmMiles 19 = .ok (.imul, 1) := by decide +kernel
theorem dX12_farmMiles_20 : decode cX12_farmMiles 20 = .ok (.iadd, 1) := by decide +kernel
theorem dX12_farmMiles_21 : decode cX12_farmMiles 21 = .ok (.iconst 1, 1) := by decide +kernel
theorem dX12_farmMiles_22 : decode cX12_farmMiles 22 = .ok (.iadd, 1) := by decide +kernel
theorem dX12_farmMiles_23 : decode cX12_farmMiles 23 = .ok (.iaload, 1) := by decide +kernel
theorem dX12_farmMiles_24 : decode cX12_farmMiles 24 = .ok (.iload_n 2, 1) := by decide +kernel
theorem dX12_farmMiles_25 : decode cX12_farmMiles 25 = .ok (.iload_n 3, 1) := by decide +kernel
theorem dX12_farmMiles_26 : decode cX12_farmMiles 26 = .ok (.invokestatic 273, 3) := by decide +kernel
theorem dX12_farmMiles_29 : decode cX12_farmMiles 29 = .ok (.ireturn, 1) := by decide +kernel
def f_X12_farmMiles (M : q_Mem) (a0 : Nat) (a1 : Int32) (a2 : Int32) (a3 : Int32) : Option Int32 :=
  q_ob 11 M a0 ((q_gR 11 0 M a0).bind fun v1 =>
  (q_lI M v1 ((20 : Int32) + ((4 : Int32) * a1))).bind fun v3 =>
  (q_gR 11 0 M a0).bind fun v5 =>
  (q_lI M v5 (((20 : Int32) + ((4 : Int32) * a1)) + (1 : Int32))).bind fun v7 =>
  (f_X12_miles M v3 v7 a2 a3).bind fun v10 =>
  some v10)
set_option maxRecDepth 20000 in
theorem m_X12_farmMiles {M : q_Mem} {a0 : Nat} {a1 : Int32} {a2 : Int32} {a3 : Int32} {x : Int32} (h : f_X12_farmMiles M a0 a1 a2 a3 = some x) : q_C Y_X12_farmMiles [.ref a0, .int a1, .int a2, .int a3] M (some (.int x)) M := by
  refine q_met (φ := (fun x : Int32 => (some (.int x), M))) (r := f_X12_farmMiles M a0 a1 a2 a3) (by decide +kernel) (Nat.le_of_ble_eq_true rfl) ?_ h (fun _ _ => rfl)
  show q_V Y_X12_farmMiles none (fun x : Int32 => (some (.int x), M)) 0 0 0 [(0, .ref a0), (1, .int a1), (2, .int a2), (3, .int a3)] [] M (f_X12_farmMiles M a0 a1 a2 a3)
  unfold f_X12_farmMiles
  refine q_obV ?_
  refine q_aload_n 0 dX12_farmMiles_0 rfl ?_
  refine q_getR (f := 0) cl_X12 (by decide) qw_1117 rfl dX12_farmMiles_1 (fun _ _ _ => rfl) (fun v1 h2 => ?_)
  refine q_bipush (x := (20 : Int32)) dX12_farmMiles_4 rfl ?_
  refine q_iconst (x := (4 : Int32)) dX12_farmMiles_6 rfl ?_
  refine q_iload_n 1 dX12_farmMiles_7 rfl ?_
  refine q_imul dX12_farmMiles_8 ?_
  refine q_iadd dX12_farmMiles_9 ?_
  refine q_iald dX12_farmMiles_10 (fun v3 h4 => ?_)
  refine q_aload_n 0 dX12_farmMiles_11 rfl ?_
  refine q_getR (f := 0) cl_X12 (by decide) qw_1117 rfl dX12_farmMiles_12 (fun _ _ _ => rfl) (fun v5 h6 => ?_)
  refine q_bipush (x := (20 : Int32)) dX12_farmMiles_15 rfl ?_
  refine q_iconst (x := (4 : Int32)) dX12_farmMiles_17 rfl ?_
  refine q_iload_n 1 dX12_farmMiles_18 rfl ?_
  refine q_imul dX12_farmMiles_19 ?_
  refine q_iadd dX12_farmMiles_20 ?_
  refine q_iconst (x := (1 : Int32)) dX12_farmMiles_21 rfl ?_
  refine q_iadd dX12_farmMiles_22 ?_
  refine q_iald dX12_farmMiles_23 (fun v7 h8 => ?_)
  refine q_iload_n 2 dX12_farmMiles_24 rfl ?_
  refine q_iload_n 3 dX12_farmMiles_25 rfl ?_
  refine q_cSI (Y2 := Y_X12_miles) (As := [.int v3, .int v7, .int a2, .int a3]) (st := []) ms_X12_miles qw_1567 dX12_farmMiles_26 ⟨Nat.le_of_ble_eq_true rfl, Nat.le_of_ble_eq_true rfl⟩ rfl (fun _ _ => rfl) (Nat.le_of_ble_eq_true rfl) ⟨Nat.le_of_ble_eq_true rfl, Nat.le_of_ble_eq_true rfl⟩ (fun v10 h9 => m_X12_miles h9) (fun v10 h9 => ?_)
  exact q_iret dX12_farmMiles_29 rfl rfl (Nat.le_of_ble_eq_true rfl) rfl
theorem dX12_milesBack_0 : decode cX12_milesBack 0 = .ok (.aload_n 0, 1) := by decide +kernel
theorem dX12_milesBack_1 : decode cX12_milesBack 1 = .ok (.aload_n 0, 1) := by decide +kernel
theorem dX12_milesBack_2 : decode cX12_milesBack 2 = .ok (.getfield 57, 3) := by decide +kernel
theorem dX12_milesBack_5 : decode cX12_milesBack 5 = .ok (.aload_n 0, 1) := by decide +kernel
theorem dX12_milesBack_6 : decode cX12_milesBack 6 = .ok (.getfield 277, 3) := by decide +kernel
theorem dX12_milesBack_9 : decode cX12_milesBack 9 = .ok (.iconst 1, 1) := by decide +kernel
theorem dX12_milesBack_10 : decode cX12_milesBack 10 = .ok (.isub, 1) := by decide +kernel
theorem dX12_milesBack_11 : decode cX12_milesBack 11 = .ok (.iaload, 1) := by decide +kernel
theorem dX12_milesBack_12 : decode cX12_milesBack 12 = .ok (.bipush 100, 2) := by decide +kernel
theorem dX12_milesBack_14 : decode cX12_milesBack 14 = .ok (.bipush 100, 2) := by decide +kernel
theorem dX12_milesBack_16 : decode cX12_milesBack 16 = .ok (.invokevirtual 280, 3) := by decide +kernel
theorem dX12_milesBack_19 : decode cX12_milesBack 19 = .ok (.istore_n 1, 1) := by decide +kernel
theorem dX12_milesBack_20 : decode cX12_milesBack 20 = .ok (.iconst 1, 1) := by decide +kernel
theorem dX12_milesBack_21 : decode cX12_milesBack 21 = .ok (.istore_n 2, 1) := by decide +kernel
theorem dX12_milesBack_22 : decode cX12_milesBack 22 = .ok (.iload_n 2, 1) := by decide +kernel
theorem dX12_milesBack_23 : decode cX12_milesBack 23 = .ok (.aload_n 0, 1) := by decide +kernel
theorem dX12_milesBack_24 : decode cX12_milesBack 24 = .ok (.getfield 277, 3) := by decide +kernel
theorem dX12_milesBack_27 : decode cX12_milesBack 27 = .ok (.if_icmp .ge 60, 3) := by decide +kernel
theorem dX12_milesBack_30 : decode cX12_milesBack 30 = .ok (.iload_n 1, 1) := by decide +kernel
theorem dX12_milesBack_31 : decode cX12_milesBack 31 = .ok (.aload_n 0, 1) := by decide +kernel
theorem dX12_milesBack_32 : decode cX12_milesBack 32 = .ok (.aload_n 0, 1) := by decide +kernel
theorem dX12_milesBack_33 : decode cX12_milesBack 33 = .ok (.getfield 57, 3) := by decide +kernel
theorem dX12_milesBack_36 : decode cX12_milesBack 36 = .ok (.iload_n 2, 1) := by decide +kernel
theorem dX12_milesBack_37 : decode cX12_milesBack 37 = .ok (.iaload, 1) := by decide +kernel
theorem dX12_milesBack_38 : decode cX12_milesBack 38 = .ok (.aload_n 0, 1) := by decide +kernel
theorem dX12_milesBack_39 : decode cX12_milesBack 39 = .ok (.getfield 7, 3) := by decide +kernel
theorem dX12_milesBack_42 : decode cX12_milesBack 42 = .ok (.bipush 20, 2) := by decide +kernel
theorem dX12_milesBack_44 : decode cX12_milesBack 44 = .ok (.iconst 4, 1) := by decide +kernel
theorem dX12_milesBack_45 : decode cX12_milesBack 45 = .ok (.aload_n 0, 1) := by decide +kernel
theorem dX12_milesBack_46 : decode cX12_milesBack 46 = .ok (.getfield 57, 3) := by decide +kernel
theorem dX12_milesBack_49 : decode cX12_milesBack 49 = .ok (.iload_n 2, 1) := by decide +kernel
theorem dX12_milesBack_50 : decode cX12_milesBack 50 = .ok (.iconst 1, 1) := by decide +kernel
theorem dX12_milesBack_51 : decode cX12_milesBack 51 = .ok (.isub, 1) := by decide +kernel
theorem dX12_milesBack_52 : decode cX12_milesBack 52 = .ok (.iaload, 1) := by decide +kernel
theorem dX12_milesBack_53 : decode cX12_milesBack 53 = .ok (.imul, 1) := by decide +kernel
theorem dX12_milesBack_54 : decode cX12_milesBack 54 = .ok (.iadd, 1) := by decide +kernel
theorem dX12_milesBack_55 : decode cX12_milesBack 55 = .ok (.iaload, 1) := by decide +kernel
theorem dX12_milesBack_56 : decode cX12_milesBack 56 = .ok (.aload_n 0, 1) := by decide +kernel
theorem dX12_milesBack_57 : decode cX12_milesBack 57 = .ok (.getfield 7, 3) := by decide +kernel
theorem dX12_milesBack_60 : decode cX12_milesBack 60 = .ok (.bipush 20, 2) := by decide +kernel
theorem dX12_milesBack_62 : decode cX12_milesBack 62 = .ok (.iconst 4, 1) := by decide +kernel
theorem dX12_milesBack_63 : decode cX12_milesBack 63 = .ok (.aload_n 0, 1) := by decide +kernel
theorem dX12_milesBack_64 : decode cX12_milesBack 64 = .ok (.getfield 57, 3) := by decide +kernel
theorem dX12_milesBack_67 : decode cX12_milesBack 67 = .ok (.iload_n 2, 1) := by decide +kernel
theorem dX12_milesBack_68 : decode cX12_milesBack 68 = .ok (.iconst 1, 1) := by decide +kernel
theorem dX12_milesBack_69 : decode cX12_milesBack 69 = .ok (.isub, 1) := by decide +kernel
theorem dX12_milesBack_70 : decode cX12_milesBack 70 = .ok (.iaload, 1) := by decide +kernel
theorem dX12_milesBack_71 : decode cX12_milesBack 71 = .ok (.imul, 1) := by decide +kernel
theorem dX12_milesBack_72 : decode cX12_milesBack 72 = .ok (.iadd, 1) := by decide +kernel
theorem dX12_milesBack_73 : decode cX12_milesBack 73 = .ok (.iconst 1, 1) := by decide +kernel
theorem dX12_milesBack_74 : decode cX12_milesBack 74 = .ok (.iadd, 1) := by decide +kernel
theorem dX12_milesBack_75 : decode cX12_milesBack 75 = .ok (.iaload, 1) := by decide +kernel
theorem dX12_milesBack_76 : decode cX12_milesBack 76 = .ok (.invokevirtual 280, 3) := by decide +kernel
theorem dX12_milesBack_79 : decode cX12_milesBack 79 = .ok (.iadd, 1) := by decide +kernel
theorem dX12_milesBack_80 : decode cX12_milesBack 80 = .ok (.istore_n 1, 1) := by decide +kernel
theorem dX12_milesBack_81 : decode cX12_milesBack 81 = .ok (.iinc 2 1, 3) := by decide +kernel
theorem dX12_milesBack_84 : decode cX12_milesBack 84 = .ok (.goto (-62), 3) := by decide +kernel
theorem dX12_milesBack_87 : decode cX12_milesBack 87 = .ok (.iload_n 1, 1) := by decide +kernel
theorem dX12_milesBack_88 : decode cX12_milesBack 88 = .ok (.ireturn, 1) := by decide +kernel
def f_X12_milesBack_b22 (M : q_Mem) (a0 : Nat) : Nat → Int32 → Int32 → Option Int32
  | 0, _, _ => none
  | n + 1, a1, a2 =>
    (q_gI 11 20 M a0).bind fun v9 =>
    (if a2 < v9 then
      (q_gR 11 21 M a0).bind fun v11 =>
      (q_lI M v11 a2).bind fun v13 =>
      (q_gR 11 0 M a0).bind fun v15 =>
      (q_gR 11 21 M a0).bind fun v17 =>
      (q_lI M v17 (a2 - (1 : Int32))).bind fun v19 =>
      (q_lI M v15 ((20 : Int32) + ((4 : Int32) * v19))).bind fun v21 =>
      (q_gR 11 0 M a0).bind fun v23 =>
      (q_gR 11 21 M a0).bind fun v25 =>
      (q_lI M v25 (a2 - (1 : Int32))).bind fun v27 =>
      (q_lI M v23 (((20 : Int32) + ((4 : Int32) * v27)) + (1 : Int32))).bind fun v29 =>
      (f_X12_farmMiles M a0 v13 v21 v29).bind fun v32 =>
      f_X12_milesBack_b22 M a0 n (a1 + v32) (a2 + (1 : Int32))
    else
      some a1)
def f_X12_milesBack (M : q_Mem) (a0 : Nat) : Option Int32 :=
  q_ob 11 M a0 ((q_gR 11 21 M a0).bind fun v1 =>
  (q_gI 11 20 M a0).bind fun v3 =>
  (q_lI M v1 (v3 - (1 : Int32))).bind fun v5 =>
  (f_X12_farmMiles M a0 v5 (100 : Int32) (100 : Int32)).bind fun v8 =>
  f_X12_milesBack_b22 M a0 q_fuel v8 (1 : Int32))
set_option maxRecDepth 20000 in
theorem v_X12_milesBack_b22 {M : q_Mem} {a0 : Nat}  : ∀ (n : Nat) (a1 : Int32) (a2 : Int32), q_V Y_X12_milesBack none (fun x : Int32 => (some (.int x), M)) 0 0 22 [(0, .ref a0), (1, .int a1), (2, .int a2)] [] M (f_X12_milesBack_b22 M a0 n a1 a2) := by
  intro n
  induction n with
  | zero => intro a1 a2; exact q_none
  | succ n ih =>
    intro a1 a2
    rw [f_X12_milesBack_b22.eq_2]
    refine q_iload_n 2 dX12_milesBack_22 rfl ?_
    refine q_aload_n 0 dX12_milesBack_23 rfl ?_
    refine q_getI (f := 20) cl_X12 (by decide) qw_1136 rfl dX12_milesBack_24 (Or.inl rfl) (fun v9 h10 => ?_)
    refine q_icmp_ge (tgt := 87) dX12_milesBack_27 (by decide) (fun c33 => ?_) (fun c33 => ?_)
    · refine q_iload_n 1 dX12_milesBack_30 rfl ?_
      refine q_aload_n 0 dX12_milesBack_31 rfl ?_
      refine q_aload_n 0 dX12_milesBack_32 rfl ?_
      refine q_getR (f := 21) cl_X12 (by decide) qw_1137 rfl dX12_milesBack_33 (fun _ _ _ => rfl) (fun v11 h12 => ?_)
      refine q_iload_n 2 dX12_milesBack_36 rfl ?_
      refine q_iald dX12_milesBack_37 (fun v13 h14 => ?_)
      refine q_aload_n 0 dX12_milesBack_38 rfl ?_
      refine q_getR (f := 0) cl_X12 (by decide) qw_1117 rfl dX12_milesBack_39 (fun _ _ _ => rfl) (fun v15 h16 => ?_)
      refine q_bipush (x := (20 : Int32)) dX12_milesBack_42 rfl ?_
      refine q_iconst (x := (4 : Int32)) dX12_milesBack_44 rfl ?_
      refine q_aload_n 0 dX12_milesBack_45 rfl ?_
      refine q_getR (f := 21) cl_X12 (by decide) qw_1137 rfl dX12_milesBack_46 (fun _ _ _ => rfl) (fun v17 h18 => ?_)
      refine q_iload_n 2 dX12_milesBack_49 rfl ?_
      refine q_iconst (x := (1 : Int32)) dX12_milesBack_50 rfl ?_
      refine q_isub dX12_milesBack_51 ?_
      refine q_iald dX12_milesBack_52 (fun v19 h20 => ?_)
      refine q_imul dX12_milesBack_53 ?_
      refine q_iadd dX12_milesBack_54 ?_
      refine q_iald dX12_milesBack_55 (fun v21 h22 => ?_)
      refine q_aload_n 0 dX12_milesBack_56 rfl ?_
      refine q_getR (f := 0) cl_X12 (by decide) qw_1117 rfl dX12_milesBack_57 (fun _ _ _ => rfl) (fun v23 h24 => ?_)
      refine q_bipush (x := (20 : Int32)) dX12_milesBack_60 rfl ?_
      refine q_iconst (x := (4 : Int32)) dX12_milesBack_62 rfl ?_
      refine q_aload_n 0 dX12_milesBack_63 rfl ?_
      refine q_getR (f := 21) cl_X12 (by decide) qw_1137 rfl dX12_milesBack_64 (fun _ _ _ => rfl) (fun v25 h26 => ?_)
      refine q_iload_n 2 dX12_milesBack_67 rfl ?_
      refine q_iconst (x := (1 : Int32)) dX12_milesBack_68 rfl ?_
      refine q_isub dX12_milesBack_69 ?_
      refine q_iald dX12_milesBack_70 (fun v27 h28 => ?_)
      refine q_imul dX12_milesBack_71 ?_
      refine q_iadd dX12_milesBack_72 ?_
      refine q_iconst (x := (1 : Int32)) dX12_milesBack_73 rfl ?_
      refine q_iadd dX12_milesBack_74 ?_
      refine q_iald dX12_milesBack_75 (fun v29 h30 => ?_)
      refine q_cVI (Y2 := Y_X12_farmMiles) (As := [.int v13, .int v21, .int v29]) (b := a0) (st := [.int a1]) cl_X12 mv_X12_farmMiles qw_1563 dX12_milesBack_76 ⟨Nat.le_of_ble_eq_true rfl, Nat.le_of_ble_eq_true rfl⟩ rfl (fun _ _ => rfl) (Nat.le_of_ble_eq_true rfl) ⟨Nat.le_of_ble_eq_true rfl, Nat.le_of_ble_eq_true rfl⟩ (fun v32 h31 => q_ob_is h31) (fun v32 h31 => m_X12_farmMiles h31) (fun v32 h31 => ?_)
      refine q_iadd dX12_milesBack_79 ?_
      refine q_istore_n (ls' := [(1, .int (a1 + v32)), (0, .ref a0), (2, .int a2)]) dX12_milesBack_80 (by decide) rfl ?_
      refine q_iinc 2 (y := (a2 + (1 : Int32))) (ls' := [(2, .int (a2 + (1 : Int32))), (1, .int (a1 + v32)), (0, .ref a0)]) dX12_milesBack_81 rfl rfl (by decide) rfl ?_
      refine q_goto (tgt := 22) dX12_milesBack_84 (by decide) ?_
      refine q_sub (ls' := [(0, .ref a0), (1, .int (a1 + v32)), (2, .int (a2 + (1 : Int32)))]) [2, 1, 0] rfl ?_
      exact ih _ _
    · refine q_iload_n 1 dX12_milesBack_87 rfl ?_
      exact q_iret dX12_milesBack_88 rfl rfl (Nat.le_of_ble_eq_true rfl) rfl
set_option maxRecDepth 20000 in
theorem m_X12_milesBack {M : q_Mem} {a0 : Nat} {x : Int32} (h : f_X12_milesBack M a0 = some x) : q_C Y_X12_milesBack [.ref a0] M (some (.int x)) M := by
  refine q_met (φ := (fun x : Int32 => (some (.int x), M))) (r := f_X12_milesBack M a0) (by decide +kernel) (Nat.le_of_ble_eq_true rfl) ?_ h (fun _ _ => rfl)
  show q_V Y_X12_milesBack none (fun x : Int32 => (some (.int x), M)) 0 0 0 [(0, .ref a0)] [] M (f_X12_milesBack M a0)
  unfold f_X12_milesBack
  refine q_obV ?_
  refine q_aload_n 0 dX12_milesBack_0 rfl ?_
  refine q_aload_n 0 dX12_milesBack_1 rfl ?_
  refine q_getR (f := 21) cl_X12 (by decide) qw_1137 rfl dX12_milesBack_2 (fun _ _ _ => rfl) (fun v1 h2 => ?_)
  refine q_aload_n 0 dX12_milesBack_5 rfl ?_
  refine q_getI (f := 20) cl_X12 (by decide) qw_1136 rfl dX12_milesBack_6 (Or.inl rfl) (fun v3 h4 => ?_)
  refine q_iconst (x := (1 : Int32)) dX12_milesBack_9 rfl ?_
  refine q_isub dX12_milesBack_10 ?_
  refine q_iald dX12_milesBack_11 (fun v5 h6 => ?_)
  refine q_bipush (x := (100 : Int32)) dX12_milesBack_12 rfl ?_
  refine q_bipush (x := (100 : Int32)) dX12_milesBack_14 rfl ?_
  refine q_cVI (Y2 := Y_X12_farmMiles) (As := [.int v5, .int (100 : Int32), .int (100 : Int32)]) (b := a0) (st := []) cl_X12 mv_X12_farmMiles qw_1563 dX12_milesBack_16 ⟨Nat.le_of_ble_eq_true rfl, Nat.le_of_ble_eq_true rfl⟩ rfl (fun _ _ => rfl) (Nat.le_of_ble_eq_true rfl) ⟨Nat.le_of_ble_eq_true rfl, Nat.le_of_ble_eq_true rfl⟩ (fun v8 h7 => q_ob_is h7) (fun v8 h7 => m_X12_farmMiles h7) (fun v8 h7 => ?_)
  refine q_istore_n (ls' := [(1, .int v8), (0, .ref a0)]) dX12_milesBack_19 (by decide) rfl ?_
  refine q_iconst (x := (1 : Int32)) dX12_milesBack_20 rfl ?_
  refine q_istore_n (ls' := [(2, .int (1 : Int32)), (1, .int v8), (0, .ref a0)]) dX12_milesBack_21 (by decide) rfl ?_
  refine q_sub (ls' := [(0, .ref a0), (1, .int v8), (2, .int (1 : Int32))]) [2, 1, 0] rfl ?_
  exact v_X12_milesBack_b22 _ _ _
theorem dX12_nextOrder_0 : decode cX12_nextOrder 0 = .ok (.aload_n 0, 1) := by decide +kernel
theorem dX12_nextOrder_1 : decode cX12_nextOrder 1 = .ok (.getfield 277, 3) := by decide +kernel
theorem dX12_nextOrder_4 : decode cX12_nextOrder 4 = .ok (.iconst 2, 1) := by decide +kernel
theorem dX12_nextOrder_5 : decode cX12_nextOrder 5 = .ok (.isub, 1) := by decide +kernel
theorem dX12_nextOrder_6 : decode cX12_nextOrder 6 = .ok (.istore_n 1, 1) := by decide +kernel
theorem dX12_nextOrder_7 : decode cX12_nextOrder 7 = .ok (.iload_n 1, 1) := by decide +kernel
theorem dX12_nextOrder_8 : decode cX12_nextOrder 8 = .ok (.ifCond .lt 26, 3) := by decide +kernel
theorem dX12_nextOrder_11 : decode cX12_nextOrder 11 = .ok (.aload_n 0, 1) := by decide +kernel
theorem dX12_nextOrder_12 : decode cX12_nextOrder 12 = .ok (.getfield 57, 3) := by decide +kernel
theorem dX12_nextOrder_15 : decode cX12_nextOrder 15 = .ok (.iload_n 1, 1) := by decide +kernel
theorem dX12_nextOrder_16 : decode cX12_nextOrder 16 = .ok (.iaload, 1) := by decide +kernel
theorem dX12_nextOrder_17 : decode cX12_nextOrder 17 = .ok (.aload_n 0, 1) := by decide +kernel
theorem dX12_nextOrder_18 : decode cX12_nextOrder 18 = .ok (.getfield 57, 3) := by decide +kernel
theorem dX12_nextOrder_21 : decode cX12_nextOrder 21 = .ok (.iload_n 1, 1) := by decide +kernel
theorem dX12_nextOrder_22 : decode cX12_nextOrder 22 = .ok (.iconst 1, 1) := by decide +kernel
theorem dX12_nextOrder_23 : decode cX12_nextOrder 23 = .ok (.iadd, 1) := by decide +kernel
theorem dX12_nextOrder_24 : decode cX12_nextOrder 24 = .ok (.iaload, 1) := by decide +kernel
theorem dX12_nextOrder_25 : decode cX12_nextOrder 25 = .ok (.if_icmp .le 9, 3) := by decide +kernel
theorem dX12_nextOrder_28 : decode cX12_nextOrder 28 = .ok (.iinc 1 (-1), 3) := by decide +kernel
theorem dX12_nextOrder_31 : decode cX12_nextOrder 31 = .ok (.goto (-24), 3) := by decide +kernel
theorem dX12_nextOrder_34 : decode cX12_nextOrder 34 = .ok (.iload_n 1, 1) := by decide +kernel
theorem dX12_nextOrder_35 : decode cX12_nextOrder 35 = .ok (.ifCond .ge 5, 3) := by decide +kernel
theorem dX12_nextOrder_38 : decode cX12_nextOrder 38 = .ok (.iconst 0, 1) := by decide +kernel
theorem dX12_nextOrder_39 : decode cX12_nextOrder 39 = .ok (.ireturn, 1) := by decide +kernel
theorem dX12_nextOrder_40 : decode cX12_nextOrder 40 = .ok (.aload_n 0, 1) := by decide +kernel
theorem dX12_nextOrder_41 : decode cX12_nextOrder 41 = .ok (.getfield 277, 3) := by decide +kernel
theorem dX12_nextOrder_44 : decode cX12_nextOrder 44 = .ok (.iconst 1, 1) := by decide +kernel
theorem dX12_nextOrder_45 : decode cX12_nextOrder 45 = .ok (.isub, 1) := by decide +kernel
theorem dX12_nextOrder_46 : decode cX12_nextOrder 46 = .ok (.istore_n 2, 1) := by decide +kernel
theorem dX12_nextOrder_47 : decode cX12_nextOrder 47 = .ok (.aload_n 0, 1) := by decide +kernel
theorem dX12_nextOrder_48 : decode cX12_nextOrder 48 = .ok (.getfield 57, 3) := by decide +kernel
theorem dX12_nextOrder_51 : decode cX12_nextOrder 51 = .ok (.iload_n 2, 1) := by decide +kernel
theorem dX12_nextOrder_52 : decode cX12_nextOrder 52 = .ok (.iaload, 1) := by decide +kernel
theorem dX12_nextOrder_53 : decode cX12_nextOrder 53 = .ok (.aload_n 0, 1) := by decide +kernel
theorem dX12_nextOrder_54 : decode cX12_nextOrder 54 = .ok (.getfield 57, 3) := by decide +kernel
theorem dX12_nextOrder_57 : decode cX12_nextOrder 57 = .ok (.iload_n 1, 1) := by decide +kernel
theorem dX12_nextOrder_58 : decode cX12_nextOrder 58 = .ok (.iaload, 1) := by decide +kernel
theorem dX12_nextOrder_59 : decode cX12_nextOrder 59 = .ok (.if_icmp .ge 9, 3) := by decide +kernel
theorem dX12_nextOrder_62 : decode cX12_nextOrder 62 = .ok (.iinc 2 (-1), 3) := by decide +kernel
theorem dX12_nextOrder_65 : decode cX12_nextOrder 65 = .ok (.goto (-18), 3) := by decide +kernel
theorem dX12_nextOrder_68 : decode cX12_nextOrder 68 = .ok (.aload_n 0, 1) := by decide +kernel
theorem dX12_nextOrder_69 : decode cX12_nextOrder 69 = .ok (.getfield 57, 3) := by decide +kernel
theorem dX12_nextOrder_72 : decode cX12_nextOrder 72 = .ok (.iload_n 1, 1) := by decide +kernel
theorem dX12_nextOrder_73 : decode cX12_nextOrder 73 = .ok (.iaload, 1) := by decide +kernel
theorem dX12_nextOrder_74 : decode cX12_nextOrder 74 = .ok (.istore_n 3, 1) := by decide +kernel
theorem dX12_nextOrder_75 : decode cX12_nextOrder 75 = .ok (.aload_n 0, 1) := by decide +kernel
theorem dX12_nextOrder_76 : decode cX12_nextOrder 76 = .ok (.getfield 57, 3) := by decide +kernel
theorem dX12_nextOrder_79 : decode cX12_nextOrder 79 = .ok (.iload_n 1, 1) := by decide +kernel
theorem dX12_nextOrder_80 : decode cX12_nextOrder 80 = .ok (.aload_n 0, 1) := by decide +kernel
theorem dX12_nextOrder_81 : decode cX12_nextOrder 81 = .ok (.getfield 57, 3) := by decide +kernel
theorem dX12_nextOrder_84 : decode cX12_nextOrder 84 = .ok (.iload_n 2, 1) := by decide +kernel
theorem dX12_nextOrder_85 : decode cX12_nextOrder 85 = .ok (.iaload, 1) := by decide +kernel
theorem dX12_nextOrder_86 : decode cX12_nextOrder 86 = .ok (.iastore, 1) := by decide +kernel
theorem dX12_nextOrder_87 : decode cX12_nextOrder 87 = .ok (.aload_n 0, 1) := by decide +kernel
theorem dX12_nextOrder_88 : decode cX12_nextOrder 88 = .ok (.getfield 57, 3) := by decide +kernel
theorem dX12_nextOrder_91 : decode cX12_nextOrder 91 = .ok (.iload_n 2, 1) := by decide +kernel
theorem dX12_nextOrder_92 : decode cX12_nextOrder 92 = .ok (.iload_n 3, 1) := by decide +kernel
theorem dX12_nextOrder_93 : decode cX12_nextOrder 93 = .ok (.iastore, 1) := by decide +kernel
theorem dX12_nextOrder_94 : decode cX12_nextOrder 94 = .ok (.aload_n 0, 1) := by decide +kernel
theorem dX12_nextOrder_95 : decode cX12_nextOrder 95 = .ok (.getfield 277, 3) := by decide +kernel
theorem dX12_nextOrder_98 : decode cX12_nextOrder 98 = .ok (.iconst 1, 1) := by decide +kernel
theorem dX12_nextOrder_99 : decode cX12_nextOrder 99 = .ok (.isub, 1) := by decide +kernel
theorem dX12_nextOrder_100 : decode cX12_nextOrder 100 = .ok (.istore 4, 2) := by decide +kernel
theorem dX12_nextOrder_102 : decode cX12_nextOrder 102 = .ok (.iload_n 1, 1) := by decide +kernel
theorem dX12_nextOrder_103 : decode cX12_nextOrder 103 = .ok (.iconst 1, 1) := by decide +kernel
theorem dX12_nextOrder_104 : decode cX12_nextOrder 104 = .ok (.iadd, 1) := by decide +kernel
theorem dX12_nextOrder_105 : decode cX12_nextOrder 105 = .ok (.istore 5, 2) := by decide +kernel
theorem dX12_nextOrder_107 : decode cX12_nextOrder 107 = .ok (.iload 5, 2) := by decide +kernel
theorem dX12_nextOrder_109 : decode cX12_nextOrder 109 = .ok (.iload 4, 2) := by decide +kernel
theorem dX12_nextOrder_111 : decode cX12_nextOrder 111 = .ok (.if_icmp .ge 42, 3) := by decide +kernel
theorem dX12_nextOrder_114 : decode cX12_nextOrder 114 = .ok (.aload_n 0, 1) := by decide +kernel
theorem dX12_nextOrder_115 : decode cX12_nextOrder 115 = .ok (.getfield 57, 3) := by decide +kernel
theorem dX12_nextOrder_118 : decode cX12_nextOrder 118 = .ok (.iload 5, 2) := by decide +kernel
theorem dX12_nextOrder_120 : decode cX12_nextOrder 120 = .ok (.iaload, 1) := by decide +kernel
theorem dX12_nextOrder_121 : decode cX12_nextOrder 121 = .ok (.istore_n 3, 1) := by decide +kernel
theorem dX12_nextOrder_122 : decode cX12_nextOrder 122 = .ok (.aload_n 0, 1) := by decide +kernel
theorem dX12_nextOrder_123 : decode cX12_nextOrder 123 = .ok (.getfield 57, 3) := by decide +kernel
theorem dX12_nextOrder_126 : decode cX12_nextOrder 126 = .ok (.iload 5, 2) := by decide +kernel
theorem dX12_nextOrder_128 : decode cX12_nextOrder 128 = .ok (.aload_n 0, 1) := by decide +kernel
theorem dX12_nextOrder_129 : decode cX12_nextOrder 129 = .ok (.getfield 57, 3) := by decide +kernel
theorem dX12_nextOrder_132 : decode cX12_nextOrder 132 = .ok (.iload 4, 2) := by decide +kernel
theorem dX12_nextOrder_134 : decode cX12_nextOrder 134 = .ok (.iaload, 1) := by decide +kernel
theorem dX12_nextOrder_135 : decode cX12_nextOrder 135 = .ok (.iastore, 1) := by decide +kernel
theorem dX12_nextOrder_136 : decode cX12_nextOrder 136 = .ok (.aload_n 0, 1) := by decide +kernel
theorem dX12_nextOrder_137 : decode cX12_nextOrder 137 = .ok (.getfield 57, 3) := by decide +kernel
theorem dX12_nextOrder_140 : decode cX12_nextOrder 140 = .ok (.iload 4, 2) := by decide +kernel
theorem dX12_nextOrder_142 : decode cX12_nextOrder 142 = .ok (.iload_n 3, 1) := by decide +kernel
theorem dX12_nextOrder_143 : decode cX12_nextOrder 143 = .ok (.iastore, 1) := by decide +kernel
theorem dX12_nextOrder_144 : decode cX12_nextOrder 144 = .ok (.iinc 4 (-1), 3) := by decide +kernel
theorem dX12_nextOrder_147 : decode cX12_nextOrder 147 = .ok (.iinc 5 1, 3) := by decide +kernel
theorem dX12_nextOrder_150 : decode cX12_nextOrder 150 = .ok (.goto (-43), 3) := by decide +kernel
theorem dX12_nextOrder_153 : decode cX12_nextOrder 153 = .ok (.iconst 1, 1) := by decide +kernel
theorem dX12_nextOrder_154 : decode cX12_nextOrder 154 = .ok (.ireturn, 1) := by decide +kernel
def f_X12_nextOrder_b107 (a0 : Nat) : Nat → Int32 → Int32 → q_Mem → Option (Int32 × q_Mem)
  | 0, _, _, _ => none
  | n + 1, a4, a5, M =>
    (if a5 < a4 then
      (q_gR 11 21 M a0).bind fun v43 =>
      (q_lI M v43 a5).bind fun v45 =>
      (q_gR 11 21 M a0).bind fun v47 =>
      (q_gR 11 21 M a0).bind fun v49 =>
      (q_lI M v49 a4).bind fun v51 =>
      (q_tI M v47 a5 v51).bind fun M53 =>
      (q_gR 11 21 M53 a0).bind fun v55 =>
      (q_tI M53 v55 a4 v45).bind fun M57 =>
      f_X12_nextOrder_b107 a0 n (a4 + (-1 : Int32)) (a5 + (1 : Int32)) M57
    else
      some ((1 : Int32), M))
def f_X12_nextOrder_b68 (M : q_Mem) (a0 : Nat) (a1 : Int32) (a2 : Int32) : Option (Int32 × q_Mem) :=
  (q_gR 11 21 M a0).bind fun v25 =>
  (q_lI M v25 a1).bind fun v27 =>
  (q_gR 11 21 M a0).bind fun v29 =>
  (q_gR 11 21 M a0).bind fun v31 =>
  (q_lI M v31 a2).bind fun v33 =>
  (q_tI M v29 a1 v33).bind fun M35 =>
  (q_gR 11 21 M35 a0).bind fun v37 =>
  (q_tI M35 v37 a2 v27).bind fun M39 =>
  (q_gI 11 20 M39 a0).bind fun v41 =>
  f_X12_nextOrder_b107 a0 q_fuel (v41 - (1 : Int32)) (a1 + (1 : Int32)) M39
def f_X12_nextOrder_b47 (M : q_Mem) (a0 : Nat) (a1 : Int32) : Nat → Int32 → Option (Int32 × q_Mem)
  | 0, _ => none
  | n + 1, a2 =>
    (q_gR 11 21 M a0).bind fun v16 =>
    (q_lI M v16 a2).bind fun v18 =>
    (q_gR 11 21 M a0).bind fun v20 =>
    (q_lI M v20 a1).bind fun v22 =>
    (if v18 < v22 then
      f_X12_nextOrder_b47 M a0 a1 n (a2 + (-1 : Int32))
    else
      f_X12_nextOrder_b68 M a0 a1 a2)
def f_X12_nextOrder_b34 (M : q_Mem) (a0 : Nat) (a1 : Int32) : Option (Int32 × q_Mem) :=
  (if a1 < 0 then
    some ((0 : Int32), M)
  else
    (q_gI 11 20 M a0).bind fun v13 =>
    f_X12_nextOrder_b47 M a0 a1 q_fuel (v13 - (1 : Int32)))
def f_X12_nextOrder_b7 (M : q_Mem) (a0 : Nat) : Nat → Int32 → Option (Int32 × q_Mem)
  | 0, _ => none
  | n + 1, a1 =>
    (if a1 < 0 then
      f_X12_nextOrder_b34 M a0 a1
    else
      (q_gR 11 21 M a0).bind fun v3 =>
      (q_lI M v3 a1).bind fun v5 =>
      (q_gR 11 21 M a0).bind fun v7 =>
      (q_lI M v7 (a1 + (1 : Int32))).bind fun v9 =>
      (if v9 < v5 then
        f_X12_nextOrder_b7 M a0 n (a1 + (-1 : Int32))
      else
        f_X12_nextOrder_b34 M a0 a1))
def f_X12_nextOrder (M : q_Mem) (a0 : Nat) : Option (Int32 × q_Mem) :=
  q_ob 11 M a0 ((q_gI 11 20 M a0).bind fun v1 =>
  f_X12_nextOrder_b7 M a0 q_fuel (v1 - (2 : Int32)))
set_option maxRecDepth 20000 in
theorem v_X12_nextOrder_b107 {a0 : Nat}  : ∀ (n : Nat) (a4 : Int32) (a5 : Int32) (M : q_Mem), q_V Y_X12_nextOrder none (fun x : Int32 × q_Mem => (some (.int x.1), x.2)) 0 0 107 [(0, .ref a0), (4, .int a4), (5, .int a5)] [] M (f_X12_nextOrder_b107 a0 n a4 a5 M) := by
  intro n
  induction n with
  | zero => intro a4 a5 M; exact q_none
  | succ n ih =>
    intro a4 a5 M
    rw [f_X12_nextOrder_b107.eq_2]
    refine q_iload 2 dX12_nextOrder_107 rfl ?_
    refine q_iload 1 dX12_nextOrder_109 rfl ?_
    refine q_icmp_ge (tgt := 153) dX12_nextOrder_111 (by decide) (fun c59 => ?_) (fun c59 => ?_)
    · refine q_aload_n 0 dX12_nextOrder_114 rfl ?_
      refine q_getR (f := 21) cl_X12 (by decide) qw_1137 rfl dX12_nextOrder_115 (fun _ _ _ => rfl) (fun v43 h44 => ?_)
      refine q_iload 2 dX12_nextOrder_118 rfl ?_
      refine q_iald dX12_nextOrder_120 (fun v45 h46 => ?_)
      refine q_istore_n (ls' := [(3, .int v45), (0, .ref a0), (4, .int a4), (5, .int a5)]) dX12_nextOrder_121 (by decide) rfl ?_
      refine q_aload_n 1 dX12_nextOrder_122 rfl ?_
      refine q_getR (f := 21) cl_X12 (by decide) qw_1137 rfl dX12_nextOrder_123 (fun _ _ _ => rfl) (fun v47 h48 => ?_)
      refine q_iload 3 dX12_nextOrder_126 rfl ?_
      refine q_aload_n 1 dX12_nextOrder_128 rfl ?_
      refine q_getR (f := 21) cl_X12 (by decide) qw_1137 rfl dX12_nextOrder_129 (fun _ _ _ => rfl) (fun v49 h50 => ?_)
      refine q_iload 2 dX12_nextOrder_132 rfl ?_
      refine q_iald dX12_nextOrder_134 (fun v51 h52 => ?_)
      refine q_iast dX12_nextOrder_135 (fun M53 h54 => ?_)
      refine q_aload_n 1 dX12_nextOrder_136 rfl ?_
      refine q_getR (f := 21) cl_X12 (by decide) qw_1137 rfl dX12_nextOrder_137 (fun _ _ _ => rfl) (fun v55 h56 => ?_)
      refine q_iload 2 dX12_nextOrder_140 rfl ?_
      refine q_iload_n 0 dX12_nextOrder_142 rfl ?_
      refine q_iast dX12_nextOrder_143 (fun M57 h58 => ?_)
      refine q_iinc 2 (y := (a4 + (-1 : Int32))) (ls' := [(4, .int (a4 + (-1 : Int32))), (3, .int v45), (0, .ref a0), (5, .int a5)]) dX12_nextOrder_144 rfl rfl (by decide) rfl ?_
      refine q_iinc 3 (y := (a5 + (1 : Int32))) (ls' := [(5, .int (a5 + (1 : Int32))), (4, .int (a4 + (-1 : Int32))), (3, .int v45), (0, .ref a0)]) dX12_nextOrder_147 rfl rfl (by decide) rfl ?_
      refine q_goto (tgt := 107) dX12_nextOrder_150 (by decide) ?_
      refine q_sub (ls' := [(0, .ref a0), (4, .int (a4 + (-1 : Int32))), (5, .int (a5 + (1 : Int32)))]) [3, 1, 0] rfl ?_
      exact ih _ _ _
    · refine q_iconst (x := (1 : Int32)) dX12_nextOrder_153 rfl ?_
      exact q_zretL dX12_nextOrder_154 rfl (Or.inr rfl) rfl (Nat.le_of_ble_eq_true rfl) rfl
set_option maxRecDepth 20000 in
theorem v_X12_nextOrder_b68 {M : q_Mem} {a0 : Nat} {a1 : Int32} {a2 : Int32}  : q_V Y_X12_nextOrder none (fun x : Int32 × q_Mem => (some (.int x.1), x.2)) 0 0 68 [(0, .ref a0), (1, .int a1), (2, .int a2)] [] M (f_X12_nextOrder_b68 M a0 a1 a2 ) := by
  unfold f_X12_nextOrder_b68
  refine q_aload_n 0 dX12_nextOrder_68 rfl ?_
  refine q_getR (f := 21) cl_X12 (by decide) qw_1137 rfl dX12_nextOrder_69 (fun _ _ _ => rfl) (fun v25 h26 => ?_)
  refine q_iload_n 1 dX12_nextOrder_72 rfl ?_
  refine q_iald dX12_nextOrder_73 (fun v27 h28 => ?_)
  refine q_istore_n (ls' := [(3, .int v27), (0, .ref a0), (1, .int a1), (2, .int a2)]) dX12_nextOrder_74 (by decide) rfl ?_
  refine q_aload_n 1 dX12_nextOrder_75 rfl ?_
  refine q_getR (f := 21) cl_X12 (by decide) qw_1137 rfl dX12_nextOrder_76 (fun _ _ _ => rfl) (fun v29 h30 => ?_)
  refine q_iload_n 2 dX12_nextOrder_79 rfl ?_
  refine q_aload_n 1 dX12_nextOrder_80 rfl ?_
  refine q_getR (f := 21) cl_X12 (by decide) qw_1137 rfl dX12_nextOrder_81 (fun _ _ _ => rfl) (fun v31 h32 => ?_)
  refine q_iload_n 3 dX12_nextOrder_84 rfl ?_
  refine q_iald dX12_nextOrder_85 (fun v33 h34 => ?_)
  refine q_iast dX12_nextOrder_86 (fun M35 h36 => ?_)
  refine q_aload_n 1 dX12_nextOrder_87 rfl ?_
  refine q_getR (f := 21) cl_X12 (by decide) qw_1137 rfl dX12_nextOrder_88 (fun _ _ _ => rfl) (fun v37 h38 => ?_)
  refine q_iload_n 3 dX12_nextOrder_91 rfl ?_
  refine q_iload_n 0 dX12_nextOrder_92 rfl ?_
  refine q_iast dX12_nextOrder_93 (fun M39 h40 => ?_)
  refine q_aload_n 1 dX12_nextOrder_94 rfl ?_
  refine q_getI (f := 20) cl_X12 (by decide) qw_1136 rfl dX12_nextOrder_95 (Or.inl rfl) (fun v41 h42 => ?_)
  refine q_iconst (x := (1 : Int32)) dX12_nextOrder_98 rfl ?_
  refine q_isub dX12_nextOrder_99 ?_
  refine q_istore (ls' := [(4, .int (v41 - (1 : Int32))), (3, .int v27), (0, .ref a0), (1, .int a1), (2, .int a2)]) dX12_nextOrder_100 (by decide) rfl ?_
  refine q_iload_n 3 dX12_nextOrder_102 rfl ?_
  refine q_iconst (x := (1 : Int32)) dX12_nextOrder_103 rfl ?_
  refine q_iadd dX12_nextOrder_104 ?_
  refine q_istore (ls' := [(5, .int (a1 + (1 : Int32))), (4, .int (v41 - (1 : Int32))), (3, .int v27), (0, .ref a0), (1, .int a1), (2, .int a2)]) dX12_nextOrder_105 (by decide) rfl ?_
  refine q_sub (ls' := [(0, .ref a0), (4, .int (v41 - (1 : Int32))), (5, .int (a1 + (1 : Int32)))]) [3, 1, 0] rfl ?_
  exact v_X12_nextOrder_b107 _ _ _ _
set_option maxRecDepth 20000 in
theorem v_X12_nextOrder_b47 {M : q_Mem} {a0 : Nat} {a1 : Int32}  : ∀ (n : Nat) (a2 : Int32), q_V Y_X12_nextOrder none (fun x : Int32 × q_Mem => (some (.int x.1), x.2)) 0 0 47 [(0, .ref a0), (1, .int a1), (2, .int a2)] [] M (f_X12_nextOrder_b47 M a0 a1 n a2) := by
  intro n
  induction n with
  | zero => intro a2; exact q_none
  | succ n ih =>
    intro a2
    rw [f_X12_nextOrder_b47.eq_2]
    refine q_aload_n 0 dX12_nextOrder_47 rfl ?_
    refine q_getR (f := 21) cl_X12 (by decide) qw_1137 rfl dX12_nextOrder_48 (fun _ _ _ => rfl) (fun v16 h17 => ?_)
    refine q_iload_n 2 dX12_nextOrder_51 rfl ?_
    refine q_iald dX12_nextOrder_52 (fun v18 h19 => ?_)
    refine q_aload_n 0 dX12_nextOrder_53 rfl ?_
    refine q_getR (f := 21) cl_X12 (by decide) qw_1137 rfl dX12_nextOrder_54 (fun _ _ _ => rfl) (fun v20 h21 => ?_)
    refine q_iload_n 1 dX12_nextOrder_57 rfl ?_
    refine q_iald dX12_nextOrder_58 (fun v22 h23 => ?_)
    refine q_icmp_ge (tgt := 68) dX12_nextOrder_59 (by decide) (fun c24 => ?_) (fun c24 => ?_)
    · refine q_iinc 2 (y := (a2 + (-1 : Int32))) (ls' := [(2, .int (a2 + (-1 : Int32))), (0, .ref a0), (1, .int a1)]) dX12_nextOrder_62 rfl rfl (by decide) rfl ?_
      refine q_goto (tgt := 47) dX12_nextOrder_65 (by decide) ?_
      refine q_sub (ls' := [(0, .ref a0), (1, .int a1), (2, .int (a2 + (-1 : Int32)))]) [1, 2, 0] rfl ?_
      exact ih _
    · exact v_X12_nextOrder_b68
set_option maxRecDepth 20000 in
theorem v_X12_nextOrder_b34 {M : q_Mem} {a0 : Nat} {a1 : Int32}  : q_V Y_X12_nextOrder none (fun x : Int32 × q_Mem => (some (.int x.1), x.2)) 0 0 34 [(0, .ref a0), (1, .int a1)] [] M (f_X12_nextOrder_b34 M a0 a1 ) := by
  unfold f_X12_nextOrder_b34
  refine q_iload_n 1 dX12_nextOrder_34 rfl ?_
  refine q_if_ge (tgt := 40) dX12_nextOrder_35 (by decide) (fun c15 => ?_) (fun c15 => ?_)
  · refine q_iconst (x := (0 : Int32)) dX12_nextOrder_38 rfl ?_
    exact q_zretL dX12_nextOrder_39 rfl (Or.inl rfl) rfl (Nat.le_of_ble_eq_true rfl) rfl
  · refine q_aload_n 0 dX12_nextOrder_40 rfl ?_
    refine q_getI (f := 20) cl_X12 (by decide) qw_1136 rfl dX12_nextOrder_41 (Or.inl rfl) (fun v13 h14 => ?_)
    refine q_iconst (x := (1 : Int32)) dX12_nextOrder_44 rfl ?_
    refine q_isub dX12_nextOrder_45 ?_
    refine q_istore_n (ls' := [(2, .int (v13 - (1 : Int32))), (0, .ref a0), (1, .int a1)]) dX12_nextOrder_46 (by decide) rfl ?_
    refine q_sub (ls' := [(0, .ref a0), (1, .int a1), (2, .int (v13 - (1 : Int32)))]) [1, 2, 0] rfl ?_
    exact v_X12_nextOrder_b47 _ _
set_option maxRecDepth 20000 in
theorem v_X12_nextOrder_b7 {M : q_Mem} {a0 : Nat}  : ∀ (n : Nat) (a1 : Int32), q_V Y_X12_nextOrder none (fun x : Int32 × q_Mem => (some (.int x.1), x.2)) 0 0 7 [(0, .ref a0), (1, .int a1)] [] M (f_X12_nextOrder_b7 M a0 n a1) := by
  intro n
  induction n with
  | zero => intro a1; exact q_none
  | succ n ih =>
    intro a1
    rw [f_X12_nextOrder_b7.eq_2]
    refine q_iload_n 1 dX12_nextOrder_7 rfl ?_
    refine q_if_lt (tgt := 34) dX12_nextOrder_8 (by decide) (fun c12 => ?_) (fun c12 => ?_)
    · exact v_X12_nextOrder_b34
    · refine q_aload_n 0 dX12_nextOrder_11 rfl ?_
      refine q_getR (f := 21) cl_X12 (by decide) qw_1137 rfl dX12_nextOrder_12 (fun _ _ _ => rfl) (fun v3 h4 => ?_)
      refine q_iload_n 1 dX12_nextOrder_15 rfl ?_
      refine q_iald dX12_nextOrder_16 (fun v5 h6 => ?_)
      refine q_aload_n 0 dX12_nextOrder_17 rfl ?_
      refine q_getR (f := 21) cl_X12 (by decide) qw_1137 rfl dX12_nextOrder_18 (fun _ _ _ => rfl) (fun v7 h8 => ?_)
      refine q_iload_n 1 dX12_nextOrder_21 rfl ?_
      refine q_iconst (x := (1 : Int32)) dX12_nextOrder_22 rfl ?_
      refine q_iadd dX12_nextOrder_23 ?_
      refine q_iald dX12_nextOrder_24 (fun v9 h10 => ?_)
      refine q_icmp_le (tgt := 34) dX12_nextOrder_25 (by decide) (fun c11 => ?_) (fun c11 => ?_)
      · refine q_iinc 1 (y := (a1 + (-1 : Int32))) (ls' := [(1, .int (a1 + (-1 : Int32))), (0, .ref a0)]) dX12_nextOrder_28 rfl rfl (by decide) rfl ?_
        refine q_goto (tgt := 7) dX12_nextOrder_31 (by decide) ?_
        refine q_sub (ls' := [(0, .ref a0), (1, .int (a1 + (-1 : Int32)))]) [1, 0] rfl ?_
        exact ih _
      · exact v_X12_nextOrder_b34
set_option maxRecDepth 20000 in
theorem m_X12_nextOrder {M : q_Mem} {a0 : Nat} {x : (Int32 × q_Mem)} (h : f_X12_nextOrder M a0 = some x) : q_C Y_X12_nextOrder [.ref a0] M (some (.int x.1)) x.2 := by
  refine q_met (φ := (fun x : Int32 × q_Mem => (some (.int x.1), x.2))) (r := f_X12_nextOrder M a0) (by decide +kernel) (Nat.le_of_ble_eq_true rfl) ?_ h (fun _ _ => rfl)
  show q_V Y_X12_nextOrder none (fun x : Int32 × q_Mem => (some (.int x.1), x.2)) 0 0 0 [(0, .ref a0)] [] M (f_X12_nextOrder M a0)
  unfold f_X12_nextOrder
  refine q_obV ?_
  refine q_aload_n 0 dX12_nextOrder_0 rfl ?_
  refine q_getI (f := 20) cl_X12 (by decide) qw_1136 rfl dX12_nextOrder_1 (Or.inl rfl) (fun v1 h2 => ?_)
  refine q_iconst (x := (2 : Int32)) dX12_nextOrder_4 rfl ?_
  refine q_isub dX12_nextOrder_5 ?_
  refine q_istore_n (ls' := [(1, .int (v1 - (2 : Int32))), (0, .ref a0)]) dX12_nextOrder_6 (by decide) rfl ?_
  refine q_sub (ls' := [(0, .ref a0), (1, .int (v1 - (2 : Int32)))]) [1, 0] rfl ?_
  exact v_X12_nextOrder_b7 _ _
theorem dX12_findRoute_0 : decode cX12_findRoute 0 = .ok (.aload_n 0, 1) := by decide +kernel
theorem dX12_findRoute_1 : decode cX12_findRoute 1 = .ok (.iconst 0, 1) := by decide +kernel
theorem dX12_findRoute_2 : decode cX12_findRoute 2 = .ok (.putfield 277, 3) := by decide +kernel
theorem dX12_findRoute_5 : decode cX12_findRoute 5 = .ok (.iconst 0, 1) := by decide +kernel
theorem dX12_findRoute_6 : decode cX12_findRoute 6 = .ok (.istore_n 2, 1) := by decide +kernel
theorem dX12_findRoute_7 : decode cX12_findRoute 7 = .ok (.iload_n 2, 1) := by decide +kernel
theorem dX12_findRoute_8 : decode cX12_findRoute 8 = .ok (.aload_n 0, 1) := by decide +kernel
theorem dX12_findRoute_9 : decode cX12_findRoute 9 = .ok (.getfield 7, 3) := by decide +kernel
theorem dX12_findRoute_12 : decode cX12_findRoute 12 = .ok (.iconst 0, 1) := by decide +kernel
theorem dX12_findRoute_13 : decode cX12_findRoute 13 = .ok (.iaload, 1) := by decide +kernel
theorem dX12_findRoute_14 : decode cX12_findRoute 14 = .ok (.if_icmp .ge 38, 3) := by decide +kernel
theorem dX12_findRoute_17 : decode cX12_findRoute 17 = .ok (.iload_n 1, 1) := by decide +kernel
theorem dX12_findRoute_18 : decode cX12_findRoute 18 = .ok (.iload_n 2, 1) := by decide +kernel
theorem dX12_findRoute_19 : decode cX12_findRoute 19 = .ok (.ishr, 1) := by decide +kernel
theorem dX12_findRoute_20 : decode cX12_findRoute 20 = .ok (.iconst 1, 1) := by decide +kernel
theorem dX12_findRoute_21 : decode cX12_findRoute 21 = .ok (.iand, 1) := by decide +kernel
theorem dX12_findRoute_22 : decode cX12_findRoute 22 = .ok (.iconst 1, 1) := by decide +kernel
theorem dX12_findRoute_23 : decode cX12_findRoute 23 = .ok (.if_icmp .ne 23, 3) := by decide +kernel
theorem dX12_findRoute_26 : decode cX12_findRoute 26 = .ok (.aload_n 0, 1) := by decide +kernel
theorem dX12_findRoute_27 : decode cX12_findRoute 27 = .ok (.getfield 57, 3) := by decide +kernel
theorem dX12_findRoute_30 : decode cX12_findRoute 30 = .ok (.aload_n 0, 1) := by decide +kernel
theorem dX12_findRoute_31 : decode cX12_findRoute 31 = .ok (.getfield 277, 3) := by decide +kernel
theorem dX12_findRoute_34 : decode cX12_findRoute 34 = .ok (.iload_n 2, 1) := by decide +kernel
theorem dX12_findRoute_35 : decode cX12_findRoute 35 = .ok (.iastore, 1) := by decide +kernel
theorem dX12_findRoute_36 : decode cX12_findRoute 36 = .ok (.aload_n 0, 1) := by decide +kernel
theorem dX12_findRoute_37 : decode cX12_findRoute 37 = .ok (.dup, 1) := by decide +kernel
theorem dX12_findRoute_38 : decode cX12_findRoute 38 = .ok (.getfield 277, 3) := by decide +kernel
theorem dX12_findRoute_41 : decode cX12_findRoute 41 = .ok (.iconst 1, 1) := by decide +kernel
theorem dX12_findRoute_42 : decode cX12_findRoute 42 = .ok (.iadd, 1) := by decide +kernel
theorem dX12_findRoute_43 : decode cX12_findRoute 43 = .ok (.putfield 277, 3) := by decide +kernel
theorem dX12_findRoute_46 : decode cX12_findRoute 46 = .ok (.iinc 2 1, 3) := by decide +kernel
theorem dX12_findRoute_49 : decode cX12_findRoute 49 = .ok (.goto (-42), 3) := by decide +kernel
theorem dX12_findRoute_52 : decode cX12_findRoute 52 = .ok (.aload_n 0, 1) := by decide +kernel
theorem dX12_findRoute_53 : decode cX12_findRoute 53 = .ok (.aload_n 0, 1) := by decide +kernel
theorem dX12_findRoute_54 : decode cX12_findRoute 54 = .ok (.getfield 277, 3) := by decide +kernel
theorem dX12_findRoute_57 : decode cX12_findRoute 57 = .ok (.ifCond .ne 7, 3) := by decide +kernel
theorem dX12_findRoute_60 : decode cX12_findRoute 60 = .ok (.iconst 0, 1) := by decide +kernel
theorem dX12_findRoute_61 : decode cX12_findRoute 61 = .ok (.goto 4, 3) := by decide +kernel
theorem dX12_findRoute_64 : decode cX12_findRoute 64 = .ok (.iconst (-1), 1) := by decide +kernel
theorem dX12_findRoute_65 : decode cX12_findRoute 65 = .ok (.putfield 284, 3) := by decide +kernel
theorem dX12_findRoute_68 : decode cX12_findRoute 68 = .ok (.aload_n 0, 1) := by decide +kernel
theorem dX12_findRoute_69 : decode cX12_findRoute 69 = .ok (.getfield 277, 3) := by decide +kernel
theorem dX12_findRoute_72 : decode cX12_findRoute 72 = .ok (.ifCond .le 7, 3) := by decide +kernel
theorem dX12_findRoute_75 : decode cX12_findRoute 75 = .ok (.iconst 1, 1) := by decide +kernel
theorem dX12_findRoute_76 : decode cX12_findRoute 76 = .ok (.goto 4, 3) := by decide +kernel
theorem dX12_findRoute_79 : decode cX12_findRoute 79 = .ok (.iconst 0, 1) := by decide +kernel
theorem dX12_findRoute_80 : decode cX12_findRoute 80 = .ok (.istore_n 2, 1) := by decide +kernel
theorem dX12_findRoute_81 : decode cX12_findRoute 81 = .ok (.iload_n 2, 1) := by decide +kernel
theorem dX12_findRoute_82 : decode cX12_findRoute 82 = .ok (.ifCond .eq 123, 3) := by decide +kernel
theorem dX12_findRoute_85 : decode cX12_findRoute 85 = .ok (.aload_n 0, 1) := by decide +kernel
theorem dX12_findRoute_86 : decode cX12_findRoute 86 = .ok (.invokevirtual 287, 3) := by decide +kernel
theorem dX12_findRoute_89 : decode cX12_findRoute 89 = .ok (.istore_n 3, 1) := by decide +kernel
theorem dX12_findRoute_90 : decode cX12_findRoute 90 = .ok (.iload_n 3, 1) := by decide +kernel
theorem dX12_findRoute_91 : decode cX12_findRoute 91 = .ok (.aload_n 0, 1) := by decide +kernel
theorem dX12_findRoute_92 : decode cX12_findRoute 92 = .ok (.aload_n 0, 1) := by decide +kernel
theorem dX12_findRoute_93 : decode cX12_findRoute 93 = .ok (.getfield 57, 3) := by decide +kernel
theorem dX12_findRoute_96 : decode cX12_findRoute 96 = .ok (.iconst 0, 1) := by decide +kernel
theorem dX12_findRoute_97 : decode cX12_findRoute 97 = .ok (.iaload, 1) := by decide +kernel
theorem dX12_findRoute_98 : decode cX12_findRoute 98 = .ok (.bipush 100, 2) := by decide +kernel
theorem dX12_findRoute_100 : decode cX12_findRoute 100 = .ok (.bipush 100, 2) := by decide +kernel
theorem dX12_findRoute_102 : decode cX12_findRoute 102 = .ok (.invokevirtual 280, 3) := by decide +kernel
theorem dX12_findRoute_105 : decode cX12_findRoute 105 = .ok (.iadd, 1) := by decide +kernel
theorem dX12_findRoute_106 : decode cX12_findRoute 106 = .ok (.istore 4, 2) := by decide +kernel
theorem dX12_findRoute_108 : decode cX12_findRoute 108 = .ok (.iconst 3, 1) := by decide +kernel
theorem dX12_findRoute_109 : decode cX12_findRoute 109 = .ok (.iload_n 3, 1) := by decide +kernel
theorem dX12_findRoute_110 : decode cX12_findRoute 110 = .ok (.imul, 1) := by decide +kernel
theorem dX12_findRoute_111 : decode cX12_findRoute 111 = .ok (.iconst 5, 1) := by decide +kernel
theorem dX12_findRoute_112 : decode cX12_findRoute 112 = .ok (.aload_n 0, 1) := by decide +kernel
theorem dX12_findRoute_113 : decode cX12_findRoute 113 = .ok (.getfield 277, 3) := by decide +kernel
theorem dX12_findRoute_116 : decode cX12_findRoute 116 = .ok (.iconst 1, 1) := by decide +kernel
theorem dX12_findRoute_117 : decode cX12_findRoute 117 = .ok (.isub, 1) := by decide +kernel
theorem dX12_findRoute_118 : decode cX12_findRoute 118 = .ok (.imul, 1) := by decide +kernel
theorem dX12_findRoute_119 : decode cX12_findRoute 119 = .ok (.iadd, 1) := by decide +kernel
theorem dX12_findRoute_120 : decode cX12_findRoute 120 = .ok (.aload_n 0, 1) := by decide +kernel
theorem dX12_findRoute_121 : decode cX12_findRoute 121 = .ok (.getfield 7, 3) := by decide +kernel
theorem dX12_findRoute_124 : decode cX12_findRoute 124 = .ok (.bipush 11, 2) := by decide +kernel
theorem dX12_findRoute_126 : decode cX12_findRoute 126 = .ok (.iaload, 1) := by decide +kernel
theorem dX12_findRoute_127 : decode cX12_findRoute 127 = .ok (.if_icmp .gt 7, 3) := by decide +kernel
theorem dX12_findRoute_130 : decode cX12_findRoute 130 = .ok (.iconst 1, 1) := by decide +kernel
theorem dX12_findRoute_131 : decode cX12_findRoute 131 = .ok (.goto 4, 3) := by decide +kernel
theorem dX12_findRoute_134 : decode cX12_findRoute 134 = .ok (.iconst 0, 1) := by decide +kernel
theorem dX12_findRoute_135 : decode cX12_findRoute 135 = .ok (.istore 5, 2) := by decide +kernel
theorem dX12_findRoute_137 : decode cX12_findRoute 137 = .ok (.iload 5, 2) := by decide +kernel
theorem dX12_findRoute_139 : decode cX12_findRoute 139 = .ok (.ifCond .eq 58, 3) := by decide +kernel
theorem dX12_findRoute_142 : decode cX12_findRoute 142 = .ok (.aload_n 0, 1) := by decide +kernel
theorem dX12_findRoute_143 : decode cX12_findRoute 143 = .ok (.getfield 284, 3) := by decide +kernel
theorem dX12_findRoute_146 : decode cX12_findRoute 146 = .ok (.iconst (-1), 1) := by decide +kernel
theorem dX12_findRoute_147 : decode cX12_findRoute 147 = .ok (.if_icmp .eq 12, 3) := by decide +kernel
theorem dX12_findRoute_150 : decode cX12_findRoute 150 = .ok (.iload 4, 2) := by decide +kernel
theorem dX12_findRoute_152 : decode cX12_findRoute 152 = .ok (.aload_n 0, 1) := by decide +kernel
theorem dX12_findRoute_153 : decode cX12_findRoute 153 = .ok (.getfield 284, 3) := by decide +kernel
theorem dX12_findRoute_156 : decode cX12_findRoute 156 = .ok (.if_icmp .ge 41, 3) := by decide +kernel
theorem dX12_findRoute_159 : decode cX12_findRoute 159 = .ok (.aload_n 0, 1) := by decide +kernel
theorem dX12_findRoute_160 : decode cX12_findRoute 160 = .ok (.iload 4, 2) := by decide +kernel
theorem dX12_findRoute_162 : decode cX12_findRoute 162 = .ok (.putfield 284, 3) := by decide +kernel
theorem dX12_findRoute_165 : decode cX12_findRoute 165 = .ok (.iconst 0, 1) := by decide +kernel
theorem dX12_findRoute_166 : decode cX12_findRoute 166 = .ok (.istore 6, 2) := by decide +kernel
theorem dX12_findRoute_168 : decode cX12_findRoute 168 = .ok (.iload 6, 2) := by decide +kernel
theorem dX12_findRoute_170 : decode cX12_findRoute 170 = .ok (.aload_n 0, 1) := by decide +kernel
theorem dX12_findRoute_171 : decode cX12_findRoute 171 = .ok (.getfield 277, 3) := by decide +kernel
theorem dX12_findRoute_174 : decode cX12_findRoute 174 = .ok (.if_icmp .ge 23, 3) := by decide +kernel
theorem dX12_findRoute_177 : decode cX12_findRoute 177 = .ok (.aload_n 0, 1) := by decide +kernel
theorem dX12_findRoute_178 : decode cX12_findRoute 178 = .ok (.getfield 60, 3) := by decide +kernel
theorem dX12_findRoute_181 : decode cX12_findRoute 181 = .ok (.iload 6, 2) := by decide +kernel
theorem dX12_findRoute_183 : decode cX12_findRoute 183 = .ok (.aload_n 0, 1) := by decide +kernel
theorem dX12_findRoute_184 : decode cX12_findRoute 184 = .ok (.getfield 57, 3) := by decide +kernel
theorem dX12_findRoute_187 : decode cX12_findRoute 187 = .ok (.iload 6, 2) := by decide +kernel
theorem dX12_findRoute_189 : decode cX12_findRoute 189 = .ok (.iaload, 1) := by decide +kernel
theorem dX12_findRoute_190 : decode cX12_findRoute 190 = .ok (.iastore, 1) := by decide +kernel
theorem dX12_findRoute_191 : decode cX12_findRoute 191 = .ok (.iinc 6 1, 3) := by decide +kernel
theorem dX12_findRoute_194 : decode cX12_findRoute 194 = .ok (.goto (-26), 3) := by decide +kernel
theorem dX12_findRoute_197 : decode cX12_findRoute 197 = .ok (.aload_n 0, 1) := by decide +kernel
theorem dX12_findRoute_198 : decode cX12_findRoute 198 = .ok (.invokevirtual 290, 3) := by decide +kernel
theorem dX12_findRoute_201 : decode cX12_findRoute 201 = .ok (.istore_n 2, 1) := by decide +kernel
theorem dX12_findRoute_202 : decode cX12_findRoute 202 = .ok (.goto (-121), 3) := by decide +kernel
theorem dX12_findRoute_205 : decode cX12_findRoute 205 = .ok (.return_, 1) := by decide +kernel
def f_X12_findRoute_b168 (kk81 : Int32 → q_Mem → Option q_Mem) (a0 : Nat) : Nat → Int32 → q_Mem → Option q_Mem
  | 0, _, _ => none
  | n + 1, a6, M =>
    (q_gI 11 20 M a0).bind fun v56 =>
    (if a6 < v56 then
      (q_gR 11 22 M a0).bind fun v58 =>
      (q_gR 11 21 M a0).bind fun v60 =>
      (q_lI M v60 a6).bind fun v62 =>
      (q_tI M v58 a6 v62).bind fun M64 =>
      f_X12_findRoute_b168 kk81 a0 n (a6 + (1 : Int32)) M64
    else
      (f_X12_nextOrder M a0).bind fun r67 =>
      kk81 r67.1 r67.2)
def f_X12_findRoute_b159 (kk81 : Int32 → q_Mem → Option q_Mem) (M : q_Mem) (a0 : Nat) (a4 : Int32) : Option q_Mem :=
  (q_pI 11 23 M a0 a4).bind fun M54 =>
  f_X12_findRoute_b168 kk81 a0 q_fuel (0 : Int32) M54
def f_X12_findRoute_b135 (kk81 : Int32 → q_Mem → Option q_Mem) (M : q_Mem) (a0 : Nat) (a4 : Int32) (s0 : Int32) : Option q_Mem :=
  (if s0 = 0 then
    (f_X12_nextOrder M a0).bind fun r44 =>
    kk81 r44.1 r44.2
  else
    (q_gI 11 23 M a0).bind fun v45 =>
    (if v45 = (-1 : Int32) then
      f_X12_findRoute_b159 kk81 M a0 a4
    else
      (q_gI 11 23 M a0).bind fun v47 =>
      (if a4 < v47 then
        f_X12_findRoute_b159 kk81 M a0 a4
      else
        (f_X12_nextOrder M a0).bind fun r50 =>
        kk81 r50.1 r50.2)))
def f_X12_findRoute_b81 (a0 : Nat) : Nat → Int32 → q_Mem → Option q_Mem
  | 0, _, _ => none
  | n + 1, a2, M =>
    (if a2 = 0 then
      some M
    else
      (f_X12_milesBack M a0).bind fun v28 =>
      (q_gR 11 21 M a0).bind fun v29 =>
      (q_lI M v29 (0 : Int32)).bind fun v31 =>
      (f_X12_farmMiles M a0 v31 (100 : Int32) (100 : Int32)).bind fun v34 =>
      (q_gI 11 20 M a0).bind fun v35 =>
      (q_gR 11 0 M a0).bind fun v37 =>
      (q_lI M v37 (11 : Int32)).bind fun v39 =>
      (if v39 < (((3 : Int32) * v28) + ((5 : Int32) * (v35 - (1 : Int32)))) then
        f_X12_findRoute_b135 (f_X12_findRoute_b81 a0 n) M a0 (v28 + v34) (0 : Int32)
      else
        f_X12_findRoute_b135 (f_X12_findRoute_b81 a0 n) M a0 (v28 + v34) (1 : Int32)))
def f_X12_findRoute_b65 (M : q_Mem) (a0 : Nat) (s0 : Nat) (s1 : Int32) : Option q_Mem :=
  (q_pI 11 23 M s0 s1).bind fun M22 =>
  (q_gI 11 20 M22 a0).bind fun v24 =>
  (if 0 < v24 then
    f_X12_findRoute_b81 a0 q_fuel (1 : Int32) M22
  else
    f_X12_findRoute_b81 a0 q_fuel (0 : Int32) M22)
def f_X12_findRoute_b52 (M : q_Mem) (a0 : Nat) : Option q_Mem :=
  (q_gI 11 20 M a0).bind fun v19 =>
  (if v19 = 0 then
    f_X12_findRoute_b65 M a0 a0 (0 : Int32)
  else
    f_X12_findRoute_b65 M a0 a0 (-1 : Int32))
def f_X12_findRoute_b7 (a0 : Nat) (a1 : Int32) : Nat → Int32 → q_Mem → Option q_Mem
  | 0, _, _ => none
  | n + 1, a2, M =>
    (q_gR 11 0 M a0).bind fun v3 =>
    (q_lI M v3 (0 : Int32)).bind fun v5 =>
    (if a2 < v5 then
      (if ((a1 >>> (a2 &&& 31)) &&& (1 : Int32)) = (1 : Int32) then
        (q_gR 11 21 M a0).bind fun v7 =>
        (q_gI 11 20 M a0).bind fun v9 =>
        (q_tI M v7 v9 a2).bind fun M11 =>
        (q_gI 11 20 M11 a0).bind fun v13 =>
        (q_pI 11 20 M11 a0 (v13 + (1 : Int32))).bind fun M15 =>
        f_X12_findRoute_b7 a0 a1 n (a2 + (1 : Int32)) M15
      else
        f_X12_findRoute_b7 a0 a1 n (a2 + (1 : Int32)) M)
    else
      f_X12_findRoute_b52 M a0)
def f_X12_findRoute (M : q_Mem) (a0 : Nat) (a1 : Int32) : Option q_Mem :=
  q_ob 11 M a0 ((q_pI 11 20 M a0 (0 : Int32)).bind fun M1 =>
  f_X12_findRoute_b7 a0 a1 q_fuel (0 : Int32) M1)
set_option maxRecDepth 20000 in
theorem v_X12_findRoute_b168 {kk81 : Int32 → q_Mem → Option q_Mem} {a0 : Nat} (hk81 : ∀ (a2 : Int32) (M : q_Mem), q_V Y_X12_findRoute none (fun x : q_Mem => (none, x)) 0 0 81 [(0, .ref a0), (2, .int a2)] [] M (kk81 a2 M)) : ∀ (n : Nat) (a6 : Int32) (M : q_Mem), q_V Y_X12_findRoute none (fun x : q_Mem => (none, x)) 0 0 168 [(0, .ref a0), (6, .int a6)] [] M (f_X12_findRoute_b168 kk81 a0 n a6 M) := by
  intro n
  induction n with
  | zero => intro a6 M; exact q_none
  | succ n ih =>
    intro a6 M
    rw [f_X12_findRoute_b168.eq_2]
    refine q_iload 1 dX12_findRoute_168 rfl ?_
    refine q_aload_n 0 dX12_findRoute_170 rfl ?_
    refine q_getI (f := 20) cl_X12 (by decide) qw_1136 rfl dX12_findRoute_171 (Or.inl rfl) (fun v56 h57 => ?_)
    refine q_icmp_ge (tgt := 197) dX12_findRoute_174 (by decide) (fun c68 => ?_) (fun c68 => ?_)
    · refine q_aload_n 0 dX12_findRoute_177 rfl ?_
      refine q_getR (f := 22) cl_X12 (by decide) qw_1138 rfl dX12_findRoute_178 (fun _ _ _ => rfl) (fun v58 h59 => ?_)
      refine q_iload 1 dX12_findRoute_181 rfl ?_
      refine q_aload_n 0 dX12_findRoute_183 rfl ?_
      refine q_getR (f := 21) cl_X12 (by decide) qw_1137 rfl dX12_findRoute_184 (fun _ _ _ => rfl) (fun v60 h61 => ?_)
      refine q_iload 1 dX12_findRoute_187 rfl ?_
      refine q_iald dX12_findRoute_189 (fun v62 h63 => ?_)
      refine q_iast dX12_findRoute_190 (fun M64 h65 => ?_)
      refine q_iinc 1 (y := (a6 + (1 : Int32))) (ls' := [(6, .int (a6 + (1 : Int32))), (0, .ref a0)]) dX12_findRoute_191 rfl rfl (by decide) rfl ?_
      refine q_goto (tgt := 168) dX12_findRoute_194 (by decide) ?_
      refine q_sub (ls' := [(0, .ref a0), (6, .int (a6 + (1 : Int32)))]) [1, 0] rfl ?_
      exact ih _ _
    · refine q_aload_n 0 dX12_findRoute_197 rfl ?_
      refine q_cVMI (Y2 := Y_X12_nextOrder) (As := []) (b := a0) (st := []) cl_X12 mv_X12_nextOrder qw_1570 dX12_findRoute_198 ⟨Nat.le_of_ble_eq_true rfl, Nat.le_of_ble_eq_true rfl⟩ rfl (fun _ _ => rfl) (Nat.le_of_ble_eq_true rfl) ⟨Nat.le_of_ble_eq_true rfl, Nat.le_of_ble_eq_true rfl⟩ (fun r67 h66 => q_ob_is h66) (fun r67 h66 => m_X12_nextOrder h66) (fun r67 h66 => ?_)
      refine q_istore_n (ls' := [(2, .int r67.1), (0, .ref a0), (6, .int a6)]) dX12_findRoute_201 (by decide) rfl ?_
      refine q_goto (tgt := 81) dX12_findRoute_202 (by decide) ?_
      refine q_sub (ls' := [(0, .ref a0), (2, .int r67.1)]) [1, 0] rfl ?_
      exact hk81 _ _
set_option maxRecDepth 20000 in
theorem v_X12_findRoute_b159 {kk81 : Int32 → q_Mem → Option q_Mem} {M : q_Mem} {a0 : Nat} {a4 : Int32}  (hk81 : ∀ (a2 : Int32) (M : q_Mem), q_V Y_X12_findRoute none (fun x : q_Mem => (none, x)) 0 0 81 [(0, .ref a0), (2, .int a2)] [] M (kk81 a2 M)): q_V Y_X12_findRoute none (fun x : q_Mem => (none, x)) 0 0 159 [(0, .ref a0), (4, .int a4)] [] M (f_X12_findRoute_b159 kk81 M a0 a4 ) := by
  unfold f_X12_findRoute_b159
  refine q_aload_n 0 dX12_findRoute_159 rfl ?_
  refine q_iload 1 dX12_findRoute_160 rfl ?_
  refine q_putI (f := 23) cl_X12 (by decide) qw_1139 rfl (Or.inl rfl) dX12_findRoute_162 rfl (fun M54 h55 => ?_)
  refine q_iconst (x := (0 : Int32)) dX12_findRoute_165 rfl ?_
  refine q_istore (ls' := [(6, .int (0 : Int32)), (0, .ref a0), (4, .int a4)]) dX12_findRoute_166 (by decide) rfl ?_
  refine q_sub (ls' := [(0, .ref a0), (6, .int (0 : Int32))]) [1, 0] rfl ?_
  exact v_X12_findRoute_b168 (hk81) _ _ _
set_option maxRecDepth 20000 in
theorem v_X12_findRoute_b135 {kk81 : Int32 → q_Mem → Option q_Mem} {M : q_Mem} {a0 : Nat} {a4 : Int32} {s0 : Int32}  (hk81 : ∀ (a2 : Int32) (M : q_Mem), q_V Y_X12_findRoute none (fun x : q_Mem => (none, x)) 0 0 81 [(0, .ref a0), (2, .int a2)] [] M (kk81 a2 M)): q_V Y_X12_findRoute none (fun x : q_Mem => (none, x)) 0 0 135 [(0, .ref a0), (4, .int a4)] [.int s0] M (f_X12_findRoute_b135 kk81 M a0 a4 s0) := by
  unfold f_X12_findRoute_b135
  refine q_istore (ls' := [(5, .int s0), (0, .ref a0), (4, .int a4)]) dX12_findRoute_135 (by decide) rfl ?_
  refine q_iload 0 dX12_findRoute_137 rfl ?_
  refine q_if_eq (tgt := 197) dX12_findRoute_139 (by decide) (fun c53 => ?_) (fun c53 => ?_)
  · refine q_aload_n 1 dX12_findRoute_197 rfl ?_
    refine q_cVMI (Y2 := Y_X12_nextOrder) (As := []) (b := a0) (st := []) cl_X12 mv_X12_nextOrder qw_1570 dX12_findRoute_198 ⟨Nat.le_of_ble_eq_true rfl, Nat.le_of_ble_eq_true rfl⟩ rfl (fun _ _ => rfl) (Nat.le_of_ble_eq_true rfl) ⟨Nat.le_of_ble_eq_true rfl, Nat.le_of_ble_eq_true rfl⟩ (fun r44 h43 => q_ob_is h43) (fun r44 h43 => m_X12_nextOrder h43) (fun r44 h43 => ?_)
    refine q_istore_n (ls' := [(2, .int r44.1), (5, .int s0), (0, .ref a0), (4, .int a4)]) dX12_findRoute_201 (by decide) rfl ?_
    refine q_goto (tgt := 81) dX12_findRoute_202 (by decide) ?_
    refine q_sub (ls' := [(0, .ref a0), (2, .int r44.1)]) [2, 0] rfl ?_
    exact hk81 _ _
  · refine q_aload_n 1 dX12_findRoute_142 rfl ?_
    refine q_getI (f := 23) cl_X12 (by decide) qw_1139 rfl dX12_findRoute_143 (Or.inl rfl) (fun v45 h46 => ?_)
    refine q_iconst (x := (-1 : Int32)) dX12_findRoute_146 rfl ?_
    refine q_icmp_eq (tgt := 159) dX12_findRoute_147 (by decide) (fun c52 => ?_) (fun c52 => ?_)
    · refine q_sub (ls' := [(0, .ref a0), (4, .int a4)]) [1, 2] rfl ?_
      exact v_X12_findRoute_b159 (hk81)
    · refine q_iload 2 dX12_findRoute_150 rfl ?_
      refine q_aload_n 1 dX12_findRoute_152 rfl ?_
      refine q_getI (f := 23) cl_X12 (by decide) qw_1139 rfl dX12_findRoute_153 (Or.inl rfl) (fun v47 h48 => ?_)
      refine q_icmp_ge (tgt := 197) dX12_findRoute_156 (by decide) (fun c51 => ?_) (fun c51 => ?_)
      · refine q_sub (ls' := [(0, .ref a0), (4, .int a4)]) [1, 2] rfl ?_
        exact v_X12_findRoute_b159 (hk81)
      · refine q_aload_n 1 dX12_findRoute_197 rfl ?_
        refine q_cVMI (Y2 := Y_X12_nextOrder) (As := []) (b := a0) (st := []) cl_X12 mv_X12_nextOrder qw_1570 dX12_findRoute_198 ⟨Nat.le_of_ble_eq_true rfl, Nat.le_of_ble_eq_true rfl⟩ rfl (fun _ _ => rfl) (Nat.le_of_ble_eq_true rfl) ⟨Nat.le_of_ble_eq_true rfl, Nat.le_of_ble_eq_true rfl⟩ (fun r50 h49 => q_ob_is h49) (fun r50 h49 => m_X12_nextOrder h49) (fun r50 h49 => ?_)
        refine q_istore_n (ls' := [(2, .int r50.1), (5, .int s0), (0, .ref a0), (4, .int a4)]) dX12_findRoute_201 (by decide) rfl ?_
        refine q_goto (tgt := 81) dX12_findRoute_202 (by decide) ?_
        refine q_sub (ls' := [(0, .ref a0), (2, .int r50.1)]) [2, 0] rfl ?_
        exact hk81 _ _
set_option maxRecDepth 20000 in
theorem v_X12_findRoute_b81 {a0 : Nat}  : ∀ (n : Nat) (a2 : Int32) (M : q_Mem), q_V Y_X12_findRoute none (fun x : q_Mem => (none, x)) 0 0 81 [(0, .ref a0), (2, .int a2)] [] M (f_X12_findRoute_b81 a0 n a2 M) := by
  intro n
  induction n with
  | zero => intro a2 M; exact q_none
  | succ n ih =>
    intro a2 M
    rw [f_X12_findRoute_b81.eq_2]
    refine q_iload_n 1 dX12_findRoute_81 rfl ?_
    refine q_if_eq (tgt := 205) dX12_findRoute_82 (by decide) (fun c42 => ?_) (fun c42 => ?_)
    · exact q_vret dX12_findRoute_205 rfl rfl (Nat.le_of_ble_eq_true rfl) rfl
    · refine q_aload_n 0 dX12_findRoute_85 rfl ?_
      refine q_cVI (Y2 := Y_X12_milesBack) (As := []) (b := a0) (st := []) cl_X12 mv_X12_milesBack qw_1559 dX12_findRoute_86 ⟨Nat.le_of_ble_eq_true rfl, Nat.le_of_ble_eq_true rfl⟩ rfl (fun _ _ => rfl) (Nat.le_of_ble_eq_true rfl) ⟨Nat.le_of_ble_eq_true rfl, Nat.le_of_ble_eq_true rfl⟩ (fun v28 h27 => q_ob_is h27) (fun v28 h27 => m_X12_milesBack h27) (fun v28 h27 => ?_)
      refine q_istore_n (ls' := [(3, .int v28), (0, .ref a0), (2, .int a2)]) dX12_findRoute_89 (by decide) rfl ?_
      refine q_iload_n 0 dX12_findRoute_90 rfl ?_
      refine q_aload_n 1 dX12_findRoute_91 rfl ?_
      refine q_aload_n 1 dX12_findRoute_92 rfl ?_
      refine q_getR (f := 21) cl_X12 (by decide) qw_1137 rfl dX12_findRoute_93 (fun _ _ _ => rfl) (fun v29 h30 => ?_)
      refine q_iconst (x := (0 : Int32)) dX12_findRoute_96 rfl ?_
      refine q_iald dX12_findRoute_97 (fun v31 h32 => ?_)
      refine q_bipush (x := (100 : Int32)) dX12_findRoute_98 rfl ?_
      refine q_bipush (x := (100 : Int32)) dX12_findRoute_100 rfl ?_
      refine q_cVI (Y2 := Y_X12_farmMiles) (As := [.int v31, .int (100 : Int32), .int (100 : Int32)]) (b := a0) (st := [.int v28]) cl_X12 mv_X12_farmMiles qw_1563 dX12_findRoute_102 ⟨Nat.le_of_ble_eq_true rfl, Nat.le_of_ble_eq_true rfl⟩ rfl (fun _ _ => rfl) (Nat.le_of_ble_eq_true rfl) ⟨Nat.le_of_ble_eq_true rfl, Nat.le_of_ble_eq_true rfl⟩ (fun v34 h33 => q_ob_is h33) (fun v34 h33 => m_X12_farmMiles h33) (fun v34 h33 => ?_)
      refine q_iadd dX12_findRoute_105 ?_
      refine q_istore (ls' := [(4, .int (v28 + v34)), (3, .int v28), (0, .ref a0), (2, .int a2)]) dX12_findRoute_106 (by decide) rfl ?_
      refine q_iconst (x := (3 : Int32)) dX12_findRoute_108 rfl ?_
      refine q_iload_n 1 dX12_findRoute_109 rfl ?_
      refine q_imul dX12_findRoute_110 ?_
      refine q_iconst (x := (5 : Int32)) dX12_findRoute_111 rfl ?_
      refine q_aload_n 2 dX12_findRoute_112 rfl ?_
      refine q_getI (f := 20) cl_X12 (by decide) qw_1136 rfl dX12_findRoute_113 (Or.inl rfl) (fun v35 h36 => ?_)
      refine q_iconst (x := (1 : Int32)) dX12_findRoute_116 rfl ?_
      refine q_isub dX12_findRoute_117 ?_
      refine q_imul dX12_findRoute_118 ?_
      refine q_iadd dX12_findRoute_119 ?_
      refine q_aload_n 2 dX12_findRoute_120 rfl ?_
      refine q_getR (f := 0) cl_X12 (by decide) qw_1117 rfl dX12_findRoute_121 (fun _ _ _ => rfl) (fun v37 h38 => ?_)
      refine q_bipush (x := (11 : Int32)) dX12_findRoute_124 rfl ?_
      refine q_iald dX12_findRoute_126 (fun v39 h40 => ?_)
      refine q_icmp_gt (tgt := 134) dX12_findRoute_127 (by decide) (fun c41 => ?_) (fun c41 => ?_)
      · refine q_iconst (x := (0 : Int32)) dX12_findRoute_134 rfl ?_
        refine q_sub (ls' := [(0, .ref a0), (4, .int (v28 + v34))]) [2, 0] rfl ?_
        exact v_X12_findRoute_b135 (ih)
      · refine q_iconst (x := (1 : Int32)) dX12_findRoute_130 rfl ?_
        refine q_goto (tgt := 135) dX12_findRoute_131 (by decide) ?_
        refine q_sub (ls' := [(0, .ref a0), (4, .int (v28 + v34))]) [2, 0] rfl ?_
        exact v_X12_findRoute_b135 (ih)
set_option maxRecDepth 20000 in
theorem v_X12_findRoute_b65 {M : q_Mem} {a0 : Nat} {s0 : Nat} {s1 : Int32}  : q_V Y_X12_findRoute none (fun x : q_Mem => (none, x)) 0 0 65 [(0, .ref a0)] [.int s1, .ref s0] M (f_X12_findRoute_b65 M a0 s0 s1) := by
  unfold f_X12_findRoute_b65
  refine q_putI (f := 23) cl_X12 (by decide) qw_1139 rfl (Or.inl rfl) dX12_findRoute_65 rfl (fun M22 h23 => ?_)
  refine q_aload_n 0 dX12_findRoute_68 rfl ?_
  refine q_getI (f := 20) cl_X12 (by decide) qw_1136 rfl dX12_findRoute_69 (Or.inl rfl) (fun v24 h25 => ?_)
  refine q_if_le (tgt := 79) dX12_findRoute_72 (by decide) (fun c26 => ?_) (fun c26 => ?_)
  · refine q_iconst (x := (1 : Int32)) dX12_findRoute_75 rfl ?_
    refine q_goto (tgt := 80) dX12_findRoute_76 (by decide) ?_
    refine q_istore_n (ls' := [(2, .int (1 : Int32)), (0, .ref a0)]) dX12_findRoute_80 (by decide) rfl ?_
    refine q_sub (ls' := [(0, .ref a0), (2, .int (1 : Int32))]) [1, 0] rfl ?_
    exact v_X12_findRoute_b81 _ _ _
  · refine q_iconst (x := (0 : Int32)) dX12_findRoute_79 rfl ?_
    refine q_istore_n (ls' := [(2, .int (0 : Int32)), (0, .ref a0)]) dX12_findRoute_80 (by decide) rfl ?_
    refine q_sub (ls' := [(0, .ref a0), (2, .int (0 : Int32))]) [1, 0] rfl ?_
    exact v_X12_findRoute_b81 _ _ _
set_option maxRecDepth 20000 in
theorem v_X12_findRoute_b52 {M : q_Mem} {a0 : Nat}  : q_V Y_X12_findRoute none (fun x : q_Mem => (none, x)) 0 0 52 [(0, .ref a0)] [] M (f_X12_findRoute_b52 M a0 ) := by
  unfold f_X12_findRoute_b52
  refine q_aload_n 0 dX12_findRoute_52 rfl ?_
  refine q_aload_n 0 dX12_findRoute_53 rfl ?_
  refine q_getI (f := 20) cl_X12 (by decide) qw_1136 rfl dX12_findRoute_54 (Or.inl rfl) (fun v19 h20 => ?_)
  refine q_if_ne (tgt := 64) dX12_findRoute_57 (by decide) (fun c21 => ?_) (fun c21 => ?_)
  · refine q_iconst (x := (0 : Int32)) dX12_findRoute_60 rfl ?_
    refine q_goto (tgt := 65) dX12_findRoute_61 (by decide) ?_
    exact v_X12_findRoute_b65
  · refine q_iconst (x := (-1 : Int32)) dX12_findRoute_64 rfl ?_
    exact v_X12_findRoute_b65
set_option maxRecDepth 20000 in
theorem v_X12_findRoute_b7 {a0 : Nat} {a1 : Int32}  : ∀ (n : Nat) (a2 : Int32) (M : q_Mem), q_V Y_X12_findRoute none (fun x : q_Mem => (none, x)) 0 0 7 [(0, .ref a0), (1, .int a1), (2, .int a2)] [] M (f_X12_findRoute_b7 a0 a1 n a2 M) := by
  intro n
  induction n with
  | zero => intro a2 M; exact q_none
  | succ n ih =>
    intro a2 M
    rw [f_X12_findRoute_b7.eq_2]
    refine q_iload_n 2 dX12_findRoute_7 rfl ?_
    refine q_aload_n 0 dX12_findRoute_8 rfl ?_
    refine q_getR (f := 0) cl_X12 (by decide) qw_1117 rfl dX12_findRoute_9 (fun _ _ _ => rfl) (fun v3 h4 => ?_)
    refine q_iconst (x := (0 : Int32)) dX12_findRoute_12 rfl ?_
    refine q_iald dX12_findRoute_13 (fun v5 h6 => ?_)
    refine q_icmp_ge (tgt := 52) dX12_findRoute_14 (by decide) (fun c18 => ?_) (fun c18 => ?_)
    · refine q_iload_n 1 dX12_findRoute_17 rfl ?_
      refine q_iload_n 2 dX12_findRoute_18 rfl ?_
      refine q_ishr dX12_findRoute_19 ?_
      refine q_iconst (x := (1 : Int32)) dX12_findRoute_20 rfl ?_
      refine q_iand dX12_findRoute_21 ?_
      refine q_iconst (x := (1 : Int32)) dX12_findRoute_22 rfl ?_
      refine q_icmp_ne (tgt := 46) dX12_findRoute_23 (by decide) (fun c17 => ?_) (fun c17 => ?_)
      · refine q_aload_n 0 dX12_findRoute_26 rfl ?_
        refine q_getR (f := 21) cl_X12 (by decide) qw_1137 rfl dX12_findRoute_27 (fun _ _ _ => rfl) (fun v7 h8 => ?_)
        refine q_aload_n 0 dX12_findRoute_30 rfl ?_
        refine q_getI (f := 20) cl_X12 (by decide) qw_1136 rfl dX12_findRoute_31 (Or.inl rfl) (fun v9 h10 => ?_)
        refine q_iload_n 2 dX12_findRoute_34 rfl ?_
        refine q_iast dX12_findRoute_35 (fun M11 h12 => ?_)
        refine q_aload_n 0 dX12_findRoute_36 rfl ?_
        refine q_dup dX12_findRoute_37 rfl ?_
        refine q_getI (f := 20) cl_X12 (by decide) qw_1136 rfl dX12_findRoute_38 (Or.inl rfl) (fun v13 h14 => ?_)
        refine q_iconst (x := (1 : Int32)) dX12_findRoute_41 rfl ?_
        refine q_iadd dX12_findRoute_42 ?_
        refine q_putI (f := 20) cl_X12 (by decide) qw_1136 rfl (Or.inl rfl) dX12_findRoute_43 rfl (fun M15 h16 => ?_)
        refine q_iinc 2 (y := (a2 + (1 : Int32))) (ls' := [(2, .int (a2 + (1 : Int32))), (0, .ref a0), (1, .int a1)]) dX12_findRoute_46 rfl rfl (by decide) rfl ?_
        refine q_goto (tgt := 7) dX12_findRoute_49 (by decide) ?_
        refine q_sub (ls' := [(0, .ref a0), (1, .int a1), (2, .int (a2 + (1 : Int32)))]) [1, 2, 0] rfl ?_
        exact ih _ _
      · refine q_iinc 2 (y := (a2 + (1 : Int32))) (ls' := [(2, .int (a2 + (1 : Int32))), (0, .ref a0), (1, .int a1)]) dX12_findRoute_46 rfl rfl (by decide) rfl ?_
        refine q_goto (tgt := 7) dX12_findRoute_49 (by decide) ?_
        refine q_sub (ls' := [(0, .ref a0), (1, .int a1), (2, .int (a2 + (1 : Int32)))]) [1, 2, 0] rfl ?_
        exact ih _ _
    · refine q_sub (ls' := [(0, .ref a0)]) [0] rfl ?_
      exact v_X12_findRoute_b52
set_option maxRecDepth 20000 in
theorem m_X12_findRoute {M : q_Mem} {a0 : Nat} {a1 : Int32} {x : q_Mem} (h : f_X12_findRoute M a0 a1 = some x) : q_C Y_X12_findRoute [.ref a0, .int a1] M none x := by
  refine q_met (φ := (fun x : q_Mem => (none, x))) (r := f_X12_findRoute M a0 a1) (by decide +kernel) (Nat.le_of_ble_eq_true rfl) ?_ h (fun _ _ => rfl)
  show q_V Y_X12_findRoute none (fun x : q_Mem => (none, x)) 0 0 0 [(0, .ref a0), (1, .int a1)] [] M (f_X12_findRoute M a0 a1)
  unfold f_X12_findRoute
  refine q_obV ?_
  refine q_aload_n 0 dX12_findRoute_0 rfl ?_
  refine q_iconst (x := (0 : Int32)) dX12_findRoute_1 rfl ?_
  refine q_putI (f := 20) cl_X12 (by decide) qw_1136 rfl (Or.inl rfl) dX12_findRoute_2 rfl (fun M1 h2 => ?_)
  refine q_iconst (x := (0 : Int32)) dX12_findRoute_5 rfl ?_
  refine q_istore_n (ls' := [(2, .int (0 : Int32)), (0, .ref a0), (1, .int a1)]) dX12_findRoute_6 (by decide) rfl ?_
  refine q_sub (ls' := [(0, .ref a0), (1, .int a1), (2, .int (0 : Int32))]) [1, 2, 0] rfl ?_
  exact v_X12_findRoute_b7 _ _ _
theorem dX12_sizeOf_0 : decode cX12_sizeOf 0 = .ok (.iconst 0, 1) := by decide +kernel
theorem dX12_sizeOf_1 : decode cX12_sizeOf 1 = .ok (.istore_n 1, 1) := by decide +kernel
theorem dX12_sizeOf_2 : decode cX12_sizeOf 2 = .ok (.iload_n 0, 1) := by decide +kernel
theorem dX12_sizeOf_3 : decode cX12_sizeOf 3 = .ok (.istore_n 2, 1) := by decide +kernel
theorem dX12_sizeOf_4 : decode cX12_sizeOf 4 = .ok (.iload_n 2, 1) := by decide +kernel
theorem dX12_sizeOf_5 : decode cX12_sizeOf 5 = .ok (.ifCond .le 16, 3) := by decide +kernel
theorem dX12_sizeOf_8 : decode cX12_sizeOf 8 = .ok (.iload_n 1, 1) := by decide +kernel
theorem dX12_sizeOf_9 : decode cX12_sizeOf 9 = .ok (.iload_n 2, 1) := by decide +kernel
theorem dX12_sizeOf_10 : decode cX12_sizeOf 10 = .ok (.iconst 1, 1) := by decide +kernel
theorem dX12_sizeOf_11 : decode cX12_sizeOf 11 = .ok (.iand, 1) := by decide +kernel
theorem dX12_sizeOf_12 : decode cX12_sizeOf 12 = .ok (.iadd, 1) := by decide +kernel
theorem dX12_sizeOf_13 : decode cX12_sizeOf 13 = .ok (.istore_n 1, 1) := by decide +kernel
theorem dX12_sizeOf_14 : decode cX12_sizeOf 14 = .ok (.iload_n 2, 1) := by decide +kernel
theorem dX12_sizeOf_15 : decode cX12_sizeOf 15 = .ok (.iconst 1, 1) := by decide +kernel
theorem dX12_sizeOf_16 : decode cX12_sizeOf 16 = .ok (.ishr, 1) := by decide +kernel
theorem dX12_sizeOf_17 : decode cX12_sizeOf 17 = .ok (.istore_n 2, 1) := by decide +kernel
theorem dX12_sizeOf_18 : decode cX12_sizeOf 18 = .ok (.goto (-14), 3) := by decide +kernel
theorem dX12_sizeOf_21 : decode cX12_sizeOf 21 = .ok (.iload_n 1, 1) := by decide +kernel
theorem dX12_sizeOf_22 : decode cX12_sizeOf 22 = .ok (.ireturn, 1) := by decide +kernel
def f_X12_sizeOf_b4 (M : q_Mem)  : Nat → Int32 → Int32 → Option Int32
  | 0, _, _ => none
  | n + 1, a1, a2 =>
    (if 0 < a2 then
      f_X12_sizeOf_b4 M n (a1 + (a2 &&& (1 : Int32))) (a2 >>> ((1 : Int32) &&& 31))
    else
      some a1)
def f_X12_sizeOf (M : q_Mem) (a0 : Int32) : Option Int32 :=
  f_X12_sizeOf_b4 M  q_fuel (0 : Int32) a0
set_option maxRecDepth 20000 in
theorem v_X12_sizeOf_b4 {M : q_Mem}   : ∀ (n : Nat) (a1 : Int32) (a2 : Int32), q_V Y_X12_sizeOf none (fun x : Int32 => (some (.int x), M)) 0 0 4 [(1, .int a1), (2, .int a2)] [] M (f_X12_sizeOf_b4 M n a1 a2) := by
  intro n
  induction n with
  | zero => intro a1 a2; exact q_none
  | succ n ih =>
    intro a1 a2
    rw [f_X12_sizeOf_b4.eq_2]
    refine q_iload_n 1 dX12_sizeOf_4 rfl ?_
    refine q_if_le (tgt := 21) dX12_sizeOf_5 (by decide) (fun c1 => ?_) (fun c1 => ?_)
    · refine q_iload_n 0 dX12_sizeOf_8 rfl ?_
      refine q_iload_n 1 dX12_sizeOf_9 rfl ?_
      refine q_iconst (x := (1 : Int32)) dX12_sizeOf_10 rfl ?_
      refine q_iand dX12_sizeOf_11 ?_
      refine q_iadd dX12_sizeOf_12 ?_
      refine q_istore_n (ls' := [(1, .int (a1 + (a2 &&& (1 : Int32)))), (2, .int a2)]) dX12_sizeOf_13 (by decide) rfl ?_
      refine q_iload_n 1 dX12_sizeOf_14 rfl ?_
      refine q_iconst (x := (1 : Int32)) dX12_sizeOf_15 rfl ?_
      refine q_ishr dX12_sizeOf_16 ?_
      refine q_istore_n (ls' := [(2, .int (a2 >>> ((1 : Int32) &&& 31))), (1, .int (a1 + (a2 &&& (1 : Int32))))]) dX12_sizeOf_17 (by decide) rfl ?_
      refine q_goto (tgt := 4) dX12_sizeOf_18 (by decide) ?_
      refine q_sub (ls' := [(1, .int (a1 + (a2 &&& (1 : Int32)))), (2, .int (a2 >>> ((1 : Int32) &&& 31)))]) [1, 0] rfl ?_
      exact ih _ _
    · refine q_iload_n 0 dX12_sizeOf_21 rfl ?_
      exact q_iret dX12_sizeOf_22 rfl rfl (Nat.le_of_ble_eq_true rfl) rfl
set_option maxRecDepth 20000 in
theorem m_X12_sizeOf {M : q_Mem} {a0 : Int32} {x : Int32} (h : f_X12_sizeOf M a0 = some x) : q_C Y_X12_sizeOf [.int a0] M (some (.int x)) M := by
  refine q_met (φ := (fun x : Int32 => (some (.int x), M))) (r := f_X12_sizeOf M a0) (by decide +kernel) (Nat.le_of_ble_eq_true rfl) ?_ h (fun _ _ => rfl)
  show q_V Y_X12_sizeOf none (fun x : Int32 => (some (.int x), M)) 0 0 0 [(0, .int a0)] [] M (f_X12_sizeOf M a0)
  unfold f_X12_sizeOf
  refine q_iconst (x := (0 : Int32)) dX12_sizeOf_0 rfl ?_
  refine q_istore_n (ls' := [(1, .int (0 : Int32)), (0, .int a0)]) dX12_sizeOf_1 (by decide) rfl ?_
  refine q_iload_n 1 dX12_sizeOf_2 rfl ?_
  refine q_istore_n (ls' := [(2, .int a0), (1, .int (0 : Int32)), (0, .int a0)]) dX12_sizeOf_3 (by decide) rfl ?_
  refine q_sub (ls' := [(1, .int (0 : Int32)), (2, .int a0)]) [1, 0] rfl ?_
  exact v_X12_sizeOf_b4 _ _ _
theorem dX12_whyRoute_0 : decode cX12_whyRoute 0 = .ok (.iload_n 2, 1) := by decide +kernel
theorem dX12_whyRoute_1 : decode cX12_whyRoute 1 = .ok (.ifCond .eq 21, 3) := by decide +kernel
theorem dX12_whyRoute_4 : decode cX12_whyRoute 4 = .ok (.iload_n 1, 1) := by decide +kernel
theorem dX12_whyRoute_5 : decode cX12_whyRoute 5 = .ok (.iconst 0, 1) := by decide +kernel
theorem dX12_whyRoute_6 : decode cX12_whyRoute 6 = .ok (.iconst 1, 1) := by decide +kernel
theorem dX12_whyRoute_7 : decode cX12_whyRoute 7 = .ok (.aload_n 0, 1) := by decide +kernel
theorem dX12_whyRoute_8 : decode cX12_whyRoute 8 = .ok (.getfield 7, 3) := by decide +kernel
theorem dX12_whyRoute_11 : decode cX12_whyRoute 11 = .ok (.iconst 0, 1) := by decide +kernel
theorem dX12_whyRoute_12 : decode cX12_whyRoute 12 = .ok (.iaload, 1) := by decide +kernel
theorem dX12_whyRoute_13 : decode cX12_whyRoute 13 = .ok (.ishl, 1) := by decide +kernel
theorem dX12_whyRoute_14 : decode cX12_whyRoute 14 = .ok (.iconst 1, 1) := by decide +kernel
theorem dX12_whyRoute_15 : decode cX12_whyRoute 15 = .ok (.isub, 1) := by decide +kernel
theorem dX12_whyRoute_16 : decode cX12_whyRoute 16 = .ok (.invokestatic 78, 3) := by decide +kernel
theorem dX12_whyRoute_19 : decode cX12_whyRoute 19 = .ok (.ifCond .ne 8, 3) := by decide +kernel
theorem dX12_whyRoute_22 : decode cX12_whyRoute 22 = .ok (.bipush (-2), 2) := by decide +kernel
theorem dX12_whyRoute_24 : decode cX12_whyRoute 24 = .ok (.goto 18, 3) := by decide +kernel
theorem dX12_whyRoute_27 : decode cX12_whyRoute 27 = .ok (.iload_n 1, 1) := by decide +kernel
theorem dX12_whyRoute_28 : decode cX12_whyRoute 28 = .ok (.invokestatic 293, 3) := by decide +kernel
theorem dX12_whyRoute_31 : decode cX12_whyRoute 31 = .ok (.bipush 8, 2) := by decide +kernel
theorem dX12_whyRoute_33 : decode cX12_whyRoute 33 = .ok (.if_icmp .le 8, 3) := by decide +kernel
theorem dX12_whyRoute_36 : decode cX12_whyRoute 36 = .ok (.bipush (-3), 2) := by decide +kernel
theorem dX12_whyRoute_38 : decode cX12_whyRoute 38 = .ok (.goto 4, 3) := by decide +kernel
theorem dX12_whyRoute_41 : decode cX12_whyRoute 41 = .ok (.iconst 1, 1) := by decide +kernel
theorem dX12_whyRoute_42 : decode cX12_whyRoute 42 = .ok (.ireturn, 1) := by decide +kernel
def f_X12_whyRoute (M : q_Mem) (a0 : Nat) (a1 : Int32) (a2 : Int32) : Option Int32 :=
  q_ob 11 M a0 ((if a2 = 0 then
    some (-2 : Int32)
  else
    (q_gR 11 0 M a0).bind fun v1 =>
    (q_lI M v1 (0 : Int32)).bind fun v3 =>
    (f_X12_in M a1 (0 : Int32) (((1 : Int32) <<< (v3 &&& 31)) - (1 : Int32))).bind fun v6 =>
    (if v6 = 0 then
      some (-2 : Int32)
    else
      (f_X12_sizeOf M a1).bind fun v8 =>
      (if (8 : Int32) < v8 then
        some (-3 : Int32)
      else
        some (1 : Int32)))))
set_option maxRecDepth 20000 in
theorem m_X12_whyRoute {M : q_Mem} {a0 : Nat} {a1 : Int32} {a2 : Int32} {x : Int32} (h : f_X12_whyRoute M a0 a1 a2 = some x) : q_C Y_X12_whyRoute [.ref a0, .int a1, .int a2] M (some (.int x)) M := by
  refine q_met (φ := (fun x : Int32 => (some (.int x), M))) (r := f_X12_whyRoute M a0 a1 a2) (by decide +kernel) (Nat.le_of_ble_eq_true rfl) ?_ h (fun _ _ => rfl)
  show q_V Y_X12_whyRoute none (fun x : Int32 => (some (.int x), M)) 0 0 0 [(0, .ref a0), (1, .int a1), (2, .int a2)] [] M (f_X12_whyRoute M a0 a1 a2)
  unfold f_X12_whyRoute
  refine q_obV ?_
  refine q_iload_n 2 dX12_whyRoute_0 rfl ?_
  refine q_if_eq (tgt := 22) dX12_whyRoute_1 (by decide) (fun c11 => ?_) (fun c11 => ?_)
  · refine q_bipush (x := (-2 : Int32)) dX12_whyRoute_22 rfl ?_
    refine q_goto (tgt := 42) dX12_whyRoute_24 (by decide) ?_
    exact q_iret dX12_whyRoute_42 rfl rfl (Nat.le_of_ble_eq_true rfl) rfl
  · refine q_iload_n 1 dX12_whyRoute_4 rfl ?_
    refine q_iconst (x := (0 : Int32)) dX12_whyRoute_5 rfl ?_
    refine q_iconst (x := (1 : Int32)) dX12_whyRoute_6 rfl ?_
    refine q_aload_n 0 dX12_whyRoute_7 rfl ?_
    refine q_getR (f := 0) cl_X12 (by decide) qw_1117 rfl dX12_whyRoute_8 (fun _ _ _ => rfl) (fun v1 h2 => ?_)
    refine q_iconst (x := (0 : Int32)) dX12_whyRoute_11 rfl ?_
    refine q_iald dX12_whyRoute_12 (fun v3 h4 => ?_)
    refine q_ishl dX12_whyRoute_13 ?_
    refine q_iconst (x := (1 : Int32)) dX12_whyRoute_14 rfl ?_
    refine q_isub dX12_whyRoute_15 ?_
    refine q_cSI (Y2 := Y_X12_in) (As := [.int a1, .int (0 : Int32), .int (((1 : Int32) <<< (v3 &&& 31)) - (1 : Int32))]) (st := []) ms_X12_in qw_1214 dX12_whyRoute_16 ⟨Nat.le_of_ble_eq_true rfl, Nat.le_of_ble_eq_true rfl⟩ rfl (fun _ _ => rfl) (Nat.le_of_ble_eq_true rfl) ⟨Nat.le_of_ble_eq_true rfl, Nat.le_of_ble_eq_true rfl⟩ (fun v6 h5 => m_X12_in h5) (fun v6 h5 => ?_)
    refine q_if_ne (tgt := 27) dX12_whyRoute_19 (by decide) (fun c10 => ?_) (fun c10 => ?_)
    · refine q_bipush (x := (-2 : Int32)) dX12_whyRoute_22 rfl ?_
      refine q_goto (tgt := 42) dX12_whyRoute_24 (by decide) ?_
      exact q_iret dX12_whyRoute_42 rfl rfl (Nat.le_of_ble_eq_true rfl) rfl
    · refine q_iload_n 1 dX12_whyRoute_27 rfl ?_
      refine q_cSI (Y2 := Y_X12_sizeOf) (As := [.int a1]) (st := []) ms_X12_sizeOf qw_1552 dX12_whyRoute_28 ⟨Nat.le_of_ble_eq_true rfl, Nat.le_of_ble_eq_true rfl⟩ rfl (fun _ _ => rfl) (Nat.le_of_ble_eq_true rfl) ⟨Nat.le_of_ble_eq_true rfl, Nat.le_of_ble_eq_true rfl⟩ (fun v8 h7 => m_X12_sizeOf h7) (fun v8 h7 => ?_)
      refine q_bipush (x := (8 : Int32)) dX12_whyRoute_31 rfl ?_
      refine q_icmp_le (tgt := 41) dX12_whyRoute_33 (by decide) (fun c9 => ?_) (fun c9 => ?_)
      · refine q_bipush (x := (-3 : Int32)) dX12_whyRoute_36 rfl ?_
        refine q_goto (tgt := 42) dX12_whyRoute_38 (by decide) ?_
        exact q_iret dX12_whyRoute_42 rfl rfl (Nat.le_of_ble_eq_true rfl) rfl
      · refine q_iconst (x := (1 : Int32)) dX12_whyRoute_41 rfl ?_
        exact q_iret dX12_whyRoute_42 rfl rfl (Nat.le_of_ble_eq_true rfl) rfl
theorem dX12_route_0 : decode cX12_route 0 = .ok (.aload_n 0, 1) := by decide +kernel
theorem dX12_route_1 : decode cX12_route 1 = .ok (.iload_n 1, 1) := by decide +kernel
theorem dX12_route_2 : decode cX12_route 2 = .ok (.iconst 1, 1) := by decide +kernel
theorem dX12_route_3 : decode cX12_route 3 = .ok (.invokevirtual 296, 3) := by decide +kernel
theorem dX12_route_6 : decode cX12_route 6 = .ok (.istore_n 2, 1) := by decide +kernel
theorem dX12_route_7 : decode cX12_route 7 = .ok (.iload_n 2, 1) := by decide +kernel
theorem dX12_route_8 : decode cX12_route 8 = .ok (.iconst 1, 1) := by decide +kernel
theorem dX12_route_9 : decode cX12_route 9 = .ok (.if_icmp .eq 5, 3) := by decide +kernel
theorem dX12_route_12 : decode cX12_route 12 = .ok (.iload_n 2, 1) := by decide +kernel
theorem dX12_route_13 : decode cX12_route 13 = .ok (.ireturn, 1) := by decide +kernel
theorem dX12_route_14 : decode cX12_route 14 = .ok (.aload_n 0, 1) := by decide +kernel
theorem dX12_route_15 : decode cX12_route 15 = .ok (.iload_n 1, 1) := by decide +kernel
theorem dX12_route_16 : decode cX12_route 16 = .ok (.invokevirtual 300, 3) := by decide +kernel
theorem dX12_route_19 : decode cX12_route 19 = .ok (.aload_n 0, 1) := by decide +kernel
theorem dX12_route_20 : decode cX12_route 20 = .ok (.getfield 284, 3) := by decide +kernel
theorem dX12_route_23 : decode cX12_route 23 = .ok (.ireturn, 1) := by decide +kernel
def f_X12_route (M : q_Mem) (a0 : Nat) (a1 : Int32) : Option (Int32 × q_Mem) :=
  q_ob 11 M a0 ((f_X12_whyRoute M a0 a1 (1 : Int32)).bind fun v2 =>
  (if v2 = (1 : Int32) then
    (f_X12_findRoute M a0 a1).bind fun M5 =>
    (q_gI 11 23 M5 a0).bind fun v6 =>
    some (v6, M5)
  else
    some (v2, M)))
set_option maxRecDepth 20000 in
theorem m_X12_route {M : q_Mem} {a0 : Nat} {a1 : Int32} {x : (Int32 × q_Mem)} (h : f_X12_route M a0 a1 = some x) : q_C Y_X12_route [.ref a0, .int a1] M (some (.int x.1)) x.2 := by
  refine q_met (φ := (fun x : Int32 × q_Mem => (some (.int x.1), x.2))) (r := f_X12_route M a0 a1) (by decide +kernel) (Nat.le_of_ble_eq_true rfl) ?_ h (fun _ _ => rfl)
  show q_V Y_X12_route none (fun x : Int32 × q_Mem => (some (.int x.1), x.2)) 0 0 0 [(0, .ref a0), (1, .int a1)] [] M (f_X12_route M a0 a1)
  unfold f_X12_route
  refine q_obV ?_
  refine q_aload_n 0 dX12_route_0 rfl ?_
  refine q_iload_n 1 dX12_route_1 rfl ?_
  refine q_iconst (x := (1 : Int32)) dX12_route_2 rfl ?_
  refine q_cVI (Y2 := Y_X12_whyRoute) (As := [.int a1, .int (1 : Int32)]) (b := a0) (st := []) cl_X12 mv_X12_whyRoute qw_1548 dX12_route_3 ⟨Nat.le_of_ble_eq_true rfl, Nat.le_of_ble_eq_true rfl⟩ rfl (fun _ _ => rfl) (Nat.le_of_ble_eq_true rfl) ⟨Nat.le_of_ble_eq_true rfl, Nat.le_of_ble_eq_true rfl⟩ (fun v2 h1 => q_ob_is h1) (fun v2 h1 => m_X12_whyRoute h1) (fun v2 h1 => ?_)
  refine q_istore_n (ls' := [(2, .int v2), (0, .ref a0), (1, .int a1)]) dX12_route_6 (by decide) rfl ?_
  refine q_iload_n 0 dX12_route_7 rfl ?_
  refine q_iconst (x := (1 : Int32)) dX12_route_8 rfl ?_
  refine q_icmp_eq (tgt := 14) dX12_route_9 (by decide) (fun c8 => ?_) (fun c8 => ?_)
  · refine q_aload_n 1 dX12_route_14 rfl ?_
    refine q_iload_n 2 dX12_route_15 rfl ?_
    refine q_cVM (Y2 := Y_X12_findRoute) (As := [.int a1]) (b := a0) (st := []) cl_X12 mv_X12_findRoute qw_1555 dX12_route_16 ⟨Nat.le_of_ble_eq_true rfl, Nat.le_of_ble_eq_true rfl⟩ rfl (fun _ _ => rfl) (Nat.le_of_ble_eq_true rfl) ⟨Nat.le_of_ble_eq_true rfl, Nat.le_of_ble_eq_true rfl⟩ (fun M5 h3 => q_ob_is h3) (fun M5 h3 => m_X12_findRoute h3) (fun M5 h3 => ?_)
    refine q_aload_n 1 dX12_route_19 rfl ?_
    refine q_getI (f := 23) cl_X12 (by decide) qw_1139 rfl dX12_route_20 (Or.inl rfl) (fun v6 h7 => ?_)
    exact q_iret dX12_route_23 rfl rfl (Nat.le_of_ble_eq_true rfl) rfl
  · refine q_iload_n 0 dX12_route_12 rfl ?_
    exact q_iret dX12_route_13 rfl rfl (Nat.le_of_ble_eq_true rfl) rfl
theorem dX12_routeAt_0 : decode cX12_routeAt 0 = .ok (.aload_n 0, 1) := by decide +kernel
theorem dX12_routeAt_1 : decode cX12_routeAt 1 = .ok (.iload_n 1, 1) := by decide +kernel
theorem dX12_routeAt_2 : decode cX12_routeAt 2 = .ok (.iload_n 2, 1) := by decide +kernel
theorem dX12_routeAt_3 : decode cX12_routeAt 3 = .ok (.ifCond .lt 7, 3) := by decide +kernel
theorem dX12_routeAt_6 : decode cX12_routeAt 6 = .ok (.iconst 1, 1) := by decide +kernel
theorem dX12_routeAt_7 : decode cX12_routeAt 7 = .ok (.goto 4, 3) := by decide +kernel
theorem dX12_routeAt_10 : decode cX12_routeAt 10 = .ok (.iconst 0, 1) := by decide +kernel
theorem dX12_routeAt_11 : decode cX12_routeAt 11 = .ok (.invokevirtual 296, 3) := by decide +kernel
theorem dX12_routeAt_14 : decode cX12_routeAt 14 = .ok (.istore_n 3, 1) := by decide +kernel
theorem dX12_routeAt_15 : decode cX12_routeAt 15 = .ok (.iload_n 3, 1) := by decide +kernel
theorem dX12_routeAt_16 : decode cX12_routeAt 16 = .ok (.iconst 1, 1) := by decide +kernel
theorem dX12_routeAt_17 : decode cX12_routeAt 17 = .ok (.if_icmp .eq 5, 3) := by decide +kernel
theorem dX12_routeAt_20 : decode cX12_routeAt 20 = .ok (.iload_n 3, 1) := by decide +kernel
theorem dX12_routeAt_21 : decode cX12_routeAt 21 = .ok (.ireturn, 1) := by decide +kernel
theorem dX12_routeAt_22 : decode cX12_routeAt 22 = .ok (.aload_n 0, 1) := by decide +kernel
theorem dX12_routeAt_23 : decode cX12_routeAt 23 = .ok (.iload_n 1, 1) := by decide +kernel
theorem dX12_routeAt_24 : decode cX12_routeAt 24 = .ok (.invokevirtual 300, 3) := by decide +kernel
theorem dX12_routeAt_27 : decode cX12_routeAt 27 = .ok (.aload_n 0, 1) := by decide +kernel
theorem dX12_routeAt_28 : decode cX12_routeAt 28 = .ok (.getfield 284, 3) := by decide +kernel
theorem dX12_routeAt_31 : decode cX12_routeAt 31 = .ok (.iconst (-1), 1) := by decide +kernel
theorem dX12_routeAt_32 : decode cX12_routeAt 32 = .ok (.if_icmp .eq 20, 3) := by decide +kernel
theorem dX12_routeAt_35 : decode cX12_routeAt 35 = .ok (.iload_n 2, 1) := by decide +kernel
theorem dX12_routeAt_36 : decode cX12_routeAt 36 = .ok (.aload_n 0, 1) := by decide +kernel
theorem dX12_routeAt_37 : decode cX12_routeAt 37 = .ok (.getfield 277, 3) := by decide +kernel
theorem dX12_routeAt_40 : decode cX12_routeAt 40 = .ok (.if_icmp .ge 12, 3) := by decide +kernel
theorem dX12_routeAt_43 : decode cX12_routeAt 43 = .ok (.aload_n 0, 1) := by decide +kernel
theorem dX12_routeAt_44 : decode cX12_routeAt 44 = .ok (.getfield 60, 3) := by decide +kernel
theorem dX12_routeAt_47 : decode cX12_routeAt 47 = .ok (.iload_n 2, 1) := by decide +kernel
theorem dX12_routeAt_48 : decode cX12_routeAt 48 = .ok (.iaload, 1) := by decide +kernel
theorem dX12_routeAt_49 : decode cX12_routeAt 49 = .ok (.goto 4, 3) := by decide +kernel
theorem dX12_routeAt_52 : decode cX12_routeAt 52 = .ok (.iconst (-1), 1) := by decide +kernel
theorem dX12_routeAt_53 : decode cX12_routeAt 53 = .ok (.ireturn, 1) := by decide +kernel
def f_X12_routeAt_b11 (M : q_Mem) (a0 : Nat) (a1 : Int32) (a2 : Int32) (s0 : Nat) (s1 : Int32) (s2 : Int32) : Option (Int32 × q_Mem) :=
  (f_X12_whyRoute M s0 s1 s2).bind fun v3 =>
  (if v3 = (1 : Int32) then
    (f_X12_findRoute M a0 a1).bind fun M6 =>
    (q_gI 11 23 M6 a0).bind fun v7 =>
    (if v7 = (-1 : Int32) then
      some ((-1 : Int32), M6)
    else
      (q_gI 11 20 M6 a0).bind fun v9 =>
      (if a2 < v9 then
        (q_gR 11 22 M6 a0).bind fun v11 =>
        (q_lI M6 v11 a2).bind fun v13 =>
        some (v13, M6)
      else
        some ((-1 : Int32), M6)))
  else
    some (v3, M))
def f_X12_routeAt (M : q_Mem) (a0 : Nat) (a1 : Int32) (a2 : Int32) : Option (Int32 × q_Mem) :=
  q_ob 11 M a0 ((if a2 < 0 then
    f_X12_routeAt_b11 M a0 a1 a2 a0 a1 (0 : Int32)
  else
    f_X12_routeAt_b11 M a0 a1 a2 a0 a1 (1 : Int32)))
set_option maxRecDepth 20000 in
theorem v_X12_routeAt_b11 {M : q_Mem} {a0 : Nat} {a1 : Int32} {a2 : Int32} {s0 : Nat} {s1 : Int32} {s2 : Int32}  : q_V Y_X12_routeAt none (fun x : Int32 × q_Mem => (some (.int x.1), x.2)) 0 0 11 [(0, .ref a0), (1, .int a1), (2, .int a2)] [.int s2, .int s1, .ref s0] M (f_X12_routeAt_b11 M a0 a1 a2 s0 s1 s2) := by
  unfold f_X12_routeAt_b11
  refine q_cVI (Y2 := Y_X12_whyRoute) (As := [.int s1, .int s2]) (b := s0) (st := []) cl_X12 mv_X12_whyRoute qw_1548 dX12_routeAt_11 ⟨Nat.le_of_ble_eq_true rfl, Nat.le_of_ble_eq_true rfl⟩ rfl (fun _ _ => rfl) (Nat.le_of_ble_eq_true rfl) ⟨Nat.le_of_ble_eq_true rfl, Nat.le_of_ble_eq_true rfl⟩ (fun v3 h2 => q_ob_is h2) (fun v3 h2 => m_X12_whyRoute h2) (fun v3 h2 => ?_)
  refine q_istore_n (ls' := [(3, .int v3), (0, .ref a0), (1, .int a1), (2, .int a2)]) dX12_routeAt_14 (by decide) rfl ?_
  refine q_iload_n 0 dX12_routeAt_15 rfl ?_
  refine q_iconst (x := (1 : Int32)) dX12_routeAt_16 rfl ?_
  refine q_icmp_eq (tgt := 22) dX12_routeAt_17 (by decide) (fun c17 => ?_) (fun c17 => ?_)
  · refine q_aload_n 1 dX12_routeAt_22 rfl ?_
    refine q_iload_n 2 dX12_routeAt_23 rfl ?_
    refine q_cVM (Y2 := Y_X12_findRoute) (As := [.int a1]) (b := a0) (st := []) cl_X12 mv_X12_findRoute qw_1555 dX12_routeAt_24 ⟨Nat.le_of_ble_eq_true rfl, Nat.le_of_ble_eq_true rfl⟩ rfl (fun _ _ => rfl) (Nat.le_of_ble_eq_true rfl) ⟨Nat.le_of_ble_eq_true rfl, Nat.le_of_ble_eq_true rfl⟩ (fun M6 h4 => q_ob_is h4) (fun M6 h4 => m_X12_findRoute h4) (fun M6 h4 => ?_)
    refine q_aload_n 1 dX12_routeAt_27 rfl ?_
    refine q_getI (f := 23) cl_X12 (by decide) qw_1139 rfl dX12_routeAt_28 (Or.inl rfl) (fun v7 h8 => ?_)
    refine q_iconst (x := (-1 : Int32)) dX12_routeAt_31 rfl ?_
    refine q_icmp_eq (tgt := 52) dX12_routeAt_32 (by decide) (fun c16 => ?_) (fun c16 => ?_)
    · refine q_iconst (x := (-1 : Int32)) dX12_routeAt_52 rfl ?_
      exact q_iret dX12_routeAt_53 rfl rfl (Nat.le_of_ble_eq_true rfl) rfl
    · refine q_iload_n 3 dX12_routeAt_35 rfl ?_
      refine q_aload_n 1 dX12_routeAt_36 rfl ?_
      refine q_getI (f := 20) cl_X12 (by decide) qw_1136 rfl dX12_routeAt_37 (Or.inl rfl) (fun v9 h10 => ?_)
      refine q_icmp_ge (tgt := 52) dX12_routeAt_40 (by decide) (fun c15 => ?_) (fun c15 => ?_)
      · refine q_aload_n 1 dX12_routeAt_43 rfl ?_
        refine q_getR (f := 22) cl_X12 (by decide) qw_1138 rfl dX12_routeAt_44 (fun _ _ _ => rfl) (fun v11 h12 => ?_)
        refine q_iload_n 3 dX12_routeAt_47 rfl ?_
        refine q_iald dX12_routeAt_48 (fun v13 h14 => ?_)
        refine q_goto (tgt := 53) dX12_routeAt_49 (by decide) ?_
        exact q_iret dX12_routeAt_53 rfl rfl (Nat.le_of_ble_eq_true rfl) rfl
      · refine q_iconst (x := (-1 : Int32)) dX12_routeAt_52 rfl ?_
        exact q_iret dX12_routeAt_53 rfl rfl (Nat.le_of_ble_eq_true rfl) rfl
  · refine q_iload_n 0 dX12_routeAt_20 rfl ?_
    exact q_iret dX12_routeAt_21 rfl rfl (Nat.le_of_ble_eq_true rfl) rfl
set_option maxRecDepth 20000 in
theorem m_X12_routeAt {M : q_Mem} {a0 : Nat} {a1 : Int32} {a2 : Int32} {x : (Int32 × q_Mem)} (h : f_X12_routeAt M a0 a1 a2 = some x) : q_C Y_X12_routeAt [.ref a0, .int a1, .int a2] M (some (.int x.1)) x.2 := by
  refine q_met (φ := (fun x : Int32 × q_Mem => (some (.int x.1), x.2))) (r := f_X12_routeAt M a0 a1 a2) (by decide +kernel) (Nat.le_of_ble_eq_true rfl) ?_ h (fun _ _ => rfl)
  show q_V Y_X12_routeAt none (fun x : Int32 × q_Mem => (some (.int x.1), x.2)) 0 0 0 [(0, .ref a0), (1, .int a1), (2, .int a2)] [] M (f_X12_routeAt M a0 a1 a2)
  unfold f_X12_routeAt
  refine q_obV ?_
  refine q_aload_n 0 dX12_routeAt_0 rfl ?_
  refine q_iload_n 1 dX12_routeAt_1 rfl ?_
  refine q_iload_n 2 dX12_routeAt_2 rfl ?_
  refine q_if_lt (tgt := 10) dX12_routeAt_3 (by decide) (fun c1 => ?_) (fun c1 => ?_)
  · refine q_iconst (x := (0 : Int32)) dX12_routeAt_10 rfl ?_
    exact v_X12_routeAt_b11
  · refine q_iconst (x := (1 : Int32)) dX12_routeAt_6 rfl ?_
    refine q_goto (tgt := 11) dX12_routeAt_7 (by decide) ?_
    exact v_X12_routeAt_b11
theorem dX12_cream_0 : decode cX12_cream 0 = .ok (.iload_n 1, 1) := by decide +kernel
theorem dX12_cream_1 : decode cX12_cream 1 = .ok (.iconst 1, 1) := by decide +kernel
theorem dX12_cream_2 : decode cX12_cream 2 = .ok (.ldc 159, 2) := by decide +kernel
theorem dX12_cream_4 : decode cX12_cream 4 = .ok (.invokestatic 78, 3) := by decide +kernel
theorem dX12_cream_7 : decode cX12_cream 7 = .ok (.ifCond .eq 24, 3) := by decide +kernel
theorem dX12_cream_10 : decode cX12_cream 10 = .ok (.iload_n 2, 1) := by decide +kernel
theorem dX12_cream_11 : decode cX12_cream 11 = .ok (.bipush 40, 2) := by decide +kernel
theorem dX12_cream_13 : decode cX12_cream 13 = .ok (.bipush 80, 2) := by decide +kernel
theorem dX12_cream_15 : decode cX12_cream 15 = .ok (.invokestatic 78, 3) := by decide +kernel
theorem dX12_cream_18 : decode cX12_cream 18 = .ok (.ifCond .eq 13, 3) := by decide +kernel
theorem dX12_cream_21 : decode cX12_cream 21 = .ok (.iload_n 3, 1) := by decide +kernel
theorem dX12_cream_22 : decode cX12_cream 22 = .ok (.iconst 0, 1) := by decide +kernel
theorem dX12_cream_23 : decode cX12_cream 23 = .ok (.bipush 9, 2) := by decide +kernel
theorem dX12_cream_25 : decode cX12_cream 25 = .ok (.invokestatic 78, 3) := by decide +kernel
theorem dX12_cream_28 : decode cX12_cream 28 = .ok (.ifCond .ne 6, 3) := by decide +kernel
theorem dX12_cream_31 : decode cX12_cream 31 = .ok (.bipush (-2), 2) := by decide +kernel
theorem dX12_cream_33 : decode cX12_cream 33 = .ok (.ireturn, 1) := by decide +kernel
theorem dX12_cream_34 : decode cX12_cream 34 = .ok (.aload_n 0, 1) := by decide +kernel
theorem dX12_cream_35 : decode cX12_cream 35 = .ok (.getfield 7, 3) := by decide +kernel
theorem dX12_cream_38 : decode cX12_cream 38 = .ok (.bipush 6, 2) := by decide +kernel
theorem dX12_cream_40 : decode cX12_cream 40 = .ok (.iaload, 1) := by decide +kernel
theorem dX12_cream_41 : decode cX12_cream 41 = .ok (.bipush 10, 2) := by decide +kernel
theorem dX12_cream_43 : decode cX12_cream 43 = .ok (.if_icmp .ne 6, 3) := by decide +kernel
theorem dX12_cream_46 : decode cX12_cream 46 = .ok (.bipush (-4), 2) := by decide +kernel
theorem dX12_cream_48 : decode cX12_cream 48 = .ok (.ireturn, 1) := by decide +kernel
theorem dX12_cream_49 : decode cX12_cream 49 = .ok (.sipush 4526, 3) := by decide +kernel
theorem dX12_cream_52 : decode cX12_cream 52 = .ok (.iconst 3, 1) := by decide +kernel
theorem dX12_cream_53 : decode cX12_cream 53 = .ok (.aload_n 0, 1) := by decide +kernel
theorem dX12_cream_54 : decode cX12_cream 54 = .ok (.getfield 7, 3) := by decide +kernel
theorem dX12_cream_57 : decode cX12_cream 57 = .ok (.bipush 6, 2) := by decide +kernel
theorem dX12_cream_59 : decode cX12_cream 59 = .ok (.iaload, 1) := by decide +kernel
theorem dX12_cream_60 : decode cX12_cream 60 = .ok (.imul, 1) := by decide +kernel
theorem dX12_cream_61 : decode cX12_cream 61 = .ok (.iadd, 1) := by decide +kernel
theorem dX12_cream_62 : decode cX12_cream 62 = .ok (.istore 4, 2) := by decide +kernel
theorem dX12_cream_64 : decode cX12_cream 64 = .ok (.aload_n 0, 1) := by decide +kernel
theorem dX12_cream_65 : decode cX12_cream 65 = .ok (.getfield 7, 3) := by decide +kernel
theorem dX12_cream_68 : decode cX12_cream 68 = .ok (.iload 4, 2) := by decide +kernel
theorem dX12_cream_70 : decode cX12_cream 70 = .ok (.iload_n 1, 1) := by decide +kernel
theorem dX12_cream_71 : decode cX12_cream 71 = .ok (.iastore, 1) := by decide +kernel
theorem dX12_cream_72 : decode cX12_cream 72 = .ok (.aload_n 0, 1) := by decide +kernel
theorem dX12_cream_73 : decode cX12_cream 73 = .ok (.getfield 7, 3) := by decide +kernel
theorem dX12_cream_76 : decode cX12_cream 76 = .ok (.iload 4, 2) := by decide +kernel
theorem dX12_cream_78 : decode cX12_cream 78 = .ok (.iconst 1, 1) := by decide +kernel
theorem dX12_cream_79 : decode cX12_cream 79 = .ok (.iadd, 1) := by decide +kernel
theorem dX12_cream_80 : decode cX12_cream 80 = .ok (.iload_n 2, 1) := by decide +kernel
theorem dX12_cream_81 : decode cX12_cream 81 = .ok (.iastore, 1) := by decide +kernel
theorem dX12_cream_82 : decode cX12_cream 82 = .ok (.aload_n 0, 1) := by decide +kernel
theorem dX12_cream_83 : decode cX12_cream 83 = .ok (.getfield 7, 3) := by decide +kernel
theorem dX12_cream_86 : decode cX12_cream 86 = .ok (.iload 4, 2) := by decide +kernel
theorem dX12_cream_88 : decode cX12_cream 88 = .ok (.iconst 2, 1) := by decide +kernel
theorem dX12_cream_89 : decode cX12_cream 89 = .ok (.iadd, 1) := by decide +kernel
theorem dX12_cream_90 : decode cX12_cream 90 = .ok (.iload_n 3, 1) := by decide +kernel
theorem dX12_cream_91 : decode cX12_cream 91 = .ok (.iastore, 1) := by decide +kernel
theorem dX12_cream_92 : decode cX12_cream 92 = .ok (.aload_n 0, 1) := by decide +kernel
theorem dX12_cream_93 : decode cX12_cream 93 = .ok (.bipush 6, 2) := by decide +kernel
theorem dX12_cream_95 : decode cX12_cream 95 = .ok (.invokevirtual 82, 3) := by decide +kernel
theorem dX12_cream_98 : decode cX12_cream 98 = .ok (.ireturn, 1) := by decide +kernel
def f_X12_cream (M : q_Mem) (a0 : Nat) (a1 : Int32) (a2 : Int32) (a3 : Int32) : Option (Int32 × q_Mem) :=
  q_ob 11 M a0 ((f_X12_in M a1 (1 : Int32) (1000000 : Int32)).bind fun v2 =>
  (if v2 = 0 then
    some ((-2 : Int32), M)
  else
    (f_X12_in M a2 (40 : Int32) (80 : Int32)).bind fun v4 =>
    (if v4 = 0 then
      some ((-2 : Int32), M)
    else
      (f_X12_in M a3 (0 : Int32) (9 : Int32)).bind fun v6 =>
      (if v6 = 0 then
        some ((-2 : Int32), M)
      else
        (q_gR 11 0 M a0).bind fun v7 =>
        (q_lI M v7 (6 : Int32)).bind fun v9 =>
        (if v9 = (10 : Int32) then
          some ((-4 : Int32), M)
        else
          (q_gR 11 0 M a0).bind fun v11 =>
          (q_lI M v11 (6 : Int32)).bind fun v13 =>
          (q_gR 11 0 M a0).bind fun v15 =>
          (q_tI M v15 ((4526 : Int32) + ((3 : Int32) * v13)) a1).bind fun M17 =>
          (q_gR 11 0 M17 a0).bind fun v19 =>
          (q_tI M17 v19 (((4526 : Int32) + ((3 : Int32) * v13)) + (1 : Int32)) a2).bind fun M21 =>
          (q_gR 11 0 M21 a0).bind fun v23 =>
          (q_tI M21 v23 (((4526 : Int32) + ((3 : Int32) * v13)) + (2 : Int32)) a3).bind fun M25 =>
          (f_X12_more M25 a0 (6 : Int32)).bind fun r28 =>
          some (r28.1, r28.2))))))
set_option maxRecDepth 20000 in
theorem m_X12_cream {M : q_Mem} {a0 : Nat} {a1 : Int32} {a2 : Int32} {a3 : Int32} {x : (Int32 × q_Mem)} (h : f_X12_cream M a0 a1 a2 a3 = some x) : q_C Y_X12_cream [.ref a0, .int a1, .int a2, .int a3] M (some (.int x.1)) x.2 := by
  refine q_met (φ := (fun x : Int32 × q_Mem => (some (.int x.1), x.2))) (r := f_X12_cream M a0 a1 a2 a3) (by decide +kernel) (Nat.le_of_ble_eq_true rfl) ?_ h (fun _ _ => rfl)
  show q_V Y_X12_cream none (fun x : Int32 × q_Mem => (some (.int x.1), x.2)) 0 0 0 [(0, .ref a0), (1, .int a1), (2, .int a2), (3, .int a3)] [] M (f_X12_cream M a0 a1 a2 a3)
  unfold f_X12_cream
  refine q_obV ?_
  refine q_iload_n 1 dX12_cream_0 rfl ?_
  refine q_iconst (x := (1 : Int32)) dX12_cream_1 rfl ?_
  refine q_ldc (x := (1000000 : Int32)) qw_1362 dX12_cream_2 ?_
  refine q_cSI (Y2 := Y_X12_in) (As := [.int a1, .int (1 : Int32), .int (1000000 : Int32)]) (st := []) ms_X12_in qw_1214 dX12_cream_4 ⟨Nat.le_of_ble_eq_true rfl, Nat.le_of_ble_eq_true rfl⟩ rfl (fun _ _ => rfl) (Nat.le_of_ble_eq_true rfl) ⟨Nat.le_of_ble_eq_true rfl, Nat.le_of_ble_eq_true rfl⟩ (fun v2 h1 => m_X12_in h1) (fun v2 h1 => ?_)
  refine q_if_eq (tgt := 31) dX12_cream_7 (by decide) (fun c32 => ?_) (fun c32 => ?_)
  · refine q_bipush (x := (-2 : Int32)) dX12_cream_31 rfl ?_
    exact q_iret dX12_cream_33 rfl rfl (Nat.le_of_ble_eq_true rfl) rfl
  · refine q_iload_n 2 dX12_cream_10 rfl ?_
    refine q_bipush (x := (40 : Int32)) dX12_cream_11 rfl ?_
    refine q_bipush (x := (80 : Int32)) dX12_cream_13 rfl ?_
    refine q_cSI (Y2 := Y_X12_in) (As := [.int a2, .int (40 : Int32), .int (80 : Int32)]) (st := []) ms_X12_in qw_1214 dX12_cream_15 ⟨Nat.le_of_ble_eq_true rfl, Nat.le_of_ble_eq_true rfl⟩ rfl (fun _ _ => rfl) (Nat.le_of_ble_eq_true rfl) ⟨Nat.le_of_ble_eq_true rfl, Nat.le_of_ble_eq_true rfl⟩ (fun v4 h3 => m_X12_in h3) (fun v4 h3 => ?_)
    refine q_if_eq (tgt := 31) dX12_cream_18 (by decide) (fun c31 => ?_) (fun c31 => ?_)
    · refine q_bipush (x := (-2 : Int32)) dX12_cream_31 rfl ?_
      exact q_iret dX12_cream_33 rfl rfl (Nat.le_of_ble_eq_true rfl) rfl
    · refine q_iload_n 3 dX12_cream_21 rfl ?_
      refine q_iconst (x := (0 : Int32)) dX12_cream_22 rfl ?_
      refine q_bipush (x := (9 : Int32)) dX12_cream_23 rfl ?_
      refine q_cSI (Y2 := Y_X12_in) (As := [.int a3, .int (0 : Int32), .int (9 : Int32)]) (st := []) ms_X12_in qw_1214 dX12_cream_25 ⟨Nat.le_of_ble_eq_true rfl, Nat.le_of_ble_eq_true rfl⟩ rfl (fun _ _ => rfl) (Nat.le_of_ble_eq_true rfl) ⟨Nat.le_of_ble_eq_true rfl, Nat.le_of_ble_eq_true rfl⟩ (fun v6 h5 => m_X12_in h5) (fun v6 h5 => ?_)
      refine q_if_ne (tgt := 34) dX12_cream_28 (by decide) (fun c30 => ?_) (fun c30 => ?_)
      · refine q_bipush (x := (-2 : Int32)) dX12_cream_31 rfl ?_
        exact q_iret dX12_cream_33 rfl rfl (Nat.le_of_ble_eq_true rfl) rfl
      · refine q_aload_n 0 dX12_cream_34 rfl ?_
        refine q_getR (f := 0) cl_X12 (by decide) qw_1117 rfl dX12_cream_35 (fun _ _ _ => rfl) (fun v7 h8 => ?_)
        refine q_bipush (x := (6 : Int32)) dX12_cream_38 rfl ?_
        refine q_iald dX12_cream_40 (fun v9 h10 => ?_)
        refine q_bipush (x := (10 : Int32)) dX12_cream_41 rfl ?_
        refine q_icmp_ne (tgt := 49) dX12_cream_43 (by decide) (fun c29 => ?_) (fun c29 => ?_)
        · refine q_bipush (x := (-4 : Int32)) dX12_cream_46 rfl ?_
          exact q_iret dX12_cream_48 rfl rfl (Nat.le_of_ble_eq_true rfl) rfl
        · refine q_sipush (x := (4526 : Int32)) dX12_cream_49 rfl ?_
          refine q_iconst (x := (3 : Int32)) dX12_cream_52 rfl ?_
          refine q_aload_n 0 dX12_cream_53 rfl ?_
          refine q_getR (f := 0) cl_X12 (by decide) qw_1117 rfl dX12_cream_54 (fun _ _ _ => rfl) (fun v11 h12 => ?_)
          refine q_bipush (x := (6 : Int32)) dX12_cream_57 rfl ?_
          refine q_iald dX12_cream_59 (fun v13 h14 => ?_)
          refine q_imul dX12_cream_60 ?_
          refine q_iadd dX12_cream_61 ?_
          refine q_istore (ls' := [(4, .int ((4526 : Int32) + ((3 : Int32) * v13))), (0, .ref a0), (1, .int a1), (2, .int a2), (3, .int a3)]) dX12_cream_62 (by decide) rfl ?_
          refine q_aload_n 1 dX12_cream_64 rfl ?_
          refine q_getR (f := 0) cl_X12 (by decide) qw_1117 rfl dX12_cream_65 (fun _ _ _ => rfl) (fun v15 h16 => ?_)
          refine q_iload 0 dX12_cream_68 rfl ?_
          refine q_iload_n 2 dX12_cream_70 rfl ?_
          refine q_iast dX12_cream_71 (fun M17 h18 => ?_)
          refine q_aload_n 1 dX12_cream_72 rfl ?_
          refine q_getR (f := 0) cl_X12 (by decide) qw_1117 rfl dX12_cream_73 (fun _ _ _ => rfl) (fun v19 h20 => ?_)
          refine q_iload 0 dX12_cream_76 rfl ?_
          refine q_iconst (x := (1 : Int32)) dX12_cream_78 rfl ?_
          refine q_iadd dX12_cream_79 ?_
          refine q_iload_n 3 dX12_cream_80 rfl ?_
          refine q_iast dX12_cream_81 (fun M21 h22 => ?_)
          refine q_aload_n 1 dX12_cream_82 rfl ?_
          refine q_getR (f := 0) cl_X12 (by decide) qw_1117 rfl dX12_cream_83 (fun _ _ _ => rfl) (fun v23 h24 => ?_)
          refine q_iload 0 dX12_cream_86 rfl ?_
          refine q_iconst (x := (2 : Int32)) dX12_cream_88 rfl ?_
          refine q_iadd dX12_cream_89 ?_
          refine q_iload_n 4 dX12_cream_90 rfl ?_
          refine q_iast dX12_cream_91 (fun M25 h26 => ?_)
          refine q_aload_n 1 dX12_cream_92 rfl ?_
          refine q_bipush (x := (6 : Int32)) dX12_cream_93 rfl ?_
          refine q_cVMI (Y2 := Y_X12_more) (As := [.int (6 : Int32)]) (b := a0) (st := []) cl_X12 mv_X12_more qw_1217 dX12_cream_95 ⟨Nat.le_of_ble_eq_true rfl, Nat.le_of_ble_eq_true rfl⟩ rfl (fun _ _ => rfl) (Nat.le_of_ble_eq_true rfl) ⟨Nat.le_of_ble_eq_true rfl, Nat.le_of_ble_eq_true rfl⟩ (fun r28 h27 => q_ob_is h27) (fun r28 h27 => m_X12_more h27) (fun r28 h27 => ?_)
          exact q_iret dX12_cream_98 rfl rfl (Nat.le_of_ble_eq_true rfl) rfl
theorem dX12_drain_0 : decode cX12_drain 0 = .ok (.aload_n 0, 1) := by decide +kernel
theorem dX12_drain_1 : decode cX12_drain 1 = .ok (.getfield 7, 3) := by decide +kernel
theorem dX12_drain_4 : decode cX12_drain 4 = .ok (.bipush 6, 2) := by decide +kernel
theorem dX12_drain_6 : decode cX12_drain 6 = .ok (.iaload, 1) := by decide +kernel
theorem dX12_drain_7 : decode cX12_drain 7 = .ok (.istore_n 1, 1) := by decide +kernel
theorem dX12_drain_8 : decode cX12_drain 8 = .ok (.aload_n 0, 1) := by decide +kernel
theorem dX12_drain_9 : decode cX12_drain 9 = .ok (.getfield 7, 3) := by decide +kernel
theorem dX12_drain_12 : decode cX12_drain 12 = .ok (.bipush 6, 2) := by decide +kernel
theorem dX12_drain_14 : decode cX12_drain 14 = .ok (.iconst 0, 1) := by decide +kernel
theorem dX12_drain_15 : decode cX12_drain 15 = .ok (.iastore, 1) := by decide +kernel
theorem dX12_drain_16 : decode cX12_drain 16 = .ok (.iload_n 1, 1) := by decide +kernel
theorem dX12_drain_17 : decode cX12_drain 17 = .ok (.ireturn, 1) := by decide +kernel
def f_X12_drain (M : q_Mem) (a0 : Nat) : Option (Int32 × q_Mem) :=
  q_ob 11 M a0 ((q_gR 11 0 M a0).bind fun v1 =>
  (q_lI M v1 (6 : Int32)).bind fun v3 =>
  (q_gR 11 0 M a0).bind fun v5 =>
  (q_tI M v5 (6 : Int32) (0 : Int32)).bind fun M7 =>
  some (v3, M7))
set_option maxRecDepth 20000 in
theorem m_X12_drain {M : q_Mem} {a0 : Nat} {x : (Int32 × q_Mem)} (h : f_X12_drain M a0 = some x) : q_C Y_X12_drain [.ref a0] M (some (.int x.1)) x.2 := by
  refine q_met (φ := (fun x : Int32 × q_Mem => (some (.int x.1), x.2))) (r := f_X12_drain M a0) (by decide +kernel) (Nat.le_of_ble_eq_true rfl) ?_ h (fun _ _ => rfl)
  show q_V Y_X12_drain none (fun x : Int32 × q_Mem => (some (.int x.1), x.2)) 0 0 0 [(0, .ref a0)] [] M (f_X12_drain M a0)
  unfold f_X12_drain
  refine q_obV ?_
  refine q_aload_n 0 dX12_drain_0 rfl ?_
  refine q_getR (f := 0) cl_X12 (by decide) qw_1117 rfl dX12_drain_1 (fun _ _ _ => rfl) (fun v1 h2 => ?_)
  refine q_bipush (x := (6 : Int32)) dX12_drain_4 rfl ?_
  refine q_iald dX12_drain_6 (fun v3 h4 => ?_)
  refine q_istore_n (ls' := [(1, .int v3), (0, .ref a0)]) dX12_drain_7 (by decide) rfl ?_
  refine q_aload_n 1 dX12_drain_8 rfl ?_
  refine q_getR (f := 0) cl_X12 (by decide) qw_1117 rfl dX12_drain_9 (fun _ _ _ => rfl) (fun v5 h6 => ?_)
  refine q_bipush (x := (6 : Int32)) dX12_drain_12 rfl ?_
  refine q_iconst (x := (0 : Int32)) dX12_drain_14 rfl ?_
  refine q_iast dX12_drain_15 (fun M7 h8 => ?_)
  refine q_iload_n 0 dX12_drain_16 rfl ?_
  exact q_iret dX12_drain_17 rfl rfl (Nat.le_of_ble_eq_true rfl) rfl
theorem dX12_lossOfHeap_0 : decode cX12_lossOfHeap 0 = .ok (.lconst 0, 1) := by decide +kernel
theorem dX12_lossOfHeap_1 : decode cX12_lossOfHeap 1 = .ok (.lstore_n 2, 1) := by decide +kernel
theorem dX12_lossOfHeap_2 : decode cX12_lossOfHeap 2 = .ok (.iconst 0, 1) := by decide +kernel
theorem dX12_lossOfHeap_3 : decode cX12_lossOfHeap 3 = .ok (.istore 4, 2) := by decide +kernel
theorem dX12_lossOfHeap_5 : decode cX12_lossOfHeap 5 = .ok (.iconst 0, 1) := by decide +kernel
theorem dX12_lossOfHeap_6 : decode cX12_lossOfHeap 6 = .ok (.istore 5, 2) := by decide +kernel
theorem dX12_lossOfHeap_8 : decode cX12_lossOfHeap 8 = .ok (.iconst 0, 1) := by decide +kernel
theorem dX12_lossOfHeap_9 : decode cX12_lossOfHeap 9 = .ok (.istore 6, 2) := by decide +kernel
theorem dX12_lossOfHeap_11 : decode cX12_lossOfHeap 11 = .ok (.bipush 100, 2) := by decide +kernel
theorem dX12_lossOfHeap_13 : decode cX12_lossOfHeap 13 = .ok (.istore 7, 2) := by decide +kernel
theorem dX12_lossOfHeap_15 : decode cX12_lossOfHeap 15 = .ok (.iconst 0, 1) := by decide +kernel
theorem dX12_lossOfHeap_16 : decode cX12_lossOfHeap 16 = .ok (.istore 8, 2) := by decide +kernel
theorem dX12_lossOfHeap_18 : decode cX12_lossOfHeap 18 = .ok (.iconst 0, 1) := by decide +kernel
theorem dX12_lossOfHeap_19 : decode cX12_lossOfHeap 19 = .ok (.istore 9, 2) := by decide +kernel
theorem dX12_lossOfHeap_21 : decode cX12_lossOfHeap 21 = .ok (.iload 9, 2) := by decide +kernel
theorem dX12_lossOfHeap_23 : decode cX12_lossOfHeap 23 = .ok (.aload_n 0, 1) := by decide +kernel
theorem dX12_lossOfHeap_24 : decode cX12_lossOfHeap 24 = .ok (.getfield 7, 3) := by decide +kernel
theorem dX12_lossOfHeap_27 : decode cX12_lossOfHeap 27 = .ok (.bipush 6, 2) := by decide +kernel
theorem dX12_lossOfHeap_29 : decode cX12_lossOfHeap 29 = .ok (.iaload, 1) := by decide +kernel
theorem dX12_lossOfHeap_30 : decode cX12_lossOfHeap 30 = .ok (.if_icmp .ge 147, 3) := by decide +kernel
theorem dX12_lossOfHeap_33 : decode cX12_lossOfHeap 33 = .ok (.iload_n 1, 1) := by decide +kernel
theorem dX12_lossOfHeap_34 : decode cX12_lossOfHeap 34 = .ok (.iload 9, 2) := by decide +kernel
theorem dX12_lossOfHeap_36 : decode cX12_lossOfHeap 36 = .ok (.ishr, 1) := by decide +kernel
theorem dX12_lossOfHeap_37 : decode cX12_lossOfHeap 37 = .ok (.iconst 1, 1) := by decide +kernel
theorem dX12_lossOfHeap_38 : decode cX12_lossOfHeap 38 = .ok (.iand, 1) := by decide +kernel
theorem dX12_lossOfHeap_39 : decode cX12_lossOfHeap 39 = .ok (.iconst 1, 1) := by decide +kernel
theorem dX12_lossOfHeap_40 : decode cX12_lossOfHeap 40 = .ok (.if_icmp .ne 131, 3) := by decide +kernel
theorem dX12_lossOfHeap_43 : decode cX12_lossOfHeap 43 = .ok (.sipush 4526, 3) := by decide +kernel
theorem dX12_lossOfHeap_46 : decode cX12_lossOfHeap 46 = .ok (.iconst 3, 1) := by decide +kernel
theorem dX12_lossOfHeap_47 : decode cX12_lossOfHeap 47 = .ok (.iload 9, 2) := by decide +kernel
theorem dX12_lossOfHeap_49 : decode cX12_lossOfHeap 49 = .ok (.imul, 1) := by decide +kernel
theorem dX12_lossOfHeap_50 : decode cX12_lossOfHeap 50 = .ok (.iadd, 1) := by decide +kernel
theorem dX12_lossOfHeap_51 : decode cX12_lossOfHeap 51 = .ok (.istore 10, 2) := by decide +kernel
theorem dX12_lossOfHeap_53 : decode cX12_lossOfHeap 53 = .ok (.lload_n 2, 1) := by decide +kernel
theorem dX12_lossOfHeap_54 : decode cX12_lossOfHeap 54 = .ok (.aload_n 0, 1) := by decide +kernel
theorem dX12_lossOfHeap_55 : decode cX12_lossOfHeap 55 = .ok (.getfield 7, 3) := by decide +kernel
theorem dX12_lossOfHeap_58 : decode cX12_lossOfHeap 58 = .ok (.iload 10, 2) := by decide +kernel
theorem dX12_lossOfHeap_60 : decode cX12_lossOfHeap 60 = .ok (.iaload, 1) := by decide +kernel
theorem dX12_lossOfHeap_61 : decode cX12_lossOfHeap 61 = .ok (.i2l, 1) := by decide +kernel
theorem dX12_lossOfHeap_62 : decode cX12_lossOfHeap 62 = .ok (.ladd, 1) := by decide +kernel
theorem dX12_lossOfHeap_63 : decode cX12_lossOfHeap 63 = .ok (.lstore_n 2, 1) := by decide +kernel
theorem dX12_lossOfHeap_64 : decode cX12_lossOfHeap 64 = .ok (.iload 4, 2) := by decide +kernel
theorem dX12_lossOfHeap_66 : decode cX12_lossOfHeap 66 = .ok (.aload_n 0, 1) := by decide +kernel
theorem dX12_lossOfHeap_67 : decode cX12_lossOfHeap 67 = .ok (.getfield 7, 3) := by decide +kernel
theorem dX12_lossOfHeap_70 : decode cX12_lossOfHeap 70 = .ok (.iload 10, 2) := by decide +kernel
theorem dX12_lossOfHeap_72 : decode cX12_lossOfHeap 72 = .ok (.iconst 1, 1) := by decide +kernel
theorem dX12_lossOfHeap_73 : decode cX12_lossOfHeap 73 = .ok (.iadd, 1) := by decide +kernel
theorem dX12_lossOfHeap_74 : decode cX12_lossOfHeap 74 = .ok (.iaload, 1) := by decide +kernel
theorem dX12_lossOfHeap_75 : decode cX12_lossOfHeap 75 = .ok (.iadd, 1) := by decide +kernel
theorem dX12_lossOfHeap_76 : decode cX12_lossOfHeap 76 = .ok (.istore 4, 2) := by decide +kernel
theorem dX12_lossOfHeap_78 : decode cX12_lossOfHeap 78 = .ok (.iinc 5 1, 3) := by decide +kernel
theorem dX12_lossOfHeap_81 : decode cX12_lossOfHeap 81 = .ok (.aload_n 0, 1) := by decide +kernel
theorem dX12_lossOfHeap_82 : decode cX12_lossOfHeap 82 = .ok (.getfield 7, 3) := by decide +kernel
theorem dX12_lossOfHeap_85 : decode cX12_lossOfHeap 85 = .ok (.iload 10, 2) := by decide +kernel
theorem dX12_lossOfHeap_87 : decode cX12_lossOfHeap 87 = .ok (.iconst 2, 1) := by decide +kernel
theorem dX12_lossOfHeap_88 : decode cX12_lossOfHeap 88 = .ok (.iadd, 1) := by decide +kernel
theorem dX12_lossOfHeap_89 : decode cX12_lossOfHeap 89 = .ok (.iaload, 1) := by decide +kernel
theorem dX12_lossOfHeap_90 : decode cX12_lossOfHeap 90 = .ok (.iload 6, 2) := by decide +kernel
theorem dX12_lossOfHeap_92 : decode cX12_lossOfHeap 92 = .ok (.if_icmp .le 15, 3) := by decide +kernel
theorem dX12_lossOfHeap_95 : decode cX12_lossOfHeap 95 = .ok (.aload_n 0, 1) := by decide +kernel
theorem dX12_lossOfHeap_96 : decode cX12_lossOfHeap 96 = .ok (.getfield 7, 3) := by decide +kernel
theorem dX12_lossOfHeap_99 : decode cX12_lossOfHeap 99 = .ok (.iload 10, 2) := by decide +kernel
theorem dX12_lossOfHeap_101 : decode cX12_lossOfHeap 101 = .ok (.iconst 2, 1) := by decide +kernel
theorem dX12_lossOfHeap_102 : decode cX12_lossOfHeap 102 = .ok (.iadd, 1) := by decide +kernel
theorem dX12_lossOfHeap_103 : decode cX12_lossOfHeap 103 = .ok (.iaload, 1) := by decide +kernel
theorem dX12_lossOfHeap_104 : decode cX12_lossOfHeap 104 = .ok (.goto 5, 3) := by decide +kernel
theorem dX12_lossOfHeap_107 : decode cX12_lossOfHeap 107 = .ok (.iload 6, 2) := by decide +kernel
theorem dX12_lossOfHeap_109 : decode cX12_lossOfHeap 109 = .ok (.istore 6, 2) := by decide +kernel
theorem dX12_lossOfHeap_111 : decode cX12_lossOfHeap 111 = .ok (.aload_n 0, 1) := by decide +kernel
theorem dX12_lossOfHeap_112 : decode cX12_lossOfHeap 112 = .ok (.getfield 7, 3) := by decide +kernel
theorem dX12_lossOfHeap_115 : decode cX12_lossOfHeap 115 = .ok (.iload 10, 2) := by decide +kernel
theorem dX12_lossOfHeap_117 : decode cX12_lossOfHeap 117 = .ok (.iconst 1, 1) := by decide +kernel
theorem dX12_lossOfHeap_118 : decode cX12_lossOfHeap 118 = .ok (.iadd, 1) := by decide +kernel
theorem dX12_lossOfHeap_119 : decode cX12_lossOfHeap 119 = .ok (.iaload, 1) := by decide +kernel
theorem dX12_lossOfHeap_120 : decode cX12_lossOfHeap 120 = .ok (.iload 7, 2) := by decide +kernel
theorem dX12_lossOfHeap_122 : decode cX12_lossOfHeap 122 = .ok (.if_icmp .ge 15, 3) := by decide +kernel
theorem dX12_lossOfHeap_125 : decode cX12_lossOfHeap 125 = .ok (.aload_n 0, 1) := by decide +kernel
theorem dX12_lossOfHeap_126 : decode cX12_lossOfHeap 126 = .ok (.getfield 7, 3) := by decide +kernel
theorem dX12_lossOfHeap_129 : decode cX12_lossOfHeap 129 = .ok (.iload 10, 2) := by decide +kernel
theorem dX12_lossOfHeap_131 : decode cX12_lossOfHeap 131 = .ok (.iconst 1, 1) := by decide +kernel
theorem dX12_lossOfHeap_132 : decode cX12_lossOfHeap 132 = .ok (.iadd, 1) := by decide +kernel
theorem dX12_lossOfHeap_133 : decode cX12_lossOfHeap 133 = .ok (.iaload, 1) := by decide +kernel
theorem dX12_lossOfHeap_134 : decode cX12_lossOfHeap 134 = .ok (.goto 5, 3) := by decide +kernel
theorem dX12_lossOfHeap_137 : decode cX12_lossOfHeap 137 = .ok (.iload 7, 2) := by decide +kernel
theorem dX12_lossOfHeap_139 : decode cX12_lossOfHeap 139 = .ok (.istore 7, 2) := by decide +kernel
theorem dX12_lossOfHeap_141 : decode cX12_lossOfHeap 141 = .ok (.aload_n 0, 1) := by decide +kernel
theorem dX12_lossOfHeap_142 : decode cX12_lossOfHeap 142 = .ok (.getfield 7, 3) := by decide +kernel
theorem dX12_lossOfHeap_145 : decode cX12_lossOfHeap 145 = .ok (.iload 10, 2) := by decide +kernel
theorem dX12_lossOfHeap_147 : decode cX12_lossOfHeap 147 = .ok (.iconst 1, 1) := by decide +kernel
theorem dX12_lossOfHeap_148 : decode cX12_lossOfHeap 148 = .ok (.iadd, 1) := by decide +kernel
theorem dX12_lossOfHeap_149 : decode cX12_lossOfHeap 149 = .ok (.iaload, 1) := by decide +kernel
theorem dX12_lossOfHeap_150 : decode cX12_lossOfHeap 150 = .ok (.iload 8, 2) := by decide +kernel
theorem dX12_lossOfHeap_152 : decode cX12_lossOfHeap 152 = .ok (.if_icmp .le 15, 3) := by decide +kernel
theorem dX12_lossOfHeap_155 : decode cX12_lossOfHeap 155 = .ok (.aload_n 0, 1) := by decide +kernel
theorem dX12_lossOfHeap_156 : decode cX12_lossOfHeap 156 = .ok (.getfield 7, 3) := by decide +kernel
theorem dX12_lossOfHeap_159 : decode cX12_lossOfHeap 159 = .ok (.iload 10, 2) := by decide +kernel
theorem dX12_lossOfHeap_161 : decode cX12_lossOfHeap 161 = .ok (.iconst 1, 1) := by decide +kernel
theorem dX12_lossOfHeap_162 : decode cX12_lossOfHeap 162 = .ok (.iadd, 1) := by decide +kernel
theorem dX12_lossOfHeap_163 : decode cX12_lossOfHeap 163 = .ok (.iaload, 1) := by decide +kernel
theorem dX12_lossOfHeap_164 : decode cX12_lossOfHeap 164 = .ok (.goto 5, 3) := by decide +kernel
theorem dX12_lossOfHeap_167 : decode cX12_lossOfHeap 167 = .ok (.iload 8, 2) := by decide +kernel
theorem dX12_lossOfHeap_169 : decode cX12_lossOfHeap 169 = .ok (.istore 8, 2) := by decide +kernel
theorem dX12_lossOfHeap_171 : decode cX12_lossOfHeap 171 = .ok (.iinc 9 1, 3) := by decide +kernel
theorem dX12_lossOfHeap_174 : decode cX12_lossOfHeap 174 = .ok (.goto (-153), 3) := by decide +kernel
theorem dX12_lossOfHeap_177 : decode cX12_lossOfHeap 177 = .ok (.iconst 5, 1) := by decide +kernel
theorem dX12_lossOfHeap_178 : decode cX12_lossOfHeap 178 = .ok (.iconst 2, 1) := by decide +kernel
theorem dX12_lossOfHeap_179 : decode cX12_lossOfHeap 179 = .ok (.iload 4, 2) := by decide +kernel
theorem dX12_lossOfHeap_181 : decode cX12_lossOfHeap 181 = .ok (.iload 5, 2) := by decide +kernel
theorem dX12_lossOfHeap_183 : decode cX12_lossOfHeap 183 = .ok (.idiv, 1) := by decide +kernel
theorem dX12_lossOfHeap_184 : decode cX12_lossOfHeap 184 = .ok (.bipush 55, 2) := by decide +kernel
theorem dX12_lossOfHeap_186 : decode cX12_lossOfHeap 186 = .ok (.isub, 1) := by decide +kernel
theorem dX12_lossOfHeap_187 : decode cX12_lossOfHeap 187 = .ok (.invokestatic 129, 3) := by decide +kernel
theorem dX12_lossOfHeap_190 : decode cX12_lossOfHeap 190 = .ok (.imul, 1) := by decide +kernel
theorem dX12_lossOfHeap_191 : decode cX12_lossOfHeap 191 = .ok (.iadd, 1) := by decide +kernel
theorem dX12_lossOfHeap_192 : decode cX12_lossOfHeap 192 = .ok (.bipush 10, 2) := by decide +kernel
theorem dX12_lossOfHeap_194 : decode cX12_lossOfHeap 194 = .ok (.iload 6, 2) := by decide +kernel
theorem dX12_lossOfHeap_196 : decode cX12_lossOfHeap 196 = .ok (.imul, 1) := by decide +kernel
theorem dX12_lossOfHeap_197 : decode cX12_lossOfHeap 197 = .ok (.iadd, 1) := by decide +kernel
theorem dX12_lossOfHeap_198 : decode cX12_lossOfHeap 198 = .ok (.iload 8, 2) := by decide +kernel
theorem dX12_lossOfHeap_200 : decode cX12_lossOfHeap 200 = .ok (.iadd, 1) := by decide +kernel
theorem dX12_lossOfHeap_201 : decode cX12_lossOfHeap 201 = .ok (.iload 7, 2) := by decide +kernel
theorem dX12_lossOfHeap_203 : decode cX12_lossOfHeap 203 = .ok (.isub, 1) := by decide +kernel
theorem dX12_lossOfHeap_204 : decode cX12_lossOfHeap 204 = .ok (.istore 9, 2) := by decide +kernel
theorem dX12_lossOfHeap_206 : decode cX12_lossOfHeap 206 = .ok (.lload_n 2, 1) := by decide +kernel
theorem dX12_lossOfHeap_207 : decode cX12_lossOfHeap 207 = .ok (.iload 9, 2) := by decide +kernel
theorem dX12_lossOfHeap_209 : decode cX12_lossOfHeap 209 = .ok (.sipush 1000, 3) := by decide +kernel
theorem dX12_lossOfHeap_212 : decode cX12_lossOfHeap 212 = .ok (.if_icmp .le 9, 3) := by decide +kernel
theorem dX12_lossOfHeap_215 : decode cX12_lossOfHeap 215 = .ok (.sipush 1000, 3) := by decide +kernel
theorem dX12_lossOfHeap_218 : decode cX12_lossOfHeap 218 = .ok (.goto 5, 3) := by decide +kernel
theorem dX12_lossOfHeap_221 : decode cX12_lossOfHeap 221 = .ok (.iload 9, 2) := by decide +kernel
theorem dX12_lossOfHeap_223 : decode cX12_lossOfHeap 223 = .ok (.i2l, 1) := by decide +kernel
theorem dX12_lossOfHeap_224 : decode cX12_lossOfHeap 224 = .ok (.lmul, 1) := by decide +kernel
theorem dX12_lossOfHeap_225 : decode cX12_lossOfHeap 225 = .ok (.ldc2_w 139, 3) := by decide +kernel
theorem dX12_lossOfHeap_228 : decode cX12_lossOfHeap 228 = .ok (.ldiv, 1) := by decide +kernel
theorem dX12_lossOfHeap_229 : decode cX12_lossOfHeap 229 = .ok (.lreturn, 1) := by decide +kernel
def f_X12_lossOfHeap_b177 (M : q_Mem) (a2 : Int64) (a4 : Int32) (a5 : Int32) (a6 : Int32) (a7 : Int32) (a8 : Int32) : Option Int64 :=
  (q_dv a4 a5).bind fun v33 =>
  (f_X12_size M (v33 - (55 : Int32))).bind fun v36 =>
  (if (1000 : Int32) < (((((5 : Int32) + ((2 : Int32) * v36)) + ((10 : Int32) * a6)) + a8) - a7) then
    (q_ldv (a2 * (1000 : Int32).toInt64) (1000 : Int64)).bind fun v37 =>
    some v37
  else
    (q_ldv (a2 * (((((5 : Int32) + ((2 : Int32) * v36)) + ((10 : Int32) * a6)) + a8) - a7).toInt64) (1000 : Int64)).bind fun v39 =>
    some v39)
def f_X12_lossOfHeap_b139 (kk21 : Int64 → Int32 → Int32 → Int32 → Int32 → Int32 → Int32 → Option Int64) (M : q_Mem) (a0 : Nat) (a1 : Int32) (a2 : Int64) (a4 : Int32) (a5 : Int32) (a6 : Int32) (a8 : Int32) (a9 : Int32) (a10 : Int32) (s0 : Int32) : Option Int64 :=
  (q_gR 11 0 M a0).bind fun v42 =>
  (q_lI M v42 (a10 + (1 : Int32))).bind fun v44 =>
  (if a8 < v44 then
    (q_gR 11 0 M a0).bind fun v46 =>
    (q_lI M v46 (a10 + (1 : Int32))).bind fun v48 =>
    kk21 a2 a4 a5 a6 s0 v48 (a9 + (1 : Int32))
  else
    kk21 a2 a4 a5 a6 s0 a8 (a9 + (1 : Int32)))
def f_X12_lossOfHeap_b109 (kk21 : Int64 → Int32 → Int32 → Int32 → Int32 → Int32 → Int32 → Option Int64) (M : q_Mem) (a0 : Nat) (a1 : Int32) (a2 : Int64) (a4 : Int32) (a5 : Int32) (a7 : Int32) (a8 : Int32) (a9 : Int32) (a10 : Int32) (s0 : Int32) : Option Int64 :=
  (q_gR 11 0 M a0).bind fun v24 =>
  (q_lI M v24 (a10 + (1 : Int32))).bind fun v26 =>
  (if v26 < a7 then
    (q_gR 11 0 M a0).bind fun v28 =>
    (q_lI M v28 (a10 + (1 : Int32))).bind fun v30 =>
    f_X12_lossOfHeap_b139 kk21 M a0 a1 a2 a4 a5 s0 a8 a9 a10 v30
  else
    f_X12_lossOfHeap_b139 kk21 M a0 a1 a2 a4 a5 s0 a8 a9 a10 a7)
def f_X12_lossOfHeap_b21 (M : q_Mem) (a0 : Nat) (a1 : Int32) : Nat → Int64 → Int32 → Int32 → Int32 → Int32 → Int32 → Int32 → Option Int64
  | 0, _, _, _, _, _, _, _ => none
  | n + 1, a2, a4, a5, a6, a7, a8, a9 =>
    (q_gR 11 0 M a0).bind fun v1 =>
    (q_lI M v1 (6 : Int32)).bind fun v3 =>
    (if a9 < v3 then
      (if ((a1 >>> (a9 &&& 31)) &&& (1 : Int32)) = (1 : Int32) then
        (q_gR 11 0 M a0).bind fun v5 =>
        (q_lI M v5 ((4526 : Int32) + ((3 : Int32) * a9))).bind fun v7 =>
        (q_gR 11 0 M a0).bind fun v9 =>
        (q_lI M v9 (((4526 : Int32) + ((3 : Int32) * a9)) + (1 : Int32))).bind fun v11 =>
        (q_gR 11 0 M a0).bind fun v13 =>
        (q_lI M v13 (((4526 : Int32) + ((3 : Int32) * a9)) + (2 : Int32))).bind fun v15 =>
        (if a6 < v15 then
          (q_gR 11 0 M a0).bind fun v17 =>
          (q_lI M v17 (((4526 : Int32) + ((3 : Int32) * a9)) + (2 : Int32))).bind fun v19 =>
          f_X12_lossOfHeap_b109 (f_X12_lossOfHeap_b21 M a0 a1 n) M a0 a1 (a2 + v7.toInt64) (a4 + v11) (a5 + (1 : Int32)) a7 a8 a9 ((4526 : Int32) + ((3 : Int32) * a9)) v19
        else
          f_X12_lossOfHeap_b109 (f_X12_lossOfHeap_b21 M a0 a1 n) M a0 a1 (a2 + v7.toInt64) (a4 + v11) (a5 + (1 : Int32)) a7 a8 a9 ((4526 : Int32) + ((3 : Int32) * a9)) a6)
      else
        f_X12_lossOfHeap_b21 M a0 a1 n a2 a4 a5 a6 a7 a8 (a9 + (1 : Int32)))
    else
      f_X12_lossOfHeap_b177 M a2 a4 a5 a6 a7 a8)
def f_X12_lossOfHeap (M : q_Mem) (a0 : Nat) (a1 : Int32) : Option Int64 :=
  q_ob 11 M a0 (f_X12_lossOfHeap_b21 M a0 a1 q_fuel (0 : Int64) (0 : Int32) (0 : Int32) (0 : Int32) (100 : Int32) (0 : Int32) (0 : Int32))
set_option maxRecDepth 20000 in
theorem v_X12_lossOfHeap_b177 {M : q_Mem} {a2 : Int64} {a4 : Int32} {a5 : Int32} {a6 : Int32} {a7 : Int32} {a8 : Int32}  : q_V Y_X12_lossOfHeap none (fun x : Int64 => (some (.long x), M)) 0 0 177 [(2, .long a2), (4, .int a4), (5, .int a5), (6, .int a6), (7, .int a7), (8, .int a8)] [] M (f_X12_lossOfHeap_b177 M a2 a4 a5 a6 a7 a8 ) := by
  unfold f_X12_lossOfHeap_b177
  refine q_iconst (x := (5 : Int32)) dX12_lossOfHeap_177 rfl ?_
  refine q_iconst (x := (2 : Int32)) dX12_lossOfHeap_178 rfl ?_
  refine q_iload 1 dX12_lossOfHeap_179 rfl ?_
  refine q_iload 2 dX12_lossOfHeap_181 rfl ?_
  refine q_idiv dX12_lossOfHeap_183 (fun v33 h34 => ?_)
  refine q_bipush (x := (55 : Int32)) dX12_lossOfHeap_184 rfl ?_
  refine q_isub dX12_lossOfHeap_186 ?_
  refine q_cSI (Y2 := Y_X12_size) (As := [.int (v33 - (55 : Int32))]) (st := [.int (2 : Int32), .int (5 : Int32)]) ms_X12_size qw_1324 dX12_lossOfHeap_187 ⟨Nat.le_of_ble_eq_true rfl, Nat.le_of_ble_eq_true rfl⟩ rfl (fun _ _ => rfl) (Nat.le_of_ble_eq_true rfl) ⟨Nat.le_of_ble_eq_true rfl, Nat.le_of_ble_eq_true rfl⟩ (fun v36 h35 => m_X12_size h35) (fun v36 h35 => ?_)
  refine q_imul dX12_lossOfHeap_190 ?_
  refine q_iadd dX12_lossOfHeap_191 ?_
  refine q_bipush (x := (10 : Int32)) dX12_lossOfHeap_192 rfl ?_
  refine q_iload 3 dX12_lossOfHeap_194 rfl ?_
  refine q_imul dX12_lossOfHeap_196 ?_
  refine q_iadd dX12_lossOfHeap_197 ?_
  refine q_iload 5 dX12_lossOfHeap_198 rfl ?_
  refine q_iadd dX12_lossOfHeap_200 ?_
  refine q_iload 4 dX12_lossOfHeap_201 rfl ?_
  refine q_isub dX12_lossOfHeap_203 ?_
  refine q_istore (ls' := [(9, .int (((((5 : Int32) + ((2 : Int32) * v36)) + ((10 : Int32) * a6)) + a8) - a7)), (2, .long a2), (4, .int a4), (5, .int a5), (6, .int a6), (7, .int a7), (8, .int a8)]) dX12_lossOfHeap_204 (by decide) rfl ?_
  refine q_lload_n 1 dX12_lossOfHeap_206 rfl ?_
  refine q_iload 0 dX12_lossOfHeap_207 rfl ?_
  refine q_sipush (x := (1000 : Int32)) dX12_lossOfHeap_209 rfl ?_
  refine q_icmp_le (tgt := 221) dX12_lossOfHeap_212 (by decide) (fun c41 => ?_) (fun c41 => ?_)
  · refine q_sipush (x := (1000 : Int32)) dX12_lossOfHeap_215 rfl ?_
    refine q_goto (tgt := 223) dX12_lossOfHeap_218 (by decide) ?_
    refine q_i2l dX12_lossOfHeap_223 ?_
    refine q_lmul dX12_lossOfHeap_224 ?_
    refine q_ldc2 (x := (1000 : Int64)) qw_1335 dX12_lossOfHeap_225 ?_
    refine q_ldiv dX12_lossOfHeap_228 (fun v37 h38 => ?_)
    exact q_lret dX12_lossOfHeap_229 rfl rfl (Nat.le_of_ble_eq_true rfl) rfl
  · refine q_iload 0 dX12_lossOfHeap_221 rfl ?_
    refine q_i2l dX12_lossOfHeap_223 ?_
    refine q_lmul dX12_lossOfHeap_224 ?_
    refine q_ldc2 (x := (1000 : Int64)) qw_1335 dX12_lossOfHeap_225 ?_
    refine q_ldiv dX12_lossOfHeap_228 (fun v39 h40 => ?_)
    exact q_lret dX12_lossOfHeap_229 rfl rfl (Nat.le_of_ble_eq_true rfl) rfl
set_option maxRecDepth 20000 in
theorem v_X12_lossOfHeap_b139 {kk21 : Int64 → Int32 → Int32 → Int32 → Int32 → Int32 → Int32 → Option Int64} {M : q_Mem} {a0 : Nat} {a1 : Int32} {a2 : Int64} {a4 : Int32} {a5 : Int32} {a6 : Int32} {a8 : Int32} {a9 : Int32} {a10 : Int32} {s0 : Int32}  (hk21 : ∀ (a2 : Int64) (a4 : Int32) (a5 : Int32) (a6 : Int32) (a7 : Int32) (a8 : Int32) (a9 : Int32), q_V Y_X12_lossOfHeap none (fun x : Int64 => (some (.long x), M)) 0 0 21 [(0, .ref a0), (1, .int a1), (2, .long a2), (4, .int a4), (5, .int a5), (6, .int a6), (7, .int a7), (8, .int a8), (9, .int a9)] [] M (kk21 a2 a4 a5 a6 a7 a8 a9)): q_V Y_X12_lossOfHeap none (fun x : Int64 => (some (.long x), M)) 0 0 139 [(0, .ref a0), (1, .int a1), (2, .long a2), (4, .int a4), (5, .int a5), (6, .int a6), (8, .int a8), (9, .int a9), (10, .int a10)] [.int s0] M (f_X12_lossOfHeap_b139 kk21 M a0 a1 a2 a4 a5 a6 a8 a9 a10 s0) := by
  unfold f_X12_lossOfHeap_b139
  refine q_istore (ls' := [(7, .int s0), (0, .ref a0), (1, .int a1), (2, .long a2), (4, .int a4), (5, .int a5), (6, .int a6), (8, .int a8), (9, .int a9), (10, .int a10)]) dX12_lossOfHeap_139 (by decide) rfl ?_
  refine q_aload_n 1 dX12_lossOfHeap_141 rfl ?_
  refine q_getR (f := 0) cl_X12 (by decide) qw_1117 rfl dX12_lossOfHeap_142 (fun _ _ _ => rfl) (fun v42 h43 => ?_)
  refine q_iload 9 dX12_lossOfHeap_145 rfl ?_
  refine q_iconst (x := (1 : Int32)) dX12_lossOfHeap_147 rfl ?_
  refine q_iadd dX12_lossOfHeap_148 ?_
  refine q_iald dX12_lossOfHeap_149 (fun v44 h45 => ?_)
  refine q_iload 7 dX12_lossOfHeap_150 rfl ?_
  refine q_icmp_le (tgt := 167) dX12_lossOfHeap_152 (by decide) (fun c50 => ?_) (fun c50 => ?_)
  · refine q_aload_n 1 dX12_lossOfHeap_155 rfl ?_
    refine q_getR (f := 0) cl_X12 (by decide) qw_1117 rfl dX12_lossOfHeap_156 (fun _ _ _ => rfl) (fun v46 h47 => ?_)
    refine q_iload 9 dX12_lossOfHeap_159 rfl ?_
    refine q_iconst (x := (1 : Int32)) dX12_lossOfHeap_161 rfl ?_
    refine q_iadd dX12_lossOfHeap_162 ?_
    refine q_iald dX12_lossOfHeap_163 (fun v48 h49 => ?_)
    refine q_goto (tgt := 169) dX12_lossOfHeap_164 (by decide) ?_
    refine q_istore (ls' := [(8, .int v48), (7, .int s0), (0, .ref a0), (1, .int a1), (2, .long a2), (4, .int a4), (5, .int a5), (6, .int a6), (9, .int a9), (10, .int a10)]) dX12_lossOfHeap_169 (by decide) rfl ?_
    refine q_iinc 8 (y := (a9 + (1 : Int32))) (ls' := [(9, .int (a9 + (1 : Int32))), (8, .int v48), (7, .int s0), (0, .ref a0), (1, .int a1), (2, .long a2), (4, .int a4), (5, .int a5), (6, .int a6), (10, .int a10)]) dX12_lossOfHeap_171 rfl rfl (by decide) rfl ?_
    refine q_goto (tgt := 21) dX12_lossOfHeap_174 (by decide) ?_
    refine q_sub (ls' := [(0, .ref a0), (1, .int a1), (2, .long a2), (4, .int a4), (5, .int a5), (6, .int a6), (7, .int s0), (8, .int v48), (9, .int (a9 + (1 : Int32)))]) [3, 4, 5, 6, 7, 8, 2, 1, 0] rfl ?_
    exact hk21 _ _ _ _ _ _ _
  · refine q_iload 7 dX12_lossOfHeap_167 rfl ?_
    refine q_istore (ls' := [(8, .int a8), (7, .int s0), (0, .ref a0), (1, .int a1), (2, .long a2), (4, .int a4), (5, .int a5), (6, .int a6), (9, .int a9), (10, .int a10)]) dX12_lossOfHeap_169 (by decide) rfl ?_
    refine q_iinc 8 (y := (a9 + (1 : Int32))) (ls' := [(9, .int (a9 + (1 : Int32))), (8, .int a8), (7, .int s0), (0, .ref a0), (1, .int a1), (2, .long a2), (4, .int a4), (5, .int a5), (6, .int a6), (10, .int a10)]) dX12_lossOfHeap_171 rfl rfl (by decide) rfl ?_
    refine q_goto (tgt := 21) dX12_lossOfHeap_174 (by decide) ?_
    refine q_sub (ls' := [(0, .ref a0), (1, .int a1), (2, .long a2), (4, .int a4), (5, .int a5), (6, .int a6), (7, .int s0), (8, .int a8), (9, .int (a9 + (1 : Int32)))]) [3, 4, 5, 6, 7, 8, 2, 1, 0] rfl ?_
    exact hk21 _ _ _ _ _ _ _
set_option maxRecDepth 20000 in
theorem v_X12_lossOfHeap_b109 {kk21 : Int64 → Int32 → Int32 → Int32 → Int32 → Int32 → Int32 → Option Int64} {M : q_Mem} {a0 : Nat} {a1 : Int32} {a2 : Int64} {a4 : Int32} {a5 : Int32} {a7 : Int32} {a8 : Int32} {a9 : Int32} {a10 : Int32} {s0 : Int32}  (hk21 : ∀ (a2 : Int64) (a4 : Int32) (a5 : Int32) (a6 : Int32) (a7 : Int32) (a8 : Int32) (a9 : Int32), q_V Y_X12_lossOfHeap none (fun x : Int64 => (some (.long x), M)) 0 0 21 [(0, .ref a0), (1, .int a1), (2, .long a2), (4, .int a4), (5, .int a5), (6, .int a6), (7, .int a7), (8, .int a8), (9, .int a9)] [] M (kk21 a2 a4 a5 a6 a7 a8 a9)): q_V Y_X12_lossOfHeap none (fun x : Int64 => (some (.long x), M)) 0 0 109 [(0, .ref a0), (1, .int a1), (2, .long a2), (4, .int a4), (5, .int a5), (7, .int a7), (8, .int a8), (9, .int a9), (10, .int a10)] [.int s0] M (f_X12_lossOfHeap_b109 kk21 M a0 a1 a2 a4 a5 a7 a8 a9 a10 s0) := by
  unfold f_X12_lossOfHeap_b109
  refine q_istore (ls' := [(6, .int s0), (0, .ref a0), (1, .int a1), (2, .long a2), (4, .int a4), (5, .int a5), (7, .int a7), (8, .int a8), (9, .int a9), (10, .int a10)]) dX12_lossOfHeap_109 (by decide) rfl ?_
  refine q_aload_n 1 dX12_lossOfHeap_111 rfl ?_
  refine q_getR (f := 0) cl_X12 (by decide) qw_1117 rfl dX12_lossOfHeap_112 (fun _ _ _ => rfl) (fun v24 h25 => ?_)
  refine q_iload 9 dX12_lossOfHeap_115 rfl ?_
  refine q_iconst (x := (1 : Int32)) dX12_lossOfHeap_117 rfl ?_
  refine q_iadd dX12_lossOfHeap_118 ?_
  refine q_iald dX12_lossOfHeap_119 (fun v26 h27 => ?_)
  refine q_iload 6 dX12_lossOfHeap_120 rfl ?_
  refine q_icmp_ge (tgt := 137) dX12_lossOfHeap_122 (by decide) (fun c32 => ?_) (fun c32 => ?_)
  · refine q_aload_n 1 dX12_lossOfHeap_125 rfl ?_
    refine q_getR (f := 0) cl_X12 (by decide) qw_1117 rfl dX12_lossOfHeap_126 (fun _ _ _ => rfl) (fun v28 h29 => ?_)
    refine q_iload 9 dX12_lossOfHeap_129 rfl ?_
    refine q_iconst (x := (1 : Int32)) dX12_lossOfHeap_131 rfl ?_
    refine q_iadd dX12_lossOfHeap_132 ?_
    refine q_iald dX12_lossOfHeap_133 (fun v30 h31 => ?_)
    refine q_goto (tgt := 139) dX12_lossOfHeap_134 (by decide) ?_
    refine q_sub (ls' := [(0, .ref a0), (1, .int a1), (2, .long a2), (4, .int a4), (5, .int a5), (6, .int s0), (8, .int a8), (9, .int a9), (10, .int a10)]) [1, 2, 3, 4, 5, 0, 7, 8, 9] rfl ?_
    exact v_X12_lossOfHeap_b139 (hk21)
  · refine q_iload 6 dX12_lossOfHeap_137 rfl ?_
    refine q_sub (ls' := [(0, .ref a0), (1, .int a1), (2, .long a2), (4, .int a4), (5, .int a5), (6, .int s0), (8, .int a8), (9, .int a9), (10, .int a10)]) [1, 2, 3, 4, 5, 0, 7, 8, 9] rfl ?_
    exact v_X12_lossOfHeap_b139 (hk21)
set_option maxRecDepth 20000 in
theorem v_X12_lossOfHeap_b21 {M : q_Mem} {a0 : Nat} {a1 : Int32}  : ∀ (n : Nat) (a2 : Int64) (a4 : Int32) (a5 : Int32) (a6 : Int32) (a7 : Int32) (a8 : Int32) (a9 : Int32), q_V Y_X12_lossOfHeap none (fun x : Int64 => (some (.long x), M)) 0 0 21 [(0, .ref a0), (1, .int a1), (2, .long a2), (4, .int a4), (5, .int a5), (6, .int a6), (7, .int a7), (8, .int a8), (9, .int a9)] [] M (f_X12_lossOfHeap_b21 M a0 a1 n a2 a4 a5 a6 a7 a8 a9) := by
  intro n
  induction n with
  | zero => intro a2 a4 a5 a6 a7 a8 a9; exact q_none
  | succ n ih =>
    intro a2 a4 a5 a6 a7 a8 a9
    rw [f_X12_lossOfHeap_b21.eq_2]
    refine q_iload 8 dX12_lossOfHeap_21 rfl ?_
    refine q_aload_n 0 dX12_lossOfHeap_23 rfl ?_
    refine q_getR (f := 0) cl_X12 (by decide) qw_1117 rfl dX12_lossOfHeap_24 (fun _ _ _ => rfl) (fun v1 h2 => ?_)
    refine q_bipush (x := (6 : Int32)) dX12_lossOfHeap_27 rfl ?_
    refine q_iald dX12_lossOfHeap_29 (fun v3 h4 => ?_)
    refine q_icmp_ge (tgt := 177) dX12_lossOfHeap_30 (by decide) (fun c23 => ?_) (fun c23 => ?_)
    · refine q_iload_n 1 dX12_lossOfHeap_33 rfl ?_
      refine q_iload 8 dX12_lossOfHeap_34 rfl ?_
      refine q_ishr dX12_lossOfHeap_36 ?_
      refine q_iconst (x := (1 : Int32)) dX12_lossOfHeap_37 rfl ?_
      refine q_iand dX12_lossOfHeap_38 ?_
      refine q_iconst (x := (1 : Int32)) dX12_lossOfHeap_39 rfl ?_
      refine q_icmp_ne (tgt := 171) dX12_lossOfHeap_40 (by decide) (fun c22 => ?_) (fun c22 => ?_)
      · refine q_sipush (x := (4526 : Int32)) dX12_lossOfHeap_43 rfl ?_
        refine q_iconst (x := (3 : Int32)) dX12_lossOfHeap_46 rfl ?_
        refine q_iload 8 dX12_lossOfHeap_47 rfl ?_
        refine q_imul dX12_lossOfHeap_49 ?_
        refine q_iadd dX12_lossOfHeap_50 ?_
        refine q_istore (ls' := [(10, .int ((4526 : Int32) + ((3 : Int32) * a9))), (0, .ref a0), (1, .int a1), (2, .long a2), (4, .int a4), (5, .int a5), (6, .int a6), (7, .int a7), (8, .int a8), (9, .int a9)]) dX12_lossOfHeap_51 (by decide) rfl ?_
        refine q_lload_n 3 dX12_lossOfHeap_53 rfl ?_
        refine q_aload_n 1 dX12_lossOfHeap_54 rfl ?_
        refine q_getR (f := 0) cl_X12 (by decide) qw_1117 rfl dX12_lossOfHeap_55 (fun _ _ _ => rfl) (fun v5 h6 => ?_)
        refine q_iload 0 dX12_lossOfHeap_58 rfl ?_
        refine q_iald dX12_lossOfHeap_60 (fun v7 h8 => ?_)
        refine q_i2l dX12_lossOfHeap_61 ?_
        refine q_ladd dX12_lossOfHeap_62 ?_
        refine q_lstore_n (ls' := [(2, .long (a2 + v7.toInt64)), (10, .int ((4526 : Int32) + ((3 : Int32) * a9))), (0, .ref a0), (1, .int a1), (4, .int a4), (5, .int a5), (6, .int a6), (7, .int a7), (8, .int a8), (9, .int a9)]) dX12_lossOfHeap_63 (by decide) rfl ?_
        refine q_iload 4 dX12_lossOfHeap_64 rfl ?_
        refine q_aload_n 2 dX12_lossOfHeap_66 rfl ?_
        refine q_getR (f := 0) cl_X12 (by decide) qw_1117 rfl dX12_lossOfHeap_67 (fun _ _ _ => rfl) (fun v9 h10 => ?_)
        refine q_iload 1 dX12_lossOfHeap_70 rfl ?_
        refine q_iconst (x := (1 : Int32)) dX12_lossOfHeap_72 rfl ?_
        refine q_iadd dX12_lossOfHeap_73 ?_
        refine q_iald dX12_lossOfHeap_74 (fun v11 h12 => ?_)
        refine q_iadd dX12_lossOfHeap_75 ?_
        refine q_istore (ls' := [(4, .int (a4 + v11)), (2, .long (a2 + v7.toInt64)), (10, .int ((4526 : Int32) + ((3 : Int32) * a9))), (0, .ref a0), (1, .int a1), (5, .int a5), (6, .int a6), (7, .int a7), (8, .int a8), (9, .int a9)]) dX12_lossOfHeap_76 (by decide) rfl ?_
        refine q_iinc 5 (y := (a5 + (1 : Int32))) (ls' := [(5, .int (a5 + (1 : Int32))), (4, .int (a4 + v11)), (2, .long (a2 + v7.toInt64)), (10, .int ((4526 : Int32) + ((3 : Int32) * a9))), (0, .ref a0), (1, .int a1), (6, .int a6), (7, .int a7), (8, .int a8), (9, .int a9)]) dX12_lossOfHeap_78 rfl rfl (by decide) rfl ?_
        refine q_aload_n 4 dX12_lossOfHeap_81 rfl ?_
        refine q_getR (f := 0) cl_X12 (by decide) qw_1117 rfl dX12_lossOfHeap_82 (fun _ _ _ => rfl) (fun v13 h14 => ?_)
        refine q_iload 3 dX12_lossOfHeap_85 rfl ?_
        refine q_iconst (x := (2 : Int32)) dX12_lossOfHeap_87 rfl ?_
        refine q_iadd dX12_lossOfHeap_88 ?_
        refine q_iald dX12_lossOfHeap_89 (fun v15 h16 => ?_)
        refine q_iload 6 dX12_lossOfHeap_90 rfl ?_
        refine q_icmp_le (tgt := 107) dX12_lossOfHeap_92 (by decide) (fun c21 => ?_) (fun c21 => ?_)
        · refine q_aload_n 4 dX12_lossOfHeap_95 rfl ?_
          refine q_getR (f := 0) cl_X12 (by decide) qw_1117 rfl dX12_lossOfHeap_96 (fun _ _ _ => rfl) (fun v17 h18 => ?_)
          refine q_iload 3 dX12_lossOfHeap_99 rfl ?_
          refine q_iconst (x := (2 : Int32)) dX12_lossOfHeap_101 rfl ?_
          refine q_iadd dX12_lossOfHeap_102 ?_
          refine q_iald dX12_lossOfHeap_103 (fun v19 h20 => ?_)
          refine q_goto (tgt := 109) dX12_lossOfHeap_104 (by decide) ?_
          refine q_sub (ls' := [(0, .ref a0), (1, .int a1), (2, .long (a2 + v7.toInt64)), (4, .int (a4 + v11)), (5, .int (a5 + (1 : Int32))), (7, .int a7), (8, .int a8), (9, .int a9), (10, .int ((4526 : Int32) + ((3 : Int32) * a9)))]) [4, 5, 2, 1, 0, 7, 8, 9, 3] rfl ?_
          exact v_X12_lossOfHeap_b109 (ih)
        · refine q_iload 6 dX12_lossOfHeap_107 rfl ?_
          refine q_sub (ls' := [(0, .ref a0), (1, .int a1), (2, .long (a2 + v7.toInt64)), (4, .int (a4 + v11)), (5, .int (a5 + (1 : Int32))), (7, .int a7), (8, .int a8), (9, .int a9), (10, .int ((4526 : Int32) + ((3 : Int32) * a9)))]) [4, 5, 2, 1, 0, 7, 8, 9, 3] rfl ?_
          exact v_X12_lossOfHeap_b109 (ih)
      · refine q_iinc 8 (y := (a9 + (1 : Int32))) (ls' := [(9, .int (a9 + (1 : Int32))), (0, .ref a0), (1, .int a1), (2, .long a2), (4, .int a4), (5, .int a5), (6, .int a6), (7, .int a7), (8, .int a8)]) dX12_lossOfHeap_171 rfl rfl (by decide) rfl ?_
        refine q_goto (tgt := 21) dX12_lossOfHeap_174 (by decide) ?_
        refine q_sub (ls' := [(0, .ref a0), (1, .int a1), (2, .long a2), (4, .int a4), (5, .int a5), (6, .int a6), (7, .int a7), (8, .int a8), (9, .int (a9 + (1 : Int32)))]) [1, 2, 3, 4, 5, 6, 7, 8, 0] rfl ?_
        exact ih _ _ _ _ _ _ _
    · refine q_sub (ls' := [(2, .long a2), (4, .int a4), (5, .int a5), (6, .int a6), (7, .int a7), (8, .int a8)]) [2, 3, 4, 5, 6, 7] rfl ?_
      exact v_X12_lossOfHeap_b177
set_option maxRecDepth 20000 in
theorem m_X12_lossOfHeap {M : q_Mem} {a0 : Nat} {a1 : Int32} {x : Int64} (h : f_X12_lossOfHeap M a0 a1 = some x) : q_C Y_X12_lossOfHeap [.ref a0, .int a1] M (some (.long x)) M := by
  refine q_met (φ := (fun x : Int64 => (some (.long x), M))) (r := f_X12_lossOfHeap M a0 a1) (by decide +kernel) (Nat.le_of_ble_eq_true rfl) ?_ h (fun _ _ => rfl)
  show q_V Y_X12_lossOfHeap none (fun x : Int64 => (some (.long x), M)) 0 0 0 [(0, .ref a0), (1, .int a1)] [] M (f_X12_lossOfHeap M a0 a1)
  unfold f_X12_lossOfHeap
  refine q_obV ?_
  refine q_lconst (x := (0 : Int64)) dX12_lossOfHeap_0 rfl ?_
  refine q_lstore_n (ls' := [(2, .long (0 : Int64)), (0, .ref a0), (1, .int a1)]) dX12_lossOfHeap_1 (by decide) rfl ?_
  refine q_iconst (x := (0 : Int32)) dX12_lossOfHeap_2 rfl ?_
  refine q_istore (ls' := [(4, .int (0 : Int32)), (2, .long (0 : Int64)), (0, .ref a0), (1, .int a1)]) dX12_lossOfHeap_3 (by decide) rfl ?_
  refine q_iconst (x := (0 : Int32)) dX12_lossOfHeap_5 rfl ?_
  refine q_istore (ls' := [(5, .int (0 : Int32)), (4, .int (0 : Int32)), (2, .long (0 : Int64)), (0, .ref a0), (1, .int a1)]) dX12_lossOfHeap_6 (by decide) rfl ?_
  refine q_iconst (x := (0 : Int32)) dX12_lossOfHeap_8 rfl ?_
  refine q_istore (ls' := [(6, .int (0 : Int32)), (5, .int (0 : Int32)), (4, .int (0 : Int32)), (2, .long (0 : Int64)), (0, .ref a0), (1, .int a1)]) dX12_lossOfHeap_9 (by decide) rfl ?_
  refine q_bipush (x := (100 : Int32)) dX12_lossOfHeap_11 rfl ?_
  refine q_istore (ls' := [(7, .int (100 : Int32)), (6, .int (0 : Int32)), (5, .int (0 : Int32)), (4, .int (0 : Int32)), (2, .long (0 : Int64)), (0, .ref a0), (1, .int a1)]) dX12_lossOfHeap_13 (by decide) rfl ?_
  refine q_iconst (x := (0 : Int32)) dX12_lossOfHeap_15 rfl ?_
  refine q_istore (ls' := [(8, .int (0 : Int32)), (7, .int (100 : Int32)), (6, .int (0 : Int32)), (5, .int (0 : Int32)), (4, .int (0 : Int32)), (2, .long (0 : Int64)), (0, .ref a0), (1, .int a1)]) dX12_lossOfHeap_16 (by decide) rfl ?_
  refine q_iconst (x := (0 : Int32)) dX12_lossOfHeap_18 rfl ?_
  refine q_istore (ls' := [(9, .int (0 : Int32)), (8, .int (0 : Int32)), (7, .int (100 : Int32)), (6, .int (0 : Int32)), (5, .int (0 : Int32)), (4, .int (0 : Int32)), (2, .long (0 : Int64)), (0, .ref a0), (1, .int a1)]) dX12_lossOfHeap_19 (by decide) rfl ?_
  refine q_sub (ls' := [(0, .ref a0), (1, .int a1), (2, .long (0 : Int64)), (4, .int (0 : Int32)), (5, .int (0 : Int32)), (6, .int (0 : Int32)), (7, .int (100 : Int32)), (8, .int (0 : Int32)), (9, .int (0 : Int32))]) [7, 8, 6, 5, 4, 3, 2, 1, 0] rfl ?_
  exact v_X12_lossOfHeap_b21 _ _ _ _ _ _ _ _
