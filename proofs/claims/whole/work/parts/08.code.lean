theorem dX0_init_0 : decode cX0_init 0 = .ok (.aload_n 0, 1) := by decide +kernel
theorem dX0_init_1 : decode cX0_init 1 = .ok (.invokespecial 3, 3) := by decide +kernel
theorem dX0_init_4 : decode cX0_init 4 = .ok (.aload_n 0, 1) := by decide +kernel
theorem dX0_init_5 : decode cX0_init 5 = .ok (.aload_n 1, 1) := by decide +kernel
theorem dX0_init_6 : decode cX0_init 6 = .ok (.putfield 9, 3) := by decide +kernel
theorem dX0_init_9 : decode cX0_init 9 = .ok (.aload_n 0, 1) := by decide +kernel
theorem dX0_init_10 : decode cX0_init 10 = .ok (.aload_n 1, 1) := by decide +kernel
theorem dX0_init_11 : decode cX0_init 11 = .ok (.getfield 15, 3) := by decide +kernel
theorem dX0_init_14 : decode cX0_init 14 = .ok (.putfield 21, 3) := by decide +kernel
theorem dX0_init_17 : decode cX0_init 17 = .ok (.return_, 1) := by decide +kernel
def f_X0_init (M : q_Mem) (a0 : Nat) (a1 : Nat) : Option q_Mem :=
  q_ob 0 M a0 ((q_pR 0 0 M a0 a1).bind fun M1 =>
  (q_gR 4 6 M1 a1).bind fun v3 =>
  (q_pR 0 1 M1 a0 v3).bind fun M5 =>
  some M5)
set_option maxRecDepth 20000 in
theorem m_X0_init {M : q_Mem} {a0 : Nat} {a1 : Nat} {x : q_Mem} (h : f_X0_init M a0 a1 = some x) : q_C Y_X0_init [.ref a0, .ref a1] M none x := by
  refine q_met (φ := (fun x : q_Mem => (none, x))) (r := f_X0_init M a0 a1) (by decide +kernel) (Nat.le_of_ble_eq_true rfl) ?_ h (fun _ _ => rfl)
  show q_V Y_X0_init none (fun x : q_Mem => (none, x)) 0 0 0 [(0, .ref a0), (1, .ref a1)] [] M (f_X0_init M a0 a1)
  unfold f_X0_init
  refine q_obV ?_
  refine q_aload_n 0 dX0_init_0 rfl ?_
  refine q_objInit qw_246 qo_2 qo_3 dX0_init_1 (Nat.le_of_ble_eq_true rfl) (Nat.le_of_ble_eq_true rfl) (Nat.le_of_ble_eq_true rfl) ?_
  refine q_aload_n 0 dX0_init_4 rfl ?_
  refine q_aload_n 1 dX0_init_5 rfl ?_
  refine q_putR (f := 0) cl_X0 (by decide) qw_247 rfl (Or.inr ⟨rfl, rfl, rfl⟩) dX0_init_6 (fun _ _ _ => rfl) (fun _ => rfl) (fun _ => rfl) (fun M1 h2 => ?_)
  refine q_aload_n 0 dX0_init_9 rfl ?_
  refine q_aload_n 1 dX0_init_10 rfl ?_
  refine q_getR (f := 6) cl_X5 (by decide) qw_97 rfl dX0_init_11 (fun _ _ _ => rfl) (fun v3 h4 => ?_)
  refine q_putR (f := 1) cl_X0 (by decide) qw_248 rfl (Or.inr ⟨rfl, rfl, rfl⟩) dX0_init_14 (fun _ _ _ => rfl) (fun _ => rfl) (fun _ => rfl) (fun M5 h6 => ?_)
  exact q_vret dX0_init_17 rfl rfl (Nat.le_of_ble_eq_true rfl) rfl
theorem dX9_put_0 : decode cX9_put 0 = .ok (.iload_n 1, 1) := by decide +kernel
theorem dX9_put_1 : decode cX9_put 1 = .ok (.ifCond .lt 23, 3) := by decide +kernel
theorem dX9_put_4 : decode cX9_put 4 = .ok (.iload_n 1, 1) := by decide +kernel
theorem dX9_put_5 : decode cX9_put 5 = .ok (.aload_n 0, 1) := by decide +kernel
theorem dX9_put_6 : decode cX9_put 6 = .ok (.getfield 28, 3) := by decide +kernel
theorem dX9_put_9 : decode cX9_put 9 = .ok (.if_icmp .ge 15, 3) := by decide +kernel
theorem dX9_put_12 : decode cX9_put 12 = .ok (.iload_n 2, 1) := by decide +kernel
theorem dX9_put_13 : decode cX9_put 13 = .ok (.ifCond .lt 11, 3) := by decide +kernel
theorem dX9_put_16 : decode cX9_put 16 = .ok (.iload_n 2, 1) := by decide +kernel
theorem dX9_put_17 : decode cX9_put 17 = .ok (.aload_n 0, 1) := by decide +kernel
theorem dX9_put_18 : decode cX9_put 18 = .ok (.getfield 15, 3) := by decide +kernel
theorem dX9_put_21 : decode cX9_put 21 = .ok (.if_icmp .lt 4, 3) := by decide +kernel
theorem dX9_put_24 : decode cX9_put 24 = .ok (.return_, 1) := by decide +kernel
theorem dX9_put_25 : decode cX9_put 25 = .ok (.iload_n 1, 1) := by decide +kernel
theorem dX9_put_26 : decode cX9_put 26 = .ok (.aload_n 0, 1) := by decide +kernel
theorem dX9_put_27 : decode cX9_put 27 = .ok (.getfield 15, 3) := by decide +kernel
theorem dX9_put_30 : decode cX9_put 30 = .ok (.imul, 1) := by decide +kernel
theorem dX9_put_31 : decode cX9_put 31 = .ok (.iload_n 2, 1) := by decide +kernel
theorem dX9_put_32 : decode cX9_put 32 = .ok (.iadd, 1) := by decide +kernel
theorem dX9_put_33 : decode cX9_put 33 = .ok (.istore 4, 2) := by decide +kernel
theorem dX9_put_35 : decode cX9_put 35 = .ok (.iload 4, 2) := by decide +kernel
theorem dX9_put_37 : decode cX9_put 37 = .ok (.aload_n 0, 1) := by decide +kernel
theorem dX9_put_38 : decode cX9_put 38 = .ok (.getfield 24, 3) := by decide +kernel
theorem dX9_put_41 : decode cX9_put 41 = .ok (.arraylength, 1) := by decide +kernel
theorem dX9_put_42 : decode cX9_put 42 = .ok (.if_icmp .ge 11, 3) := by decide +kernel
theorem dX9_put_45 : decode cX9_put 45 = .ok (.aload_n 0, 1) := by decide +kernel
theorem dX9_put_46 : decode cX9_put 46 = .ok (.getfield 24, 3) := by decide +kernel
theorem dX9_put_49 : decode cX9_put 49 = .ok (.iload 4, 2) := by decide +kernel
theorem dX9_put_51 : decode cX9_put 51 = .ok (.iload_n 3, 1) := by decide +kernel
theorem dX9_put_52 : decode cX9_put 52 = .ok (.iastore, 1) := by decide +kernel
theorem dX9_put_53 : decode cX9_put 53 = .ok (.return_, 1) := by decide +kernel
def f_X9_put (M : q_Mem) (a0 : Nat) (a1 : Int32) (a2 : Int32) (a3 : Int32) : Option q_Mem :=
  q_ob 8 M a0 ((if a1 < 0 then
    some M
  else
    (q_gI 8 3 M a0).bind fun v1 =>
    (if a1 < v1 then
      (if a2 < 0 then
        some M
      else
        (q_gI 8 1 M a0).bind fun v3 =>
        (if a2 < v3 then
          (q_gI 8 1 M a0).bind fun v5 =>
          (q_gR 8 2 M a0).bind fun v7 =>
          (q_ln M v7).bind fun v9 =>
          (if ((a1 * v5) + a2) < v9 then
            (q_gR 8 2 M a0).bind fun v11 =>
            (q_tI M v11 ((a1 * v5) + a2) a3).bind fun M13 =>
            some M13
          else
            some M)
        else
          some M))
    else
      some M)))
set_option maxRecDepth 20000 in
theorem m_X9_put {M : q_Mem} {a0 : Nat} {a1 : Int32} {a2 : Int32} {a3 : Int32} {x : q_Mem} (h : f_X9_put M a0 a1 a2 a3 = some x) : q_C Y_X9_put [.ref a0, .int a1, .int a2, .int a3] M none x := by
  refine q_met (φ := (fun x : q_Mem => (none, x))) (r := f_X9_put M a0 a1 a2 a3) (by decide +kernel) (Nat.le_of_ble_eq_true rfl) ?_ h (fun _ _ => rfl)
  show q_V Y_X9_put none (fun x : q_Mem => (none, x)) 0 0 0 [(0, .ref a0), (1, .int a1), (2, .int a2), (3, .int a3)] [] M (f_X9_put M a0 a1 a2 a3)
  unfold f_X9_put
  refine q_obV ?_
  refine q_iload_n 1 dX9_put_0 rfl ?_
  refine q_if_lt (tgt := 24) dX9_put_1 (by decide) (fun c19 => ?_) (fun c19 => ?_)
  · exact q_vret dX9_put_24 rfl rfl (Nat.le_of_ble_eq_true rfl) rfl
  · refine q_iload_n 1 dX9_put_4 rfl ?_
    refine q_aload_n 0 dX9_put_5 rfl ?_
    refine q_getI (f := 3) cl_X9 (by decide) qw_44 rfl dX9_put_6 (Or.inl rfl) (fun v1 h2 => ?_)
    refine q_icmp_ge (tgt := 24) dX9_put_9 (by decide) (fun c18 => ?_) (fun c18 => ?_)
    · refine q_iload_n 2 dX9_put_12 rfl ?_
      refine q_if_lt (tgt := 24) dX9_put_13 (by decide) (fun c17 => ?_) (fun c17 => ?_)
      · exact q_vret dX9_put_24 rfl rfl (Nat.le_of_ble_eq_true rfl) rfl
      · refine q_iload_n 2 dX9_put_16 rfl ?_
        refine q_aload_n 0 dX9_put_17 rfl ?_
        refine q_getI (f := 1) cl_X9 (by decide) qw_42 rfl dX9_put_18 (Or.inl rfl) (fun v3 h4 => ?_)
        refine q_icmp_lt (tgt := 25) dX9_put_21 (by decide) (fun c16 => ?_) (fun c16 => ?_)
        · refine q_iload_n 1 dX9_put_25 rfl ?_
          refine q_aload_n 0 dX9_put_26 rfl ?_
          refine q_getI (f := 1) cl_X9 (by decide) qw_42 rfl dX9_put_27 (Or.inl rfl) (fun v5 h6 => ?_)
          refine q_imul dX9_put_30 ?_
          refine q_iload_n 2 dX9_put_31 rfl ?_
          refine q_iadd dX9_put_32 ?_
          refine q_istore (ls' := [(4, .int ((a1 * v5) + a2)), (0, .ref a0), (1, .int a1), (2, .int a2), (3, .int a3)]) dX9_put_33 (by decide) rfl ?_
          refine q_iload 0 dX9_put_35 rfl ?_
          refine q_aload_n 1 dX9_put_37 rfl ?_
          refine q_getR (f := 2) cl_X9 (by decide) qw_43 rfl dX9_put_38 (fun _ _ _ => rfl) (fun v7 h8 => ?_)
          refine q_alen dX9_put_41 (fun v9 h10 => ?_)
          refine q_icmp_ge (tgt := 53) dX9_put_42 (by decide) (fun c15 => ?_) (fun c15 => ?_)
          · refine q_aload_n 1 dX9_put_45 rfl ?_
            refine q_getR (f := 2) cl_X9 (by decide) qw_43 rfl dX9_put_46 (fun _ _ _ => rfl) (fun v11 h12 => ?_)
            refine q_iload 0 dX9_put_49 rfl ?_
            refine q_iload_n 4 dX9_put_51 rfl ?_
            refine q_iast dX9_put_52 (fun M13 h14 => ?_)
            exact q_vret dX9_put_53 rfl rfl (Nat.le_of_ble_eq_true rfl) rfl
          · exact q_vret dX9_put_53 rfl rfl (Nat.le_of_ble_eq_true rfl) rfl
        · exact q_vret dX9_put_24 rfl rfl (Nat.le_of_ble_eq_true rfl) rfl
    · exact q_vret dX9_put_24 rfl rfl (Nat.le_of_ble_eq_true rfl) rfl
theorem dX9_come_0 : decode cX9_come 0 = .ok (.aload_n 0, 1) := by decide +kernel
theorem dX9_come_1 : decode cX9_come 1 = .ok (.getfield 28, 3) := by decide +kernel
theorem dX9_come_4 : decode cX9_come 4 = .ok (.aload_n 0, 1) := by decide +kernel
theorem dX9_come_5 : decode cX9_come 5 = .ok (.getfield 9, 3) := by decide +kernel
theorem dX9_come_8 : decode cX9_come 8 = .ok (.if_icmp .lt 6, 3) := by decide +kernel
theorem dX9_come_11 : decode cX9_come 11 = .ok (.bipush (-4), 2) := by decide +kernel
theorem dX9_come_13 : decode cX9_come 13 = .ok (.ireturn, 1) := by decide +kernel
theorem dX9_come_14 : decode cX9_come 14 = .ok (.aload_n 0, 1) := by decide +kernel
theorem dX9_come_15 : decode cX9_come 15 = .ok (.getfield 28, 3) := by decide +kernel
theorem dX9_come_18 : decode cX9_come 18 = .ok (.istore 4, 2) := by decide +kernel
theorem dX9_come_20 : decode cX9_come 20 = .ok (.aload_n 0, 1) := by decide +kernel
theorem dX9_come_21 : decode cX9_come 21 = .ok (.dup, 1) := by decide +kernel
theorem dX9_come_22 : decode cX9_come 22 = .ok (.getfield 28, 3) := by decide +kernel
theorem dX9_come_25 : decode cX9_come 25 = .ok (.iconst 1, 1) := by decide +kernel
theorem dX9_come_26 : decode cX9_come 26 = .ok (.iadd, 1) := by decide +kernel
theorem dX9_come_27 : decode cX9_come 27 = .ok (.putfield 28, 3) := by decide +kernel
theorem dX9_come_30 : decode cX9_come 30 = .ok (.iconst 0, 1) := by decide +kernel
theorem dX9_come_31 : decode cX9_come 31 = .ok (.istore 5, 2) := by decide +kernel
theorem dX9_come_33 : decode cX9_come 33 = .ok (.iload 5, 2) := by decide +kernel
theorem dX9_come_35 : decode cX9_come 35 = .ok (.aload_n 0, 1) := by decide +kernel
theorem dX9_come_36 : decode cX9_come 36 = .ok (.getfield 15, 3) := by decide +kernel
theorem dX9_come_39 : decode cX9_come 39 = .ok (.if_icmp .ge 18, 3) := by decide +kernel
theorem dX9_come_42 : decode cX9_come 42 = .ok (.aload_n 0, 1) := by decide +kernel
theorem dX9_come_43 : decode cX9_come 43 = .ok (.iload 4, 2) := by decide +kernel
theorem dX9_come_45 : decode cX9_come 45 = .ok (.iload 5, 2) := by decide +kernel
theorem dX9_come_47 : decode cX9_come 47 = .ok (.iconst (-1), 1) := by decide +kernel
theorem dX9_come_48 : decode cX9_come 48 = .ok (.invokevirtual 31, 3) := by decide +kernel
theorem dX9_come_51 : decode cX9_come 51 = .ok (.iinc 5 1, 3) := by decide +kernel
theorem dX9_come_54 : decode cX9_come 54 = .ok (.goto (-21), 3) := by decide +kernel
theorem dX9_come_57 : decode cX9_come 57 = .ok (.aload_n 0, 1) := by decide +kernel
theorem dX9_come_58 : decode cX9_come 58 = .ok (.iload 4, 2) := by decide +kernel
theorem dX9_come_60 : decode cX9_come 60 = .ok (.iconst 0, 1) := by decide +kernel
theorem dX9_come_61 : decode cX9_come 61 = .ok (.iload_n 1, 1) := by decide +kernel
theorem dX9_come_62 : decode cX9_come 62 = .ok (.invokevirtual 31, 3) := by decide +kernel
theorem dX9_come_65 : decode cX9_come 65 = .ok (.aload_n 0, 1) := by decide +kernel
theorem dX9_come_66 : decode cX9_come 66 = .ok (.iload 4, 2) := by decide +kernel
theorem dX9_come_68 : decode cX9_come 68 = .ok (.iconst 1, 1) := by decide +kernel
theorem dX9_come_69 : decode cX9_come 69 = .ok (.iload_n 2, 1) := by decide +kernel
theorem dX9_come_70 : decode cX9_come 70 = .ok (.invokevirtual 31, 3) := by decide +kernel
theorem dX9_come_73 : decode cX9_come 73 = .ok (.aload_n 0, 1) := by decide +kernel
theorem dX9_come_74 : decode cX9_come 74 = .ok (.iload 4, 2) := by decide +kernel
theorem dX9_come_76 : decode cX9_come 76 = .ok (.iconst 2, 1) := by decide +kernel
theorem dX9_come_77 : decode cX9_come 77 = .ok (.iload_n 3, 1) := by decide +kernel
theorem dX9_come_78 : decode cX9_come 78 = .ok (.invokevirtual 31, 3) := by decide +kernel
theorem dX9_come_81 : decode cX9_come 81 = .ok (.iload 4, 2) := by decide +kernel
theorem dX9_come_83 : decode cX9_come 83 = .ok (.ireturn, 1) := by decide +kernel
def f_X9_come_b57 (M : q_Mem) (a0 : Nat) (a1 : Int32) (a2 : Int32) (a3 : Int32) (a4 : Int32) : Option (Int32 × q_Mem) :=
  (f_X9_put M a0 a4 (0 : Int32) a1).bind fun M20 =>
  (f_X9_put M20 a0 a4 (1 : Int32) a2).bind fun M23 =>
  (f_X9_put M23 a0 a4 (2 : Int32) a3).bind fun M26 =>
  some (a4, M26)
def f_X9_come_b33 (a0 : Nat) (a1 : Int32) (a2 : Int32) (a3 : Int32) (a4 : Int32) : Nat → Int32 → q_Mem → Option (Int32 × q_Mem)
  | 0, _, _ => none
  | n + 1, a5, M =>
    (q_gI 8 1 M a0).bind fun v12 =>
    (if a5 < v12 then
      (f_X9_put M a0 a4 a5 (-1 : Int32)).bind fun M16 =>
      f_X9_come_b33 a0 a1 a2 a3 a4 n (a5 + (1 : Int32)) M16
    else
      f_X9_come_b57 M a0 a1 a2 a3 a4)
def f_X9_come (M : q_Mem) (a0 : Nat) (a1 : Int32) (a2 : Int32) (a3 : Int32) : Option (Int32 × q_Mem) :=
  q_ob 8 M a0 ((q_gI 8 3 M a0).bind fun v1 =>
  (q_gI 8 0 M a0).bind fun v3 =>
  (if v1 < v3 then
    (q_gI 8 3 M a0).bind fun v5 =>
    (q_gI 8 3 M a0).bind fun v7 =>
    (q_pI 8 3 M a0 (v7 + (1 : Int32))).bind fun M9 =>
    f_X9_come_b33 a0 a1 a2 a3 v5 q_fuel (0 : Int32) M9
  else
    some ((-4 : Int32), M)))
set_option maxRecDepth 20000 in
theorem v_X9_come_b57 {M : q_Mem} {a0 : Nat} {a1 : Int32} {a2 : Int32} {a3 : Int32} {a4 : Int32}  : q_V Y_X9_come none (fun x : Int32 × q_Mem => (some (.int x.1), x.2)) 0 0 57 [(0, .ref a0), (1, .int a1), (2, .int a2), (3, .int a3), (4, .int a4)] [] M (f_X9_come_b57 M a0 a1 a2 a3 a4 ) := by
  unfold f_X9_come_b57
  refine q_aload_n 0 dX9_come_57 rfl ?_
  refine q_iload 4 dX9_come_58 rfl ?_
  refine q_iconst (x := (0 : Int32)) dX9_come_60 rfl ?_
  refine q_iload_n 1 dX9_come_61 rfl ?_
  refine q_cVM (Y2 := Y_X9_put) (As := [.int a4, .int (0 : Int32), .int a1]) (b := a0) (st := []) cl_X9 mv_X9_put qw_67 dX9_come_62 ⟨Nat.le_of_ble_eq_true rfl, Nat.le_of_ble_eq_true rfl⟩ rfl (fun _ _ => rfl) (Nat.le_of_ble_eq_true rfl) ⟨Nat.le_of_ble_eq_true rfl, Nat.le_of_ble_eq_true rfl⟩ (fun M20 h18 => q_ob_is h18) (fun M20 h18 => m_X9_put h18) (fun M20 h18 => ?_)
  refine q_aload_n 0 dX9_come_65 rfl ?_
  refine q_iload 4 dX9_come_66 rfl ?_
  refine q_iconst (x := (1 : Int32)) dX9_come_68 rfl ?_
  refine q_iload_n 2 dX9_come_69 rfl ?_
  refine q_cVM (Y2 := Y_X9_put) (As := [.int a4, .int (1 : Int32), .int a2]) (b := a0) (st := []) cl_X9 mv_X9_put qw_67 dX9_come_70 ⟨Nat.le_of_ble_eq_true rfl, Nat.le_of_ble_eq_true rfl⟩ rfl (fun _ _ => rfl) (Nat.le_of_ble_eq_true rfl) ⟨Nat.le_of_ble_eq_true rfl, Nat.le_of_ble_eq_true rfl⟩ (fun M23 h21 => q_ob_is h21) (fun M23 h21 => m_X9_put h21) (fun M23 h21 => ?_)
  refine q_aload_n 0 dX9_come_73 rfl ?_
  refine q_iload 4 dX9_come_74 rfl ?_
  refine q_iconst (x := (2 : Int32)) dX9_come_76 rfl ?_
  refine q_iload_n 3 dX9_come_77 rfl ?_
  refine q_cVM (Y2 := Y_X9_put) (As := [.int a4, .int (2 : Int32), .int a3]) (b := a0) (st := []) cl_X9 mv_X9_put qw_67 dX9_come_78 ⟨Nat.le_of_ble_eq_true rfl, Nat.le_of_ble_eq_true rfl⟩ rfl (fun _ _ => rfl) (Nat.le_of_ble_eq_true rfl) ⟨Nat.le_of_ble_eq_true rfl, Nat.le_of_ble_eq_true rfl⟩ (fun M26 h24 => q_ob_is h24) (fun M26 h24 => m_X9_put h24) (fun M26 h24 => ?_)
  refine q_iload 4 dX9_come_81 rfl ?_
  exact q_iret dX9_come_83 rfl rfl (Nat.le_of_ble_eq_true rfl) rfl
set_option maxRecDepth 20000 in
theorem v_X9_come_b33 {a0 : Nat} {a1 : Int32} {a2 : Int32} {a3 : Int32} {a4 : Int32}  : ∀ (n : Nat) (a5 : Int32) (M : q_Mem), q_V Y_X9_come none (fun x : Int32 × q_Mem => (some (.int x.1), x.2)) 0 0 33 [(0, .ref a0), (1, .int a1), (2, .int a2), (3, .int a3), (4, .int a4), (5, .int a5)] [] M (f_X9_come_b33 a0 a1 a2 a3 a4 n a5 M) := by
  intro n
  induction n with
  | zero => intro a5 M; exact q_none
  | succ n ih =>
    intro a5 M
    rw [f_X9_come_b33.eq_2]
    refine q_iload 5 dX9_come_33 rfl ?_
    refine q_aload_n 0 dX9_come_35 rfl ?_
    refine q_getI (f := 1) cl_X9 (by decide) qw_42 rfl dX9_come_36 (Or.inl rfl) (fun v12 h13 => ?_)
    refine q_icmp_ge (tgt := 57) dX9_come_39 (by decide) (fun c17 => ?_) (fun c17 => ?_)
    · refine q_aload_n 0 dX9_come_42 rfl ?_
      refine q_iload 4 dX9_come_43 rfl ?_
      refine q_iload 5 dX9_come_45 rfl ?_
      refine q_iconst (x := (-1 : Int32)) dX9_come_47 rfl ?_
      refine q_cVM (Y2 := Y_X9_put) (As := [.int a4, .int a5, .int (-1 : Int32)]) (b := a0) (st := []) cl_X9 mv_X9_put qw_67 dX9_come_48 ⟨Nat.le_of_ble_eq_true rfl, Nat.le_of_ble_eq_true rfl⟩ rfl (fun _ _ => rfl) (Nat.le_of_ble_eq_true rfl) ⟨Nat.le_of_ble_eq_true rfl, Nat.le_of_ble_eq_true rfl⟩ (fun M16 h14 => q_ob_is h14) (fun M16 h14 => m_X9_put h14) (fun M16 h14 => ?_)
      refine q_iinc 5 (y := (a5 + (1 : Int32))) (ls' := [(5, .int (a5 + (1 : Int32))), (0, .ref a0), (1, .int a1), (2, .int a2), (3, .int a3), (4, .int a4)]) dX9_come_51 rfl rfl (by decide) rfl ?_
      refine q_goto (tgt := 33) dX9_come_54 (by decide) ?_
      refine q_sub (ls' := [(0, .ref a0), (1, .int a1), (2, .int a2), (3, .int a3), (4, .int a4), (5, .int (a5 + (1 : Int32)))]) [1, 2, 3, 4, 5, 0] rfl ?_
      exact ih _ _
    · refine q_sub (ls' := [(0, .ref a0), (1, .int a1), (2, .int a2), (3, .int a3), (4, .int a4)]) [0, 1, 2, 3, 4] rfl ?_
      exact v_X9_come_b57
set_option maxRecDepth 20000 in
theorem m_X9_come {M : q_Mem} {a0 : Nat} {a1 : Int32} {a2 : Int32} {a3 : Int32} {x : (Int32 × q_Mem)} (h : f_X9_come M a0 a1 a2 a3 = some x) : q_C Y_X9_come [.ref a0, .int a1, .int a2, .int a3] M (some (.int x.1)) x.2 := by
  refine q_met (φ := (fun x : Int32 × q_Mem => (some (.int x.1), x.2))) (r := f_X9_come M a0 a1 a2 a3) (by decide +kernel) (Nat.le_of_ble_eq_true rfl) ?_ h (fun _ _ => rfl)
  show q_V Y_X9_come none (fun x : Int32 × q_Mem => (some (.int x.1), x.2)) 0 0 0 [(0, .ref a0), (1, .int a1), (2, .int a2), (3, .int a3)] [] M (f_X9_come M a0 a1 a2 a3)
  unfold f_X9_come
  refine q_obV ?_
  refine q_aload_n 0 dX9_come_0 rfl ?_
  refine q_getI (f := 3) cl_X9 (by decide) qw_44 rfl dX9_come_1 (Or.inl rfl) (fun v1 h2 => ?_)
  refine q_aload_n 0 dX9_come_4 rfl ?_
  refine q_getI (f := 0) cl_X9 (by decide) qw_41 rfl dX9_come_5 (Or.inl rfl) (fun v3 h4 => ?_)
  refine q_icmp_lt (tgt := 14) dX9_come_8 (by decide) (fun c11 => ?_) (fun c11 => ?_)
  · refine q_aload_n 0 dX9_come_14 rfl ?_
    refine q_getI (f := 3) cl_X9 (by decide) qw_44 rfl dX9_come_15 (Or.inl rfl) (fun v5 h6 => ?_)
    refine q_istore (ls' := [(4, .int v5), (0, .ref a0), (1, .int a1), (2, .int a2), (3, .int a3)]) dX9_come_18 (by decide) rfl ?_
    refine q_aload_n 1 dX9_come_20 rfl ?_
    refine q_dup dX9_come_21 rfl ?_
    refine q_getI (f := 3) cl_X9 (by decide) qw_44 rfl dX9_come_22 (Or.inl rfl) (fun v7 h8 => ?_)
    refine q_iconst (x := (1 : Int32)) dX9_come_25 rfl ?_
    refine q_iadd dX9_come_26 ?_
    refine q_putI (f := 3) cl_X9 (by decide) qw_44 rfl (Or.inl rfl) dX9_come_27 rfl (fun M9 h10 => ?_)
    refine q_iconst (x := (0 : Int32)) dX9_come_30 rfl ?_
    refine q_istore (ls' := [(5, .int (0 : Int32)), (4, .int v5), (0, .ref a0), (1, .int a1), (2, .int a2), (3, .int a3)]) dX9_come_31 (by decide) rfl ?_
    refine q_sub (ls' := [(0, .ref a0), (1, .int a1), (2, .int a2), (3, .int a3), (4, .int v5), (5, .int (0 : Int32))]) [2, 3, 4, 5, 1, 0] rfl ?_
    exact v_X9_come_b33 _ _ _
  · refine q_bipush (x := (-4 : Int32)) dX9_come_11 rfl ?_
    exact q_iret dX9_come_13 rfl rfl (Nat.le_of_ble_eq_true rfl) rfl
theorem dX9_at_0 : decode cX9_at 0 = .ok (.iload_n 1, 1) := by decide +kernel
theorem dX9_at_1 : decode cX9_at 1 = .ok (.ifCond .lt 23, 3) := by decide +kernel
theorem dX9_at_4 : decode cX9_at 4 = .ok (.iload_n 1, 1) := by decide +kernel
theorem dX9_at_5 : decode cX9_at 5 = .ok (.aload_n 0, 1) := by decide +kernel
theorem dX9_at_6 : decode cX9_at 6 = .ok (.getfield 28, 3) := by decide +kernel
theorem dX9_at_9 : decode cX9_at 9 = .ok (.if_icmp .ge 15, 3) := by decide +kernel
theorem dX9_at_12 : decode cX9_at 12 = .ok (.iload_n 2, 1) := by decide +kernel
theorem dX9_at_13 : decode cX9_at 13 = .ok (.ifCond .lt 11, 3) := by decide +kernel
theorem dX9_at_16 : decode cX9_at 16 = .ok (.iload_n 2, 1) := by decide +kernel
theorem dX9_at_17 : decode cX9_at 17 = .ok (.aload_n 0, 1) := by decide +kernel
theorem dX9_at_18 : decode cX9_at 18 = .ok (.getfield 15, 3) := by decide +kernel
theorem dX9_at_21 : decode cX9_at 21 = .ok (.if_icmp .lt 5, 3) := by decide +kernel
theorem dX9_at_24 : decode cX9_at 24 = .ok (.iconst (-1), 1) := by decide +kernel
theorem dX9_at_25 : decode cX9_at 25 = .ok (.ireturn, 1) := by decide +kernel
theorem dX9_at_26 : decode cX9_at 26 = .ok (.iload_n 1, 1) := by decide +kernel
theorem dX9_at_27 : decode cX9_at 27 = .ok (.aload_n 0, 1) := by decide +kernel
theorem dX9_at_28 : decode cX9_at 28 = .ok (.getfield 15, 3) := by decide +kernel
theorem dX9_at_31 : decode cX9_at 31 = .ok (.imul, 1) := by decide +kernel
theorem dX9_at_32 : decode cX9_at 32 = .ok (.iload_n 2, 1) := by decide +kernel
theorem dX9_at_33 : decode cX9_at 33 = .ok (.iadd, 1) := by decide +kernel
theorem dX9_at_34 : decode cX9_at 34 = .ok (.istore_n 3, 1) := by decide +kernel
theorem dX9_at_35 : decode cX9_at 35 = .ok (.iload_n 3, 1) := by decide +kernel
theorem dX9_at_36 : decode cX9_at 36 = .ok (.aload_n 0, 1) := by decide +kernel
theorem dX9_at_37 : decode cX9_at 37 = .ok (.getfield 24, 3) := by decide +kernel
theorem dX9_at_40 : decode cX9_at 40 = .ok (.arraylength, 1) := by decide +kernel
theorem dX9_at_41 : decode cX9_at 41 = .ok (.if_icmp .ge 12, 3) := by decide +kernel
theorem dX9_at_44 : decode cX9_at 44 = .ok (.aload_n 0, 1) := by decide +kernel
theorem dX9_at_45 : decode cX9_at 45 = .ok (.getfield 24, 3) := by decide +kernel
theorem dX9_at_48 : decode cX9_at 48 = .ok (.iload_n 3, 1) := by decide +kernel
theorem dX9_at_49 : decode cX9_at 49 = .ok (.iaload, 1) := by decide +kernel
theorem dX9_at_50 : decode cX9_at 50 = .ok (.goto 4, 3) := by decide +kernel
theorem dX9_at_53 : decode cX9_at 53 = .ok (.iconst (-1), 1) := by decide +kernel
theorem dX9_at_54 : decode cX9_at 54 = .ok (.ireturn, 1) := by decide +kernel
def f_X9_at (M : q_Mem) (a0 : Nat) (a1 : Int32) (a2 : Int32) : Option Int32 :=
  q_ob 8 M a0 ((if a1 < 0 then
    some (-1 : Int32)
  else
    (q_gI 8 3 M a0).bind fun v1 =>
    (if a1 < v1 then
      (if a2 < 0 then
        some (-1 : Int32)
      else
        (q_gI 8 1 M a0).bind fun v3 =>
        (if a2 < v3 then
          (q_gI 8 1 M a0).bind fun v5 =>
          (q_gR 8 2 M a0).bind fun v7 =>
          (q_ln M v7).bind fun v9 =>
          (if ((a1 * v5) + a2) < v9 then
            (q_gR 8 2 M a0).bind fun v11 =>
            (q_lI M v11 ((a1 * v5) + a2)).bind fun v13 =>
            some v13
          else
            some (-1 : Int32))
        else
          some (-1 : Int32)))
    else
      some (-1 : Int32))))
set_option maxRecDepth 20000 in
theorem m_X9_at {M : q_Mem} {a0 : Nat} {a1 : Int32} {a2 : Int32} {x : Int32} (h : f_X9_at M a0 a1 a2 = some x) : q_C Y_X9_at [.ref a0, .int a1, .int a2] M (some (.int x)) M := by
  refine q_met (φ := (fun x : Int32 => (some (.int x), M))) (r := f_X9_at M a0 a1 a2) (by decide +kernel) (Nat.le_of_ble_eq_true rfl) ?_ h (fun _ _ => rfl)
  show q_V Y_X9_at none (fun x : Int32 => (some (.int x), M)) 0 0 0 [(0, .ref a0), (1, .int a1), (2, .int a2)] [] M (f_X9_at M a0 a1 a2)
  unfold f_X9_at
  refine q_obV ?_
  refine q_iload_n 1 dX9_at_0 rfl ?_
  refine q_if_lt (tgt := 24) dX9_at_1 (by decide) (fun c19 => ?_) (fun c19 => ?_)
  · refine q_iconst (x := (-1 : Int32)) dX9_at_24 rfl ?_
    exact q_iret dX9_at_25 rfl rfl (Nat.le_of_ble_eq_true rfl) rfl
  · refine q_iload_n 1 dX9_at_4 rfl ?_
    refine q_aload_n 0 dX9_at_5 rfl ?_
    refine q_getI (f := 3) cl_X9 (by decide) qw_44 rfl dX9_at_6 (Or.inl rfl) (fun v1 h2 => ?_)
    refine q_icmp_ge (tgt := 24) dX9_at_9 (by decide) (fun c18 => ?_) (fun c18 => ?_)
    · refine q_iload_n 2 dX9_at_12 rfl ?_
      refine q_if_lt (tgt := 24) dX9_at_13 (by decide) (fun c17 => ?_) (fun c17 => ?_)
      · refine q_iconst (x := (-1 : Int32)) dX9_at_24 rfl ?_
        exact q_iret dX9_at_25 rfl rfl (Nat.le_of_ble_eq_true rfl) rfl
      · refine q_iload_n 2 dX9_at_16 rfl ?_
        refine q_aload_n 0 dX9_at_17 rfl ?_
        refine q_getI (f := 1) cl_X9 (by decide) qw_42 rfl dX9_at_18 (Or.inl rfl) (fun v3 h4 => ?_)
        refine q_icmp_lt (tgt := 26) dX9_at_21 (by decide) (fun c16 => ?_) (fun c16 => ?_)
        · refine q_iload_n 1 dX9_at_26 rfl ?_
          refine q_aload_n 0 dX9_at_27 rfl ?_
          refine q_getI (f := 1) cl_X9 (by decide) qw_42 rfl dX9_at_28 (Or.inl rfl) (fun v5 h6 => ?_)
          refine q_imul dX9_at_31 ?_
          refine q_iload_n 2 dX9_at_32 rfl ?_
          refine q_iadd dX9_at_33 ?_
          refine q_istore_n (ls' := [(3, .int ((a1 * v5) + a2)), (0, .ref a0), (1, .int a1), (2, .int a2)]) dX9_at_34 (by decide) rfl ?_
          refine q_iload_n 0 dX9_at_35 rfl ?_
          refine q_aload_n 1 dX9_at_36 rfl ?_
          refine q_getR (f := 2) cl_X9 (by decide) qw_43 rfl dX9_at_37 (fun _ _ _ => rfl) (fun v7 h8 => ?_)
          refine q_alen dX9_at_40 (fun v9 h10 => ?_)
          refine q_icmp_ge (tgt := 53) dX9_at_41 (by decide) (fun c15 => ?_) (fun c15 => ?_)
          · refine q_aload_n 1 dX9_at_44 rfl ?_
            refine q_getR (f := 2) cl_X9 (by decide) qw_43 rfl dX9_at_45 (fun _ _ _ => rfl) (fun v11 h12 => ?_)
            refine q_iload_n 0 dX9_at_48 rfl ?_
            refine q_iald dX9_at_49 (fun v13 h14 => ?_)
            refine q_goto (tgt := 54) dX9_at_50 (by decide) ?_
            exact q_iret dX9_at_54 rfl rfl (Nat.le_of_ble_eq_true rfl) rfl
          · refine q_iconst (x := (-1 : Int32)) dX9_at_53 rfl ?_
            exact q_iret dX9_at_54 rfl rfl (Nat.le_of_ble_eq_true rfl) rfl
        · refine q_iconst (x := (-1 : Int32)) dX9_at_24 rfl ?_
          exact q_iret dX9_at_25 rfl rfl (Nat.le_of_ble_eq_true rfl) rfl
    · refine q_iconst (x := (-1 : Int32)) dX9_at_24 rfl ?_
      exact q_iret dX9_at_25 rfl rfl (Nat.le_of_ble_eq_true rfl) rfl
theorem dX0_propose_0 : decode cX0_propose 0 = .ok (.aload_n 0, 1) := by decide +kernel
theorem dX0_propose_1 : decode cX0_propose 1 = .ok (.getfield 21, 3) := by decide +kernel
theorem dX0_propose_4 : decode cX0_propose 4 = .ok (.iload_n 2, 1) := by decide +kernel
theorem dX0_propose_5 : decode cX0_propose 5 = .ok (.iload_n 3, 1) := by decide +kernel
theorem dX0_propose_6 : decode cX0_propose 6 = .ok (.iconst 0, 1) := by decide +kernel
theorem dX0_propose_7 : decode cX0_propose 7 = .ok (.invokevirtual 22, 3) := by decide +kernel
theorem dX0_propose_10 : decode cX0_propose 10 = .ok (.istore 4, 2) := by decide +kernel
theorem dX0_propose_12 : decode cX0_propose 12 = .ok (.iload 4, 2) := by decide +kernel
theorem dX0_propose_14 : decode cX0_propose 14 = .ok (.bipush (-4), 2) := by decide +kernel
theorem dX0_propose_16 : decode cX0_propose 16 = .ok (.if_icmp .ne 6, 3) := by decide +kernel
theorem dX0_propose_19 : decode cX0_propose 19 = .ok (.bipush (-4), 2) := by decide +kernel
theorem dX0_propose_21 : decode cX0_propose 21 = .ok (.ireturn, 1) := by decide +kernel
theorem dX0_propose_22 : decode cX0_propose 22 = .ok (.iconst 0, 1) := by decide +kernel
theorem dX0_propose_23 : decode cX0_propose 23 = .ok (.istore 5, 2) := by decide +kernel
theorem dX0_propose_25 : decode cX0_propose 25 = .ok (.iload 5, 2) := by decide +kernel
theorem dX0_propose_27 : decode cX0_propose 27 = .ok (.bipush 60, 2) := by decide +kernel
theorem dX0_propose_29 : decode cX0_propose 29 = .ok (.if_icmp .gt 37, 3) := by decide +kernel
theorem dX0_propose_32 : decode cX0_propose 32 = .ok (.aload_n 0, 1) := by decide +kernel
theorem dX0_propose_33 : decode cX0_propose 33 = .ok (.getfield 21, 3) := by decide +kernel
theorem dX0_propose_36 : decode cX0_propose 36 = .ok (.iload 4, 2) := by decide +kernel
theorem dX0_propose_38 : decode cX0_propose 38 = .ok (.iconst 3, 1) := by decide +kernel
theorem dX0_propose_39 : decode cX0_propose 39 = .ok (.iload 5, 2) := by decide +kernel
theorem dX0_propose_41 : decode cX0_propose 41 = .ok (.iadd, 1) := by decide +kernel
theorem dX0_propose_42 : decode cX0_propose 42 = .ok (.aload_n 0, 1) := by decide +kernel
theorem dX0_propose_43 : decode cX0_propose 43 = .ok (.getfield 9, 3) := by decide +kernel
theorem dX0_propose_46 : decode cX0_propose 46 = .ok (.getfield 28, 3) := by decide +kernel
theorem dX0_propose_49 : decode cX0_propose 49 = .ok (.iload_n 1, 1) := by decide +kernel
theorem dX0_propose_50 : decode cX0_propose 50 = .ok (.iconst 0, 1) := by decide +kernel
theorem dX0_propose_51 : decode cX0_propose 51 = .ok (.iload 5, 2) := by decide +kernel
theorem dX0_propose_53 : decode cX0_propose 53 = .ok (.iadd, 1) := by decide +kernel
theorem dX0_propose_54 : decode cX0_propose 54 = .ok (.invokevirtual 31, 3) := by decide +kernel
theorem dX0_propose_57 : decode cX0_propose 57 = .ok (.invokevirtual 35, 3) := by decide +kernel
theorem dX0_propose_60 : decode cX0_propose 60 = .ok (.iinc 5 1, 3) := by decide +kernel
theorem dX0_propose_63 : decode cX0_propose 63 = .ok (.goto (-38), 3) := by decide +kernel
theorem dX0_propose_66 : decode cX0_propose 66 = .ok (.iconst 0, 1) := by decide +kernel
theorem dX0_propose_67 : decode cX0_propose 67 = .ok (.istore 5, 2) := by decide +kernel
theorem dX0_propose_69 : decode cX0_propose 69 = .ok (.iload 5, 2) := by decide +kernel
theorem dX0_propose_71 : decode cX0_propose 71 = .ok (.bipush 20, 2) := by decide +kernel
theorem dX0_propose_73 : decode cX0_propose 73 = .ok (.if_icmp .ge 24, 3) := by decide +kernel
theorem dX0_propose_76 : decode cX0_propose 76 = .ok (.aload_n 0, 1) := by decide +kernel
theorem dX0_propose_77 : decode cX0_propose 77 = .ok (.getfield 21, 3) := by decide +kernel
theorem dX0_propose_80 : decode cX0_propose 80 = .ok (.iload 4, 2) := by decide +kernel
theorem dX0_propose_82 : decode cX0_propose 82 = .ok (.bipush 64, 2) := by decide +kernel
theorem dX0_propose_84 : decode cX0_propose 84 = .ok (.iload 5, 2) := by decide +kernel
theorem dX0_propose_86 : decode cX0_propose 86 = .ok (.iadd, 1) := by decide +kernel
theorem dX0_propose_87 : decode cX0_propose 87 = .ok (.iconst 0, 1) := by decide +kernel
theorem dX0_propose_88 : decode cX0_propose 88 = .ok (.invokevirtual 35, 3) := by decide +kernel
theorem dX0_propose_91 : decode cX0_propose 91 = .ok (.iinc 5 1, 3) := by decide +kernel
theorem dX0_propose_94 : decode cX0_propose 94 = .ok (.goto (-25), 3) := by decide +kernel
theorem dX0_propose_97 : decode cX0_propose 97 = .ok (.iload 4, 2) := by decide +kernel
theorem dX0_propose_99 : decode cX0_propose 99 = .ok (.ireturn, 1) := by decide +kernel
def f_X0_propose_b69 (a0 : Nat) (a4 : Int32) : Nat → Int32 → q_Mem → Option (Int32 × q_Mem)
  | 0, _, _ => none
  | n + 1, a5, M =>
    (if a5 < (20 : Int32) then
      (q_gR 0 1 M a0).bind fun v18 =>
      (f_X9_put M v18 a4 ((64 : Int32) + a5) (0 : Int32)).bind fun M22 =>
      f_X0_propose_b69 a0 a4 n (a5 + (1 : Int32)) M22
    else
      some (a4, M))
def f_X0_propose_b25 (a0 : Nat) (a1 : Int32) (a4 : Int32) : Nat → Int32 → q_Mem → Option (Int32 × q_Mem)
  | 0, _, _ => none
  | n + 1, a5, M =>
    (if (60 : Int32) < a5 then
      f_X0_propose_b69 a0 a4 q_fuel (0 : Int32) M
    else
      (q_gR 0 1 M a0).bind fun v6 =>
      (q_gR 0 0 M a0).bind fun v8 =>
      (q_gR 4 5 M v8).bind fun v10 =>
      (f_X9_at M v10 a1 ((0 : Int32) + a5)).bind fun v13 =>
      (f_X9_put M v6 a4 ((3 : Int32) + a5) v13).bind fun M16 =>
      f_X0_propose_b25 a0 a1 a4 n (a5 + (1 : Int32)) M16)
def f_X0_propose (M : q_Mem) (a0 : Nat) (a1 : Int32) (a2 : Int32) (a3 : Int32) : Option (Int32 × q_Mem) :=
  q_ob 0 M a0 ((q_gR 0 1 M a0).bind fun v1 =>
  (f_X9_come M v1 a2 a3 (0 : Int32)).bind fun r4 =>
  (if r4.1 = (-4 : Int32) then
    some ((-4 : Int32), r4.2)
  else
    f_X0_propose_b25 a0 a1 r4.1 q_fuel (0 : Int32) r4.2))
set_option maxRecDepth 20000 in
theorem v_X0_propose_b69 {a0 : Nat} {a4 : Int32}  : ∀ (n : Nat) (a5 : Int32) (M : q_Mem), q_V Y_X0_propose none (fun x : Int32 × q_Mem => (some (.int x.1), x.2)) 0 0 69 [(0, .ref a0), (4, .int a4), (5, .int a5)] [] M (f_X0_propose_b69 a0 a4 n a5 M) := by
  intro n
  induction n with
  | zero => intro a5 M; exact q_none
  | succ n ih =>
    intro a5 M
    rw [f_X0_propose_b69.eq_2]
    refine q_iload 2 dX0_propose_69 rfl ?_
    refine q_bipush (x := (20 : Int32)) dX0_propose_71 rfl ?_
    refine q_icmp_ge (tgt := 97) dX0_propose_73 (by decide) (fun c23 => ?_) (fun c23 => ?_)
    · refine q_aload_n 0 dX0_propose_76 rfl ?_
      refine q_getR (f := 1) cl_X0 (by decide) qw_248 rfl dX0_propose_77 (fun _ _ _ => rfl) (fun v18 h19 => ?_)
      refine q_iload 1 dX0_propose_80 rfl ?_
      refine q_bipush (x := (64 : Int32)) dX0_propose_82 rfl ?_
      refine q_iload 2 dX0_propose_84 rfl ?_
      refine q_iadd dX0_propose_86 ?_
      refine q_iconst (x := (0 : Int32)) dX0_propose_87 rfl ?_
      refine q_cVM (Y2 := Y_X9_put) (As := [.int a4, .int ((64 : Int32) + a5), .int (0 : Int32)]) (b := v18) (st := []) cl_X9 mv_X9_put qw_779 dX0_propose_88 ⟨Nat.le_of_ble_eq_true rfl, Nat.le_of_ble_eq_true rfl⟩ rfl (fun _ _ => rfl) (Nat.le_of_ble_eq_true rfl) ⟨Nat.le_of_ble_eq_true rfl, Nat.le_of_ble_eq_true rfl⟩ (fun M22 h20 => q_ob_is h20) (fun M22 h20 => m_X9_put h20) (fun M22 h20 => ?_)
      refine q_iinc 2 (y := (a5 + (1 : Int32))) (ls' := [(5, .int (a5 + (1 : Int32))), (0, .ref a0), (4, .int a4)]) dX0_propose_91 rfl rfl (by decide) rfl ?_
      refine q_goto (tgt := 69) dX0_propose_94 (by decide) ?_
      refine q_sub (ls' := [(0, .ref a0), (4, .int a4), (5, .int (a5 + (1 : Int32)))]) [1, 2, 0] rfl ?_
      exact ih _ _
    · refine q_iload 1 dX0_propose_97 rfl ?_
      exact q_iret dX0_propose_99 rfl rfl (Nat.le_of_ble_eq_true rfl) rfl
set_option maxRecDepth 20000 in
theorem v_X0_propose_b25 {a0 : Nat} {a1 : Int32} {a4 : Int32}  : ∀ (n : Nat) (a5 : Int32) (M : q_Mem), q_V Y_X0_propose none (fun x : Int32 × q_Mem => (some (.int x.1), x.2)) 0 0 25 [(0, .ref a0), (1, .int a1), (4, .int a4), (5, .int a5)] [] M (f_X0_propose_b25 a0 a1 a4 n a5 M) := by
  intro n
  induction n with
  | zero => intro a5 M; exact q_none
  | succ n ih =>
    intro a5 M
    rw [f_X0_propose_b25.eq_2]
    refine q_iload 3 dX0_propose_25 rfl ?_
    refine q_bipush (x := (60 : Int32)) dX0_propose_27 rfl ?_
    refine q_icmp_gt (tgt := 66) dX0_propose_29 (by decide) (fun c17 => ?_) (fun c17 => ?_)
    · refine q_iconst (x := (0 : Int32)) dX0_propose_66 rfl ?_
      refine q_istore (ls' := [(5, .int (0 : Int32)), (0, .ref a0), (1, .int a1), (4, .int a4)]) dX0_propose_67 (by decide) rfl ?_
      refine q_sub (ls' := [(0, .ref a0), (4, .int a4), (5, .int (0 : Int32))]) [1, 3, 0] rfl ?_
      exact v_X0_propose_b69 _ _ _
    · refine q_aload_n 0 dX0_propose_32 rfl ?_
      refine q_getR (f := 1) cl_X0 (by decide) qw_248 rfl dX0_propose_33 (fun _ _ _ => rfl) (fun v6 h7 => ?_)
      refine q_iload 2 dX0_propose_36 rfl ?_
      refine q_iconst (x := (3 : Int32)) dX0_propose_38 rfl ?_
      refine q_iload 3 dX0_propose_39 rfl ?_
      refine q_iadd dX0_propose_41 ?_
      refine q_aload_n 0 dX0_propose_42 rfl ?_
      refine q_getR (f := 0) cl_X0 (by decide) qw_247 rfl dX0_propose_43 (fun _ _ _ => rfl) (fun v8 h9 => ?_)
      refine q_getR (f := 5) cl_X5 (by decide) qw_95 rfl dX0_propose_46 (fun _ _ _ => rfl) (fun v10 h11 => ?_)
      refine q_iload_n 1 dX0_propose_49 rfl ?_
      refine q_iconst (x := (0 : Int32)) dX0_propose_50 rfl ?_
      refine q_iload 3 dX0_propose_51 rfl ?_
      refine q_iadd dX0_propose_53 ?_
      refine q_cVI (Y2 := Y_X9_at) (As := [.int a1, .int ((0 : Int32) + a5)]) (b := v10) (st := [.int ((3 : Int32) + a5), .int a4, .ref v6]) cl_X9 mv_X9_at qw_778 dX0_propose_54 ⟨Nat.le_of_ble_eq_true rfl, Nat.le_of_ble_eq_true rfl⟩ rfl (fun _ _ => rfl) (Nat.le_of_ble_eq_true rfl) ⟨Nat.le_of_ble_eq_true rfl, Nat.le_of_ble_eq_true rfl⟩ (fun v13 h12 => q_ob_is h12) (fun v13 h12 => m_X9_at h12) (fun v13 h12 => ?_)
      refine q_cVM (Y2 := Y_X9_put) (As := [.int a4, .int ((3 : Int32) + a5), .int v13]) (b := v6) (st := []) cl_X9 mv_X9_put qw_779 dX0_propose_57 ⟨Nat.le_of_ble_eq_true rfl, Nat.le_of_ble_eq_true rfl⟩ rfl (fun _ _ => rfl) (Nat.le_of_ble_eq_true rfl) ⟨Nat.le_of_ble_eq_true rfl, Nat.le_of_ble_eq_true rfl⟩ (fun M16 h14 => q_ob_is h14) (fun M16 h14 => m_X9_put h14) (fun M16 h14 => ?_)
      refine q_iinc 3 (y := (a5 + (1 : Int32))) (ls' := [(5, .int (a5 + (1 : Int32))), (0, .ref a0), (1, .int a1), (4, .int a4)]) dX0_propose_60 rfl rfl (by decide) rfl ?_
      refine q_goto (tgt := 25) dX0_propose_63 (by decide) ?_
      refine q_sub (ls' := [(0, .ref a0), (1, .int a1), (4, .int a4), (5, .int (a5 + (1 : Int32)))]) [1, 2, 3, 0] rfl ?_
      exact ih _ _
set_option maxRecDepth 20000 in
theorem m_X0_propose {M : q_Mem} {a0 : Nat} {a1 : Int32} {a2 : Int32} {a3 : Int32} {x : (Int32 × q_Mem)} (h : f_X0_propose M a0 a1 a2 a3 = some x) : q_C Y_X0_propose [.ref a0, .int a1, .int a2, .int a3] M (some (.int x.1)) x.2 := by
  refine q_met (φ := (fun x : Int32 × q_Mem => (some (.int x.1), x.2))) (r := f_X0_propose M a0 a1 a2 a3) (by decide +kernel) (Nat.le_of_ble_eq_true rfl) ?_ h (fun _ _ => rfl)
  show q_V Y_X0_propose none (fun x : Int32 × q_Mem => (some (.int x.1), x.2)) 0 0 0 [(0, .ref a0), (1, .int a1), (2, .int a2), (3, .int a3)] [] M (f_X0_propose M a0 a1 a2 a3)
  unfold f_X0_propose
  refine q_obV ?_
  refine q_aload_n 0 dX0_propose_0 rfl ?_
  refine q_getR (f := 1) cl_X0 (by decide) qw_248 rfl dX0_propose_1 (fun _ _ _ => rfl) (fun v1 h2 => ?_)
  refine q_iload_n 2 dX0_propose_4 rfl ?_
  refine q_iload_n 3 dX0_propose_5 rfl ?_
  refine q_iconst (x := (0 : Int32)) dX0_propose_6 rfl ?_
  refine q_cVMI (Y2 := Y_X9_come) (As := [.int a2, .int a3, .int (0 : Int32)]) (b := v1) (st := []) cl_X9 mv_X9_come qw_777 dX0_propose_7 ⟨Nat.le_of_ble_eq_true rfl, Nat.le_of_ble_eq_true rfl⟩ rfl (fun _ _ => rfl) (Nat.le_of_ble_eq_true rfl) ⟨Nat.le_of_ble_eq_true rfl, Nat.le_of_ble_eq_true rfl⟩ (fun r4 h3 => q_ob_is h3) (fun r4 h3 => m_X9_come h3) (fun r4 h3 => ?_)
  refine q_istore (ls' := [(4, .int r4.1), (0, .ref a0), (1, .int a1), (2, .int a2), (3, .int a3)]) dX0_propose_10 (by decide) rfl ?_
  refine q_iload 0 dX0_propose_12 rfl ?_
  refine q_bipush (x := (-4 : Int32)) dX0_propose_14 rfl ?_
  refine q_icmp_ne (tgt := 22) dX0_propose_16 (by decide) (fun c5 => ?_) (fun c5 => ?_)
  · refine q_bipush (x := (-4 : Int32)) dX0_propose_19 rfl ?_
    exact q_iret dX0_propose_21 rfl rfl (Nat.le_of_ble_eq_true rfl) rfl
  · refine q_iconst (x := (0 : Int32)) dX0_propose_22 rfl ?_
    refine q_istore (ls' := [(5, .int (0 : Int32)), (4, .int r4.1), (0, .ref a0), (1, .int a1), (2, .int a2), (3, .int a3)]) dX0_propose_23 (by decide) rfl ?_
    refine q_sub (ls' := [(0, .ref a0), (1, .int a1), (4, .int r4.1), (5, .int (0 : Int32))]) [2, 3, 1, 0] rfl ?_
    exact v_X0_propose_b25 _ _ _
theorem dX0_votesOf_0 : decode cX0_votesOf 0 = .ok (.aload_n 0, 1) := by decide +kernel
theorem dX0_votesOf_1 : decode cX0_votesOf 1 = .ok (.getfield 21, 3) := by decide +kernel
theorem dX0_votesOf_4 : decode cX0_votesOf 4 = .ok (.iload_n 1, 1) := by decide +kernel
theorem dX0_votesOf_5 : decode cX0_votesOf 5 = .ok (.iconst 1, 1) := by decide +kernel
theorem dX0_votesOf_6 : decode cX0_votesOf 6 = .ok (.invokevirtual 31, 3) := by decide +kernel
theorem dX0_votesOf_9 : decode cX0_votesOf 9 = .ok (.iconst 1, 1) := by decide +kernel
theorem dX0_votesOf_10 : decode cX0_votesOf 10 = .ok (.if_icmp .ne 7, 3) := by decide +kernel
theorem dX0_votesOf_13 : decode cX0_votesOf 13 = .ok (.iconst 1, 1) := by decide +kernel
theorem dX0_votesOf_14 : decode cX0_votesOf 14 = .ok (.goto 4, 3) := by decide +kernel
theorem dX0_votesOf_17 : decode cX0_votesOf 17 = .ok (.iconst 0, 1) := by decide +kernel
theorem dX0_votesOf_18 : decode cX0_votesOf 18 = .ok (.istore_n 3, 1) := by decide +kernel
theorem dX0_votesOf_19 : decode cX0_votesOf 19 = .ok (.iconst 0, 1) := by decide +kernel
theorem dX0_votesOf_20 : decode cX0_votesOf 20 = .ok (.istore 4, 2) := by decide +kernel
theorem dX0_votesOf_22 : decode cX0_votesOf 22 = .ok (.iconst 0, 1) := by decide +kernel
theorem dX0_votesOf_23 : decode cX0_votesOf 23 = .ok (.istore 5, 2) := by decide +kernel
theorem dX0_votesOf_25 : decode cX0_votesOf 25 = .ok (.iload 5, 2) := by decide +kernel
theorem dX0_votesOf_27 : decode cX0_votesOf 27 = .ok (.aload_n 0, 1) := by decide +kernel
theorem dX0_votesOf_28 : decode cX0_votesOf 28 = .ok (.getfield 9, 3) := by decide +kernel
theorem dX0_votesOf_31 : decode cX0_votesOf 31 = .ok (.getfield 50, 3) := by decide +kernel
theorem dX0_votesOf_34 : decode cX0_votesOf 34 = .ok (.getfield 53, 3) := by decide +kernel
theorem dX0_votesOf_37 : decode cX0_votesOf 37 = .ok (.if_icmp .ge 72, 3) := by decide +kernel
theorem dX0_votesOf_40 : decode cX0_votesOf 40 = .ok (.aload_n 0, 1) := by decide +kernel
theorem dX0_votesOf_41 : decode cX0_votesOf 41 = .ok (.getfield 9, 3) := by decide +kernel
theorem dX0_votesOf_44 : decode cX0_votesOf 44 = .ok (.getfield 50, 3) := by decide +kernel
theorem dX0_votesOf_47 : decode cX0_votesOf 47 = .ok (.iload 5, 2) := by decide +kernel
theorem dX0_votesOf_49 : decode cX0_votesOf 49 = .ok (.iconst 3, 1) := by decide +kernel
theorem dX0_votesOf_50 : decode cX0_votesOf 50 = .ok (.invokevirtual 31, 3) := by decide +kernel
theorem dX0_votesOf_53 : decode cX0_votesOf 53 = .ok (.iconst 1, 1) := by decide +kernel
theorem dX0_votesOf_54 : decode cX0_votesOf 54 = .ok (.if_icmp .ne 49, 3) := by decide +kernel
theorem dX0_votesOf_57 : decode cX0_votesOf 57 = .ok (.aload_n 0, 1) := by decide +kernel
theorem dX0_votesOf_58 : decode cX0_votesOf 58 = .ok (.getfield 21, 3) := by decide +kernel
theorem dX0_votesOf_61 : decode cX0_votesOf 61 = .ok (.iload_n 1, 1) := by decide +kernel
theorem dX0_votesOf_62 : decode cX0_votesOf 62 = .ok (.bipush 64, 2) := by decide +kernel
theorem dX0_votesOf_64 : decode cX0_votesOf 64 = .ok (.iload 5, 2) := by decide +kernel
theorem dX0_votesOf_66 : decode cX0_votesOf 66 = .ok (.iadd, 1) := by decide +kernel
theorem dX0_votesOf_67 : decode cX0_votesOf 67 = .ok (.invokevirtual 31, 3) := by decide +kernel
theorem dX0_votesOf_70 : decode cX0_votesOf 70 = .ok (.iload_n 2, 1) := by decide +kernel
theorem dX0_votesOf_71 : decode cX0_votesOf 71 = .ok (.if_icmp .eq 6, 3) := by decide +kernel
theorem dX0_votesOf_74 : decode cX0_votesOf 74 = .ok (.goto 29, 3) := by decide +kernel
theorem dX0_votesOf_77 : decode cX0_votesOf 77 = .ok (.iload 4, 2) := by decide +kernel
theorem dX0_votesOf_79 : decode cX0_votesOf 79 = .ok (.iload_n 3, 1) := by decide +kernel
theorem dX0_votesOf_80 : decode cX0_votesOf 80 = .ok (.ifCond .eq 19, 3) := by decide +kernel
theorem dX0_votesOf_83 : decode cX0_votesOf 83 = .ok (.aload_n 0, 1) := by decide +kernel
theorem dX0_votesOf_84 : decode cX0_votesOf 84 = .ok (.getfield 9, 3) := by decide +kernel
theorem dX0_votesOf_87 : decode cX0_votesOf 87 = .ok (.getfield 50, 3) := by decide +kernel
theorem dX0_votesOf_90 : decode cX0_votesOf 90 = .ok (.iload 5, 2) := by decide +kernel
theorem dX0_votesOf_92 : decode cX0_votesOf 92 = .ok (.iconst 2, 1) := by decide +kernel
theorem dX0_votesOf_93 : decode cX0_votesOf 93 = .ok (.invokevirtual 31, 3) := by decide +kernel
theorem dX0_votesOf_96 : decode cX0_votesOf 96 = .ok (.goto 4, 3) := by decide +kernel
theorem dX0_votesOf_99 : decode cX0_votesOf 99 = .ok (.iconst 1, 1) := by decide +kernel
theorem dX0_votesOf_100 : decode cX0_votesOf 100 = .ok (.iadd, 1) := by decide +kernel
theorem dX0_votesOf_101 : decode cX0_votesOf 101 = .ok (.istore 4, 2) := by decide +kernel
theorem dX0_votesOf_103 : decode cX0_votesOf 103 = .ok (.iinc 5 1, 3) := by decide +kernel
theorem dX0_votesOf_106 : decode cX0_votesOf 106 = .ok (.goto (-81), 3) := by decide +kernel
theorem dX0_votesOf_109 : decode cX0_votesOf 109 = .ok (.iload 4, 2) := by decide +kernel
theorem dX0_votesOf_111 : decode cX0_votesOf 111 = .ok (.ireturn, 1) := by decide +kernel
def f_X0_votesOf_b25 (M : q_Mem) (a0 : Nat) (a1 : Int32) (a2 : Int32) (a3 : Int32) : Nat → Int32 → Int32 → Option Int32
  | 0, _, _ => none
  | n + 1, a4, a5 =>
    (q_gR 0 0 M a0).bind fun v6 =>
    (q_gR 4 0 M v6).bind fun v8 =>
    (q_gI 8 3 M v8).bind fun v10 =>
    (if a5 < v10 then
      (q_gR 0 0 M a0).bind fun v12 =>
      (q_gR 4 0 M v12).bind fun v14 =>
      (f_X9_at M v14 a5 (3 : Int32)).bind fun v17 =>
      (if v17 = (1 : Int32) then
        (q_gR 0 1 M a0).bind fun v18 =>
        (f_X9_at M v18 a1 ((64 : Int32) + a5)).bind fun v21 =>
        (if v21 = a2 then
          (if a3 = 0 then
            f_X0_votesOf_b25 M a0 a1 a2 a3 n (a4 + (1 : Int32)) (a5 + (1 : Int32))
          else
            (q_gR 0 0 M a0).bind fun v22 =>
            (q_gR 4 0 M v22).bind fun v24 =>
            (f_X9_at M v24 a5 (2 : Int32)).bind fun v27 =>
            f_X0_votesOf_b25 M a0 a1 a2 a3 n (a4 + v27) (a5 + (1 : Int32)))
        else
          f_X0_votesOf_b25 M a0 a1 a2 a3 n a4 (a5 + (1 : Int32)))
      else
        f_X0_votesOf_b25 M a0 a1 a2 a3 n a4 (a5 + (1 : Int32)))
    else
      some a4)
def f_X0_votesOf_b18 (M : q_Mem) (a0 : Nat) (a1 : Int32) (a2 : Int32) (s0 : Int32) : Option Int32 :=
  f_X0_votesOf_b25 M a0 a1 a2 s0 q_fuel (0 : Int32) (0 : Int32)
def f_X0_votesOf (M : q_Mem) (a0 : Nat) (a1 : Int32) (a2 : Int32) : Option Int32 :=
  q_ob 0 M a0 ((q_gR 0 1 M a0).bind fun v1 =>
  (f_X9_at M v1 a1 (1 : Int32)).bind fun v4 =>
  (if v4 = (1 : Int32) then
    f_X0_votesOf_b18 M a0 a1 a2 (1 : Int32)
  else
    f_X0_votesOf_b18 M a0 a1 a2 (0 : Int32)))
set_option maxRecDepth 20000 in
theorem v_X0_votesOf_b25 {M : q_Mem} {a0 : Nat} {a1 : Int32} {a2 : Int32} {a3 : Int32}  : ∀ (n : Nat) (a4 : Int32) (a5 : Int32), q_V Y_X0_votesOf none (fun x : Int32 => (some (.int x), M)) 0 0 25 [(0, .ref a0), (1, .int a1), (2, .int a2), (3, .int a3), (4, .int a4), (5, .int a5)] [] M (f_X0_votesOf_b25 M a0 a1 a2 a3 n a4 a5) := by
  intro n
  induction n with
  | zero => intro a4 a5; exact q_none
  | succ n ih =>
    intro a4 a5
    rw [f_X0_votesOf_b25.eq_2]
    refine q_iload 5 dX0_votesOf_25 rfl ?_
    refine q_aload_n 0 dX0_votesOf_27 rfl ?_
    refine q_getR (f := 0) cl_X0 (by decide) qw_247 rfl dX0_votesOf_28 (fun _ _ _ => rfl) (fun v6 h7 => ?_)
    refine q_getR (f := 0) cl_X5 (by decide) qw_75 rfl dX0_votesOf_31 (fun _ _ _ => rfl) (fun v8 h9 => ?_)
    refine q_getI (f := 3) cl_X9 (by decide) qw_51 rfl dX0_votesOf_34 (Or.inl rfl) (fun v10 h11 => ?_)
    refine q_icmp_ge (tgt := 109) dX0_votesOf_37 (by decide) (fun c31 => ?_) (fun c31 => ?_)
    · refine q_aload_n 0 dX0_votesOf_40 rfl ?_
      refine q_getR (f := 0) cl_X0 (by decide) qw_247 rfl dX0_votesOf_41 (fun _ _ _ => rfl) (fun v12 h13 => ?_)
      refine q_getR (f := 0) cl_X5 (by decide) qw_75 rfl dX0_votesOf_44 (fun _ _ _ => rfl) (fun v14 h15 => ?_)
      refine q_iload 5 dX0_votesOf_47 rfl ?_
      refine q_iconst (x := (3 : Int32)) dX0_votesOf_49 rfl ?_
      refine q_cVI (Y2 := Y_X9_at) (As := [.int a5, .int (3 : Int32)]) (b := v14) (st := []) cl_X9 mv_X9_at qw_778 dX0_votesOf_50 ⟨Nat.le_of_ble_eq_true rfl, Nat.le_of_ble_eq_true rfl⟩ rfl (fun _ _ => rfl) (Nat.le_of_ble_eq_true rfl) ⟨Nat.le_of_ble_eq_true rfl, Nat.le_of_ble_eq_true rfl⟩ (fun v17 h16 => q_ob_is h16) (fun v17 h16 => m_X9_at h16) (fun v17 h16 => ?_)
      refine q_iconst (x := (1 : Int32)) dX0_votesOf_53 rfl ?_
      refine q_icmp_ne (tgt := 103) dX0_votesOf_54 (by decide) (fun c30 => ?_) (fun c30 => ?_)
      · refine q_aload_n 0 dX0_votesOf_57 rfl ?_
        refine q_getR (f := 1) cl_X0 (by decide) qw_248 rfl dX0_votesOf_58 (fun _ _ _ => rfl) (fun v18 h19 => ?_)
        refine q_iload_n 1 dX0_votesOf_61 rfl ?_
        refine q_bipush (x := (64 : Int32)) dX0_votesOf_62 rfl ?_
        refine q_iload 5 dX0_votesOf_64 rfl ?_
        refine q_iadd dX0_votesOf_66 ?_
        refine q_cVI (Y2 := Y_X9_at) (As := [.int a1, .int ((64 : Int32) + a5)]) (b := v18) (st := []) cl_X9 mv_X9_at qw_778 dX0_votesOf_67 ⟨Nat.le_of_ble_eq_true rfl, Nat.le_of_ble_eq_true rfl⟩ rfl (fun _ _ => rfl) (Nat.le_of_ble_eq_true rfl) ⟨Nat.le_of_ble_eq_true rfl, Nat.le_of_ble_eq_true rfl⟩ (fun v21 h20 => q_ob_is h20) (fun v21 h20 => m_X9_at h20) (fun v21 h20 => ?_)
        refine q_iload_n 2 dX0_votesOf_70 rfl ?_
        refine q_icmp_eq (tgt := 77) dX0_votesOf_71 (by decide) (fun c29 => ?_) (fun c29 => ?_)
        · refine q_iload 4 dX0_votesOf_77 rfl ?_
          refine q_iload_n 3 dX0_votesOf_79 rfl ?_
          refine q_if_eq (tgt := 99) dX0_votesOf_80 (by decide) (fun c28 => ?_) (fun c28 => ?_)
          · refine q_iconst (x := (1 : Int32)) dX0_votesOf_99 rfl ?_
            refine q_iadd dX0_votesOf_100 ?_
            refine q_istore (ls' := [(4, .int (a4 + (1 : Int32))), (0, .ref a0), (1, .int a1), (2, .int a2), (3, .int a3), (5, .int a5)]) dX0_votesOf_101 (by decide) rfl ?_
            refine q_iinc 5 (y := (a5 + (1 : Int32))) (ls' := [(5, .int (a5 + (1 : Int32))), (4, .int (a4 + (1 : Int32))), (0, .ref a0), (1, .int a1), (2, .int a2), (3, .int a3)]) dX0_votesOf_103 rfl rfl (by decide) rfl ?_
            refine q_goto (tgt := 25) dX0_votesOf_106 (by decide) ?_
            refine q_sub (ls' := [(0, .ref a0), (1, .int a1), (2, .int a2), (3, .int a3), (4, .int (a4 + (1 : Int32))), (5, .int (a5 + (1 : Int32)))]) [2, 3, 4, 5, 1, 0] rfl ?_
            exact ih _ _
          · refine q_aload_n 0 dX0_votesOf_83 rfl ?_
            refine q_getR (f := 0) cl_X0 (by decide) qw_247 rfl dX0_votesOf_84 (fun _ _ _ => rfl) (fun v22 h23 => ?_)
            refine q_getR (f := 0) cl_X5 (by decide) qw_75 rfl dX0_votesOf_87 (fun _ _ _ => rfl) (fun v24 h25 => ?_)
            refine q_iload 5 dX0_votesOf_90 rfl ?_
            refine q_iconst (x := (2 : Int32)) dX0_votesOf_92 rfl ?_
            refine q_cVI (Y2 := Y_X9_at) (As := [.int a5, .int (2 : Int32)]) (b := v24) (st := [.int a4]) cl_X9 mv_X9_at qw_778 dX0_votesOf_93 ⟨Nat.le_of_ble_eq_true rfl, Nat.le_of_ble_eq_true rfl⟩ rfl (fun _ _ => rfl) (Nat.le_of_ble_eq_true rfl) ⟨Nat.le_of_ble_eq_true rfl, Nat.le_of_ble_eq_true rfl⟩ (fun v27 h26 => q_ob_is h26) (fun v27 h26 => m_X9_at h26) (fun v27 h26 => ?_)
            refine q_goto (tgt := 100) dX0_votesOf_96 (by decide) ?_
            refine q_iadd dX0_votesOf_100 ?_
            refine q_istore (ls' := [(4, .int (a4 + v27)), (0, .ref a0), (1, .int a1), (2, .int a2), (3, .int a3), (5, .int a5)]) dX0_votesOf_101 (by decide) rfl ?_
            refine q_iinc 5 (y := (a5 + (1 : Int32))) (ls' := [(5, .int (a5 + (1 : Int32))), (4, .int (a4 + v27)), (0, .ref a0), (1, .int a1), (2, .int a2), (3, .int a3)]) dX0_votesOf_103 rfl rfl (by decide) rfl ?_
            refine q_goto (tgt := 25) dX0_votesOf_106 (by decide) ?_
            refine q_sub (ls' := [(0, .ref a0), (1, .int a1), (2, .int a2), (3, .int a3), (4, .int (a4 + v27)), (5, .int (a5 + (1 : Int32)))]) [2, 3, 4, 5, 1, 0] rfl ?_
            exact ih _ _
        · refine q_goto (tgt := 103) dX0_votesOf_74 (by decide) ?_
          refine q_iinc 5 (y := (a5 + (1 : Int32))) (ls' := [(5, .int (a5 + (1 : Int32))), (0, .ref a0), (1, .int a1), (2, .int a2), (3, .int a3), (4, .int a4)]) dX0_votesOf_103 rfl rfl (by decide) rfl ?_
          refine q_goto (tgt := 25) dX0_votesOf_106 (by decide) ?_
          refine q_sub (ls' := [(0, .ref a0), (1, .int a1), (2, .int a2), (3, .int a3), (4, .int a4), (5, .int (a5 + (1 : Int32)))]) [1, 2, 3, 4, 5, 0] rfl ?_
          exact ih _ _
      · refine q_iinc 5 (y := (a5 + (1 : Int32))) (ls' := [(5, .int (a5 + (1 : Int32))), (0, .ref a0), (1, .int a1), (2, .int a2), (3, .int a3), (4, .int a4)]) dX0_votesOf_103 rfl rfl (by decide) rfl ?_
        refine q_goto (tgt := 25) dX0_votesOf_106 (by decide) ?_
        refine q_sub (ls' := [(0, .ref a0), (1, .int a1), (2, .int a2), (3, .int a3), (4, .int a4), (5, .int (a5 + (1 : Int32)))]) [1, 2, 3, 4, 5, 0] rfl ?_
        exact ih _ _
    · refine q_iload 4 dX0_votesOf_109 rfl ?_
      exact q_iret dX0_votesOf_111 rfl rfl (Nat.le_of_ble_eq_true rfl) rfl
set_option maxRecDepth 20000 in
theorem v_X0_votesOf_b18 {M : q_Mem} {a0 : Nat} {a1 : Int32} {a2 : Int32} {s0 : Int32}  : q_V Y_X0_votesOf none (fun x : Int32 => (some (.int x), M)) 0 0 18 [(0, .ref a0), (1, .int a1), (2, .int a2)] [.int s0] M (f_X0_votesOf_b18 M a0 a1 a2 s0) := by
  unfold f_X0_votesOf_b18
  refine q_istore_n (ls' := [(3, .int s0), (0, .ref a0), (1, .int a1), (2, .int a2)]) dX0_votesOf_18 (by decide) rfl ?_
  refine q_iconst (x := (0 : Int32)) dX0_votesOf_19 rfl ?_
  refine q_istore (ls' := [(4, .int (0 : Int32)), (3, .int s0), (0, .ref a0), (1, .int a1), (2, .int a2)]) dX0_votesOf_20 (by decide) rfl ?_
  refine q_iconst (x := (0 : Int32)) dX0_votesOf_22 rfl ?_
  refine q_istore (ls' := [(5, .int (0 : Int32)), (4, .int (0 : Int32)), (3, .int s0), (0, .ref a0), (1, .int a1), (2, .int a2)]) dX0_votesOf_23 (by decide) rfl ?_
  refine q_sub (ls' := [(0, .ref a0), (1, .int a1), (2, .int a2), (3, .int s0), (4, .int (0 : Int32)), (5, .int (0 : Int32))]) [3, 4, 5, 2, 1, 0] rfl ?_
  exact v_X0_votesOf_b25 _ _ _
set_option maxRecDepth 20000 in
theorem m_X0_votesOf {M : q_Mem} {a0 : Nat} {a1 : Int32} {a2 : Int32} {x : Int32} (h : f_X0_votesOf M a0 a1 a2 = some x) : q_C Y_X0_votesOf [.ref a0, .int a1, .int a2] M (some (.int x)) M := by
  refine q_met (φ := (fun x : Int32 => (some (.int x), M))) (r := f_X0_votesOf M a0 a1 a2) (by decide +kernel) (Nat.le_of_ble_eq_true rfl) ?_ h (fun _ _ => rfl)
  show q_V Y_X0_votesOf none (fun x : Int32 => (some (.int x), M)) 0 0 0 [(0, .ref a0), (1, .int a1), (2, .int a2)] [] M (f_X0_votesOf M a0 a1 a2)
  unfold f_X0_votesOf
  refine q_obV ?_
  refine q_aload_n 0 dX0_votesOf_0 rfl ?_
  refine q_getR (f := 1) cl_X0 (by decide) qw_248 rfl dX0_votesOf_1 (fun _ _ _ => rfl) (fun v1 h2 => ?_)
  refine q_iload_n 1 dX0_votesOf_4 rfl ?_
  refine q_iconst (x := (1 : Int32)) dX0_votesOf_5 rfl ?_
  refine q_cVI (Y2 := Y_X9_at) (As := [.int a1, .int (1 : Int32)]) (b := v1) (st := []) cl_X9 mv_X9_at qw_778 dX0_votesOf_6 ⟨Nat.le_of_ble_eq_true rfl, Nat.le_of_ble_eq_true rfl⟩ rfl (fun _ _ => rfl) (Nat.le_of_ble_eq_true rfl) ⟨Nat.le_of_ble_eq_true rfl, Nat.le_of_ble_eq_true rfl⟩ (fun v4 h3 => q_ob_is h3) (fun v4 h3 => m_X9_at h3) (fun v4 h3 => ?_)
  refine q_iconst (x := (1 : Int32)) dX0_votesOf_9 rfl ?_
  refine q_icmp_ne (tgt := 17) dX0_votesOf_10 (by decide) (fun c5 => ?_) (fun c5 => ?_)
  · refine q_iconst (x := (1 : Int32)) dX0_votesOf_13 rfl ?_
    refine q_goto (tgt := 18) dX0_votesOf_14 (by decide) ?_
    exact v_X0_votesOf_b18
  · refine q_iconst (x := (0 : Int32)) dX0_votesOf_17 rfl ?_
    exact v_X0_votesOf_b18
theorem dX0_isPassed_0 : decode cX0_isPassed 0 = .ok (.aload_n 0, 1) := by decide +kernel
theorem dX0_isPassed_1 : decode cX0_isPassed 1 = .ok (.iload_n 1, 1) := by decide +kernel
theorem dX0_isPassed_2 : decode cX0_isPassed 2 = .ok (.iconst 1, 1) := by decide +kernel
theorem dX0_isPassed_3 : decode cX0_isPassed 3 = .ok (.invokevirtual 39, 3) := by decide +kernel
theorem dX0_isPassed_6 : decode cX0_isPassed 6 = .ok (.istore_n 2, 1) := by decide +kernel
theorem dX0_isPassed_7 : decode cX0_isPassed 7 = .ok (.aload_n 0, 1) := by decide +kernel
theorem dX0_isPassed_8 : decode cX0_isPassed 8 = .ok (.iload_n 1, 1) := by decide +kernel
theorem dX0_isPassed_9 : decode cX0_isPassed 9 = .ok (.iconst (-1), 1) := by decide +kernel
theorem dX0_isPassed_10 : decode cX0_isPassed 10 = .ok (.invokevirtual 39, 3) := by decide +kernel
theorem dX0_isPassed_13 : decode cX0_isPassed 13 = .ok (.istore_n 3, 1) := by decide +kernel
theorem dX0_isPassed_14 : decode cX0_isPassed 14 = .ok (.iload_n 2, 1) := by decide +kernel
theorem dX0_isPassed_15 : decode cX0_isPassed 15 = .ok (.iload_n 3, 1) := by decide +kernel
theorem dX0_isPassed_16 : decode cX0_isPassed 16 = .ok (.iadd, 1) := by decide +kernel
theorem dX0_isPassed_17 : decode cX0_isPassed 17 = .ok (.aload_n 0, 1) := by decide +kernel
theorem dX0_isPassed_18 : decode cX0_isPassed 18 = .ok (.iload_n 1, 1) := by decide +kernel
theorem dX0_isPassed_19 : decode cX0_isPassed 19 = .ok (.iconst 0, 1) := by decide +kernel
theorem dX0_isPassed_20 : decode cX0_isPassed 20 = .ok (.invokevirtual 39, 3) := by decide +kernel
theorem dX0_isPassed_23 : decode cX0_isPassed 23 = .ok (.iadd, 1) := by decide +kernel
theorem dX0_isPassed_24 : decode cX0_isPassed 24 = .ok (.istore 4, 2) := by decide +kernel
theorem dX0_isPassed_26 : decode cX0_isPassed 26 = .ok (.iload_n 2, 1) := by decide +kernel
theorem dX0_isPassed_27 : decode cX0_isPassed 27 = .ok (.iload_n 3, 1) := by decide +kernel
theorem dX0_isPassed_28 : decode cX0_isPassed 28 = .ok (.if_icmp .le 17, 3) := by decide +kernel
theorem dX0_isPassed_31 : decode cX0_isPassed 31 = .ok (.iconst 2, 1) := by decide +kernel
theorem dX0_isPassed_32 : decode cX0_isPassed 32 = .ok (.iload_n 2, 1) := by decide +kernel
theorem dX0_isPassed_33 : decode cX0_isPassed 33 = .ok (.iload_n 3, 1) := by decide +kernel
theorem dX0_isPassed_34 : decode cX0_isPassed 34 = .ok (.iadd, 1) := by decide +kernel
theorem dX0_isPassed_35 : decode cX0_isPassed 35 = .ok (.imul, 1) := by decide +kernel
theorem dX0_isPassed_36 : decode cX0_isPassed 36 = .ok (.iload 4, 2) := by decide +kernel
theorem dX0_isPassed_38 : decode cX0_isPassed 38 = .ok (.if_icmp .lt 7, 3) := by decide +kernel
theorem dX0_isPassed_41 : decode cX0_isPassed 41 = .ok (.iconst 1, 1) := by decide +kernel
theorem dX0_isPassed_42 : decode cX0_isPassed 42 = .ok (.goto 4, 3) := by decide +kernel
theorem dX0_isPassed_45 : decode cX0_isPassed 45 = .ok (.iconst 0, 1) := by decide +kernel
theorem dX0_isPassed_46 : decode cX0_isPassed 46 = .ok (.ireturn, 1) := by decide +kernel
def f_X0_isPassed (M : q_Mem) (a0 : Nat) (a1 : Int32) : Option Int32 :=
  q_ob 0 M a0 ((f_X0_votesOf M a0 a1 (1 : Int32)).bind fun v2 =>
  (f_X0_votesOf M a0 a1 (-1 : Int32)).bind fun v4 =>
  (f_X0_votesOf M a0 a1 (0 : Int32)).bind fun v6 =>
  (if v4 < v2 then
    (if ((2 : Int32) * (v2 + v4)) < ((v2 + v4) + v6) then
      some (0 : Int32)
    else
      some (1 : Int32))
  else
    some (0 : Int32)))
set_option maxRecDepth 20000 in
theorem m_X0_isPassed {M : q_Mem} {a0 : Nat} {a1 : Int32} {x : Int32} (h : f_X0_isPassed M a0 a1 = some x) : q_C Y_X0_isPassed [.ref a0, .int a1] M (some (.int x)) M := by
  refine q_met (φ := (fun x : Int32 => (some (.int x), M))) (r := f_X0_isPassed M a0 a1) (by decide +kernel) (Nat.le_of_ble_eq_true rfl) ?_ h (fun _ _ => rfl)
  show q_V Y_X0_isPassed none (fun x : Int32 => (some (.int x), M)) 0 0 0 [(0, .ref a0), (1, .int a1)] [] M (f_X0_isPassed M a0 a1)
  unfold f_X0_isPassed
  refine q_obV ?_
  refine q_aload_n 0 dX0_isPassed_0 rfl ?_
  refine q_iload_n 1 dX0_isPassed_1 rfl ?_
  refine q_iconst (x := (1 : Int32)) dX0_isPassed_2 rfl ?_
  refine q_cVI (Y2 := Y_X0_votesOf) (As := [.int a1, .int (1 : Int32)]) (b := a0) (st := []) cl_X0 mv_X0_votesOf qw_796 dX0_isPassed_3 ⟨Nat.le_of_ble_eq_true rfl, Nat.le_of_ble_eq_true rfl⟩ rfl (fun _ _ => rfl) (Nat.le_of_ble_eq_true rfl) ⟨Nat.le_of_ble_eq_true rfl, Nat.le_of_ble_eq_true rfl⟩ (fun v2 h1 => q_ob_is h1) (fun v2 h1 => m_X0_votesOf h1) (fun v2 h1 => ?_)
  refine q_istore_n (ls' := [(2, .int v2), (0, .ref a0), (1, .int a1)]) dX0_isPassed_6 (by decide) rfl ?_
  refine q_aload_n 1 dX0_isPassed_7 rfl ?_
  refine q_iload_n 2 dX0_isPassed_8 rfl ?_
  refine q_iconst (x := (-1 : Int32)) dX0_isPassed_9 rfl ?_
  refine q_cVI (Y2 := Y_X0_votesOf) (As := [.int a1, .int (-1 : Int32)]) (b := a0) (st := []) cl_X0 mv_X0_votesOf qw_796 dX0_isPassed_10 ⟨Nat.le_of_ble_eq_true rfl, Nat.le_of_ble_eq_true rfl⟩ rfl (fun _ _ => rfl) (Nat.le_of_ble_eq_true rfl) ⟨Nat.le_of_ble_eq_true rfl, Nat.le_of_ble_eq_true rfl⟩ (fun v4 h3 => q_ob_is h3) (fun v4 h3 => m_X0_votesOf h3) (fun v4 h3 => ?_)
  refine q_istore_n (ls' := [(3, .int v4), (2, .int v2), (0, .ref a0), (1, .int a1)]) dX0_isPassed_13 (by decide) rfl ?_
  refine q_iload_n 1 dX0_isPassed_14 rfl ?_
  refine q_iload_n 0 dX0_isPassed_15 rfl ?_
  refine q_iadd dX0_isPassed_16 ?_
  refine q_aload_n 2 dX0_isPassed_17 rfl ?_
  refine q_iload_n 3 dX0_isPassed_18 rfl ?_
  refine q_iconst (x := (0 : Int32)) dX0_isPassed_19 rfl ?_
  refine q_cVI (Y2 := Y_X0_votesOf) (As := [.int a1, .int (0 : Int32)]) (b := a0) (st := [.int (v2 + v4)]) cl_X0 mv_X0_votesOf qw_796 dX0_isPassed_20 ⟨Nat.le_of_ble_eq_true rfl, Nat.le_of_ble_eq_true rfl⟩ rfl (fun _ _ => rfl) (Nat.le_of_ble_eq_true rfl) ⟨Nat.le_of_ble_eq_true rfl, Nat.le_of_ble_eq_true rfl⟩ (fun v6 h5 => q_ob_is h5) (fun v6 h5 => m_X0_votesOf h5) (fun v6 h5 => ?_)
  refine q_iadd dX0_isPassed_23 ?_
  refine q_istore (ls' := [(4, .int ((v2 + v4) + v6)), (3, .int v4), (2, .int v2), (0, .ref a0), (1, .int a1)]) dX0_isPassed_24 (by decide) rfl ?_
  refine q_iload_n 2 dX0_isPassed_26 rfl ?_
  refine q_iload_n 1 dX0_isPassed_27 rfl ?_
  refine q_icmp_le (tgt := 45) dX0_isPassed_28 (by decide) (fun c8 => ?_) (fun c8 => ?_)
  · refine q_iconst (x := (2 : Int32)) dX0_isPassed_31 rfl ?_
    refine q_iload_n 2 dX0_isPassed_32 rfl ?_
    refine q_iload_n 1 dX0_isPassed_33 rfl ?_
    refine q_iadd dX0_isPassed_34 ?_
    refine q_imul dX0_isPassed_35 ?_
    refine q_iload 0 dX0_isPassed_36 rfl ?_
    refine q_icmp_lt (tgt := 45) dX0_isPassed_38 (by decide) (fun c7 => ?_) (fun c7 => ?_)
    · refine q_iconst (x := (0 : Int32)) dX0_isPassed_45 rfl ?_
      exact q_zretL dX0_isPassed_46 rfl (Or.inl rfl) rfl (Nat.le_of_ble_eq_true rfl) rfl
    · refine q_iconst (x := (1 : Int32)) dX0_isPassed_41 rfl ?_
      refine q_goto (tgt := 46) dX0_isPassed_42 (by decide) ?_
      exact q_zretL dX0_isPassed_46 rfl (Or.inr rfl) rfl (Nat.le_of_ble_eq_true rfl) rfl
  · refine q_iconst (x := (0 : Int32)) dX0_isPassed_45 rfl ?_
    exact q_zretL dX0_isPassed_46 rfl (Or.inl rfl) rfl (Nat.le_of_ble_eq_true rfl) rfl
theorem dX11_asNumber_0 : decode cX11_asNumber 0 = .ok (.iload_n 0, 1) := by decide +kernel
theorem dX11_asNumber_1 : decode cX11_asNumber 1 = .ok (.ifCond .eq 7, 3) := by decide +kernel
theorem dX11_asNumber_4 : decode cX11_asNumber 4 = .ok (.iconst 1, 1) := by decide +kernel
theorem dX11_asNumber_5 : decode cX11_asNumber 5 = .ok (.goto 4, 3) := by decide +kernel
theorem dX11_asNumber_8 : decode cX11_asNumber 8 = .ok (.iconst 0, 1) := by decide +kernel
theorem dX11_asNumber_9 : decode cX11_asNumber 9 = .ok (.ireturn, 1) := by decide +kernel
def f_X11_asNumber (M : q_Mem) (a0 : Int32) : Option Int32 :=
  (if a0 = 0 then
    some (0 : Int32)
  else
    some (1 : Int32))
set_option maxRecDepth 20000 in
theorem m_X11_asNumber {M : q_Mem} {a0 : Int32} {x : Int32} (h : f_X11_asNumber M a0 = some x) : q_C Y_X11_asNumber [.int a0] M (some (.int x)) M := by
  refine q_met (φ := (fun x : Int32 => (some (.int x), M))) (r := f_X11_asNumber M a0) (by decide +kernel) (Nat.le_of_ble_eq_true rfl) ?_ h (fun _ _ => rfl)
  show q_V Y_X11_asNumber none (fun x : Int32 => (some (.int x), M)) 0 0 0 [(0, .int a0)] [] M (f_X11_asNumber M a0)
  unfold f_X11_asNumber
  refine q_iload_n 0 dX11_asNumber_0 rfl ?_
  refine q_if_eq (tgt := 8) dX11_asNumber_1 (by decide) (fun c1 => ?_) (fun c1 => ?_)
  · refine q_iconst (x := (0 : Int32)) dX11_asNumber_8 rfl ?_
    exact q_iret dX11_asNumber_9 rfl rfl (Nat.le_of_ble_eq_true rfl) rfl
  · refine q_iconst (x := (1 : Int32)) dX11_asNumber_4 rfl ?_
    refine q_goto (tgt := 9) dX11_asNumber_5 (by decide) ?_
    exact q_iret dX11_asNumber_9 rfl rfl (Nat.le_of_ble_eq_true rfl) rfl
theorem dX0_tellOf_0 : decode cX0_tellOf 0 = .ok (.iload_n 2, 1) := by decide +kernel
theorem dX0_tellOf_1 : decode cX0_tellOf 1 = .ok (.tableswitch 75 0 3 #[31, 38, 45, 66], 31) := by decide +kernel
theorem dX0_tellOf_32 : decode cX0_tellOf 32 = .ok (.aload_n 0, 1) := by decide +kernel
theorem dX0_tellOf_33 : decode cX0_tellOf 33 = .ok (.iload_n 1, 1) := by decide +kernel
theorem dX0_tellOf_34 : decode cX0_tellOf 34 = .ok (.iconst 1, 1) := by decide +kernel
theorem dX0_tellOf_35 : decode cX0_tellOf 35 = .ok (.invokevirtual 39, 3) := by decide +kernel
theorem dX0_tellOf_38 : decode cX0_tellOf 38 = .ok (.ireturn, 1) := by decide +kernel
theorem dX0_tellOf_39 : decode cX0_tellOf 39 = .ok (.aload_n 0, 1) := by decide +kernel
theorem dX0_tellOf_40 : decode cX0_tellOf 40 = .ok (.iload_n 1, 1) := by decide +kernel
theorem dX0_tellOf_41 : decode cX0_tellOf 41 = .ok (.iconst (-1), 1) := by decide +kernel
theorem dX0_tellOf_42 : decode cX0_tellOf 42 = .ok (.invokevirtual 39, 3) := by decide +kernel
theorem dX0_tellOf_45 : decode cX0_tellOf 45 = .ok (.ireturn, 1) := by decide +kernel
theorem dX0_tellOf_46 : decode cX0_tellOf 46 = .ok (.aload_n 0, 1) := by decide +kernel
theorem dX0_tellOf_47 : decode cX0_tellOf 47 = .ok (.iload_n 1, 1) := by decide +kernel
theorem dX0_tellOf_48 : decode cX0_tellOf 48 = .ok (.iconst 1, 1) := by decide +kernel
theorem dX0_tellOf_49 : decode cX0_tellOf 49 = .ok (.invokevirtual 39, 3) := by decide +kernel
theorem dX0_tellOf_52 : decode cX0_tellOf 52 = .ok (.aload_n 0, 1) := by decide +kernel
theorem dX0_tellOf_53 : decode cX0_tellOf 53 = .ok (.iload_n 1, 1) := by decide +kernel
theorem dX0_tellOf_54 : decode cX0_tellOf 54 = .ok (.iconst (-1), 1) := by decide +kernel
theorem dX0_tellOf_55 : decode cX0_tellOf 55 = .ok (.invokevirtual 39, 3) := by decide +kernel
theorem dX0_tellOf_58 : decode cX0_tellOf 58 = .ok (.iadd, 1) := by decide +kernel
theorem dX0_tellOf_59 : decode cX0_tellOf 59 = .ok (.aload_n 0, 1) := by decide +kernel
theorem dX0_tellOf_60 : decode cX0_tellOf 60 = .ok (.iload_n 1, 1) := by decide +kernel
theorem dX0_tellOf_61 : decode cX0_tellOf 61 = .ok (.iconst 0, 1) := by decide +kernel
theorem dX0_tellOf_62 : decode cX0_tellOf 62 = .ok (.invokevirtual 39, 3) := by decide +kernel
theorem dX0_tellOf_65 : decode cX0_tellOf 65 = .ok (.iadd, 1) := by decide +kernel
theorem dX0_tellOf_66 : decode cX0_tellOf 66 = .ok (.ireturn, 1) := by decide +kernel
theorem dX0_tellOf_67 : decode cX0_tellOf 67 = .ok (.aload_n 0, 1) := by decide +kernel
theorem dX0_tellOf_68 : decode cX0_tellOf 68 = .ok (.iload_n 1, 1) := by decide +kernel
theorem dX0_tellOf_69 : decode cX0_tellOf 69 = .ok (.invokevirtual 42, 3) := by decide +kernel
theorem dX0_tellOf_72 : decode cX0_tellOf 72 = .ok (.invokestatic 46, 3) := by decide +kernel
theorem dX0_tellOf_75 : decode cX0_tellOf 75 = .ok (.ireturn, 1) := by decide +kernel
theorem dX0_tellOf_76 : decode cX0_tellOf 76 = .ok (.aload_n 0, 1) := by decide +kernel
theorem dX0_tellOf_77 : decode cX0_tellOf 77 = .ok (.getfield 21, 3) := by decide +kernel
theorem dX0_tellOf_80 : decode cX0_tellOf 80 = .ok (.iload_n 1, 1) := by decide +kernel
theorem dX0_tellOf_81 : decode cX0_tellOf 81 = .ok (.iconst 2, 1) := by decide +kernel
theorem dX0_tellOf_82 : decode cX0_tellOf 82 = .ok (.invokevirtual 31, 3) := by decide +kernel
theorem dX0_tellOf_85 : decode cX0_tellOf 85 = .ok (.ireturn, 1) := by decide +kernel
def f_X0_tellOf (M : q_Mem) (a0 : Nat) (a1 : Int32) (a2 : Int32) : Option Int32 :=
  q_ob 0 M a0 ((if a2 < 0 then
    (q_gR 0 1 M a0).bind fun v1 =>
    (f_X9_at M v1 a1 (2 : Int32)).bind fun v4 =>
    some v4
  else
   (if a2 = 0 then
    (f_X0_votesOf M a0 a1 (1 : Int32)).bind fun v8 =>
    some v8
   else
   (if a2 = 1 then
    (f_X0_votesOf M a0 a1 (-1 : Int32)).bind fun v12 =>
    some v12
   else
   (if a2 = 2 then
    (f_X0_votesOf M a0 a1 (1 : Int32)).bind fun v16 =>
    (f_X0_votesOf M a0 a1 (-1 : Int32)).bind fun v18 =>
    (f_X0_votesOf M a0 a1 (0 : Int32)).bind fun v20 =>
    some ((v16 + v18) + v20)
   else
   (if a2 = 3 then
    (f_X0_isPassed M a0 a1).bind fun v24 =>
    (f_X11_asNumber M v24).bind fun v26 =>
    some v26
   else
   (q_gR 0 1 M a0).bind fun v1 =>
  (f_X9_at M v1 a1 (2 : Int32)).bind fun v4 =>
  some v4))))))
set_option maxRecDepth 20000 in
theorem m_X0_tellOf {M : q_Mem} {a0 : Nat} {a1 : Int32} {a2 : Int32} {x : Int32} (h : f_X0_tellOf M a0 a1 a2 = some x) : q_C Y_X0_tellOf [.ref a0, .int a1, .int a2] M (some (.int x)) M := by
  refine q_met (φ := (fun x : Int32 => (some (.int x), M))) (r := f_X0_tellOf M a0 a1 a2) (by decide +kernel) (Nat.le_of_ble_eq_true rfl) ?_ h (fun _ _ => rfl)
  show q_V Y_X0_tellOf none (fun x : Int32 => (some (.int x), M)) 0 0 0 [(0, .ref a0), (1, .int a1), (2, .int a2)] [] M (f_X0_tellOf M a0 a1 a2)
  unfold f_X0_tellOf
  refine q_obV ?_
  refine q_iload_n 2 dX0_tellOf_0 rfl ?_
  refine q_ifV (fun c5 => ?_) (fun c5 => ?_)
  · refine q_tabOut (tgt := 76) dX0_tellOf_1 (Or.inl (q_lt c5 rfl)) (by decide) ?_
    refine q_aload_n 0 dX0_tellOf_76 rfl ?_
    refine q_getR (f := 1) cl_X0 (by decide) qw_248 rfl dX0_tellOf_77 (fun _ _ _ => rfl) (fun v1 h2 => ?_)
    refine q_iload_n 1 dX0_tellOf_80 rfl ?_
    refine q_iconst (x := (2 : Int32)) dX0_tellOf_81 rfl ?_
    refine q_cVI (Y2 := Y_X9_at) (As := [.int a1, .int (2 : Int32)]) (b := v1) (st := []) cl_X9 mv_X9_at qw_778 dX0_tellOf_82 ⟨Nat.le_of_ble_eq_true rfl, Nat.le_of_ble_eq_true rfl⟩ rfl (fun _ _ => rfl) (Nat.le_of_ble_eq_true rfl) ⟨Nat.le_of_ble_eq_true rfl, Nat.le_of_ble_eq_true rfl⟩ (fun v4 h3 => q_ob_is h3) (fun v4 h3 => m_X9_at h3) (fun v4 h3 => ?_)
    exact q_iret dX0_tellOf_85 rfl rfl (Nat.le_of_ble_eq_true rfl) rfl
  · have b6 := q_nlt (b := 0) c5 rfl
    refine q_ifV (fun c9 => ?_) (fun c9 => ?_)
    · refine q_tabIn (tgt := 32) 0 dX0_tellOf_1 c9 (by decide) (by decide) rfl (by decide) ?_
      refine q_aload_n 0 dX0_tellOf_32 rfl ?_
      refine q_iload_n 1 dX0_tellOf_33 rfl ?_
      refine q_iconst (x := (1 : Int32)) dX0_tellOf_34 rfl ?_
      refine q_cVI (Y2 := Y_X0_votesOf) (As := [.int a1, .int (1 : Int32)]) (b := a0) (st := []) cl_X0 mv_X0_votesOf qw_796 dX0_tellOf_35 ⟨Nat.le_of_ble_eq_true rfl, Nat.le_of_ble_eq_true rfl⟩ rfl (fun _ _ => rfl) (Nat.le_of_ble_eq_true rfl) ⟨Nat.le_of_ble_eq_true rfl, Nat.le_of_ble_eq_true rfl⟩ (fun v8 h7 => q_ob_is h7) (fun v8 h7 => m_X0_votesOf h7) (fun v8 h7 => ?_)
      exact q_iret dX0_tellOf_38 rfl rfl (Nat.le_of_ble_eq_true rfl) rfl
    · have b10 := q_step (c := 1) b6 c9 rfl (by decide)
      refine q_ifV (fun c13 => ?_) (fun c13 => ?_)
      · refine q_tabIn (tgt := 39) 1 dX0_tellOf_1 c13 (by decide) (by decide) rfl (by decide) ?_
        refine q_aload_n 0 dX0_tellOf_39 rfl ?_
        refine q_iload_n 1 dX0_tellOf_40 rfl ?_
        refine q_iconst (x := (-1 : Int32)) dX0_tellOf_41 rfl ?_
        refine q_cVI (Y2 := Y_X0_votesOf) (As := [.int a1, .int (-1 : Int32)]) (b := a0) (st := []) cl_X0 mv_X0_votesOf qw_796 dX0_tellOf_42 ⟨Nat.le_of_ble_eq_true rfl, Nat.le_of_ble_eq_true rfl⟩ rfl (fun _ _ => rfl) (Nat.le_of_ble_eq_true rfl) ⟨Nat.le_of_ble_eq_true rfl, Nat.le_of_ble_eq_true rfl⟩ (fun v12 h11 => q_ob_is h11) (fun v12 h11 => m_X0_votesOf h11) (fun v12 h11 => ?_)
        exact q_iret dX0_tellOf_45 rfl rfl (Nat.le_of_ble_eq_true rfl) rfl
      · have b14 := q_step (c := 2) b10 c13 rfl (by decide)
        refine q_ifV (fun c21 => ?_) (fun c21 => ?_)
        · refine q_tabIn (tgt := 46) 2 dX0_tellOf_1 c21 (by decide) (by decide) rfl (by decide) ?_
          refine q_aload_n 0 dX0_tellOf_46 rfl ?_
          refine q_iload_n 1 dX0_tellOf_47 rfl ?_
          refine q_iconst (x := (1 : Int32)) dX0_tellOf_48 rfl ?_
          refine q_cVI (Y2 := Y_X0_votesOf) (As := [.int a1, .int (1 : Int32)]) (b := a0) (st := []) cl_X0 mv_X0_votesOf qw_796 dX0_tellOf_49 ⟨Nat.le_of_ble_eq_true rfl, Nat.le_of_ble_eq_true rfl⟩ rfl (fun _ _ => rfl) (Nat.le_of_ble_eq_true rfl) ⟨Nat.le_of_ble_eq_true rfl, Nat.le_of_ble_eq_true rfl⟩ (fun v16 h15 => q_ob_is h15) (fun v16 h15 => m_X0_votesOf h15) (fun v16 h15 => ?_)
          refine q_aload_n 0 dX0_tellOf_52 rfl ?_
          refine q_iload_n 1 dX0_tellOf_53 rfl ?_
          refine q_iconst (x := (-1 : Int32)) dX0_tellOf_54 rfl ?_
          refine q_cVI (Y2 := Y_X0_votesOf) (As := [.int a1, .int (-1 : Int32)]) (b := a0) (st := [.int v16]) cl_X0 mv_X0_votesOf qw_796 dX0_tellOf_55 ⟨Nat.le_of_ble_eq_true rfl, Nat.le_of_ble_eq_true rfl⟩ rfl (fun _ _ => rfl) (Nat.le_of_ble_eq_true rfl) ⟨Nat.le_of_ble_eq_true rfl, Nat.le_of_ble_eq_true rfl⟩ (fun v18 h17 => q_ob_is h17) (fun v18 h17 => m_X0_votesOf h17) (fun v18 h17 => ?_)
          refine q_iadd dX0_tellOf_58 ?_
          refine q_aload_n 0 dX0_tellOf_59 rfl ?_
          refine q_iload_n 1 dX0_tellOf_60 rfl ?_
          refine q_iconst (x := (0 : Int32)) dX0_tellOf_61 rfl ?_
          refine q_cVI (Y2 := Y_X0_votesOf) (As := [.int a1, .int (0 : Int32)]) (b := a0) (st := [.int (v16 + v18)]) cl_X0 mv_X0_votesOf qw_796 dX0_tellOf_62 ⟨Nat.le_of_ble_eq_true rfl, Nat.le_of_ble_eq_true rfl⟩ rfl (fun _ _ => rfl) (Nat.le_of_ble_eq_true rfl) ⟨Nat.le_of_ble_eq_true rfl, Nat.le_of_ble_eq_true rfl⟩ (fun v20 h19 => q_ob_is h19) (fun v20 h19 => m_X0_votesOf h19) (fun v20 h19 => ?_)
          refine q_iadd dX0_tellOf_65 ?_
          exact q_iret dX0_tellOf_66 rfl rfl (Nat.le_of_ble_eq_true rfl) rfl
        · have b22 := q_step (c := 3) b14 c21 rfl (by decide)
          refine q_ifV (fun c27 => ?_) (fun c27 => ?_)
          · refine q_tabIn (tgt := 67) 3 dX0_tellOf_1 c27 (by decide) (by decide) rfl (by decide) ?_
            refine q_aload_n 0 dX0_tellOf_67 rfl ?_
            refine q_iload_n 1 dX0_tellOf_68 rfl ?_
            refine q_cVI (Y2 := Y_X0_isPassed) (As := [.int a1]) (b := a0) (st := []) cl_X0 mv_X0_isPassed qw_800 dX0_tellOf_69 ⟨Nat.le_of_ble_eq_true rfl, Nat.le_of_ble_eq_true rfl⟩ rfl (fun _ _ => rfl) (Nat.le_of_ble_eq_true rfl) ⟨Nat.le_of_ble_eq_true rfl, Nat.le_of_ble_eq_true rfl⟩ (fun v24 h23 => q_ob_is h23) (fun v24 h23 => m_X0_isPassed h23) (fun v24 h23 => ?_)
            refine q_cNI (Y2 := Y_X11_asNumber) (As := [.int v24]) (st := []) ms_X11_asNumber (host := "CountyCream") (by decide +kernel) dX0_tellOf_72 ⟨Nat.le_of_ble_eq_true rfl, Nat.le_of_ble_eq_true rfl⟩ rfl (fun _ _ => rfl) (Nat.le_of_ble_eq_true rfl) ⟨Nat.le_of_ble_eq_true rfl, Nat.le_of_ble_eq_true rfl⟩ (fun v26 h25 => m_X11_asNumber h25) (fun v26 h25 => ?_)
            exact q_iret dX0_tellOf_75 rfl rfl (Nat.le_of_ble_eq_true rfl) rfl
          · have b28 := q_step (c := 4) b22 c27 rfl (by decide)
            refine q_tabOut (tgt := 76) dX0_tellOf_1 (Or.inr (Int.lt_of_lt_of_le (by decide) b28)) (by decide) ?_
            refine q_aload_n 0 dX0_tellOf_76 rfl ?_
            refine q_getR (f := 1) cl_X0 (by decide) qw_248 rfl dX0_tellOf_77 (fun _ _ _ => rfl) (fun v1 h2 => ?_)
            refine q_iload_n 1 dX0_tellOf_80 rfl ?_
            refine q_iconst (x := (2 : Int32)) dX0_tellOf_81 rfl ?_
            refine q_cVI (Y2 := Y_X9_at) (As := [.int a1, .int (2 : Int32)]) (b := v1) (st := []) cl_X9 mv_X9_at qw_778 dX0_tellOf_82 ⟨Nat.le_of_ble_eq_true rfl, Nat.le_of_ble_eq_true rfl⟩ rfl (fun _ _ => rfl) (Nat.le_of_ble_eq_true rfl) ⟨Nat.le_of_ble_eq_true rfl, Nat.le_of_ble_eq_true rfl⟩ (fun v4 h3 => q_ob_is h3) (fun v4 h3 => m_X9_at h3) (fun v4 h3 => ?_)
            exact q_iret dX0_tellOf_85 rfl rfl (Nat.le_of_ble_eq_true rfl) rfl
theorem dX0_inForce_0 : decode cX0_inForce 0 = .ok (.iconst (-1), 1) := by decide +kernel
theorem dX0_inForce_1 : decode cX0_inForce 1 = .ok (.istore_n 2, 1) := by decide +kernel
theorem dX0_inForce_2 : decode cX0_inForce 2 = .ok (.iconst 0, 1) := by decide +kernel
theorem dX0_inForce_3 : decode cX0_inForce 3 = .ok (.istore_n 3, 1) := by decide +kernel
theorem dX0_inForce_4 : decode cX0_inForce 4 = .ok (.iload_n 3, 1) := by decide +kernel
theorem dX0_inForce_5 : decode cX0_inForce 5 = .ok (.aload_n 0, 1) := by decide +kernel
theorem dX0_inForce_6 : decode cX0_inForce 6 = .ok (.getfield 21, 3) := by decide +kernel
theorem dX0_inForce_9 : decode cX0_inForce 9 = .ok (.getfield 53, 3) := by decide +kernel
theorem dX0_inForce_12 : decode cX0_inForce 12 = .ok (.if_icmp .ge 71, 3) := by decide +kernel
theorem dX0_inForce_15 : decode cX0_inForce 15 = .ok (.aload_n 0, 1) := by decide +kernel
theorem dX0_inForce_16 : decode cX0_inForce 16 = .ok (.getfield 21, 3) := by decide +kernel
theorem dX0_inForce_19 : decode cX0_inForce 19 = .ok (.iload_n 3, 1) := by decide +kernel
theorem dX0_inForce_20 : decode cX0_inForce 20 = .ok (.iconst 0, 1) := by decide +kernel
theorem dX0_inForce_21 : decode cX0_inForce 21 = .ok (.invokevirtual 31, 3) := by decide +kernel
theorem dX0_inForce_24 : decode cX0_inForce 24 = .ok (.istore 4, 2) := by decide +kernel
theorem dX0_inForce_26 : decode cX0_inForce 26 = .ok (.iload 4, 2) := by decide +kernel
theorem dX0_inForce_28 : decode cX0_inForce 28 = .ok (.iload_n 1, 1) := by decide +kernel
theorem dX0_inForce_29 : decode cX0_inForce 29 = .ok (.if_icmp .gt 48, 3) := by decide +kernel
theorem dX0_inForce_32 : decode cX0_inForce 32 = .ok (.aload_n 0, 1) := by decide +kernel
theorem dX0_inForce_33 : decode cX0_inForce 33 = .ok (.getfield 21, 3) := by decide +kernel
theorem dX0_inForce_36 : decode cX0_inForce 36 = .ok (.iload_n 3, 1) := by decide +kernel
theorem dX0_inForce_37 : decode cX0_inForce 37 = .ok (.iconst 2, 1) := by decide +kernel
theorem dX0_inForce_38 : decode cX0_inForce 38 = .ok (.invokevirtual 31, 3) := by decide +kernel
theorem dX0_inForce_41 : decode cX0_inForce 41 = .ok (.iconst 1, 1) := by decide +kernel
theorem dX0_inForce_42 : decode cX0_inForce 42 = .ok (.if_icmp .eq 35, 3) := by decide +kernel
theorem dX0_inForce_45 : decode cX0_inForce 45 = .ok (.aload_n 0, 1) := by decide +kernel
theorem dX0_inForce_46 : decode cX0_inForce 46 = .ok (.iload_n 3, 1) := by decide +kernel
theorem dX0_inForce_47 : decode cX0_inForce 47 = .ok (.invokevirtual 42, 3) := by decide +kernel
theorem dX0_inForce_50 : decode cX0_inForce 50 = .ok (.ifCond .ne 6, 3) := by decide +kernel
theorem dX0_inForce_53 : decode cX0_inForce 53 = .ok (.goto 24, 3) := by decide +kernel
theorem dX0_inForce_56 : decode cX0_inForce 56 = .ok (.iload_n 2, 1) := by decide +kernel
theorem dX0_inForce_57 : decode cX0_inForce 57 = .ok (.iconst (-1), 1) := by decide +kernel
theorem dX0_inForce_58 : decode cX0_inForce 58 = .ok (.if_icmp .eq 17, 3) := by decide +kernel
theorem dX0_inForce_61 : decode cX0_inForce 61 = .ok (.iload 4, 2) := by decide +kernel
theorem dX0_inForce_63 : decode cX0_inForce 63 = .ok (.aload_n 0, 1) := by decide +kernel
theorem dX0_inForce_64 : decode cX0_inForce 64 = .ok (.getfield 21, 3) := by decide +kernel
theorem dX0_inForce_67 : decode cX0_inForce 67 = .ok (.iload_n 2, 1) := by decide +kernel
theorem dX0_inForce_68 : decode cX0_inForce 68 = .ok (.iconst 0, 1) := by decide +kernel
theorem dX0_inForce_69 : decode cX0_inForce 69 = .ok (.invokevirtual 31, 3) := by decide +kernel
theorem dX0_inForce_72 : decode cX0_inForce 72 = .ok (.if_icmp .lt 5, 3) := by decide +kernel
theorem dX0_inForce_75 : decode cX0_inForce 75 = .ok (.iload_n 3, 1) := by decide +kernel
theorem dX0_inForce_76 : decode cX0_inForce 76 = .ok (.istore_n 2, 1) := by decide +kernel
theorem dX0_inForce_77 : decode cX0_inForce 77 = .ok (.iinc 3 1, 3) := by decide +kernel
theorem dX0_inForce_80 : decode cX0_inForce 80 = .ok (.goto (-76), 3) := by decide +kernel
theorem dX0_inForce_83 : decode cX0_inForce 83 = .ok (.iload_n 2, 1) := by decide +kernel
theorem dX0_inForce_84 : decode cX0_inForce 84 = .ok (.ireturn, 1) := by decide +kernel
def f_X0_inForce_b4 (M : q_Mem) (a0 : Nat) (a1 : Int32) : Nat → Int32 → Int32 → Option Int32
  | 0, _, _ => none
  | n + 1, a2, a3 =>
    (q_gR 0 1 M a0).bind fun v1 =>
    (q_gI 8 3 M v1).bind fun v3 =>
    (if a3 < v3 then
      (q_gR 0 1 M a0).bind fun v5 =>
      (f_X9_at M v5 a3 (0 : Int32)).bind fun v8 =>
      (if a1 < v8 then
        f_X0_inForce_b4 M a0 a1 n a2 (a3 + (1 : Int32))
      else
        (q_gR 0 1 M a0).bind fun v9 =>
        (f_X9_at M v9 a3 (2 : Int32)).bind fun v12 =>
        (if v12 = (1 : Int32) then
          f_X0_inForce_b4 M a0 a1 n a2 (a3 + (1 : Int32))
        else
          (f_X0_isPassed M a0 a3).bind fun v14 =>
          (if v14 = 0 then
            f_X0_inForce_b4 M a0 a1 n a2 (a3 + (1 : Int32))
          else
            (if a2 = (-1 : Int32) then
              f_X0_inForce_b4 M a0 a1 n a3 (a3 + (1 : Int32))
            else
              (q_gR 0 1 M a0).bind fun v15 =>
              (f_X9_at M v15 a2 (0 : Int32)).bind fun v18 =>
              (if v8 < v18 then
                f_X0_inForce_b4 M a0 a1 n a2 (a3 + (1 : Int32))
              else
                f_X0_inForce_b4 M a0 a1 n a3 (a3 + (1 : Int32)))))))
    else
      some a2)
def f_X0_inForce (M : q_Mem) (a0 : Nat) (a1 : Int32) : Option Int32 :=
  q_ob 0 M a0 (f_X0_inForce_b4 M a0 a1 q_fuel (-1 : Int32) (0 : Int32))
set_option maxRecDepth 20000 in
theorem v_X0_inForce_b4 {M : q_Mem} {a0 : Nat} {a1 : Int32}  : ∀ (n : Nat) (a2 : Int32) (a3 : Int32), q_V Y_X0_inForce none (fun x : Int32 => (some (.int x), M)) 0 0 4 [(0, .ref a0), (1, .int a1), (2, .int a2), (3, .int a3)] [] M (f_X0_inForce_b4 M a0 a1 n a2 a3) := by
  intro n
  induction n with
  | zero => intro a2 a3; exact q_none
  | succ n ih =>
    intro a2 a3
    rw [f_X0_inForce_b4.eq_2]
    refine q_iload_n 3 dX0_inForce_4 rfl ?_
    refine q_aload_n 0 dX0_inForce_5 rfl ?_
    refine q_getR (f := 1) cl_X0 (by decide) qw_248 rfl dX0_inForce_6 (fun _ _ _ => rfl) (fun v1 h2 => ?_)
    refine q_getI (f := 3) cl_X9 (by decide) qw_51 rfl dX0_inForce_9 (Or.inl rfl) (fun v3 h4 => ?_)
    refine q_icmp_ge (tgt := 83) dX0_inForce_12 (by decide) (fun c24 => ?_) (fun c24 => ?_)
    · refine q_aload_n 0 dX0_inForce_15 rfl ?_
      refine q_getR (f := 1) cl_X0 (by decide) qw_248 rfl dX0_inForce_16 (fun _ _ _ => rfl) (fun v5 h6 => ?_)
      refine q_iload_n 3 dX0_inForce_19 rfl ?_
      refine q_iconst (x := (0 : Int32)) dX0_inForce_20 rfl ?_
      refine q_cVI (Y2 := Y_X9_at) (As := [.int a3, .int (0 : Int32)]) (b := v5) (st := []) cl_X9 mv_X9_at qw_778 dX0_inForce_21 ⟨Nat.le_of_ble_eq_true rfl, Nat.le_of_ble_eq_true rfl⟩ rfl (fun _ _ => rfl) (Nat.le_of_ble_eq_true rfl) ⟨Nat.le_of_ble_eq_true rfl, Nat.le_of_ble_eq_true rfl⟩ (fun v8 h7 => q_ob_is h7) (fun v8 h7 => m_X9_at h7) (fun v8 h7 => ?_)
      refine q_istore (ls' := [(4, .int v8), (0, .ref a0), (1, .int a1), (2, .int a2), (3, .int a3)]) dX0_inForce_24 (by decide) rfl ?_
      refine q_iload 0 dX0_inForce_26 rfl ?_
      refine q_iload_n 2 dX0_inForce_28 rfl ?_
      refine q_icmp_gt (tgt := 77) dX0_inForce_29 (by decide) (fun c23 => ?_) (fun c23 => ?_)
      · refine q_iinc 4 (y := (a3 + (1 : Int32))) (ls' := [(3, .int (a3 + (1 : Int32))), (4, .int v8), (0, .ref a0), (1, .int a1), (2, .int a2)]) dX0_inForce_77 rfl rfl (by decide) rfl ?_
        refine q_goto (tgt := 4) dX0_inForce_80 (by decide) ?_
        refine q_sub (ls' := [(0, .ref a0), (1, .int a1), (2, .int a2), (3, .int (a3 + (1 : Int32)))]) [2, 3, 4, 0] rfl ?_
        exact ih _ _
      · refine q_aload_n 1 dX0_inForce_32 rfl ?_
        refine q_getR (f := 1) cl_X0 (by decide) qw_248 rfl dX0_inForce_33 (fun _ _ _ => rfl) (fun v9 h10 => ?_)
        refine q_iload_n 4 dX0_inForce_36 rfl ?_
        refine q_iconst (x := (2 : Int32)) dX0_inForce_37 rfl ?_
        refine q_cVI (Y2 := Y_X9_at) (As := [.int a3, .int (2 : Int32)]) (b := v9) (st := []) cl_X9 mv_X9_at qw_778 dX0_inForce_38 ⟨Nat.le_of_ble_eq_true rfl, Nat.le_of_ble_eq_true rfl⟩ rfl (fun _ _ => rfl) (Nat.le_of_ble_eq_true rfl) ⟨Nat.le_of_ble_eq_true rfl, Nat.le_of_ble_eq_true rfl⟩ (fun v12 h11 => q_ob_is h11) (fun v12 h11 => m_X9_at h11) (fun v12 h11 => ?_)
        refine q_iconst (x := (1 : Int32)) dX0_inForce_41 rfl ?_
        refine q_icmp_eq (tgt := 77) dX0_inForce_42 (by decide) (fun c22 => ?_) (fun c22 => ?_)
        · refine q_iinc 4 (y := (a3 + (1 : Int32))) (ls' := [(3, .int (a3 + (1 : Int32))), (4, .int v8), (0, .ref a0), (1, .int a1), (2, .int a2)]) dX0_inForce_77 rfl rfl (by decide) rfl ?_
          refine q_goto (tgt := 4) dX0_inForce_80 (by decide) ?_
          refine q_sub (ls' := [(0, .ref a0), (1, .int a1), (2, .int a2), (3, .int (a3 + (1 : Int32)))]) [2, 3, 4, 0] rfl ?_
          exact ih _ _
        · refine q_aload_n 1 dX0_inForce_45 rfl ?_
          refine q_iload_n 4 dX0_inForce_46 rfl ?_
          refine q_cVI (Y2 := Y_X0_isPassed) (As := [.int a3]) (b := a0) (st := []) cl_X0 mv_X0_isPassed qw_800 dX0_inForce_47 ⟨Nat.le_of_ble_eq_true rfl, Nat.le_of_ble_eq_true rfl⟩ rfl (fun _ _ => rfl) (Nat.le_of_ble_eq_true rfl) ⟨Nat.le_of_ble_eq_true rfl, Nat.le_of_ble_eq_true rfl⟩ (fun v14 h13 => q_ob_is h13) (fun v14 h13 => m_X0_isPassed h13) (fun v14 h13 => ?_)
          refine q_if_ne (tgt := 56) dX0_inForce_50 (by decide) (fun c21 => ?_) (fun c21 => ?_)
          · refine q_goto (tgt := 77) dX0_inForce_53 (by decide) ?_
            refine q_iinc 4 (y := (a3 + (1 : Int32))) (ls' := [(3, .int (a3 + (1 : Int32))), (4, .int v8), (0, .ref a0), (1, .int a1), (2, .int a2)]) dX0_inForce_77 rfl rfl (by decide) rfl ?_
            refine q_goto (tgt := 4) dX0_inForce_80 (by decide) ?_
            refine q_sub (ls' := [(0, .ref a0), (1, .int a1), (2, .int a2), (3, .int (a3 + (1 : Int32)))]) [2, 3, 4, 0] rfl ?_
            exact ih _ _
          · refine q_iload_n 3 dX0_inForce_56 rfl ?_
            refine q_iconst (x := (-1 : Int32)) dX0_inForce_57 rfl ?_
            refine q_icmp_eq (tgt := 75) dX0_inForce_58 (by decide) (fun c20 => ?_) (fun c20 => ?_)
            · refine q_iload_n 4 dX0_inForce_75 rfl ?_
              refine q_istore_n (ls' := [(2, .int a3), (4, .int v8), (0, .ref a0), (1, .int a1), (3, .int a3)]) dX0_inForce_76 (by decide) rfl ?_
              refine q_iinc 4 (y := (a3 + (1 : Int32))) (ls' := [(3, .int (a3 + (1 : Int32))), (2, .int a3), (4, .int v8), (0, .ref a0), (1, .int a1)]) dX0_inForce_77 rfl rfl (by decide) rfl ?_
              refine q_goto (tgt := 4) dX0_inForce_80 (by decide) ?_
              refine q_sub (ls' := [(0, .ref a0), (1, .int a1), (2, .int a3), (3, .int (a3 + (1 : Int32)))]) [3, 4, 1, 0] rfl ?_
              exact ih _ _
            · refine q_iload 0 dX0_inForce_61 rfl ?_
              refine q_aload_n 1 dX0_inForce_63 rfl ?_
              refine q_getR (f := 1) cl_X0 (by decide) qw_248 rfl dX0_inForce_64 (fun _ _ _ => rfl) (fun v15 h16 => ?_)
              refine q_iload_n 3 dX0_inForce_67 rfl ?_
              refine q_iconst (x := (0 : Int32)) dX0_inForce_68 rfl ?_
              refine q_cVI (Y2 := Y_X9_at) (As := [.int a2, .int (0 : Int32)]) (b := v15) (st := [.int v8]) cl_X9 mv_X9_at qw_778 dX0_inForce_69 ⟨Nat.le_of_ble_eq_true rfl, Nat.le_of_ble_eq_true rfl⟩ rfl (fun _ _ => rfl) (Nat.le_of_ble_eq_true rfl) ⟨Nat.le_of_ble_eq_true rfl, Nat.le_of_ble_eq_true rfl⟩ (fun v18 h17 => q_ob_is h17) (fun v18 h17 => m_X9_at h17) (fun v18 h17 => ?_)
              refine q_icmp_lt (tgt := 77) dX0_inForce_72 (by decide) (fun c19 => ?_) (fun c19 => ?_)
              · refine q_iinc 4 (y := (a3 + (1 : Int32))) (ls' := [(3, .int (a3 + (1 : Int32))), (4, .int v8), (0, .ref a0), (1, .int a1), (2, .int a2)]) dX0_inForce_77 rfl rfl (by decide) rfl ?_
                refine q_goto (tgt := 4) dX0_inForce_80 (by decide) ?_
                refine q_sub (ls' := [(0, .ref a0), (1, .int a1), (2, .int a2), (3, .int (a3 + (1 : Int32)))]) [2, 3, 4, 0] rfl ?_
                exact ih _ _
              · refine q_iload_n 4 dX0_inForce_75 rfl ?_
                refine q_istore_n (ls' := [(2, .int a3), (4, .int v8), (0, .ref a0), (1, .int a1), (3, .int a3)]) dX0_inForce_76 (by decide) rfl ?_
                refine q_iinc 4 (y := (a3 + (1 : Int32))) (ls' := [(3, .int (a3 + (1 : Int32))), (2, .int a3), (4, .int v8), (0, .ref a0), (1, .int a1)]) dX0_inForce_77 rfl rfl (by decide) rfl ?_
                refine q_goto (tgt := 4) dX0_inForce_80 (by decide) ?_
                refine q_sub (ls' := [(0, .ref a0), (1, .int a1), (2, .int a3), (3, .int (a3 + (1 : Int32)))]) [3, 4, 1, 0] rfl ?_
                exact ih _ _
    · refine q_iload_n 2 dX0_inForce_83 rfl ?_
      exact q_iret dX0_inForce_84 rfl rfl (Nat.le_of_ble_eq_true rfl) rfl
set_option maxRecDepth 20000 in
theorem m_X0_inForce {M : q_Mem} {a0 : Nat} {a1 : Int32} {x : Int32} (h : f_X0_inForce M a0 a1 = some x) : q_C Y_X0_inForce [.ref a0, .int a1] M (some (.int x)) M := by
  refine q_met (φ := (fun x : Int32 => (some (.int x), M))) (r := f_X0_inForce M a0 a1) (by decide +kernel) (Nat.le_of_ble_eq_true rfl) ?_ h (fun _ _ => rfl)
  show q_V Y_X0_inForce none (fun x : Int32 => (some (.int x), M)) 0 0 0 [(0, .ref a0), (1, .int a1)] [] M (f_X0_inForce M a0 a1)
  unfold f_X0_inForce
  refine q_obV ?_
  refine q_iconst (x := (-1 : Int32)) dX0_inForce_0 rfl ?_
  refine q_istore_n (ls' := [(2, .int (-1 : Int32)), (0, .ref a0), (1, .int a1)]) dX0_inForce_1 (by decide) rfl ?_
  refine q_iconst (x := (0 : Int32)) dX0_inForce_2 rfl ?_
  refine q_istore_n (ls' := [(3, .int (0 : Int32)), (2, .int (-1 : Int32)), (0, .ref a0), (1, .int a1)]) dX0_inForce_3 (by decide) rfl ?_
  refine q_sub (ls' := [(0, .ref a0), (1, .int a1), (2, .int (-1 : Int32)), (3, .int (0 : Int32))]) [2, 3, 1, 0] rfl ?_
  exact v_X0_inForce_b4 _ _ _
theorem dX1_behindAWeek_0 : decode cX1_behindAWeek 0 = .ok (.lload_n 2, 1) := by decide +kernel
theorem dX1_behindAWeek_1 : decode cX1_behindAWeek 1 = .ok (.lload_n 2, 1) := by decide +kernel
theorem dX1_behindAWeek_2 : decode cX1_behindAWeek 2 = .ok (.aload_n 0, 1) := by decide +kernel
theorem dX1_behindAWeek_3 : decode cX1_behindAWeek 3 = .ok (.iload_n 1, 1) := by decide +kernel
theorem dX1_behindAWeek_4 : decode cX1_behindAWeek 4 = .ok (.iconst 1, 1) := by decide +kernel
theorem dX1_behindAWeek_5 : decode cX1_behindAWeek 5 = .ok (.invokevirtual 9, 3) := by decide +kernel
theorem dX1_behindAWeek_8 : decode cX1_behindAWeek 8 = .ok (.i2l, 1) := by decide +kernel
theorem dX1_behindAWeek_9 : decode cX1_behindAWeek 9 = .ok (.lmul, 1) := by decide +kernel
theorem dX1_behindAWeek_10 : decode cX1_behindAWeek 10 = .ok (.ldc2_w 15, 3) := by decide +kernel
theorem dX1_behindAWeek_13 : decode cX1_behindAWeek 13 = .ok (.ladd, 1) := by decide +kernel
theorem dX1_behindAWeek_14 : decode cX1_behindAWeek 14 = .ok (.lconst 1, 1) := by decide +kernel
theorem dX1_behindAWeek_15 : decode cX1_behindAWeek 15 = .ok (.lsub, 1) := by decide +kernel
theorem dX1_behindAWeek_16 : decode cX1_behindAWeek 16 = .ok (.ldc2_w 15, 3) := by decide +kernel
theorem dX1_behindAWeek_19 : decode cX1_behindAWeek 19 = .ok (.ldiv, 1) := by decide +kernel
theorem dX1_behindAWeek_20 : decode cX1_behindAWeek 20 = .ok (.ladd, 1) := by decide +kernel
theorem dX1_behindAWeek_21 : decode cX1_behindAWeek 21 = .ok (.lstore 4, 2) := by decide +kernel
theorem dX1_behindAWeek_23 : decode cX1_behindAWeek 23 = .ok (.ldc2_w 19, 3) := by decide +kernel
theorem dX1_behindAWeek_26 : decode cX1_behindAWeek 26 = .ok (.lload 4, 2) := by decide +kernel
theorem dX1_behindAWeek_28 : decode cX1_behindAWeek 28 = .ok (.invokestatic 21, 3) := by decide +kernel
theorem dX1_behindAWeek_31 : decode cX1_behindAWeek 31 = .ok (.lstore 6, 2) := by decide +kernel
theorem dX1_behindAWeek_33 : decode cX1_behindAWeek 33 = .ok (.lload 6, 2) := by decide +kernel
theorem dX1_behindAWeek_35 : decode cX1_behindAWeek 35 = .ok (.lload 6, 2) := by decide +kernel
theorem dX1_behindAWeek_37 : decode cX1_behindAWeek 37 = .ok (.aload_n 0, 1) := by decide +kernel
theorem dX1_behindAWeek_38 : decode cX1_behindAWeek 38 = .ok (.iload_n 1, 1) := by decide +kernel
theorem dX1_behindAWeek_39 : decode cX1_behindAWeek 39 = .ok (.iconst 2, 1) := by decide +kernel
theorem dX1_behindAWeek_40 : decode cX1_behindAWeek 40 = .ok (.invokevirtual 9, 3) := by decide +kernel
theorem dX1_behindAWeek_43 : decode cX1_behindAWeek 43 = .ok (.i2l, 1) := by decide +kernel
theorem dX1_behindAWeek_44 : decode cX1_behindAWeek 44 = .ok (.invokestatic 21, 3) := by decide +kernel
theorem dX1_behindAWeek_47 : decode cX1_behindAWeek 47 = .ok (.lsub, 1) := by decide +kernel
theorem dX1_behindAWeek_48 : decode cX1_behindAWeek 48 = .ok (.lreturn, 1) := by decide +kernel
def f_X1_behindAWeek (M : q_Mem) (a0 : Nat) (a1 : Int32) (a2 : Int64) : Option Int64 :=
  (f_X9_at M a0 a1 (1 : Int32)).bind fun v2 =>
  (q_ldv (((a2 * v2.toInt64) + (1000 : Int64)) - (1 : Int64)) (1000 : Int64)).bind fun v3 =>
  (f_X9_at M a0 a1 (2 : Int32)).bind fun v6 =>
  some ((q_miJ (1000000000000 : Int64) (a2 + v3)) - (q_miJ (q_miJ (1000000000000 : Int64) (a2 + v3)) v6.toInt64))
set_option maxRecDepth 20000 in
theorem m_X1_behindAWeek {M : q_Mem} {a0 : Nat} {a1 : Int32} {a2 : Int64} {x : Int64} (h : f_X1_behindAWeek M a0 a1 a2 = some x) : q_C Y_X1_behindAWeek [.ref a0, .int a1, .long a2] M (some (.long x)) M := by
  refine q_met (φ := (fun x : Int64 => (some (.long x), M))) (r := f_X1_behindAWeek M a0 a1 a2) (by decide +kernel) (Nat.le_of_ble_eq_true rfl) ?_ h (fun _ _ => rfl)
  show q_V Y_X1_behindAWeek none (fun x : Int64 => (some (.long x), M)) 0 0 0 [(0, .ref a0), (1, .int a1), (2, .long a2)] [] M (f_X1_behindAWeek M a0 a1 a2)
  unfold f_X1_behindAWeek
  refine q_lload_n 2 dX1_behindAWeek_0 rfl ?_
  refine q_lload_n 2 dX1_behindAWeek_1 rfl ?_
  refine q_aload_n 0 dX1_behindAWeek_2 rfl ?_
  refine q_iload_n 1 dX1_behindAWeek_3 rfl ?_
  refine q_iconst (x := (1 : Int32)) dX1_behindAWeek_4 rfl ?_
  refine q_cVI (Y2 := Y_X9_at) (As := [.int a1, .int (1 : Int32)]) (b := a0) (st := [.long a2, .long a2]) cl_X9 mv_X9_at qw_1062 dX1_behindAWeek_5 ⟨Nat.le_of_ble_eq_true rfl, Nat.le_of_ble_eq_true rfl⟩ rfl (fun _ _ => rfl) (Nat.le_of_ble_eq_true rfl) ⟨Nat.le_of_ble_eq_true rfl, Nat.le_of_ble_eq_true rfl⟩ (fun v2 h1 => q_ob_is h1) (fun v2 h1 => m_X9_at h1) (fun v2 h1 => ?_)
  refine q_i2l dX1_behindAWeek_8 ?_
  refine q_lmul dX1_behindAWeek_9 ?_
  refine q_ldc2 (x := (1000 : Int64)) qw_1063 dX1_behindAWeek_10 ?_
  refine q_ladd dX1_behindAWeek_13 ?_
  refine q_lconst (x := (1 : Int64)) dX1_behindAWeek_14 rfl ?_
  refine q_lsub dX1_behindAWeek_15 ?_
  refine q_ldc2 (x := (1000 : Int64)) qw_1063 dX1_behindAWeek_16 ?_
  refine q_ldiv dX1_behindAWeek_19 (fun v3 h4 => ?_)
  refine q_ladd dX1_behindAWeek_20 ?_
  refine q_lstore (ls' := [(4, .long (a2 + v3)), (0, .ref a0), (1, .int a1), (2, .long a2)]) dX1_behindAWeek_21 (by decide) rfl ?_
  refine q_ldc2 (x := (1000000000000 : Int64)) qw_1064 dX1_behindAWeek_23 ?_
  refine q_lload 0 dX1_behindAWeek_26 rfl ?_
  refine q_mminJ qw_1065 qm_mminJ_1 qm_2 qm_mminJ_3 dX1_behindAWeek_28 (Nat.le_of_ble_eq_true rfl) (Nat.le_of_ble_eq_true rfl) (Nat.le_of_ble_eq_true rfl) ⟨Nat.le_of_ble_eq_true rfl, Nat.le_of_ble_eq_true rfl⟩ ?_
  refine q_lstore (ls' := [(6, .long (q_miJ (1000000000000 : Int64) (a2 + v3))), (4, .long (a2 + v3)), (0, .ref a0), (1, .int a1), (2, .long a2)]) dX1_behindAWeek_31 (by decide) rfl ?_
  refine q_lload 0 dX1_behindAWeek_33 rfl ?_
  refine q_lload 0 dX1_behindAWeek_35 rfl ?_
  refine q_aload_n 2 dX1_behindAWeek_37 rfl ?_
  refine q_iload_n 3 dX1_behindAWeek_38 rfl ?_
  refine q_iconst (x := (2 : Int32)) dX1_behindAWeek_39 rfl ?_
  refine q_cVI (Y2 := Y_X9_at) (As := [.int a1, .int (2 : Int32)]) (b := a0) (st := [.long (q_miJ (1000000000000 : Int64) (a2 + v3)), .long (q_miJ (1000000000000 : Int64) (a2 + v3))]) cl_X9 mv_X9_at qw_1062 dX1_behindAWeek_40 ⟨Nat.le_of_ble_eq_true rfl, Nat.le_of_ble_eq_true rfl⟩ rfl (fun _ _ => rfl) (Nat.le_of_ble_eq_true rfl) ⟨Nat.le_of_ble_eq_true rfl, Nat.le_of_ble_eq_true rfl⟩ (fun v6 h5 => q_ob_is h5) (fun v6 h5 => m_X9_at h5) (fun v6 h5 => ?_)
  refine q_i2l dX1_behindAWeek_43 ?_
  refine q_mminJ qw_1065 qm_mminJ_1 qm_2 qm_mminJ_3 dX1_behindAWeek_44 (Nat.le_of_ble_eq_true rfl) (Nat.le_of_ble_eq_true rfl) (Nat.le_of_ble_eq_true rfl) ⟨Nat.le_of_ble_eq_true rfl, Nat.le_of_ble_eq_true rfl⟩ ?_
  refine q_lsub dX1_behindAWeek_47 ?_
  exact q_lret dX1_behindAWeek_48 rfl rfl (Nat.le_of_ble_eq_true rfl) rfl
theorem dX2_init_0 : decode cX2_init 0 = .ok (.aload_n 0, 1) := by decide +kernel
theorem dX2_init_1 : decode cX2_init 1 = .ok (.invokespecial 5, 3) := by decide +kernel
theorem dX2_init_4 : decode cX2_init 4 = .ok (.aload_n 0, 1) := by decide +kernel
theorem dX2_init_5 : decode cX2_init 5 = .ok (.sipush 1024, 3) := by decide +kernel
theorem dX2_init_8 : decode cX2_init 8 = .ok (.newarray .long, 2) := by decide +kernel
theorem dX2_init_10 : decode cX2_init 10 = .ok (.putfield 11, 3) := by decide +kernel
theorem dX2_init_13 : decode cX2_init 13 = .ok (.aload_n 0, 1) := by decide +kernel
theorem dX2_init_14 : decode cX2_init 14 = .ok (.sipush 1024, 3) := by decide +kernel
theorem dX2_init_17 : decode cX2_init 17 = .ok (.newarray .long, 2) := by decide +kernel
theorem dX2_init_19 : decode cX2_init 19 = .ok (.putfield 15, 3) := by decide +kernel
theorem dX2_init_22 : decode cX2_init 22 = .ok (.aload_n 0, 1) := by decide +kernel
theorem dX2_init_23 : decode cX2_init 23 = .ok (.sipush 1024, 3) := by decide +kernel
theorem dX2_init_26 : decode cX2_init 26 = .ok (.newarray .int, 2) := by decide +kernel
theorem dX2_init_28 : decode cX2_init 28 = .ok (.putfield 18, 3) := by decide +kernel
theorem dX2_init_31 : decode cX2_init 31 = .ok (.aload_n 0, 1) := by decide +kernel
theorem dX2_init_32 : decode cX2_init 32 = .ok (.sipush 1024, 3) := by decide +kernel
theorem dX2_init_35 : decode cX2_init 35 = .ok (.newarray .long, 2) := by decide +kernel
theorem dX2_init_37 : decode cX2_init 37 = .ok (.putfield 22, 3) := by decide +kernel
theorem dX2_init_40 : decode cX2_init 40 = .ok (.aload_n 0, 1) := by decide +kernel
theorem dX2_init_41 : decode cX2_init 41 = .ok (.sipush 1024, 3) := by decide +kernel
theorem dX2_init_44 : decode cX2_init 44 = .ok (.newarray .long, 2) := by decide +kernel
theorem dX2_init_46 : decode cX2_init 46 = .ok (.putfield 25, 3) := by decide +kernel
theorem dX2_init_49 : decode cX2_init 49 = .ok (.aload_n 0, 1) := by decide +kernel
theorem dX2_init_50 : decode cX2_init 50 = .ok (.aload_n 1, 1) := by decide +kernel
theorem dX2_init_51 : decode cX2_init 51 = .ok (.putfield 28, 3) := by decide +kernel
theorem dX2_init_54 : decode cX2_init 54 = .ok (.return_, 1) := by decide +kernel
def f_X2_init (M : q_Mem) (a0 : Nat) (a1 : Nat) : Option q_Mem :=
  q_ob 1 M a0 ((q_na M 101 (1024 : Int32)).bind fun M1 =>
  (q_pR 1 1 M1 a0 M.1).bind fun M2 =>
  (q_na M2 101 (1024 : Int32)).bind fun M4 =>
  (q_pR 1 2 M4 a0 M2.1).bind fun M5 =>
  (q_na M5 100 (1024 : Int32)).bind fun M7 =>
  (q_pR 1 3 M7 a0 M5.1).bind fun M8 =>
  (q_na M8 101 (1024 : Int32)).bind fun M10 =>
  (q_pR 1 4 M10 a0 M8.1).bind fun M11 =>
  (q_na M11 101 (1024 : Int32)).bind fun M13 =>
  (q_pR 1 5 M13 a0 M11.1).bind fun M14 =>
  (q_pR 1 0 M14 a0 a1).bind fun M16 =>
  some M16)
set_option maxRecDepth 20000 in
theorem m_X2_init {M : q_Mem} {a0 : Nat} {a1 : Nat} {x : q_Mem} (h : f_X2_init M a0 a1 = some x) : q_C Y_X2_init [.ref a0, .ref a1] M none x := by
  refine q_met (φ := (fun x : q_Mem => (none, x))) (r := f_X2_init M a0 a1) (by decide +kernel) (Nat.le_of_ble_eq_true rfl) ?_ h (fun _ _ => rfl)
  show q_V Y_X2_init none (fun x : q_Mem => (none, x)) 0 0 0 [(0, .ref a0), (1, .ref a1)] [] M (f_X2_init M a0 a1)
  unfold f_X2_init
  refine q_obV ?_
  refine q_aload_n 0 dX2_init_0 rfl ?_
  refine q_objInit qw_329 qo_2 qo_3 dX2_init_1 (Nat.le_of_ble_eq_true rfl) (Nat.le_of_ble_eq_true rfl) (Nat.le_of_ble_eq_true rfl) ?_
  refine q_aload_n 0 dX2_init_4 rfl ?_
  refine q_sipush (x := (1024 : Int32)) dX2_init_5 rfl ?_
  refine q_newarr (at_ := .long) (ty := .long) (len := 1024) rfl qa_long (Or.inr (Or.inl ⟨rfl, rfl, rfl⟩)) (by decide) rfl (by decide) (Nat.le_of_ble_eq_true rfl) (Nat.le_of_ble_eq_true rfl) dX2_init_8 ?_
  refine q_putR (f := 1) cl_X2 (by decide) qw_331 rfl (Or.inr ⟨rfl, rfl, rfl⟩) dX2_init_10 (fun _ _ _ => rfl) (fun _ => rfl) (fun _ => rfl) (fun M2 h3 => ?_)
  refine q_aload_n 0 dX2_init_13 rfl ?_
  refine q_sipush (x := (1024 : Int32)) dX2_init_14 rfl ?_
  refine q_newarr (at_ := .long) (ty := .long) (len := 1024) rfl qa_long (Or.inr (Or.inl ⟨rfl, rfl, rfl⟩)) (by decide) rfl (by decide) (Nat.le_of_ble_eq_true rfl) (Nat.le_of_ble_eq_true rfl) dX2_init_17 ?_
  refine q_putR (f := 2) cl_X2 (by decide) qw_332 rfl (Or.inr ⟨rfl, rfl, rfl⟩) dX2_init_19 (fun _ _ _ => rfl) (fun _ => rfl) (fun _ => rfl) (fun M5 h6 => ?_)
  refine q_aload_n 0 dX2_init_22 rfl ?_
  refine q_sipush (x := (1024 : Int32)) dX2_init_23 rfl ?_
  refine q_newarr (at_ := .int) (ty := .int) (len := 1024) rfl qa_int (Or.inl ⟨rfl, rfl, rfl⟩) (by decide) rfl (by decide) (Nat.le_of_ble_eq_true rfl) (Nat.le_of_ble_eq_true rfl) dX2_init_26 ?_
  refine q_putR (f := 3) cl_X2 (by decide) qw_333 rfl (Or.inr ⟨rfl, rfl, rfl⟩) dX2_init_28 (fun _ _ _ => rfl) (fun _ => rfl) (fun _ => rfl) (fun M8 h9 => ?_)
  refine q_aload_n 0 dX2_init_31 rfl ?_
  refine q_sipush (x := (1024 : Int32)) dX2_init_32 rfl ?_
  refine q_newarr (at_ := .long) (ty := .long) (len := 1024) rfl qa_long (Or.inr (Or.inl ⟨rfl, rfl, rfl⟩)) (by decide) rfl (by decide) (Nat.le_of_ble_eq_true rfl) (Nat.le_of_ble_eq_true rfl) dX2_init_35 ?_
  refine q_putR (f := 4) cl_X2 (by decide) qw_334 rfl (Or.inr ⟨rfl, rfl, rfl⟩) dX2_init_37 (fun _ _ _ => rfl) (fun _ => rfl) (fun _ => rfl) (fun M11 h12 => ?_)
  refine q_aload_n 0 dX2_init_40 rfl ?_
  refine q_sipush (x := (1024 : Int32)) dX2_init_41 rfl ?_
  refine q_newarr (at_ := .long) (ty := .long) (len := 1024) rfl qa_long (Or.inr (Or.inl ⟨rfl, rfl, rfl⟩)) (by decide) rfl (by decide) (Nat.le_of_ble_eq_true rfl) (Nat.le_of_ble_eq_true rfl) dX2_init_44 ?_
  refine q_putR (f := 5) cl_X2 (by decide) qw_335 rfl (Or.inr ⟨rfl, rfl, rfl⟩) dX2_init_46 (fun _ _ _ => rfl) (fun _ => rfl) (fun _ => rfl) (fun M14 h15 => ?_)
  refine q_aload_n 0 dX2_init_49 rfl ?_
  refine q_aload_n 1 dX2_init_50 rfl ?_
  refine q_putR (f := 0) cl_X2 (by decide) qw_330 rfl (Or.inr ⟨rfl, rfl, rfl⟩) dX2_init_51 (fun _ _ _ => rfl) (fun _ => rfl) (fun _ => rfl) (fun M16 h17 => ?_)
  exact q_vret dX2_init_54 rfl rfl (Nat.le_of_ble_eq_true rfl) rfl
theorem dX2_allCreams_0 : decode cX2_allCreams 0 = .ok (.iconst 1, 1) := by decide +kernel
theorem dX2_allCreams_1 : decode cX2_allCreams 1 = .ok (.bipush 10, 2) := by decide +kernel
theorem dX2_allCreams_3 : decode cX2_allCreams 3 = .ok (.aload_n 0, 1) := by decide +kernel
theorem dX2_allCreams_4 : decode cX2_allCreams 4 = .ok (.getfield 28, 3) := by decide +kernel
theorem dX2_allCreams_7 : decode cX2_allCreams 7 = .ok (.getfield 32, 3) := by decide +kernel
theorem dX2_allCreams_10 : decode cX2_allCreams 10 = .ok (.invokestatic 38, 3) := by decide +kernel
theorem dX2_allCreams_13 : decode cX2_allCreams 13 = .ok (.ishl, 1) := by decide +kernel
theorem dX2_allCreams_14 : decode cX2_allCreams 14 = .ok (.iconst 1, 1) := by decide +kernel
theorem dX2_allCreams_15 : decode cX2_allCreams 15 = .ok (.isub, 1) := by decide +kernel
theorem dX2_allCreams_16 : decode cX2_allCreams 16 = .ok (.ireturn, 1) := by decide +kernel
def f_X2_allCreams (M : q_Mem) (a0 : Nat) : Option Int32 :=
  q_ob 1 M a0 ((q_gR 1 0 M a0).bind fun v1 =>
  (q_gI 8 3 M v1).bind fun v3 =>
  some (((1 : Int32) <<< ((q_mi (10 : Int32) v3) &&& 31)) - (1 : Int32)))
set_option maxRecDepth 20000 in
theorem m_X2_allCreams {M : q_Mem} {a0 : Nat} {x : Int32} (h : f_X2_allCreams M a0 = some x) : q_C Y_X2_allCreams [.ref a0] M (some (.int x)) M := by
  refine q_met (φ := (fun x : Int32 => (some (.int x), M))) (r := f_X2_allCreams M a0) (by decide +kernel) (Nat.le_of_ble_eq_true rfl) ?_ h (fun _ _ => rfl)
  show q_V Y_X2_allCreams none (fun x : Int32 => (some (.int x), M)) 0 0 0 [(0, .ref a0)] [] M (f_X2_allCreams M a0)
  unfold f_X2_allCreams
  refine q_obV ?_
  refine q_iconst (x := (1 : Int32)) dX2_allCreams_0 rfl ?_
  refine q_bipush (x := (10 : Int32)) dX2_allCreams_1 rfl ?_
  refine q_aload_n 0 dX2_allCreams_3 rfl ?_
  refine q_getR (f := 0) cl_X2 (by decide) qw_330 rfl dX2_allCreams_4 (fun _ _ _ => rfl) (fun v1 h2 => ?_)
  refine q_getI (f := 3) cl_X9 (by decide) qw_46 rfl dX2_allCreams_7 (Or.inl rfl) (fun v3 h4 => ?_)
  refine q_mmin qw_962 qm_mmin_1 qm_2 qm_mmin_3 dX2_allCreams_10 (Nat.le_of_ble_eq_true rfl) (Nat.le_of_ble_eq_true rfl) (Nat.le_of_ble_eq_true rfl) ⟨Nat.le_of_ble_eq_true rfl, Nat.le_of_ble_eq_true rfl⟩ ?_
  refine q_ishl dX2_allCreams_13 ?_
  refine q_iconst (x := (1 : Int32)) dX2_allCreams_14 rfl ?_
  refine q_isub dX2_allCreams_15 ?_
  exact q_iret dX2_allCreams_16 rfl rfl (Nat.le_of_ble_eq_true rfl) rfl
theorem dJ6_numberOfTrailingZeros_0f7a4_0 : decode cJ6_numberOfTrailingZeros_0f7a4 0 = .ok (.iload_n 0, 1) := by decide +kernel
theorem dJ6_numberOfTrailingZeros_0f7a4_1 : decode cJ6_numberOfTrailingZeros_0f7a4 1 = .ok (.iconst (-1), 1) := by decide +kernel
theorem dJ6_numberOfTrailingZeros_0f7a4_2 : decode cJ6_numberOfTrailingZeros_0f7a4 2 = .ok (.ixor, 1) := by decide +kernel
theorem dJ6_numberOfTrailingZeros_0f7a4_3 : decode cJ6_numberOfTrailingZeros_0f7a4 3 = .ok (.iload_n 0, 1) := by decide +kernel
theorem dJ6_numberOfTrailingZeros_0f7a4_4 : decode cJ6_numberOfTrailingZeros_0f7a4 4 = .ok (.iconst 1, 1) := by decide +kernel
theorem dJ6_numberOfTrailingZeros_0f7a4_5 : decode cJ6_numberOfTrailingZeros_0f7a4 5 = .ok (.isub, 1) := by decide +kernel
theorem dJ6_numberOfTrailingZeros_0f7a4_6 : decode cJ6_numberOfTrailingZeros_0f7a4 6 = .ok (.iand, 1) := by decide +kernel
theorem dJ6_numberOfTrailingZeros_0f7a4_7 : decode cJ6_numberOfTrailingZeros_0f7a4 7 = .ok (.istore_n 0, 1) := by decide +kernel
theorem dJ6_numberOfTrailingZeros_0f7a4_8 : decode cJ6_numberOfTrailingZeros_0f7a4 8 = .ok (.iload_n 0, 1) := by decide +kernel
theorem dJ6_numberOfTrailingZeros_0f7a4_9 : decode cJ6_numberOfTrailingZeros_0f7a4 9 = .ok (.ifCond .gt 8, 3) := by decide +kernel
theorem dJ6_numberOfTrailingZeros_0f7a4_12 : decode cJ6_numberOfTrailingZeros_0f7a4 12 = .ok (.iload_n 0, 1) := by decide +kernel
theorem dJ6_numberOfTrailingZeros_0f7a4_13 : decode cJ6_numberOfTrailingZeros_0f7a4 13 = .ok (.bipush 32, 2) := by decide +kernel
theorem dJ6_numberOfTrailingZeros_0f7a4_15 : decode cJ6_numberOfTrailingZeros_0f7a4 15 = .ok (.iand, 1) := by decide +kernel
theorem dJ6_numberOfTrailingZeros_0f7a4_16 : decode cJ6_numberOfTrailingZeros_0f7a4 16 = .ok (.ireturn, 1) := by decide +kernel
theorem dJ6_numberOfTrailingZeros_0f7a4_17 : decode cJ6_numberOfTrailingZeros_0f7a4 17 = .ok (.iconst 1, 1) := by decide +kernel
theorem dJ6_numberOfTrailingZeros_0f7a4_18 : decode cJ6_numberOfTrailingZeros_0f7a4 18 = .ok (.istore_n 1, 1) := by decide +kernel
theorem dJ6_numberOfTrailingZeros_0f7a4_19 : decode cJ6_numberOfTrailingZeros_0f7a4 19 = .ok (.iload_n 0, 1) := by decide +kernel
theorem dJ6_numberOfTrailingZeros_0f7a4_20 : decode cJ6_numberOfTrailingZeros_0f7a4 20 = .ok (.ldc_w 264, 3) := by decide +kernel
theorem dJ6_numberOfTrailingZeros_0f7a4_23 : decode cJ6_numberOfTrailingZeros_0f7a4 23 = .ok (.if_icmp .le 11, 3) := by decide +kernel
theorem dJ6_numberOfTrailingZeros_0f7a4_26 : decode cJ6_numberOfTrailingZeros_0f7a4 26 = .ok (.iinc 1 16, 3) := by decide +kernel
theorem dJ6_numberOfTrailingZeros_0f7a4_29 : decode cJ6_numberOfTrailingZeros_0f7a4 29 = .ok (.iload_n 0, 1) := by decide +kernel
theorem dJ6_numberOfTrailingZeros_0f7a4_30 : decode cJ6_numberOfTrailingZeros_0f7a4 30 = .ok (.bipush 16, 2) := by decide +kernel
theorem dJ6_numberOfTrailingZeros_0f7a4_32 : decode cJ6_numberOfTrailingZeros_0f7a4 32 = .ok (.iushr, 1) := by decide +kernel
theorem dJ6_numberOfTrailingZeros_0f7a4_33 : decode cJ6_numberOfTrailingZeros_0f7a4 33 = .ok (.istore_n 0, 1) := by decide +kernel
theorem dJ6_numberOfTrailingZeros_0f7a4_34 : decode cJ6_numberOfTrailingZeros_0f7a4 34 = .ok (.iload_n 0, 1) := by decide +kernel
theorem dJ6_numberOfTrailingZeros_0f7a4_35 : decode cJ6_numberOfTrailingZeros_0f7a4 35 = .ok (.sipush 256, 3) := by decide +kernel
theorem dJ6_numberOfTrailingZeros_0f7a4_38 : decode cJ6_numberOfTrailingZeros_0f7a4 38 = .ok (.if_icmp .le 11, 3) := by decide +kernel
theorem dJ6_numberOfTrailingZeros_0f7a4_41 : decode cJ6_numberOfTrailingZeros_0f7a4 41 = .ok (.iinc 1 8, 3) := by decide +kernel
theorem dJ6_numberOfTrailingZeros_0f7a4_44 : decode cJ6_numberOfTrailingZeros_0f7a4 44 = .ok (.iload_n 0, 1) := by decide +kernel
theorem dJ6_numberOfTrailingZeros_0f7a4_45 : decode cJ6_numberOfTrailingZeros_0f7a4 45 = .ok (.bipush 8, 2) := by decide +kernel
theorem dJ6_numberOfTrailingZeros_0f7a4_47 : decode cJ6_numberOfTrailingZeros_0f7a4 47 = .ok (.iushr, 1) := by decide +kernel
theorem dJ6_numberOfTrailingZeros_0f7a4_48 : decode cJ6_numberOfTrailingZeros_0f7a4 48 = .ok (.istore_n 0, 1) := by decide +kernel
theorem dJ6_numberOfTrailingZeros_0f7a4_49 : decode cJ6_numberOfTrailingZeros_0f7a4 49 = .ok (.iload_n 0, 1) := by decide +kernel
theorem dJ6_numberOfTrailingZeros_0f7a4_50 : decode cJ6_numberOfTrailingZeros_0f7a4 50 = .ok (.bipush 16, 2) := by decide +kernel
theorem dJ6_numberOfTrailingZeros_0f7a4_52 : decode cJ6_numberOfTrailingZeros_0f7a4 52 = .ok (.if_icmp .le 10, 3) := by decide +kernel
theorem dJ6_numberOfTrailingZeros_0f7a4_55 : decode cJ6_numberOfTrailingZeros_0f7a4 55 = .ok (.iinc 1 4, 3) := by decide +kernel
theorem dJ6_numberOfTrailingZeros_0f7a4_58 : decode cJ6_numberOfTrailingZeros_0f7a4 58 = .ok (.iload_n 0, 1) := by decide +kernel
theorem dJ6_numberOfTrailingZeros_0f7a4_59 : decode cJ6_numberOfTrailingZeros_0f7a4 59 = .ok (.iconst 4, 1) := by decide +kernel
theorem dJ6_numberOfTrailingZeros_0f7a4_60 : decode cJ6_numberOfTrailingZeros_0f7a4 60 = .ok (.iushr, 1) := by decide +kernel
theorem dJ6_numberOfTrailingZeros_0f7a4_61 : decode cJ6_numberOfTrailingZeros_0f7a4 61 = .ok (.istore_n 0, 1) := by decide +kernel
theorem dJ6_numberOfTrailingZeros_0f7a4_62 : decode cJ6_numberOfTrailingZeros_0f7a4 62 = .ok (.iload_n 0, 1) := by decide +kernel
theorem dJ6_numberOfTrailingZeros_0f7a4_63 : decode cJ6_numberOfTrailingZeros_0f7a4 63 = .ok (.iconst 4, 1) := by decide +kernel
theorem dJ6_numberOfTrailingZeros_0f7a4_64 : decode cJ6_numberOfTrailingZeros_0f7a4 64 = .ok (.if_icmp .le 10, 3) := by decide +kernel
theorem dJ6_numberOfTrailingZeros_0f7a4_67 : decode cJ6_numberOfTrailingZeros_0f7a4 67 = .ok (.iinc 1 2, 3) := by decide +kernel
theorem dJ6_numberOfTrailingZeros_0f7a4_70 : decode cJ6_numberOfTrailingZeros_0f7a4 70 = .ok (.iload_n 0, 1) := by decide +kernel
theorem dJ6_numberOfTrailingZeros_0f7a4_71 : decode cJ6_numberOfTrailingZeros_0f7a4 71 = .ok (.iconst 2, 1) := by decide +kernel
theorem dJ6_numberOfTrailingZeros_0f7a4_72 : decode cJ6_numberOfTrailingZeros_0f7a4 72 = .ok (.iushr, 1) := by decide +kernel
theorem dJ6_numberOfTrailingZeros_0f7a4_73 : decode cJ6_numberOfTrailingZeros_0f7a4 73 = .ok (.istore_n 0, 1) := by decide +kernel
theorem dJ6_numberOfTrailingZeros_0f7a4_74 : decode cJ6_numberOfTrailingZeros_0f7a4 74 = .ok (.iload_n 1, 1) := by decide +kernel
theorem dJ6_numberOfTrailingZeros_0f7a4_75 : decode cJ6_numberOfTrailingZeros_0f7a4 75 = .ok (.iload_n 0, 1) := by decide +kernel
theorem dJ6_numberOfTrailingZeros_0f7a4_76 : decode cJ6_numberOfTrailingZeros_0f7a4 76 = .ok (.iconst 1, 1) := by decide +kernel
theorem dJ6_numberOfTrailingZeros_0f7a4_77 : decode cJ6_numberOfTrailingZeros_0f7a4 77 = .ok (.iushr, 1) := by decide +kernel
theorem dJ6_numberOfTrailingZeros_0f7a4_78 : decode cJ6_numberOfTrailingZeros_0f7a4 78 = .ok (.iadd, 1) := by decide +kernel
theorem dJ6_numberOfTrailingZeros_0f7a4_79 : decode cJ6_numberOfTrailingZeros_0f7a4 79 = .ok (.ireturn, 1) := by decide +kernel
def f_J6_numberOfTrailingZeros_0f7a4_b74 (M : q_Mem) (a0 : Int32) (a1 : Int32) : Option Int32 :=
  some (a1 + ((a0.toUInt32 >>> ((1 : Int32).toUInt32 &&& Int32.toUInt32 31)).toInt32))
def f_J6_numberOfTrailingZeros_0f7a4_b62 (M : q_Mem) (a0 : Int32) (a1 : Int32) : Option Int32 :=
  (if (4 : Int32) < a0 then
    f_J6_numberOfTrailingZeros_0f7a4_b74 M ((a0.toUInt32 >>> ((2 : Int32).toUInt32 &&& Int32.toUInt32 31)).toInt32) (a1 + (2 : Int32))
  else
    f_J6_numberOfTrailingZeros_0f7a4_b74 M a0 a1)
def f_J6_numberOfTrailingZeros_0f7a4_b49 (M : q_Mem) (a0 : Int32) (a1 : Int32) : Option Int32 :=
  (if (16 : Int32) < a0 then
    f_J6_numberOfTrailingZeros_0f7a4_b62 M ((a0.toUInt32 >>> ((4 : Int32).toUInt32 &&& Int32.toUInt32 31)).toInt32) (a1 + (4 : Int32))
  else
    f_J6_numberOfTrailingZeros_0f7a4_b62 M a0 a1)
def f_J6_numberOfTrailingZeros_0f7a4_b34 (M : q_Mem) (a0 : Int32) (a1 : Int32) : Option Int32 :=
  (if (256 : Int32) < a0 then
    f_J6_numberOfTrailingZeros_0f7a4_b49 M ((a0.toUInt32 >>> ((8 : Int32).toUInt32 &&& Int32.toUInt32 31)).toInt32) (a1 + (8 : Int32))
  else
    f_J6_numberOfTrailingZeros_0f7a4_b49 M a0 a1)
def f_J6_numberOfTrailingZeros_0f7a4 (M : q_Mem) (a0 : Int32) : Option Int32 :=
  (if 0 < ((a0 ^^^ (-1 : Int32)) &&& (a0 - (1 : Int32))) then
    (if (65536 : Int32) < ((a0 ^^^ (-1 : Int32)) &&& (a0 - (1 : Int32))) then
      f_J6_numberOfTrailingZeros_0f7a4_b34 M ((((a0 ^^^ (-1 : Int32)) &&& (a0 - (1 : Int32))).toUInt32 >>> ((16 : Int32).toUInt32 &&& Int32.toUInt32 31)).toInt32) ((1 : Int32) + (16 : Int32))
    else
      f_J6_numberOfTrailingZeros_0f7a4_b34 M ((a0 ^^^ (-1 : Int32)) &&& (a0 - (1 : Int32))) (1 : Int32))
  else
    some (((a0 ^^^ (-1 : Int32)) &&& (a0 - (1 : Int32))) &&& (32 : Int32)))
set_option maxRecDepth 20000 in
theorem v_J6_numberOfTrailingZeros_0f7a4_b74 {M : q_Mem} {a0 : Int32} {a1 : Int32}  : q_V Y_J6_numberOfTrailingZeros_0f7a4 none (fun x : Int32 => (some (.int x), M)) 0 0 74 [(0, .int a0), (1, .int a1)] [] M (f_J6_numberOfTrailingZeros_0f7a4_b74 M a0 a1 ) := by
  unfold f_J6_numberOfTrailingZeros_0f7a4_b74
  refine q_iload_n 1 dJ6_numberOfTrailingZeros_0f7a4_74 rfl ?_
  refine q_iload_n 0 dJ6_numberOfTrailingZeros_0f7a4_75 rfl ?_
  refine q_iconst (x := (1 : Int32)) dJ6_numberOfTrailingZeros_0f7a4_76 rfl ?_
  refine q_iushr dJ6_numberOfTrailingZeros_0f7a4_77 ?_
  refine q_iadd dJ6_numberOfTrailingZeros_0f7a4_78 ?_
  exact q_iret dJ6_numberOfTrailingZeros_0f7a4_79 rfl rfl (Nat.le_of_ble_eq_true rfl) rfl
set_option maxRecDepth 20000 in
theorem v_J6_numberOfTrailingZeros_0f7a4_b62 {M : q_Mem} {a0 : Int32} {a1 : Int32}  : q_V Y_J6_numberOfTrailingZeros_0f7a4 none (fun x : Int32 => (some (.int x), M)) 0 0 62 [(0, .int a0), (1, .int a1)] [] M (f_J6_numberOfTrailingZeros_0f7a4_b62 M a0 a1 ) := by
  unfold f_J6_numberOfTrailingZeros_0f7a4_b62
  refine q_iload_n 0 dJ6_numberOfTrailingZeros_0f7a4_62 rfl ?_
  refine q_iconst (x := (4 : Int32)) dJ6_numberOfTrailingZeros_0f7a4_63 rfl ?_
  refine q_icmp_le (tgt := 74) dJ6_numberOfTrailingZeros_0f7a4_64 (by decide) (fun c5 => ?_) (fun c5 => ?_)
  · refine q_iinc 1 (y := (a1 + (2 : Int32))) (ls' := [(1, .int (a1 + (2 : Int32))), (0, .int a0)]) dJ6_numberOfTrailingZeros_0f7a4_67 rfl rfl (by decide) rfl ?_
    refine q_iload_n 1 dJ6_numberOfTrailingZeros_0f7a4_70 rfl ?_
    refine q_iconst (x := (2 : Int32)) dJ6_numberOfTrailingZeros_0f7a4_71 rfl ?_
    refine q_iushr dJ6_numberOfTrailingZeros_0f7a4_72 ?_
    refine q_istore_n (ls' := [(0, .int ((a0.toUInt32 >>> ((2 : Int32).toUInt32 &&& Int32.toUInt32 31)).toInt32)), (1, .int (a1 + (2 : Int32)))]) dJ6_numberOfTrailingZeros_0f7a4_73 (by decide) rfl ?_
    exact v_J6_numberOfTrailingZeros_0f7a4_b74
  · exact v_J6_numberOfTrailingZeros_0f7a4_b74
set_option maxRecDepth 20000 in
theorem v_J6_numberOfTrailingZeros_0f7a4_b49 {M : q_Mem} {a0 : Int32} {a1 : Int32}  : q_V Y_J6_numberOfTrailingZeros_0f7a4 none (fun x : Int32 => (some (.int x), M)) 0 0 49 [(0, .int a0), (1, .int a1)] [] M (f_J6_numberOfTrailingZeros_0f7a4_b49 M a0 a1 ) := by
  unfold f_J6_numberOfTrailingZeros_0f7a4_b49
  refine q_iload_n 0 dJ6_numberOfTrailingZeros_0f7a4_49 rfl ?_
  refine q_bipush (x := (16 : Int32)) dJ6_numberOfTrailingZeros_0f7a4_50 rfl ?_
  refine q_icmp_le (tgt := 62) dJ6_numberOfTrailingZeros_0f7a4_52 (by decide) (fun c4 => ?_) (fun c4 => ?_)
  · refine q_iinc 1 (y := (a1 + (4 : Int32))) (ls' := [(1, .int (a1 + (4 : Int32))), (0, .int a0)]) dJ6_numberOfTrailingZeros_0f7a4_55 rfl rfl (by decide) rfl ?_
    refine q_iload_n 1 dJ6_numberOfTrailingZeros_0f7a4_58 rfl ?_
    refine q_iconst (x := (4 : Int32)) dJ6_numberOfTrailingZeros_0f7a4_59 rfl ?_
    refine q_iushr dJ6_numberOfTrailingZeros_0f7a4_60 ?_
    refine q_istore_n (ls' := [(0, .int ((a0.toUInt32 >>> ((4 : Int32).toUInt32 &&& Int32.toUInt32 31)).toInt32)), (1, .int (a1 + (4 : Int32)))]) dJ6_numberOfTrailingZeros_0f7a4_61 (by decide) rfl ?_
    exact v_J6_numberOfTrailingZeros_0f7a4_b62
  · exact v_J6_numberOfTrailingZeros_0f7a4_b62
set_option maxRecDepth 20000 in
theorem v_J6_numberOfTrailingZeros_0f7a4_b34 {M : q_Mem} {a0 : Int32} {a1 : Int32}  : q_V Y_J6_numberOfTrailingZeros_0f7a4 none (fun x : Int32 => (some (.int x), M)) 0 0 34 [(0, .int a0), (1, .int a1)] [] M (f_J6_numberOfTrailingZeros_0f7a4_b34 M a0 a1 ) := by
  unfold f_J6_numberOfTrailingZeros_0f7a4_b34
  refine q_iload_n 0 dJ6_numberOfTrailingZeros_0f7a4_34 rfl ?_
  refine q_sipush (x := (256 : Int32)) dJ6_numberOfTrailingZeros_0f7a4_35 rfl ?_
  refine q_icmp_le (tgt := 49) dJ6_numberOfTrailingZeros_0f7a4_38 (by decide) (fun c3 => ?_) (fun c3 => ?_)
  · refine q_iinc 1 (y := (a1 + (8 : Int32))) (ls' := [(1, .int (a1 + (8 : Int32))), (0, .int a0)]) dJ6_numberOfTrailingZeros_0f7a4_41 rfl rfl (by decide) rfl ?_
    refine q_iload_n 1 dJ6_numberOfTrailingZeros_0f7a4_44 rfl ?_
    refine q_bipush (x := (8 : Int32)) dJ6_numberOfTrailingZeros_0f7a4_45 rfl ?_
    refine q_iushr dJ6_numberOfTrailingZeros_0f7a4_47 ?_
    refine q_istore_n (ls' := [(0, .int ((a0.toUInt32 >>> ((8 : Int32).toUInt32 &&& Int32.toUInt32 31)).toInt32)), (1, .int (a1 + (8 : Int32)))]) dJ6_numberOfTrailingZeros_0f7a4_48 (by decide) rfl ?_
    exact v_J6_numberOfTrailingZeros_0f7a4_b49
  · exact v_J6_numberOfTrailingZeros_0f7a4_b49
set_option maxRecDepth 20000 in
theorem m_J6_numberOfTrailingZeros_0f7a4 {M : q_Mem} {a0 : Int32} {x : Int32} (h : f_J6_numberOfTrailingZeros_0f7a4 M a0 = some x) : q_C Y_J6_numberOfTrailingZeros_0f7a4 [.int a0] M (some (.int x)) M := by
  refine q_met (φ := (fun x : Int32 => (some (.int x), M))) (r := f_J6_numberOfTrailingZeros_0f7a4 M a0) (by decide +kernel) (Nat.le_of_ble_eq_true rfl) ?_ h (fun _ _ => rfl)
  show q_V Y_J6_numberOfTrailingZeros_0f7a4 none (fun x : Int32 => (some (.int x), M)) 0 0 0 [(0, .int a0)] [] M (f_J6_numberOfTrailingZeros_0f7a4 M a0)
  unfold f_J6_numberOfTrailingZeros_0f7a4
  refine q_iload_n 0 dJ6_numberOfTrailingZeros_0f7a4_0 rfl ?_
  refine q_iconst (x := (-1 : Int32)) dJ6_numberOfTrailingZeros_0f7a4_1 rfl ?_
  refine q_ixor dJ6_numberOfTrailingZeros_0f7a4_2 ?_
  refine q_iload_n 0 dJ6_numberOfTrailingZeros_0f7a4_3 rfl ?_
  refine q_iconst (x := (1 : Int32)) dJ6_numberOfTrailingZeros_0f7a4_4 rfl ?_
  refine q_isub dJ6_numberOfTrailingZeros_0f7a4_5 ?_
  refine q_iand dJ6_numberOfTrailingZeros_0f7a4_6 ?_
  refine q_istore_n (ls' := [(0, .int ((a0 ^^^ (-1 : Int32)) &&& (a0 - (1 : Int32))))]) dJ6_numberOfTrailingZeros_0f7a4_7 (by decide) rfl ?_
  refine q_iload_n 0 dJ6_numberOfTrailingZeros_0f7a4_8 rfl ?_
  refine q_if_gt (tgt := 17) dJ6_numberOfTrailingZeros_0f7a4_9 (by decide) (fun c2 => ?_) (fun c2 => ?_)
  · refine q_iconst (x := (1 : Int32)) dJ6_numberOfTrailingZeros_0f7a4_17 rfl ?_
    refine q_istore_n (ls' := [(1, .int (1 : Int32)), (0, .int ((a0 ^^^ (-1 : Int32)) &&& (a0 - (1 : Int32))))]) dJ6_numberOfTrailingZeros_0f7a4_18 (by decide) rfl ?_
    refine q_iload_n 1 dJ6_numberOfTrailingZeros_0f7a4_19 rfl ?_
    refine q_ldcw (x := (65536 : Int32)) qw_966 dJ6_numberOfTrailingZeros_0f7a4_20 ?_
    refine q_icmp_le (tgt := 34) dJ6_numberOfTrailingZeros_0f7a4_23 (by decide) (fun c1 => ?_) (fun c1 => ?_)
    · refine q_iinc 0 (y := ((1 : Int32) + (16 : Int32))) (ls' := [(1, .int ((1 : Int32) + (16 : Int32))), (0, .int ((a0 ^^^ (-1 : Int32)) &&& (a0 - (1 : Int32))))]) dJ6_numberOfTrailingZeros_0f7a4_26 rfl rfl (by decide) rfl ?_
      refine q_iload_n 1 dJ6_numberOfTrailingZeros_0f7a4_29 rfl ?_
      refine q_bipush (x := (16 : Int32)) dJ6_numberOfTrailingZeros_0f7a4_30 rfl ?_
      refine q_iushr dJ6_numberOfTrailingZeros_0f7a4_32 ?_
      refine q_istore_n (ls' := [(0, .int ((((a0 ^^^ (-1 : Int32)) &&& (a0 - (1 : Int32))).toUInt32 >>> ((16 : Int32).toUInt32 &&& Int32.toUInt32 31)).toInt32)), (1, .int ((1 : Int32) + (16 : Int32)))]) dJ6_numberOfTrailingZeros_0f7a4_33 (by decide) rfl ?_
      exact v_J6_numberOfTrailingZeros_0f7a4_b34
    · refine q_sub (ls' := [(0, .int ((a0 ^^^ (-1 : Int32)) &&& (a0 - (1 : Int32)))), (1, .int (1 : Int32))]) [1, 0] rfl ?_
      exact v_J6_numberOfTrailingZeros_0f7a4_b34
  · refine q_iload_n 0 dJ6_numberOfTrailingZeros_0f7a4_12 rfl ?_
    refine q_bipush (x := (32 : Int32)) dJ6_numberOfTrailingZeros_0f7a4_13 rfl ?_
    refine q_iand dJ6_numberOfTrailingZeros_0f7a4_15 ?_
    exact q_iret dJ6_numberOfTrailingZeros_0f7a4_16 rfl rfl (Nat.le_of_ble_eq_true rfl) rfl
theorem dX2_shiftOf_0 : decode cX2_shiftOf 0 = .ok (.iconst 4, 1) := by decide +kernel
theorem dX2_shiftOf_1 : decode cX2_shiftOf 1 = .ok (.bipush 9, 2) := by decide +kernel
theorem dX2_shiftOf_3 : decode cX2_shiftOf 3 = .ok (.iload_n 0, 1) := by decide +kernel
theorem dX2_shiftOf_4 : decode cX2_shiftOf 4 = .ok (.isub, 1) := by decide +kernel
theorem dX2_shiftOf_5 : decode cX2_shiftOf 5 = .ok (.imul, 1) := by decide +kernel
theorem dX2_shiftOf_6 : decode cX2_shiftOf 6 = .ok (.ireturn, 1) := by decide +kernel
def f_X2_shiftOf (M : q_Mem) (a0 : Int32) : Option Int32 :=
  some ((4 : Int32) * ((9 : Int32) - a0))
set_option maxRecDepth 20000 in
theorem m_X2_shiftOf {M : q_Mem} {a0 : Int32} {x : Int32} (h : f_X2_shiftOf M a0 = some x) : q_C Y_X2_shiftOf [.int a0] M (some (.int x)) M := by
  refine q_met (φ := (fun x : Int32 => (some (.int x), M))) (r := f_X2_shiftOf M a0) (by decide +kernel) (Nat.le_of_ble_eq_true rfl) ?_ h (fun _ _ => rfl)
  show q_V Y_X2_shiftOf none (fun x : Int32 => (some (.int x), M)) 0 0 0 [(0, .int a0)] [] M (f_X2_shiftOf M a0)
  unfold f_X2_shiftOf
  refine q_iconst (x := (4 : Int32)) dX2_shiftOf_0 rfl ?_
  refine q_bipush (x := (9 : Int32)) dX2_shiftOf_1 rfl ?_
  refine q_iload_n 0 dX2_shiftOf_3 rfl ?_
  refine q_isub dX2_shiftOf_4 ?_
  refine q_imul dX2_shiftOf_5 ?_
  exact q_iret dX2_shiftOf_6 rfl rfl (Nat.le_of_ble_eq_true rfl) rfl
theorem dJ6_bitCount_0f7a4_0 : decode cJ6_bitCount_0f7a4 0 = .ok (.iload_n 0, 1) := by decide +kernel
theorem dJ6_bitCount_0f7a4_1 : decode cJ6_bitCount_0f7a4 1 = .ok (.iload_n 0, 1) := by decide +kernel
theorem dJ6_bitCount_0f7a4_2 : decode cJ6_bitCount_0f7a4 2 = .ok (.iconst 1, 1) := by decide +kernel
theorem dJ6_bitCount_0f7a4_3 : decode cJ6_bitCount_0f7a4 3 = .ok (.iushr, 1) := by decide +kernel
theorem dJ6_bitCount_0f7a4_4 : decode cJ6_bitCount_0f7a4 4 = .ok (.ldc_w 265, 3) := by decide +kernel
theorem dJ6_bitCount_0f7a4_7 : decode cJ6_bitCount_0f7a4 7 = .ok (.iand, 1) := by decide +kernel
theorem dJ6_bitCount_0f7a4_8 : decode cJ6_bitCount_0f7a4 8 = .ok (.isub, 1) := by decide +kernel
theorem dJ6_bitCount_0f7a4_9 : decode cJ6_bitCount_0f7a4 9 = .ok (.istore_n 0, 1) := by decide +kernel
theorem dJ6_bitCount_0f7a4_10 : decode cJ6_bitCount_0f7a4 10 = .ok (.iload_n 0, 1) := by decide +kernel
theorem dJ6_bitCount_0f7a4_11 : decode cJ6_bitCount_0f7a4 11 = .ok (.ldc_w 266, 3) := by decide +kernel
theorem dJ6_bitCount_0f7a4_14 : decode cJ6_bitCount_0f7a4 14 = .ok (.iand, 1) := by decide +kernel
theorem dJ6_bitCount_0f7a4_15 : decode cJ6_bitCount_0f7a4 15 = .ok (.iload_n 0, 1) := by decide +kernel
theorem dJ6_bitCount_0f7a4_16 : decode cJ6_bitCount_0f7a4 16 = .ok (.iconst 2, 1) := by decide +kernel
theorem dJ6_bitCount_0f7a4_17 : decode cJ6_bitCount_0f7a4 17 = .ok (.iushr, 1) := by decide +kernel
theorem dJ6_bitCount_0f7a4_18 : decode cJ6_bitCount_0f7a4 18 = .ok (.ldc_w 266, 3) := by decide +kernel
theorem dJ6_bitCount_0f7a4_21 : decode cJ6_bitCount_0f7a4 21 = .ok (.iand, 1) := by decide +kernel
theorem dJ6_bitCount_0f7a4_22 : decode cJ6_bitCount_0f7a4 22 = .ok (.iadd, 1) := by decide +kernel
theorem dJ6_bitCount_0f7a4_23 : decode cJ6_bitCount_0f7a4 23 = .ok (.istore_n 0, 1) := by decide +kernel
theorem dJ6_bitCount_0f7a4_24 : decode cJ6_bitCount_0f7a4 24 = .ok (.iload_n 0, 1) := by decide +kernel
theorem dJ6_bitCount_0f7a4_25 : decode cJ6_bitCount_0f7a4 25 = .ok (.iload_n 0, 1) := by decide +kernel
theorem dJ6_bitCount_0f7a4_26 : decode cJ6_bitCount_0f7a4 26 = .ok (.iconst 4, 1) := by decide +kernel
theorem dJ6_bitCount_0f7a4_27 : decode cJ6_bitCount_0f7a4 27 = .ok (.iushr, 1) := by decide +kernel
theorem dJ6_bitCount_0f7a4_28 : decode cJ6_bitCount_0f7a4 28 = .ok (.iadd, 1) := by decide +kernel
theorem dJ6_bitCount_0f7a4_29 : decode cJ6_bitCount_0f7a4 29 = .ok (.ldc_w 267, 3) := by decide +kernel
theorem dJ6_bitCount_0f7a4_32 : decode cJ6_bitCount_0f7a4 32 = .ok (.iand, 1) := by decide +kernel
theorem dJ6_bitCount_0f7a4_33 : decode cJ6_bitCount_0f7a4 33 = .ok (.istore_n 0, 1) := by decide +kernel
theorem dJ6_bitCount_0f7a4_34 : decode cJ6_bitCount_0f7a4 34 = .ok (.iload_n 0, 1) := by decide +kernel
theorem dJ6_bitCount_0f7a4_35 : decode cJ6_bitCount_0f7a4 35 = .ok (.iload_n 0, 1) := by decide +kernel
theorem dJ6_bitCount_0f7a4_36 : decode cJ6_bitCount_0f7a4 36 = .ok (.bipush 8, 2) := by decide +kernel
theorem dJ6_bitCount_0f7a4_38 : decode cJ6_bitCount_0f7a4 38 = .ok (.iushr, 1) := by decide +kernel
theorem dJ6_bitCount_0f7a4_39 : decode cJ6_bitCount_0f7a4 39 = .ok (.iadd, 1) := by decide +kernel
theorem dJ6_bitCount_0f7a4_40 : decode cJ6_bitCount_0f7a4 40 = .ok (.istore_n 0, 1) := by decide +kernel
theorem dJ6_bitCount_0f7a4_41 : decode cJ6_bitCount_0f7a4 41 = .ok (.iload_n 0, 1) := by decide +kernel
theorem dJ6_bitCount_0f7a4_42 : decode cJ6_bitCount_0f7a4 42 = .ok (.iload_n 0, 1) := by decide +kernel
theorem dJ6_bitCount_0f7a4_43 : decode cJ6_bitCount_0f7a4 43 = .ok (.bipush 16, 2) := by decide +kernel
theorem dJ6_bitCount_0f7a4_45 : decode cJ6_bitCount_0f7a4 45 = .ok (.iushr, 1) := by decide +kernel
theorem dJ6_bitCount_0f7a4_46 : decode cJ6_bitCount_0f7a4 46 = .ok (.iadd, 1) := by decide +kernel
theorem dJ6_bitCount_0f7a4_47 : decode cJ6_bitCount_0f7a4 47 = .ok (.istore_n 0, 1) := by decide +kernel
theorem dJ6_bitCount_0f7a4_48 : decode cJ6_bitCount_0f7a4 48 = .ok (.iload_n 0, 1) := by decide +kernel
theorem dJ6_bitCount_0f7a4_49 : decode cJ6_bitCount_0f7a4 49 = .ok (.bipush 63, 2) := by decide +kernel
theorem dJ6_bitCount_0f7a4_51 : decode cJ6_bitCount_0f7a4 51 = .ok (.iand, 1) := by decide +kernel
theorem dJ6_bitCount_0f7a4_52 : decode cJ6_bitCount_0f7a4 52 = .ok (.ireturn, 1) := by decide +kernel
def f_J6_bitCount_0f7a4 (M : q_Mem) (a0 : Int32) : Option Int32 :=
  some ((((((((a0 - (((a0.toUInt32 >>> ((1 : Int32).toUInt32 &&& Int32.toUInt32 31)).toInt32) &&& (1431655765 : Int32))) &&& (858993459 : Int32)) + ((((a0 - (((a0.toUInt32 >>> ((1 : Int32).toUInt32 &&& Int32.toUInt32 31)).toInt32) &&& (1431655765 : Int32))).toUInt32 >>> ((2 : Int32).toUInt32 &&& Int32.toUInt32 31)).toInt32) &&& (858993459 : Int32))) + (((((a0 - (((a0.toUInt32 >>> ((1 : Int32).toUInt32 &&& Int32.toUInt32 31)).toInt32) &&& (1431655765 : Int32))) &&& (858993459 : Int32)) + ((((a0 - (((a0.toUInt32 >>> ((1 : Int32).toUInt32 &&& Int32.toUInt32 31)).toInt32) &&& (1431655765 : Int32))).toUInt32 >>> ((2 : Int32).toUInt32 &&& Int32.toUInt32 31)).toInt32) &&& (858993459 : Int32))).toUInt32 >>> ((4 : Int32).toUInt32 &&& Int32.toUInt32 31)).toInt32)) &&& (252645135 : Int32)) + (((((((a0 - (((a0.toUInt32 >>> ((1 : Int32).toUInt32 &&& Int32.toUInt32 31)).toInt32) &&& (1431655765 : Int32))) &&& (858993459 : Int32)) + ((((a0 - (((a0.toUInt32 >>> ((1 : Int32).toUInt32 &&& Int32.toUInt32 31)).toInt32) &&& (1431655765 : Int32))).toUInt32 >>> ((2 : Int32).toUInt32 &&& Int32.toUInt32 31)).toInt32) &&& (858993459 : Int32))) + (((((a0 - (((a0.toUInt32 >>> ((1 : Int32).toUInt32 &&& Int32.toUInt32 31)).toInt32) &&& (1431655765 : Int32))) &&& (858993459 : Int32)) + ((((a0 - (((a0.toUInt32 >>> ((1 : Int32).toUInt32 &&& Int32.toUInt32 31)).toInt32) &&& (1431655765 : Int32))).toUInt32 >>> ((2 : Int32).toUInt32 &&& Int32.toUInt32 31)).toInt32) &&& (858993459 : Int32))).toUInt32 >>> ((4 : Int32).toUInt32 &&& Int32.toUInt32 31)).toInt32)) &&& (252645135 : Int32)).toUInt32 >>> ((8 : Int32).toUInt32 &&& Int32.toUInt32 31)).toInt32)) + ((((((((a0 - (((a0.toUInt32 >>> ((1 : Int32).toUInt32 &&& Int32.toUInt32 31)).toInt32) &&& (1431655765 : Int32))) &&& (858993459 : Int32)) + ((((a0 - (((a0.toUInt32 >>> ((1 : Int32).toUInt32 &&& Int32.toUInt32 31)).toInt32) &&& (1431655765 : Int32))).toUInt32 >>> ((2 : Int32).toUInt32 &&& Int32.toUInt32 31)).toInt32) &&& (858993459 : Int32))) + (((((a0 - (((a0.toUInt32 >>> ((1 : Int32).toUInt32 &&& Int32.toUInt32 31)).toInt32) &&& (1431655765 : Int32))) &&& (858993459 : Int32)) + ((((a0 - (((a0.toUInt32 >>> ((1 : Int32).toUInt32 &&& Int32.toUInt32 31)).toInt32) &&& (1431655765 : Int32))).toUInt32 >>> ((2 : Int32).toUInt32 &&& Int32.toUInt32 31)).toInt32) &&& (858993459 : Int32))).toUInt32 >>> ((4 : Int32).toUInt32 &&& Int32.toUInt32 31)).toInt32)) &&& (252645135 : Int32)) + (((((((a0 - (((a0.toUInt32 >>> ((1 : Int32).toUInt32 &&& Int32.toUInt32 31)).toInt32) &&& (1431655765 : Int32))) &&& (858993459 : Int32)) + ((((a0 - (((a0.toUInt32 >>> ((1 : Int32).toUInt32 &&& Int32.toUInt32 31)).toInt32) &&& (1431655765 : Int32))).toUInt32 >>> ((2 : Int32).toUInt32 &&& Int32.toUInt32 31)).toInt32) &&& (858993459 : Int32))) + (((((a0 - (((a0.toUInt32 >>> ((1 : Int32).toUInt32 &&& Int32.toUInt32 31)).toInt32) &&& (1431655765 : Int32))) &&& (858993459 : Int32)) + ((((a0 - (((a0.toUInt32 >>> ((1 : Int32).toUInt32 &&& Int32.toUInt32 31)).toInt32) &&& (1431655765 : Int32))).toUInt32 >>> ((2 : Int32).toUInt32 &&& Int32.toUInt32 31)).toInt32) &&& (858993459 : Int32))).toUInt32 >>> ((4 : Int32).toUInt32 &&& Int32.toUInt32 31)).toInt32)) &&& (252645135 : Int32)).toUInt32 >>> ((8 : Int32).toUInt32 &&& Int32.toUInt32 31)).toInt32)).toUInt32 >>> ((16 : Int32).toUInt32 &&& Int32.toUInt32 31)).toInt32)) &&& (63 : Int32))
set_option maxRecDepth 20000 in
theorem m_J6_bitCount_0f7a4 {M : q_Mem} {a0 : Int32} {x : Int32} (h : f_J6_bitCount_0f7a4 M a0 = some x) : q_C Y_J6_bitCount_0f7a4 [.int a0] M (some (.int x)) M := by
  refine q_met (φ := (fun x : Int32 => (some (.int x), M))) (r := f_J6_bitCount_0f7a4 M a0) (by decide +kernel) (Nat.le_of_ble_eq_true rfl) ?_ h (fun _ _ => rfl)
  show q_V Y_J6_bitCount_0f7a4 none (fun x : Int32 => (some (.int x), M)) 0 0 0 [(0, .int a0)] [] M (f_J6_bitCount_0f7a4 M a0)
  unfold f_J6_bitCount_0f7a4
  refine q_iload_n 0 dJ6_bitCount_0f7a4_0 rfl ?_
  refine q_iload_n 0 dJ6_bitCount_0f7a4_1 rfl ?_
  refine q_iconst (x := (1 : Int32)) dJ6_bitCount_0f7a4_2 rfl ?_
  refine q_iushr dJ6_bitCount_0f7a4_3 ?_
  refine q_ldcw (x := (1431655765 : Int32)) qw_875 dJ6_bitCount_0f7a4_4 ?_
  refine q_iand dJ6_bitCount_0f7a4_7 ?_
  refine q_isub dJ6_bitCount_0f7a4_8 ?_
  refine q_istore_n (ls' := [(0, .int (a0 - (((a0.toUInt32 >>> ((1 : Int32).toUInt32 &&& Int32.toUInt32 31)).toInt32) &&& (1431655765 : Int32))))]) dJ6_bitCount_0f7a4_9 (by decide) rfl ?_
  refine q_iload_n 0 dJ6_bitCount_0f7a4_10 rfl ?_
  refine q_ldcw (x := (858993459 : Int32)) qw_876 dJ6_bitCount_0f7a4_11 ?_
  refine q_iand dJ6_bitCount_0f7a4_14 ?_
  refine q_iload_n 0 dJ6_bitCount_0f7a4_15 rfl ?_
  refine q_iconst (x := (2 : Int32)) dJ6_bitCount_0f7a4_16 rfl ?_
  refine q_iushr dJ6_bitCount_0f7a4_17 ?_
  refine q_ldcw (x := (858993459 : Int32)) qw_876 dJ6_bitCount_0f7a4_18 ?_
  refine q_iand dJ6_bitCount_0f7a4_21 ?_
  refine q_iadd dJ6_bitCount_0f7a4_22 ?_
  refine q_istore_n (ls' := [(0, .int (((a0 - (((a0.toUInt32 >>> ((1 : Int32).toUInt32 &&& Int32.toUInt32 31)).toInt32) &&& (1431655765 : Int32))) &&& (858993459 : Int32)) + ((((a0 - (((a0.toUInt32 >>> ((1 : Int32).toUInt32 &&& Int32.toUInt32 31)).toInt32) &&& (1431655765 : Int32))).toUInt32 >>> ((2 : Int32).toUInt32 &&& Int32.toUInt32 31)).toInt32) &&& (858993459 : Int32))))]) dJ6_bitCount_0f7a4_23 (by decide) rfl ?_
  refine q_iload_n 0 dJ6_bitCount_0f7a4_24 rfl ?_
  refine q_iload_n 0 dJ6_bitCount_0f7a4_25 rfl ?_
  refine q_iconst (x := (4 : Int32)) dJ6_bitCount_0f7a4_26 rfl ?_
  refine q_iushr dJ6_bitCount_0f7a4_27 ?_
  refine q_iadd dJ6_bitCount_0f7a4_28 ?_
  refine q_ldcw (x := (252645135 : Int32)) qw_877 dJ6_bitCount_0f7a4_29 ?_
  refine q_iand dJ6_bitCount_0f7a4_32 ?_
  refine q_istore_n (ls' := [(0, .int (((((a0 - (((a0.toUInt32 >>> ((1 : Int32).toUInt32 &&& Int32.toUInt32 31)).toInt32) &&& (1431655765 : Int32))) &&& (858993459 : Int32)) + ((((a0 - (((a0.toUInt32 >>> ((1 : Int32).toUInt32 &&& Int32.toUInt32 31)).toInt32) &&& (1431655765 : Int32))).toUInt32 >>> ((2 : Int32).toUInt32 &&& Int32.toUInt32 31)).toInt32) &&& (858993459 : Int32))) + (((((a0 - (((a0.toUInt32 >>> ((1 : Int32).toUInt32 &&& Int32.toUInt32 31)).toInt32) &&& (1431655765 : Int32))) &&& (858993459 : Int32)) + ((((a0 - (((a0.toUInt32 >>> ((1 : Int32).toUInt32 &&& Int32.toUInt32 31)).toInt32) &&& (1431655765 : Int32))).toUInt32 >>> ((2 : Int32).toUInt32 &&& Int32.toUInt32 31)).toInt32) &&& (858993459 : Int32))).toUInt32 >>> ((4 : Int32).toUInt32 &&& Int32.toUInt32 31)).toInt32)) &&& (252645135 : Int32)))]) dJ6_bitCount_0f7a4_33 (by decide) rfl ?_
  refine q_iload_n 0 dJ6_bitCount_0f7a4_34 rfl ?_
  refine q_iload_n 0 dJ6_bitCount_0f7a4_35 rfl ?_
  refine q_bipush (x := (8 : Int32)) dJ6_bitCount_0f7a4_36 rfl ?_
  refine q_iushr dJ6_bitCount_0f7a4_38 ?_
  refine q_iadd dJ6_bitCount_0f7a4_39 ?_
  refine q_istore_n (ls' := [(0, .int ((((((a0 - (((a0.toUInt32 >>> ((1 : Int32).toUInt32 &&& Int32.toUInt32 31)).toInt32) &&& (1431655765 : Int32))) &&& (858993459 : Int32)) + ((((a0 - (((a0.toUInt32 >>> ((1 : Int32).toUInt32 &&& Int32.toUInt32 31)).toInt32) &&& (1431655765 : Int32))).toUInt32 >>> ((2 : Int32).toUInt32 &&& Int32.toUInt32 31)).toInt32) &&& (858993459 : Int32))) + (((((a0 - (((a0.toUInt32 >>> ((1 : Int32).toUInt32 &&& Int32.toUInt32 31)).toInt32) &&& (1431655765 : Int32))) &&& (858993459 : Int32)) + ((((a0 - (((a0.toUInt32 >>> ((1 : Int32).toUInt32 &&& Int32.toUInt32 31)).toInt32) &&& (1431655765 : Int32))).toUInt32 >>> ((2 : Int32).toUInt32 &&& Int32.toUInt32 31)).toInt32) &&& (858993459 : Int32))).toUInt32 >>> ((4 : Int32).toUInt32 &&& Int32.toUInt32 31)).toInt32)) &&& (252645135 : Int32)) + (((((((a0 - (((a0.toUInt32 >>> ((1 : Int32).toUInt32 &&& Int32.toUInt32 31)).toInt32) &&& (1431655765 : Int32))) &&& (858993459 : Int32)) + ((((a0 - (((a0.toUInt32 >>> ((1 : Int32).toUInt32 &&& Int32.toUInt32 31)).toInt32) &&& (1431655765 : Int32))).toUInt32 >>> ((2 : Int32).toUInt32 &&& Int32.toUInt32 31)).toInt32) &&& (858993459 : Int32))) + (((((a0 - (((a0.toUInt32 >>> ((1 : Int32).toUInt32 &&& Int32.toUInt32 31)).toInt32) &&& (1431655765 : Int32))) &&& (858993459 : Int32)) + ((((a0 - (((a0.toUInt32 >>> ((1 : Int32).toUInt32 &&& Int32.toUInt32 31)).toInt32) &&& (1431655765 : Int32))).toUInt32 >>> ((2 : Int32).toUInt32 &&& Int32.toUInt32 31)).toInt32) &&& (858993459 : Int32))).toUInt32 >>> ((4 : Int32).toUInt32 &&& Int32.toUInt32 31)).toInt32)) &&& (252645135 : Int32)).toUInt32 >>> ((8 : Int32).toUInt32 &&& Int32.toUInt32 31)).toInt32)))]) dJ6_bitCount_0f7a4_40 (by decide) rfl ?_
  refine q_iload_n 0 dJ6_bitCount_0f7a4_41 rfl ?_
  refine q_iload_n 0 dJ6_bitCount_0f7a4_42 rfl ?_
  refine q_bipush (x := (16 : Int32)) dJ6_bitCount_0f7a4_43 rfl ?_
  refine q_iushr dJ6_bitCount_0f7a4_45 ?_
  refine q_iadd dJ6_bitCount_0f7a4_46 ?_
  refine q_istore_n (ls' := [(0, .int (((((((a0 - (((a0.toUInt32 >>> ((1 : Int32).toUInt32 &&& Int32.toUInt32 31)).toInt32) &&& (1431655765 : Int32))) &&& (858993459 : Int32)) + ((((a0 - (((a0.toUInt32 >>> ((1 : Int32).toUInt32 &&& Int32.toUInt32 31)).toInt32) &&& (1431655765 : Int32))).toUInt32 >>> ((2 : Int32).toUInt32 &&& Int32.toUInt32 31)).toInt32) &&& (858993459 : Int32))) + (((((a0 - (((a0.toUInt32 >>> ((1 : Int32).toUInt32 &&& Int32.toUInt32 31)).toInt32) &&& (1431655765 : Int32))) &&& (858993459 : Int32)) + ((((a0 - (((a0.toUInt32 >>> ((1 : Int32).toUInt32 &&& Int32.toUInt32 31)).toInt32) &&& (1431655765 : Int32))).toUInt32 >>> ((2 : Int32).toUInt32 &&& Int32.toUInt32 31)).toInt32) &&& (858993459 : Int32))).toUInt32 >>> ((4 : Int32).toUInt32 &&& Int32.toUInt32 31)).toInt32)) &&& (252645135 : Int32)) + (((((((a0 - (((a0.toUInt32 >>> ((1 : Int32).toUInt32 &&& Int32.toUInt32 31)).toInt32) &&& (1431655765 : Int32))) &&& (858993459 : Int32)) + ((((a0 - (((a0.toUInt32 >>> ((1 : Int32).toUInt32 &&& Int32.toUInt32 31)).toInt32) &&& (1431655765 : Int32))).toUInt32 >>> ((2 : Int32).toUInt32 &&& Int32.toUInt32 31)).toInt32) &&& (858993459 : Int32))) + (((((a0 - (((a0.toUInt32 >>> ((1 : Int32).toUInt32 &&& Int32.toUInt32 31)).toInt32) &&& (1431655765 : Int32))) &&& (858993459 : Int32)) + ((((a0 - (((a0.toUInt32 >>> ((1 : Int32).toUInt32 &&& Int32.toUInt32 31)).toInt32) &&& (1431655765 : Int32))).toUInt32 >>> ((2 : Int32).toUInt32 &&& Int32.toUInt32 31)).toInt32) &&& (858993459 : Int32))).toUInt32 >>> ((4 : Int32).toUInt32 &&& Int32.toUInt32 31)).toInt32)) &&& (252645135 : Int32)).toUInt32 >>> ((8 : Int32).toUInt32 &&& Int32.toUInt32 31)).toInt32)) + ((((((((a0 - (((a0.toUInt32 >>> ((1 : Int32).toUInt32 &&& Int32.toUInt32 31)).toInt32) &&& (1431655765 : Int32))) &&& (858993459 : Int32)) + ((((a0 - (((a0.toUInt32 >>> ((1 : Int32).toUInt32 &&& Int32.toUInt32 31)).toInt32) &&& (1431655765 : Int32))).toUInt32 >>> ((2 : Int32).toUInt32 &&& Int32.toUInt32 31)).toInt32) &&& (858993459 : Int32))) + (((((a0 - (((a0.toUInt32 >>> ((1 : Int32).toUInt32 &&& Int32.toUInt32 31)).toInt32) &&& (1431655765 : Int32))) &&& (858993459 : Int32)) + ((((a0 - (((a0.toUInt32 >>> ((1 : Int32).toUInt32 &&& Int32.toUInt32 31)).toInt32) &&& (1431655765 : Int32))).toUInt32 >>> ((2 : Int32).toUInt32 &&& Int32.toUInt32 31)).toInt32) &&& (858993459 : Int32))).toUInt32 >>> ((4 : Int32).toUInt32 &&& Int32.toUInt32 31)).toInt32)) &&& (252645135 : Int32)) + (((((((a0 - (((a0.toUInt32 >>> ((1 : Int32).toUInt32 &&& Int32.toUInt32 31)).toInt32) &&& (1431655765 : Int32))) &&& (858993459 : Int32)) + ((((a0 - (((a0.toUInt32 >>> ((1 : Int32).toUInt32 &&& Int32.toUInt32 31)).toInt32) &&& (1431655765 : Int32))).toUInt32 >>> ((2 : Int32).toUInt32 &&& Int32.toUInt32 31)).toInt32) &&& (858993459 : Int32))) + (((((a0 - (((a0.toUInt32 >>> ((1 : Int32).toUInt32 &&& Int32.toUInt32 31)).toInt32) &&& (1431655765 : Int32))) &&& (858993459 : Int32)) + ((((a0 - (((a0.toUInt32 >>> ((1 : Int32).toUInt32 &&& Int32.toUInt32 31)).toInt32) &&& (1431655765 : Int32))).toUInt32 >>> ((2 : Int32).toUInt32 &&& Int32.toUInt32 31)).toInt32) &&& (858993459 : Int32))).toUInt32 >>> ((4 : Int32).toUInt32 &&& Int32.toUInt32 31)).toInt32)) &&& (252645135 : Int32)).toUInt32 >>> ((8 : Int32).toUInt32 &&& Int32.toUInt32 31)).toInt32)).toUInt32 >>> ((16 : Int32).toUInt32 &&& Int32.toUInt32 31)).toInt32)))]) dJ6_bitCount_0f7a4_47 (by decide) rfl ?_
  refine q_iload_n 0 dJ6_bitCount_0f7a4_48 rfl ?_
  refine q_bipush (x := (63 : Int32)) dJ6_bitCount_0f7a4_49 rfl ?_
  refine q_iand dJ6_bitCount_0f7a4_51 ?_
  exact q_iret dJ6_bitCount_0f7a4_52 rfl rfl (Nat.le_of_ble_eq_true rfl) rfl
theorem dX11_holds_0 : decode cX11_holds 0 = .ok (.iload_n 0, 1) := by decide +kernel
theorem dX11_holds_1 : decode cX11_holds 1 = .ok (.iload_n 1, 1) := by decide +kernel
theorem dX11_holds_2 : decode cX11_holds 2 = .ok (.ishr, 1) := by decide +kernel
theorem dX11_holds_3 : decode cX11_holds 3 = .ok (.iconst 1, 1) := by decide +kernel
theorem dX11_holds_4 : decode cX11_holds 4 = .ok (.iand, 1) := by decide +kernel
theorem dX11_holds_5 : decode cX11_holds 5 = .ok (.iconst 1, 1) := by decide +kernel
theorem dX11_holds_6 : decode cX11_holds 6 = .ok (.if_icmp .ne 7, 3) := by decide +kernel
theorem dX11_holds_9 : decode cX11_holds 9 = .ok (.iconst 1, 1) := by decide +kernel
theorem dX11_holds_10 : decode cX11_holds 10 = .ok (.goto 4, 3) := by decide +kernel
theorem dX11_holds_13 : decode cX11_holds 13 = .ok (.iconst 0, 1) := by decide +kernel
theorem dX11_holds_14 : decode cX11_holds 14 = .ok (.ireturn, 1) := by decide +kernel
def f_X11_holds (M : q_Mem) (a0 : Int32) (a1 : Int32) : Option Int32 :=
  (if ((a0 >>> (a1 &&& 31)) &&& (1 : Int32)) = (1 : Int32) then
    some (1 : Int32)
  else
    some (0 : Int32))
set_option maxRecDepth 20000 in
theorem m_X11_holds {M : q_Mem} {a0 : Int32} {a1 : Int32} {x : Int32} (h : f_X11_holds M a0 a1 = some x) : q_C Y_X11_holds [.int a0, .int a1] M (some (.int x)) M := by
  refine q_met (φ := (fun x : Int32 => (some (.int x), M))) (r := f_X11_holds M a0 a1) (by decide +kernel) (Nat.le_of_ble_eq_true rfl) ?_ h (fun _ _ => rfl)
  show q_V Y_X11_holds none (fun x : Int32 => (some (.int x), M)) 0 0 0 [(0, .int a0), (1, .int a1)] [] M (f_X11_holds M a0 a1)
  unfold f_X11_holds
  refine q_iload_n 0 dX11_holds_0 rfl ?_
  refine q_iload_n 1 dX11_holds_1 rfl ?_
  refine q_ishr dX11_holds_2 ?_
  refine q_iconst (x := (1 : Int32)) dX11_holds_3 rfl ?_
  refine q_iand dX11_holds_4 ?_
  refine q_iconst (x := (1 : Int32)) dX11_holds_5 rfl ?_
  refine q_icmp_ne (tgt := 13) dX11_holds_6 (by decide) (fun c1 => ?_) (fun c1 => ?_)
  · refine q_iconst (x := (1 : Int32)) dX11_holds_9 rfl ?_
    refine q_goto (tgt := 14) dX11_holds_10 (by decide) ?_
    exact q_zretL dX11_holds_14 rfl (Or.inr rfl) rfl (Nat.le_of_ble_eq_true rfl) rfl
  · refine q_iconst (x := (0 : Int32)) dX11_holds_13 rfl ?_
    exact q_zretL dX11_holds_14 rfl (Or.inl rfl) rfl (Nat.le_of_ble_eq_true rfl) rfl
theorem dX11_cut_0 : decode cX11_cut 0 = .ok (.lload_n 2, 1) := by decide +kernel
theorem dX11_cut_1 : decode cX11_cut 1 = .ok (.lconst 0, 1) := by decide +kernel
theorem dX11_cut_2 : decode cX11_cut 2 = .ok (.lcmp, 1) := by decide +kernel
theorem dX11_cut_3 : decode cX11_cut 3 = .ok (.ifCond .ne 7, 3) := by decide +kernel
theorem dX11_cut_6 : decode cX11_cut 6 = .ok (.lconst 0, 1) := by decide +kernel
theorem dX11_cut_7 : decode cX11_cut 7 = .ok (.goto 6, 3) := by decide +kernel
theorem dX11_cut_10 : decode cX11_cut 10 = .ok (.lload_n 0, 1) := by decide +kernel
theorem dX11_cut_11 : decode cX11_cut 11 = .ok (.lload_n 2, 1) := by decide +kernel
theorem dX11_cut_12 : decode cX11_cut 12 = .ok (.ldiv, 1) := by decide +kernel
theorem dX11_cut_13 : decode cX11_cut 13 = .ok (.lreturn, 1) := by decide +kernel
def f_X11_cut (M : q_Mem) (a0 : Int64) (a2 : Int64) : Option Int64 :=
  (if a2 = (0 : Int64) then
    some (0 : Int64)
  else
    (q_ldv a0 a2).bind fun v1 =>
    some v1)
set_option maxRecDepth 20000 in
theorem m_X11_cut {M : q_Mem} {a0 : Int64} {a2 : Int64} {x : Int64} (h : f_X11_cut M a0 a2 = some x) : q_C Y_X11_cut [.long a0, .long a2] M (some (.long x)) M := by
  refine q_met (φ := (fun x : Int64 => (some (.long x), M))) (r := f_X11_cut M a0 a2) (by decide +kernel) (Nat.le_of_ble_eq_true rfl) ?_ h (fun _ _ => rfl)
  show q_V Y_X11_cut none (fun x : Int64 => (some (.long x), M)) 0 0 0 [(0, .long a0), (2, .long a2)] [] M (f_X11_cut M a0 a2)
  unfold f_X11_cut
  refine q_lload_n 1 dX11_cut_0 rfl ?_
  refine q_lconst (x := (0 : Int64)) dX11_cut_1 rfl ?_
  refine q_lcmp_ne (tgt := 10) dX11_cut_2 dX11_cut_3 (by decide) (fun c3 => ?_) (fun c3 => ?_)
  · refine q_lconst (x := (0 : Int64)) dX11_cut_6 rfl ?_
    refine q_goto (tgt := 13) dX11_cut_7 (by decide) ?_
    exact q_lret dX11_cut_13 rfl rfl (Nat.le_of_ble_eq_true rfl) rfl
  · refine q_lload_n 0 dX11_cut_10 rfl ?_
    refine q_lload_n 1 dX11_cut_11 rfl ?_
    refine q_ldiv dX11_cut_12 (fun v1 h2 => ?_)
    exact q_lret dX11_cut_13 rfl rfl (Nat.le_of_ble_eq_true rfl) rfl
theorem dX2_lossAsHeap_0 : decode cX2_lossAsHeap 0 = .ok (.lconst 0, 1) := by decide +kernel
theorem dX2_lossAsHeap_1 : decode cX2_lossAsHeap 1 = .ok (.lstore_n 2, 1) := by decide +kernel
theorem dX2_lossAsHeap_2 : decode cX2_lossAsHeap 2 = .ok (.iconst 0, 1) := by decide +kernel
theorem dX2_lossAsHeap_3 : decode cX2_lossAsHeap 3 = .ok (.istore 4, 2) := by decide +kernel
theorem dX2_lossAsHeap_5 : decode cX2_lossAsHeap 5 = .ok (.iconst 0, 1) := by decide +kernel
theorem dX2_lossAsHeap_6 : decode cX2_lossAsHeap 6 = .ok (.istore 5, 2) := by decide +kernel
theorem dX2_lossAsHeap_8 : decode cX2_lossAsHeap 8 = .ok (.iconst 0, 1) := by decide +kernel
theorem dX2_lossAsHeap_9 : decode cX2_lossAsHeap 9 = .ok (.istore 6, 2) := by decide +kernel
theorem dX2_lossAsHeap_11 : decode cX2_lossAsHeap 11 = .ok (.sipush 1000, 3) := by decide +kernel
theorem dX2_lossAsHeap_14 : decode cX2_lossAsHeap 14 = .ok (.istore 7, 2) := by decide +kernel
theorem dX2_lossAsHeap_16 : decode cX2_lossAsHeap 16 = .ok (.iconst 0, 1) := by decide +kernel
theorem dX2_lossAsHeap_17 : decode cX2_lossAsHeap 17 = .ok (.istore 8, 2) := by decide +kernel
theorem dX2_lossAsHeap_19 : decode cX2_lossAsHeap 19 = .ok (.iconst 0, 1) := by decide +kernel
theorem dX2_lossAsHeap_20 : decode cX2_lossAsHeap 20 = .ok (.istore 9, 2) := by decide +kernel
theorem dX2_lossAsHeap_22 : decode cX2_lossAsHeap 22 = .ok (.iload 9, 2) := by decide +kernel
theorem dX2_lossAsHeap_24 : decode cX2_lossAsHeap 24 = .ok (.aload_n 0, 1) := by decide +kernel
theorem dX2_lossAsHeap_25 : decode cX2_lossAsHeap 25 = .ok (.getfield 28, 3) := by decide +kernel
theorem dX2_lossAsHeap_28 : decode cX2_lossAsHeap 28 = .ok (.getfield 32, 3) := by decide +kernel
theorem dX2_lossAsHeap_31 : decode cX2_lossAsHeap 31 = .ok (.if_icmp .ge 92, 3) := by decide +kernel
theorem dX2_lossAsHeap_34 : decode cX2_lossAsHeap 34 = .ok (.iload_n 1, 1) := by decide +kernel
theorem dX2_lossAsHeap_35 : decode cX2_lossAsHeap 35 = .ok (.iload 9, 2) := by decide +kernel
theorem dX2_lossAsHeap_37 : decode cX2_lossAsHeap 37 = .ok (.invokestatic 68, 3) := by decide +kernel
theorem dX2_lossAsHeap_40 : decode cX2_lossAsHeap 40 = .ok (.ifCond .ne 6, 3) := by decide +kernel
theorem dX2_lossAsHeap_43 : decode cX2_lossAsHeap 43 = .ok (.goto 74, 3) := by decide +kernel
theorem dX2_lossAsHeap_46 : decode cX2_lossAsHeap 46 = .ok (.aload_n 0, 1) := by decide +kernel
theorem dX2_lossAsHeap_47 : decode cX2_lossAsHeap 47 = .ok (.getfield 28, 3) := by decide +kernel
theorem dX2_lossAsHeap_50 : decode cX2_lossAsHeap 50 = .ok (.iload 9, 2) := by decide +kernel
theorem dX2_lossAsHeap_52 : decode cX2_lossAsHeap 52 = .ok (.iconst 1, 1) := by decide +kernel
theorem dX2_lossAsHeap_53 : decode cX2_lossAsHeap 53 = .ok (.invokevirtual 72, 3) := by decide +kernel
theorem dX2_lossAsHeap_56 : decode cX2_lossAsHeap 56 = .ok (.istore 10, 2) := by decide +kernel
theorem dX2_lossAsHeap_58 : decode cX2_lossAsHeap 58 = .ok (.lload_n 2, 1) := by decide +kernel
theorem dX2_lossAsHeap_59 : decode cX2_lossAsHeap 59 = .ok (.aload_n 0, 1) := by decide +kernel
theorem dX2_lossAsHeap_60 : decode cX2_lossAsHeap 60 = .ok (.getfield 28, 3) := by decide +kernel
theorem dX2_lossAsHeap_63 : decode cX2_lossAsHeap 63 = .ok (.iload 9, 2) := by decide +kernel
theorem dX2_lossAsHeap_65 : decode cX2_lossAsHeap 65 = .ok (.iconst 0, 1) := by decide +kernel
theorem dX2_lossAsHeap_66 : decode cX2_lossAsHeap 66 = .ok (.invokevirtual 72, 3) := by decide +kernel
theorem dX2_lossAsHeap_69 : decode cX2_lossAsHeap 69 = .ok (.i2l, 1) := by decide +kernel
theorem dX2_lossAsHeap_70 : decode cX2_lossAsHeap 70 = .ok (.ladd, 1) := by decide +kernel
theorem dX2_lossAsHeap_71 : decode cX2_lossAsHeap 71 = .ok (.lstore_n 2, 1) := by decide +kernel
theorem dX2_lossAsHeap_72 : decode cX2_lossAsHeap 72 = .ok (.iload 4, 2) := by decide +kernel
theorem dX2_lossAsHeap_74 : decode cX2_lossAsHeap 74 = .ok (.iload 10, 2) := by decide +kernel
theorem dX2_lossAsHeap_76 : decode cX2_lossAsHeap 76 = .ok (.iadd, 1) := by decide +kernel
theorem dX2_lossAsHeap_77 : decode cX2_lossAsHeap 77 = .ok (.istore 4, 2) := by decide +kernel
theorem dX2_lossAsHeap_79 : decode cX2_lossAsHeap 79 = .ok (.iinc 5 1, 3) := by decide +kernel
theorem dX2_lossAsHeap_82 : decode cX2_lossAsHeap 82 = .ok (.iload 6, 2) := by decide +kernel
theorem dX2_lossAsHeap_84 : decode cX2_lossAsHeap 84 = .ok (.aload_n 0, 1) := by decide +kernel
theorem dX2_lossAsHeap_85 : decode cX2_lossAsHeap 85 = .ok (.getfield 28, 3) := by decide +kernel
theorem dX2_lossAsHeap_88 : decode cX2_lossAsHeap 88 = .ok (.iload 9, 2) := by decide +kernel
theorem dX2_lossAsHeap_90 : decode cX2_lossAsHeap 90 = .ok (.iconst 2, 1) := by decide +kernel
theorem dX2_lossAsHeap_91 : decode cX2_lossAsHeap 91 = .ok (.invokevirtual 72, 3) := by decide +kernel
theorem dX2_lossAsHeap_94 : decode cX2_lossAsHeap 94 = .ok (.invokestatic 75, 3) := by decide +kernel
theorem dX2_lossAsHeap_97 : decode cX2_lossAsHeap 97 = .ok (.istore 6, 2) := by decide +kernel
theorem dX2_lossAsHeap_99 : decode cX2_lossAsHeap 99 = .ok (.iload 7, 2) := by decide +kernel
theorem dX2_lossAsHeap_101 : decode cX2_lossAsHeap 101 = .ok (.iload 10, 2) := by decide +kernel
theorem dX2_lossAsHeap_103 : decode cX2_lossAsHeap 103 = .ok (.invokestatic 38, 3) := by decide +kernel
theorem dX2_lossAsHeap_106 : decode cX2_lossAsHeap 106 = .ok (.istore 7, 2) := by decide +kernel
theorem dX2_lossAsHeap_108 : decode cX2_lossAsHeap 108 = .ok (.iload 8, 2) := by decide +kernel
theorem dX2_lossAsHeap_110 : decode cX2_lossAsHeap 110 = .ok (.iload 10, 2) := by decide +kernel
theorem dX2_lossAsHeap_112 : decode cX2_lossAsHeap 112 = .ok (.invokestatic 75, 3) := by decide +kernel
theorem dX2_lossAsHeap_115 : decode cX2_lossAsHeap 115 = .ok (.istore 8, 2) := by decide +kernel
theorem dX2_lossAsHeap_117 : decode cX2_lossAsHeap 117 = .ok (.iinc 9 1, 3) := by decide +kernel
theorem dX2_lossAsHeap_120 : decode cX2_lossAsHeap 120 = .ok (.goto (-98), 3) := by decide +kernel
theorem dX2_lossAsHeap_123 : decode cX2_lossAsHeap 123 = .ok (.iload 4, 2) := by decide +kernel
theorem dX2_lossAsHeap_125 : decode cX2_lossAsHeap 125 = .ok (.i2l, 1) := by decide +kernel
theorem dX2_lossAsHeap_126 : decode cX2_lossAsHeap 126 = .ok (.iload 5, 2) := by decide +kernel
theorem dX2_lossAsHeap_128 : decode cX2_lossAsHeap 128 = .ok (.i2l, 1) := by decide +kernel
theorem dX2_lossAsHeap_129 : decode cX2_lossAsHeap 129 = .ok (.invokestatic 78, 3) := by decide +kernel
theorem dX2_lossAsHeap_132 : decode cX2_lossAsHeap 132 = .ok (.l2i, 1) := by decide +kernel
theorem dX2_lossAsHeap_133 : decode cX2_lossAsHeap 133 = .ok (.istore 9, 2) := by decide +kernel
theorem dX2_lossAsHeap_135 : decode cX2_lossAsHeap 135 = .ok (.iconst 5, 1) := by decide +kernel
theorem dX2_lossAsHeap_136 : decode cX2_lossAsHeap 136 = .ok (.iconst 2, 1) := by decide +kernel
theorem dX2_lossAsHeap_137 : decode cX2_lossAsHeap 137 = .ok (.iload 9, 2) := by decide +kernel
theorem dX2_lossAsHeap_139 : decode cX2_lossAsHeap 139 = .ok (.bipush 55, 2) := by decide +kernel
theorem dX2_lossAsHeap_141 : decode cX2_lossAsHeap 141 = .ok (.isub, 1) := by decide +kernel
theorem dX2_lossAsHeap_142 : decode cX2_lossAsHeap 142 = .ok (.invokestatic 82, 3) := by decide +kernel
theorem dX2_lossAsHeap_145 : decode cX2_lossAsHeap 145 = .ok (.imul, 1) := by decide +kernel
theorem dX2_lossAsHeap_146 : decode cX2_lossAsHeap 146 = .ok (.iadd, 1) := by decide +kernel
theorem dX2_lossAsHeap_147 : decode cX2_lossAsHeap 147 = .ok (.bipush 10, 2) := by decide +kernel
theorem dX2_lossAsHeap_149 : decode cX2_lossAsHeap 149 = .ok (.iload 6, 2) := by decide +kernel
theorem dX2_lossAsHeap_151 : decode cX2_lossAsHeap 151 = .ok (.imul, 1) := by decide +kernel
theorem dX2_lossAsHeap_152 : decode cX2_lossAsHeap 152 = .ok (.iadd, 1) := by decide +kernel
theorem dX2_lossAsHeap_153 : decode cX2_lossAsHeap 153 = .ok (.iload 8, 2) := by decide +kernel
theorem dX2_lossAsHeap_155 : decode cX2_lossAsHeap 155 = .ok (.iadd, 1) := by decide +kernel
theorem dX2_lossAsHeap_156 : decode cX2_lossAsHeap 156 = .ok (.iload 7, 2) := by decide +kernel
theorem dX2_lossAsHeap_158 : decode cX2_lossAsHeap 158 = .ok (.isub, 1) := by decide +kernel
theorem dX2_lossAsHeap_159 : decode cX2_lossAsHeap 159 = .ok (.istore 10, 2) := by decide +kernel
theorem dX2_lossAsHeap_161 : decode cX2_lossAsHeap 161 = .ok (.sipush 1000, 3) := by decide +kernel
theorem dX2_lossAsHeap_164 : decode cX2_lossAsHeap 164 = .ok (.iload 10, 2) := by decide +kernel
theorem dX2_lossAsHeap_166 : decode cX2_lossAsHeap 166 = .ok (.invokestatic 38, 3) := by decide +kernel
theorem dX2_lossAsHeap_169 : decode cX2_lossAsHeap 169 = .ok (.i2l, 1) := by decide +kernel
theorem dX2_lossAsHeap_170 : decode cX2_lossAsHeap 170 = .ok (.lload_n 2, 1) := by decide +kernel
theorem dX2_lossAsHeap_171 : decode cX2_lossAsHeap 171 = .ok (.lmul, 1) := by decide +kernel
theorem dX2_lossAsHeap_172 : decode cX2_lossAsHeap 172 = .ok (.ldc2_w 85, 3) := by decide +kernel
theorem dX2_lossAsHeap_175 : decode cX2_lossAsHeap 175 = .ok (.ldiv, 1) := by decide +kernel
theorem dX2_lossAsHeap_176 : decode cX2_lossAsHeap 176 = .ok (.lreturn, 1) := by decide +kernel
def f_X2_lossAsHeap_b123 (M : q_Mem) (a2 : Int64) (a4 : Int32) (a5 : Int32) (a6 : Int32) (a7 : Int32) (a8 : Int32) : Option Int64 :=
  (f_X11_cut M a4.toInt64 a5.toInt64).bind fun v22 =>
  (q_ldv ((q_mi (1000 : Int32) (((((5 : Int32) + ((2 : Int32) * (q_ab (v22.toInt32 - (55 : Int32))))) + ((10 : Int32) * a6)) + a8) - a7)).toInt64 * a2) (1000 : Int64)).bind fun v23 =>
  some v23
def f_X2_lossAsHeap_b22 (M : q_Mem) (a0 : Nat) (a1 : Int32) : Nat → Int64 → Int32 → Int32 → Int32 → Int32 → Int32 → Int32 → Option Int64
  | 0, _, _, _, _, _, _, _ => none
  | n + 1, a2, a4, a5, a6, a7, a8, a9 =>
    (q_gR 1 0 M a0).bind fun v1 =>
    (q_gI 8 3 M v1).bind fun v3 =>
    (if a9 < v3 then
      (f_X11_holds M a1 a9).bind fun v6 =>
      (if v6 = 0 then
        f_X2_lossAsHeap_b22 M a0 a1 n a2 a4 a5 a6 a7 a8 (a9 + (1 : Int32))
      else
        (q_gR 1 0 M a0).bind fun v7 =>
        (f_X9_at M v7 a9 (1 : Int32)).bind fun v10 =>
        (q_gR 1 0 M a0).bind fun v11 =>
        (f_X9_at M v11 a9 (0 : Int32)).bind fun v14 =>
        (q_gR 1 0 M a0).bind fun v15 =>
        (f_X9_at M v15 a9 (2 : Int32)).bind fun v18 =>
        f_X2_lossAsHeap_b22 M a0 a1 n (a2 + v14.toInt64) (a4 + v10) (a5 + (1 : Int32)) (q_mx a6 v18) (q_mi a7 v10) (q_mx a8 v10) (a9 + (1 : Int32)))
    else
      f_X2_lossAsHeap_b123 M a2 a4 a5 a6 a7 a8)
def f_X2_lossAsHeap (M : q_Mem) (a0 : Nat) (a1 : Int32) : Option Int64 :=
  q_ob 1 M a0 (f_X2_lossAsHeap_b22 M a0 a1 q_fuel (0 : Int64) (0 : Int32) (0 : Int32) (0 : Int32) (1000 : Int32) (0 : Int32) (0 : Int32))
set_option maxRecDepth 20000 in
theorem v_X2_lossAsHeap_b123 {M : q_Mem} {a2 : Int64} {a4 : Int32} {a5 : Int32} {a6 : Int32} {a7 : Int32} {a8 : Int32}  : q_V Y_X2_lossAsHeap none (fun x : Int64 => (some (.long x), M)) 0 0 123 [(2, .long a2), (4, .int a4), (5, .int a5), (6, .int a6), (7, .int a7), (8, .int a8)] [] M (f_X2_lossAsHeap_b123 M a2 a4 a5 a6 a7 a8 ) := by
  unfold f_X2_lossAsHeap_b123
  refine q_iload 1 dX2_lossAsHeap_123 rfl ?_
  refine q_i2l dX2_lossAsHeap_125 ?_
  refine q_iload 2 dX2_lossAsHeap_126 rfl ?_
  refine q_i2l dX2_lossAsHeap_128 ?_
  refine q_cNJ (Y2 := Y_X11_cut) (As := [.long a4.toInt64, .long a5.toInt64]) (st := []) ms_X11_cut (host := "CountyCream") (by decide +kernel) dX2_lossAsHeap_129 ⟨Nat.le_of_ble_eq_true rfl, Nat.le_of_ble_eq_true rfl⟩ rfl (fun _ _ => rfl) (Nat.le_of_ble_eq_true rfl) ⟨Nat.le_of_ble_eq_true rfl, Nat.le_of_ble_eq_true rfl⟩ (fun v22 h21 => m_X11_cut h21) (fun v22 h21 => ?_)
  refine q_l2i dX2_lossAsHeap_132 ?_
  refine q_istore (ls' := [(9, .int v22.toInt32), (2, .long a2), (4, .int a4), (5, .int a5), (6, .int a6), (7, .int a7), (8, .int a8)]) dX2_lossAsHeap_133 (by decide) rfl ?_
  refine q_iconst (x := (5 : Int32)) dX2_lossAsHeap_135 rfl ?_
  refine q_iconst (x := (2 : Int32)) dX2_lossAsHeap_136 rfl ?_
  refine q_iload 0 dX2_lossAsHeap_137 rfl ?_
  refine q_bipush (x := (55 : Int32)) dX2_lossAsHeap_139 rfl ?_
  refine q_isub dX2_lossAsHeap_141 ?_
  refine q_mabs qw_979 qm_mabs_1 qm_2 qm_mabs_3 dX2_lossAsHeap_142 (Nat.le_of_ble_eq_true rfl) (Nat.le_of_ble_eq_true rfl) (Nat.le_of_ble_eq_true rfl) ⟨Nat.le_of_ble_eq_true rfl, Nat.le_of_ble_eq_true rfl⟩ ?_
  refine q_imul dX2_lossAsHeap_145 ?_
  refine q_iadd dX2_lossAsHeap_146 ?_
  refine q_bipush (x := (10 : Int32)) dX2_lossAsHeap_147 rfl ?_
  refine q_iload 4 dX2_lossAsHeap_149 rfl ?_
  refine q_imul dX2_lossAsHeap_151 ?_
  refine q_iadd dX2_lossAsHeap_152 ?_
  refine q_iload 6 dX2_lossAsHeap_153 rfl ?_
  refine q_iadd dX2_lossAsHeap_155 ?_
  refine q_iload 5 dX2_lossAsHeap_156 rfl ?_
  refine q_isub dX2_lossAsHeap_158 ?_
  refine q_istore (ls' := [(10, .int (((((5 : Int32) + ((2 : Int32) * (q_ab (v22.toInt32 - (55 : Int32))))) + ((10 : Int32) * a6)) + a8) - a7)), (9, .int v22.toInt32), (2, .long a2), (4, .int a4), (5, .int a5), (6, .int a6), (7, .int a7), (8, .int a8)]) dX2_lossAsHeap_159 (by decide) rfl ?_
  refine q_sipush (x := (1000 : Int32)) dX2_lossAsHeap_161 rfl ?_
  refine q_iload 0 dX2_lossAsHeap_164 rfl ?_
  refine q_mmin qw_962 qm_mmin_1 qm_2 qm_mmin_3 dX2_lossAsHeap_166 (Nat.le_of_ble_eq_true rfl) (Nat.le_of_ble_eq_true rfl) (Nat.le_of_ble_eq_true rfl) ⟨Nat.le_of_ble_eq_true rfl, Nat.le_of_ble_eq_true rfl⟩ ?_
  refine q_i2l dX2_lossAsHeap_169 ?_
  refine q_lload_n 2 dX2_lossAsHeap_170 rfl ?_
  refine q_lmul dX2_lossAsHeap_171 ?_
  refine q_ldc2 (x := (1000 : Int64)) qw_980 dX2_lossAsHeap_172 ?_
  refine q_ldiv dX2_lossAsHeap_175 (fun v23 h24 => ?_)
  exact q_lret dX2_lossAsHeap_176 rfl rfl (Nat.le_of_ble_eq_true rfl) rfl
set_option maxRecDepth 20000 in
theorem v_X2_lossAsHeap_b22 {M : q_Mem} {a0 : Nat} {a1 : Int32}  : ∀ (n : Nat) (a2 : Int64) (a4 : Int32) (a5 : Int32) (a6 : Int32) (a7 : Int32) (a8 : Int32) (a9 : Int32), q_V Y_X2_lossAsHeap none (fun x : Int64 => (some (.long x), M)) 0 0 22 [(0, .ref a0), (1, .int a1), (2, .long a2), (4, .int a4), (5, .int a5), (6, .int a6), (7, .int a7), (8, .int a8), (9, .int a9)] [] M (f_X2_lossAsHeap_b22 M a0 a1 n a2 a4 a5 a6 a7 a8 a9) := by
  intro n
  induction n with
  | zero => intro a2 a4 a5 a6 a7 a8 a9; exact q_none
  | succ n ih =>
    intro a2 a4 a5 a6 a7 a8 a9
    rw [f_X2_lossAsHeap_b22.eq_2]
    refine q_iload 8 dX2_lossAsHeap_22 rfl ?_
    refine q_aload_n 0 dX2_lossAsHeap_24 rfl ?_
    refine q_getR (f := 0) cl_X2 (by decide) qw_330 rfl dX2_lossAsHeap_25 (fun _ _ _ => rfl) (fun v1 h2 => ?_)
    refine q_getI (f := 3) cl_X9 (by decide) qw_46 rfl dX2_lossAsHeap_28 (Or.inl rfl) (fun v3 h4 => ?_)
    refine q_icmp_ge (tgt := 123) dX2_lossAsHeap_31 (by decide) (fun c20 => ?_) (fun c20 => ?_)
    · refine q_iload_n 1 dX2_lossAsHeap_34 rfl ?_
      refine q_iload 8 dX2_lossAsHeap_35 rfl ?_
      refine q_cNI (Y2 := Y_X11_holds) (As := [.int a1, .int a9]) (st := []) ms_X11_holds (host := "CountyCream") (by decide +kernel) dX2_lossAsHeap_37 ⟨Nat.le_of_ble_eq_true rfl, Nat.le_of_ble_eq_true rfl⟩ rfl (fun _ _ => rfl) (Nat.le_of_ble_eq_true rfl) ⟨Nat.le_of_ble_eq_true rfl, Nat.le_of_ble_eq_true rfl⟩ (fun v6 h5 => m_X11_holds h5) (fun v6 h5 => ?_)
      refine q_if_ne (tgt := 46) dX2_lossAsHeap_40 (by decide) (fun c19 => ?_) (fun c19 => ?_)
      · refine q_goto (tgt := 117) dX2_lossAsHeap_43 (by decide) ?_
        refine q_iinc 8 (y := (a9 + (1 : Int32))) (ls' := [(9, .int (a9 + (1 : Int32))), (0, .ref a0), (1, .int a1), (2, .long a2), (4, .int a4), (5, .int a5), (6, .int a6), (7, .int a7), (8, .int a8)]) dX2_lossAsHeap_117 rfl rfl (by decide) rfl ?_
        refine q_goto (tgt := 22) dX2_lossAsHeap_120 (by decide) ?_
        refine q_sub (ls' := [(0, .ref a0), (1, .int a1), (2, .long a2), (4, .int a4), (5, .int a5), (6, .int a6), (7, .int a7), (8, .int a8), (9, .int (a9 + (1 : Int32)))]) [1, 2, 3, 4, 5, 6, 7, 8, 0] rfl ?_
        exact ih _ _ _ _ _ _ _
      · refine q_aload_n 0 dX2_lossAsHeap_46 rfl ?_
        refine q_getR (f := 0) cl_X2 (by decide) qw_330 rfl dX2_lossAsHeap_47 (fun _ _ _ => rfl) (fun v7 h8 => ?_)
        refine q_iload 8 dX2_lossAsHeap_50 rfl ?_
        refine q_iconst (x := (1 : Int32)) dX2_lossAsHeap_52 rfl ?_
        refine q_cVI (Y2 := Y_X9_at) (As := [.int a9, .int (1 : Int32)]) (b := v7) (st := []) cl_X9 mv_X9_at qw_976 dX2_lossAsHeap_53 ⟨Nat.le_of_ble_eq_true rfl, Nat.le_of_ble_eq_true rfl⟩ rfl (fun _ _ => rfl) (Nat.le_of_ble_eq_true rfl) ⟨Nat.le_of_ble_eq_true rfl, Nat.le_of_ble_eq_true rfl⟩ (fun v10 h9 => q_ob_is h9) (fun v10 h9 => m_X9_at h9) (fun v10 h9 => ?_)
        refine q_istore (ls' := [(10, .int v10), (0, .ref a0), (1, .int a1), (2, .long a2), (4, .int a4), (5, .int a5), (6, .int a6), (7, .int a7), (8, .int a8), (9, .int a9)]) dX2_lossAsHeap_56 (by decide) rfl ?_
        refine q_lload_n 3 dX2_lossAsHeap_58 rfl ?_
        refine q_aload_n 1 dX2_lossAsHeap_59 rfl ?_
        refine q_getR (f := 0) cl_X2 (by decide) qw_330 rfl dX2_lossAsHeap_60 (fun _ _ _ => rfl) (fun v11 h12 => ?_)
        refine q_iload 9 dX2_lossAsHeap_63 rfl ?_
        refine q_iconst (x := (0 : Int32)) dX2_lossAsHeap_65 rfl ?_
        refine q_cVI (Y2 := Y_X9_at) (As := [.int a9, .int (0 : Int32)]) (b := v11) (st := [.long a2]) cl_X9 mv_X9_at qw_976 dX2_lossAsHeap_66 ⟨Nat.le_of_ble_eq_true rfl, Nat.le_of_ble_eq_true rfl⟩ rfl (fun _ _ => rfl) (Nat.le_of_ble_eq_true rfl) ⟨Nat.le_of_ble_eq_true rfl, Nat.le_of_ble_eq_true rfl⟩ (fun v14 h13 => q_ob_is h13) (fun v14 h13 => m_X9_at h13) (fun v14 h13 => ?_)
        refine q_i2l dX2_lossAsHeap_69 ?_
        refine q_ladd dX2_lossAsHeap_70 ?_
        refine q_lstore_n (ls' := [(2, .long (a2 + v14.toInt64)), (10, .int v10), (0, .ref a0), (1, .int a1), (4, .int a4), (5, .int a5), (6, .int a6), (7, .int a7), (8, .int a8), (9, .int a9)]) dX2_lossAsHeap_71 (by decide) rfl ?_
        refine q_iload 4 dX2_lossAsHeap_72 rfl ?_
        refine q_iload 1 dX2_lossAsHeap_74 rfl ?_
        refine q_iadd dX2_lossAsHeap_76 ?_
        refine q_istore (ls' := [(4, .int (a4 + v10)), (2, .long (a2 + v14.toInt64)), (10, .int v10), (0, .ref a0), (1, .int a1), (5, .int a5), (6, .int a6), (7, .int a7), (8, .int a8), (9, .int a9)]) dX2_lossAsHeap_77 (by decide) rfl ?_
        refine q_iinc 5 (y := (a5 + (1 : Int32))) (ls' := [(5, .int (a5 + (1 : Int32))), (4, .int (a4 + v10)), (2, .long (a2 + v14.toInt64)), (10, .int v10), (0, .ref a0), (1, .int a1), (6, .int a6), (7, .int a7), (8, .int a8), (9, .int a9)]) dX2_lossAsHeap_79 rfl rfl (by decide) rfl ?_
        refine q_iload 6 dX2_lossAsHeap_82 rfl ?_
        refine q_aload_n 4 dX2_lossAsHeap_84 rfl ?_
        refine q_getR (f := 0) cl_X2 (by decide) qw_330 rfl dX2_lossAsHeap_85 (fun _ _ _ => rfl) (fun v15 h16 => ?_)
        refine q_iload 9 dX2_lossAsHeap_88 rfl ?_
        refine q_iconst (x := (2 : Int32)) dX2_lossAsHeap_90 rfl ?_
        refine q_cVI (Y2 := Y_X9_at) (As := [.int a9, .int (2 : Int32)]) (b := v15) (st := [.int a6]) cl_X9 mv_X9_at qw_976 dX2_lossAsHeap_91 ⟨Nat.le_of_ble_eq_true rfl, Nat.le_of_ble_eq_true rfl⟩ rfl (fun _ _ => rfl) (Nat.le_of_ble_eq_true rfl) ⟨Nat.le_of_ble_eq_true rfl, Nat.le_of_ble_eq_true rfl⟩ (fun v18 h17 => q_ob_is h17) (fun v18 h17 => m_X9_at h17) (fun v18 h17 => ?_)
        refine q_mmax qw_977 qm_mmax_1 qm_2 qm_mmax_3 dX2_lossAsHeap_94 (Nat.le_of_ble_eq_true rfl) (Nat.le_of_ble_eq_true rfl) (Nat.le_of_ble_eq_true rfl) ⟨Nat.le_of_ble_eq_true rfl, Nat.le_of_ble_eq_true rfl⟩ ?_
        refine q_istore (ls' := [(6, .int (q_mx a6 v18)), (5, .int (a5 + (1 : Int32))), (4, .int (a4 + v10)), (2, .long (a2 + v14.toInt64)), (10, .int v10), (0, .ref a0), (1, .int a1), (7, .int a7), (8, .int a8), (9, .int a9)]) dX2_lossAsHeap_97 (by decide) rfl ?_
        refine q_iload 7 dX2_lossAsHeap_99 rfl ?_
        refine q_iload 4 dX2_lossAsHeap_101 rfl ?_
        refine q_mmin qw_962 qm_mmin_1 qm_2 qm_mmin_3 dX2_lossAsHeap_103 (Nat.le_of_ble_eq_true rfl) (Nat.le_of_ble_eq_true rfl) (Nat.le_of_ble_eq_true rfl) ⟨Nat.le_of_ble_eq_true rfl, Nat.le_of_ble_eq_true rfl⟩ ?_
        refine q_istore (ls' := [(7, .int (q_mi a7 v10)), (6, .int (q_mx a6 v18)), (5, .int (a5 + (1 : Int32))), (4, .int (a4 + v10)), (2, .long (a2 + v14.toInt64)), (10, .int v10), (0, .ref a0), (1, .int a1), (8, .int a8), (9, .int a9)]) dX2_lossAsHeap_106 (by decide) rfl ?_
        refine q_iload 8 dX2_lossAsHeap_108 rfl ?_
        refine q_iload 5 dX2_lossAsHeap_110 rfl ?_
        refine q_mmax qw_977 qm_mmax_1 qm_2 qm_mmax_3 dX2_lossAsHeap_112 (Nat.le_of_ble_eq_true rfl) (Nat.le_of_ble_eq_true rfl) (Nat.le_of_ble_eq_true rfl) ⟨Nat.le_of_ble_eq_true rfl, Nat.le_of_ble_eq_true rfl⟩ ?_
        refine q_istore (ls' := [(8, .int (q_mx a8 v10)), (7, .int (q_mi a7 v10)), (6, .int (q_mx a6 v18)), (5, .int (a5 + (1 : Int32))), (4, .int (a4 + v10)), (2, .long (a2 + v14.toInt64)), (10, .int v10), (0, .ref a0), (1, .int a1), (9, .int a9)]) dX2_lossAsHeap_115 (by decide) rfl ?_
        refine q_iinc 9 (y := (a9 + (1 : Int32))) (ls' := [(9, .int (a9 + (1 : Int32))), (8, .int (q_mx a8 v10)), (7, .int (q_mi a7 v10)), (6, .int (q_mx a6 v18)), (5, .int (a5 + (1 : Int32))), (4, .int (a4 + v10)), (2, .long (a2 + v14.toInt64)), (10, .int v10), (0, .ref a0), (1, .int a1)]) dX2_lossAsHeap_117 rfl rfl (by decide) rfl ?_
        refine q_goto (tgt := 22) dX2_lossAsHeap_120 (by decide) ?_
        refine q_sub (ls' := [(0, .ref a0), (1, .int a1), (2, .long (a2 + v14.toInt64)), (4, .int (a4 + v10)), (5, .int (a5 + (1 : Int32))), (6, .int (q_mx a6 v18)), (7, .int (q_mi a7 v10)), (8, .int (q_mx a8 v10)), (9, .int (a9 + (1 : Int32)))]) [8, 9, 6, 5, 4, 3, 2, 1, 0] rfl ?_
        exact ih _ _ _ _ _ _ _
    · refine q_sub (ls' := [(2, .long a2), (4, .int a4), (5, .int a5), (6, .int a6), (7, .int a7), (8, .int a8)]) [2, 3, 4, 5, 6, 7] rfl ?_
      exact v_X2_lossAsHeap_b123
set_option maxRecDepth 20000 in
theorem m_X2_lossAsHeap {M : q_Mem} {a0 : Nat} {a1 : Int32} {x : Int64} (h : f_X2_lossAsHeap M a0 a1 = some x) : q_C Y_X2_lossAsHeap [.ref a0, .int a1] M (some (.long x)) M := by
  refine q_met (φ := (fun x : Int64 => (some (.long x), M))) (r := f_X2_lossAsHeap M a0 a1) (by decide +kernel) (Nat.le_of_ble_eq_true rfl) ?_ h (fun _ _ => rfl)
  show q_V Y_X2_lossAsHeap none (fun x : Int64 => (some (.long x), M)) 0 0 0 [(0, .ref a0), (1, .int a1)] [] M (f_X2_lossAsHeap M a0 a1)
  unfold f_X2_lossAsHeap
  refine q_obV ?_
  refine q_lconst (x := (0 : Int64)) dX2_lossAsHeap_0 rfl ?_
  refine q_lstore_n (ls' := [(2, .long (0 : Int64)), (0, .ref a0), (1, .int a1)]) dX2_lossAsHeap_1 (by decide) rfl ?_
  refine q_iconst (x := (0 : Int32)) dX2_lossAsHeap_2 rfl ?_
  refine q_istore (ls' := [(4, .int (0 : Int32)), (2, .long (0 : Int64)), (0, .ref a0), (1, .int a1)]) dX2_lossAsHeap_3 (by decide) rfl ?_
  refine q_iconst (x := (0 : Int32)) dX2_lossAsHeap_5 rfl ?_
  refine q_istore (ls' := [(5, .int (0 : Int32)), (4, .int (0 : Int32)), (2, .long (0 : Int64)), (0, .ref a0), (1, .int a1)]) dX2_lossAsHeap_6 (by decide) rfl ?_
  refine q_iconst (x := (0 : Int32)) dX2_lossAsHeap_8 rfl ?_
  refine q_istore (ls' := [(6, .int (0 : Int32)), (5, .int (0 : Int32)), (4, .int (0 : Int32)), (2, .long (0 : Int64)), (0, .ref a0), (1, .int a1)]) dX2_lossAsHeap_9 (by decide) rfl ?_
  refine q_sipush (x := (1000 : Int32)) dX2_lossAsHeap_11 rfl ?_
  refine q_istore (ls' := [(7, .int (1000 : Int32)), (6, .int (0 : Int32)), (5, .int (0 : Int32)), (4, .int (0 : Int32)), (2, .long (0 : Int64)), (0, .ref a0), (1, .int a1)]) dX2_lossAsHeap_14 (by decide) rfl ?_
  refine q_iconst (x := (0 : Int32)) dX2_lossAsHeap_16 rfl ?_
  refine q_istore (ls' := [(8, .int (0 : Int32)), (7, .int (1000 : Int32)), (6, .int (0 : Int32)), (5, .int (0 : Int32)), (4, .int (0 : Int32)), (2, .long (0 : Int64)), (0, .ref a0), (1, .int a1)]) dX2_lossAsHeap_17 (by decide) rfl ?_
  refine q_iconst (x := (0 : Int32)) dX2_lossAsHeap_19 rfl ?_
  refine q_istore (ls' := [(9, .int (0 : Int32)), (8, .int (0 : Int32)), (7, .int (1000 : Int32)), (6, .int (0 : Int32)), (5, .int (0 : Int32)), (4, .int (0 : Int32)), (2, .long (0 : Int64)), (0, .ref a0), (1, .int a1)]) dX2_lossAsHeap_20 (by decide) rfl ?_
  refine q_sub (ls' := [(0, .ref a0), (1, .int a1), (2, .long (0 : Int64)), (4, .int (0 : Int32)), (5, .int (0 : Int32)), (6, .int (0 : Int32)), (7, .int (1000 : Int32)), (8, .int (0 : Int32)), (9, .int (0 : Int32))]) [7, 8, 6, 5, 4, 3, 2, 1, 0] rfl ?_
  exact v_X2_lossAsHeap_b22 _ _ _ _ _ _ _ _
theorem dX2_isBetter_0 : decode cX2_isBetter 0 = .ok (.iload_n 1, 1) := by decide +kernel
theorem dX2_isBetter_1 : decode cX2_isBetter 1 = .ok (.ifCond .lt 10, 3) := by decide +kernel
theorem dX2_isBetter_4 : decode cX2_isBetter 4 = .ok (.iload_n 1, 1) := by decide +kernel
theorem dX2_isBetter_5 : decode cX2_isBetter 5 = .ok (.sipush 1024, 3) := by decide +kernel
theorem dX2_isBetter_8 : decode cX2_isBetter 8 = .ok (.if_icmp .lt 5, 3) := by decide +kernel
theorem dX2_isBetter_11 : decode cX2_isBetter 11 = .ok (.iconst 0, 1) := by decide +kernel
theorem dX2_isBetter_12 : decode cX2_isBetter 12 = .ok (.ireturn, 1) := by decide +kernel
theorem dX2_isBetter_13 : decode cX2_isBetter 13 = .ok (.lload_n 2, 1) := by decide +kernel
theorem dX2_isBetter_14 : decode cX2_isBetter 14 = .ok (.aload_n 0, 1) := by decide +kernel
theorem dX2_isBetter_15 : decode cX2_isBetter 15 = .ok (.getfield 15, 3) := by decide +kernel
theorem dX2_isBetter_18 : decode cX2_isBetter 18 = .ok (.iload_n 1, 1) := by decide +kernel
theorem dX2_isBetter_19 : decode cX2_isBetter 19 = .ok (.laload, 1) := by decide +kernel
theorem dX2_isBetter_20 : decode cX2_isBetter 20 = .ok (.lcmp, 1) := by decide +kernel
theorem dX2_isBetter_21 : decode cX2_isBetter 21 = .ok (.ifCond .eq 20, 3) := by decide +kernel
theorem dX2_isBetter_24 : decode cX2_isBetter 24 = .ok (.lload_n 2, 1) := by decide +kernel
theorem dX2_isBetter_25 : decode cX2_isBetter 25 = .ok (.aload_n 0, 1) := by decide +kernel
theorem dX2_isBetter_26 : decode cX2_isBetter 26 = .ok (.getfield 15, 3) := by decide +kernel
theorem dX2_isBetter_29 : decode cX2_isBetter 29 = .ok (.iload_n 1, 1) := by decide +kernel
theorem dX2_isBetter_30 : decode cX2_isBetter 30 = .ok (.laload, 1) := by decide +kernel
theorem dX2_isBetter_31 : decode cX2_isBetter 31 = .ok (.lcmp, 1) := by decide +kernel
theorem dX2_isBetter_32 : decode cX2_isBetter 32 = .ok (.ifCond .ge 7, 3) := by decide +kernel
theorem dX2_isBetter_35 : decode cX2_isBetter 35 = .ok (.iconst 1, 1) := by decide +kernel
theorem dX2_isBetter_36 : decode cX2_isBetter 36 = .ok (.goto 4, 3) := by decide +kernel
theorem dX2_isBetter_39 : decode cX2_isBetter 39 = .ok (.iconst 0, 1) := by decide +kernel
theorem dX2_isBetter_40 : decode cX2_isBetter 40 = .ok (.ireturn, 1) := by decide +kernel
theorem dX2_isBetter_41 : decode cX2_isBetter 41 = .ok (.iload 4, 2) := by decide +kernel
theorem dX2_isBetter_43 : decode cX2_isBetter 43 = .ok (.aload_n 0, 1) := by decide +kernel
theorem dX2_isBetter_44 : decode cX2_isBetter 44 = .ok (.getfield 18, 3) := by decide +kernel
theorem dX2_isBetter_47 : decode cX2_isBetter 47 = .ok (.iload_n 1, 1) := by decide +kernel
theorem dX2_isBetter_48 : decode cX2_isBetter 48 = .ok (.iaload, 1) := by decide +kernel
theorem dX2_isBetter_49 : decode cX2_isBetter 49 = .ok (.if_icmp .eq 20, 3) := by decide +kernel
theorem dX2_isBetter_52 : decode cX2_isBetter 52 = .ok (.iload 4, 2) := by decide +kernel
theorem dX2_isBetter_54 : decode cX2_isBetter 54 = .ok (.aload_n 0, 1) := by decide +kernel
theorem dX2_isBetter_55 : decode cX2_isBetter 55 = .ok (.getfield 18, 3) := by decide +kernel
theorem dX2_isBetter_58 : decode cX2_isBetter 58 = .ok (.iload_n 1, 1) := by decide +kernel
theorem dX2_isBetter_59 : decode cX2_isBetter 59 = .ok (.iaload, 1) := by decide +kernel
theorem dX2_isBetter_60 : decode cX2_isBetter 60 = .ok (.if_icmp .ge 7, 3) := by decide +kernel
theorem dX2_isBetter_63 : decode cX2_isBetter 63 = .ok (.iconst 1, 1) := by decide +kernel
theorem dX2_isBetter_64 : decode cX2_isBetter 64 = .ok (.goto 4, 3) := by decide +kernel
theorem dX2_isBetter_67 : decode cX2_isBetter 67 = .ok (.iconst 0, 1) := by decide +kernel
theorem dX2_isBetter_68 : decode cX2_isBetter 68 = .ok (.ireturn, 1) := by decide +kernel
theorem dX2_isBetter_69 : decode cX2_isBetter 69 = .ok (.lload 5, 2) := by decide +kernel
theorem dX2_isBetter_71 : decode cX2_isBetter 71 = .ok (.aload_n 0, 1) := by decide +kernel
theorem dX2_isBetter_72 : decode cX2_isBetter 72 = .ok (.getfield 22, 3) := by decide +kernel
theorem dX2_isBetter_75 : decode cX2_isBetter 75 = .ok (.iload_n 1, 1) := by decide +kernel
theorem dX2_isBetter_76 : decode cX2_isBetter 76 = .ok (.laload, 1) := by decide +kernel
theorem dX2_isBetter_77 : decode cX2_isBetter 77 = .ok (.lcmp, 1) := by decide +kernel
theorem dX2_isBetter_78 : decode cX2_isBetter 78 = .ok (.ifCond .ge 7, 3) := by decide +kernel
theorem dX2_isBetter_81 : decode cX2_isBetter 81 = .ok (.iconst 1, 1) := by decide +kernel
theorem dX2_isBetter_82 : decode cX2_isBetter 82 = .ok (.goto 4, 3) := by decide +kernel
theorem dX2_isBetter_85 : decode cX2_isBetter 85 = .ok (.iconst 0, 1) := by decide +kernel
theorem dX2_isBetter_86 : decode cX2_isBetter 86 = .ok (.ireturn, 1) := by decide +kernel
def f_X2_isBetter (M : q_Mem) (a0 : Nat) (a1 : Int32) (a2 : Int64) (a4 : Int32) (a5 : Int64) : Option Int32 :=
  q_ob 1 M a0 ((if a1 < 0 then
    some (0 : Int32)
  else
    (if a1 < (1024 : Int32) then
      (q_gR 1 2 M a0).bind fun v1 =>
      (q_lJ M v1 a1).bind fun v3 =>
      (if a2 = v3 then
        (q_gR 1 3 M a0).bind fun v5 =>
        (q_lI M v5 a1).bind fun v7 =>
        (if a4 = v7 then
          (q_gR 1 4 M a0).bind fun v9 =>
          (q_lJ M v9 a1).bind fun v11 =>
          (if a5 < v11 then
            some (1 : Int32)
          else
            some (0 : Int32))
        else
          (q_gR 1 3 M a0).bind fun v14 =>
          (q_lI M v14 a1).bind fun v16 =>
          (if a4 < v16 then
            some (1 : Int32)
          else
            some (0 : Int32)))
      else
        (q_gR 1 2 M a0).bind fun v20 =>
        (q_lJ M v20 a1).bind fun v22 =>
        (if a2 < v22 then
          some (1 : Int32)
        else
          some (0 : Int32)))
    else
      some (0 : Int32))))
set_option maxRecDepth 20000 in
theorem m_X2_isBetter {M : q_Mem} {a0 : Nat} {a1 : Int32} {a2 : Int64} {a4 : Int32} {a5 : Int64} {x : Int32} (h : f_X2_isBetter M a0 a1 a2 a4 a5 = some x) : q_C Y_X2_isBetter [.ref a0, .int a1, .long a2, .int a4, .long a5] M (some (.int x)) M := by
  refine q_met (φ := (fun x : Int32 => (some (.int x), M))) (r := f_X2_isBetter M a0 a1 a2 a4 a5) (by decide +kernel) (Nat.le_of_ble_eq_true rfl) ?_ h (fun _ _ => rfl)
  show q_V Y_X2_isBetter none (fun x : Int32 => (some (.int x), M)) 0 0 0 [(0, .ref a0), (1, .int a1), (2, .long a2), (4, .int a4), (5, .long a5)] [] M (f_X2_isBetter M a0 a1 a2 a4 a5)
  unfold f_X2_isBetter
  refine q_obV ?_
  refine q_iload_n 1 dX2_isBetter_0 rfl ?_
  refine q_if_lt (tgt := 11) dX2_isBetter_1 (by decide) (fun c27 => ?_) (fun c27 => ?_)
  · refine q_iconst (x := (0 : Int32)) dX2_isBetter_11 rfl ?_
    exact q_zretL dX2_isBetter_12 rfl (Or.inl rfl) rfl (Nat.le_of_ble_eq_true rfl) rfl
  · refine q_iload_n 1 dX2_isBetter_4 rfl ?_
    refine q_sipush (x := (1024 : Int32)) dX2_isBetter_5 rfl ?_
    refine q_icmp_lt (tgt := 13) dX2_isBetter_8 (by decide) (fun c26 => ?_) (fun c26 => ?_)
    · refine q_lload_n 2 dX2_isBetter_13 rfl ?_
      refine q_aload_n 0 dX2_isBetter_14 rfl ?_
      refine q_getR (f := 2) cl_X2 (by decide) qw_332 rfl dX2_isBetter_15 (fun _ _ _ => rfl) (fun v1 h2 => ?_)
      refine q_iload_n 1 dX2_isBetter_18 rfl ?_
      refine q_lald dX2_isBetter_19 (fun v3 h4 => ?_)
      refine q_lcmp_eq (tgt := 41) dX2_isBetter_20 dX2_isBetter_21 (by decide) (fun c25 => ?_) (fun c25 => ?_)
      · refine q_iload 3 dX2_isBetter_41 rfl ?_
        refine q_aload_n 0 dX2_isBetter_43 rfl ?_
        refine q_getR (f := 3) cl_X2 (by decide) qw_333 rfl dX2_isBetter_44 (fun _ _ _ => rfl) (fun v5 h6 => ?_)
        refine q_iload_n 1 dX2_isBetter_47 rfl ?_
        refine q_iald dX2_isBetter_48 (fun v7 h8 => ?_)
        refine q_icmp_eq (tgt := 69) dX2_isBetter_49 (by decide) (fun c19 => ?_) (fun c19 => ?_)
        · refine q_lload 4 dX2_isBetter_69 rfl ?_
          refine q_aload_n 0 dX2_isBetter_71 rfl ?_
          refine q_getR (f := 4) cl_X2 (by decide) qw_334 rfl dX2_isBetter_72 (fun _ _ _ => rfl) (fun v9 h10 => ?_)
          refine q_iload_n 1 dX2_isBetter_75 rfl ?_
          refine q_lald dX2_isBetter_76 (fun v11 h12 => ?_)
          refine q_lcmp_ge (tgt := 85) dX2_isBetter_77 dX2_isBetter_78 (by decide) (fun c13 => ?_) (fun c13 => ?_)
          · refine q_iconst (x := (1 : Int32)) dX2_isBetter_81 rfl ?_
            refine q_goto (tgt := 86) dX2_isBetter_82 (by decide) ?_
            exact q_zretL dX2_isBetter_86 rfl (Or.inr rfl) rfl (Nat.le_of_ble_eq_true rfl) rfl
          · refine q_iconst (x := (0 : Int32)) dX2_isBetter_85 rfl ?_
            exact q_zretL dX2_isBetter_86 rfl (Or.inl rfl) rfl (Nat.le_of_ble_eq_true rfl) rfl
        · refine q_iload 3 dX2_isBetter_52 rfl ?_
          refine q_aload_n 0 dX2_isBetter_54 rfl ?_
          refine q_getR (f := 3) cl_X2 (by decide) qw_333 rfl dX2_isBetter_55 (fun _ _ _ => rfl) (fun v14 h15 => ?_)
          refine q_iload_n 1 dX2_isBetter_58 rfl ?_
          refine q_iald dX2_isBetter_59 (fun v16 h17 => ?_)
          refine q_icmp_ge (tgt := 67) dX2_isBetter_60 (by decide) (fun c18 => ?_) (fun c18 => ?_)
          · refine q_iconst (x := (1 : Int32)) dX2_isBetter_63 rfl ?_
            refine q_goto (tgt := 68) dX2_isBetter_64 (by decide) ?_
            exact q_zretL dX2_isBetter_68 rfl (Or.inr rfl) rfl (Nat.le_of_ble_eq_true rfl) rfl
          · refine q_iconst (x := (0 : Int32)) dX2_isBetter_67 rfl ?_
            exact q_zretL dX2_isBetter_68 rfl (Or.inl rfl) rfl (Nat.le_of_ble_eq_true rfl) rfl
      · refine q_lload_n 2 dX2_isBetter_24 rfl ?_
        refine q_aload_n 0 dX2_isBetter_25 rfl ?_
        refine q_getR (f := 2) cl_X2 (by decide) qw_332 rfl dX2_isBetter_26 (fun _ _ _ => rfl) (fun v20 h21 => ?_)
        refine q_iload_n 1 dX2_isBetter_29 rfl ?_
        refine q_lald dX2_isBetter_30 (fun v22 h23 => ?_)
        refine q_lcmp_ge (tgt := 39) dX2_isBetter_31 dX2_isBetter_32 (by decide) (fun c24 => ?_) (fun c24 => ?_)
        · refine q_iconst (x := (1 : Int32)) dX2_isBetter_35 rfl ?_
          refine q_goto (tgt := 40) dX2_isBetter_36 (by decide) ?_
          exact q_zretL dX2_isBetter_40 rfl (Or.inr rfl) rfl (Nat.le_of_ble_eq_true rfl) rfl
        · refine q_iconst (x := (0 : Int32)) dX2_isBetter_39 rfl ?_
          exact q_zretL dX2_isBetter_40 rfl (Or.inl rfl) rfl (Nat.le_of_ble_eq_true rfl) rfl
    · refine q_iconst (x := (0 : Int32)) dX2_isBetter_11 rfl ?_
      exact q_zretL dX2_isBetter_12 rfl (Or.inl rfl) rfl (Nat.le_of_ble_eq_true rfl) rfl
theorem dX2_tryHeap_0 : decode cX2_tryHeap 0 = .ok (.iload_n 1, 1) := by decide +kernel
theorem dX2_tryHeap_1 : decode cX2_tryHeap 1 = .ok (.iload_n 2, 1) := by decide +kernel
theorem dX2_tryHeap_2 : decode cX2_tryHeap 2 = .ok (.ixor, 1) := by decide +kernel
theorem dX2_tryHeap_3 : decode cX2_tryHeap 3 = .ok (.istore_n 3, 1) := by decide +kernel
theorem dX2_tryHeap_4 : decode cX2_tryHeap 4 = .ok (.iload_n 1, 1) := by decide +kernel
theorem dX2_tryHeap_5 : decode cX2_tryHeap 5 = .ok (.iconst 1, 1) := by decide +kernel
theorem dX2_tryHeap_6 : decode cX2_tryHeap 6 = .ok (.if_icmp .lt 33, 3) := by decide +kernel
theorem dX2_tryHeap_9 : decode cX2_tryHeap 9 = .ok (.iload_n 1, 1) := by decide +kernel
theorem dX2_tryHeap_10 : decode cX2_tryHeap 10 = .ok (.sipush 1024, 3) := by decide +kernel
theorem dX2_tryHeap_13 : decode cX2_tryHeap 13 = .ok (.if_icmp .ge 26, 3) := by decide +kernel
theorem dX2_tryHeap_16 : decode cX2_tryHeap 16 = .ok (.iload_n 2, 1) := by decide +kernel
theorem dX2_tryHeap_17 : decode cX2_tryHeap 17 = .ok (.iconst 1, 1) := by decide +kernel
theorem dX2_tryHeap_18 : decode cX2_tryHeap 18 = .ok (.if_icmp .lt 21, 3) := by decide +kernel
theorem dX2_tryHeap_21 : decode cX2_tryHeap 21 = .ok (.iload_n 2, 1) := by decide +kernel
theorem dX2_tryHeap_22 : decode cX2_tryHeap 22 = .ok (.sipush 1024, 3) := by decide +kernel
theorem dX2_tryHeap_25 : decode cX2_tryHeap 25 = .ok (.if_icmp .ge 14, 3) := by decide +kernel
theorem dX2_tryHeap_28 : decode cX2_tryHeap 28 = .ok (.iload_n 3, 1) := by decide +kernel
theorem dX2_tryHeap_29 : decode cX2_tryHeap 29 = .ok (.ifCond .lt 10, 3) := by decide +kernel
theorem dX2_tryHeap_32 : decode cX2_tryHeap 32 = .ok (.iload_n 3, 1) := by decide +kernel
theorem dX2_tryHeap_33 : decode cX2_tryHeap 33 = .ok (.sipush 1024, 3) := by decide +kernel
theorem dX2_tryHeap_36 : decode cX2_tryHeap 36 = .ok (.if_icmp .lt 4, 3) := by decide +kernel
theorem dX2_tryHeap_39 : decode cX2_tryHeap 39 = .ok (.return_, 1) := by decide +kernel
theorem dX2_tryHeap_40 : decode cX2_tryHeap 40 = .ok (.aload_n 0, 1) := by decide +kernel
theorem dX2_tryHeap_41 : decode cX2_tryHeap 41 = .ok (.getfield 11, 3) := by decide +kernel
theorem dX2_tryHeap_44 : decode cX2_tryHeap 44 = .ok (.iload_n 2, 1) := by decide +kernel
theorem dX2_tryHeap_45 : decode cX2_tryHeap 45 = .ok (.laload, 1) := by decide +kernel
theorem dX2_tryHeap_46 : decode cX2_tryHeap 46 = .ok (.aload_n 0, 1) := by decide +kernel
theorem dX2_tryHeap_47 : decode cX2_tryHeap 47 = .ok (.getfield 15, 3) := by decide +kernel
theorem dX2_tryHeap_50 : decode cX2_tryHeap 50 = .ok (.iload_n 3, 1) := by decide +kernel
theorem dX2_tryHeap_51 : decode cX2_tryHeap 51 = .ok (.laload, 1) := by decide +kernel
theorem dX2_tryHeap_52 : decode cX2_tryHeap 52 = .ok (.ladd, 1) := by decide +kernel
theorem dX2_tryHeap_53 : decode cX2_tryHeap 53 = .ok (.lstore 4, 2) := by decide +kernel
theorem dX2_tryHeap_55 : decode cX2_tryHeap 55 = .ok (.iconst 1, 1) := by decide +kernel
theorem dX2_tryHeap_56 : decode cX2_tryHeap 56 = .ok (.aload_n 0, 1) := by decide +kernel
theorem dX2_tryHeap_57 : decode cX2_tryHeap 57 = .ok (.getfield 18, 3) := by decide +kernel
theorem dX2_tryHeap_60 : decode cX2_tryHeap 60 = .ok (.iload_n 3, 1) := by decide +kernel
theorem dX2_tryHeap_61 : decode cX2_tryHeap 61 = .ok (.iaload, 1) := by decide +kernel
theorem dX2_tryHeap_62 : decode cX2_tryHeap 62 = .ok (.iadd, 1) := by decide +kernel
theorem dX2_tryHeap_63 : decode cX2_tryHeap 63 = .ok (.istore 6, 2) := by decide +kernel
theorem dX2_tryHeap_65 : decode cX2_tryHeap 65 = .ok (.iload_n 2, 1) := by decide +kernel
theorem dX2_tryHeap_66 : decode cX2_tryHeap 66 = .ok (.invokestatic 48, 3) := by decide +kernel
theorem dX2_tryHeap_69 : decode cX2_tryHeap 69 = .ok (.i2l, 1) := by decide +kernel
theorem dX2_tryHeap_70 : decode cX2_tryHeap 70 = .ok (.aload_n 0, 1) := by decide +kernel
theorem dX2_tryHeap_71 : decode cX2_tryHeap 71 = .ok (.getfield 25, 3) := by decide +kernel
theorem dX2_tryHeap_74 : decode cX2_tryHeap 74 = .ok (.iload_n 2, 1) := by decide +kernel
theorem dX2_tryHeap_75 : decode cX2_tryHeap 75 = .ok (.laload, 1) := by decide +kernel
theorem dX2_tryHeap_76 : decode cX2_tryHeap 76 = .ok (.lmul, 1) := by decide +kernel
theorem dX2_tryHeap_77 : decode cX2_tryHeap 77 = .ok (.aload_n 0, 1) := by decide +kernel
theorem dX2_tryHeap_78 : decode cX2_tryHeap 78 = .ok (.getfield 22, 3) := by decide +kernel
theorem dX2_tryHeap_81 : decode cX2_tryHeap 81 = .ok (.iload_n 3, 1) := by decide +kernel
theorem dX2_tryHeap_82 : decode cX2_tryHeap 82 = .ok (.laload, 1) := by decide +kernel
theorem dX2_tryHeap_83 : decode cX2_tryHeap 83 = .ok (.ladd, 1) := by decide +kernel
theorem dX2_tryHeap_84 : decode cX2_tryHeap 84 = .ok (.lstore 7, 2) := by decide +kernel
theorem dX2_tryHeap_86 : decode cX2_tryHeap 86 = .ok (.aload_n 0, 1) := by decide +kernel
theorem dX2_tryHeap_87 : decode cX2_tryHeap 87 = .ok (.getfield 18, 3) := by decide +kernel
theorem dX2_tryHeap_90 : decode cX2_tryHeap 90 = .ok (.iload_n 1, 1) := by decide +kernel
theorem dX2_tryHeap_91 : decode cX2_tryHeap 91 = .ok (.iaload, 1) := by decide +kernel
theorem dX2_tryHeap_92 : decode cX2_tryHeap 92 = .ok (.ifCond .eq 18, 3) := by decide +kernel
theorem dX2_tryHeap_95 : decode cX2_tryHeap 95 = .ok (.aload_n 0, 1) := by decide +kernel
theorem dX2_tryHeap_96 : decode cX2_tryHeap 96 = .ok (.iload_n 1, 1) := by decide +kernel
theorem dX2_tryHeap_97 : decode cX2_tryHeap 97 = .ok (.lload 4, 2) := by decide +kernel
theorem dX2_tryHeap_99 : decode cX2_tryHeap 99 = .ok (.iload 6, 2) := by decide +kernel
theorem dX2_tryHeap_101 : decode cX2_tryHeap 101 = .ok (.lload 7, 2) := by decide +kernel
theorem dX2_tryHeap_103 : decode cX2_tryHeap 103 = .ok (.invokevirtual 90, 3) := by decide +kernel
theorem dX2_tryHeap_106 : decode cX2_tryHeap 106 = .ok (.ifCond .ne 4, 3) := by decide +kernel
theorem dX2_tryHeap_109 : decode cX2_tryHeap 109 = .ok (.return_, 1) := by decide +kernel
theorem dX2_tryHeap_110 : decode cX2_tryHeap 110 = .ok (.aload_n 0, 1) := by decide +kernel
theorem dX2_tryHeap_111 : decode cX2_tryHeap 111 = .ok (.getfield 15, 3) := by decide +kernel
theorem dX2_tryHeap_114 : decode cX2_tryHeap 114 = .ok (.iload_n 1, 1) := by decide +kernel
theorem dX2_tryHeap_115 : decode cX2_tryHeap 115 = .ok (.lload 4, 2) := by decide +kernel
theorem dX2_tryHeap_117 : decode cX2_tryHeap 117 = .ok (.lastore, 1) := by decide +kernel
theorem dX2_tryHeap_118 : decode cX2_tryHeap 118 = .ok (.aload_n 0, 1) := by decide +kernel
theorem dX2_tryHeap_119 : decode cX2_tryHeap 119 = .ok (.getfield 18, 3) := by decide +kernel
theorem dX2_tryHeap_122 : decode cX2_tryHeap 122 = .ok (.iload_n 1, 1) := by decide +kernel
theorem dX2_tryHeap_123 : decode cX2_tryHeap 123 = .ok (.iload 6, 2) := by decide +kernel
theorem dX2_tryHeap_125 : decode cX2_tryHeap 125 = .ok (.iastore, 1) := by decide +kernel
theorem dX2_tryHeap_126 : decode cX2_tryHeap 126 = .ok (.aload_n 0, 1) := by decide +kernel
theorem dX2_tryHeap_127 : decode cX2_tryHeap 127 = .ok (.getfield 22, 3) := by decide +kernel
theorem dX2_tryHeap_130 : decode cX2_tryHeap 130 = .ok (.iload_n 1, 1) := by decide +kernel
theorem dX2_tryHeap_131 : decode cX2_tryHeap 131 = .ok (.lload 7, 2) := by decide +kernel
theorem dX2_tryHeap_133 : decode cX2_tryHeap 133 = .ok (.lastore, 1) := by decide +kernel
theorem dX2_tryHeap_134 : decode cX2_tryHeap 134 = .ok (.return_, 1) := by decide +kernel
def f_X2_tryHeap_b110 (M : q_Mem) (a0 : Nat) (a1 : Int32) (a4 : Int64) (a6 : Int32) (a7 : Int64) : Option q_Mem :=
  (q_gR 1 2 M a0).bind fun v37 =>
  (q_tJ M v37 a1 a4).bind fun M39 =>
  (q_gR 1 3 M39 a0).bind fun v41 =>
  (q_tI M39 v41 a1 a6).bind fun M43 =>
  (q_gR 1 4 M43 a0).bind fun v45 =>
  (q_tJ M43 v45 a1 a7).bind fun M47 =>
  some M47
def f_X2_tryHeap (M : q_Mem) (a0 : Nat) (a1 : Int32) (a2 : Int32) : Option q_Mem :=
  q_ob 1 M a0 ((if a1 < (1 : Int32) then
    some M
  else
    (if a1 < (1024 : Int32) then
      (if a2 < (1 : Int32) then
        some M
      else
        (if a2 < (1024 : Int32) then
          (if (a1 ^^^ a2) < 0 then
            some M
          else
            (if (a1 ^^^ a2) < (1024 : Int32) then
              (q_gR 1 1 M a0).bind fun v1 =>
              (q_lJ M v1 a2).bind fun v3 =>
              (q_gR 1 2 M a0).bind fun v5 =>
              (q_lJ M v5 (a1 ^^^ a2)).bind fun v7 =>
              (q_gR 1 3 M a0).bind fun v9 =>
              (q_lI M v9 (a1 ^^^ a2)).bind fun v11 =>
              (f_J6_numberOfTrailingZeros_0f7a4 M a2).bind fun v14 =>
              (q_gR 1 5 M a0).bind fun v15 =>
              (q_lJ M v15 a2).bind fun v17 =>
              (q_gR 1 4 M a0).bind fun v19 =>
              (q_lJ M v19 (a1 ^^^ a2)).bind fun v21 =>
              (q_gR 1 3 M a0).bind fun v23 =>
              (q_lI M v23 a1).bind fun v25 =>
              (if v25 = 0 then
                f_X2_tryHeap_b110 M a0 a1 (v3 + v7) ((1 : Int32) + v11) ((v14.toInt64 * v17) + v21)
              else
                (f_X2_isBetter M a0 a1 (v3 + v7) ((1 : Int32) + v11) ((v14.toInt64 * v17) + v21)).bind fun v28 =>
                (if v28 = 0 then
                  some M
                else
                  f_X2_tryHeap_b110 M a0 a1 (v3 + v7) ((1 : Int32) + v11) ((v14.toInt64 * v17) + v21)))
            else
              some M))
        else
          some M))
    else
      some M)))
set_option maxRecDepth 20000 in
theorem v_X2_tryHeap_b110 {M : q_Mem} {a0 : Nat} {a1 : Int32} {a4 : Int64} {a6 : Int32} {a7 : Int64}  : q_V Y_X2_tryHeap none (fun x : q_Mem => (none, x)) 0 0 110 [(0, .ref a0), (1, .int a1), (4, .long a4), (6, .int a6), (7, .long a7)] [] M (f_X2_tryHeap_b110 M a0 a1 a4 a6 a7 ) := by
  unfold f_X2_tryHeap_b110
  refine q_aload_n 0 dX2_tryHeap_110 rfl ?_
  refine q_getR (f := 2) cl_X2 (by decide) qw_332 rfl dX2_tryHeap_111 (fun _ _ _ => rfl) (fun v37 h38 => ?_)
  refine q_iload_n 1 dX2_tryHeap_114 rfl ?_
  refine q_lload 2 dX2_tryHeap_115 rfl ?_
  refine q_last dX2_tryHeap_117 (fun M39 h40 => ?_)
  refine q_aload_n 0 dX2_tryHeap_118 rfl ?_
  refine q_getR (f := 3) cl_X2 (by decide) qw_333 rfl dX2_tryHeap_119 (fun _ _ _ => rfl) (fun v41 h42 => ?_)
  refine q_iload_n 1 dX2_tryHeap_122 rfl ?_
  refine q_iload 3 dX2_tryHeap_123 rfl ?_
  refine q_iast dX2_tryHeap_125 (fun M43 h44 => ?_)
  refine q_aload_n 0 dX2_tryHeap_126 rfl ?_
  refine q_getR (f := 4) cl_X2 (by decide) qw_334 rfl dX2_tryHeap_127 (fun _ _ _ => rfl) (fun v45 h46 => ?_)
  refine q_iload_n 1 dX2_tryHeap_130 rfl ?_
  refine q_lload 4 dX2_tryHeap_131 rfl ?_
  refine q_last dX2_tryHeap_133 (fun M47 h48 => ?_)
  exact q_vret dX2_tryHeap_134 rfl rfl (Nat.le_of_ble_eq_true rfl) rfl
set_option maxRecDepth 20000 in
theorem m_X2_tryHeap {M : q_Mem} {a0 : Nat} {a1 : Int32} {a2 : Int32} {x : q_Mem} (h : f_X2_tryHeap M a0 a1 a2 = some x) : q_C Y_X2_tryHeap [.ref a0, .int a1, .int a2] M none x := by
  refine q_met (φ := (fun x : q_Mem => (none, x))) (r := f_X2_tryHeap M a0 a1 a2) (by decide +kernel) (Nat.le_of_ble_eq_true rfl) ?_ h (fun _ _ => rfl)
  show q_V Y_X2_tryHeap none (fun x : q_Mem => (none, x)) 0 0 0 [(0, .ref a0), (1, .int a1), (2, .int a2)] [] M (f_X2_tryHeap M a0 a1 a2)
  unfold f_X2_tryHeap
  refine q_obV ?_
  refine q_iload_n 1 dX2_tryHeap_0 rfl ?_
  refine q_iload_n 2 dX2_tryHeap_1 rfl ?_
  refine q_ixor dX2_tryHeap_2 ?_
  refine q_istore_n (ls' := [(3, .int (a1 ^^^ a2)), (0, .ref a0), (1, .int a1), (2, .int a2)]) dX2_tryHeap_3 (by decide) rfl ?_
  refine q_iload_n 2 dX2_tryHeap_4 rfl ?_
  refine q_iconst (x := (1 : Int32)) dX2_tryHeap_5 rfl ?_
  refine q_icmp_lt (tgt := 39) dX2_tryHeap_6 (by decide) (fun c36 => ?_) (fun c36 => ?_)
  · exact q_vret dX2_tryHeap_39 rfl rfl (Nat.le_of_ble_eq_true rfl) rfl
  · refine q_iload_n 2 dX2_tryHeap_9 rfl ?_
    refine q_sipush (x := (1024 : Int32)) dX2_tryHeap_10 rfl ?_
    refine q_icmp_ge (tgt := 39) dX2_tryHeap_13 (by decide) (fun c35 => ?_) (fun c35 => ?_)
    · refine q_iload_n 3 dX2_tryHeap_16 rfl ?_
      refine q_iconst (x := (1 : Int32)) dX2_tryHeap_17 rfl ?_
      refine q_icmp_lt (tgt := 39) dX2_tryHeap_18 (by decide) (fun c34 => ?_) (fun c34 => ?_)
      · exact q_vret dX2_tryHeap_39 rfl rfl (Nat.le_of_ble_eq_true rfl) rfl
      · refine q_iload_n 3 dX2_tryHeap_21 rfl ?_
        refine q_sipush (x := (1024 : Int32)) dX2_tryHeap_22 rfl ?_
        refine q_icmp_ge (tgt := 39) dX2_tryHeap_25 (by decide) (fun c33 => ?_) (fun c33 => ?_)
        · refine q_iload_n 0 dX2_tryHeap_28 rfl ?_
          refine q_if_lt (tgt := 39) dX2_tryHeap_29 (by decide) (fun c32 => ?_) (fun c32 => ?_)
          · exact q_vret dX2_tryHeap_39 rfl rfl (Nat.le_of_ble_eq_true rfl) rfl
          · refine q_iload_n 0 dX2_tryHeap_32 rfl ?_
            refine q_sipush (x := (1024 : Int32)) dX2_tryHeap_33 rfl ?_
            refine q_icmp_lt (tgt := 40) dX2_tryHeap_36 (by decide) (fun c31 => ?_) (fun c31 => ?_)
            · refine q_aload_n 1 dX2_tryHeap_40 rfl ?_
              refine q_getR (f := 1) cl_X2 (by decide) qw_331 rfl dX2_tryHeap_41 (fun _ _ _ => rfl) (fun v1 h2 => ?_)
              refine q_iload_n 3 dX2_tryHeap_44 rfl ?_
              refine q_lald dX2_tryHeap_45 (fun v3 h4 => ?_)
              refine q_aload_n 1 dX2_tryHeap_46 rfl ?_
              refine q_getR (f := 2) cl_X2 (by decide) qw_332 rfl dX2_tryHeap_47 (fun _ _ _ => rfl) (fun v5 h6 => ?_)
              refine q_iload_n 0 dX2_tryHeap_50 rfl ?_
              refine q_lald dX2_tryHeap_51 (fun v7 h8 => ?_)
              refine q_ladd dX2_tryHeap_52 ?_
              refine q_lstore (ls' := [(4, .long (v3 + v7)), (3, .int (a1 ^^^ a2)), (0, .ref a0), (1, .int a1), (2, .int a2)]) dX2_tryHeap_53 (by decide) rfl ?_
              refine q_iconst (x := (1 : Int32)) dX2_tryHeap_55 rfl ?_
              refine q_aload_n 2 dX2_tryHeap_56 rfl ?_
              refine q_getR (f := 3) cl_X2 (by decide) qw_333 rfl dX2_tryHeap_57 (fun _ _ _ => rfl) (fun v9 h10 => ?_)
              refine q_iload_n 1 dX2_tryHeap_60 rfl ?_
              refine q_iald dX2_tryHeap_61 (fun v11 h12 => ?_)
              refine q_iadd dX2_tryHeap_62 ?_
              refine q_istore (ls' := [(6, .int ((1 : Int32) + v11)), (4, .long (v3 + v7)), (3, .int (a1 ^^^ a2)), (0, .ref a0), (1, .int a1), (2, .int a2)]) dX2_tryHeap_63 (by decide) rfl ?_
              refine q_iload_n 5 dX2_tryHeap_65 rfl ?_
              refine q_cSI (Y2 := Y_J6_numberOfTrailingZeros_0f7a4) (As := [.int a2]) (st := []) ms_J6_numberOfTrailingZeros_0f7a4 qw_963 dX2_tryHeap_66 ⟨Nat.le_of_ble_eq_true rfl, Nat.le_of_ble_eq_true rfl⟩ rfl (fun _ _ => rfl) (Nat.le_of_ble_eq_true rfl) ⟨Nat.le_of_ble_eq_true rfl, Nat.le_of_ble_eq_true rfl⟩ (fun v14 h13 => m_J6_numberOfTrailingZeros_0f7a4 h13) (fun v14 h13 => ?_)
              refine q_i2l dX2_tryHeap_69 ?_
              refine q_aload_n 3 dX2_tryHeap_70 rfl ?_
              refine q_getR (f := 5) cl_X2 (by decide) qw_335 rfl dX2_tryHeap_71 (fun _ _ _ => rfl) (fun v15 h16 => ?_)
              refine q_iload_n 5 dX2_tryHeap_74 rfl ?_
              refine q_lald dX2_tryHeap_75 (fun v17 h18 => ?_)
              refine q_lmul dX2_tryHeap_76 ?_
              refine q_aload_n 3 dX2_tryHeap_77 rfl ?_
              refine q_getR (f := 4) cl_X2 (by decide) qw_334 rfl dX2_tryHeap_78 (fun _ _ _ => rfl) (fun v19 h20 => ?_)
              refine q_iload_n 2 dX2_tryHeap_81 rfl ?_
              refine q_lald dX2_tryHeap_82 (fun v21 h22 => ?_)
              refine q_ladd dX2_tryHeap_83 ?_
              refine q_lstore (ls' := [(7, .long ((v14.toInt64 * v17) + v21)), (6, .int ((1 : Int32) + v11)), (4, .long (v3 + v7)), (3, .int (a1 ^^^ a2)), (0, .ref a0), (1, .int a1), (2, .int a2)]) dX2_tryHeap_84 (by decide) rfl ?_
              refine q_aload_n 4 dX2_tryHeap_86 rfl ?_
              refine q_getR (f := 3) cl_X2 (by decide) qw_333 rfl dX2_tryHeap_87 (fun _ _ _ => rfl) (fun v23 h24 => ?_)
              refine q_iload_n 5 dX2_tryHeap_90 rfl ?_
              refine q_iald dX2_tryHeap_91 (fun v25 h26 => ?_)
              refine q_if_eq (tgt := 110) dX2_tryHeap_92 (by decide) (fun c30 => ?_) (fun c30 => ?_)
              · refine q_sub (ls' := [(0, .ref a0), (1, .int a1), (4, .long (v3 + v7)), (6, .int ((1 : Int32) + v11)), (7, .long ((v14.toInt64 * v17) + v21))]) [4, 5, 2, 1, 0] rfl ?_
                exact v_X2_tryHeap_b110
              · refine q_aload_n 4 dX2_tryHeap_95 rfl ?_
                refine q_iload_n 5 dX2_tryHeap_96 rfl ?_
                refine q_lload 2 dX2_tryHeap_97 rfl ?_
                refine q_iload 1 dX2_tryHeap_99 rfl ?_
                refine q_lload 0 dX2_tryHeap_101 rfl ?_
                refine q_cVI (Y2 := Y_X2_isBetter) (As := [.int a1, .long (v3 + v7), .int ((1 : Int32) + v11), .long ((v14.toInt64 * v17) + v21)]) (b := a0) (st := []) cl_X2 mv_X2_isBetter qw_989 dX2_tryHeap_103 ⟨Nat.le_of_ble_eq_true rfl, Nat.le_of_ble_eq_true rfl⟩ rfl (fun _ _ => rfl) (Nat.le_of_ble_eq_true rfl) ⟨Nat.le_of_ble_eq_true rfl, Nat.le_of_ble_eq_true rfl⟩ (fun v28 h27 => q_ob_is h27) (fun v28 h27 => m_X2_isBetter h27) (fun v28 h27 => ?_)
                refine q_if_ne (tgt := 110) dX2_tryHeap_106 (by decide) (fun c29 => ?_) (fun c29 => ?_)
                · exact q_vret dX2_tryHeap_109 rfl rfl (Nat.le_of_ble_eq_true rfl) rfl
                · refine q_sub (ls' := [(0, .ref a0), (1, .int a1), (4, .long (v3 + v7)), (6, .int ((1 : Int32) + v11)), (7, .long ((v14.toInt64 * v17) + v21))]) [4, 5, 2, 1, 0] rfl ?_
                  exact v_X2_tryHeap_b110
            · exact q_vret dX2_tryHeap_39 rfl rfl (Nat.le_of_ble_eq_true rfl) rfl
        · exact q_vret dX2_tryHeap_39 rfl rfl (Nat.le_of_ble_eq_true rfl) rfl
    · exact q_vret dX2_tryHeap_39 rfl rfl (Nat.le_of_ble_eq_true rfl) rfl
theorem dX2_planSet_0 : decode cX2_planSet 0 = .ok (.iload_n 1, 1) := by decide +kernel
theorem dX2_planSet_1 : decode cX2_planSet 1 = .ok (.iconst 1, 1) := by decide +kernel
theorem dX2_planSet_2 : decode cX2_planSet 2 = .ok (.if_icmp .lt 10, 3) := by decide +kernel
theorem dX2_planSet_5 : decode cX2_planSet 5 = .ok (.iload_n 1, 1) := by decide +kernel
theorem dX2_planSet_6 : decode cX2_planSet 6 = .ok (.sipush 1024, 3) := by decide +kernel
theorem dX2_planSet_9 : decode cX2_planSet 9 = .ok (.if_icmp .lt 4, 3) := by decide +kernel
theorem dX2_planSet_12 : decode cX2_planSet 12 = .ok (.return_, 1) := by decide +kernel
theorem dX2_planSet_13 : decode cX2_planSet 13 = .ok (.iload_n 1, 1) := by decide +kernel
theorem dX2_planSet_14 : decode cX2_planSet 14 = .ok (.iload_n 1, 1) := by decide +kernel
theorem dX2_planSet_15 : decode cX2_planSet 15 = .ok (.ineg, 1) := by decide +kernel
theorem dX2_planSet_16 : decode cX2_planSet 16 = .ok (.iand, 1) := by decide +kernel
theorem dX2_planSet_17 : decode cX2_planSet 17 = .ok (.istore_n 3, 1) := by decide +kernel
theorem dX2_planSet_18 : decode cX2_planSet 18 = .ok (.iload_n 1, 1) := by decide +kernel
theorem dX2_planSet_19 : decode cX2_planSet 19 = .ok (.iload_n 3, 1) := by decide +kernel
theorem dX2_planSet_20 : decode cX2_planSet 20 = .ok (.ixor, 1) := by decide +kernel
theorem dX2_planSet_21 : decode cX2_planSet 21 = .ok (.istore 4, 2) := by decide +kernel
theorem dX2_planSet_23 : decode cX2_planSet 23 = .ok (.iload 4, 2) := by decide +kernel
theorem dX2_planSet_25 : decode cX2_planSet 25 = .ok (.istore 5, 2) := by decide +kernel
theorem dX2_planSet_27 : decode cX2_planSet 27 = .ok (.aload_n 0, 1) := by decide +kernel
theorem dX2_planSet_28 : decode cX2_planSet 28 = .ok (.getfield 18, 3) := by decide +kernel
theorem dX2_planSet_31 : decode cX2_planSet 31 = .ok (.iload_n 1, 1) := by decide +kernel
theorem dX2_planSet_32 : decode cX2_planSet 32 = .ok (.iconst 0, 1) := by decide +kernel
theorem dX2_planSet_33 : decode cX2_planSet 33 = .ok (.iastore, 1) := by decide +kernel
theorem dX2_planSet_34 : decode cX2_planSet 34 = .ok (.iconst 0, 1) := by decide +kernel
theorem dX2_planSet_35 : decode cX2_planSet 35 = .ok (.istore 6, 2) := by decide +kernel
theorem dX2_planSet_37 : decode cX2_planSet 37 = .ok (.iload 6, 2) := by decide +kernel
theorem dX2_planSet_39 : decode cX2_planSet 39 = .ok (.sipush 1024, 3) := by decide +kernel
theorem dX2_planSet_42 : decode cX2_planSet 42 = .ok (.if_icmp .ge 44, 3) := by decide +kernel
theorem dX2_planSet_45 : decode cX2_planSet 45 = .ok (.iload 5, 2) := by decide +kernel
theorem dX2_planSet_47 : decode cX2_planSet 47 = .ok (.invokestatic 57, 3) := by decide +kernel
theorem dX2_planSet_50 : decode cX2_planSet 50 = .ok (.iload_n 2, 1) := by decide +kernel
theorem dX2_planSet_51 : decode cX2_planSet 51 = .ok (.if_icmp .ge 12, 3) := by decide +kernel
theorem dX2_planSet_54 : decode cX2_planSet 54 = .ok (.aload_n 0, 1) := by decide +kernel
theorem dX2_planSet_55 : decode cX2_planSet 55 = .ok (.iload_n 1, 1) := by decide +kernel
theorem dX2_planSet_56 : decode cX2_planSet 56 = .ok (.iload 5, 2) := by decide +kernel
theorem dX2_planSet_58 : decode cX2_planSet 58 = .ok (.iload_n 3, 1) := by decide +kernel
theorem dX2_planSet_59 : decode cX2_planSet 59 = .ok (.ior, 1) := by decide +kernel
theorem dX2_planSet_60 : decode cX2_planSet 60 = .ok (.invokevirtual 87, 3) := by decide +kernel
theorem dX2_planSet_63 : decode cX2_planSet 63 = .ok (.iload 5, 2) := by decide +kernel
theorem dX2_planSet_65 : decode cX2_planSet 65 = .ok (.ifCond .ne 6, 3) := by decide +kernel
theorem dX2_planSet_68 : decode cX2_planSet 68 = .ok (.goto 18, 3) := by decide +kernel
theorem dX2_planSet_71 : decode cX2_planSet 71 = .ok (.iload 5, 2) := by decide +kernel
theorem dX2_planSet_73 : decode cX2_planSet 73 = .ok (.iconst 1, 1) := by decide +kernel
theorem dX2_planSet_74 : decode cX2_planSet 74 = .ok (.isub, 1) := by decide +kernel
theorem dX2_planSet_75 : decode cX2_planSet 75 = .ok (.iload 4, 2) := by decide +kernel
theorem dX2_planSet_77 : decode cX2_planSet 77 = .ok (.iand, 1) := by decide +kernel
theorem dX2_planSet_78 : decode cX2_planSet 78 = .ok (.istore 5, 2) := by decide +kernel
theorem dX2_planSet_80 : decode cX2_planSet 80 = .ok (.iinc 6 1, 3) := by decide +kernel
theorem dX2_planSet_83 : decode cX2_planSet 83 = .ok (.goto (-46), 3) := by decide +kernel
theorem dX2_planSet_86 : decode cX2_planSet 86 = .ok (.return_, 1) := by decide +kernel
def f_X2_planSet_b63 (kk37 : Int32 → Int32 → q_Mem → Option q_Mem) (M : q_Mem) (a0 : Nat) (a1 : Int32) (a2 : Int32) (a3 : Int32) (a4 : Int32) (a5 : Int32) (a6 : Int32) : Option q_Mem :=
  (if a5 = 0 then
    some M
  else
    kk37 ((a5 - (1 : Int32)) &&& a4) (a6 + (1 : Int32)) M)
def f_X2_planSet_b37 (a0 : Nat) (a1 : Int32) (a2 : Int32) (a3 : Int32) (a4 : Int32) : Nat → Int32 → Int32 → q_Mem → Option q_Mem
  | 0, _, _, _ => none
  | n + 1, a5, a6, M =>
    (if a6 < (1024 : Int32) then
      (f_J6_bitCount_0f7a4 M a5).bind fun v8 =>
      (if v8 < a2 then
        (f_X2_tryHeap M a0 a1 (a5 ||| a3)).bind fun M11 =>
        f_X2_planSet_b63 (f_X2_planSet_b37 a0 a1 a2 a3 a4 n) M11 a0 a1 a2 a3 a4 a5 a6
      else
        f_X2_planSet_b63 (f_X2_planSet_b37 a0 a1 a2 a3 a4 n) M a0 a1 a2 a3 a4 a5 a6)
    else
      some M)
def f_X2_planSet (M : q_Mem) (a0 : Nat) (a1 : Int32) (a2 : Int32) : Option q_Mem :=
  q_ob 1 M a0 ((if a1 < (1 : Int32) then
    some M
  else
    (if a1 < (1024 : Int32) then
      (q_gR 1 3 M a0).bind fun v1 =>
      (q_tI M v1 a1 (0 : Int32)).bind fun M3 =>
      f_X2_planSet_b37 a0 a1 a2 (a1 &&& (-a1)) (a1 ^^^ (a1 &&& (-a1))) q_fuel (a1 ^^^ (a1 &&& (-a1))) (0 : Int32) M3
    else
      some M)))
set_option maxRecDepth 20000 in
theorem v_X2_planSet_b63 {kk37 : Int32 → Int32 → q_Mem → Option q_Mem} {M : q_Mem} {a0 : Nat} {a1 : Int32} {a2 : Int32} {a3 : Int32} {a4 : Int32} {a5 : Int32} {a6 : Int32}  (hk37 : ∀ (a5 : Int32) (a6 : Int32) (M : q_Mem), q_V Y_X2_planSet none (fun x : q_Mem => (none, x)) 0 0 37 [(0, .ref a0), (1, .int a1), (2, .int a2), (3, .int a3), (4, .int a4), (5, .int a5), (6, .int a6)] [] M (kk37 a5 a6 M)): q_V Y_X2_planSet none (fun x : q_Mem => (none, x)) 0 0 63 [(0, .ref a0), (1, .int a1), (2, .int a2), (3, .int a3), (4, .int a4), (5, .int a5), (6, .int a6)] [] M (f_X2_planSet_b63 kk37 M a0 a1 a2 a3 a4 a5 a6 ) := by
  unfold f_X2_planSet_b63
  refine q_iload 5 dX2_planSet_63 rfl ?_
  refine q_if_ne (tgt := 71) dX2_planSet_65 (by decide) (fun c14 => ?_) (fun c14 => ?_)
  · refine q_goto (tgt := 86) dX2_planSet_68 (by decide) ?_
    exact q_vret dX2_planSet_86 rfl rfl (Nat.le_of_ble_eq_true rfl) rfl
  · refine q_iload 5 dX2_planSet_71 rfl ?_
    refine q_iconst (x := (1 : Int32)) dX2_planSet_73 rfl ?_
    refine q_isub dX2_planSet_74 ?_
    refine q_iload 4 dX2_planSet_75 rfl ?_
    refine q_iand dX2_planSet_77 ?_
    refine q_istore (ls' := [(5, .int ((a5 - (1 : Int32)) &&& a4)), (0, .ref a0), (1, .int a1), (2, .int a2), (3, .int a3), (4, .int a4), (6, .int a6)]) dX2_planSet_78 (by decide) rfl ?_
    refine q_iinc 6 (y := (a6 + (1 : Int32))) (ls' := [(6, .int (a6 + (1 : Int32))), (5, .int ((a5 - (1 : Int32)) &&& a4)), (0, .ref a0), (1, .int a1), (2, .int a2), (3, .int a3), (4, .int a4)]) dX2_planSet_80 rfl rfl (by decide) rfl ?_
    refine q_goto (tgt := 37) dX2_planSet_83 (by decide) ?_
    refine q_sub (ls' := [(0, .ref a0), (1, .int a1), (2, .int a2), (3, .int a3), (4, .int a4), (5, .int ((a5 - (1 : Int32)) &&& a4)), (6, .int (a6 + (1 : Int32)))]) [2, 3, 4, 5, 6, 1, 0] rfl ?_
    exact hk37 _ _ _
set_option maxRecDepth 20000 in
theorem v_X2_planSet_b37 {a0 : Nat} {a1 : Int32} {a2 : Int32} {a3 : Int32} {a4 : Int32}  : ∀ (n : Nat) (a5 : Int32) (a6 : Int32) (M : q_Mem), q_V Y_X2_planSet none (fun x : q_Mem => (none, x)) 0 0 37 [(0, .ref a0), (1, .int a1), (2, .int a2), (3, .int a3), (4, .int a4), (5, .int a5), (6, .int a6)] [] M (f_X2_planSet_b37 a0 a1 a2 a3 a4 n a5 a6 M) := by
  intro n
  induction n with
  | zero => intro a5 a6 M; exact q_none
  | succ n ih =>
    intro a5 a6 M
    rw [f_X2_planSet_b37.eq_2]
    refine q_iload 6 dX2_planSet_37 rfl ?_
    refine q_sipush (x := (1024 : Int32)) dX2_planSet_39 rfl ?_
    refine q_icmp_ge (tgt := 86) dX2_planSet_42 (by decide) (fun c13 => ?_) (fun c13 => ?_)
    · refine q_iload 5 dX2_planSet_45 rfl ?_
      refine q_cSI (Y2 := Y_J6_bitCount_0f7a4) (As := [.int a5]) (st := []) ms_J6_bitCount_0f7a4 qw_970 dX2_planSet_47 ⟨Nat.le_of_ble_eq_true rfl, Nat.le_of_ble_eq_true rfl⟩ rfl (fun _ _ => rfl) (Nat.le_of_ble_eq_true rfl) ⟨Nat.le_of_ble_eq_true rfl, Nat.le_of_ble_eq_true rfl⟩ (fun v8 h7 => m_J6_bitCount_0f7a4 h7) (fun v8 h7 => ?_)
      refine q_iload_n 2 dX2_planSet_50 rfl ?_
      refine q_icmp_ge (tgt := 63) dX2_planSet_51 (by decide) (fun c12 => ?_) (fun c12 => ?_)
      · refine q_aload_n 0 dX2_planSet_54 rfl ?_
        refine q_iload_n 1 dX2_planSet_55 rfl ?_
        refine q_iload 5 dX2_planSet_56 rfl ?_
        refine q_iload_n 3 dX2_planSet_58 rfl ?_
        refine q_ior dX2_planSet_59 ?_
        refine q_cVM (Y2 := Y_X2_tryHeap) (As := [.int a1, .int (a5 ||| a3)]) (b := a0) (st := []) cl_X2 mv_X2_tryHeap qw_985 dX2_planSet_60 ⟨Nat.le_of_ble_eq_true rfl, Nat.le_of_ble_eq_true rfl⟩ rfl (fun _ _ => rfl) (Nat.le_of_ble_eq_true rfl) ⟨Nat.le_of_ble_eq_true rfl, Nat.le_of_ble_eq_true rfl⟩ (fun M11 h9 => q_ob_is h9) (fun M11 h9 => m_X2_tryHeap h9) (fun M11 h9 => ?_)
        exact v_X2_planSet_b63 (ih)
      · exact v_X2_planSet_b63 (ih)
    · exact q_vret dX2_planSet_86 rfl rfl (Nat.le_of_ble_eq_true rfl) rfl
set_option maxRecDepth 20000 in
theorem m_X2_planSet {M : q_Mem} {a0 : Nat} {a1 : Int32} {a2 : Int32} {x : q_Mem} (h : f_X2_planSet M a0 a1 a2 = some x) : q_C Y_X2_planSet [.ref a0, .int a1, .int a2] M none x := by
  refine q_met (φ := (fun x : q_Mem => (none, x))) (r := f_X2_planSet M a0 a1 a2) (by decide +kernel) (Nat.le_of_ble_eq_true rfl) ?_ h (fun _ _ => rfl)
  show q_V Y_X2_planSet none (fun x : q_Mem => (none, x)) 0 0 0 [(0, .ref a0), (1, .int a1), (2, .int a2)] [] M (f_X2_planSet M a0 a1 a2)
  unfold f_X2_planSet
  refine q_obV ?_
  refine q_iload_n 1 dX2_planSet_0 rfl ?_
  refine q_iconst (x := (1 : Int32)) dX2_planSet_1 rfl ?_
  refine q_icmp_lt (tgt := 12) dX2_planSet_2 (by decide) (fun c6 => ?_) (fun c6 => ?_)
  · exact q_vret dX2_planSet_12 rfl rfl (Nat.le_of_ble_eq_true rfl) rfl
  · refine q_iload_n 1 dX2_planSet_5 rfl ?_
    refine q_sipush (x := (1024 : Int32)) dX2_planSet_6 rfl ?_
    refine q_icmp_lt (tgt := 13) dX2_planSet_9 (by decide) (fun c5 => ?_) (fun c5 => ?_)
    · refine q_iload_n 1 dX2_planSet_13 rfl ?_
      refine q_iload_n 1 dX2_planSet_14 rfl ?_
      refine q_ineg dX2_planSet_15 ?_
      refine q_iand dX2_planSet_16 ?_
      refine q_istore_n (ls' := [(3, .int (a1 &&& (-a1))), (0, .ref a0), (1, .int a1), (2, .int a2)]) dX2_planSet_17 (by decide) rfl ?_
      refine q_iload_n 2 dX2_planSet_18 rfl ?_
      refine q_iload_n 0 dX2_planSet_19 rfl ?_
      refine q_ixor dX2_planSet_20 ?_
      refine q_istore (ls' := [(4, .int (a1 ^^^ (a1 &&& (-a1)))), (3, .int (a1 &&& (-a1))), (0, .ref a0), (1, .int a1), (2, .int a2)]) dX2_planSet_21 (by decide) rfl ?_
      refine q_iload 0 dX2_planSet_23 rfl ?_
      refine q_istore (ls' := [(5, .int (a1 ^^^ (a1 &&& (-a1)))), (4, .int (a1 ^^^ (a1 &&& (-a1)))), (3, .int (a1 &&& (-a1))), (0, .ref a0), (1, .int a1), (2, .int a2)]) dX2_planSet_25 (by decide) rfl ?_
      refine q_aload_n 3 dX2_planSet_27 rfl ?_
      refine q_getR (f := 3) cl_X2 (by decide) qw_333 rfl dX2_planSet_28 (fun _ _ _ => rfl) (fun v1 h2 => ?_)
      refine q_iload_n 4 dX2_planSet_31 rfl ?_
      refine q_iconst (x := (0 : Int32)) dX2_planSet_32 rfl ?_
      refine q_iast dX2_planSet_33 (fun M3 h4 => ?_)
      refine q_iconst (x := (0 : Int32)) dX2_planSet_34 rfl ?_
      refine q_istore (ls' := [(6, .int (0 : Int32)), (5, .int (a1 ^^^ (a1 &&& (-a1)))), (4, .int (a1 ^^^ (a1 &&& (-a1)))), (3, .int (a1 &&& (-a1))), (0, .ref a0), (1, .int a1), (2, .int a2)]) dX2_planSet_35 (by decide) rfl ?_
      refine q_sub (ls' := [(0, .ref a0), (1, .int a1), (2, .int a2), (3, .int (a1 &&& (-a1))), (4, .int (a1 ^^^ (a1 &&& (-a1)))), (5, .int (a1 ^^^ (a1 &&& (-a1)))), (6, .int (0 : Int32))]) [4, 5, 6, 3, 2, 1, 0] rfl ?_
      exact v_X2_planSet_b37 _ _ _ _
    · exact q_vret dX2_planSet_12 rfl rfl (Nat.le_of_ble_eq_true rfl) rfl
theorem dX2_plan_0 : decode cX2_plan 0 = .ok (.aload_n 0, 1) := by decide +kernel
theorem dX2_plan_1 : decode cX2_plan 1 = .ok (.invokevirtual 44, 3) := by decide +kernel
theorem dX2_plan_4 : decode cX2_plan 4 = .ok (.istore_n 2, 1) := by decide +kernel
theorem dX2_plan_5 : decode cX2_plan 5 = .ok (.iconst 1, 1) := by decide +kernel
theorem dX2_plan_6 : decode cX2_plan 6 = .ok (.istore_n 3, 1) := by decide +kernel
theorem dX2_plan_7 : decode cX2_plan 7 = .ok (.iload_n 3, 1) := by decide +kernel
theorem dX2_plan_8 : decode cX2_plan 8 = .ok (.iload_n 2, 1) := by decide +kernel
theorem dX2_plan_9 : decode cX2_plan 9 = .ok (.if_icmp .gt 61, 3) := by decide +kernel
theorem dX2_plan_12 : decode cX2_plan 12 = .ok (.iload_n 3, 1) := by decide +kernel
theorem dX2_plan_13 : decode cX2_plan 13 = .ok (.sipush 1024, 3) := by decide +kernel
theorem dX2_plan_16 : decode cX2_plan 16 = .ok (.if_icmp .ge 54, 3) := by decide +kernel
theorem dX2_plan_19 : decode cX2_plan 19 = .ok (.aload_n 0, 1) := by decide +kernel
theorem dX2_plan_20 : decode cX2_plan 20 = .ok (.getfield 25, 3) := by decide +kernel
theorem dX2_plan_23 : decode cX2_plan 23 = .ok (.iload_n 3, 1) := by decide +kernel
theorem dX2_plan_24 : decode cX2_plan 24 = .ok (.aload_n 0, 1) := by decide +kernel
theorem dX2_plan_25 : decode cX2_plan 25 = .ok (.getfield 25, 3) := by decide +kernel
theorem dX2_plan_28 : decode cX2_plan 28 = .ok (.iload_n 3, 1) := by decide +kernel
theorem dX2_plan_29 : decode cX2_plan 29 = .ok (.iload_n 3, 1) := by decide +kernel
theorem dX2_plan_30 : decode cX2_plan 30 = .ok (.iconst 1, 1) := by decide +kernel
theorem dX2_plan_31 : decode cX2_plan 31 = .ok (.isub, 1) := by decide +kernel
theorem dX2_plan_32 : decode cX2_plan 32 = .ok (.iand, 1) := by decide +kernel
theorem dX2_plan_33 : decode cX2_plan 33 = .ok (.laload, 1) := by decide +kernel
theorem dX2_plan_34 : decode cX2_plan 34 = .ok (.lconst 1, 1) := by decide +kernel
theorem dX2_plan_35 : decode cX2_plan 35 = .ok (.iload_n 3, 1) := by decide +kernel
theorem dX2_plan_36 : decode cX2_plan 36 = .ok (.invokestatic 48, 3) := by decide +kernel
theorem dX2_plan_39 : decode cX2_plan 39 = .ok (.invokestatic 54, 3) := by decide +kernel
theorem dX2_plan_42 : decode cX2_plan 42 = .ok (.lshl, 1) := by decide +kernel
theorem dX2_plan_43 : decode cX2_plan 43 = .ok (.ladd, 1) := by decide +kernel
theorem dX2_plan_44 : decode cX2_plan 44 = .ok (.lastore, 1) := by decide +kernel
theorem dX2_plan_45 : decode cX2_plan 45 = .ok (.iload_n 3, 1) := by decide +kernel
theorem dX2_plan_46 : decode cX2_plan 46 = .ok (.invokestatic 57, 3) := by decide +kernel
theorem dX2_plan_49 : decode cX2_plan 49 = .ok (.iload_n 1, 1) := by decide +kernel
theorem dX2_plan_50 : decode cX2_plan 50 = .ok (.if_icmp .gt 14, 3) := by decide +kernel
theorem dX2_plan_53 : decode cX2_plan 53 = .ok (.aload_n 0, 1) := by decide +kernel
theorem dX2_plan_54 : decode cX2_plan 54 = .ok (.getfield 11, 3) := by decide +kernel
theorem dX2_plan_57 : decode cX2_plan 57 = .ok (.iload_n 3, 1) := by decide +kernel
theorem dX2_plan_58 : decode cX2_plan 58 = .ok (.aload_n 0, 1) := by decide +kernel
theorem dX2_plan_59 : decode cX2_plan 59 = .ok (.iload_n 3, 1) := by decide +kernel
theorem dX2_plan_60 : decode cX2_plan 60 = .ok (.invokevirtual 60, 3) := by decide +kernel
theorem dX2_plan_63 : decode cX2_plan 63 = .ok (.lastore, 1) := by decide +kernel
theorem dX2_plan_64 : decode cX2_plan 64 = .ok (.iinc 3 1, 3) := by decide +kernel
theorem dX2_plan_67 : decode cX2_plan 67 = .ok (.goto (-60), 3) := by decide +kernel
theorem dX2_plan_70 : decode cX2_plan 70 = .ok (.iconst 1, 1) := by decide +kernel
theorem dX2_plan_71 : decode cX2_plan 71 = .ok (.istore_n 3, 1) := by decide +kernel
theorem dX2_plan_72 : decode cX2_plan 72 = .ok (.iload_n 3, 1) := by decide +kernel
theorem dX2_plan_73 : decode cX2_plan 73 = .ok (.iload_n 2, 1) := by decide +kernel
theorem dX2_plan_74 : decode cX2_plan 74 = .ok (.if_icmp .gt 22, 3) := by decide +kernel
theorem dX2_plan_77 : decode cX2_plan 77 = .ok (.iload_n 3, 1) := by decide +kernel
theorem dX2_plan_78 : decode cX2_plan 78 = .ok (.sipush 1024, 3) := by decide +kernel
theorem dX2_plan_81 : decode cX2_plan 81 = .ok (.if_icmp .ge 15, 3) := by decide +kernel
theorem dX2_plan_84 : decode cX2_plan 84 = .ok (.aload_n 0, 1) := by decide +kernel
theorem dX2_plan_85 : decode cX2_plan 85 = .ok (.iload_n 3, 1) := by decide +kernel
theorem dX2_plan_86 : decode cX2_plan 86 = .ok (.iload_n 1, 1) := by decide +kernel
theorem dX2_plan_87 : decode cX2_plan 87 = .ok (.invokevirtual 64, 3) := by decide +kernel
theorem dX2_plan_90 : decode cX2_plan 90 = .ok (.iinc 3 1, 3) := by decide +kernel
theorem dX2_plan_93 : decode cX2_plan 93 = .ok (.goto (-21), 3) := by decide +kernel
theorem dX2_plan_96 : decode cX2_plan 96 = .ok (.return_, 1) := by decide +kernel
def f_X2_plan_b72 (a0 : Nat) (a1 : Int32) (a2 : Int32) : Nat → Int32 → q_Mem → Option q_Mem
  | 0, _, _ => none
  | n + 1, a3, M =>
    (if a2 < a3 then
      some M
    else
      (if a3 < (1024 : Int32) then
        (f_X2_planSet M a0 a3 a1).bind fun M28 =>
        f_X2_plan_b72 a0 a1 a2 n (a3 + (1 : Int32)) M28
      else
        some M))
def f_X2_plan_b7 (a0 : Nat) (a1 : Int32) (a2 : Int32) : Nat → Int32 → q_Mem → Option q_Mem
  | 0, _, _ => none
  | n + 1, a3, M =>
    (if a2 < a3 then
      f_X2_plan_b72 a0 a1 a2 q_fuel (1 : Int32) M
    else
      (if a3 < (1024 : Int32) then
        (q_gR 1 5 M a0).bind fun v3 =>
        (q_gR 1 5 M a0).bind fun v5 =>
        (q_lJ M v5 (a3 &&& (a3 - (1 : Int32)))).bind fun v7 =>
        (f_J6_numberOfTrailingZeros_0f7a4 M a3).bind fun v10 =>
        (f_X2_shiftOf M v10).bind fun v12 =>
        (q_tJ M v3 a3 (v7 + ((1 : Int64) <<< (v12.toInt64 &&& 63)))).bind fun M13 =>
        (f_J6_bitCount_0f7a4 M13 a3).bind fun v16 =>
        (if a1 < v16 then
          f_X2_plan_b7 a0 a1 a2 n (a3 + (1 : Int32)) M13
        else
          (q_gR 1 1 M13 a0).bind fun v17 =>
          (f_X2_lossAsHeap M13 a0 a3).bind fun v20 =>
          (q_tJ M13 v17 a3 v20).bind fun M21 =>
          f_X2_plan_b7 a0 a1 a2 n (a3 + (1 : Int32)) M21)
      else
        f_X2_plan_b72 a0 a1 a2 q_fuel (1 : Int32) M))
def f_X2_plan (M : q_Mem) (a0 : Nat) (a1 : Int32) : Option q_Mem :=
  q_ob 1 M a0 ((f_X2_allCreams M a0).bind fun v2 =>
  f_X2_plan_b7 a0 a1 v2 q_fuel (1 : Int32) M)
set_option maxRecDepth 20000 in
theorem v_X2_plan_b72 {a0 : Nat} {a1 : Int32} {a2 : Int32}  : ∀ (n : Nat) (a3 : Int32) (M : q_Mem), q_V Y_X2_plan none (fun x : q_Mem => (none, x)) 0 0 72 [(0, .ref a0), (1, .int a1), (2, .int a2), (3, .int a3)] [] M (f_X2_plan_b72 a0 a1 a2 n a3 M) := by
  intro n
  induction n with
  | zero => intro a3 M; exact q_none
  | succ n ih =>
    intro a3 M
    rw [f_X2_plan_b72.eq_2]
    refine q_iload_n 3 dX2_plan_72 rfl ?_
    refine q_iload_n 2 dX2_plan_73 rfl ?_
    refine q_icmp_gt (tgt := 96) dX2_plan_74 (by decide) (fun c30 => ?_) (fun c30 => ?_)
    · exact q_vret dX2_plan_96 rfl rfl (Nat.le_of_ble_eq_true rfl) rfl
    · refine q_iload_n 3 dX2_plan_77 rfl ?_
      refine q_sipush (x := (1024 : Int32)) dX2_plan_78 rfl ?_
      refine q_icmp_ge (tgt := 96) dX2_plan_81 (by decide) (fun c29 => ?_) (fun c29 => ?_)
      · refine q_aload_n 0 dX2_plan_84 rfl ?_
        refine q_iload_n 3 dX2_plan_85 rfl ?_
        refine q_iload_n 1 dX2_plan_86 rfl ?_
        refine q_cVM (Y2 := Y_X2_planSet) (As := [.int a3, .int a1]) (b := a0) (st := []) cl_X2 mv_X2_planSet qw_981 dX2_plan_87 ⟨Nat.le_of_ble_eq_true rfl, Nat.le_of_ble_eq_true rfl⟩ rfl (fun _ _ => rfl) (Nat.le_of_ble_eq_true rfl) ⟨Nat.le_of_ble_eq_true rfl, Nat.le_of_ble_eq_true rfl⟩ (fun M28 h26 => q_ob_is h26) (fun M28 h26 => m_X2_planSet h26) (fun M28 h26 => ?_)
        refine q_iinc 3 (y := (a3 + (1 : Int32))) (ls' := [(3, .int (a3 + (1 : Int32))), (0, .ref a0), (1, .int a1), (2, .int a2)]) dX2_plan_90 rfl rfl (by decide) rfl ?_
        refine q_goto (tgt := 72) dX2_plan_93 (by decide) ?_
        refine q_sub (ls' := [(0, .ref a0), (1, .int a1), (2, .int a2), (3, .int (a3 + (1 : Int32)))]) [1, 2, 3, 0] rfl ?_
        exact ih _ _
      · exact q_vret dX2_plan_96 rfl rfl (Nat.le_of_ble_eq_true rfl) rfl
set_option maxRecDepth 20000 in
theorem v_X2_plan_b7 {a0 : Nat} {a1 : Int32} {a2 : Int32}  : ∀ (n : Nat) (a3 : Int32) (M : q_Mem), q_V Y_X2_plan none (fun x : q_Mem => (none, x)) 0 0 7 [(0, .ref a0), (1, .int a1), (2, .int a2), (3, .int a3)] [] M (f_X2_plan_b7 a0 a1 a2 n a3 M) := by
  intro n
  induction n with
  | zero => intro a3 M; exact q_none
  | succ n ih =>
    intro a3 M
    rw [f_X2_plan_b7.eq_2]
    refine q_iload_n 3 dX2_plan_7 rfl ?_
    refine q_iload_n 2 dX2_plan_8 rfl ?_
    refine q_icmp_gt (tgt := 70) dX2_plan_9 (by decide) (fun c25 => ?_) (fun c25 => ?_)
    · refine q_iconst (x := (1 : Int32)) dX2_plan_70 rfl ?_
      refine q_istore_n (ls' := [(3, .int (1 : Int32)), (0, .ref a0), (1, .int a1), (2, .int a2)]) dX2_plan_71 (by decide) rfl ?_
      refine q_sub (ls' := [(0, .ref a0), (1, .int a1), (2, .int a2), (3, .int (1 : Int32))]) [1, 2, 3, 0] rfl ?_
      exact v_X2_plan_b72 _ _ _
    · refine q_iload_n 3 dX2_plan_12 rfl ?_
      refine q_sipush (x := (1024 : Int32)) dX2_plan_13 rfl ?_
      refine q_icmp_ge (tgt := 70) dX2_plan_16 (by decide) (fun c24 => ?_) (fun c24 => ?_)
      · refine q_aload_n 0 dX2_plan_19 rfl ?_
        refine q_getR (f := 5) cl_X2 (by decide) qw_335 rfl dX2_plan_20 (fun _ _ _ => rfl) (fun v3 h4 => ?_)
        refine q_iload_n 3 dX2_plan_23 rfl ?_
        refine q_aload_n 0 dX2_plan_24 rfl ?_
        refine q_getR (f := 5) cl_X2 (by decide) qw_335 rfl dX2_plan_25 (fun _ _ _ => rfl) (fun v5 h6 => ?_)
        refine q_iload_n 3 dX2_plan_28 rfl ?_
        refine q_iload_n 3 dX2_plan_29 rfl ?_
        refine q_iconst (x := (1 : Int32)) dX2_plan_30 rfl ?_
        refine q_isub dX2_plan_31 ?_
        refine q_iand dX2_plan_32 ?_
        refine q_lald dX2_plan_33 (fun v7 h8 => ?_)
        refine q_lconst (x := (1 : Int64)) dX2_plan_34 rfl ?_
        refine q_iload_n 3 dX2_plan_35 rfl ?_
        refine q_cSI (Y2 := Y_J6_numberOfTrailingZeros_0f7a4) (As := [.int a3]) (st := [.long (1 : Int64), .long v7, .int a3, .ref v3]) ms_J6_numberOfTrailingZeros_0f7a4 qw_963 dX2_plan_36 ⟨Nat.le_of_ble_eq_true rfl, Nat.le_of_ble_eq_true rfl⟩ rfl (fun _ _ => rfl) (Nat.le_of_ble_eq_true rfl) ⟨Nat.le_of_ble_eq_true rfl, Nat.le_of_ble_eq_true rfl⟩ (fun v10 h9 => m_J6_numberOfTrailingZeros_0f7a4 h9) (fun v10 h9 => ?_)
        refine q_cSI (Y2 := Y_X2_shiftOf) (As := [.int v10]) (st := [.long (1 : Int64), .long v7, .int a3, .ref v3]) ms_X2_shiftOf qw_967 dX2_plan_39 ⟨Nat.le_of_ble_eq_true rfl, Nat.le_of_ble_eq_true rfl⟩ rfl (fun _ _ => rfl) (Nat.le_of_ble_eq_true rfl) ⟨Nat.le_of_ble_eq_true rfl, Nat.le_of_ble_eq_true rfl⟩ (fun v12 h11 => m_X2_shiftOf h11) (fun v12 h11 => ?_)
        refine q_lshl dX2_plan_42 ?_
        refine q_ladd dX2_plan_43 ?_
        refine q_last dX2_plan_44 (fun M13 h14 => ?_)
        refine q_iload_n 3 dX2_plan_45 rfl ?_
        refine q_cSI (Y2 := Y_J6_bitCount_0f7a4) (As := [.int a3]) (st := []) ms_J6_bitCount_0f7a4 qw_970 dX2_plan_46 ⟨Nat.le_of_ble_eq_true rfl, Nat.le_of_ble_eq_true rfl⟩ rfl (fun _ _ => rfl) (Nat.le_of_ble_eq_true rfl) ⟨Nat.le_of_ble_eq_true rfl, Nat.le_of_ble_eq_true rfl⟩ (fun v16 h15 => m_J6_bitCount_0f7a4 h15) (fun v16 h15 => ?_)
        refine q_iload_n 1 dX2_plan_49 rfl ?_
        refine q_icmp_gt (tgt := 64) dX2_plan_50 (by decide) (fun c23 => ?_) (fun c23 => ?_)
        · refine q_iinc 3 (y := (a3 + (1 : Int32))) (ls' := [(3, .int (a3 + (1 : Int32))), (0, .ref a0), (1, .int a1), (2, .int a2)]) dX2_plan_64 rfl rfl (by decide) rfl ?_
          refine q_goto (tgt := 7) dX2_plan_67 (by decide) ?_
          refine q_sub (ls' := [(0, .ref a0), (1, .int a1), (2, .int a2), (3, .int (a3 + (1 : Int32)))]) [1, 2, 3, 0] rfl ?_
          exact ih _ _
        · refine q_aload_n 0 dX2_plan_53 rfl ?_
          refine q_getR (f := 1) cl_X2 (by decide) qw_331 rfl dX2_plan_54 (fun _ _ _ => rfl) (fun v17 h18 => ?_)
          refine q_iload_n 3 dX2_plan_57 rfl ?_
          refine q_aload_n 0 dX2_plan_58 rfl ?_
          refine q_iload_n 3 dX2_plan_59 rfl ?_
          refine q_cVJ (Y2 := Y_X2_lossAsHeap) (As := [.int a3]) (b := a0) (st := [.int a3, .ref v17]) cl_X2 mv_X2_lossAsHeap qw_971 dX2_plan_60 ⟨Nat.le_of_ble_eq_true rfl, Nat.le_of_ble_eq_true rfl⟩ rfl (fun _ _ => rfl) (Nat.le_of_ble_eq_true rfl) ⟨Nat.le_of_ble_eq_true rfl, Nat.le_of_ble_eq_true rfl⟩ (fun v20 h19 => q_ob_is h19) (fun v20 h19 => m_X2_lossAsHeap h19) (fun v20 h19 => ?_)
          refine q_last dX2_plan_63 (fun M21 h22 => ?_)
          refine q_iinc 3 (y := (a3 + (1 : Int32))) (ls' := [(3, .int (a3 + (1 : Int32))), (0, .ref a0), (1, .int a1), (2, .int a2)]) dX2_plan_64 rfl rfl (by decide) rfl ?_
          refine q_goto (tgt := 7) dX2_plan_67 (by decide) ?_
          refine q_sub (ls' := [(0, .ref a0), (1, .int a1), (2, .int a2), (3, .int (a3 + (1 : Int32)))]) [1, 2, 3, 0] rfl ?_
          exact ih _ _
      · refine q_iconst (x := (1 : Int32)) dX2_plan_70 rfl ?_
        refine q_istore_n (ls' := [(3, .int (1 : Int32)), (0, .ref a0), (1, .int a1), (2, .int a2)]) dX2_plan_71 (by decide) rfl ?_
        refine q_sub (ls' := [(0, .ref a0), (1, .int a1), (2, .int a2), (3, .int (1 : Int32))]) [1, 2, 3, 0] rfl ?_
        exact v_X2_plan_b72 _ _ _
set_option maxRecDepth 20000 in
theorem m_X2_plan {M : q_Mem} {a0 : Nat} {a1 : Int32} {x : q_Mem} (h : f_X2_plan M a0 a1 = some x) : q_C Y_X2_plan [.ref a0, .int a1] M none x := by
  refine q_met (φ := (fun x : q_Mem => (none, x))) (r := f_X2_plan M a0 a1) (by decide +kernel) (Nat.le_of_ble_eq_true rfl) ?_ h (fun _ _ => rfl)
  show q_V Y_X2_plan none (fun x : q_Mem => (none, x)) 0 0 0 [(0, .ref a0), (1, .int a1)] [] M (f_X2_plan M a0 a1)
  unfold f_X2_plan
  refine q_obV ?_
  refine q_aload_n 0 dX2_plan_0 rfl ?_
  refine q_cVI (Y2 := Y_X2_allCreams) (As := []) (b := a0) (st := []) cl_X2 mv_X2_allCreams qw_958 dX2_plan_1 ⟨Nat.le_of_ble_eq_true rfl, Nat.le_of_ble_eq_true rfl⟩ rfl (fun _ _ => rfl) (Nat.le_of_ble_eq_true rfl) ⟨Nat.le_of_ble_eq_true rfl, Nat.le_of_ble_eq_true rfl⟩ (fun v2 h1 => q_ob_is h1) (fun v2 h1 => m_X2_allCreams h1) (fun v2 h1 => ?_)
  refine q_istore_n (ls' := [(2, .int v2), (0, .ref a0), (1, .int a1)]) dX2_plan_4 (by decide) rfl ?_
  refine q_iconst (x := (1 : Int32)) dX2_plan_5 rfl ?_
  refine q_istore_n (ls' := [(3, .int (1 : Int32)), (2, .int v2), (0, .ref a0), (1, .int a1)]) dX2_plan_6 (by decide) rfl ?_
  refine q_sub (ls' := [(0, .ref a0), (1, .int a1), (2, .int v2), (3, .int (1 : Int32))]) [2, 3, 1, 0] rfl ?_
  exact v_X2_plan_b7 _ _ _
theorem dX2_lost_0 : decode cX2_lost 0 = .ok (.aload_n 0, 1) := by decide +kernel
theorem dX2_lost_1 : decode cX2_lost 1 = .ok (.invokevirtual 44, 3) := by decide +kernel
theorem dX2_lost_4 : decode cX2_lost 4 = .ok (.istore_n 1, 1) := by decide +kernel
theorem dX2_lost_5 : decode cX2_lost 5 = .ok (.iload_n 1, 1) := by decide +kernel
theorem dX2_lost_6 : decode cX2_lost 6 = .ok (.ifCond .le 10, 3) := by decide +kernel
theorem dX2_lost_9 : decode cX2_lost 9 = .ok (.iload_n 1, 1) := by decide +kernel
theorem dX2_lost_10 : decode cX2_lost 10 = .ok (.sipush 1024, 3) := by decide +kernel
theorem dX2_lost_13 : decode cX2_lost 13 = .ok (.if_icmp .lt 7, 3) := by decide +kernel
theorem dX2_lost_16 : decode cX2_lost 16 = .ok (.lconst 0, 1) := by decide +kernel
theorem dX2_lost_17 : decode cX2_lost 17 = .ok (.goto 9, 3) := by decide +kernel
theorem dX2_lost_20 : decode cX2_lost 20 = .ok (.aload_n 0, 1) := by decide +kernel
theorem dX2_lost_21 : decode cX2_lost 21 = .ok (.getfield 15, 3) := by decide +kernel
theorem dX2_lost_24 : decode cX2_lost 24 = .ok (.iload_n 1, 1) := by decide +kernel
theorem dX2_lost_25 : decode cX2_lost 25 = .ok (.laload, 1) := by decide +kernel
theorem dX2_lost_26 : decode cX2_lost 26 = .ok (.lreturn, 1) := by decide +kernel
def f_X2_lost (M : q_Mem) (a0 : Nat) : Option Int64 :=
  q_ob 1 M a0 ((f_X2_allCreams M a0).bind fun v2 =>
  (if 0 < v2 then
    (if v2 < (1024 : Int32) then
      (q_gR 1 2 M a0).bind fun v3 =>
      (q_lJ M v3 v2).bind fun v5 =>
      some v5
    else
      some (0 : Int64))
  else
    some (0 : Int64)))
set_option maxRecDepth 20000 in
theorem m_X2_lost {M : q_Mem} {a0 : Nat} {x : Int64} (h : f_X2_lost M a0 = some x) : q_C Y_X2_lost [.ref a0] M (some (.long x)) M := by
  refine q_met (φ := (fun x : Int64 => (some (.long x), M))) (r := f_X2_lost M a0) (by decide +kernel) (Nat.le_of_ble_eq_true rfl) ?_ h (fun _ _ => rfl)
  show q_V Y_X2_lost none (fun x : Int64 => (some (.long x), M)) 0 0 0 [(0, .ref a0)] [] M (f_X2_lost M a0)
  unfold f_X2_lost
  refine q_obV ?_
  refine q_aload_n 0 dX2_lost_0 rfl ?_
  refine q_cVI (Y2 := Y_X2_allCreams) (As := []) (b := a0) (st := []) cl_X2 mv_X2_allCreams qw_958 dX2_lost_1 ⟨Nat.le_of_ble_eq_true rfl, Nat.le_of_ble_eq_true rfl⟩ rfl (fun _ _ => rfl) (Nat.le_of_ble_eq_true rfl) ⟨Nat.le_of_ble_eq_true rfl, Nat.le_of_ble_eq_true rfl⟩ (fun v2 h1 => q_ob_is h1) (fun v2 h1 => m_X2_allCreams h1) (fun v2 h1 => ?_)
  refine q_istore_n (ls' := [(1, .int v2), (0, .ref a0)]) dX2_lost_4 (by decide) rfl ?_
  refine q_iload_n 0 dX2_lost_5 rfl ?_
  refine q_if_le (tgt := 16) dX2_lost_6 (by decide) (fun c8 => ?_) (fun c8 => ?_)
  · refine q_iload_n 0 dX2_lost_9 rfl ?_
    refine q_sipush (x := (1024 : Int32)) dX2_lost_10 rfl ?_
    refine q_icmp_lt (tgt := 20) dX2_lost_13 (by decide) (fun c7 => ?_) (fun c7 => ?_)
    · refine q_aload_n 1 dX2_lost_20 rfl ?_
      refine q_getR (f := 2) cl_X2 (by decide) qw_332 rfl dX2_lost_21 (fun _ _ _ => rfl) (fun v3 h4 => ?_)
      refine q_iload_n 0 dX2_lost_24 rfl ?_
      refine q_lald dX2_lost_25 (fun v5 h6 => ?_)
      exact q_lret dX2_lost_26 rfl rfl (Nat.le_of_ble_eq_true rfl) rfl
    · refine q_lconst (x := (0 : Int64)) dX2_lost_16 rfl ?_
      refine q_goto (tgt := 26) dX2_lost_17 (by decide) ?_
      exact q_lret dX2_lost_26 rfl rfl (Nat.le_of_ble_eq_true rfl) rfl
  · refine q_lconst (x := (0 : Int64)) dX2_lost_16 rfl ?_
    refine q_goto (tgt := 26) dX2_lost_17 (by decide) ?_
    exact q_lret dX2_lost_26 rfl rfl (Nat.le_of_ble_eq_true rfl) rfl
theorem dX2_leastOfHeap_0 : decode cX2_leastOfHeap 0 = .ok (.aload_n 0, 1) := by decide +kernel
theorem dX2_leastOfHeap_1 : decode cX2_leastOfHeap 1 = .ok (.invokevirtual 44, 3) := by decide +kernel
theorem dX2_leastOfHeap_4 : decode cX2_leastOfHeap 4 = .ok (.istore_n 2, 1) := by decide +kernel
theorem dX2_leastOfHeap_5 : decode cX2_leastOfHeap 5 = .ok (.iload_n 2, 1) := by decide +kernel
theorem dX2_leastOfHeap_6 : decode cX2_leastOfHeap 6 = .ok (.ifCond .lt 10, 3) := by decide +kernel
theorem dX2_leastOfHeap_9 : decode cX2_leastOfHeap 9 = .ok (.iload_n 2, 1) := by decide +kernel
theorem dX2_leastOfHeap_10 : decode cX2_leastOfHeap 10 = .ok (.sipush 1024, 3) := by decide +kernel
theorem dX2_leastOfHeap_13 : decode cX2_leastOfHeap 13 = .ok (.if_icmp .lt 5, 3) := by decide +kernel
theorem dX2_leastOfHeap_16 : decode cX2_leastOfHeap 16 = .ok (.iconst (-1), 1) := by decide +kernel
theorem dX2_leastOfHeap_17 : decode cX2_leastOfHeap 17 = .ok (.ireturn, 1) := by decide +kernel
theorem dX2_leastOfHeap_18 : decode cX2_leastOfHeap 18 = .ok (.aload_n 0, 1) := by decide +kernel
theorem dX2_leastOfHeap_19 : decode cX2_leastOfHeap 19 = .ok (.getfield 22, 3) := by decide +kernel
theorem dX2_leastOfHeap_22 : decode cX2_leastOfHeap 22 = .ok (.iload_n 2, 1) := by decide +kernel
theorem dX2_leastOfHeap_23 : decode cX2_leastOfHeap 23 = .ok (.laload, 1) := by decide +kernel
theorem dX2_leastOfHeap_24 : decode cX2_leastOfHeap 24 = .ok (.iload_n 1, 1) := by decide +kernel
theorem dX2_leastOfHeap_25 : decode cX2_leastOfHeap 25 = .ok (.invokestatic 54, 3) := by decide +kernel
theorem dX2_leastOfHeap_28 : decode cX2_leastOfHeap 28 = .ok (.lshr, 1) := by decide +kernel
theorem dX2_leastOfHeap_29 : decode cX2_leastOfHeap 29 = .ok (.l2i, 1) := by decide +kernel
theorem dX2_leastOfHeap_30 : decode cX2_leastOfHeap 30 = .ok (.bipush 15, 2) := by decide +kernel
theorem dX2_leastOfHeap_32 : decode cX2_leastOfHeap 32 = .ok (.iand, 1) := by decide +kernel
theorem dX2_leastOfHeap_33 : decode cX2_leastOfHeap 33 = .ok (.ireturn, 1) := by decide +kernel
def f_X2_leastOfHeap (M : q_Mem) (a0 : Nat) (a1 : Int32) : Option Int32 :=
  q_ob 1 M a0 ((f_X2_allCreams M a0).bind fun v2 =>
  (if v2 < 0 then
    some (-1 : Int32)
  else
    (if v2 < (1024 : Int32) then
      (q_gR 1 4 M a0).bind fun v3 =>
      (q_lJ M v3 v2).bind fun v5 =>
      (f_X2_shiftOf M a1).bind fun v8 =>
      some ((v5 >>> (v8.toInt64 &&& 63)).toInt32 &&& (15 : Int32))
    else
      some (-1 : Int32))))
set_option maxRecDepth 20000 in
theorem m_X2_leastOfHeap {M : q_Mem} {a0 : Nat} {a1 : Int32} {x : Int32} (h : f_X2_leastOfHeap M a0 a1 = some x) : q_C Y_X2_leastOfHeap [.ref a0, .int a1] M (some (.int x)) M := by
  refine q_met (φ := (fun x : Int32 => (some (.int x), M))) (r := f_X2_leastOfHeap M a0 a1) (by decide +kernel) (Nat.le_of_ble_eq_true rfl) ?_ h (fun _ _ => rfl)
  show q_V Y_X2_leastOfHeap none (fun x : Int32 => (some (.int x), M)) 0 0 0 [(0, .ref a0), (1, .int a1)] [] M (f_X2_leastOfHeap M a0 a1)
  unfold f_X2_leastOfHeap
  refine q_obV ?_
  refine q_aload_n 0 dX2_leastOfHeap_0 rfl ?_
  refine q_cVI (Y2 := Y_X2_allCreams) (As := []) (b := a0) (st := []) cl_X2 mv_X2_allCreams qw_958 dX2_leastOfHeap_1 ⟨Nat.le_of_ble_eq_true rfl, Nat.le_of_ble_eq_true rfl⟩ rfl (fun _ _ => rfl) (Nat.le_of_ble_eq_true rfl) ⟨Nat.le_of_ble_eq_true rfl, Nat.le_of_ble_eq_true rfl⟩ (fun v2 h1 => q_ob_is h1) (fun v2 h1 => m_X2_allCreams h1) (fun v2 h1 => ?_)
  refine q_istore_n (ls' := [(2, .int v2), (0, .ref a0), (1, .int a1)]) dX2_leastOfHeap_4 (by decide) rfl ?_
  refine q_iload_n 0 dX2_leastOfHeap_5 rfl ?_
  refine q_if_lt (tgt := 16) dX2_leastOfHeap_6 (by decide) (fun c10 => ?_) (fun c10 => ?_)
  · refine q_iconst (x := (-1 : Int32)) dX2_leastOfHeap_16 rfl ?_
    exact q_iret dX2_leastOfHeap_17 rfl rfl (Nat.le_of_ble_eq_true rfl) rfl
  · refine q_iload_n 0 dX2_leastOfHeap_9 rfl ?_
    refine q_sipush (x := (1024 : Int32)) dX2_leastOfHeap_10 rfl ?_
    refine q_icmp_lt (tgt := 18) dX2_leastOfHeap_13 (by decide) (fun c9 => ?_) (fun c9 => ?_)
    · refine q_aload_n 1 dX2_leastOfHeap_18 rfl ?_
      refine q_getR (f := 4) cl_X2 (by decide) qw_334 rfl dX2_leastOfHeap_19 (fun _ _ _ => rfl) (fun v3 h4 => ?_)
      refine q_iload_n 0 dX2_leastOfHeap_22 rfl ?_
      refine q_lald dX2_leastOfHeap_23 (fun v5 h6 => ?_)
      refine q_iload_n 2 dX2_leastOfHeap_24 rfl ?_
      refine q_cSI (Y2 := Y_X2_shiftOf) (As := [.int a1]) (st := [.long v5]) ms_X2_shiftOf qw_967 dX2_leastOfHeap_25 ⟨Nat.le_of_ble_eq_true rfl, Nat.le_of_ble_eq_true rfl⟩ rfl (fun _ _ => rfl) (Nat.le_of_ble_eq_true rfl) ⟨Nat.le_of_ble_eq_true rfl, Nat.le_of_ble_eq_true rfl⟩ (fun v8 h7 => m_X2_shiftOf h7) (fun v8 h7 => ?_)
      refine q_lshr dX2_leastOfHeap_28 ?_
      refine q_l2i dX2_leastOfHeap_29 ?_
      refine q_bipush (x := (15 : Int32)) dX2_leastOfHeap_30 rfl ?_
      refine q_iand dX2_leastOfHeap_32 ?_
      exact q_iret dX2_leastOfHeap_33 rfl rfl (Nat.le_of_ble_eq_true rfl) rfl
    · refine q_iconst (x := (-1 : Int32)) dX2_leastOfHeap_16 rfl ?_
      exact q_iret dX2_leastOfHeap_17 rfl rfl (Nat.le_of_ble_eq_true rfl) rfl
theorem dX3_init_0 : decode cX3_init 0 = .ok (.aload_n 0, 1) := by decide +kernel
theorem dX3_init_1 : decode cX3_init 1 = .ok (.invokespecial 3, 3) := by decide +kernel
theorem dX3_init_4 : decode cX3_init 4 = .ok (.aload_n 0, 1) := by decide +kernel
theorem dX3_init_5 : decode cX3_init 5 = .ok (.bipush 8, 2) := by decide +kernel
theorem dX3_init_7 : decode cX3_init 7 = .ok (.newarray .int, 2) := by decide +kernel
theorem dX3_init_9 : decode cX3_init 9 = .ok (.putfield 11, 3) := by decide +kernel
theorem dX3_init_12 : decode cX3_init 12 = .ok (.aload_n 0, 1) := by decide +kernel
theorem dX3_init_13 : decode cX3_init 13 = .ok (.bipush 64, 2) := by decide +kernel
theorem dX3_init_15 : decode cX3_init 15 = .ok (.newarray .int, 2) := by decide +kernel
theorem dX3_init_17 : decode cX3_init 17 = .ok (.putfield 15, 3) := by decide +kernel
theorem dX3_init_20 : decode cX3_init 20 = .ok (.aload_n 0, 1) := by decide +kernel
theorem dX3_init_21 : decode cX3_init 21 = .ok (.bipush 8, 2) := by decide +kernel
theorem dX3_init_23 : decode cX3_init 23 = .ok (.newarray .int, 2) := by decide +kernel
theorem dX3_init_25 : decode cX3_init 25 = .ok (.putfield 18, 3) := by decide +kernel
theorem dX3_init_28 : decode cX3_init 28 = .ok (.aload_n 0, 1) := by decide +kernel
theorem dX3_init_29 : decode cX3_init 29 = .ok (.sipush 2048, 3) := by decide +kernel
theorem dX3_init_32 : decode cX3_init 32 = .ok (.newarray .int, 2) := by decide +kernel
theorem dX3_init_34 : decode cX3_init 34 = .ok (.putfield 21, 3) := by decide +kernel
theorem dX3_init_37 : decode cX3_init 37 = .ok (.aload_n 0, 1) := by decide +kernel
theorem dX3_init_38 : decode cX3_init 38 = .ok (.bipush 8, 2) := by decide +kernel
theorem dX3_init_40 : decode cX3_init 40 = .ok (.newarray .int, 2) := by decide +kernel
theorem dX3_init_42 : decode cX3_init 42 = .ok (.putfield 24, 3) := by decide +kernel
theorem dX3_init_45 : decode cX3_init 45 = .ok (.aload_n 0, 1) := by decide +kernel
theorem dX3_init_46 : decode cX3_init 46 = .ok (.aload_n 1, 1) := by decide +kernel
theorem dX3_init_47 : decode cX3_init 47 = .ok (.putfield 27, 3) := by decide +kernel
theorem dX3_init_50 : decode cX3_init 50 = .ok (.return_, 1) := by decide +kernel
def f_X3_init (M : q_Mem) (a0 : Nat) (a1 : Nat) : Option q_Mem :=
  q_ob 2 M a0 ((q_na M 100 (8 : Int32)).bind fun M1 =>
  (q_pR 2 1 M1 a0 M.1).bind fun M2 =>
  (q_na M2 100 (64 : Int32)).bind fun M4 =>
  (q_pR 2 3 M4 a0 M2.1).bind fun M5 =>
  (q_na M5 100 (8 : Int32)).bind fun M7 =>
  (q_pR 2 4 M7 a0 M5.1).bind fun M8 =>
  (q_na M8 100 (2048 : Int32)).bind fun M10 =>
  (q_pR 2 5 M10 a0 M8.1).bind fun M11 =>
  (q_na M11 100 (8 : Int32)).bind fun M13 =>
  (q_pR 2 6 M13 a0 M11.1).bind fun M14 =>
  (q_pR 2 0 M14 a0 a1).bind fun M16 =>
  some M16)
set_option maxRecDepth 20000 in
theorem m_X3_init {M : q_Mem} {a0 : Nat} {a1 : Nat} {x : q_Mem} (h : f_X3_init M a0 a1 = some x) : q_C Y_X3_init [.ref a0, .ref a1] M none x := by
  refine q_met (φ := (fun x : q_Mem => (none, x))) (r := f_X3_init M a0 a1) (by decide +kernel) (Nat.le_of_ble_eq_true rfl) ?_ h (fun _ _ => rfl)
  show q_V Y_X3_init none (fun x : q_Mem => (none, x)) 0 0 0 [(0, .ref a0), (1, .ref a1)] [] M (f_X3_init M a0 a1)
  unfold f_X3_init
  refine q_obV ?_
  refine q_aload_n 0 dX3_init_0 rfl ?_
  refine q_objInit qw_297 qo_2 qo_3 dX3_init_1 (Nat.le_of_ble_eq_true rfl) (Nat.le_of_ble_eq_true rfl) (Nat.le_of_ble_eq_true rfl) ?_
  refine q_aload_n 0 dX3_init_4 rfl ?_
  refine q_bipush (x := (8 : Int32)) dX3_init_5 rfl ?_
  refine q_newarr (at_ := .int) (ty := .int) (len := 8) rfl qa_int (Or.inl ⟨rfl, rfl, rfl⟩) (by decide) rfl (by decide) (Nat.le_of_ble_eq_true rfl) (Nat.le_of_ble_eq_true rfl) dX3_init_7 ?_
  refine q_putR (f := 1) cl_X3 (by decide) qw_299 rfl (Or.inr ⟨rfl, rfl, rfl⟩) dX3_init_9 (fun _ _ _ => rfl) (fun _ => rfl) (fun _ => rfl) (fun M2 h3 => ?_)
  refine q_aload_n 0 dX3_init_12 rfl ?_
  refine q_bipush (x := (64 : Int32)) dX3_init_13 rfl ?_
  refine q_newarr (at_ := .int) (ty := .int) (len := 64) rfl qa_int (Or.inl ⟨rfl, rfl, rfl⟩) (by decide) rfl (by decide) (Nat.le_of_ble_eq_true rfl) (Nat.le_of_ble_eq_true rfl) dX3_init_15 ?_
  refine q_putR (f := 3) cl_X3 (by decide) qw_301 rfl (Or.inr ⟨rfl, rfl, rfl⟩) dX3_init_17 (fun _ _ _ => rfl) (fun _ => rfl) (fun _ => rfl) (fun M5 h6 => ?_)
  refine q_aload_n 0 dX3_init_20 rfl ?_
  refine q_bipush (x := (8 : Int32)) dX3_init_21 rfl ?_
  refine q_newarr (at_ := .int) (ty := .int) (len := 8) rfl qa_int (Or.inl ⟨rfl, rfl, rfl⟩) (by decide) rfl (by decide) (Nat.le_of_ble_eq_true rfl) (Nat.le_of_ble_eq_true rfl) dX3_init_23 ?_
  refine q_putR (f := 4) cl_X3 (by decide) qw_302 rfl (Or.inr ⟨rfl, rfl, rfl⟩) dX3_init_25 (fun _ _ _ => rfl) (fun _ => rfl) (fun _ => rfl) (fun M8 h9 => ?_)
  refine q_aload_n 0 dX3_init_28 rfl ?_
  refine q_sipush (x := (2048 : Int32)) dX3_init_29 rfl ?_
  refine q_newarr (at_ := .int) (ty := .int) (len := 2048) rfl qa_int (Or.inl ⟨rfl, rfl, rfl⟩) (by decide) rfl (by decide) (Nat.le_of_ble_eq_true rfl) (Nat.le_of_ble_eq_true rfl) dX3_init_32 ?_
  refine q_putR (f := 5) cl_X3 (by decide) qw_303 rfl (Or.inr ⟨rfl, rfl, rfl⟩) dX3_init_34 (fun _ _ _ => rfl) (fun _ => rfl) (fun _ => rfl) (fun M11 h12 => ?_)
  refine q_aload_n 0 dX3_init_37 rfl ?_
  refine q_bipush (x := (8 : Int32)) dX3_init_38 rfl ?_
  refine q_newarr (at_ := .int) (ty := .int) (len := 8) rfl qa_int (Or.inl ⟨rfl, rfl, rfl⟩) (by decide) rfl (by decide) (Nat.le_of_ble_eq_true rfl) (Nat.le_of_ble_eq_true rfl) dX3_init_40 ?_
  refine q_putR (f := 6) cl_X3 (by decide) qw_304 rfl (Or.inr ⟨rfl, rfl, rfl⟩) dX3_init_42 (fun _ _ _ => rfl) (fun _ => rfl) (fun _ => rfl) (fun M14 h15 => ?_)
  refine q_aload_n 0 dX3_init_45 rfl ?_
  refine q_aload_n 1 dX3_init_46 rfl ?_
  refine q_putR (f := 0) cl_X3 (by decide) qw_298 rfl (Or.inr ⟨rfl, rfl, rfl⟩) dX3_init_47 (fun _ _ _ => rfl) (fun _ => rfl) (fun _ => rfl) (fun M16 h17 => ?_)
  exact q_vret dX3_init_50 rfl rfl (Nat.le_of_ble_eq_true rfl) rfl
theorem dX11_milesBetween_0 : decode cX11_milesBetween 0 = .ok (.aload_n 0, 1) := by decide +kernel
theorem dX11_milesBetween_1 : decode cX11_milesBetween 1 = .ok (.iload_n 1, 1) := by decide +kernel
theorem dX11_milesBetween_2 : decode cX11_milesBetween 2 = .ok (.iconst 0, 1) := by decide +kernel
theorem dX11_milesBetween_3 : decode cX11_milesBetween 3 = .ok (.invokevirtual 133, 3) := by decide +kernel
theorem dX11_milesBetween_6 : decode cX11_milesBetween 6 = .ok (.aload_n 2, 1) := by decide +kernel
theorem dX11_milesBetween_7 : decode cX11_milesBetween 7 = .ok (.iload_n 3, 1) := by decide +kernel
theorem dX11_milesBetween_8 : decode cX11_milesBetween 8 = .ok (.iconst 0, 1) := by decide +kernel
theorem dX11_milesBetween_9 : decode cX11_milesBetween 9 = .ok (.invokevirtual 133, 3) := by decide +kernel
theorem dX11_milesBetween_12 : decode cX11_milesBetween 12 = .ok (.isub, 1) := by decide +kernel
theorem dX11_milesBetween_13 : decode cX11_milesBetween 13 = .ok (.invokestatic 346, 3) := by decide +kernel
theorem dX11_milesBetween_16 : decode cX11_milesBetween 16 = .ok (.aload_n 0, 1) := by decide +kernel
theorem dX11_milesBetween_17 : decode cX11_milesBetween 17 = .ok (.iload_n 1, 1) := by decide +kernel
theorem dX11_milesBetween_18 : decode cX11_milesBetween 18 = .ok (.iconst 1, 1) := by decide +kernel
theorem dX11_milesBetween_19 : decode cX11_milesBetween 19 = .ok (.invokevirtual 133, 3) := by decide +kernel
theorem dX11_milesBetween_22 : decode cX11_milesBetween 22 = .ok (.aload_n 2, 1) := by decide +kernel
theorem dX11_milesBetween_23 : decode cX11_milesBetween 23 = .ok (.iload_n 3, 1) := by decide +kernel
theorem dX11_milesBetween_24 : decode cX11_milesBetween 24 = .ok (.iconst 1, 1) := by decide +kernel
theorem dX11_milesBetween_25 : decode cX11_milesBetween 25 = .ok (.invokevirtual 133, 3) := by decide +kernel
theorem dX11_milesBetween_28 : decode cX11_milesBetween 28 = .ok (.isub, 1) := by decide +kernel
theorem dX11_milesBetween_29 : decode cX11_milesBetween 29 = .ok (.invokestatic 346, 3) := by decide +kernel
theorem dX11_milesBetween_32 : decode cX11_milesBetween 32 = .ok (.iadd, 1) := by decide +kernel
theorem dX11_milesBetween_33 : decode cX11_milesBetween 33 = .ok (.ireturn, 1) := by decide +kernel
def f_X11_milesBetween (M : q_Mem) (a0 : Nat) (a1 : Int32) (a2 : Nat) (a3 : Int32) : Option Int32 :=
  (f_X9_at M a0 a1 (0 : Int32)).bind fun v2 =>
  (f_X9_at M a2 a3 (0 : Int32)).bind fun v4 =>
  (f_X9_at M a0 a1 (1 : Int32)).bind fun v6 =>
  (f_X9_at M a2 a3 (1 : Int32)).bind fun v8 =>
  some ((q_ab (v2 - v4)) + (q_ab (v6 - v8)))
set_option maxRecDepth 20000 in
theorem m_X11_milesBetween {M : q_Mem} {a0 : Nat} {a1 : Int32} {a2 : Nat} {a3 : Int32} {x : Int32} (h : f_X11_milesBetween M a0 a1 a2 a3 = some x) : q_C Y_X11_milesBetween [.ref a0, .int a1, .ref a2, .int a3] M (some (.int x)) M := by
  refine q_met (φ := (fun x : Int32 => (some (.int x), M))) (r := f_X11_milesBetween M a0 a1 a2 a3) (by decide +kernel) (Nat.le_of_ble_eq_true rfl) ?_ h (fun _ _ => rfl)
  show q_V Y_X11_milesBetween none (fun x : Int32 => (some (.int x), M)) 0 0 0 [(0, .ref a0), (1, .int a1), (2, .ref a2), (3, .int a3)] [] M (f_X11_milesBetween M a0 a1 a2 a3)
  unfold f_X11_milesBetween
  refine q_aload_n 0 dX11_milesBetween_0 rfl ?_
  refine q_iload_n 1 dX11_milesBetween_1 rfl ?_
  refine q_iconst (x := (0 : Int32)) dX11_milesBetween_2 rfl ?_
  refine q_cVI (Y2 := Y_X9_at) (As := [.int a1, .int (0 : Int32)]) (b := a0) (st := []) cl_X9 mv_X9_at qw_442 dX11_milesBetween_3 ⟨Nat.le_of_ble_eq_true rfl, Nat.le_of_ble_eq_true rfl⟩ rfl (fun _ _ => rfl) (Nat.le_of_ble_eq_true rfl) ⟨Nat.le_of_ble_eq_true rfl, Nat.le_of_ble_eq_true rfl⟩ (fun v2 h1 => q_ob_is h1) (fun v2 h1 => m_X9_at h1) (fun v2 h1 => ?_)
  refine q_aload_n 2 dX11_milesBetween_6 rfl ?_
  refine q_iload_n 3 dX11_milesBetween_7 rfl ?_
  refine q_iconst (x := (0 : Int32)) dX11_milesBetween_8 rfl ?_
  refine q_cVI (Y2 := Y_X9_at) (As := [.int a3, .int (0 : Int32)]) (b := a2) (st := [.int v2]) cl_X9 mv_X9_at qw_442 dX11_milesBetween_9 ⟨Nat.le_of_ble_eq_true rfl, Nat.le_of_ble_eq_true rfl⟩ rfl (fun _ _ => rfl) (Nat.le_of_ble_eq_true rfl) ⟨Nat.le_of_ble_eq_true rfl, Nat.le_of_ble_eq_true rfl⟩ (fun v4 h3 => q_ob_is h3) (fun v4 h3 => m_X9_at h3) (fun v4 h3 => ?_)
  refine q_isub dX11_milesBetween_12 ?_
  refine q_mabs qw_894 qm_mabs_1 qm_2 qm_mabs_3 dX11_milesBetween_13 (Nat.le_of_ble_eq_true rfl) (Nat.le_of_ble_eq_true rfl) (Nat.le_of_ble_eq_true rfl) ⟨Nat.le_of_ble_eq_true rfl, Nat.le_of_ble_eq_true rfl⟩ ?_
  refine q_aload_n 0 dX11_milesBetween_16 rfl ?_
  refine q_iload_n 1 dX11_milesBetween_17 rfl ?_
  refine q_iconst (x := (1 : Int32)) dX11_milesBetween_18 rfl ?_
  refine q_cVI (Y2 := Y_X9_at) (As := [.int a1, .int (1 : Int32)]) (b := a0) (st := [.int (q_ab (v2 - v4))]) cl_X9 mv_X9_at qw_442 dX11_milesBetween_19 ⟨Nat.le_of_ble_eq_true rfl, Nat.le_of_ble_eq_true rfl⟩ rfl (fun _ _ => rfl) (Nat.le_of_ble_eq_true rfl) ⟨Nat.le_of_ble_eq_true rfl, Nat.le_of_ble_eq_true rfl⟩ (fun v6 h5 => q_ob_is h5) (fun v6 h5 => m_X9_at h5) (fun v6 h5 => ?_)
  refine q_aload_n 2 dX11_milesBetween_22 rfl ?_
  refine q_iload_n 3 dX11_milesBetween_23 rfl ?_
  refine q_iconst (x := (1 : Int32)) dX11_milesBetween_24 rfl ?_
  refine q_cVI (Y2 := Y_X9_at) (As := [.int a3, .int (1 : Int32)]) (b := a2) (st := [.int v6, .int (q_ab (v2 - v4))]) cl_X9 mv_X9_at qw_442 dX11_milesBetween_25 ⟨Nat.le_of_ble_eq_true rfl, Nat.le_of_ble_eq_true rfl⟩ rfl (fun _ _ => rfl) (Nat.le_of_ble_eq_true rfl) ⟨Nat.le_of_ble_eq_true rfl, Nat.le_of_ble_eq_true rfl⟩ (fun v8 h7 => q_ob_is h7) (fun v8 h7 => m_X9_at h7) (fun v8 h7 => ?_)
  refine q_isub dX11_milesBetween_28 ?_
  refine q_mabs qw_894 qm_mabs_1 qm_2 qm_mabs_3 dX11_milesBetween_29 (Nat.le_of_ble_eq_true rfl) (Nat.le_of_ble_eq_true rfl) (Nat.le_of_ble_eq_true rfl) ⟨Nat.le_of_ble_eq_true rfl, Nat.le_of_ble_eq_true rfl⟩ ?_
  refine q_iadd dX11_milesBetween_32 ?_
  exact q_iret dX11_milesBetween_33 rfl rfl (Nat.le_of_ble_eq_true rfl) rfl
theorem dX3_takeStops_0 : decode cX3_takeStops 0 = .ok (.aload_n 0, 1) := by decide +kernel
theorem dX3_takeStops_1 : decode cX3_takeStops 1 = .ok (.iconst 0, 1) := by decide +kernel
theorem dX3_takeStops_2 : decode cX3_takeStops 2 = .ok (.putfield 42, 3) := by decide +kernel
theorem dX3_takeStops_5 : decode cX3_takeStops 5 = .ok (.iconst 0, 1) := by decide +kernel
theorem dX3_takeStops_6 : decode cX3_takeStops 6 = .ok (.istore_n 2, 1) := by decide +kernel
theorem dX3_takeStops_7 : decode cX3_takeStops 7 = .ok (.iload_n 2, 1) := by decide +kernel
theorem dX3_takeStops_8 : decode cX3_takeStops 8 = .ok (.aload_n 0, 1) := by decide +kernel
theorem dX3_takeStops_9 : decode cX3_takeStops 9 = .ok (.getfield 27, 3) := by decide +kernel
theorem dX3_takeStops_12 : decode cX3_takeStops 12 = .ok (.getfield 63, 3) := by decide +kernel
theorem dX3_takeStops_15 : decode cX3_takeStops 15 = .ok (.getfield 69, 3) := by decide +kernel
theorem dX3_takeStops_18 : decode cX3_takeStops 18 = .ok (.if_icmp .ge 95, 3) := by decide +kernel
theorem dX3_takeStops_21 : decode cX3_takeStops 21 = .ok (.aload_n 0, 1) := by decide +kernel
theorem dX3_takeStops_22 : decode cX3_takeStops 22 = .ok (.getfield 42, 3) := by decide +kernel
theorem dX3_takeStops_25 : decode cX3_takeStops 25 = .ok (.bipush 8, 2) := by decide +kernel
theorem dX3_takeStops_27 : decode cX3_takeStops 27 = .ok (.if_icmp .ge 86, 3) := by decide +kernel
theorem dX3_takeStops_30 : decode cX3_takeStops 30 = .ok (.iload_n 1, 1) := by decide +kernel
theorem dX3_takeStops_31 : decode cX3_takeStops 31 = .ok (.iload_n 2, 1) := by decide +kernel
theorem dX3_takeStops_32 : decode cX3_takeStops 32 = .ok (.invokestatic 72, 3) := by decide +kernel
theorem dX3_takeStops_35 : decode cX3_takeStops 35 = .ok (.ifCond .ne 6, 3) := by decide +kernel
theorem dX3_takeStops_38 : decode cX3_takeStops 38 = .ok (.goto 69, 3) := by decide +kernel
theorem dX3_takeStops_41 : decode cX3_takeStops 41 = .ok (.aload_n 0, 1) := by decide +kernel
theorem dX3_takeStops_42 : decode cX3_takeStops 42 = .ok (.getfield 11, 3) := by decide +kernel
theorem dX3_takeStops_45 : decode cX3_takeStops 45 = .ok (.aload_n 0, 1) := by decide +kernel
theorem dX3_takeStops_46 : decode cX3_takeStops 46 = .ok (.getfield 42, 3) := by decide +kernel
theorem dX3_takeStops_49 : decode cX3_takeStops 49 = .ok (.iload_n 2, 1) := by decide +kernel
theorem dX3_takeStops_50 : decode cX3_takeStops 50 = .ok (.iastore, 1) := by decide +kernel
theorem dX3_takeStops_51 : decode cX3_takeStops 51 = .ok (.aload_n 0, 1) := by decide +kernel
theorem dX3_takeStops_52 : decode cX3_takeStops 52 = .ok (.getfield 18, 3) := by decide +kernel
theorem dX3_takeStops_55 : decode cX3_takeStops 55 = .ok (.aload_n 0, 1) := by decide +kernel
theorem dX3_takeStops_56 : decode cX3_takeStops 56 = .ok (.getfield 42, 3) := by decide +kernel
theorem dX3_takeStops_59 : decode cX3_takeStops 59 = .ok (.aload_n 0, 1) := by decide +kernel
theorem dX3_takeStops_60 : decode cX3_takeStops 60 = .ok (.getfield 27, 3) := by decide +kernel
theorem dX3_takeStops_63 : decode cX3_takeStops 63 = .ok (.getfield 63, 3) := by decide +kernel
theorem dX3_takeStops_66 : decode cX3_takeStops 66 = .ok (.iload_n 2, 1) := by decide +kernel
theorem dX3_takeStops_67 : decode cX3_takeStops 67 = .ok (.iconst 0, 1) := by decide +kernel
theorem dX3_takeStops_68 : decode cX3_takeStops 68 = .ok (.invokevirtual 76, 3) := by decide +kernel
theorem dX3_takeStops_71 : decode cX3_takeStops 71 = .ok (.bipush 100, 2) := by decide +kernel
theorem dX3_takeStops_73 : decode cX3_takeStops 73 = .ok (.isub, 1) := by decide +kernel
theorem dX3_takeStops_74 : decode cX3_takeStops 74 = .ok (.invokestatic 79, 3) := by decide +kernel
theorem dX3_takeStops_77 : decode cX3_takeStops 77 = .ok (.aload_n 0, 1) := by decide +kernel
theorem dX3_takeStops_78 : decode cX3_takeStops 78 = .ok (.getfield 27, 3) := by decide +kernel
theorem dX3_takeStops_81 : decode cX3_takeStops 81 = .ok (.getfield 63, 3) := by decide +kernel
theorem dX3_takeStops_84 : decode cX3_takeStops 84 = .ok (.iload_n 2, 1) := by decide +kernel
theorem dX3_takeStops_85 : decode cX3_takeStops 85 = .ok (.iconst 1, 1) := by decide +kernel
theorem dX3_takeStops_86 : decode cX3_takeStops 86 = .ok (.invokevirtual 76, 3) := by decide +kernel
theorem dX3_takeStops_89 : decode cX3_takeStops 89 = .ok (.bipush 100, 2) := by decide +kernel
theorem dX3_takeStops_91 : decode cX3_takeStops 91 = .ok (.isub, 1) := by decide +kernel
theorem dX3_takeStops_92 : decode cX3_takeStops 92 = .ok (.invokestatic 79, 3) := by decide +kernel
theorem dX3_takeStops_95 : decode cX3_takeStops 95 = .ok (.iadd, 1) := by decide +kernel
theorem dX3_takeStops_96 : decode cX3_takeStops 96 = .ok (.iastore, 1) := by decide +kernel
theorem dX3_takeStops_97 : decode cX3_takeStops 97 = .ok (.aload_n 0, 1) := by decide +kernel
theorem dX3_takeStops_98 : decode cX3_takeStops 98 = .ok (.dup, 1) := by decide +kernel
theorem dX3_takeStops_99 : decode cX3_takeStops 99 = .ok (.getfield 42, 3) := by decide +kernel
theorem dX3_takeStops_102 : decode cX3_takeStops 102 = .ok (.iconst 1, 1) := by decide +kernel
theorem dX3_takeStops_103 : decode cX3_takeStops 103 = .ok (.iadd, 1) := by decide +kernel
theorem dX3_takeStops_104 : decode cX3_takeStops 104 = .ok (.putfield 42, 3) := by decide +kernel
theorem dX3_takeStops_107 : decode cX3_takeStops 107 = .ok (.iinc 2 1, 3) := by decide +kernel
theorem dX3_takeStops_110 : decode cX3_takeStops 110 = .ok (.goto (-103), 3) := by decide +kernel
theorem dX3_takeStops_113 : decode cX3_takeStops 113 = .ok (.iconst 0, 1) := by decide +kernel
theorem dX3_takeStops_114 : decode cX3_takeStops 114 = .ok (.istore_n 2, 1) := by decide +kernel
theorem dX3_takeStops_115 : decode cX3_takeStops 115 = .ok (.iload_n 2, 1) := by decide +kernel
theorem dX3_takeStops_116 : decode cX3_takeStops 116 = .ok (.aload_n 0, 1) := by decide +kernel
theorem dX3_takeStops_117 : decode cX3_takeStops 117 = .ok (.getfield 42, 3) := by decide +kernel
theorem dX3_takeStops_120 : decode cX3_takeStops 120 = .ok (.if_icmp .ge 77, 3) := by decide +kernel
theorem dX3_takeStops_123 : decode cX3_takeStops 123 = .ok (.iload_n 2, 1) := by decide +kernel
theorem dX3_takeStops_124 : decode cX3_takeStops 124 = .ok (.bipush 8, 2) := by decide +kernel
theorem dX3_takeStops_126 : decode cX3_takeStops 126 = .ok (.if_icmp .ge 71, 3) := by decide +kernel
theorem dX3_takeStops_129 : decode cX3_takeStops 129 = .ok (.iconst 0, 1) := by decide +kernel
theorem dX3_takeStops_130 : decode cX3_takeStops 130 = .ok (.istore_n 3, 1) := by decide +kernel
theorem dX3_takeStops_131 : decode cX3_takeStops 131 = .ok (.iload_n 3, 1) := by decide +kernel
theorem dX3_takeStops_132 : decode cX3_takeStops 132 = .ok (.aload_n 0, 1) := by decide +kernel
theorem dX3_takeStops_133 : decode cX3_takeStops 133 = .ok (.getfield 42, 3) := by decide +kernel
theorem dX3_takeStops_136 : decode cX3_takeStops 136 = .ok (.if_icmp .ge 55, 3) := by decide +kernel
theorem dX3_takeStops_139 : decode cX3_takeStops 139 = .ok (.iload_n 3, 1) := by decide +kernel
theorem dX3_takeStops_140 : decode cX3_takeStops 140 = .ok (.bipush 8, 2) := by decide +kernel
theorem dX3_takeStops_142 : decode cX3_takeStops 142 = .ok (.if_icmp .ge 49, 3) := by decide +kernel
theorem dX3_takeStops_145 : decode cX3_takeStops 145 = .ok (.aload_n 0, 1) := by decide +kernel
theorem dX3_takeStops_146 : decode cX3_takeStops 146 = .ok (.getfield 15, 3) := by decide +kernel
theorem dX3_takeStops_149 : decode cX3_takeStops 149 = .ok (.bipush 8, 2) := by decide +kernel
theorem dX3_takeStops_151 : decode cX3_takeStops 151 = .ok (.iload_n 2, 1) := by decide +kernel
theorem dX3_takeStops_152 : decode cX3_takeStops 152 = .ok (.imul, 1) := by decide +kernel
theorem dX3_takeStops_153 : decode cX3_takeStops 153 = .ok (.iload_n 3, 1) := by decide +kernel
theorem dX3_takeStops_154 : decode cX3_takeStops 154 = .ok (.iadd, 1) := by decide +kernel
theorem dX3_takeStops_155 : decode cX3_takeStops 155 = .ok (.aload_n 0, 1) := by decide +kernel
theorem dX3_takeStops_156 : decode cX3_takeStops 156 = .ok (.getfield 27, 3) := by decide +kernel
theorem dX3_takeStops_159 : decode cX3_takeStops 159 = .ok (.getfield 63, 3) := by decide +kernel
theorem dX3_takeStops_162 : decode cX3_takeStops 162 = .ok (.aload_n 0, 1) := by decide +kernel
theorem dX3_takeStops_163 : decode cX3_takeStops 163 = .ok (.getfield 11, 3) := by decide +kernel
theorem dX3_takeStops_166 : decode cX3_takeStops 166 = .ok (.iload_n 2, 1) := by decide +kernel
theorem dX3_takeStops_167 : decode cX3_takeStops 167 = .ok (.iaload, 1) := by decide +kernel
theorem dX3_takeStops_168 : decode cX3_takeStops 168 = .ok (.aload_n 0, 1) := by decide +kernel
theorem dX3_takeStops_169 : decode cX3_takeStops 169 = .ok (.getfield 27, 3) := by decide +kernel
theorem dX3_takeStops_172 : decode cX3_takeStops 172 = .ok (.getfield 63, 3) := by decide +kernel
theorem dX3_takeStops_175 : decode cX3_takeStops 175 = .ok (.aload_n 0, 1) := by decide +kernel
theorem dX3_takeStops_176 : decode cX3_takeStops 176 = .ok (.getfield 11, 3) := by decide +kernel
theorem dX3_takeStops_179 : decode cX3_takeStops 179 = .ok (.iload_n 3, 1) := by decide +kernel
theorem dX3_takeStops_180 : decode cX3_takeStops 180 = .ok (.iaload, 1) := by decide +kernel
theorem dX3_takeStops_181 : decode cX3_takeStops 181 = .ok (.invokestatic 84, 3) := by decide +kernel
theorem dX3_takeStops_184 : decode cX3_takeStops 184 = .ok (.iastore, 1) := by decide +kernel
theorem dX3_takeStops_185 : decode cX3_takeStops 185 = .ok (.iinc 3 1, 3) := by decide +kernel
theorem dX3_takeStops_188 : decode cX3_takeStops 188 = .ok (.goto (-57), 3) := by decide +kernel
theorem dX3_takeStops_191 : decode cX3_takeStops 191 = .ok (.iinc 2 1, 3) := by decide +kernel
theorem dX3_takeStops_194 : decode cX3_takeStops 194 = .ok (.goto (-79), 3) := by decide +kernel
theorem dX3_takeStops_197 : decode cX3_takeStops 197 = .ok (.return_, 1) := by decide +kernel
def f_X3_takeStops_b131 (kk115 : Int32 → q_Mem → Option q_Mem) (a0 : Nat) (a2 : Int32) : Nat → Int32 → q_Mem → Option q_Mem
  | 0, _, _ => none
  | n + 1, a3, M =>
    (q_gI 2 2 M a0).bind fun v48 =>
    (if a3 < v48 then
      (if a3 < (8 : Int32) then
        (q_gR 2 3 M a0).bind fun v50 =>
        (q_gR 2 0 M a0).bind fun v52 =>
        (q_gR 4 0 M v52).bind fun v54 =>
        (q_gR 2 1 M a0).bind fun v56 =>
        (q_lI M v56 a2).bind fun v58 =>
        (q_gR 2 0 M a0).bind fun v60 =>
        (q_gR 4 0 M v60).bind fun v62 =>
        (q_gR 2 1 M a0).bind fun v64 =>
        (q_lI M v64 a3).bind fun v66 =>
        (f_X11_milesBetween M v54 v58 v62 v66).bind fun v69 =>
        (q_tI M v50 (((8 : Int32) * a2) + a3) v69).bind fun M70 =>
        f_X3_takeStops_b131 kk115 a0 a2 n (a3 + (1 : Int32)) M70
      else
        kk115 (a2 + (1 : Int32)) M)
    else
      kk115 (a2 + (1 : Int32)) M)
def f_X3_takeStops_b115 (a0 : Nat) : Nat → Int32 → q_Mem → Option q_Mem
  | 0, _, _ => none
  | n + 1, a2, M =>
    (q_gI 2 2 M a0).bind fun v44 =>
    (if a2 < v44 then
      (if a2 < (8 : Int32) then
        f_X3_takeStops_b131 (f_X3_takeStops_b115 a0 n) a0 a2 q_fuel (0 : Int32) M
      else
        some M)
    else
      some M)
def f_X3_takeStops_b7 (a0 : Nat) (a1 : Int32) : Nat → Int32 → q_Mem → Option q_Mem
  | 0, _, _ => none
  | n + 1, a2, M =>
    (q_gR 2 0 M a0).bind fun v3 =>
    (q_gR 4 0 M v3).bind fun v5 =>
    (q_gI 8 3 M v5).bind fun v7 =>
    (if a2 < v7 then
      (q_gI 2 2 M a0).bind fun v9 =>
      (if v9 < (8 : Int32) then
        (f_X11_holds M a1 a2).bind fun v12 =>
        (if v12 = 0 then
          f_X3_takeStops_b7 a0 a1 n (a2 + (1 : Int32)) M
        else
          (q_gR 2 1 M a0).bind fun v13 =>
          (q_gI 2 2 M a0).bind fun v15 =>
          (q_tI M v13 v15 a2).bind fun M17 =>
          (q_gR 2 4 M17 a0).bind fun v19 =>
          (q_gI 2 2 M17 a0).bind fun v21 =>
          (q_gR 2 0 M17 a0).bind fun v23 =>
          (q_gR 4 0 M17 v23).bind fun v25 =>
          (f_X9_at M17 v25 a2 (0 : Int32)).bind fun v28 =>
          (q_gR 2 0 M17 a0).bind fun v29 =>
          (q_gR 4 0 M17 v29).bind fun v31 =>
          (f_X9_at M17 v31 a2 (1 : Int32)).bind fun v34 =>
          (q_tI M17 v19 v21 ((q_ab (v28 - (100 : Int32))) + (q_ab (v34 - (100 : Int32))))).bind fun M35 =>
          (q_gI 2 2 M35 a0).bind fun v37 =>
          (q_pI 2 2 M35 a0 (v37 + (1 : Int32))).bind fun M39 =>
          f_X3_takeStops_b7 a0 a1 n (a2 + (1 : Int32)) M39)
      else
        f_X3_takeStops_b115 a0 q_fuel (0 : Int32) M)
    else
      f_X3_takeStops_b115 a0 q_fuel (0 : Int32) M)
def f_X3_takeStops (M : q_Mem) (a0 : Nat) (a1 : Int32) : Option q_Mem :=
  q_ob 2 M a0 ((q_pI 2 2 M a0 (0 : Int32)).bind fun M1 =>
  f_X3_takeStops_b7 a0 a1 q_fuel (0 : Int32) M1)
set_option maxRecDepth 20000 in
theorem v_X3_takeStops_b131 {kk115 : Int32 → q_Mem → Option q_Mem} {a0 : Nat} {a2 : Int32} (hk115 : ∀ (a2 : Int32) (M : q_Mem), q_V Y_X3_takeStops none (fun x : q_Mem => (none, x)) 0 0 115 [(0, .ref a0), (2, .int a2)] [] M (kk115 a2 M)) : ∀ (n : Nat) (a3 : Int32) (M : q_Mem), q_V Y_X3_takeStops none (fun x : q_Mem => (none, x)) 0 0 131 [(0, .ref a0), (2, .int a2), (3, .int a3)] [] M (f_X3_takeStops_b131 kk115 a0 a2 n a3 M) := by
  intro n
  induction n with
  | zero => intro a3 M; exact q_none
  | succ n ih =>
    intro a3 M
    rw [f_X3_takeStops_b131.eq_2]
    refine q_iload_n 2 dX3_takeStops_131 rfl ?_
    refine q_aload_n 0 dX3_takeStops_132 rfl ?_
    refine q_getI (f := 2) cl_X3 (by decide) qw_300 rfl dX3_takeStops_133 (Or.inl rfl) (fun v48 h49 => ?_)
    refine q_icmp_ge (tgt := 191) dX3_takeStops_136 (by decide) (fun c73 => ?_) (fun c73 => ?_)
    · refine q_iload_n 2 dX3_takeStops_139 rfl ?_
      refine q_bipush (x := (8 : Int32)) dX3_takeStops_140 rfl ?_
      refine q_icmp_ge (tgt := 191) dX3_takeStops_142 (by decide) (fun c72 => ?_) (fun c72 => ?_)
      · refine q_aload_n 0 dX3_takeStops_145 rfl ?_
        refine q_getR (f := 3) cl_X3 (by decide) qw_301 rfl dX3_takeStops_146 (fun _ _ _ => rfl) (fun v50 h51 => ?_)
        refine q_bipush (x := (8 : Int32)) dX3_takeStops_149 rfl ?_
        refine q_iload_n 1 dX3_takeStops_151 rfl ?_
        refine q_imul dX3_takeStops_152 ?_
        refine q_iload_n 2 dX3_takeStops_153 rfl ?_
        refine q_iadd dX3_takeStops_154 ?_
        refine q_aload_n 0 dX3_takeStops_155 rfl ?_
        refine q_getR (f := 0) cl_X3 (by decide) qw_298 rfl dX3_takeStops_156 (fun _ _ _ => rfl) (fun v52 h53 => ?_)
        refine q_getR (f := 0) cl_X5 (by decide) qw_74 rfl dX3_takeStops_159 (fun _ _ _ => rfl) (fun v54 h55 => ?_)
        refine q_aload_n 0 dX3_takeStops_162 rfl ?_
        refine q_getR (f := 1) cl_X3 (by decide) qw_299 rfl dX3_takeStops_163 (fun _ _ _ => rfl) (fun v56 h57 => ?_)
        refine q_iload_n 1 dX3_takeStops_166 rfl ?_
        refine q_iald dX3_takeStops_167 (fun v58 h59 => ?_)
        refine q_aload_n 0 dX3_takeStops_168 rfl ?_
        refine q_getR (f := 0) cl_X3 (by decide) qw_298 rfl dX3_takeStops_169 (fun _ _ _ => rfl) (fun v60 h61 => ?_)
        refine q_getR (f := 0) cl_X5 (by decide) qw_74 rfl dX3_takeStops_172 (fun _ _ _ => rfl) (fun v62 h63 => ?_)
        refine q_aload_n 0 dX3_takeStops_175 rfl ?_
        refine q_getR (f := 1) cl_X3 (by decide) qw_299 rfl dX3_takeStops_176 (fun _ _ _ => rfl) (fun v64 h65 => ?_)
        refine q_iload_n 2 dX3_takeStops_179 rfl ?_
        refine q_iald dX3_takeStops_180 (fun v66 h67 => ?_)
        refine q_cNI (Y2 := Y_X11_milesBetween) (As := [.ref v54, .int v58, .ref v62, .int v66]) (st := [.int (((8 : Int32) * a2) + a3), .ref v50]) ms_X11_milesBetween (host := "CountyCream") (by decide +kernel) dX3_takeStops_181 ⟨Nat.le_of_ble_eq_true rfl, Nat.le_of_ble_eq_true rfl⟩ rfl (fun _ _ => rfl) (Nat.le_of_ble_eq_true rfl) ⟨Nat.le_of_ble_eq_true rfl, Nat.le_of_ble_eq_true rfl⟩ (fun v69 h68 => m_X11_milesBetween h68) (fun v69 h68 => ?_)
        refine q_iast dX3_takeStops_184 (fun M70 h71 => ?_)
        refine q_iinc 2 (y := (a3 + (1 : Int32))) (ls' := [(3, .int (a3 + (1 : Int32))), (0, .ref a0), (2, .int a2)]) dX3_takeStops_185 rfl rfl (by decide) rfl ?_
        refine q_goto (tgt := 131) dX3_takeStops_188 (by decide) ?_
        refine q_sub (ls' := [(0, .ref a0), (2, .int a2), (3, .int (a3 + (1 : Int32)))]) [1, 2, 0] rfl ?_
        exact ih _ _
      · refine q_iinc 1 (y := (a2 + (1 : Int32))) (ls' := [(2, .int (a2 + (1 : Int32))), (0, .ref a0), (3, .int a3)]) dX3_takeStops_191 rfl rfl (by decide) rfl ?_
        refine q_goto (tgt := 115) dX3_takeStops_194 (by decide) ?_
        refine q_sub (ls' := [(0, .ref a0), (2, .int (a2 + (1 : Int32)))]) [1, 0] rfl ?_
        exact hk115 _ _
    · refine q_iinc 1 (y := (a2 + (1 : Int32))) (ls' := [(2, .int (a2 + (1 : Int32))), (0, .ref a0), (3, .int a3)]) dX3_takeStops_191 rfl rfl (by decide) rfl ?_
      refine q_goto (tgt := 115) dX3_takeStops_194 (by decide) ?_
      refine q_sub (ls' := [(0, .ref a0), (2, .int (a2 + (1 : Int32)))]) [1, 0] rfl ?_
      exact hk115 _ _
set_option maxRecDepth 20000 in
theorem v_X3_takeStops_b115 {a0 : Nat}  : ∀ (n : Nat) (a2 : Int32) (M : q_Mem), q_V Y_X3_takeStops none (fun x : q_Mem => (none, x)) 0 0 115 [(0, .ref a0), (2, .int a2)] [] M (f_X3_takeStops_b115 a0 n a2 M) := by
  intro n
  induction n with
  | zero => intro a2 M; exact q_none
  | succ n ih =>
    intro a2 M
    rw [f_X3_takeStops_b115.eq_2]
    refine q_iload_n 1 dX3_takeStops_115 rfl ?_
    refine q_aload_n 0 dX3_takeStops_116 rfl ?_
    refine q_getI (f := 2) cl_X3 (by decide) qw_300 rfl dX3_takeStops_117 (Or.inl rfl) (fun v44 h45 => ?_)
    refine q_icmp_ge (tgt := 197) dX3_takeStops_120 (by decide) (fun c47 => ?_) (fun c47 => ?_)
    · refine q_iload_n 1 dX3_takeStops_123 rfl ?_
      refine q_bipush (x := (8 : Int32)) dX3_takeStops_124 rfl ?_
      refine q_icmp_ge (tgt := 197) dX3_takeStops_126 (by decide) (fun c46 => ?_) (fun c46 => ?_)
      · refine q_iconst (x := (0 : Int32)) dX3_takeStops_129 rfl ?_
        refine q_istore_n (ls' := [(3, .int (0 : Int32)), (0, .ref a0), (2, .int a2)]) dX3_takeStops_130 (by decide) rfl ?_
        refine q_sub (ls' := [(0, .ref a0), (2, .int a2), (3, .int (0 : Int32))]) [1, 2, 0] rfl ?_
        exact v_X3_takeStops_b131 (ih) _ _ _
      · exact q_vret dX3_takeStops_197 rfl rfl (Nat.le_of_ble_eq_true rfl) rfl
    · exact q_vret dX3_takeStops_197 rfl rfl (Nat.le_of_ble_eq_true rfl) rfl
set_option maxRecDepth 20000 in
theorem v_X3_takeStops_b7 {a0 : Nat} {a1 : Int32}  : ∀ (n : Nat) (a2 : Int32) (M : q_Mem), q_V Y_X3_takeStops none (fun x : q_Mem => (none, x)) 0 0 7 [(0, .ref a0), (1, .int a1), (2, .int a2)] [] M (f_X3_takeStops_b7 a0 a1 n a2 M) := by
  intro n
  induction n with
  | zero => intro a2 M; exact q_none
  | succ n ih =>
    intro a2 M
    rw [f_X3_takeStops_b7.eq_2]
    refine q_iload_n 2 dX3_takeStops_7 rfl ?_
    refine q_aload_n 0 dX3_takeStops_8 rfl ?_
    refine q_getR (f := 0) cl_X3 (by decide) qw_298 rfl dX3_takeStops_9 (fun _ _ _ => rfl) (fun v3 h4 => ?_)
    refine q_getR (f := 0) cl_X5 (by decide) qw_74 rfl dX3_takeStops_12 (fun _ _ _ => rfl) (fun v5 h6 => ?_)
    refine q_getI (f := 3) cl_X9 (by decide) qw_50 rfl dX3_takeStops_15 (Or.inl rfl) (fun v7 h8 => ?_)
    refine q_icmp_ge (tgt := 113) dX3_takeStops_18 (by decide) (fun c43 => ?_) (fun c43 => ?_)
    · refine q_aload_n 0 dX3_takeStops_21 rfl ?_
      refine q_getI (f := 2) cl_X3 (by decide) qw_300 rfl dX3_takeStops_22 (Or.inl rfl) (fun v9 h10 => ?_)
      refine q_bipush (x := (8 : Int32)) dX3_takeStops_25 rfl ?_
      refine q_icmp_ge (tgt := 113) dX3_takeStops_27 (by decide) (fun c42 => ?_) (fun c42 => ?_)
      · refine q_iload_n 1 dX3_takeStops_30 rfl ?_
        refine q_iload_n 2 dX3_takeStops_31 rfl ?_
        refine q_cNI (Y2 := Y_X11_holds) (As := [.int a1, .int a2]) (st := []) ms_X11_holds (host := "CountyCream") (by decide +kernel) dX3_takeStops_32 ⟨Nat.le_of_ble_eq_true rfl, Nat.le_of_ble_eq_true rfl⟩ rfl (fun _ _ => rfl) (Nat.le_of_ble_eq_true rfl) ⟨Nat.le_of_ble_eq_true rfl, Nat.le_of_ble_eq_true rfl⟩ (fun v12 h11 => m_X11_holds h11) (fun v12 h11 => ?_)
        refine q_if_ne (tgt := 41) dX3_takeStops_35 (by decide) (fun c41 => ?_) (fun c41 => ?_)
        · refine q_goto (tgt := 107) dX3_takeStops_38 (by decide) ?_
          refine q_iinc 2 (y := (a2 + (1 : Int32))) (ls' := [(2, .int (a2 + (1 : Int32))), (0, .ref a0), (1, .int a1)]) dX3_takeStops_107 rfl rfl (by decide) rfl ?_
          refine q_goto (tgt := 7) dX3_takeStops_110 (by decide) ?_
          refine q_sub (ls' := [(0, .ref a0), (1, .int a1), (2, .int (a2 + (1 : Int32)))]) [1, 2, 0] rfl ?_
          exact ih _ _
        · refine q_aload_n 0 dX3_takeStops_41 rfl ?_
          refine q_getR (f := 1) cl_X3 (by decide) qw_299 rfl dX3_takeStops_42 (fun _ _ _ => rfl) (fun v13 h14 => ?_)
          refine q_aload_n 0 dX3_takeStops_45 rfl ?_
          refine q_getI (f := 2) cl_X3 (by decide) qw_300 rfl dX3_takeStops_46 (Or.inl rfl) (fun v15 h16 => ?_)
          refine q_iload_n 2 dX3_takeStops_49 rfl ?_
          refine q_iast dX3_takeStops_50 (fun M17 h18 => ?_)
          refine q_aload_n 0 dX3_takeStops_51 rfl ?_
          refine q_getR (f := 4) cl_X3 (by decide) qw_302 rfl dX3_takeStops_52 (fun _ _ _ => rfl) (fun v19 h20 => ?_)
          refine q_aload_n 0 dX3_takeStops_55 rfl ?_
          refine q_getI (f := 2) cl_X3 (by decide) qw_300 rfl dX3_takeStops_56 (Or.inl rfl) (fun v21 h22 => ?_)
          refine q_aload_n 0 dX3_takeStops_59 rfl ?_
          refine q_getR (f := 0) cl_X3 (by decide) qw_298 rfl dX3_takeStops_60 (fun _ _ _ => rfl) (fun v23 h24 => ?_)
          refine q_getR (f := 0) cl_X5 (by decide) qw_74 rfl dX3_takeStops_63 (fun _ _ _ => rfl) (fun v25 h26 => ?_)
          refine q_iload_n 2 dX3_takeStops_66 rfl ?_
          refine q_iconst (x := (0 : Int32)) dX3_takeStops_67 rfl ?_
          refine q_cVI (Y2 := Y_X9_at) (As := [.int a2, .int (0 : Int32)]) (b := v25) (st := [.int v21, .ref v19]) cl_X9 mv_X9_at qw_889 dX3_takeStops_68 ⟨Nat.le_of_ble_eq_true rfl, Nat.le_of_ble_eq_true rfl⟩ rfl (fun _ _ => rfl) (Nat.le_of_ble_eq_true rfl) ⟨Nat.le_of_ble_eq_true rfl, Nat.le_of_ble_eq_true rfl⟩ (fun v28 h27 => q_ob_is h27) (fun v28 h27 => m_X9_at h27) (fun v28 h27 => ?_)
          refine q_bipush (x := (100 : Int32)) dX3_takeStops_71 rfl ?_
          refine q_isub dX3_takeStops_73 ?_
          refine q_mabs qw_890 qm_mabs_1 qm_2 qm_mabs_3 dX3_takeStops_74 (Nat.le_of_ble_eq_true rfl) (Nat.le_of_ble_eq_true rfl) (Nat.le_of_ble_eq_true rfl) ⟨Nat.le_of_ble_eq_true rfl, Nat.le_of_ble_eq_true rfl⟩ ?_
          refine q_aload_n 0 dX3_takeStops_77 rfl ?_
          refine q_getR (f := 0) cl_X3 (by decide) qw_298 rfl dX3_takeStops_78 (fun _ _ _ => rfl) (fun v29 h30 => ?_)
          refine q_getR (f := 0) cl_X5 (by decide) qw_74 rfl dX3_takeStops_81 (fun _ _ _ => rfl) (fun v31 h32 => ?_)
          refine q_iload_n 2 dX3_takeStops_84 rfl ?_
          refine q_iconst (x := (1 : Int32)) dX3_takeStops_85 rfl ?_
          refine q_cVI (Y2 := Y_X9_at) (As := [.int a2, .int (1 : Int32)]) (b := v31) (st := [.int (q_ab (v28 - (100 : Int32))), .int v21, .ref v19]) cl_X9 mv_X9_at qw_889 dX3_takeStops_86 ⟨Nat.le_of_ble_eq_true rfl, Nat.le_of_ble_eq_true rfl⟩ rfl (fun _ _ => rfl) (Nat.le_of_ble_eq_true rfl) ⟨Nat.le_of_ble_eq_true rfl, Nat.le_of_ble_eq_true rfl⟩ (fun v34 h33 => q_ob_is h33) (fun v34 h33 => m_X9_at h33) (fun v34 h33 => ?_)
          refine q_bipush (x := (100 : Int32)) dX3_takeStops_89 rfl ?_
          refine q_isub dX3_takeStops_91 ?_
          refine q_mabs qw_890 qm_mabs_1 qm_2 qm_mabs_3 dX3_takeStops_92 (Nat.le_of_ble_eq_true rfl) (Nat.le_of_ble_eq_true rfl) (Nat.le_of_ble_eq_true rfl) ⟨Nat.le_of_ble_eq_true rfl, Nat.le_of_ble_eq_true rfl⟩ ?_
          refine q_iadd dX3_takeStops_95 ?_
          refine q_iast dX3_takeStops_96 (fun M35 h36 => ?_)
          refine q_aload_n 0 dX3_takeStops_97 rfl ?_
          refine q_dup dX3_takeStops_98 rfl ?_
          refine q_getI (f := 2) cl_X3 (by decide) qw_300 rfl dX3_takeStops_99 (Or.inl rfl) (fun v37 h38 => ?_)
          refine q_iconst (x := (1 : Int32)) dX3_takeStops_102 rfl ?_
          refine q_iadd dX3_takeStops_103 ?_
          refine q_putI (f := 2) cl_X3 (by decide) qw_300 rfl (Or.inl rfl) dX3_takeStops_104 rfl (fun M39 h40 => ?_)
          refine q_iinc 2 (y := (a2 + (1 : Int32))) (ls' := [(2, .int (a2 + (1 : Int32))), (0, .ref a0), (1, .int a1)]) dX3_takeStops_107 rfl rfl (by decide) rfl ?_
          refine q_goto (tgt := 7) dX3_takeStops_110 (by decide) ?_
          refine q_sub (ls' := [(0, .ref a0), (1, .int a1), (2, .int (a2 + (1 : Int32)))]) [1, 2, 0] rfl ?_
          exact ih _ _
      · refine q_iconst (x := (0 : Int32)) dX3_takeStops_113 rfl ?_
        refine q_istore_n (ls' := [(2, .int (0 : Int32)), (0, .ref a0), (1, .int a1)]) dX3_takeStops_114 (by decide) rfl ?_
        refine q_sub (ls' := [(0, .ref a0), (2, .int (0 : Int32))]) [1, 0] rfl ?_
        exact v_X3_takeStops_b115 _ _ _
    · refine q_iconst (x := (0 : Int32)) dX3_takeStops_113 rfl ?_
      refine q_istore_n (ls' := [(2, .int (0 : Int32)), (0, .ref a0), (1, .int a1)]) dX3_takeStops_114 (by decide) rfl ?_
      refine q_sub (ls' := [(0, .ref a0), (2, .int (0 : Int32))]) [1, 0] rfl ?_
      exact v_X3_takeStops_b115 _ _ _
set_option maxRecDepth 20000 in
theorem m_X3_takeStops {M : q_Mem} {a0 : Nat} {a1 : Int32} {x : q_Mem} (h : f_X3_takeStops M a0 a1 = some x) : q_C Y_X3_takeStops [.ref a0, .int a1] M none x := by
  refine q_met (φ := (fun x : q_Mem => (none, x))) (r := f_X3_takeStops M a0 a1) (by decide +kernel) (Nat.le_of_ble_eq_true rfl) ?_ h (fun _ _ => rfl)
  show q_V Y_X3_takeStops none (fun x : q_Mem => (none, x)) 0 0 0 [(0, .ref a0), (1, .int a1)] [] M (f_X3_takeStops M a0 a1)
  unfold f_X3_takeStops
  refine q_obV ?_
  refine q_aload_n 0 dX3_takeStops_0 rfl ?_
  refine q_iconst (x := (0 : Int32)) dX3_takeStops_1 rfl ?_
  refine q_putI (f := 2) cl_X3 (by decide) qw_300 rfl (Or.inl rfl) dX3_takeStops_2 rfl (fun M1 h2 => ?_)
  refine q_iconst (x := (0 : Int32)) dX3_takeStops_5 rfl ?_
  refine q_istore_n (ls' := [(2, .int (0 : Int32)), (0, .ref a0), (1, .int a1)]) dX3_takeStops_6 (by decide) rfl ?_
  refine q_sub (ls' := [(0, .ref a0), (1, .int a1), (2, .int (0 : Int32))]) [1, 2, 0] rfl ?_
  exact v_X3_takeStops_b7 _ _ _
theorem dX3_homeOf_0 : decode cX3_homeOf 0 = .ok (.iload_n 1, 1) := by decide +kernel
theorem dX3_homeOf_1 : decode cX3_homeOf 1 = .ok (.ifCond .lt 9, 3) := by decide +kernel
theorem dX3_homeOf_4 : decode cX3_homeOf 4 = .ok (.iload_n 1, 1) := by decide +kernel
theorem dX3_homeOf_5 : decode cX3_homeOf 5 = .ok (.bipush 8, 2) := by decide +kernel
theorem dX3_homeOf_7 : decode cX3_homeOf 7 = .ok (.if_icmp .lt 7, 3) := by decide +kernel
theorem dX3_homeOf_10 : decode cX3_homeOf 10 = .ok (.iconst 0, 1) := by decide +kernel
theorem dX3_homeOf_11 : decode cX3_homeOf 11 = .ok (.goto 9, 3) := by decide +kernel
theorem dX3_homeOf_14 : decode cX3_homeOf 14 = .ok (.aload_n 0, 1) := by decide +kernel
theorem dX3_homeOf_15 : decode cX3_homeOf 15 = .ok (.getfield 18, 3) := by decide +kernel
theorem dX3_homeOf_18 : decode cX3_homeOf 18 = .ok (.iload_n 1, 1) := by decide +kernel
theorem dX3_homeOf_19 : decode cX3_homeOf 19 = .ok (.iaload, 1) := by decide +kernel
theorem dX3_homeOf_20 : decode cX3_homeOf 20 = .ok (.ireturn, 1) := by decide +kernel
def f_X3_homeOf (M : q_Mem) (a0 : Nat) (a1 : Int32) : Option Int32 :=
  q_ob 2 M a0 ((if a1 < 0 then
    some (0 : Int32)
  else
    (if a1 < (8 : Int32) then
      (q_gR 2 4 M a0).bind fun v1 =>
      (q_lI M v1 a1).bind fun v3 =>
      some v3
    else
      some (0 : Int32))))
set_option maxRecDepth 20000 in
theorem m_X3_homeOf {M : q_Mem} {a0 : Nat} {a1 : Int32} {x : Int32} (h : f_X3_homeOf M a0 a1 = some x) : q_C Y_X3_homeOf [.ref a0, .int a1] M (some (.int x)) M := by
  refine q_met (φ := (fun x : Int32 => (some (.int x), M))) (r := f_X3_homeOf M a0 a1) (by decide +kernel) (Nat.le_of_ble_eq_true rfl) ?_ h (fun _ _ => rfl)
  show q_V Y_X3_homeOf none (fun x : Int32 => (some (.int x), M)) 0 0 0 [(0, .ref a0), (1, .int a1)] [] M (f_X3_homeOf M a0 a1)
  unfold f_X3_homeOf
  refine q_obV ?_
  refine q_iload_n 1 dX3_homeOf_0 rfl ?_
  refine q_if_lt (tgt := 10) dX3_homeOf_1 (by decide) (fun c6 => ?_) (fun c6 => ?_)
  · refine q_iconst (x := (0 : Int32)) dX3_homeOf_10 rfl ?_
    refine q_goto (tgt := 20) dX3_homeOf_11 (by decide) ?_
    exact q_iret dX3_homeOf_20 rfl rfl (Nat.le_of_ble_eq_true rfl) rfl
  · refine q_iload_n 1 dX3_homeOf_4 rfl ?_
    refine q_bipush (x := (8 : Int32)) dX3_homeOf_5 rfl ?_
    refine q_icmp_lt (tgt := 14) dX3_homeOf_7 (by decide) (fun c5 => ?_) (fun c5 => ?_)
    · refine q_aload_n 0 dX3_homeOf_14 rfl ?_
      refine q_getR (f := 4) cl_X3 (by decide) qw_302 rfl dX3_homeOf_15 (fun _ _ _ => rfl) (fun v1 h2 => ?_)
      refine q_iload_n 1 dX3_homeOf_18 rfl ?_
      refine q_iald dX3_homeOf_19 (fun v3 h4 => ?_)
      exact q_iret dX3_homeOf_20 rfl rfl (Nat.le_of_ble_eq_true rfl) rfl
    · refine q_iconst (x := (0 : Int32)) dX3_homeOf_10 rfl ?_
      refine q_goto (tgt := 20) dX3_homeOf_11 (by decide) ?_
      exact q_iret dX3_homeOf_20 rfl rfl (Nat.le_of_ble_eq_true rfl) rfl
theorem dX3_restOf_0 : decode cX3_restOf 0 = .ok (.bipush 8, 2) := by decide +kernel
theorem dX3_restOf_2 : decode cX3_restOf 2 = .ok (.iload_n 1, 1) := by decide +kernel
theorem dX3_restOf_3 : decode cX3_restOf 3 = .ok (.imul, 1) := by decide +kernel
theorem dX3_restOf_4 : decode cX3_restOf 4 = .ok (.iload_n 2, 1) := by decide +kernel
theorem dX3_restOf_5 : decode cX3_restOf 5 = .ok (.iadd, 1) := by decide +kernel
theorem dX3_restOf_6 : decode cX3_restOf 6 = .ok (.istore_n 3, 1) := by decide +kernel
theorem dX3_restOf_7 : decode cX3_restOf 7 = .ok (.iload_n 3, 1) := by decide +kernel
theorem dX3_restOf_8 : decode cX3_restOf 8 = .ok (.ifCond .lt 12, 3) := by decide +kernel
theorem dX3_restOf_11 : decode cX3_restOf 11 = .ok (.iload_n 3, 1) := by decide +kernel
theorem dX3_restOf_12 : decode cX3_restOf 12 = .ok (.aload_n 0, 1) := by decide +kernel
theorem dX3_restOf_13 : decode cX3_restOf 13 = .ok (.getfield 21, 3) := by decide +kernel
theorem dX3_restOf_16 : decode cX3_restOf 16 = .ok (.arraylength, 1) := by decide +kernel
theorem dX3_restOf_17 : decode cX3_restOf 17 = .ok (.if_icmp .lt 7, 3) := by decide +kernel
theorem dX3_restOf_20 : decode cX3_restOf 20 = .ok (.iconst 0, 1) := by decide +kernel
theorem dX3_restOf_21 : decode cX3_restOf 21 = .ok (.goto 9, 3) := by decide +kernel
theorem dX3_restOf_24 : decode cX3_restOf 24 = .ok (.aload_n 0, 1) := by decide +kernel
theorem dX3_restOf_25 : decode cX3_restOf 25 = .ok (.getfield 21, 3) := by decide +kernel
theorem dX3_restOf_28 : decode cX3_restOf 28 = .ok (.iload_n 3, 1) := by decide +kernel
theorem dX3_restOf_29 : decode cX3_restOf 29 = .ok (.iaload, 1) := by decide +kernel
theorem dX3_restOf_30 : decode cX3_restOf 30 = .ok (.ireturn, 1) := by decide +kernel
def f_X3_restOf (M : q_Mem) (a0 : Nat) (a1 : Int32) (a2 : Int32) : Option Int32 :=
  q_ob 2 M a0 ((if (((8 : Int32) * a1) + a2) < 0 then
    some (0 : Int32)
  else
    (q_gR 2 5 M a0).bind fun v1 =>
    (q_ln M v1).bind fun v3 =>
    (if (((8 : Int32) * a1) + a2) < v3 then
      (q_gR 2 5 M a0).bind fun v5 =>
      (q_lI M v5 (((8 : Int32) * a1) + a2)).bind fun v7 =>
      some v7
    else
      some (0 : Int32))))
set_option maxRecDepth 20000 in
theorem m_X3_restOf {M : q_Mem} {a0 : Nat} {a1 : Int32} {a2 : Int32} {x : Int32} (h : f_X3_restOf M a0 a1 a2 = some x) : q_C Y_X3_restOf [.ref a0, .int a1, .int a2] M (some (.int x)) M := by
  refine q_met (φ := (fun x : Int32 => (some (.int x), M))) (r := f_X3_restOf M a0 a1 a2) (by decide +kernel) (Nat.le_of_ble_eq_true rfl) ?_ h (fun _ _ => rfl)
  show q_V Y_X3_restOf none (fun x : Int32 => (some (.int x), M)) 0 0 0 [(0, .ref a0), (1, .int a1), (2, .int a2)] [] M (f_X3_restOf M a0 a1 a2)
  unfold f_X3_restOf
  refine q_obV ?_
  refine q_bipush (x := (8 : Int32)) dX3_restOf_0 rfl ?_
  refine q_iload_n 1 dX3_restOf_2 rfl ?_
  refine q_imul dX3_restOf_3 ?_
  refine q_iload_n 2 dX3_restOf_4 rfl ?_
  refine q_iadd dX3_restOf_5 ?_
  refine q_istore_n (ls' := [(3, .int (((8 : Int32) * a1) + a2)), (0, .ref a0), (1, .int a1), (2, .int a2)]) dX3_restOf_6 (by decide) rfl ?_
  refine q_iload_n 0 dX3_restOf_7 rfl ?_
  refine q_if_lt (tgt := 20) dX3_restOf_8 (by decide) (fun c10 => ?_) (fun c10 => ?_)
  · refine q_iconst (x := (0 : Int32)) dX3_restOf_20 rfl ?_
    refine q_goto (tgt := 30) dX3_restOf_21 (by decide) ?_
    exact q_iret dX3_restOf_30 rfl rfl (Nat.le_of_ble_eq_true rfl) rfl
  · refine q_iload_n 0 dX3_restOf_11 rfl ?_
    refine q_aload_n 1 dX3_restOf_12 rfl ?_
    refine q_getR (f := 5) cl_X3 (by decide) qw_303 rfl dX3_restOf_13 (fun _ _ _ => rfl) (fun v1 h2 => ?_)
    refine q_alen dX3_restOf_16 (fun v3 h4 => ?_)
    refine q_icmp_lt (tgt := 24) dX3_restOf_17 (by decide) (fun c9 => ?_) (fun c9 => ?_)
    · refine q_aload_n 1 dX3_restOf_24 rfl ?_
      refine q_getR (f := 5) cl_X3 (by decide) qw_303 rfl dX3_restOf_25 (fun _ _ _ => rfl) (fun v5 h6 => ?_)
      refine q_iload_n 0 dX3_restOf_28 rfl ?_
      refine q_iald dX3_restOf_29 (fun v7 h8 => ?_)
      exact q_iret dX3_restOf_30 rfl rfl (Nat.le_of_ble_eq_true rfl) rfl
    · refine q_iconst (x := (0 : Int32)) dX3_restOf_20 rfl ?_
      refine q_goto (tgt := 30) dX3_restOf_21 (by decide) ?_
      exact q_iret dX3_restOf_30 rfl rfl (Nat.le_of_ble_eq_true rfl) rfl
