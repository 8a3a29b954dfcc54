theorem dX3_milesBy_0 : decode cX3_milesBy 0 = .ok (.bipush 8, 2) := by decide +kernel
theorem dX3_milesBy_2 : decode cX3_milesBy 2 = .ok (.iload_n 2, 1) := by decide +kernel
theorem dX3_milesBy_3 : decode cX3_milesBy 3 = .ok (.imul, 1) := by decide +kernel
theorem dX3_milesBy_4 : decode cX3_milesBy 4 = .ok (.iload_n 3, 1) := by decide +kernel
theorem dX3_milesBy_5 : decode cX3_milesBy 5 = .ok (.iadd, 1) := by decide +kernel
theorem dX3_milesBy_6 : decode cX3_milesBy 6 = .ok (.istore 4, 2) := by decide +kernel
theorem dX3_milesBy_8 : decode cX3_milesBy 8 = .ok (.iload 4, 2) := by decide +kernel
theorem dX3_milesBy_10 : decode cX3_milesBy 10 = .ok (.ifCond .lt 13, 3) := by decide +kernel
theorem dX3_milesBy_13 : decode cX3_milesBy 13 = .ok (.iload 4, 2) := by decide +kernel
theorem dX3_milesBy_15 : decode cX3_milesBy 15 = .ok (.aload_n 0, 1) := by decide +kernel
theorem dX3_milesBy_16 : decode cX3_milesBy 16 = .ok (.getfield 15, 3) := by decide +kernel
theorem dX3_milesBy_19 : decode cX3_milesBy 19 = .ok (.arraylength, 1) := by decide +kernel
theorem dX3_milesBy_20 : decode cX3_milesBy 20 = .ok (.if_icmp .lt 7, 3) := by decide +kernel
theorem dX3_milesBy_23 : decode cX3_milesBy 23 = .ok (.iconst 0, 1) := by decide +kernel
theorem dX3_milesBy_24 : decode cX3_milesBy 24 = .ok (.goto 10, 3) := by decide +kernel
theorem dX3_milesBy_27 : decode cX3_milesBy 27 = .ok (.aload_n 0, 1) := by decide +kernel
theorem dX3_milesBy_28 : decode cX3_milesBy 28 = .ok (.getfield 15, 3) := by decide +kernel
theorem dX3_milesBy_31 : decode cX3_milesBy 31 = .ok (.iload 4, 2) := by decide +kernel
theorem dX3_milesBy_33 : decode cX3_milesBy 33 = .ok (.iaload, 1) := by decide +kernel
theorem dX3_milesBy_34 : decode cX3_milesBy 34 = .ok (.istore 5, 2) := by decide +kernel
theorem dX3_milesBy_36 : decode cX3_milesBy 36 = .ok (.iload 5, 2) := by decide +kernel
theorem dX3_milesBy_38 : decode cX3_milesBy 38 = .ok (.aload_n 0, 1) := by decide +kernel
theorem dX3_milesBy_39 : decode cX3_milesBy 39 = .ok (.iload_n 1, 1) := by decide +kernel
theorem dX3_milesBy_40 : decode cX3_milesBy 40 = .ok (.iconst 1, 1) := by decide +kernel
theorem dX3_milesBy_41 : decode cX3_milesBy 41 = .ok (.iload_n 3, 1) := by decide +kernel
theorem dX3_milesBy_42 : decode cX3_milesBy 42 = .ok (.ishl, 1) := by decide +kernel
theorem dX3_milesBy_43 : decode cX3_milesBy 43 = .ok (.iconst (-1), 1) := by decide +kernel
theorem dX3_milesBy_44 : decode cX3_milesBy 44 = .ok (.ixor, 1) := by decide +kernel
theorem dX3_milesBy_45 : decode cX3_milesBy 45 = .ok (.iand, 1) := by decide +kernel
theorem dX3_milesBy_46 : decode cX3_milesBy 46 = .ok (.iload_n 3, 1) := by decide +kernel
theorem dX3_milesBy_47 : decode cX3_milesBy 47 = .ok (.invokevirtual 56, 3) := by decide +kernel
theorem dX3_milesBy_50 : decode cX3_milesBy 50 = .ok (.iadd, 1) := by decide +kernel
theorem dX3_milesBy_51 : decode cX3_milesBy 51 = .ok (.ireturn, 1) := by decide +kernel
def f_X3_milesBy_b34 (M : q_Mem) (a0 : Nat) (a1 : Int32) (a3 : Int32) (s0 : Int32) : Option Int32 :=
  (f_X3_restOf M a0 (a1 &&& (((1 : Int32) <<< (a3 &&& 31)) ^^^ (-1 : Int32))) a3).bind fun v12 =>
  some (s0 + v12)
def f_X3_milesBy (M : q_Mem) (a0 : Nat) (a1 : Int32) (a2 : Int32) (a3 : Int32) : Option Int32 :=
  q_ob 2 M a0 ((if (((8 : Int32) * a2) + a3) < 0 then
    f_X3_milesBy_b34 M a0 a1 a3 (0 : Int32)
  else
    (q_gR 2 3 M a0).bind fun v1 =>
    (q_ln M v1).bind fun v3 =>
    (if (((8 : Int32) * a2) + a3) < v3 then
      (q_gR 2 3 M a0).bind fun v5 =>
      (q_lI M v5 (((8 : Int32) * a2) + a3)).bind fun v7 =>
      f_X3_milesBy_b34 M a0 a1 a3 v7
    else
      f_X3_milesBy_b34 M a0 a1 a3 (0 : Int32))))
set_option maxRecDepth 20000 in
theorem v_X3_milesBy_b34 {M : q_Mem} {a0 : Nat} {a1 : Int32} {a3 : Int32} {s0 : Int32}  : q_V Y_X3_milesBy none (fun x : Int32 => (some (.int x), M)) 0 0 34 [(0, .ref a0), (1, .int a1), (3, .int a3)] [.int s0] M (f_X3_milesBy_b34 M a0 a1 a3 s0) := by
  unfold f_X3_milesBy_b34
  refine q_istore (ls' := [(5, .int s0), (0, .ref a0), (1, .int a1), (3, .int a3)]) dX3_milesBy_34 (by decide) rfl ?_
  refine q_iload 0 dX3_milesBy_36 rfl ?_
  refine q_aload_n 1 dX3_milesBy_38 rfl ?_
  refine q_iload_n 2 dX3_milesBy_39 rfl ?_
  refine q_iconst (x := (1 : Int32)) dX3_milesBy_40 rfl ?_
  refine q_iload_n 3 dX3_milesBy_41 rfl ?_
  refine q_ishl dX3_milesBy_42 ?_
  refine q_iconst (x := (-1 : Int32)) dX3_milesBy_43 rfl ?_
  refine q_ixor dX3_milesBy_44 ?_
  refine q_iand dX3_milesBy_45 ?_
  refine q_iload_n 3 dX3_milesBy_46 rfl ?_
  refine q_cVI (Y2 := Y_X3_restOf) (As := [.int (a1 &&& (((1 : Int32) <<< (a3 &&& 31)) ^^^ (-1 : Int32))), .int a3]) (b := a0) (st := [.int s0]) cl_X3 mv_X3_restOf qw_912 dX3_milesBy_47 ⟨Nat.le_of_ble_eq_true rfl, Nat.le_of_ble_eq_true rfl⟩ rfl (fun _ _ => rfl) (Nat.le_of_ble_eq_true rfl) ⟨Nat.le_of_ble_eq_true rfl, Nat.le_of_ble_eq_true rfl⟩ (fun v12 h11 => q_ob_is h11) (fun v12 h11 => m_X3_restOf h11) (fun v12 h11 => ?_)
  refine q_iadd dX3_milesBy_50 ?_
  exact q_iret dX3_milesBy_51 rfl rfl (Nat.le_of_ble_eq_true rfl) rfl
set_option maxRecDepth 20000 in
theorem m_X3_milesBy {M : q_Mem} {a0 : Nat} {a1 : Int32} {a2 : Int32} {a3 : Int32} {x : Int32} (h : f_X3_milesBy M a0 a1 a2 a3 = some x) : q_C Y_X3_milesBy [.ref a0, .int a1, .int a2, .int a3] M (some (.int x)) M := by
  refine q_met (φ := (fun x : Int32 => (some (.int x), M))) (r := f_X3_milesBy M a0 a1 a2 a3) (by decide +kernel) (Nat.le_of_ble_eq_true rfl) ?_ h (fun _ _ => rfl)
  show q_V Y_X3_milesBy none (fun x : Int32 => (some (.int x), M)) 0 0 0 [(0, .ref a0), (1, .int a1), (2, .int a2), (3, .int a3)] [] M (f_X3_milesBy M a0 a1 a2 a3)
  unfold f_X3_milesBy
  refine q_obV ?_
  refine q_bipush (x := (8 : Int32)) dX3_milesBy_0 rfl ?_
  refine q_iload_n 2 dX3_milesBy_2 rfl ?_
  refine q_imul dX3_milesBy_3 ?_
  refine q_iload_n 3 dX3_milesBy_4 rfl ?_
  refine q_iadd dX3_milesBy_5 ?_
  refine q_istore (ls' := [(4, .int (((8 : Int32) * a2) + a3)), (0, .ref a0), (1, .int a1), (2, .int a2), (3, .int a3)]) dX3_milesBy_6 (by decide) rfl ?_
  refine q_iload 0 dX3_milesBy_8 rfl ?_
  refine q_if_lt (tgt := 23) dX3_milesBy_10 (by decide) (fun c10 => ?_) (fun c10 => ?_)
  · refine q_iconst (x := (0 : Int32)) dX3_milesBy_23 rfl ?_
    refine q_goto (tgt := 34) dX3_milesBy_24 (by decide) ?_
    refine q_sub (ls' := [(0, .ref a0), (1, .int a1), (3, .int a3)]) [1, 2, 4] rfl ?_
    exact v_X3_milesBy_b34
  · refine q_iload 0 dX3_milesBy_13 rfl ?_
    refine q_aload_n 1 dX3_milesBy_15 rfl ?_
    refine q_getR (f := 3) cl_X3 (by decide) qw_301 rfl dX3_milesBy_16 (fun _ _ _ => rfl) (fun v1 h2 => ?_)
    refine q_alen dX3_milesBy_19 (fun v3 h4 => ?_)
    refine q_icmp_lt (tgt := 27) dX3_milesBy_20 (by decide) (fun c9 => ?_) (fun c9 => ?_)
    · refine q_aload_n 1 dX3_milesBy_27 rfl ?_
      refine q_getR (f := 3) cl_X3 (by decide) qw_301 rfl dX3_milesBy_28 (fun _ _ _ => rfl) (fun v5 h6 => ?_)
      refine q_iload 0 dX3_milesBy_31 rfl ?_
      refine q_iald dX3_milesBy_33 (fun v7 h8 => ?_)
      refine q_sub (ls' := [(0, .ref a0), (1, .int a1), (3, .int a3)]) [1, 2, 4] rfl ?_
      exact v_X3_milesBy_b34
    · refine q_iconst (x := (0 : Int32)) dX3_milesBy_23 rfl ?_
      refine q_goto (tgt := 34) dX3_milesBy_24 (by decide) ?_
      refine q_sub (ls' := [(0, .ref a0), (1, .int a1), (3, .int a3)]) [1, 2, 4] rfl ?_
      exact v_X3_milesBy_b34
theorem dX3_fewestFrom_0 : decode cX3_fewestFrom 0 = .ok (.iload_n 1, 1) := by decide +kernel
theorem dX3_fewestFrom_1 : decode cX3_fewestFrom 1 = .ok (.ifCond .ne 9, 3) := by decide +kernel
theorem dX3_fewestFrom_4 : decode cX3_fewestFrom 4 = .ok (.aload_n 0, 1) := by decide +kernel
theorem dX3_fewestFrom_5 : decode cX3_fewestFrom 5 = .ok (.iload_n 2, 1) := by decide +kernel
theorem dX3_fewestFrom_6 : decode cX3_fewestFrom 6 = .ok (.invokevirtual 49, 3) := by decide +kernel
theorem dX3_fewestFrom_9 : decode cX3_fewestFrom 9 = .ok (.ireturn, 1) := by decide +kernel
theorem dX3_fewestFrom_10 : decode cX3_fewestFrom 10 = .ok (.ldc 91, 2) := by decide +kernel
theorem dX3_fewestFrom_12 : decode cX3_fewestFrom 12 = .ok (.istore_n 3, 1) := by decide +kernel
theorem dX3_fewestFrom_13 : decode cX3_fewestFrom 13 = .ok (.iconst 0, 1) := by decide +kernel
theorem dX3_fewestFrom_14 : decode cX3_fewestFrom 14 = .ok (.istore 4, 2) := by decide +kernel
theorem dX3_fewestFrom_16 : decode cX3_fewestFrom 16 = .ok (.iload 4, 2) := by decide +kernel
theorem dX3_fewestFrom_18 : decode cX3_fewestFrom 18 = .ok (.aload_n 0, 1) := by decide +kernel
theorem dX3_fewestFrom_19 : decode cX3_fewestFrom 19 = .ok (.getfield 42, 3) := by decide +kernel
theorem dX3_fewestFrom_22 : decode cX3_fewestFrom 22 = .ok (.if_icmp .ge 31, 3) := by decide +kernel
theorem dX3_fewestFrom_25 : decode cX3_fewestFrom 25 = .ok (.iload_n 1, 1) := by decide +kernel
theorem dX3_fewestFrom_26 : decode cX3_fewestFrom 26 = .ok (.iload 4, 2) := by decide +kernel
theorem dX3_fewestFrom_28 : decode cX3_fewestFrom 28 = .ok (.invokestatic 72, 3) := by decide +kernel
theorem dX3_fewestFrom_31 : decode cX3_fewestFrom 31 = .ok (.ifCond .eq 16, 3) := by decide +kernel
theorem dX3_fewestFrom_34 : decode cX3_fewestFrom 34 = .ok (.iload_n 3, 1) := by decide +kernel
theorem dX3_fewestFrom_35 : decode cX3_fewestFrom 35 = .ok (.aload_n 0, 1) := by decide +kernel
theorem dX3_fewestFrom_36 : decode cX3_fewestFrom 36 = .ok (.iload_n 1, 1) := by decide +kernel
theorem dX3_fewestFrom_37 : decode cX3_fewestFrom 37 = .ok (.iload_n 2, 1) := by decide +kernel
theorem dX3_fewestFrom_38 : decode cX3_fewestFrom 38 = .ok (.iload 4, 2) := by decide +kernel
theorem dX3_fewestFrom_40 : decode cX3_fewestFrom 40 = .ok (.invokevirtual 92, 3) := by decide +kernel
theorem dX3_fewestFrom_43 : decode cX3_fewestFrom 43 = .ok (.invokestatic 96, 3) := by decide +kernel
theorem dX3_fewestFrom_46 : decode cX3_fewestFrom 46 = .ok (.istore_n 3, 1) := by decide +kernel
theorem dX3_fewestFrom_47 : decode cX3_fewestFrom 47 = .ok (.iinc 4 1, 3) := by decide +kernel
theorem dX3_fewestFrom_50 : decode cX3_fewestFrom 50 = .ok (.goto (-34), 3) := by decide +kernel
theorem dX3_fewestFrom_53 : decode cX3_fewestFrom 53 = .ok (.iload_n 3, 1) := by decide +kernel
theorem dX3_fewestFrom_54 : decode cX3_fewestFrom 54 = .ok (.ireturn, 1) := by decide +kernel
def f_X3_fewestFrom_b16 (M : q_Mem) (a0 : Nat) (a1 : Int32) (a2 : Int32) : Nat → Int32 → Int32 → Option Int32
  | 0, _, _ => none
  | n + 1, a3, a4 =>
    (q_gI 2 2 M a0).bind fun v4 =>
    (if a4 < v4 then
      (f_X11_holds M a1 a4).bind fun v7 =>
      (if v7 = 0 then
        f_X3_fewestFrom_b16 M a0 a1 a2 n a3 (a4 + (1 : Int32))
      else
        (f_X3_milesBy M a0 a1 a2 a4).bind fun v9 =>
        f_X3_fewestFrom_b16 M a0 a1 a2 n (q_mi a3 v9) (a4 + (1 : Int32)))
    else
      some a3)
def f_X3_fewestFrom (M : q_Mem) (a0 : Nat) (a1 : Int32) (a2 : Int32) : Option Int32 :=
  q_ob 2 M a0 ((if a1 = 0 then
    (f_X3_homeOf M a0 a2).bind fun v2 =>
    some v2
  else
    f_X3_fewestFrom_b16 M a0 a1 a2 q_fuel (1000000 : Int32) (0 : Int32)))
set_option maxRecDepth 20000 in
theorem v_X3_fewestFrom_b16 {M : q_Mem} {a0 : Nat} {a1 : Int32} {a2 : Int32}  : ∀ (n : Nat) (a3 : Int32) (a4 : Int32), q_V Y_X3_fewestFrom none (fun x : Int32 => (some (.int x), M)) 0 0 16 [(0, .ref a0), (1, .int a1), (2, .int a2), (3, .int a3), (4, .int a4)] [] M (f_X3_fewestFrom_b16 M a0 a1 a2 n a3 a4) := by
  intro n
  induction n with
  | zero => intro a3 a4; exact q_none
  | succ n ih =>
    intro a3 a4
    rw [f_X3_fewestFrom_b16.eq_2]
    refine q_iload 4 dX3_fewestFrom_16 rfl ?_
    refine q_aload_n 0 dX3_fewestFrom_18 rfl ?_
    refine q_getI (f := 2) cl_X3 (by decide) qw_300 rfl dX3_fewestFrom_19 (Or.inl rfl) (fun v4 h5 => ?_)
    refine q_icmp_ge (tgt := 53) dX3_fewestFrom_22 (by decide) (fun c11 => ?_) (fun c11 => ?_)
    · refine q_iload_n 1 dX3_fewestFrom_25 rfl ?_
      refine q_iload 4 dX3_fewestFrom_26 rfl ?_
      refine q_cNI (Y2 := Y_X11_holds) (As := [.int a1, .int a4]) (st := []) ms_X11_holds (host := "CountyCream") (by decide +kernel) dX3_fewestFrom_28 ⟨Nat.le_of_ble_eq_true rfl, Nat.le_of_ble_eq_true rfl⟩ rfl (fun _ _ => rfl) (Nat.le_of_ble_eq_true rfl) ⟨Nat.le_of_ble_eq_true rfl, Nat.le_of_ble_eq_true rfl⟩ (fun v7 h6 => m_X11_holds h6) (fun v7 h6 => ?_)
      refine q_if_eq (tgt := 47) dX3_fewestFrom_31 (by decide) (fun c10 => ?_) (fun c10 => ?_)
      · refine q_iinc 4 (y := (a4 + (1 : Int32))) (ls' := [(4, .int (a4 + (1 : Int32))), (0, .ref a0), (1, .int a1), (2, .int a2), (3, .int a3)]) dX3_fewestFrom_47 rfl rfl (by decide) rfl ?_
        refine q_goto (tgt := 16) dX3_fewestFrom_50 (by decide) ?_
        refine q_sub (ls' := [(0, .ref a0), (1, .int a1), (2, .int a2), (3, .int a3), (4, .int (a4 + (1 : Int32)))]) [1, 2, 3, 4, 0] rfl ?_
        exact ih _ _
      · refine q_iload_n 3 dX3_fewestFrom_34 rfl ?_
        refine q_aload_n 0 dX3_fewestFrom_35 rfl ?_
        refine q_iload_n 1 dX3_fewestFrom_36 rfl ?_
        refine q_iload_n 2 dX3_fewestFrom_37 rfl ?_
        refine q_iload 4 dX3_fewestFrom_38 rfl ?_
        refine q_cVI (Y2 := Y_X3_milesBy) (As := [.int a1, .int a2, .int a4]) (b := a0) (st := [.int a3]) cl_X3 mv_X3_milesBy qw_908 dX3_fewestFrom_40 ⟨Nat.le_of_ble_eq_true rfl, Nat.le_of_ble_eq_true rfl⟩ rfl (fun _ _ => rfl) (Nat.le_of_ble_eq_true rfl) ⟨Nat.le_of_ble_eq_true rfl, Nat.le_of_ble_eq_true rfl⟩ (fun v9 h8 => q_ob_is h8) (fun v9 h8 => m_X3_milesBy h8) (fun v9 h8 => ?_)
        refine q_mmin qw_916 qm_mmin_1 qm_2 qm_mmin_3 dX3_fewestFrom_43 (Nat.le_of_ble_eq_true rfl) (Nat.le_of_ble_eq_true rfl) (Nat.le_of_ble_eq_true rfl) ⟨Nat.le_of_ble_eq_true rfl, Nat.le_of_ble_eq_true rfl⟩ ?_
        refine q_istore_n (ls' := [(3, .int (q_mi a3 v9)), (0, .ref a0), (1, .int a1), (2, .int a2), (4, .int a4)]) dX3_fewestFrom_46 (by decide) rfl ?_
        refine q_iinc 4 (y := (a4 + (1 : Int32))) (ls' := [(4, .int (a4 + (1 : Int32))), (3, .int (q_mi a3 v9)), (0, .ref a0), (1, .int a1), (2, .int a2)]) dX3_fewestFrom_47 rfl rfl (by decide) rfl ?_
        refine q_goto (tgt := 16) dX3_fewestFrom_50 (by decide) ?_
        refine q_sub (ls' := [(0, .ref a0), (1, .int a1), (2, .int a2), (3, .int (q_mi a3 v9)), (4, .int (a4 + (1 : Int32)))]) [2, 3, 4, 1, 0] rfl ?_
        exact ih _ _
    · refine q_iload_n 3 dX3_fewestFrom_53 rfl ?_
      exact q_iret dX3_fewestFrom_54 rfl rfl (Nat.le_of_ble_eq_true rfl) rfl
set_option maxRecDepth 20000 in
theorem m_X3_fewestFrom {M : q_Mem} {a0 : Nat} {a1 : Int32} {a2 : Int32} {x : Int32} (h : f_X3_fewestFrom M a0 a1 a2 = some x) : q_C Y_X3_fewestFrom [.ref a0, .int a1, .int a2] M (some (.int x)) M := by
  refine q_met (φ := (fun x : Int32 => (some (.int x), M))) (r := f_X3_fewestFrom M a0 a1 a2) (by decide +kernel) (Nat.le_of_ble_eq_true rfl) ?_ h (fun _ _ => rfl)
  show q_V Y_X3_fewestFrom none (fun x : Int32 => (some (.int x), M)) 0 0 0 [(0, .ref a0), (1, .int a1), (2, .int a2)] [] M (f_X3_fewestFrom M a0 a1 a2)
  unfold f_X3_fewestFrom
  refine q_obV ?_
  refine q_iload_n 1 dX3_fewestFrom_0 rfl ?_
  refine q_if_ne (tgt := 10) dX3_fewestFrom_1 (by decide) (fun c3 => ?_) (fun c3 => ?_)
  · refine q_aload_n 0 dX3_fewestFrom_4 rfl ?_
    refine q_iload_n 2 dX3_fewestFrom_5 rfl ?_
    refine q_cVI (Y2 := Y_X3_homeOf) (As := [.int a2]) (b := a0) (st := []) cl_X3 mv_X3_homeOf qw_903 dX3_fewestFrom_6 ⟨Nat.le_of_ble_eq_true rfl, Nat.le_of_ble_eq_true rfl⟩ rfl (fun _ _ => rfl) (Nat.le_of_ble_eq_true rfl) ⟨Nat.le_of_ble_eq_true rfl, Nat.le_of_ble_eq_true rfl⟩ (fun v2 h1 => q_ob_is h1) (fun v2 h1 => m_X3_homeOf h1) (fun v2 h1 => ?_)
    exact q_iret dX3_fewestFrom_9 rfl rfl (Nat.le_of_ble_eq_true rfl) rfl
  · refine q_ldc (x := (1000000 : Int32)) qw_907 dX3_fewestFrom_10 ?_
    refine q_istore_n (ls' := [(3, .int (1000000 : Int32)), (0, .ref a0), (1, .int a1), (2, .int a2)]) dX3_fewestFrom_12 (by decide) rfl ?_
    refine q_iconst (x := (0 : Int32)) dX3_fewestFrom_13 rfl ?_
    refine q_istore (ls' := [(4, .int (0 : Int32)), (3, .int (1000000 : Int32)), (0, .ref a0), (1, .int a1), (2, .int a2)]) dX3_fewestFrom_14 (by decide) rfl ?_
    refine q_sub (ls' := [(0, .ref a0), (1, .int a1), (2, .int a2), (3, .int (1000000 : Int32)), (4, .int (0 : Int32))]) [2, 3, 4, 1, 0] rfl ?_
    exact v_X3_fewestFrom_b16 _ _ _
theorem dX3_findRests_0 : decode cX3_findRests 0 = .ok (.iconst 0, 1) := by decide +kernel
theorem dX3_findRests_1 : decode cX3_findRests 1 = .ok (.istore_n 1, 1) := by decide +kernel
theorem dX3_findRests_2 : decode cX3_findRests 2 = .ok (.iload_n 1, 1) := by decide +kernel
theorem dX3_findRests_3 : decode cX3_findRests 3 = .ok (.iconst 1, 1) := by decide +kernel
theorem dX3_findRests_4 : decode cX3_findRests 4 = .ok (.aload_n 0, 1) := by decide +kernel
theorem dX3_findRests_5 : decode cX3_findRests 5 = .ok (.getfield 42, 3) := by decide +kernel
theorem dX3_findRests_8 : decode cX3_findRests 8 = .ok (.ishl, 1) := by decide +kernel
theorem dX3_findRests_9 : decode cX3_findRests 9 = .ok (.if_icmp .ge 61, 3) := by decide +kernel
theorem dX3_findRests_12 : decode cX3_findRests 12 = .ok (.iconst 0, 1) := by decide +kernel
theorem dX3_findRests_13 : decode cX3_findRests 13 = .ok (.istore_n 2, 1) := by decide +kernel
theorem dX3_findRests_14 : decode cX3_findRests 14 = .ok (.iload_n 2, 1) := by decide +kernel
theorem dX3_findRests_15 : decode cX3_findRests 15 = .ok (.aload_n 0, 1) := by decide +kernel
theorem dX3_findRests_16 : decode cX3_findRests 16 = .ok (.getfield 42, 3) := by decide +kernel
theorem dX3_findRests_19 : decode cX3_findRests 19 = .ok (.if_icmp .ge 45, 3) := by decide +kernel
theorem dX3_findRests_22 : decode cX3_findRests 22 = .ok (.bipush 8, 2) := by decide +kernel
theorem dX3_findRests_24 : decode cX3_findRests 24 = .ok (.iload_n 1, 1) := by decide +kernel
theorem dX3_findRests_25 : decode cX3_findRests 25 = .ok (.imul, 1) := by decide +kernel
theorem dX3_findRests_26 : decode cX3_findRests 26 = .ok (.iload_n 2, 1) := by decide +kernel
theorem dX3_findRests_27 : decode cX3_findRests 27 = .ok (.iadd, 1) := by decide +kernel
theorem dX3_findRests_28 : decode cX3_findRests 28 = .ok (.istore_n 3, 1) := by decide +kernel
theorem dX3_findRests_29 : decode cX3_findRests 29 = .ok (.iload_n 3, 1) := by decide +kernel
theorem dX3_findRests_30 : decode cX3_findRests 30 = .ok (.aload_n 0, 1) := by decide +kernel
theorem dX3_findRests_31 : decode cX3_findRests 31 = .ok (.getfield 21, 3) := by decide +kernel
theorem dX3_findRests_34 : decode cX3_findRests 34 = .ok (.arraylength, 1) := by decide +kernel
theorem dX3_findRests_35 : decode cX3_findRests 35 = .ok (.if_icmp .ge 23, 3) := by decide +kernel
theorem dX3_findRests_38 : decode cX3_findRests 38 = .ok (.iload_n 1, 1) := by decide +kernel
theorem dX3_findRests_39 : decode cX3_findRests 39 = .ok (.iload_n 2, 1) := by decide +kernel
theorem dX3_findRests_40 : decode cX3_findRests 40 = .ok (.invokestatic 72, 3) := by decide +kernel
theorem dX3_findRests_43 : decode cX3_findRests 43 = .ok (.ifCond .ne 15, 3) := by decide +kernel
theorem dX3_findRests_46 : decode cX3_findRests 46 = .ok (.aload_n 0, 1) := by decide +kernel
theorem dX3_findRests_47 : decode cX3_findRests 47 = .ok (.getfield 21, 3) := by decide +kernel
theorem dX3_findRests_50 : decode cX3_findRests 50 = .ok (.iload_n 3, 1) := by decide +kernel
theorem dX3_findRests_51 : decode cX3_findRests 51 = .ok (.aload_n 0, 1) := by decide +kernel
theorem dX3_findRests_52 : decode cX3_findRests 52 = .ok (.iload_n 1, 1) := by decide +kernel
theorem dX3_findRests_53 : decode cX3_findRests 53 = .ok (.iload_n 2, 1) := by decide +kernel
theorem dX3_findRests_54 : decode cX3_findRests 54 = .ok (.invokevirtual 88, 3) := by decide +kernel
theorem dX3_findRests_57 : decode cX3_findRests 57 = .ok (.iastore, 1) := by decide +kernel
theorem dX3_findRests_58 : decode cX3_findRests 58 = .ok (.iinc 2 1, 3) := by decide +kernel
theorem dX3_findRests_61 : decode cX3_findRests 61 = .ok (.goto (-47), 3) := by decide +kernel
theorem dX3_findRests_64 : decode cX3_findRests 64 = .ok (.iinc 1 1, 3) := by decide +kernel
theorem dX3_findRests_67 : decode cX3_findRests 67 = .ok (.goto (-65), 3) := by decide +kernel
theorem dX3_findRests_70 : decode cX3_findRests 70 = .ok (.return_, 1) := by decide +kernel
def f_X3_findRests_b14 (kk2 : Int32 → q_Mem → Option q_Mem) (a0 : Nat) (a1 : Int32) : Nat → Int32 → q_Mem → Option q_Mem
  | 0, _, _ => none
  | n + 1, a2, M =>
    (q_gI 2 2 M a0).bind fun v4 =>
    (if a2 < v4 then
      (q_gR 2 5 M a0).bind fun v6 =>
      (q_ln M v6).bind fun v8 =>
      (if (((8 : Int32) * a1) + a2) < v8 then
        (f_X11_holds M a1 a2).bind fun v11 =>
        (if v11 = 0 then
          (q_gR 2 5 M a0).bind fun v12 =>
          (f_X3_fewestFrom M a0 a1 a2).bind fun v15 =>
          (q_tI M v12 (((8 : Int32) * a1) + a2) v15).bind fun M16 =>
          f_X3_findRests_b14 kk2 a0 a1 n (a2 + (1 : Int32)) M16
        else
          f_X3_findRests_b14 kk2 a0 a1 n (a2 + (1 : Int32)) M)
      else
        f_X3_findRests_b14 kk2 a0 a1 n (a2 + (1 : Int32)) M)
    else
      kk2 (a1 + (1 : Int32)) M)
def f_X3_findRests_b2 (a0 : Nat) : Nat → Int32 → q_Mem → Option q_Mem
  | 0, _, _ => none
  | n + 1, a1, M =>
    (q_gI 2 2 M a0).bind fun v1 =>
    (if a1 < ((1 : Int32) <<< (v1 &&& 31)) then
      f_X3_findRests_b14 (f_X3_findRests_b2 a0 n) a0 a1 q_fuel (0 : Int32) M
    else
      some M)
def f_X3_findRests (M : q_Mem) (a0 : Nat) : Option q_Mem :=
  q_ob 2 M a0 (f_X3_findRests_b2 a0 q_fuel (0 : Int32) M)
set_option maxRecDepth 20000 in
theorem v_X3_findRests_b14 {kk2 : Int32 → q_Mem → Option q_Mem} {a0 : Nat} {a1 : Int32} (hk2 : ∀ (a1 : Int32) (M : q_Mem), q_V Y_X3_findRests none (fun x : q_Mem => (none, x)) 0 0 2 [(0, .ref a0), (1, .int a1)] [] M (kk2 a1 M)) : ∀ (n : Nat) (a2 : Int32) (M : q_Mem), q_V Y_X3_findRests none (fun x : q_Mem => (none, x)) 0 0 14 [(0, .ref a0), (1, .int a1), (2, .int a2)] [] M (f_X3_findRests_b14 kk2 a0 a1 n a2 M) := by
  intro n
  induction n with
  | zero => intro a2 M; exact q_none
  | succ n ih =>
    intro a2 M
    rw [f_X3_findRests_b14.eq_2]
    refine q_iload_n 2 dX3_findRests_14 rfl ?_
    refine q_aload_n 0 dX3_findRests_15 rfl ?_
    refine q_getI (f := 2) cl_X3 (by decide) qw_300 rfl dX3_findRests_16 (Or.inl rfl) (fun v4 h5 => ?_)
    refine q_icmp_ge (tgt := 64) dX3_findRests_19 (by decide) (fun c20 => ?_) (fun c20 => ?_)
    · refine q_bipush (x := (8 : Int32)) dX3_findRests_22 rfl ?_
      refine q_iload_n 1 dX3_findRests_24 rfl ?_
      refine q_imul dX3_findRests_25 ?_
      refine q_iload_n 2 dX3_findRests_26 rfl ?_
      refine q_iadd dX3_findRests_27 ?_
      refine q_istore_n (ls' := [(3, .int (((8 : Int32) * a1) + a2)), (0, .ref a0), (1, .int a1), (2, .int a2)]) dX3_findRests_28 (by decide) rfl ?_
      refine q_iload_n 0 dX3_findRests_29 rfl ?_
      refine q_aload_n 1 dX3_findRests_30 rfl ?_
      refine q_getR (f := 5) cl_X3 (by decide) qw_303 rfl dX3_findRests_31 (fun _ _ _ => rfl) (fun v6 h7 => ?_)
      refine q_alen dX3_findRests_34 (fun v8 h9 => ?_)
      refine q_icmp_ge (tgt := 58) dX3_findRests_35 (by decide) (fun c19 => ?_) (fun c19 => ?_)
      · refine q_iload_n 2 dX3_findRests_38 rfl ?_
        refine q_iload_n 3 dX3_findRests_39 rfl ?_
        refine q_cNI (Y2 := Y_X11_holds) (As := [.int a1, .int a2]) (st := []) ms_X11_holds (host := "CountyCream") (by decide +kernel) dX3_findRests_40 ⟨Nat.le_of_ble_eq_true rfl, Nat.le_of_ble_eq_true rfl⟩ rfl (fun _ _ => rfl) (Nat.le_of_ble_eq_true rfl) ⟨Nat.le_of_ble_eq_true rfl, Nat.le_of_ble_eq_true rfl⟩ (fun v11 h10 => m_X11_holds h10) (fun v11 h10 => ?_)
        refine q_if_ne (tgt := 58) dX3_findRests_43 (by decide) (fun c18 => ?_) (fun c18 => ?_)
        · refine q_aload_n 1 dX3_findRests_46 rfl ?_
          refine q_getR (f := 5) cl_X3 (by decide) qw_303 rfl dX3_findRests_47 (fun _ _ _ => rfl) (fun v12 h13 => ?_)
          refine q_iload_n 0 dX3_findRests_50 rfl ?_
          refine q_aload_n 1 dX3_findRests_51 rfl ?_
          refine q_iload_n 2 dX3_findRests_52 rfl ?_
          refine q_iload_n 3 dX3_findRests_53 rfl ?_
          refine q_cVI (Y2 := Y_X3_fewestFrom) (As := [.int a1, .int a2]) (b := a0) (st := [.int (((8 : Int32) * a1) + a2), .ref v12]) cl_X3 mv_X3_fewestFrom qw_899 dX3_findRests_54 ⟨Nat.le_of_ble_eq_true rfl, Nat.le_of_ble_eq_true rfl⟩ rfl (fun _ _ => rfl) (Nat.le_of_ble_eq_true rfl) ⟨Nat.le_of_ble_eq_true rfl, Nat.le_of_ble_eq_true rfl⟩ (fun v15 h14 => q_ob_is h14) (fun v15 h14 => m_X3_fewestFrom h14) (fun v15 h14 => ?_)
          refine q_iast dX3_findRests_57 (fun M16 h17 => ?_)
          refine q_iinc 3 (y := (a2 + (1 : Int32))) (ls' := [(2, .int (a2 + (1 : Int32))), (3, .int (((8 : Int32) * a1) + a2)), (0, .ref a0), (1, .int a1)]) dX3_findRests_58 rfl rfl (by decide) rfl ?_
          refine q_goto (tgt := 14) dX3_findRests_61 (by decide) ?_
          refine q_sub (ls' := [(0, .ref a0), (1, .int a1), (2, .int (a2 + (1 : Int32)))]) [2, 3, 0] rfl ?_
          exact ih _ _
        · refine q_iinc 3 (y := (a2 + (1 : Int32))) (ls' := [(2, .int (a2 + (1 : Int32))), (3, .int (((8 : Int32) * a1) + a2)), (0, .ref a0), (1, .int a1)]) dX3_findRests_58 rfl rfl (by decide) rfl ?_
          refine q_goto (tgt := 14) dX3_findRests_61 (by decide) ?_
          refine q_sub (ls' := [(0, .ref a0), (1, .int a1), (2, .int (a2 + (1 : Int32)))]) [2, 3, 0] rfl ?_
          exact ih _ _
      · refine q_iinc 3 (y := (a2 + (1 : Int32))) (ls' := [(2, .int (a2 + (1 : Int32))), (3, .int (((8 : Int32) * a1) + a2)), (0, .ref a0), (1, .int a1)]) dX3_findRests_58 rfl rfl (by decide) rfl ?_
        refine q_goto (tgt := 14) dX3_findRests_61 (by decide) ?_
        refine q_sub (ls' := [(0, .ref a0), (1, .int a1), (2, .int (a2 + (1 : Int32)))]) [2, 3, 0] rfl ?_
        exact ih _ _
    · refine q_iinc 1 (y := (a1 + (1 : Int32))) (ls' := [(1, .int (a1 + (1 : Int32))), (0, .ref a0), (2, .int a2)]) dX3_findRests_64 rfl rfl (by decide) rfl ?_
      refine q_goto (tgt := 2) dX3_findRests_67 (by decide) ?_
      refine q_sub (ls' := [(0, .ref a0), (1, .int (a1 + (1 : Int32)))]) [1, 0] rfl ?_
      exact hk2 _ _
set_option maxRecDepth 20000 in
theorem v_X3_findRests_b2 {a0 : Nat}  : ∀ (n : Nat) (a1 : Int32) (M : q_Mem), q_V Y_X3_findRests none (fun x : q_Mem => (none, x)) 0 0 2 [(0, .ref a0), (1, .int a1)] [] M (f_X3_findRests_b2 a0 n a1 M) := by
  intro n
  induction n with
  | zero => intro a1 M; exact q_none
  | succ n ih =>
    intro a1 M
    rw [f_X3_findRests_b2.eq_2]
    refine q_iload_n 1 dX3_findRests_2 rfl ?_
    refine q_iconst (x := (1 : Int32)) dX3_findRests_3 rfl ?_
    refine q_aload_n 0 dX3_findRests_4 rfl ?_
    refine q_getI (f := 2) cl_X3 (by decide) qw_300 rfl dX3_findRests_5 (Or.inl rfl) (fun v1 h2 => ?_)
    refine q_ishl dX3_findRests_8 ?_
    refine q_icmp_ge (tgt := 70) dX3_findRests_9 (by decide) (fun c3 => ?_) (fun c3 => ?_)
    · refine q_iconst (x := (0 : Int32)) dX3_findRests_12 rfl ?_
      refine q_istore_n (ls' := [(2, .int (0 : Int32)), (0, .ref a0), (1, .int a1)]) dX3_findRests_13 (by decide) rfl ?_
      refine q_sub (ls' := [(0, .ref a0), (1, .int a1), (2, .int (0 : Int32))]) [1, 2, 0] rfl ?_
      exact v_X3_findRests_b14 (ih) _ _ _
    · exact q_vret dX3_findRests_70 rfl rfl (Nat.le_of_ble_eq_true rfl) rfl
set_option maxRecDepth 20000 in
theorem m_X3_findRests {M : q_Mem} {a0 : Nat} {x : q_Mem} (h : f_X3_findRests M a0 = some x) : q_C Y_X3_findRests [.ref a0] M none x := by
  refine q_met (φ := (fun x : q_Mem => (none, x))) (r := f_X3_findRests M a0) (by decide +kernel) (Nat.le_of_ble_eq_true rfl) ?_ h (fun _ _ => rfl)
  show q_V Y_X3_findRests none (fun x : q_Mem => (none, x)) 0 0 0 [(0, .ref a0)] [] M (f_X3_findRests M a0)
  unfold f_X3_findRests
  refine q_obV ?_
  refine q_iconst (x := (0 : Int32)) dX3_findRests_0 rfl ?_
  refine q_istore_n (ls' := [(1, .int (0 : Int32)), (0, .ref a0)]) dX3_findRests_1 (by decide) rfl ?_
  refine q_sub (ls' := [(0, .ref a0), (1, .int (0 : Int32))]) [1, 0] rfl ?_
  exact v_X3_findRests_b2 _ _ _
theorem dX3_allBut_0 : decode cX3_allBut 0 = .ok (.iconst 1, 1) := by decide +kernel
theorem dX3_allBut_1 : decode cX3_allBut 1 = .ok (.aload_n 0, 1) := by decide +kernel
theorem dX3_allBut_2 : decode cX3_allBut 2 = .ok (.getfield 42, 3) := by decide +kernel
theorem dX3_allBut_5 : decode cX3_allBut 5 = .ok (.ishl, 1) := by decide +kernel
theorem dX3_allBut_6 : decode cX3_allBut 6 = .ok (.iconst 1, 1) := by decide +kernel
theorem dX3_allBut_7 : decode cX3_allBut 7 = .ok (.isub, 1) := by decide +kernel
theorem dX3_allBut_8 : decode cX3_allBut 8 = .ok (.iconst 1, 1) := by decide +kernel
theorem dX3_allBut_9 : decode cX3_allBut 9 = .ok (.iload_n 1, 1) := by decide +kernel
theorem dX3_allBut_10 : decode cX3_allBut 10 = .ok (.ishl, 1) := by decide +kernel
theorem dX3_allBut_11 : decode cX3_allBut 11 = .ok (.iconst (-1), 1) := by decide +kernel
theorem dX3_allBut_12 : decode cX3_allBut 12 = .ok (.ixor, 1) := by decide +kernel
theorem dX3_allBut_13 : decode cX3_allBut 13 = .ok (.iand, 1) := by decide +kernel
theorem dX3_allBut_14 : decode cX3_allBut 14 = .ok (.ireturn, 1) := by decide +kernel
def f_X3_allBut (M : q_Mem) (a0 : Nat) (a1 : Int32) : Option Int32 :=
  q_ob 2 M a0 ((q_gI 2 2 M a0).bind fun v1 =>
  some ((((1 : Int32) <<< (v1 &&& 31)) - (1 : Int32)) &&& (((1 : Int32) <<< (a1 &&& 31)) ^^^ (-1 : Int32))))
set_option maxRecDepth 20000 in
theorem m_X3_allBut {M : q_Mem} {a0 : Nat} {a1 : Int32} {x : Int32} (h : f_X3_allBut M a0 a1 = some x) : q_C Y_X3_allBut [.ref a0, .int a1] M (some (.int x)) M := by
  refine q_met (φ := (fun x : Int32 => (some (.int x), M))) (r := f_X3_allBut M a0 a1) (by decide +kernel) (Nat.le_of_ble_eq_true rfl) ?_ h (fun _ _ => rfl)
  show q_V Y_X3_allBut none (fun x : Int32 => (some (.int x), M)) 0 0 0 [(0, .ref a0), (1, .int a1)] [] M (f_X3_allBut M a0 a1)
  unfold f_X3_allBut
  refine q_obV ?_
  refine q_iconst (x := (1 : Int32)) dX3_allBut_0 rfl ?_
  refine q_aload_n 0 dX3_allBut_1 rfl ?_
  refine q_getI (f := 2) cl_X3 (by decide) qw_300 rfl dX3_allBut_2 (Or.inl rfl) (fun v1 h2 => ?_)
  refine q_ishl dX3_allBut_5 ?_
  refine q_iconst (x := (1 : Int32)) dX3_allBut_6 rfl ?_
  refine q_isub dX3_allBut_7 ?_
  refine q_iconst (x := (1 : Int32)) dX3_allBut_8 rfl ?_
  refine q_iload_n 1 dX3_allBut_9 rfl ?_
  refine q_ishl dX3_allBut_10 ?_
  refine q_iconst (x := (-1 : Int32)) dX3_allBut_11 rfl ?_
  refine q_ixor dX3_allBut_12 ?_
  refine q_iand dX3_allBut_13 ?_
  exact q_iret dX3_allBut_14 rfl rfl (Nat.le_of_ble_eq_true rfl) rfl
theorem dX3_firstStop_0 : decode cX3_firstStop 0 = .ok (.iconst (-1), 1) := by decide +kernel
theorem dX3_firstStop_1 : decode cX3_firstStop 1 = .ok (.istore_n 1, 1) := by decide +kernel
theorem dX3_firstStop_2 : decode cX3_firstStop 2 = .ok (.iconst 0, 1) := by decide +kernel
theorem dX3_firstStop_3 : decode cX3_firstStop 3 = .ok (.istore_n 2, 1) := by decide +kernel
theorem dX3_firstStop_4 : decode cX3_firstStop 4 = .ok (.iconst 0, 1) := by decide +kernel
theorem dX3_firstStop_5 : decode cX3_firstStop 5 = .ok (.istore_n 3, 1) := by decide +kernel
theorem dX3_firstStop_6 : decode cX3_firstStop 6 = .ok (.iload_n 3, 1) := by decide +kernel
theorem dX3_firstStop_7 : decode cX3_firstStop 7 = .ok (.aload_n 0, 1) := by decide +kernel
theorem dX3_firstStop_8 : decode cX3_firstStop 8 = .ok (.getfield 42, 3) := by decide +kernel
theorem dX3_firstStop_11 : decode cX3_firstStop 11 = .ok (.if_icmp .ge 76, 3) := by decide +kernel
theorem dX3_firstStop_14 : decode cX3_firstStop 14 = .ok (.aload_n 0, 1) := by decide +kernel
theorem dX3_firstStop_15 : decode cX3_firstStop 15 = .ok (.aload_n 0, 1) := by decide +kernel
theorem dX3_firstStop_16 : decode cX3_firstStop 16 = .ok (.iload_n 3, 1) := by decide +kernel
theorem dX3_firstStop_17 : decode cX3_firstStop 17 = .ok (.invokevirtual 53, 3) := by decide +kernel
theorem dX3_firstStop_20 : decode cX3_firstStop 20 = .ok (.iload_n 3, 1) := by decide +kernel
theorem dX3_firstStop_21 : decode cX3_firstStop 21 = .ok (.invokevirtual 56, 3) := by decide +kernel
theorem dX3_firstStop_24 : decode cX3_firstStop 24 = .ok (.istore 4, 2) := by decide +kernel
theorem dX3_firstStop_26 : decode cX3_firstStop 26 = .ok (.iconst 3, 1) := by decide +kernel
theorem dX3_firstStop_27 : decode cX3_firstStop 27 = .ok (.iload 4, 2) := by decide +kernel
theorem dX3_firstStop_29 : decode cX3_firstStop 29 = .ok (.imul, 1) := by decide +kernel
theorem dX3_firstStop_30 : decode cX3_firstStop 30 = .ok (.iconst 5, 1) := by decide +kernel
theorem dX3_firstStop_31 : decode cX3_firstStop 31 = .ok (.aload_n 0, 1) := by decide +kernel
theorem dX3_firstStop_32 : decode cX3_firstStop 32 = .ok (.getfield 42, 3) := by decide +kernel
theorem dX3_firstStop_35 : decode cX3_firstStop 35 = .ok (.iconst 1, 1) := by decide +kernel
theorem dX3_firstStop_36 : decode cX3_firstStop 36 = .ok (.isub, 1) := by decide +kernel
theorem dX3_firstStop_37 : decode cX3_firstStop 37 = .ok (.imul, 1) := by decide +kernel
theorem dX3_firstStop_38 : decode cX3_firstStop 38 = .ok (.iadd, 1) := by decide +kernel
theorem dX3_firstStop_39 : decode cX3_firstStop 39 = .ok (.aload_n 0, 1) := by decide +kernel
theorem dX3_firstStop_40 : decode cX3_firstStop 40 = .ok (.getfield 27, 3) := by decide +kernel
theorem dX3_firstStop_43 : decode cX3_firstStop 43 = .ok (.getfield 99, 3) := by decide +kernel
theorem dX3_firstStop_46 : decode cX3_firstStop 46 = .ok (.if_icmp .le 6, 3) := by decide +kernel
theorem dX3_firstStop_49 : decode cX3_firstStop 49 = .ok (.goto 32, 3) := by decide +kernel
theorem dX3_firstStop_52 : decode cX3_firstStop 52 = .ok (.aload_n 0, 1) := by decide +kernel
theorem dX3_firstStop_53 : decode cX3_firstStop 53 = .ok (.iload_n 3, 1) := by decide +kernel
theorem dX3_firstStop_54 : decode cX3_firstStop 54 = .ok (.invokevirtual 49, 3) := by decide +kernel
theorem dX3_firstStop_57 : decode cX3_firstStop 57 = .ok (.iload 4, 2) := by decide +kernel
theorem dX3_firstStop_59 : decode cX3_firstStop 59 = .ok (.iadd, 1) := by decide +kernel
theorem dX3_firstStop_60 : decode cX3_firstStop 60 = .ok (.istore 5, 2) := by decide +kernel
theorem dX3_firstStop_62 : decode cX3_firstStop 62 = .ok (.iload_n 1, 1) := by decide +kernel
theorem dX3_firstStop_63 : decode cX3_firstStop 63 = .ok (.iconst (-1), 1) := by decide +kernel
theorem dX3_firstStop_64 : decode cX3_firstStop 64 = .ok (.if_icmp .eq 12, 3) := by decide +kernel
theorem dX3_firstStop_67 : decode cX3_firstStop 67 = .ok (.iload 5, 2) := by decide +kernel
theorem dX3_firstStop_69 : decode cX3_firstStop 69 = .ok (.iload_n 2, 1) := by decide +kernel
theorem dX3_firstStop_70 : decode cX3_firstStop 70 = .ok (.if_icmp .lt 6, 3) := by decide +kernel
theorem dX3_firstStop_73 : decode cX3_firstStop 73 = .ok (.goto 8, 3) := by decide +kernel
theorem dX3_firstStop_76 : decode cX3_firstStop 76 = .ok (.iload_n 3, 1) := by decide +kernel
theorem dX3_firstStop_77 : decode cX3_firstStop 77 = .ok (.istore_n 1, 1) := by decide +kernel
theorem dX3_firstStop_78 : decode cX3_firstStop 78 = .ok (.iload 5, 2) := by decide +kernel
theorem dX3_firstStop_80 : decode cX3_firstStop 80 = .ok (.istore_n 2, 1) := by decide +kernel
theorem dX3_firstStop_81 : decode cX3_firstStop 81 = .ok (.iinc 3 1, 3) := by decide +kernel
theorem dX3_firstStop_84 : decode cX3_firstStop 84 = .ok (.goto (-78), 3) := by decide +kernel
theorem dX3_firstStop_87 : decode cX3_firstStop 87 = .ok (.iload_n 1, 1) := by decide +kernel
theorem dX3_firstStop_88 : decode cX3_firstStop 88 = .ok (.ireturn, 1) := by decide +kernel
def f_X3_firstStop_b76 (kk6 : Int32 → Int32 → Int32 → Option Int32) (M : q_Mem) (a0 : Nat) (a3 : Int32) (a5 : Int32) : Option Int32 :=
  kk6 a3 a5 (a3 + (1 : Int32))
def f_X3_firstStop_b6 (M : q_Mem) (a0 : Nat) : Nat → Int32 → Int32 → Int32 → Option Int32
  | 0, _, _, _ => none
  | n + 1, a1, a2, a3 =>
    (q_gI 2 2 M a0).bind fun v1 =>
    (if a3 < v1 then
      (f_X3_allBut M a0 a3).bind fun v4 =>
      (f_X3_restOf M a0 v4 a3).bind fun v6 =>
      (q_gI 2 2 M a0).bind fun v7 =>
      (q_gR 2 0 M a0).bind fun v9 =>
      (q_gI 4 14 M v9).bind fun v11 =>
      (if v11 < (((3 : Int32) * v6) + ((5 : Int32) * (v7 - (1 : Int32)))) then
        f_X3_firstStop_b6 M a0 n a1 a2 (a3 + (1 : Int32))
      else
        (f_X3_homeOf M a0 a3).bind fun v14 =>
        (if a1 = (-1 : Int32) then
          f_X3_firstStop_b76 (f_X3_firstStop_b6 M a0 n) M a0 a3 (v14 + v6)
        else
          (if (v14 + v6) < a2 then
            f_X3_firstStop_b76 (f_X3_firstStop_b6 M a0 n) M a0 a3 (v14 + v6)
          else
            f_X3_firstStop_b6 M a0 n a1 a2 (a3 + (1 : Int32)))))
    else
      some a1)
def f_X3_firstStop (M : q_Mem) (a0 : Nat) : Option Int32 :=
  q_ob 2 M a0 (f_X3_firstStop_b6 M a0 q_fuel (-1 : Int32) (0 : Int32) (0 : Int32))
set_option maxRecDepth 20000 in
theorem v_X3_firstStop_b76 {kk6 : Int32 → Int32 → Int32 → Option Int32} {M : q_Mem} {a0 : Nat} {a3 : Int32} {a5 : Int32}  (hk6 : ∀ (a1 : Int32) (a2 : Int32) (a3 : Int32), q_V Y_X3_firstStop none (fun x : Int32 => (some (.int x), M)) 0 0 6 [(0, .ref a0), (1, .int a1), (2, .int a2), (3, .int a3)] [] M (kk6 a1 a2 a3)): q_V Y_X3_firstStop none (fun x : Int32 => (some (.int x), M)) 0 0 76 [(0, .ref a0), (3, .int a3), (5, .int a5)] [] M (f_X3_firstStop_b76 kk6 M a0 a3 a5 ) := by
  unfold f_X3_firstStop_b76
  refine q_iload_n 1 dX3_firstStop_76 rfl ?_
  refine q_istore_n (ls' := [(1, .int a3), (0, .ref a0), (3, .int a3), (5, .int a5)]) dX3_firstStop_77 (by decide) rfl ?_
  refine q_iload 3 dX3_firstStop_78 rfl ?_
  refine q_istore_n (ls' := [(2, .int a5), (1, .int a3), (0, .ref a0), (3, .int a3), (5, .int a5)]) dX3_firstStop_80 (by decide) rfl ?_
  refine q_iinc 3 (y := (a3 + (1 : Int32))) (ls' := [(3, .int (a3 + (1 : Int32))), (2, .int a5), (1, .int a3), (0, .ref a0), (5, .int a5)]) dX3_firstStop_81 rfl rfl (by decide) rfl ?_
  refine q_goto (tgt := 6) dX3_firstStop_84 (by decide) ?_
  refine q_sub (ls' := [(0, .ref a0), (1, .int a3), (2, .int a5), (3, .int (a3 + (1 : Int32)))]) [3, 2, 1, 0] rfl ?_
  exact hk6 _ _ _
set_option maxRecDepth 20000 in
theorem v_X3_firstStop_b6 {M : q_Mem} {a0 : Nat}  : ∀ (n : Nat) (a1 : Int32) (a2 : Int32) (a3 : Int32), q_V Y_X3_firstStop none (fun x : Int32 => (some (.int x), M)) 0 0 6 [(0, .ref a0), (1, .int a1), (2, .int a2), (3, .int a3)] [] M (f_X3_firstStop_b6 M a0 n a1 a2 a3) := by
  intro n
  induction n with
  | zero => intro a1 a2 a3; exact q_none
  | succ n ih =>
    intro a1 a2 a3
    rw [f_X3_firstStop_b6.eq_2]
    refine q_iload_n 3 dX3_firstStop_6 rfl ?_
    refine q_aload_n 0 dX3_firstStop_7 rfl ?_
    refine q_getI (f := 2) cl_X3 (by decide) qw_300 rfl dX3_firstStop_8 (Or.inl rfl) (fun v1 h2 => ?_)
    refine q_icmp_ge (tgt := 87) dX3_firstStop_11 (by decide) (fun c18 => ?_) (fun c18 => ?_)
    · refine q_aload_n 0 dX3_firstStop_14 rfl ?_
      refine q_aload_n 0 dX3_firstStop_15 rfl ?_
      refine q_iload_n 3 dX3_firstStop_16 rfl ?_
      refine q_cVI (Y2 := Y_X3_allBut) (As := [.int a3]) (b := a0) (st := [.ref a0]) cl_X3 mv_X3_allBut qw_921 dX3_firstStop_17 ⟨Nat.le_of_ble_eq_true rfl, Nat.le_of_ble_eq_true rfl⟩ rfl (fun _ _ => rfl) (Nat.le_of_ble_eq_true rfl) ⟨Nat.le_of_ble_eq_true rfl, Nat.le_of_ble_eq_true rfl⟩ (fun v4 h3 => q_ob_is h3) (fun v4 h3 => m_X3_allBut h3) (fun v4 h3 => ?_)
      refine q_iload_n 3 dX3_firstStop_20 rfl ?_
      refine q_cVI (Y2 := Y_X3_restOf) (As := [.int v4, .int a3]) (b := a0) (st := []) cl_X3 mv_X3_restOf qw_912 dX3_firstStop_21 ⟨Nat.le_of_ble_eq_true rfl, Nat.le_of_ble_eq_true rfl⟩ rfl (fun _ _ => rfl) (Nat.le_of_ble_eq_true rfl) ⟨Nat.le_of_ble_eq_true rfl, Nat.le_of_ble_eq_true rfl⟩ (fun v6 h5 => q_ob_is h5) (fun v6 h5 => m_X3_restOf h5) (fun v6 h5 => ?_)
      refine q_istore (ls' := [(4, .int v6), (0, .ref a0), (1, .int a1), (2, .int a2), (3, .int a3)]) dX3_firstStop_24 (by decide) rfl ?_
      refine q_iconst (x := (3 : Int32)) dX3_firstStop_26 rfl ?_
      refine q_iload 0 dX3_firstStop_27 rfl ?_
      refine q_imul dX3_firstStop_29 ?_
      refine q_iconst (x := (5 : Int32)) dX3_firstStop_30 rfl ?_
      refine q_aload_n 1 dX3_firstStop_31 rfl ?_
      refine q_getI (f := 2) cl_X3 (by decide) qw_300 rfl dX3_firstStop_32 (Or.inl rfl) (fun v7 h8 => ?_)
      refine q_iconst (x := (1 : Int32)) dX3_firstStop_35 rfl ?_
      refine q_isub dX3_firstStop_36 ?_
      refine q_imul dX3_firstStop_37 ?_
      refine q_iadd dX3_firstStop_38 ?_
      refine q_aload_n 1 dX3_firstStop_39 rfl ?_
      refine q_getR (f := 0) cl_X3 (by decide) qw_298 rfl dX3_firstStop_40 (fun _ _ _ => rfl) (fun v9 h10 => ?_)
      refine q_getI (f := 14) cl_X5 (by decide) qw_118 rfl dX3_firstStop_43 (Or.inl rfl) (fun v11 h12 => ?_)
      refine q_icmp_le (tgt := 52) dX3_firstStop_46 (by decide) (fun c17 => ?_) (fun c17 => ?_)
      · refine q_goto (tgt := 81) dX3_firstStop_49 (by decide) ?_
        refine q_iinc 4 (y := (a3 + (1 : Int32))) (ls' := [(3, .int (a3 + (1 : Int32))), (4, .int v6), (0, .ref a0), (1, .int a1), (2, .int a2)]) dX3_firstStop_81 rfl rfl (by decide) rfl ?_
        refine q_goto (tgt := 6) dX3_firstStop_84 (by decide) ?_
        refine q_sub (ls' := [(0, .ref a0), (1, .int a1), (2, .int a2), (3, .int (a3 + (1 : Int32)))]) [2, 3, 4, 0] rfl ?_
        exact ih _ _ _
      · refine q_aload_n 1 dX3_firstStop_52 rfl ?_
        refine q_iload_n 4 dX3_firstStop_53 rfl ?_
        refine q_cVI (Y2 := Y_X3_homeOf) (As := [.int a3]) (b := a0) (st := []) cl_X3 mv_X3_homeOf qw_903 dX3_firstStop_54 ⟨Nat.le_of_ble_eq_true rfl, Nat.le_of_ble_eq_true rfl⟩ rfl (fun _ _ => rfl) (Nat.le_of_ble_eq_true rfl) ⟨Nat.le_of_ble_eq_true rfl, Nat.le_of_ble_eq_true rfl⟩ (fun v14 h13 => q_ob_is h13) (fun v14 h13 => m_X3_homeOf h13) (fun v14 h13 => ?_)
        refine q_iload 0 dX3_firstStop_57 rfl ?_
        refine q_iadd dX3_firstStop_59 ?_
        refine q_istore (ls' := [(5, .int (v14 + v6)), (4, .int v6), (0, .ref a0), (1, .int a1), (2, .int a2), (3, .int a3)]) dX3_firstStop_60 (by decide) rfl ?_
        refine q_iload_n 3 dX3_firstStop_62 rfl ?_
        refine q_iconst (x := (-1 : Int32)) dX3_firstStop_63 rfl ?_
        refine q_icmp_eq (tgt := 76) dX3_firstStop_64 (by decide) (fun c16 => ?_) (fun c16 => ?_)
        · refine q_sub (ls' := [(0, .ref a0), (3, .int a3), (5, .int (v14 + v6))]) [2, 5, 0] rfl ?_
          exact v_X3_firstStop_b76 (ih)
        · refine q_iload 0 dX3_firstStop_67 rfl ?_
          refine q_iload_n 4 dX3_firstStop_69 rfl ?_
          refine q_icmp_lt (tgt := 76) dX3_firstStop_70 (by decide) (fun c15 => ?_) (fun c15 => ?_)
          · refine q_sub (ls' := [(0, .ref a0), (3, .int a3), (5, .int (v14 + v6))]) [2, 5, 0] rfl ?_
            exact v_X3_firstStop_b76 (ih)
          · refine q_goto (tgt := 81) dX3_firstStop_73 (by decide) ?_
            refine q_iinc 5 (y := (a3 + (1 : Int32))) (ls' := [(3, .int (a3 + (1 : Int32))), (5, .int (v14 + v6)), (4, .int v6), (0, .ref a0), (1, .int a1), (2, .int a2)]) dX3_firstStop_81 rfl rfl (by decide) rfl ?_
            refine q_goto (tgt := 6) dX3_firstStop_84 (by decide) ?_
            refine q_sub (ls' := [(0, .ref a0), (1, .int a1), (2, .int a2), (3, .int (a3 + (1 : Int32)))]) [3, 4, 5, 0] rfl ?_
            exact ih _ _ _
    · refine q_iload_n 1 dX3_firstStop_87 rfl ?_
      exact q_iret dX3_firstStop_88 rfl rfl (Nat.le_of_ble_eq_true rfl) rfl
set_option maxRecDepth 20000 in
theorem m_X3_firstStop {M : q_Mem} {a0 : Nat} {x : Int32} (h : f_X3_firstStop M a0 = some x) : q_C Y_X3_firstStop [.ref a0] M (some (.int x)) M := by
  refine q_met (φ := (fun x : Int32 => (some (.int x), M))) (r := f_X3_firstStop M a0) (by decide +kernel) (Nat.le_of_ble_eq_true rfl) ?_ h (fun _ _ => rfl)
  show q_V Y_X3_firstStop none (fun x : Int32 => (some (.int x), M)) 0 0 0 [(0, .ref a0)] [] M (f_X3_firstStop M a0)
  unfold f_X3_firstStop
  refine q_obV ?_
  refine q_iconst (x := (-1 : Int32)) dX3_firstStop_0 rfl ?_
  refine q_istore_n (ls' := [(1, .int (-1 : Int32)), (0, .ref a0)]) dX3_firstStop_1 (by decide) rfl ?_
  refine q_iconst (x := (0 : Int32)) dX3_firstStop_2 rfl ?_
  refine q_istore_n (ls' := [(2, .int (0 : Int32)), (1, .int (-1 : Int32)), (0, .ref a0)]) dX3_firstStop_3 (by decide) rfl ?_
  refine q_iconst (x := (0 : Int32)) dX3_firstStop_4 rfl ?_
  refine q_istore_n (ls' := [(3, .int (0 : Int32)), (2, .int (0 : Int32)), (1, .int (-1 : Int32)), (0, .ref a0)]) dX3_firstStop_5 (by decide) rfl ?_
  refine q_sub (ls' := [(0, .ref a0), (1, .int (-1 : Int32)), (2, .int (0 : Int32)), (3, .int (0 : Int32))]) [3, 2, 1, 0] rfl ?_
  exact v_X3_firstStop_b6 _ _ _ _
theorem dX3_nextStop_0 : decode cX3_nextStop 0 = .ok (.iconst 0, 1) := by decide +kernel
theorem dX3_nextStop_1 : decode cX3_nextStop 1 = .ok (.istore_n 3, 1) := by decide +kernel
theorem dX3_nextStop_2 : decode cX3_nextStop 2 = .ok (.iload_n 3, 1) := by decide +kernel
theorem dX3_nextStop_3 : decode cX3_nextStop 3 = .ok (.aload_n 0, 1) := by decide +kernel
theorem dX3_nextStop_4 : decode cX3_nextStop 4 = .ok (.getfield 42, 3) := by decide +kernel
theorem dX3_nextStop_7 : decode cX3_nextStop 7 = .ok (.if_icmp .ge 35, 3) := by decide +kernel
theorem dX3_nextStop_10 : decode cX3_nextStop 10 = .ok (.iload_n 1, 1) := by decide +kernel
theorem dX3_nextStop_11 : decode cX3_nextStop 11 = .ok (.iload_n 3, 1) := by decide +kernel
theorem dX3_nextStop_12 : decode cX3_nextStop 12 = .ok (.invokestatic 72, 3) := by decide +kernel
theorem dX3_nextStop_15 : decode cX3_nextStop 15 = .ok (.ifCond .eq 21, 3) := by decide +kernel
theorem dX3_nextStop_18 : decode cX3_nextStop 18 = .ok (.aload_n 0, 1) := by decide +kernel
theorem dX3_nextStop_19 : decode cX3_nextStop 19 = .ok (.iload_n 1, 1) := by decide +kernel
theorem dX3_nextStop_20 : decode cX3_nextStop 20 = .ok (.iload_n 2, 1) := by decide +kernel
theorem dX3_nextStop_21 : decode cX3_nextStop 21 = .ok (.iload_n 3, 1) := by decide +kernel
theorem dX3_nextStop_22 : decode cX3_nextStop 22 = .ok (.invokevirtual 92, 3) := by decide +kernel
theorem dX3_nextStop_25 : decode cX3_nextStop 25 = .ok (.aload_n 0, 1) := by decide +kernel
theorem dX3_nextStop_26 : decode cX3_nextStop 26 = .ok (.iload_n 1, 1) := by decide +kernel
theorem dX3_nextStop_27 : decode cX3_nextStop 27 = .ok (.iload_n 2, 1) := by decide +kernel
theorem dX3_nextStop_28 : decode cX3_nextStop 28 = .ok (.invokevirtual 56, 3) := by decide +kernel
theorem dX3_nextStop_31 : decode cX3_nextStop 31 = .ok (.if_icmp .ne 5, 3) := by decide +kernel
theorem dX3_nextStop_34 : decode cX3_nextStop 34 = .ok (.iload_n 3, 1) := by decide +kernel
theorem dX3_nextStop_35 : decode cX3_nextStop 35 = .ok (.ireturn, 1) := by decide +kernel
theorem dX3_nextStop_36 : decode cX3_nextStop 36 = .ok (.iinc 3 1, 3) := by decide +kernel
theorem dX3_nextStop_39 : decode cX3_nextStop 39 = .ok (.goto (-37), 3) := by decide +kernel
theorem dX3_nextStop_42 : decode cX3_nextStop 42 = .ok (.iconst (-1), 1) := by decide +kernel
theorem dX3_nextStop_43 : decode cX3_nextStop 43 = .ok (.ireturn, 1) := by decide +kernel
def f_X3_nextStop_b2 (M : q_Mem) (a0 : Nat) (a1 : Int32) (a2 : Int32) : Nat → Int32 → Option Int32
  | 0, _ => none
  | n + 1, a3 =>
    (q_gI 2 2 M a0).bind fun v1 =>
    (if a3 < v1 then
      (f_X11_holds M a1 a3).bind fun v4 =>
      (if v4 = 0 then
        f_X3_nextStop_b2 M a0 a1 a2 n (a3 + (1 : Int32))
      else
        (f_X3_milesBy M a0 a1 a2 a3).bind fun v6 =>
        (f_X3_restOf M a0 a1 a2).bind fun v8 =>
        (if v6 = v8 then
          some a3
        else
          f_X3_nextStop_b2 M a0 a1 a2 n (a3 + (1 : Int32))))
    else
      some (-1 : Int32))
def f_X3_nextStop (M : q_Mem) (a0 : Nat) (a1 : Int32) (a2 : Int32) : Option Int32 :=
  q_ob 2 M a0 (f_X3_nextStop_b2 M a0 a1 a2 q_fuel (0 : Int32))
set_option maxRecDepth 20000 in
theorem v_X3_nextStop_b2 {M : q_Mem} {a0 : Nat} {a1 : Int32} {a2 : Int32}  : ∀ (n : Nat) (a3 : Int32), q_V Y_X3_nextStop none (fun x : Int32 => (some (.int x), M)) 0 0 2 [(0, .ref a0), (1, .int a1), (2, .int a2), (3, .int a3)] [] M (f_X3_nextStop_b2 M a0 a1 a2 n a3) := by
  intro n
  induction n with
  | zero => intro a3; exact q_none
  | succ n ih =>
    intro a3
    rw [f_X3_nextStop_b2.eq_2]
    refine q_iload_n 3 dX3_nextStop_2 rfl ?_
    refine q_aload_n 0 dX3_nextStop_3 rfl ?_
    refine q_getI (f := 2) cl_X3 (by decide) qw_300 rfl dX3_nextStop_4 (Or.inl rfl) (fun v1 h2 => ?_)
    refine q_icmp_ge (tgt := 42) dX3_nextStop_7 (by decide) (fun c11 => ?_) (fun c11 => ?_)
    · refine q_iload_n 1 dX3_nextStop_10 rfl ?_
      refine q_iload_n 3 dX3_nextStop_11 rfl ?_
      refine q_cNI (Y2 := Y_X11_holds) (As := [.int a1, .int a3]) (st := []) ms_X11_holds (host := "CountyCream") (by decide +kernel) dX3_nextStop_12 ⟨Nat.le_of_ble_eq_true rfl, Nat.le_of_ble_eq_true rfl⟩ rfl (fun _ _ => rfl) (Nat.le_of_ble_eq_true rfl) ⟨Nat.le_of_ble_eq_true rfl, Nat.le_of_ble_eq_true rfl⟩ (fun v4 h3 => m_X11_holds h3) (fun v4 h3 => ?_)
      refine q_if_eq (tgt := 36) dX3_nextStop_15 (by decide) (fun c10 => ?_) (fun c10 => ?_)
      · refine q_iinc 3 (y := (a3 + (1 : Int32))) (ls' := [(3, .int (a3 + (1 : Int32))), (0, .ref a0), (1, .int a1), (2, .int a2)]) dX3_nextStop_36 rfl rfl (by decide) rfl ?_
        refine q_goto (tgt := 2) dX3_nextStop_39 (by decide) ?_
        refine q_sub (ls' := [(0, .ref a0), (1, .int a1), (2, .int a2), (3, .int (a3 + (1 : Int32)))]) [1, 2, 3, 0] rfl ?_
        exact ih _
      · refine q_aload_n 0 dX3_nextStop_18 rfl ?_
        refine q_iload_n 1 dX3_nextStop_19 rfl ?_
        refine q_iload_n 2 dX3_nextStop_20 rfl ?_
        refine q_iload_n 3 dX3_nextStop_21 rfl ?_
        refine q_cVI (Y2 := Y_X3_milesBy) (As := [.int a1, .int a2, .int a3]) (b := a0) (st := []) cl_X3 mv_X3_milesBy qw_908 dX3_nextStop_22 ⟨Nat.le_of_ble_eq_true rfl, Nat.le_of_ble_eq_true rfl⟩ rfl (fun _ _ => rfl) (Nat.le_of_ble_eq_true rfl) ⟨Nat.le_of_ble_eq_true rfl, Nat.le_of_ble_eq_true rfl⟩ (fun v6 h5 => q_ob_is h5) (fun v6 h5 => m_X3_milesBy h5) (fun v6 h5 => ?_)
        refine q_aload_n 0 dX3_nextStop_25 rfl ?_
        refine q_iload_n 1 dX3_nextStop_26 rfl ?_
        refine q_iload_n 2 dX3_nextStop_27 rfl ?_
        refine q_cVI (Y2 := Y_X3_restOf) (As := [.int a1, .int a2]) (b := a0) (st := [.int v6]) cl_X3 mv_X3_restOf qw_912 dX3_nextStop_28 ⟨Nat.le_of_ble_eq_true rfl, Nat.le_of_ble_eq_true rfl⟩ rfl (fun _ _ => rfl) (Nat.le_of_ble_eq_true rfl) ⟨Nat.le_of_ble_eq_true rfl, Nat.le_of_ble_eq_true rfl⟩ (fun v8 h7 => q_ob_is h7) (fun v8 h7 => m_X3_restOf h7) (fun v8 h7 => ?_)
        refine q_icmp_ne (tgt := 36) dX3_nextStop_31 (by decide) (fun c9 => ?_) (fun c9 => ?_)
        · refine q_iload_n 3 dX3_nextStop_34 rfl ?_
          exact q_iret dX3_nextStop_35 rfl rfl (Nat.le_of_ble_eq_true rfl) rfl
        · refine q_iinc 3 (y := (a3 + (1 : Int32))) (ls' := [(3, .int (a3 + (1 : Int32))), (0, .ref a0), (1, .int a1), (2, .int a2)]) dX3_nextStop_36 rfl rfl (by decide) rfl ?_
          refine q_goto (tgt := 2) dX3_nextStop_39 (by decide) ?_
          refine q_sub (ls' := [(0, .ref a0), (1, .int a1), (2, .int a2), (3, .int (a3 + (1 : Int32)))]) [1, 2, 3, 0] rfl ?_
          exact ih _
    · refine q_iconst (x := (-1 : Int32)) dX3_nextStop_42 rfl ?_
      exact q_iret dX3_nextStop_43 rfl rfl (Nat.le_of_ble_eq_true rfl) rfl
set_option maxRecDepth 20000 in
theorem m_X3_nextStop {M : q_Mem} {a0 : Nat} {a1 : Int32} {a2 : Int32} {x : Int32} (h : f_X3_nextStop M a0 a1 a2 = some x) : q_C Y_X3_nextStop [.ref a0, .int a1, .int a2] M (some (.int x)) M := by
  refine q_met (φ := (fun x : Int32 => (some (.int x), M))) (r := f_X3_nextStop M a0 a1 a2) (by decide +kernel) (Nat.le_of_ble_eq_true rfl) ?_ h (fun _ _ => rfl)
  show q_V Y_X3_nextStop none (fun x : Int32 => (some (.int x), M)) 0 0 0 [(0, .ref a0), (1, .int a1), (2, .int a2)] [] M (f_X3_nextStop M a0 a1 a2)
  unfold f_X3_nextStop
  refine q_obV ?_
  refine q_iconst (x := (0 : Int32)) dX3_nextStop_0 rfl ?_
  refine q_istore_n (ls' := [(3, .int (0 : Int32)), (0, .ref a0), (1, .int a1), (2, .int a2)]) dX3_nextStop_1 (by decide) rfl ?_
  refine q_sub (ls' := [(0, .ref a0), (1, .int a1), (2, .int a2), (3, .int (0 : Int32))]) [1, 2, 3, 0] rfl ?_
  exact v_X3_nextStop_b2 _ _
theorem dX3_findOrder_0 : decode cX3_findOrder 0 = .ok (.iload_n 1, 1) := by decide +kernel
theorem dX3_findOrder_1 : decode cX3_findOrder 1 = .ok (.istore_n 2, 1) := by decide +kernel
theorem dX3_findOrder_2 : decode cX3_findOrder 2 = .ok (.aload_n 0, 1) := by decide +kernel
theorem dX3_findOrder_3 : decode cX3_findOrder 3 = .ok (.iconst 0, 1) := by decide +kernel
theorem dX3_findOrder_4 : decode cX3_findOrder 4 = .ok (.iload_n 1, 1) := by decide +kernel
theorem dX3_findOrder_5 : decode cX3_findOrder 5 = .ok (.invokestatic 102, 3) := by decide +kernel
theorem dX3_findOrder_8 : decode cX3_findOrder 8 = .ok (.invokevirtual 53, 3) := by decide +kernel
theorem dX3_findOrder_11 : decode cX3_findOrder 11 = .ok (.istore_n 3, 1) := by decide +kernel
theorem dX3_findOrder_12 : decode cX3_findOrder 12 = .ok (.iconst 0, 1) := by decide +kernel
theorem dX3_findOrder_13 : decode cX3_findOrder 13 = .ok (.istore 4, 2) := by decide +kernel
theorem dX3_findOrder_15 : decode cX3_findOrder 15 = .ok (.iload 4, 2) := by decide +kernel
theorem dX3_findOrder_17 : decode cX3_findOrder 17 = .ok (.aload_n 0, 1) := by decide +kernel
theorem dX3_findOrder_18 : decode cX3_findOrder 18 = .ok (.getfield 42, 3) := by decide +kernel
theorem dX3_findOrder_21 : decode cX3_findOrder 21 = .ok (.if_icmp .ge 67, 3) := by decide +kernel
theorem dX3_findOrder_24 : decode cX3_findOrder 24 = .ok (.iload 4, 2) := by decide +kernel
theorem dX3_findOrder_26 : decode cX3_findOrder 26 = .ok (.bipush 8, 2) := by decide +kernel
theorem dX3_findOrder_28 : decode cX3_findOrder 28 = .ok (.if_icmp .ge 60, 3) := by decide +kernel
theorem dX3_findOrder_31 : decode cX3_findOrder 31 = .ok (.aload_n 0, 1) := by decide +kernel
theorem dX3_findOrder_32 : decode cX3_findOrder 32 = .ok (.getfield 24, 3) := by decide +kernel
theorem dX3_findOrder_35 : decode cX3_findOrder 35 = .ok (.iload 4, 2) := by decide +kernel
theorem dX3_findOrder_37 : decode cX3_findOrder 37 = .ok (.iload_n 2, 1) := by decide +kernel
theorem dX3_findOrder_38 : decode cX3_findOrder 38 = .ok (.ifCond .lt 9, 3) := by decide +kernel
theorem dX3_findOrder_41 : decode cX3_findOrder 41 = .ok (.iload_n 2, 1) := by decide +kernel
theorem dX3_findOrder_42 : decode cX3_findOrder 42 = .ok (.bipush 8, 2) := by decide +kernel
theorem dX3_findOrder_44 : decode cX3_findOrder 44 = .ok (.if_icmp .lt 7, 3) := by decide +kernel
theorem dX3_findOrder_47 : decode cX3_findOrder 47 = .ok (.iconst (-1), 1) := by decide +kernel
theorem dX3_findOrder_48 : decode cX3_findOrder 48 = .ok (.goto 9, 3) := by decide +kernel
theorem dX3_findOrder_51 : decode cX3_findOrder 51 = .ok (.aload_n 0, 1) := by decide +kernel
theorem dX3_findOrder_52 : decode cX3_findOrder 52 = .ok (.getfield 11, 3) := by decide +kernel
theorem dX3_findOrder_55 : decode cX3_findOrder 55 = .ok (.iload_n 2, 1) := by decide +kernel
theorem dX3_findOrder_56 : decode cX3_findOrder 56 = .ok (.iaload, 1) := by decide +kernel
theorem dX3_findOrder_57 : decode cX3_findOrder 57 = .ok (.iastore, 1) := by decide +kernel
theorem dX3_findOrder_58 : decode cX3_findOrder 58 = .ok (.aload_n 0, 1) := by decide +kernel
theorem dX3_findOrder_59 : decode cX3_findOrder 59 = .ok (.iload_n 3, 1) := by decide +kernel
theorem dX3_findOrder_60 : decode cX3_findOrder 60 = .ok (.iload_n 2, 1) := by decide +kernel
theorem dX3_findOrder_61 : decode cX3_findOrder 61 = .ok (.invokevirtual 105, 3) := by decide +kernel
theorem dX3_findOrder_64 : decode cX3_findOrder 64 = .ok (.istore 5, 2) := by decide +kernel
theorem dX3_findOrder_66 : decode cX3_findOrder 66 = .ok (.iload_n 3, 1) := by decide +kernel
theorem dX3_findOrder_67 : decode cX3_findOrder 67 = .ok (.iconst 1, 1) := by decide +kernel
theorem dX3_findOrder_68 : decode cX3_findOrder 68 = .ok (.iconst 0, 1) := by decide +kernel
theorem dX3_findOrder_69 : decode cX3_findOrder 69 = .ok (.iload 5, 2) := by decide +kernel
theorem dX3_findOrder_71 : decode cX3_findOrder 71 = .ok (.invokestatic 102, 3) := by decide +kernel
theorem dX3_findOrder_74 : decode cX3_findOrder 74 = .ok (.ishl, 1) := by decide +kernel
theorem dX3_findOrder_75 : decode cX3_findOrder 75 = .ok (.iconst (-1), 1) := by decide +kernel
theorem dX3_findOrder_76 : decode cX3_findOrder 76 = .ok (.ixor, 1) := by decide +kernel
theorem dX3_findOrder_77 : decode cX3_findOrder 77 = .ok (.iand, 1) := by decide +kernel
theorem dX3_findOrder_78 : decode cX3_findOrder 78 = .ok (.istore_n 3, 1) := by decide +kernel
theorem dX3_findOrder_79 : decode cX3_findOrder 79 = .ok (.iload 5, 2) := by decide +kernel
theorem dX3_findOrder_81 : decode cX3_findOrder 81 = .ok (.istore_n 2, 1) := by decide +kernel
theorem dX3_findOrder_82 : decode cX3_findOrder 82 = .ok (.iinc 4 1, 3) := by decide +kernel
theorem dX3_findOrder_85 : decode cX3_findOrder 85 = .ok (.goto (-70), 3) := by decide +kernel
theorem dX3_findOrder_88 : decode cX3_findOrder 88 = .ok (.return_, 1) := by decide +kernel
def f_X3_findOrder_b57 (kk15 : Int32 → Int32 → Int32 → q_Mem → Option q_Mem) (M : q_Mem) (a0 : Nat) (a2 : Int32) (a3 : Int32) (a4 : Int32) (s0 : Nat) (s1 : Int32) (s2 : Int32) : Option q_Mem :=
  (q_tI M s0 s1 s2).bind fun M15 =>
  (f_X3_nextStop M15 a0 a3 a2).bind fun v18 =>
  kk15 v18 (a3 &&& (((1 : Int32) <<< ((q_mx (0 : Int32) v18) &&& 31)) ^^^ (-1 : Int32))) (a4 + (1 : Int32)) M15
def f_X3_findOrder_b15 (a0 : Nat) : Nat → Int32 → Int32 → Int32 → q_Mem → Option q_Mem
  | 0, _, _, _, _ => none
  | n + 1, a2, a3, a4, M =>
    (q_gI 2 2 M a0).bind fun v3 =>
    (if a4 < v3 then
      (if a4 < (8 : Int32) then
        (q_gR 2 6 M a0).bind fun v5 =>
        (if a2 < 0 then
          f_X3_findOrder_b57 (f_X3_findOrder_b15 a0 n) M a0 a2 a3 a4 v5 a4 (-1 : Int32)
        else
          (if a2 < (8 : Int32) then
            (q_gR 2 1 M a0).bind fun v7 =>
            (q_lI M v7 a2).bind fun v9 =>
            f_X3_findOrder_b57 (f_X3_findOrder_b15 a0 n) M a0 a2 a3 a4 v5 a4 v9
          else
            f_X3_findOrder_b57 (f_X3_findOrder_b15 a0 n) M a0 a2 a3 a4 v5 a4 (-1 : Int32)))
      else
        some M)
    else
      some M)
def f_X3_findOrder (M : q_Mem) (a0 : Nat) (a1 : Int32) : Option q_Mem :=
  q_ob 2 M a0 ((f_X3_allBut M a0 (q_mx (0 : Int32) a1)).bind fun v2 =>
  f_X3_findOrder_b15 a0 q_fuel a1 v2 (0 : Int32) M)
set_option maxRecDepth 20000 in
theorem v_X3_findOrder_b57 {kk15 : Int32 → Int32 → Int32 → q_Mem → Option q_Mem} {M : q_Mem} {a0 : Nat} {a2 : Int32} {a3 : Int32} {a4 : Int32} {s0 : Nat} {s1 : Int32} {s2 : Int32}  (hk15 : ∀ (a2 : Int32) (a3 : Int32) (a4 : Int32) (M : q_Mem), q_V Y_X3_findOrder none (fun x : q_Mem => (none, x)) 0 0 15 [(0, .ref a0), (2, .int a2), (3, .int a3), (4, .int a4)] [] M (kk15 a2 a3 a4 M)): q_V Y_X3_findOrder none (fun x : q_Mem => (none, x)) 0 0 57 [(0, .ref a0), (2, .int a2), (3, .int a3), (4, .int a4)] [.int s2, .int s1, .ref s0] M (f_X3_findOrder_b57 kk15 M a0 a2 a3 a4 s0 s1 s2) := by
  unfold f_X3_findOrder_b57
  refine q_iast dX3_findOrder_57 (fun M15 h16 => ?_)
  refine q_aload_n 0 dX3_findOrder_58 rfl ?_
  refine q_iload_n 2 dX3_findOrder_59 rfl ?_
  refine q_iload_n 1 dX3_findOrder_60 rfl ?_
  refine q_cVI (Y2 := Y_X3_nextStop) (As := [.int a3, .int a2]) (b := a0) (st := []) cl_X3 mv_X3_nextStop qw_930 dX3_findOrder_61 ⟨Nat.le_of_ble_eq_true rfl, Nat.le_of_ble_eq_true rfl⟩ rfl (fun _ _ => rfl) (Nat.le_of_ble_eq_true rfl) ⟨Nat.le_of_ble_eq_true rfl, Nat.le_of_ble_eq_true rfl⟩ (fun v18 h17 => q_ob_is h17) (fun v18 h17 => m_X3_nextStop h17) (fun v18 h17 => ?_)
  refine q_istore (ls' := [(5, .int v18), (0, .ref a0), (2, .int a2), (3, .int a3), (4, .int a4)]) dX3_findOrder_64 (by decide) rfl ?_
  refine q_iload_n 3 dX3_findOrder_66 rfl ?_
  refine q_iconst (x := (1 : Int32)) dX3_findOrder_67 rfl ?_
  refine q_iconst (x := (0 : Int32)) dX3_findOrder_68 rfl ?_
  refine q_iload 0 dX3_findOrder_69 rfl ?_
  refine q_mmax qw_929 qm_mmax_1 qm_2 qm_mmax_3 dX3_findOrder_71 (Nat.le_of_ble_eq_true rfl) (Nat.le_of_ble_eq_true rfl) (Nat.le_of_ble_eq_true rfl) ⟨Nat.le_of_ble_eq_true rfl, Nat.le_of_ble_eq_true rfl⟩ ?_
  refine q_ishl dX3_findOrder_74 ?_
  refine q_iconst (x := (-1 : Int32)) dX3_findOrder_75 rfl ?_
  refine q_ixor dX3_findOrder_76 ?_
  refine q_iand dX3_findOrder_77 ?_
  refine q_istore_n (ls' := [(3, .int (a3 &&& (((1 : Int32) <<< ((q_mx (0 : Int32) v18) &&& 31)) ^^^ (-1 : Int32)))), (5, .int v18), (0, .ref a0), (2, .int a2), (4, .int a4)]) dX3_findOrder_78 (by decide) rfl ?_
  refine q_iload 1 dX3_findOrder_79 rfl ?_
  refine q_istore_n (ls' := [(2, .int v18), (3, .int (a3 &&& (((1 : Int32) <<< ((q_mx (0 : Int32) v18) &&& 31)) ^^^ (-1 : Int32)))), (5, .int v18), (0, .ref a0), (4, .int a4)]) dX3_findOrder_81 (by decide) rfl ?_
  refine q_iinc 4 (y := (a4 + (1 : Int32))) (ls' := [(4, .int (a4 + (1 : Int32))), (2, .int v18), (3, .int (a3 &&& (((1 : Int32) <<< ((q_mx (0 : Int32) v18) &&& 31)) ^^^ (-1 : Int32)))), (5, .int v18), (0, .ref a0)]) dX3_findOrder_82 rfl rfl (by decide) rfl ?_
  refine q_goto (tgt := 15) dX3_findOrder_85 (by decide) ?_
  refine q_sub (ls' := [(0, .ref a0), (2, .int v18), (3, .int (a3 &&& (((1 : Int32) <<< ((q_mx (0 : Int32) v18) &&& 31)) ^^^ (-1 : Int32)))), (4, .int (a4 + (1 : Int32)))]) [4, 1, 2, 0] rfl ?_
  exact hk15 _ _ _ _
set_option maxRecDepth 20000 in
theorem v_X3_findOrder_b15 {a0 : Nat}  : ∀ (n : Nat) (a2 : Int32) (a3 : Int32) (a4 : Int32) (M : q_Mem), q_V Y_X3_findOrder none (fun x : q_Mem => (none, x)) 0 0 15 [(0, .ref a0), (2, .int a2), (3, .int a3), (4, .int a4)] [] M (f_X3_findOrder_b15 a0 n a2 a3 a4 M) := by
  intro n
  induction n with
  | zero => intro a2 a3 a4 M; exact q_none
  | succ n ih =>
    intro a2 a3 a4 M
    rw [f_X3_findOrder_b15.eq_2]
    refine q_iload 3 dX3_findOrder_15 rfl ?_
    refine q_aload_n 0 dX3_findOrder_17 rfl ?_
    refine q_getI (f := 2) cl_X3 (by decide) qw_300 rfl dX3_findOrder_18 (Or.inl rfl) (fun v3 h4 => ?_)
    refine q_icmp_ge (tgt := 88) dX3_findOrder_21 (by decide) (fun c14 => ?_) (fun c14 => ?_)
    · refine q_iload 3 dX3_findOrder_24 rfl ?_
      refine q_bipush (x := (8 : Int32)) dX3_findOrder_26 rfl ?_
      refine q_icmp_ge (tgt := 88) dX3_findOrder_28 (by decide) (fun c13 => ?_) (fun c13 => ?_)
      · refine q_aload_n 0 dX3_findOrder_31 rfl ?_
        refine q_getR (f := 6) cl_X3 (by decide) qw_304 rfl dX3_findOrder_32 (fun _ _ _ => rfl) (fun v5 h6 => ?_)
        refine q_iload 3 dX3_findOrder_35 rfl ?_
        refine q_iload_n 1 dX3_findOrder_37 rfl ?_
        refine q_if_lt (tgt := 47) dX3_findOrder_38 (by decide) (fun c12 => ?_) (fun c12 => ?_)
        · refine q_iconst (x := (-1 : Int32)) dX3_findOrder_47 rfl ?_
          refine q_goto (tgt := 57) dX3_findOrder_48 (by decide) ?_
          exact v_X3_findOrder_b57 (ih)
        · refine q_iload_n 1 dX3_findOrder_41 rfl ?_
          refine q_bipush (x := (8 : Int32)) dX3_findOrder_42 rfl ?_
          refine q_icmp_lt (tgt := 51) dX3_findOrder_44 (by decide) (fun c11 => ?_) (fun c11 => ?_)
          · refine q_aload_n 0 dX3_findOrder_51 rfl ?_
            refine q_getR (f := 1) cl_X3 (by decide) qw_299 rfl dX3_findOrder_52 (fun _ _ _ => rfl) (fun v7 h8 => ?_)
            refine q_iload_n 1 dX3_findOrder_55 rfl ?_
            refine q_iald dX3_findOrder_56 (fun v9 h10 => ?_)
            exact v_X3_findOrder_b57 (ih)
          · refine q_iconst (x := (-1 : Int32)) dX3_findOrder_47 rfl ?_
            refine q_goto (tgt := 57) dX3_findOrder_48 (by decide) ?_
            exact v_X3_findOrder_b57 (ih)
      · exact q_vret dX3_findOrder_88 rfl rfl (Nat.le_of_ble_eq_true rfl) rfl
    · exact q_vret dX3_findOrder_88 rfl rfl (Nat.le_of_ble_eq_true rfl) rfl
set_option maxRecDepth 20000 in
theorem m_X3_findOrder {M : q_Mem} {a0 : Nat} {a1 : Int32} {x : q_Mem} (h : f_X3_findOrder M a0 a1 = some x) : q_C Y_X3_findOrder [.ref a0, .int a1] M none x := by
  refine q_met (φ := (fun x : q_Mem => (none, x))) (r := f_X3_findOrder M a0 a1) (by decide +kernel) (Nat.le_of_ble_eq_true rfl) ?_ h (fun _ _ => rfl)
  show q_V Y_X3_findOrder none (fun x : q_Mem => (none, x)) 0 0 0 [(0, .ref a0), (1, .int a1)] [] M (f_X3_findOrder M a0 a1)
  unfold f_X3_findOrder
  refine q_obV ?_
  refine q_iload_n 1 dX3_findOrder_0 rfl ?_
  refine q_istore_n (ls' := [(2, .int a1), (0, .ref a0), (1, .int a1)]) dX3_findOrder_1 (by decide) rfl ?_
  refine q_aload_n 1 dX3_findOrder_2 rfl ?_
  refine q_iconst (x := (0 : Int32)) dX3_findOrder_3 rfl ?_
  refine q_iload_n 2 dX3_findOrder_4 rfl ?_
  refine q_mmax qw_929 qm_mmax_1 qm_2 qm_mmax_3 dX3_findOrder_5 (Nat.le_of_ble_eq_true rfl) (Nat.le_of_ble_eq_true rfl) (Nat.le_of_ble_eq_true rfl) ⟨Nat.le_of_ble_eq_true rfl, Nat.le_of_ble_eq_true rfl⟩ ?_
  refine q_cVI (Y2 := Y_X3_allBut) (As := [.int (q_mx (0 : Int32) a1)]) (b := a0) (st := []) cl_X3 mv_X3_allBut qw_921 dX3_findOrder_8 ⟨Nat.le_of_ble_eq_true rfl, Nat.le_of_ble_eq_true rfl⟩ rfl (fun _ _ => rfl) (Nat.le_of_ble_eq_true rfl) ⟨Nat.le_of_ble_eq_true rfl, Nat.le_of_ble_eq_true rfl⟩ (fun v2 h1 => q_ob_is h1) (fun v2 h1 => m_X3_allBut h1) (fun v2 h1 => ?_)
  refine q_istore_n (ls' := [(3, .int v2), (2, .int a1), (0, .ref a0), (1, .int a1)]) dX3_findOrder_11 (by decide) rfl ?_
  refine q_iconst (x := (0 : Int32)) dX3_findOrder_12 rfl ?_
  refine q_istore (ls' := [(4, .int (0 : Int32)), (3, .int v2), (2, .int a1), (0, .ref a0), (1, .int a1)]) dX3_findOrder_13 (by decide) rfl ?_
  refine q_sub (ls' := [(0, .ref a0), (2, .int a1), (3, .int v2), (4, .int (0 : Int32))]) [3, 2, 1, 0] rfl ?_
  exact v_X3_findOrder_b15 _ _ _ _ _
theorem dX3_plan_0 : decode cX3_plan 0 = .ok (.aload_n 0, 1) := by decide +kernel
theorem dX3_plan_1 : decode cX3_plan 1 = .ok (.iload_n 1, 1) := by decide +kernel
theorem dX3_plan_2 : decode cX3_plan 2 = .ok (.invokevirtual 31, 3) := by decide +kernel
theorem dX3_plan_5 : decode cX3_plan 5 = .ok (.aload_n 0, 1) := by decide +kernel
theorem dX3_plan_6 : decode cX3_plan 6 = .ok (.invokevirtual 35, 3) := by decide +kernel
theorem dX3_plan_9 : decode cX3_plan 9 = .ok (.aload_n 0, 1) := by decide +kernel
theorem dX3_plan_10 : decode cX3_plan 10 = .ok (.invokevirtual 38, 3) := by decide +kernel
theorem dX3_plan_13 : decode cX3_plan 13 = .ok (.istore_n 2, 1) := by decide +kernel
theorem dX3_plan_14 : decode cX3_plan 14 = .ok (.aload_n 0, 1) := by decide +kernel
theorem dX3_plan_15 : decode cX3_plan 15 = .ok (.getfield 42, 3) := by decide +kernel
theorem dX3_plan_18 : decode cX3_plan 18 = .ok (.ifCond .le 19, 3) := by decide +kernel
theorem dX3_plan_21 : decode cX3_plan 21 = .ok (.iload_n 2, 1) := by decide +kernel
theorem dX3_plan_22 : decode cX3_plan 22 = .ok (.iconst (-1), 1) := by decide +kernel
theorem dX3_plan_23 : decode cX3_plan 23 = .ok (.if_icmp .ne 14, 3) := by decide +kernel
theorem dX3_plan_26 : decode cX3_plan 26 = .ok (.aload_n 0, 1) := by decide +kernel
theorem dX3_plan_27 : decode cX3_plan 27 = .ok (.iconst (-1), 1) := by decide +kernel
theorem dX3_plan_28 : decode cX3_plan 28 = .ok (.putfield 46, 3) := by decide +kernel
theorem dX3_plan_31 : decode cX3_plan 31 = .ok (.aload_n 0, 1) := by decide +kernel
theorem dX3_plan_32 : decode cX3_plan 32 = .ok (.iconst 0, 1) := by decide +kernel
theorem dX3_plan_33 : decode cX3_plan 33 = .ok (.putfield 42, 3) := by decide +kernel
theorem dX3_plan_36 : decode cX3_plan 36 = .ok (.return_, 1) := by decide +kernel
theorem dX3_plan_37 : decode cX3_plan 37 = .ok (.aload_n 0, 1) := by decide +kernel
theorem dX3_plan_38 : decode cX3_plan 38 = .ok (.aload_n 0, 1) := by decide +kernel
theorem dX3_plan_39 : decode cX3_plan 39 = .ok (.getfield 42, 3) := by decide +kernel
theorem dX3_plan_42 : decode cX3_plan 42 = .ok (.ifCond .ne 7, 3) := by decide +kernel
theorem dX3_plan_45 : decode cX3_plan 45 = .ok (.iconst 0, 1) := by decide +kernel
theorem dX3_plan_46 : decode cX3_plan 46 = .ok (.goto 19, 3) := by decide +kernel
theorem dX3_plan_49 : decode cX3_plan 49 = .ok (.aload_n 0, 1) := by decide +kernel
theorem dX3_plan_50 : decode cX3_plan 50 = .ok (.iload_n 2, 1) := by decide +kernel
theorem dX3_plan_51 : decode cX3_plan 51 = .ok (.invokevirtual 49, 3) := by decide +kernel
theorem dX3_plan_54 : decode cX3_plan 54 = .ok (.aload_n 0, 1) := by decide +kernel
theorem dX3_plan_55 : decode cX3_plan 55 = .ok (.aload_n 0, 1) := by decide +kernel
theorem dX3_plan_56 : decode cX3_plan 56 = .ok (.iload_n 2, 1) := by decide +kernel
theorem dX3_plan_57 : decode cX3_plan 57 = .ok (.invokevirtual 53, 3) := by decide +kernel
theorem dX3_plan_60 : decode cX3_plan 60 = .ok (.iload_n 2, 1) := by decide +kernel
theorem dX3_plan_61 : decode cX3_plan 61 = .ok (.invokevirtual 56, 3) := by decide +kernel
theorem dX3_plan_64 : decode cX3_plan 64 = .ok (.iadd, 1) := by decide +kernel
theorem dX3_plan_65 : decode cX3_plan 65 = .ok (.putfield 46, 3) := by decide +kernel
theorem dX3_plan_68 : decode cX3_plan 68 = .ok (.aload_n 0, 1) := by decide +kernel
theorem dX3_plan_69 : decode cX3_plan 69 = .ok (.iload_n 2, 1) := by decide +kernel
theorem dX3_plan_70 : decode cX3_plan 70 = .ok (.invokevirtual 60, 3) := by decide +kernel
theorem dX3_plan_73 : decode cX3_plan 73 = .ok (.return_, 1) := by decide +kernel
def f_X3_plan_b37 (M : q_Mem) (a0 : Nat) (a2 : Int32) : Option q_Mem :=
  (q_gI 2 2 M a0).bind fun v17 =>
  (if v17 = 0 then
    (q_pI 2 7 M a0 (0 : Int32)).bind fun M19 =>
    (f_X3_findOrder M19 a0 a2).bind fun M23 =>
    some M23
  else
    (f_X3_homeOf M a0 a2).bind fun v25 =>
    (f_X3_allBut M a0 a2).bind fun v27 =>
    (f_X3_restOf M a0 v27 a2).bind fun v29 =>
    (q_pI 2 7 M a0 (v25 + v29)).bind fun M30 =>
    (f_X3_findOrder M30 a0 a2).bind fun M34 =>
    some M34)
def f_X3_plan (M : q_Mem) (a0 : Nat) (a1 : Int32) : Option q_Mem :=
  q_ob 2 M a0 ((f_X3_takeStops M a0 a1).bind fun M3 =>
  (f_X3_findRests M3 a0).bind fun M6 =>
  (f_X3_firstStop M6 a0).bind fun v8 =>
  (q_gI 2 2 M6 a0).bind fun v9 =>
  (if 0 < v9 then
    (if v8 = (-1 : Int32) then
      (q_pI 2 7 M6 a0 (-1 : Int32)).bind fun M11 =>
      (q_pI 2 2 M11 a0 (0 : Int32)).bind fun M13 =>
      some M13
    else
      f_X3_plan_b37 M6 a0 v8)
  else
    f_X3_plan_b37 M6 a0 v8))
set_option maxRecDepth 20000 in
theorem v_X3_plan_b37 {M : q_Mem} {a0 : Nat} {a2 : Int32}  : q_V Y_X3_plan none (fun x : q_Mem => (none, x)) 0 0 37 [(0, .ref a0), (2, .int a2)] [] M (f_X3_plan_b37 M a0 a2 ) := by
  unfold f_X3_plan_b37
  refine q_aload_n 0 dX3_plan_37 rfl ?_
  refine q_aload_n 0 dX3_plan_38 rfl ?_
  refine q_getI (f := 2) cl_X3 (by decide) qw_300 rfl dX3_plan_39 (Or.inl rfl) (fun v17 h18 => ?_)
  refine q_if_ne (tgt := 49) dX3_plan_42 (by decide) (fun c35 => ?_) (fun c35 => ?_)
  · refine q_iconst (x := (0 : Int32)) dX3_plan_45 rfl ?_
    refine q_goto (tgt := 65) dX3_plan_46 (by decide) ?_
    refine q_putI (f := 7) cl_X3 (by decide) qw_305 rfl (Or.inl rfl) dX3_plan_65 rfl (fun M19 h20 => ?_)
    refine q_aload_n 0 dX3_plan_68 rfl ?_
    refine q_iload_n 1 dX3_plan_69 rfl ?_
    refine q_cVM (Y2 := Y_X3_findOrder) (As := [.int a2]) (b := a0) (st := []) cl_X3 mv_X3_findOrder qw_925 dX3_plan_70 ⟨Nat.le_of_ble_eq_true rfl, Nat.le_of_ble_eq_true rfl⟩ rfl (fun _ _ => rfl) (Nat.le_of_ble_eq_true rfl) ⟨Nat.le_of_ble_eq_true rfl, Nat.le_of_ble_eq_true rfl⟩ (fun M23 h21 => q_ob_is h21) (fun M23 h21 => m_X3_findOrder h21) (fun M23 h21 => ?_)
    exact q_vret dX3_plan_73 rfl rfl (Nat.le_of_ble_eq_true rfl) rfl
  · refine q_aload_n 0 dX3_plan_49 rfl ?_
    refine q_iload_n 1 dX3_plan_50 rfl ?_
    refine q_cVI (Y2 := Y_X3_homeOf) (As := [.int a2]) (b := a0) (st := [.ref a0]) cl_X3 mv_X3_homeOf qw_903 dX3_plan_51 ⟨Nat.le_of_ble_eq_true rfl, Nat.le_of_ble_eq_true rfl⟩ rfl (fun _ _ => rfl) (Nat.le_of_ble_eq_true rfl) ⟨Nat.le_of_ble_eq_true rfl, Nat.le_of_ble_eq_true rfl⟩ (fun v25 h24 => q_ob_is h24) (fun v25 h24 => m_X3_homeOf h24) (fun v25 h24 => ?_)
    refine q_aload_n 0 dX3_plan_54 rfl ?_
    refine q_aload_n 0 dX3_plan_55 rfl ?_
    refine q_iload_n 1 dX3_plan_56 rfl ?_
    refine q_cVI (Y2 := Y_X3_allBut) (As := [.int a2]) (b := a0) (st := [.ref a0, .int v25, .ref a0]) cl_X3 mv_X3_allBut qw_921 dX3_plan_57 ⟨Nat.le_of_ble_eq_true rfl, Nat.le_of_ble_eq_true rfl⟩ rfl (fun _ _ => rfl) (Nat.le_of_ble_eq_true rfl) ⟨Nat.le_of_ble_eq_true rfl, Nat.le_of_ble_eq_true rfl⟩ (fun v27 h26 => q_ob_is h26) (fun v27 h26 => m_X3_allBut h26) (fun v27 h26 => ?_)
    refine q_iload_n 1 dX3_plan_60 rfl ?_
    refine q_cVI (Y2 := Y_X3_restOf) (As := [.int v27, .int a2]) (b := a0) (st := [.int v25, .ref a0]) cl_X3 mv_X3_restOf qw_912 dX3_plan_61 ⟨Nat.le_of_ble_eq_true rfl, Nat.le_of_ble_eq_true rfl⟩ rfl (fun _ _ => rfl) (Nat.le_of_ble_eq_true rfl) ⟨Nat.le_of_ble_eq_true rfl, Nat.le_of_ble_eq_true rfl⟩ (fun v29 h28 => q_ob_is h28) (fun v29 h28 => m_X3_restOf h28) (fun v29 h28 => ?_)
    refine q_iadd dX3_plan_64 ?_
    refine q_putI (f := 7) cl_X3 (by decide) qw_305 rfl (Or.inl rfl) dX3_plan_65 rfl (fun M30 h31 => ?_)
    refine q_aload_n 0 dX3_plan_68 rfl ?_
    refine q_iload_n 1 dX3_plan_69 rfl ?_
    refine q_cVM (Y2 := Y_X3_findOrder) (As := [.int a2]) (b := a0) (st := []) cl_X3 mv_X3_findOrder qw_925 dX3_plan_70 ⟨Nat.le_of_ble_eq_true rfl, Nat.le_of_ble_eq_true rfl⟩ rfl (fun _ _ => rfl) (Nat.le_of_ble_eq_true rfl) ⟨Nat.le_of_ble_eq_true rfl, Nat.le_of_ble_eq_true rfl⟩ (fun M34 h32 => q_ob_is h32) (fun M34 h32 => m_X3_findOrder h32) (fun M34 h32 => ?_)
    exact q_vret dX3_plan_73 rfl rfl (Nat.le_of_ble_eq_true rfl) rfl
set_option maxRecDepth 20000 in
theorem m_X3_plan {M : q_Mem} {a0 : Nat} {a1 : Int32} {x : q_Mem} (h : f_X3_plan M a0 a1 = some x) : q_C Y_X3_plan [.ref a0, .int a1] M none x := by
  refine q_met (φ := (fun x : q_Mem => (none, x))) (r := f_X3_plan M a0 a1) (by decide +kernel) (Nat.le_of_ble_eq_true rfl) ?_ h (fun _ _ => rfl)
  show q_V Y_X3_plan none (fun x : q_Mem => (none, x)) 0 0 0 [(0, .ref a0), (1, .int a1)] [] M (f_X3_plan M a0 a1)
  unfold f_X3_plan
  refine q_obV ?_
  refine q_aload_n 0 dX3_plan_0 rfl ?_
  refine q_iload_n 1 dX3_plan_1 rfl ?_
  refine q_cVM (Y2 := Y_X3_takeStops) (As := [.int a1]) (b := a0) (st := []) cl_X3 mv_X3_takeStops qw_882 dX3_plan_2 ⟨Nat.le_of_ble_eq_true rfl, Nat.le_of_ble_eq_true rfl⟩ rfl (fun _ _ => rfl) (Nat.le_of_ble_eq_true rfl) ⟨Nat.le_of_ble_eq_true rfl, Nat.le_of_ble_eq_true rfl⟩ (fun M3 h1 => q_ob_is h1) (fun M3 h1 => m_X3_takeStops h1) (fun M3 h1 => ?_)
  refine q_aload_n 0 dX3_plan_5 rfl ?_
  refine q_cVM (Y2 := Y_X3_findRests) (As := []) (b := a0) (st := []) cl_X3 mv_X3_findRests qw_895 dX3_plan_6 ⟨Nat.le_of_ble_eq_true rfl, Nat.le_of_ble_eq_true rfl⟩ rfl (fun _ _ => rfl) (Nat.le_of_ble_eq_true rfl) ⟨Nat.le_of_ble_eq_true rfl, Nat.le_of_ble_eq_true rfl⟩ (fun M6 h4 => q_ob_is h4) (fun M6 h4 => m_X3_findRests h4) (fun M6 h4 => ?_)
  refine q_aload_n 0 dX3_plan_9 rfl ?_
  refine q_cVI (Y2 := Y_X3_firstStop) (As := []) (b := a0) (st := []) cl_X3 mv_X3_firstStop qw_917 dX3_plan_10 ⟨Nat.le_of_ble_eq_true rfl, Nat.le_of_ble_eq_true rfl⟩ rfl (fun _ _ => rfl) (Nat.le_of_ble_eq_true rfl) ⟨Nat.le_of_ble_eq_true rfl, Nat.le_of_ble_eq_true rfl⟩ (fun v8 h7 => q_ob_is h7) (fun v8 h7 => m_X3_firstStop h7) (fun v8 h7 => ?_)
  refine q_istore_n (ls' := [(2, .int v8), (0, .ref a0), (1, .int a1)]) dX3_plan_13 (by decide) rfl ?_
  refine q_aload_n 1 dX3_plan_14 rfl ?_
  refine q_getI (f := 2) cl_X3 (by decide) qw_300 rfl dX3_plan_15 (Or.inl rfl) (fun v9 h10 => ?_)
  refine q_if_le (tgt := 37) dX3_plan_18 (by decide) (fun c16 => ?_) (fun c16 => ?_)
  · refine q_iload_n 0 dX3_plan_21 rfl ?_
    refine q_iconst (x := (-1 : Int32)) dX3_plan_22 rfl ?_
    refine q_icmp_ne (tgt := 37) dX3_plan_23 (by decide) (fun c15 => ?_) (fun c15 => ?_)
    · refine q_aload_n 1 dX3_plan_26 rfl ?_
      refine q_iconst (x := (-1 : Int32)) dX3_plan_27 rfl ?_
      refine q_putI (f := 7) cl_X3 (by decide) qw_305 rfl (Or.inl rfl) dX3_plan_28 rfl (fun M11 h12 => ?_)
      refine q_aload_n 1 dX3_plan_31 rfl ?_
      refine q_iconst (x := (0 : Int32)) dX3_plan_32 rfl ?_
      refine q_putI (f := 2) cl_X3 (by decide) qw_300 rfl (Or.inl rfl) dX3_plan_33 rfl (fun M13 h14 => ?_)
      exact q_vret dX3_plan_36 rfl rfl (Nat.le_of_ble_eq_true rfl) rfl
    · refine q_sub (ls' := [(0, .ref a0), (2, .int v8)]) [1, 0] rfl ?_
      exact v_X3_plan_b37
  · refine q_sub (ls' := [(0, .ref a0), (2, .int v8)]) [1, 0] rfl ?_
    exact v_X3_plan_b37
theorem dX3_stopAt_0 : decode cX3_stopAt 0 = .ok (.iload_n 1, 1) := by decide +kernel
theorem dX3_stopAt_1 : decode cX3_stopAt 1 = .ok (.ifCond .lt 17, 3) := by decide +kernel
theorem dX3_stopAt_4 : decode cX3_stopAt 4 = .ok (.iload_n 1, 1) := by decide +kernel
theorem dX3_stopAt_5 : decode cX3_stopAt 5 = .ok (.aload_n 0, 1) := by decide +kernel
theorem dX3_stopAt_6 : decode cX3_stopAt 6 = .ok (.getfield 42, 3) := by decide +kernel
theorem dX3_stopAt_9 : decode cX3_stopAt 9 = .ok (.if_icmp .ge 9, 3) := by decide +kernel
theorem dX3_stopAt_12 : decode cX3_stopAt 12 = .ok (.iload_n 1, 1) := by decide +kernel
theorem dX3_stopAt_13 : decode cX3_stopAt 13 = .ok (.bipush 8, 2) := by decide +kernel
theorem dX3_stopAt_15 : decode cX3_stopAt 15 = .ok (.if_icmp .lt 7, 3) := by decide +kernel
theorem dX3_stopAt_18 : decode cX3_stopAt 18 = .ok (.iconst (-1), 1) := by decide +kernel
theorem dX3_stopAt_19 : decode cX3_stopAt 19 = .ok (.goto 9, 3) := by decide +kernel
theorem dX3_stopAt_22 : decode cX3_stopAt 22 = .ok (.aload_n 0, 1) := by decide +kernel
theorem dX3_stopAt_23 : decode cX3_stopAt 23 = .ok (.getfield 24, 3) := by decide +kernel
theorem dX3_stopAt_26 : decode cX3_stopAt 26 = .ok (.iload_n 1, 1) := by decide +kernel
theorem dX3_stopAt_27 : decode cX3_stopAt 27 = .ok (.iaload, 1) := by decide +kernel
theorem dX3_stopAt_28 : decode cX3_stopAt 28 = .ok (.ireturn, 1) := by decide +kernel
def f_X3_stopAt (M : q_Mem) (a0 : Nat) (a1 : Int32) : Option Int32 :=
  q_ob 2 M a0 ((if a1 < 0 then
    some (-1 : Int32)
  else
    (q_gI 2 2 M a0).bind fun v1 =>
    (if a1 < v1 then
      (if a1 < (8 : Int32) then
        (q_gR 2 6 M a0).bind fun v3 =>
        (q_lI M v3 a1).bind fun v5 =>
        some v5
      else
        some (-1 : Int32))
    else
      some (-1 : Int32))))
set_option maxRecDepth 20000 in
theorem m_X3_stopAt {M : q_Mem} {a0 : Nat} {a1 : Int32} {x : Int32} (h : f_X3_stopAt M a0 a1 = some x) : q_C Y_X3_stopAt [.ref a0, .int a1] M (some (.int x)) M := by
  refine q_met (φ := (fun x : Int32 => (some (.int x), M))) (r := f_X3_stopAt M a0 a1) (by decide +kernel) (Nat.le_of_ble_eq_true rfl) ?_ h (fun _ _ => rfl)
  show q_V Y_X3_stopAt none (fun x : Int32 => (some (.int x), M)) 0 0 0 [(0, .ref a0), (1, .int a1)] [] M (f_X3_stopAt M a0 a1)
  unfold f_X3_stopAt
  refine q_obV ?_
  refine q_iload_n 1 dX3_stopAt_0 rfl ?_
  refine q_if_lt (tgt := 18) dX3_stopAt_1 (by decide) (fun c9 => ?_) (fun c9 => ?_)
  · refine q_iconst (x := (-1 : Int32)) dX3_stopAt_18 rfl ?_
    refine q_goto (tgt := 28) dX3_stopAt_19 (by decide) ?_
    exact q_iret dX3_stopAt_28 rfl rfl (Nat.le_of_ble_eq_true rfl) rfl
  · refine q_iload_n 1 dX3_stopAt_4 rfl ?_
    refine q_aload_n 0 dX3_stopAt_5 rfl ?_
    refine q_getI (f := 2) cl_X3 (by decide) qw_300 rfl dX3_stopAt_6 (Or.inl rfl) (fun v1 h2 => ?_)
    refine q_icmp_ge (tgt := 18) dX3_stopAt_9 (by decide) (fun c8 => ?_) (fun c8 => ?_)
    · refine q_iload_n 1 dX3_stopAt_12 rfl ?_
      refine q_bipush (x := (8 : Int32)) dX3_stopAt_13 rfl ?_
      refine q_icmp_lt (tgt := 22) dX3_stopAt_15 (by decide) (fun c7 => ?_) (fun c7 => ?_)
      · refine q_aload_n 0 dX3_stopAt_22 rfl ?_
        refine q_getR (f := 6) cl_X3 (by decide) qw_304 rfl dX3_stopAt_23 (fun _ _ _ => rfl) (fun v3 h4 => ?_)
        refine q_iload_n 1 dX3_stopAt_26 rfl ?_
        refine q_iald dX3_stopAt_27 (fun v5 h6 => ?_)
        exact q_iret dX3_stopAt_28 rfl rfl (Nat.le_of_ble_eq_true rfl) rfl
      · refine q_iconst (x := (-1 : Int32)) dX3_stopAt_18 rfl ?_
        refine q_goto (tgt := 28) dX3_stopAt_19 (by decide) ?_
        exact q_iret dX3_stopAt_28 rfl rfl (Nat.le_of_ble_eq_true rfl) rfl
    · refine q_iconst (x := (-1 : Int32)) dX3_stopAt_18 rfl ?_
      refine q_goto (tgt := 28) dX3_stopAt_19 (by decide) ?_
      exact q_iret dX3_stopAt_28 rfl rfl (Nat.le_of_ble_eq_true rfl) rfl
theorem dX4_init_0 : decode cX4_init 0 = .ok (.aload_n 0, 1) := by decide +kernel
theorem dX4_init_1 : decode cX4_init 1 = .ok (.invokespecial 3, 3) := by decide +kernel
theorem dX4_init_4 : decode cX4_init 4 = .ok (.aload_n 0, 1) := by decide +kernel
theorem dX4_init_5 : decode cX4_init 5 = .ok (.aload_n 1, 1) := by decide +kernel
theorem dX4_init_6 : decode cX4_init 6 = .ok (.putfield 9, 3) := by decide +kernel
theorem dX4_init_9 : decode cX4_init 9 = .ok (.aload_n 0, 1) := by decide +kernel
theorem dX4_init_10 : decode cX4_init 10 = .ok (.aload_n 2, 1) := by decide +kernel
theorem dX4_init_11 : decode cX4_init 11 = .ok (.putfield 15, 3) := by decide +kernel
theorem dX4_init_14 : decode cX4_init 14 = .ok (.return_, 1) := by decide +kernel
def f_X4_init (M : q_Mem) (a0 : Nat) (a1 : Nat) (a2 : Nat) : Option q_Mem :=
  q_ob 3 M a0 ((q_pR 3 0 M a0 a1).bind fun M1 =>
  (q_pR 3 1 M1 a0 a2).bind fun M3 =>
  some M3)
set_option maxRecDepth 20000 in
theorem m_X4_init {M : q_Mem} {a0 : Nat} {a1 : Nat} {a2 : Nat} {x : q_Mem} (h : f_X4_init M a0 a1 a2 = some x) : q_C Y_X4_init [.ref a0, .ref a1, .ref a2] M none x := by
  refine q_met (φ := (fun x : q_Mem => (none, x))) (r := f_X4_init M a0 a1 a2) (by decide +kernel) (Nat.le_of_ble_eq_true rfl) ?_ h (fun _ _ => rfl)
  show q_V Y_X4_init none (fun x : q_Mem => (none, x)) 0 0 0 [(0, .ref a0), (1, .ref a1), (2, .ref a2)] [] M (f_X4_init M a0 a1 a2)
  unfold f_X4_init
  refine q_obV ?_
  refine q_aload_n 0 dX4_init_0 rfl ?_
  refine q_objInit qw_179 qo_2 qo_3 dX4_init_1 (Nat.le_of_ble_eq_true rfl) (Nat.le_of_ble_eq_true rfl) (Nat.le_of_ble_eq_true rfl) ?_
  refine q_aload_n 0 dX4_init_4 rfl ?_
  refine q_aload_n 1 dX4_init_5 rfl ?_
  refine q_putR (f := 0) cl_X4 (by decide) qw_180 rfl (Or.inr ⟨rfl, rfl, rfl⟩) dX4_init_6 (fun _ _ _ => rfl) (fun _ => rfl) (fun _ => rfl) (fun M1 h2 => ?_)
  refine q_aload_n 0 dX4_init_9 rfl ?_
  refine q_aload_n 2 dX4_init_10 rfl ?_
  refine q_putR (f := 1) cl_X4 (by decide) qw_181 rfl (Or.inr ⟨rfl, rfl, rfl⟩) dX4_init_11 (fun _ _ _ => rfl) (fun _ => rfl) (fun _ => rfl) (fun M3 h4 => ?_)
  exact q_vret dX4_init_14 rfl rfl (Nat.le_of_ble_eq_true rfl) rfl
theorem dX4_howManyCans_0 : decode cX4_howManyCans 0 = .ok (.iconst 0, 1) := by decide +kernel
theorem dX4_howManyCans_1 : decode cX4_howManyCans 1 = .ok (.istore_n 2, 1) := by decide +kernel
theorem dX4_howManyCans_2 : decode cX4_howManyCans 2 = .ok (.iconst 0, 1) := by decide +kernel
theorem dX4_howManyCans_3 : decode cX4_howManyCans 3 = .ok (.istore_n 3, 1) := by decide +kernel
theorem dX4_howManyCans_4 : decode cX4_howManyCans 4 = .ok (.iload_n 3, 1) := by decide +kernel
theorem dX4_howManyCans_5 : decode cX4_howManyCans 5 = .ok (.aload_n 0, 1) := by decide +kernel
theorem dX4_howManyCans_6 : decode cX4_howManyCans 6 = .ok (.getfield 9, 3) := by decide +kernel
theorem dX4_howManyCans_9 : decode cX4_howManyCans 9 = .ok (.getfield 19, 3) := by decide +kernel
theorem dX4_howManyCans_12 : decode cX4_howManyCans 12 = .ok (.getfield 25, 3) := by decide +kernel
theorem dX4_howManyCans_15 : decode cX4_howManyCans 15 = .ok (.if_icmp .ge 28, 3) := by decide +kernel
theorem dX4_howManyCans_18 : decode cX4_howManyCans 18 = .ok (.aload_n 0, 1) := by decide +kernel
theorem dX4_howManyCans_19 : decode cX4_howManyCans 19 = .ok (.getfield 9, 3) := by decide +kernel
theorem dX4_howManyCans_22 : decode cX4_howManyCans 22 = .ok (.getfield 19, 3) := by decide +kernel
theorem dX4_howManyCans_25 : decode cX4_howManyCans 25 = .ok (.iload_n 3, 1) := by decide +kernel
theorem dX4_howManyCans_26 : decode cX4_howManyCans 26 = .ok (.iconst 3, 1) := by decide +kernel
theorem dX4_howManyCans_27 : decode cX4_howManyCans 27 = .ok (.invokevirtual 31, 3) := by decide +kernel
theorem dX4_howManyCans_30 : decode cX4_howManyCans 30 = .ok (.iload_n 1, 1) := by decide +kernel
theorem dX4_howManyCans_31 : decode cX4_howManyCans 31 = .ok (.if_icmp .ne 6, 3) := by decide +kernel
theorem dX4_howManyCans_34 : decode cX4_howManyCans 34 = .ok (.iinc 2 1, 3) := by decide +kernel
theorem dX4_howManyCans_37 : decode cX4_howManyCans 37 = .ok (.iinc 3 1, 3) := by decide +kernel
theorem dX4_howManyCans_40 : decode cX4_howManyCans 40 = .ok (.goto (-36), 3) := by decide +kernel
theorem dX4_howManyCans_43 : decode cX4_howManyCans 43 = .ok (.iload_n 2, 1) := by decide +kernel
theorem dX4_howManyCans_44 : decode cX4_howManyCans 44 = .ok (.ireturn, 1) := by decide +kernel
def f_X4_howManyCans_b4 (M : q_Mem) (a0 : Nat) (a1 : Int32) : Nat → Int32 → Int32 → Option Int32
  | 0, _, _ => none
  | n + 1, a2, a3 =>
    (q_gR 3 0 M a0).bind fun v1 =>
    (q_gR 4 1 M v1).bind fun v3 =>
    (q_gI 8 3 M v3).bind fun v5 =>
    (if a3 < v5 then
      (q_gR 3 0 M a0).bind fun v7 =>
      (q_gR 4 1 M v7).bind fun v9 =>
      (f_X9_at M v9 a3 (3 : Int32)).bind fun v12 =>
      (if v12 = a1 then
        f_X4_howManyCans_b4 M a0 a1 n (a2 + (1 : Int32)) (a3 + (1 : Int32))
      else
        f_X4_howManyCans_b4 M a0 a1 n a2 (a3 + (1 : Int32)))
    else
      some a2)
def f_X4_howManyCans (M : q_Mem) (a0 : Nat) (a1 : Int32) : Option Int32 :=
  q_ob 3 M a0 (f_X4_howManyCans_b4 M a0 a1 q_fuel (0 : Int32) (0 : Int32))
set_option maxRecDepth 20000 in
theorem v_X4_howManyCans_b4 {M : q_Mem} {a0 : Nat} {a1 : Int32}  : ∀ (n : Nat) (a2 : Int32) (a3 : Int32), q_V Y_X4_howManyCans none (fun x : Int32 => (some (.int x), M)) 0 0 4 [(0, .ref a0), (1, .int a1), (2, .int a2), (3, .int a3)] [] M (f_X4_howManyCans_b4 M a0 a1 n a2 a3) := by
  intro n
  induction n with
  | zero => intro a2 a3; exact q_none
  | succ n ih =>
    intro a2 a3
    rw [f_X4_howManyCans_b4.eq_2]
    refine q_iload_n 3 dX4_howManyCans_4 rfl ?_
    refine q_aload_n 0 dX4_howManyCans_5 rfl ?_
    refine q_getR (f := 0) cl_X4 (by decide) qw_180 rfl dX4_howManyCans_6 (fun _ _ _ => rfl) (fun v1 h2 => ?_)
    refine q_getR (f := 1) cl_X5 (by decide) qw_78 rfl dX4_howManyCans_9 (fun _ _ _ => rfl) (fun v3 h4 => ?_)
    refine q_getI (f := 3) cl_X9 (by decide) qw_47 rfl dX4_howManyCans_12 (Or.inl rfl) (fun v5 h6 => ?_)
    refine q_icmp_ge (tgt := 43) dX4_howManyCans_15 (by decide) (fun c14 => ?_) (fun c14 => ?_)
    · refine q_aload_n 0 dX4_howManyCans_18 rfl ?_
      refine q_getR (f := 0) cl_X4 (by decide) qw_180 rfl dX4_howManyCans_19 (fun _ _ _ => rfl) (fun v7 h8 => ?_)
      refine q_getR (f := 1) cl_X5 (by decide) qw_78 rfl dX4_howManyCans_22 (fun _ _ _ => rfl) (fun v9 h10 => ?_)
      refine q_iload_n 3 dX4_howManyCans_25 rfl ?_
      refine q_iconst (x := (3 : Int32)) dX4_howManyCans_26 rfl ?_
      refine q_cVI (Y2 := Y_X9_at) (As := [.int a3, .int (3 : Int32)]) (b := v9) (st := []) cl_X9 mv_X9_at qw_541 dX4_howManyCans_27 ⟨Nat.le_of_ble_eq_true rfl, Nat.le_of_ble_eq_true rfl⟩ rfl (fun _ _ => rfl) (Nat.le_of_ble_eq_true rfl) ⟨Nat.le_of_ble_eq_true rfl, Nat.le_of_ble_eq_true rfl⟩ (fun v12 h11 => q_ob_is h11) (fun v12 h11 => m_X9_at h11) (fun v12 h11 => ?_)
      refine q_iload_n 1 dX4_howManyCans_30 rfl ?_
      refine q_icmp_ne (tgt := 37) dX4_howManyCans_31 (by decide) (fun c13 => ?_) (fun c13 => ?_)
      · refine q_iinc 2 (y := (a2 + (1 : Int32))) (ls' := [(2, .int (a2 + (1 : Int32))), (0, .ref a0), (1, .int a1), (3, .int a3)]) dX4_howManyCans_34 rfl rfl (by decide) rfl ?_
        refine q_iinc 3 (y := (a3 + (1 : Int32))) (ls' := [(3, .int (a3 + (1 : Int32))), (2, .int (a2 + (1 : Int32))), (0, .ref a0), (1, .int a1)]) dX4_howManyCans_37 rfl rfl (by decide) rfl ?_
        refine q_goto (tgt := 4) dX4_howManyCans_40 (by decide) ?_
        refine q_sub (ls' := [(0, .ref a0), (1, .int a1), (2, .int (a2 + (1 : Int32))), (3, .int (a3 + (1 : Int32)))]) [2, 3, 1, 0] rfl ?_
        exact ih _ _
      · refine q_iinc 3 (y := (a3 + (1 : Int32))) (ls' := [(3, .int (a3 + (1 : Int32))), (0, .ref a0), (1, .int a1), (2, .int a2)]) dX4_howManyCans_37 rfl rfl (by decide) rfl ?_
        refine q_goto (tgt := 4) dX4_howManyCans_40 (by decide) ?_
        refine q_sub (ls' := [(0, .ref a0), (1, .int a1), (2, .int a2), (3, .int (a3 + (1 : Int32)))]) [1, 2, 3, 0] rfl ?_
        exact ih _ _
    · refine q_iload_n 2 dX4_howManyCans_43 rfl ?_
      exact q_iret dX4_howManyCans_44 rfl rfl (Nat.le_of_ble_eq_true rfl) rfl
set_option maxRecDepth 20000 in
theorem m_X4_howManyCans {M : q_Mem} {a0 : Nat} {a1 : Int32} {x : Int32} (h : f_X4_howManyCans M a0 a1 = some x) : q_C Y_X4_howManyCans [.ref a0, .int a1] M (some (.int x)) M := by
  refine q_met (φ := (fun x : Int32 => (some (.int x), M))) (r := f_X4_howManyCans M a0 a1) (by decide +kernel) (Nat.le_of_ble_eq_true rfl) ?_ h (fun _ _ => rfl)
  show q_V Y_X4_howManyCans none (fun x : Int32 => (some (.int x), M)) 0 0 0 [(0, .ref a0), (1, .int a1)] [] M (f_X4_howManyCans M a0 a1)
  unfold f_X4_howManyCans
  refine q_obV ?_
  refine q_iconst (x := (0 : Int32)) dX4_howManyCans_0 rfl ?_
  refine q_istore_n (ls' := [(2, .int (0 : Int32)), (0, .ref a0), (1, .int a1)]) dX4_howManyCans_1 (by decide) rfl ?_
  refine q_iconst (x := (0 : Int32)) dX4_howManyCans_2 rfl ?_
  refine q_istore_n (ls' := [(3, .int (0 : Int32)), (2, .int (0 : Int32)), (0, .ref a0), (1, .int a1)]) dX4_howManyCans_3 (by decide) rfl ?_
  refine q_sub (ls' := [(0, .ref a0), (1, .int a1), (2, .int (0 : Int32)), (3, .int (0 : Int32))]) [2, 3, 1, 0] rfl ?_
  exact v_X4_howManyCans_b4 _ _ _
theorem dX4_lossOf_0 : decode cX4_lossOf 0 = .ok (.aload_n 0, 1) := by decide +kernel
theorem dX4_lossOf_1 : decode cX4_lossOf 1 = .ok (.getfield 9, 3) := by decide +kernel
theorem dX4_lossOf_4 : decode cX4_lossOf 4 = .ok (.getfield 35, 3) := by decide +kernel
theorem dX4_lossOf_7 : decode cX4_lossOf 7 = .ok (.iload_n 1, 1) := by decide +kernel
theorem dX4_lossOf_8 : decode cX4_lossOf 8 = .ok (.iconst 0, 1) := by decide +kernel
theorem dX4_lossOf_9 : decode cX4_lossOf 9 = .ok (.invokevirtual 31, 3) := by decide +kernel
theorem dX4_lossOf_12 : decode cX4_lossOf 12 = .ok (.istore_n 2, 1) := by decide +kernel
theorem dX4_lossOf_13 : decode cX4_lossOf 13 = .ok (.iconst 0, 1) := by decide +kernel
theorem dX4_lossOf_14 : decode cX4_lossOf 14 = .ok (.istore_n 3, 1) := by decide +kernel
theorem dX4_lossOf_15 : decode cX4_lossOf 15 = .ok (.iconst 0, 1) := by decide +kernel
theorem dX4_lossOf_16 : decode cX4_lossOf 16 = .ok (.istore 4, 2) := by decide +kernel
theorem dX4_lossOf_18 : decode cX4_lossOf 18 = .ok (.iload 4, 2) := by decide +kernel
theorem dX4_lossOf_20 : decode cX4_lossOf 20 = .ok (.aload_n 0, 1) := by decide +kernel
theorem dX4_lossOf_21 : decode cX4_lossOf 21 = .ok (.getfield 9, 3) := by decide +kernel
theorem dX4_lossOf_24 : decode cX4_lossOf 24 = .ok (.getfield 19, 3) := by decide +kernel
theorem dX4_lossOf_27 : decode cX4_lossOf 27 = .ok (.getfield 25, 3) := by decide +kernel
theorem dX4_lossOf_30 : decode cX4_lossOf 30 = .ok (.if_icmp .ge 46, 3) := by decide +kernel
theorem dX4_lossOf_33 : decode cX4_lossOf 33 = .ok (.aload_n 0, 1) := by decide +kernel
theorem dX4_lossOf_34 : decode cX4_lossOf 34 = .ok (.getfield 9, 3) := by decide +kernel
theorem dX4_lossOf_37 : decode cX4_lossOf 37 = .ok (.getfield 19, 3) := by decide +kernel
theorem dX4_lossOf_40 : decode cX4_lossOf 40 = .ok (.iload 4, 2) := by decide +kernel
theorem dX4_lossOf_42 : decode cX4_lossOf 42 = .ok (.iconst 3, 1) := by decide +kernel
theorem dX4_lossOf_43 : decode cX4_lossOf 43 = .ok (.invokevirtual 31, 3) := by decide +kernel
theorem dX4_lossOf_46 : decode cX4_lossOf 46 = .ok (.iload_n 1, 1) := by decide +kernel
theorem dX4_lossOf_47 : decode cX4_lossOf 47 = .ok (.if_icmp .ne 23, 3) := by decide +kernel
theorem dX4_lossOf_50 : decode cX4_lossOf 50 = .ok (.iload_n 3, 1) := by decide +kernel
theorem dX4_lossOf_51 : decode cX4_lossOf 51 = .ok (.iload_n 2, 1) := by decide +kernel
theorem dX4_lossOf_52 : decode cX4_lossOf 52 = .ok (.aload_n 0, 1) := by decide +kernel
theorem dX4_lossOf_53 : decode cX4_lossOf 53 = .ok (.getfield 9, 3) := by decide +kernel
theorem dX4_lossOf_56 : decode cX4_lossOf 56 = .ok (.getfield 19, 3) := by decide +kernel
theorem dX4_lossOf_59 : decode cX4_lossOf 59 = .ok (.iload 4, 2) := by decide +kernel
theorem dX4_lossOf_61 : decode cX4_lossOf 61 = .ok (.iconst 1, 1) := by decide +kernel
theorem dX4_lossOf_62 : decode cX4_lossOf 62 = .ok (.invokevirtual 31, 3) := by decide +kernel
theorem dX4_lossOf_65 : decode cX4_lossOf 65 = .ok (.isub, 1) := by decide +kernel
theorem dX4_lossOf_66 : decode cX4_lossOf 66 = .ok (.invokestatic 38, 3) := by decide +kernel
theorem dX4_lossOf_69 : decode cX4_lossOf 69 = .ok (.istore_n 3, 1) := by decide +kernel
theorem dX4_lossOf_70 : decode cX4_lossOf 70 = .ok (.iinc 4 1, 3) := by decide +kernel
theorem dX4_lossOf_73 : decode cX4_lossOf 73 = .ok (.goto (-55), 3) := by decide +kernel
theorem dX4_lossOf_76 : decode cX4_lossOf 76 = .ok (.iconst 5, 1) := by decide +kernel
theorem dX4_lossOf_77 : decode cX4_lossOf 77 = .ok (.iconst 2, 1) := by decide +kernel
theorem dX4_lossOf_78 : decode cX4_lossOf 78 = .ok (.aload_n 0, 1) := by decide +kernel
theorem dX4_lossOf_79 : decode cX4_lossOf 79 = .ok (.getfield 9, 3) := by decide +kernel
theorem dX4_lossOf_82 : decode cX4_lossOf 82 = .ok (.getfield 35, 3) := by decide +kernel
theorem dX4_lossOf_85 : decode cX4_lossOf 85 = .ok (.iload_n 1, 1) := by decide +kernel
theorem dX4_lossOf_86 : decode cX4_lossOf 86 = .ok (.iconst 1, 1) := by decide +kernel
theorem dX4_lossOf_87 : decode cX4_lossOf 87 = .ok (.invokevirtual 31, 3) := by decide +kernel
theorem dX4_lossOf_90 : decode cX4_lossOf 90 = .ok (.bipush 55, 2) := by decide +kernel
theorem dX4_lossOf_92 : decode cX4_lossOf 92 = .ok (.isub, 1) := by decide +kernel
theorem dX4_lossOf_93 : decode cX4_lossOf 93 = .ok (.invokestatic 43, 3) := by decide +kernel
theorem dX4_lossOf_96 : decode cX4_lossOf 96 = .ok (.imul, 1) := by decide +kernel
theorem dX4_lossOf_97 : decode cX4_lossOf 97 = .ok (.iadd, 1) := by decide +kernel
theorem dX4_lossOf_98 : decode cX4_lossOf 98 = .ok (.bipush 10, 2) := by decide +kernel
theorem dX4_lossOf_100 : decode cX4_lossOf 100 = .ok (.iload_n 3, 1) := by decide +kernel
theorem dX4_lossOf_101 : decode cX4_lossOf 101 = .ok (.imul, 1) := by decide +kernel
theorem dX4_lossOf_102 : decode cX4_lossOf 102 = .ok (.iadd, 1) := by decide +kernel
theorem dX4_lossOf_103 : decode cX4_lossOf 103 = .ok (.ireturn, 1) := by decide +kernel
def f_X4_lossOf_b76 (M : q_Mem) (a0 : Nat) (a1 : Int32) (a3 : Int32) : Option Int32 :=
  (q_gR 3 0 M a0).bind fun v27 =>
  (q_gR 4 3 M v27).bind fun v29 =>
  (f_X9_at M v29 a1 (1 : Int32)).bind fun v32 =>
  some (((5 : Int32) + ((2 : Int32) * (q_ab (v32 - (55 : Int32))))) + ((10 : Int32) * a3))
def f_X4_lossOf_b18 (M : q_Mem) (a0 : Nat) (a1 : Int32) (a2 : Int32) : Nat → Int32 → Int32 → Option Int32
  | 0, _, _ => none
  | n + 1, a3, a4 =>
    (q_gR 3 0 M a0).bind fun v7 =>
    (q_gR 4 1 M v7).bind fun v9 =>
    (q_gI 8 3 M v9).bind fun v11 =>
    (if a4 < v11 then
      (q_gR 3 0 M a0).bind fun v13 =>
      (q_gR 4 1 M v13).bind fun v15 =>
      (f_X9_at M v15 a4 (3 : Int32)).bind fun v18 =>
      (if v18 = a1 then
        (q_gR 3 0 M a0).bind fun v19 =>
        (q_gR 4 1 M v19).bind fun v21 =>
        (f_X9_at M v21 a4 (1 : Int32)).bind fun v24 =>
        f_X4_lossOf_b18 M a0 a1 a2 n (q_mx a3 (a2 - v24)) (a4 + (1 : Int32))
      else
        f_X4_lossOf_b18 M a0 a1 a2 n a3 (a4 + (1 : Int32)))
    else
      f_X4_lossOf_b76 M a0 a1 a3)
def f_X4_lossOf (M : q_Mem) (a0 : Nat) (a1 : Int32) : Option Int32 :=
  q_ob 3 M a0 ((q_gR 3 0 M a0).bind fun v1 =>
  (q_gR 4 3 M v1).bind fun v3 =>
  (f_X9_at M v3 a1 (0 : Int32)).bind fun v6 =>
  f_X4_lossOf_b18 M a0 a1 v6 q_fuel (0 : Int32) (0 : Int32))
set_option maxRecDepth 20000 in
theorem v_X4_lossOf_b76 {M : q_Mem} {a0 : Nat} {a1 : Int32} {a3 : Int32}  : q_V Y_X4_lossOf none (fun x : Int32 => (some (.int x), M)) 0 0 76 [(0, .ref a0), (1, .int a1), (3, .int a3)] [] M (f_X4_lossOf_b76 M a0 a1 a3 ) := by
  unfold f_X4_lossOf_b76
  refine q_iconst (x := (5 : Int32)) dX4_lossOf_76 rfl ?_
  refine q_iconst (x := (2 : Int32)) dX4_lossOf_77 rfl ?_
  refine q_aload_n 0 dX4_lossOf_78 rfl ?_
  refine q_getR (f := 0) cl_X4 (by decide) qw_180 rfl dX4_lossOf_79 (fun _ _ _ => rfl) (fun v27 h28 => ?_)
  refine q_getR (f := 3) cl_X5 (by decide) qw_87 rfl dX4_lossOf_82 (fun _ _ _ => rfl) (fun v29 h30 => ?_)
  refine q_iload_n 1 dX4_lossOf_85 rfl ?_
  refine q_iconst (x := (1 : Int32)) dX4_lossOf_86 rfl ?_
  refine q_cVI (Y2 := Y_X9_at) (As := [.int a1, .int (1 : Int32)]) (b := v29) (st := [.int (2 : Int32), .int (5 : Int32)]) cl_X9 mv_X9_at qw_541 dX4_lossOf_87 ⟨Nat.le_of_ble_eq_true rfl, Nat.le_of_ble_eq_true rfl⟩ rfl (fun _ _ => rfl) (Nat.le_of_ble_eq_true rfl) ⟨Nat.le_of_ble_eq_true rfl, Nat.le_of_ble_eq_true rfl⟩ (fun v32 h31 => q_ob_is h31) (fun v32 h31 => m_X9_at h31) (fun v32 h31 => ?_)
  refine q_bipush (x := (55 : Int32)) dX4_lossOf_90 rfl ?_
  refine q_isub dX4_lossOf_92 ?_
  refine q_mabs qw_547 qm_mabs_1 qm_2 qm_mabs_3 dX4_lossOf_93 (Nat.le_of_ble_eq_true rfl) (Nat.le_of_ble_eq_true rfl) (Nat.le_of_ble_eq_true rfl) ⟨Nat.le_of_ble_eq_true rfl, Nat.le_of_ble_eq_true rfl⟩ ?_
  refine q_imul dX4_lossOf_96 ?_
  refine q_iadd dX4_lossOf_97 ?_
  refine q_bipush (x := (10 : Int32)) dX4_lossOf_98 rfl ?_
  refine q_iload_n 2 dX4_lossOf_100 rfl ?_
  refine q_imul dX4_lossOf_101 ?_
  refine q_iadd dX4_lossOf_102 ?_
  exact q_iret dX4_lossOf_103 rfl rfl (Nat.le_of_ble_eq_true rfl) rfl
set_option maxRecDepth 20000 in
theorem v_X4_lossOf_b18 {M : q_Mem} {a0 : Nat} {a1 : Int32} {a2 : Int32}  : ∀ (n : Nat) (a3 : Int32) (a4 : Int32), q_V Y_X4_lossOf none (fun x : Int32 => (some (.int x), M)) 0 0 18 [(0, .ref a0), (1, .int a1), (2, .int a2), (3, .int a3), (4, .int a4)] [] M (f_X4_lossOf_b18 M a0 a1 a2 n a3 a4) := by
  intro n
  induction n with
  | zero => intro a3 a4; exact q_none
  | succ n ih =>
    intro a3 a4
    rw [f_X4_lossOf_b18.eq_2]
    refine q_iload 4 dX4_lossOf_18 rfl ?_
    refine q_aload_n 0 dX4_lossOf_20 rfl ?_
    refine q_getR (f := 0) cl_X4 (by decide) qw_180 rfl dX4_lossOf_21 (fun _ _ _ => rfl) (fun v7 h8 => ?_)
    refine q_getR (f := 1) cl_X5 (by decide) qw_78 rfl dX4_lossOf_24 (fun _ _ _ => rfl) (fun v9 h10 => ?_)
    refine q_getI (f := 3) cl_X9 (by decide) qw_47 rfl dX4_lossOf_27 (Or.inl rfl) (fun v11 h12 => ?_)
    refine q_icmp_ge (tgt := 76) dX4_lossOf_30 (by decide) (fun c26 => ?_) (fun c26 => ?_)
    · refine q_aload_n 0 dX4_lossOf_33 rfl ?_
      refine q_getR (f := 0) cl_X4 (by decide) qw_180 rfl dX4_lossOf_34 (fun _ _ _ => rfl) (fun v13 h14 => ?_)
      refine q_getR (f := 1) cl_X5 (by decide) qw_78 rfl dX4_lossOf_37 (fun _ _ _ => rfl) (fun v15 h16 => ?_)
      refine q_iload 4 dX4_lossOf_40 rfl ?_
      refine q_iconst (x := (3 : Int32)) dX4_lossOf_42 rfl ?_
      refine q_cVI (Y2 := Y_X9_at) (As := [.int a4, .int (3 : Int32)]) (b := v15) (st := []) cl_X9 mv_X9_at qw_541 dX4_lossOf_43 ⟨Nat.le_of_ble_eq_true rfl, Nat.le_of_ble_eq_true rfl⟩ rfl (fun _ _ => rfl) (Nat.le_of_ble_eq_true rfl) ⟨Nat.le_of_ble_eq_true rfl, Nat.le_of_ble_eq_true rfl⟩ (fun v18 h17 => q_ob_is h17) (fun v18 h17 => m_X9_at h17) (fun v18 h17 => ?_)
      refine q_iload_n 1 dX4_lossOf_46 rfl ?_
      refine q_icmp_ne (tgt := 70) dX4_lossOf_47 (by decide) (fun c25 => ?_) (fun c25 => ?_)
      · refine q_iload_n 3 dX4_lossOf_50 rfl ?_
        refine q_iload_n 2 dX4_lossOf_51 rfl ?_
        refine q_aload_n 0 dX4_lossOf_52 rfl ?_
        refine q_getR (f := 0) cl_X4 (by decide) qw_180 rfl dX4_lossOf_53 (fun _ _ _ => rfl) (fun v19 h20 => ?_)
        refine q_getR (f := 1) cl_X5 (by decide) qw_78 rfl dX4_lossOf_56 (fun _ _ _ => rfl) (fun v21 h22 => ?_)
        refine q_iload 4 dX4_lossOf_59 rfl ?_
        refine q_iconst (x := (1 : Int32)) dX4_lossOf_61 rfl ?_
        refine q_cVI (Y2 := Y_X9_at) (As := [.int a4, .int (1 : Int32)]) (b := v21) (st := [.int a2, .int a3]) cl_X9 mv_X9_at qw_541 dX4_lossOf_62 ⟨Nat.le_of_ble_eq_true rfl, Nat.le_of_ble_eq_true rfl⟩ rfl (fun _ _ => rfl) (Nat.le_of_ble_eq_true rfl) ⟨Nat.le_of_ble_eq_true rfl, Nat.le_of_ble_eq_true rfl⟩ (fun v24 h23 => q_ob_is h23) (fun v24 h23 => m_X9_at h23) (fun v24 h23 => ?_)
        refine q_isub dX4_lossOf_65 ?_
        refine q_mmax qw_546 qm_mmax_1 qm_2 qm_mmax_3 dX4_lossOf_66 (Nat.le_of_ble_eq_true rfl) (Nat.le_of_ble_eq_true rfl) (Nat.le_of_ble_eq_true rfl) ⟨Nat.le_of_ble_eq_true rfl, Nat.le_of_ble_eq_true rfl⟩ ?_
        refine q_istore_n (ls' := [(3, .int (q_mx a3 (a2 - v24))), (0, .ref a0), (1, .int a1), (2, .int a2), (4, .int a4)]) dX4_lossOf_69 (by decide) rfl ?_
        refine q_iinc 4 (y := (a4 + (1 : Int32))) (ls' := [(4, .int (a4 + (1 : Int32))), (3, .int (q_mx a3 (a2 - v24))), (0, .ref a0), (1, .int a1), (2, .int a2)]) dX4_lossOf_70 rfl rfl (by decide) rfl ?_
        refine q_goto (tgt := 18) dX4_lossOf_73 (by decide) ?_
        refine q_sub (ls' := [(0, .ref a0), (1, .int a1), (2, .int a2), (3, .int (q_mx a3 (a2 - v24))), (4, .int (a4 + (1 : Int32)))]) [2, 3, 4, 1, 0] rfl ?_
        exact ih _ _
      · refine q_iinc 4 (y := (a4 + (1 : Int32))) (ls' := [(4, .int (a4 + (1 : Int32))), (0, .ref a0), (1, .int a1), (2, .int a2), (3, .int a3)]) dX4_lossOf_70 rfl rfl (by decide) rfl ?_
        refine q_goto (tgt := 18) dX4_lossOf_73 (by decide) ?_
        refine q_sub (ls' := [(0, .ref a0), (1, .int a1), (2, .int a2), (3, .int a3), (4, .int (a4 + (1 : Int32)))]) [1, 2, 3, 4, 0] rfl ?_
        exact ih _ _
    · refine q_sub (ls' := [(0, .ref a0), (1, .int a1), (3, .int a3)]) [0, 1, 3] rfl ?_
      exact v_X4_lossOf_b76
set_option maxRecDepth 20000 in
theorem m_X4_lossOf {M : q_Mem} {a0 : Nat} {a1 : Int32} {x : Int32} (h : f_X4_lossOf M a0 a1 = some x) : q_C Y_X4_lossOf [.ref a0, .int a1] M (some (.int x)) M := by
  refine q_met (φ := (fun x : Int32 => (some (.int x), M))) (r := f_X4_lossOf M a0 a1) (by decide +kernel) (Nat.le_of_ble_eq_true rfl) ?_ h (fun _ _ => rfl)
  show q_V Y_X4_lossOf none (fun x : Int32 => (some (.int x), M)) 0 0 0 [(0, .ref a0), (1, .int a1)] [] M (f_X4_lossOf M a0 a1)
  unfold f_X4_lossOf
  refine q_obV ?_
  refine q_aload_n 0 dX4_lossOf_0 rfl ?_
  refine q_getR (f := 0) cl_X4 (by decide) qw_180 rfl dX4_lossOf_1 (fun _ _ _ => rfl) (fun v1 h2 => ?_)
  refine q_getR (f := 3) cl_X5 (by decide) qw_87 rfl dX4_lossOf_4 (fun _ _ _ => rfl) (fun v3 h4 => ?_)
  refine q_iload_n 1 dX4_lossOf_7 rfl ?_
  refine q_iconst (x := (0 : Int32)) dX4_lossOf_8 rfl ?_
  refine q_cVI (Y2 := Y_X9_at) (As := [.int a1, .int (0 : Int32)]) (b := v3) (st := []) cl_X9 mv_X9_at qw_541 dX4_lossOf_9 ⟨Nat.le_of_ble_eq_true rfl, Nat.le_of_ble_eq_true rfl⟩ rfl (fun _ _ => rfl) (Nat.le_of_ble_eq_true rfl) ⟨Nat.le_of_ble_eq_true rfl, Nat.le_of_ble_eq_true rfl⟩ (fun v6 h5 => q_ob_is h5) (fun v6 h5 => m_X9_at h5) (fun v6 h5 => ?_)
  refine q_istore_n (ls' := [(2, .int v6), (0, .ref a0), (1, .int a1)]) dX4_lossOf_12 (by decide) rfl ?_
  refine q_iconst (x := (0 : Int32)) dX4_lossOf_13 rfl ?_
  refine q_istore_n (ls' := [(3, .int (0 : Int32)), (2, .int v6), (0, .ref a0), (1, .int a1)]) dX4_lossOf_14 (by decide) rfl ?_
  refine q_iconst (x := (0 : Int32)) dX4_lossOf_15 rfl ?_
  refine q_istore (ls' := [(4, .int (0 : Int32)), (3, .int (0 : Int32)), (2, .int v6), (0, .ref a0), (1, .int a1)]) dX4_lossOf_16 (by decide) rfl ?_
  refine q_sub (ls' := [(0, .ref a0), (1, .int a1), (2, .int v6), (3, .int (0 : Int32)), (4, .int (0 : Int32))]) [3, 4, 2, 1, 0] rfl ?_
  exact v_X4_lossOf_b18 _ _ _
theorem dX6_rateLearned_0 : decode cX6_rateLearned 0 = .ok (.iload_n 1, 1) := by decide +kernel
theorem dX6_rateLearned_1 : decode cX6_rateLearned 1 = .ok (.ifCond .lt 12, 3) := by decide +kernel
theorem dX6_rateLearned_4 : decode cX6_rateLearned 4 = .ok (.iload_n 1, 1) := by decide +kernel
theorem dX6_rateLearned_5 : decode cX6_rateLearned 5 = .ok (.aload_n 0, 1) := by decide +kernel
theorem dX6_rateLearned_6 : decode cX6_rateLearned 6 = .ok (.getfield 9, 3) := by decide +kernel
theorem dX6_rateLearned_9 : decode cX6_rateLearned 9 = .ok (.arraylength, 1) := by decide +kernel
theorem dX6_rateLearned_10 : decode cX6_rateLearned 10 = .ok (.if_icmp .lt 7, 3) := by decide +kernel
theorem dX6_rateLearned_13 : decode cX6_rateLearned 13 = .ok (.iconst (-1), 1) := by decide +kernel
theorem dX6_rateLearned_14 : decode cX6_rateLearned 14 = .ok (.goto 9, 3) := by decide +kernel
theorem dX6_rateLearned_17 : decode cX6_rateLearned 17 = .ok (.aload_n 0, 1) := by decide +kernel
theorem dX6_rateLearned_18 : decode cX6_rateLearned 18 = .ok (.getfield 9, 3) := by decide +kernel
theorem dX6_rateLearned_21 : decode cX6_rateLearned 21 = .ok (.iload_n 1, 1) := by decide +kernel
theorem dX6_rateLearned_22 : decode cX6_rateLearned 22 = .ok (.iaload, 1) := by decide +kernel
theorem dX6_rateLearned_23 : decode cX6_rateLearned 23 = .ok (.ireturn, 1) := by decide +kernel
def f_X6_rateLearned (M : q_Mem) (a0 : Nat) (a1 : Int32) : Option Int32 :=
  q_ob 5 M a0 ((if a1 < 0 then
    some (-1 : Int32)
  else
    (q_gR 5 2 M a0).bind fun v1 =>
    (q_ln M v1).bind fun v3 =>
    (if a1 < v3 then
      (q_gR 5 2 M a0).bind fun v5 =>
      (q_lI M v5 a1).bind fun v7 =>
      some v7
    else
      some (-1 : Int32))))
set_option maxRecDepth 20000 in
theorem m_X6_rateLearned {M : q_Mem} {a0 : Nat} {a1 : Int32} {x : Int32} (h : f_X6_rateLearned M a0 a1 = some x) : q_C Y_X6_rateLearned [.ref a0, .int a1] M (some (.int x)) M := by
  refine q_met (φ := (fun x : Int32 => (some (.int x), M))) (r := f_X6_rateLearned M a0 a1) (by decide +kernel) (Nat.le_of_ble_eq_true rfl) ?_ h (fun _ _ => rfl)
  show q_V Y_X6_rateLearned none (fun x : Int32 => (some (.int x), M)) 0 0 0 [(0, .ref a0), (1, .int a1)] [] M (f_X6_rateLearned M a0 a1)
  unfold f_X6_rateLearned
  refine q_obV ?_
  refine q_iload_n 1 dX6_rateLearned_0 rfl ?_
  refine q_if_lt (tgt := 13) dX6_rateLearned_1 (by decide) (fun c10 => ?_) (fun c10 => ?_)
  · refine q_iconst (x := (-1 : Int32)) dX6_rateLearned_13 rfl ?_
    refine q_goto (tgt := 23) dX6_rateLearned_14 (by decide) ?_
    exact q_iret dX6_rateLearned_23 rfl rfl (Nat.le_of_ble_eq_true rfl) rfl
  · refine q_iload_n 1 dX6_rateLearned_4 rfl ?_
    refine q_aload_n 0 dX6_rateLearned_5 rfl ?_
    refine q_getR (f := 2) cl_X6 (by decide) qw_165 rfl dX6_rateLearned_6 (fun _ _ _ => rfl) (fun v1 h2 => ?_)
    refine q_alen dX6_rateLearned_9 (fun v3 h4 => ?_)
    refine q_icmp_lt (tgt := 17) dX6_rateLearned_10 (by decide) (fun c9 => ?_) (fun c9 => ?_)
    · refine q_aload_n 0 dX6_rateLearned_17 rfl ?_
      refine q_getR (f := 2) cl_X6 (by decide) qw_165 rfl dX6_rateLearned_18 (fun _ _ _ => rfl) (fun v5 h6 => ?_)
      refine q_iload_n 1 dX6_rateLearned_21 rfl ?_
      refine q_iald dX6_rateLearned_22 (fun v7 h8 => ?_)
      exact q_iret dX6_rateLearned_23 rfl rfl (Nat.le_of_ble_eq_true rfl) rfl
    · refine q_iconst (x := (-1 : Int32)) dX6_rateLearned_13 rfl ?_
      refine q_goto (tgt := 23) dX6_rateLearned_14 (by decide) ?_
      exact q_iret dX6_rateLearned_23 rfl rfl (Nat.le_of_ble_eq_true rfl) rfl
theorem dX6_rateOfCan_0 : decode cX6_rateOfCan 0 = .ok (.aload_n 0, 1) := by decide +kernel
theorem dX6_rateOfCan_1 : decode cX6_rateOfCan 1 = .ok (.getfield 15, 3) := by decide +kernel
theorem dX6_rateOfCan_4 : decode cX6_rateOfCan 4 = .ok (.getfield 64, 3) := by decide +kernel
theorem dX6_rateOfCan_7 : decode cX6_rateOfCan 7 = .ok (.iload_n 1, 1) := by decide +kernel
theorem dX6_rateOfCan_8 : decode cX6_rateOfCan 8 = .ok (.iconst 0, 1) := by decide +kernel
theorem dX6_rateOfCan_9 : decode cX6_rateOfCan 9 = .ok (.invokevirtual 36, 3) := by decide +kernel
theorem dX6_rateOfCan_12 : decode cX6_rateOfCan 12 = .ok (.istore_n 2, 1) := by decide +kernel
theorem dX6_rateOfCan_13 : decode cX6_rateOfCan 13 = .ok (.aload_n 0, 1) := by decide +kernel
theorem dX6_rateOfCan_14 : decode cX6_rateOfCan 14 = .ok (.getfield 15, 3) := by decide +kernel
theorem dX6_rateOfCan_17 : decode cX6_rateOfCan 17 = .ok (.getfield 64, 3) := by decide +kernel
theorem dX6_rateOfCan_20 : decode cX6_rateOfCan 20 = .ok (.iload_n 1, 1) := by decide +kernel
theorem dX6_rateOfCan_21 : decode cX6_rateOfCan 21 = .ok (.iconst 1, 1) := by decide +kernel
theorem dX6_rateOfCan_22 : decode cX6_rateOfCan 22 = .ok (.invokevirtual 36, 3) := by decide +kernel
theorem dX6_rateOfCan_25 : decode cX6_rateOfCan 25 = .ok (.i2l, 1) := by decide +kernel
theorem dX6_rateOfCan_26 : decode cX6_rateOfCan 26 = .ok (.aload_n 0, 1) := by decide +kernel
theorem dX6_rateOfCan_27 : decode cX6_rateOfCan 27 = .ok (.getfield 15, 3) := by decide +kernel
theorem dX6_rateOfCan_30 : decode cX6_rateOfCan 30 = .ok (.getfield 67, 3) := by decide +kernel
theorem dX6_rateOfCan_33 : decode cX6_rateOfCan 33 = .ok (.i2l, 1) := by decide +kernel
theorem dX6_rateOfCan_34 : decode cX6_rateOfCan 34 = .ok (.invokestatic 70, 3) := by decide +kernel
theorem dX6_rateOfCan_37 : decode cX6_rateOfCan 37 = .ok (.lstore_n 3, 1) := by decide +kernel
theorem dX6_rateOfCan_38 : decode cX6_rateOfCan 38 = .ok (.ldc2_w 74, 3) := by decide +kernel
theorem dX6_rateOfCan_41 : decode cX6_rateOfCan 41 = .ok (.lstore 5, 2) := by decide +kernel
theorem dX6_rateOfCan_43 : decode cX6_rateOfCan 43 = .ok (.iconst 0, 1) := by decide +kernel
theorem dX6_rateOfCan_44 : decode cX6_rateOfCan 44 = .ok (.istore 7, 2) := by decide +kernel
theorem dX6_rateOfCan_46 : decode cX6_rateOfCan 46 = .ok (.iconst 0, 1) := by decide +kernel
theorem dX6_rateOfCan_47 : decode cX6_rateOfCan 47 = .ok (.istore 8, 2) := by decide +kernel
theorem dX6_rateOfCan_49 : decode cX6_rateOfCan 49 = .ok (.iconst 0, 1) := by decide +kernel
theorem dX6_rateOfCan_50 : decode cX6_rateOfCan 50 = .ok (.istore 9, 2) := by decide +kernel
theorem dX6_rateOfCan_52 : decode cX6_rateOfCan 52 = .ok (.iload 9, 2) := by decide +kernel
theorem dX6_rateOfCan_54 : decode cX6_rateOfCan 54 = .ok (.aload_n 0, 1) := by decide +kernel
theorem dX6_rateOfCan_55 : decode cX6_rateOfCan 55 = .ok (.getfield 25, 3) := by decide +kernel
theorem dX6_rateOfCan_58 : decode cX6_rateOfCan 58 = .ok (.getfield 26, 3) := by decide +kernel
theorem dX6_rateOfCan_61 : decode cX6_rateOfCan 61 = .ok (.if_icmp .ge 110, 3) := by decide +kernel
theorem dX6_rateOfCan_64 : decode cX6_rateOfCan 64 = .ok (.aload_n 0, 1) := by decide +kernel
theorem dX6_rateOfCan_65 : decode cX6_rateOfCan 65 = .ok (.iload 9, 2) := by decide +kernel
theorem dX6_rateOfCan_67 : decode cX6_rateOfCan 67 = .ok (.invokevirtual 76, 3) := by decide +kernel
theorem dX6_rateOfCan_70 : decode cX6_rateOfCan 70 = .ok (.istore 10, 2) := by decide +kernel
theorem dX6_rateOfCan_72 : decode cX6_rateOfCan 72 = .ok (.iload 10, 2) := by decide +kernel
theorem dX6_rateOfCan_74 : decode cX6_rateOfCan 74 = .ok (.iconst (-1), 1) := by decide +kernel
theorem dX6_rateOfCan_75 : decode cX6_rateOfCan 75 = .ok (.if_icmp .eq 90, 3) := by decide +kernel
theorem dX6_rateOfCan_78 : decode cX6_rateOfCan 78 = .ok (.aload_n 0, 1) := by decide +kernel
theorem dX6_rateOfCan_79 : decode cX6_rateOfCan 79 = .ok (.getfield 25, 3) := by decide +kernel
theorem dX6_rateOfCan_82 : decode cX6_rateOfCan 82 = .ok (.iload 9, 2) := by decide +kernel
theorem dX6_rateOfCan_84 : decode cX6_rateOfCan 84 = .ok (.iconst 0, 1) := by decide +kernel
theorem dX6_rateOfCan_85 : decode cX6_rateOfCan 85 = .ok (.invokevirtual 36, 3) := by decide +kernel
theorem dX6_rateOfCan_88 : decode cX6_rateOfCan 88 = .ok (.iload_n 2, 1) := by decide +kernel
theorem dX6_rateOfCan_89 : decode cX6_rateOfCan 89 = .ok (.if_icmp .eq 6, 3) := by decide +kernel
theorem dX6_rateOfCan_92 : decode cX6_rateOfCan 92 = .ok (.goto 73, 3) := by decide +kernel
theorem dX6_rateOfCan_95 : decode cX6_rateOfCan 95 = .ok (.aload_n 0, 1) := by decide +kernel
theorem dX6_rateOfCan_96 : decode cX6_rateOfCan 96 = .ok (.getfield 25, 3) := by decide +kernel
theorem dX6_rateOfCan_99 : decode cX6_rateOfCan 99 = .ok (.iload 9, 2) := by decide +kernel
theorem dX6_rateOfCan_101 : decode cX6_rateOfCan 101 = .ok (.iconst 1, 1) := by decide +kernel
theorem dX6_rateOfCan_102 : decode cX6_rateOfCan 102 = .ok (.invokevirtual 36, 3) := by decide +kernel
theorem dX6_rateOfCan_105 : decode cX6_rateOfCan 105 = .ok (.i2l, 1) := by decide +kernel
theorem dX6_rateOfCan_106 : decode cX6_rateOfCan 106 = .ok (.aload_n 0, 1) := by decide +kernel
theorem dX6_rateOfCan_107 : decode cX6_rateOfCan 107 = .ok (.getfield 15, 3) := by decide +kernel
theorem dX6_rateOfCan_110 : decode cX6_rateOfCan 110 = .ok (.getfield 67, 3) := by decide +kernel
theorem dX6_rateOfCan_113 : decode cX6_rateOfCan 113 = .ok (.i2l, 1) := by decide +kernel
theorem dX6_rateOfCan_114 : decode cX6_rateOfCan 114 = .ok (.invokestatic 70, 3) := by decide +kernel
theorem dX6_rateOfCan_117 : decode cX6_rateOfCan 117 = .ok (.lstore 11, 2) := by decide +kernel
theorem dX6_rateOfCan_119 : decode cX6_rateOfCan 119 = .ok (.lload 11, 2) := by decide +kernel
theorem dX6_rateOfCan_121 : decode cX6_rateOfCan 121 = .ok (.lload_n 3, 1) := by decide +kernel
theorem dX6_rateOfCan_122 : decode cX6_rateOfCan 122 = .ok (.lcmp, 1) := by decide +kernel
theorem dX6_rateOfCan_123 : decode cX6_rateOfCan 123 = .ok (.ifCond .gt 42, 3) := by decide +kernel
theorem dX6_rateOfCan_126 : decode cX6_rateOfCan 126 = .ok (.lload 11, 2) := by decide +kernel
theorem dX6_rateOfCan_128 : decode cX6_rateOfCan 128 = .ok (.lload 5, 2) := by decide +kernel
theorem dX6_rateOfCan_130 : decode cX6_rateOfCan 130 = .ok (.lcmp, 1) := by decide +kernel
theorem dX6_rateOfCan_131 : decode cX6_rateOfCan 131 = .ok (.ifCond .ge 6, 3) := by decide +kernel
theorem dX6_rateOfCan_134 : decode cX6_rateOfCan 134 = .ok (.goto 31, 3) := by decide +kernel
theorem dX6_rateOfCan_137 : decode cX6_rateOfCan 137 = .ok (.lload 11, 2) := by decide +kernel
theorem dX6_rateOfCan_139 : decode cX6_rateOfCan 139 = .ok (.lload 5, 2) := by decide +kernel
theorem dX6_rateOfCan_141 : decode cX6_rateOfCan 141 = .ok (.lcmp, 1) := by decide +kernel
theorem dX6_rateOfCan_142 : decode cX6_rateOfCan 142 = .ok (.ifCond .le 13, 3) := by decide +kernel
theorem dX6_rateOfCan_145 : decode cX6_rateOfCan 145 = .ok (.lload 11, 2) := by decide +kernel
theorem dX6_rateOfCan_147 : decode cX6_rateOfCan 147 = .ok (.lstore 5, 2) := by decide +kernel
theorem dX6_rateOfCan_149 : decode cX6_rateOfCan 149 = .ok (.iconst 0, 1) := by decide +kernel
theorem dX6_rateOfCan_150 : decode cX6_rateOfCan 150 = .ok (.istore 7, 2) := by decide +kernel
theorem dX6_rateOfCan_152 : decode cX6_rateOfCan 152 = .ok (.iconst 0, 1) := by decide +kernel
theorem dX6_rateOfCan_153 : decode cX6_rateOfCan 153 = .ok (.istore 8, 2) := by decide +kernel
theorem dX6_rateOfCan_155 : decode cX6_rateOfCan 155 = .ok (.iload 7, 2) := by decide +kernel
theorem dX6_rateOfCan_157 : decode cX6_rateOfCan 157 = .ok (.iload 10, 2) := by decide +kernel
theorem dX6_rateOfCan_159 : decode cX6_rateOfCan 159 = .ok (.iadd, 1) := by decide +kernel
theorem dX6_rateOfCan_160 : decode cX6_rateOfCan 160 = .ok (.istore 7, 2) := by decide +kernel
theorem dX6_rateOfCan_162 : decode cX6_rateOfCan 162 = .ok (.iinc 8 1, 3) := by decide +kernel
theorem dX6_rateOfCan_165 : decode cX6_rateOfCan 165 = .ok (.iinc 9 1, 3) := by decide +kernel
theorem dX6_rateOfCan_168 : decode cX6_rateOfCan 168 = .ok (.goto (-116), 3) := by decide +kernel
theorem dX6_rateOfCan_171 : decode cX6_rateOfCan 171 = .ok (.iload 8, 2) := by decide +kernel
theorem dX6_rateOfCan_173 : decode cX6_rateOfCan 173 = .ok (.ifCond .ne 9, 3) := by decide +kernel
theorem dX6_rateOfCan_176 : decode cX6_rateOfCan 176 = .ok (.sipush 350, 3) := by decide +kernel
theorem dX6_rateOfCan_179 : decode cX6_rateOfCan 179 = .ok (.goto 8, 3) := by decide +kernel
theorem dX6_rateOfCan_182 : decode cX6_rateOfCan 182 = .ok (.iload 7, 2) := by decide +kernel
theorem dX6_rateOfCan_184 : decode cX6_rateOfCan 184 = .ok (.iload 8, 2) := by decide +kernel
theorem dX6_rateOfCan_186 : decode cX6_rateOfCan 186 = .ok (.idiv, 1) := by decide +kernel
theorem dX6_rateOfCan_187 : decode cX6_rateOfCan 187 = .ok (.ireturn, 1) := by decide +kernel
def f_X6_rateOfCan_b171 (M : q_Mem) (a7 : Int32) (a8 : Int32) : Option Int32 :=
  (if a8 = 0 then
    some (350 : Int32)
  else
    (q_dv a7 a8).bind fun v45 =>
    some v45)
def f_X6_rateOfCan_b155 (kk52 : Int64 → Int32 → Int32 → Int32 → Option Int32) (M : q_Mem) (a0 : Nat) (a2 : Int32) (a3 : Int64) (a5 : Int64) (a7 : Int32) (a8 : Int32) (a9 : Int32) (a10 : Int32) : Option Int32 :=
  kk52 a5 (a7 + a10) (a8 + (1 : Int32)) (a9 + (1 : Int32))
def f_X6_rateOfCan_b52 (M : q_Mem) (a0 : Nat) (a2 : Int32) (a3 : Int64) : Nat → Int64 → Int32 → Int32 → Int32 → Option Int32
  | 0, _, _, _, _ => none
  | n + 1, a5, a7, a8, a9 =>
    (q_gR 5 1 M a0).bind fun v19 =>
    (q_gI 8 3 M v19).bind fun v21 =>
    (if a9 < v21 then
      (f_X6_rateLearned M a0 a9).bind fun v24 =>
      (if v24 = (-1 : Int32) then
        f_X6_rateOfCan_b52 M a0 a2 a3 n a5 a7 a8 (a9 + (1 : Int32))
      else
        (q_gR 5 1 M a0).bind fun v25 =>
        (f_X9_at M v25 a9 (0 : Int32)).bind fun v28 =>
        (if v28 = a2 then
          (q_gR 5 1 M a0).bind fun v29 =>
          (f_X9_at M v29 a9 (1 : Int32)).bind fun v32 =>
          (q_gR 5 0 M a0).bind fun v33 =>
          (q_gI 4 13 M v33).bind fun v35 =>
          (f_X11_cut M v32.toInt64 v35.toInt64).bind fun v38 =>
          (if a3 < v38 then
            f_X6_rateOfCan_b52 M a0 a2 a3 n a5 a7 a8 (a9 + (1 : Int32))
          else
            (if v38 < a5 then
              f_X6_rateOfCan_b52 M a0 a2 a3 n a5 a7 a8 (a9 + (1 : Int32))
            else
              (if a5 < v38 then
                f_X6_rateOfCan_b155 (f_X6_rateOfCan_b52 M a0 a2 a3 n) M a0 a2 a3 v38 (0 : Int32) (0 : Int32) a9 v24
              else
                f_X6_rateOfCan_b155 (f_X6_rateOfCan_b52 M a0 a2 a3 n) M a0 a2 a3 a5 a7 a8 a9 v24)))
        else
          f_X6_rateOfCan_b52 M a0 a2 a3 n a5 a7 a8 (a9 + (1 : Int32))))
    else
      f_X6_rateOfCan_b171 M a7 a8)
def f_X6_rateOfCan (M : q_Mem) (a0 : Nat) (a1 : Int32) : Option Int32 :=
  q_ob 5 M a0 ((q_gR 5 0 M a0).bind fun v1 =>
  (q_gR 4 1 M v1).bind fun v3 =>
  (f_X9_at M v3 a1 (0 : Int32)).bind fun v6 =>
  (q_gR 5 0 M a0).bind fun v7 =>
  (q_gR 4 1 M v7).bind fun v9 =>
  (f_X9_at M v9 a1 (1 : Int32)).bind fun v12 =>
  (q_gR 5 0 M a0).bind fun v13 =>
  (q_gI 4 13 M v13).bind fun v15 =>
  (f_X11_cut M v12.toInt64 v15.toInt64).bind fun v18 =>
  f_X6_rateOfCan_b52 M a0 v6 v18 q_fuel (-1 : Int64) (0 : Int32) (0 : Int32) (0 : Int32))
set_option maxRecDepth 20000 in
theorem v_X6_rateOfCan_b171 {M : q_Mem} {a7 : Int32} {a8 : Int32}  : q_V Y_X6_rateOfCan none (fun x : Int32 => (some (.int x), M)) 0 0 171 [(7, .int a7), (8, .int a8)] [] M (f_X6_rateOfCan_b171 M a7 a8 ) := by
  unfold f_X6_rateOfCan_b171
  refine q_iload 1 dX6_rateOfCan_171 rfl ?_
  refine q_if_ne (tgt := 182) dX6_rateOfCan_173 (by decide) (fun c47 => ?_) (fun c47 => ?_)
  · refine q_sipush (x := (350 : Int32)) dX6_rateOfCan_176 rfl ?_
    refine q_goto (tgt := 187) dX6_rateOfCan_179 (by decide) ?_
    exact q_iret dX6_rateOfCan_187 rfl rfl (Nat.le_of_ble_eq_true rfl) rfl
  · refine q_iload 0 dX6_rateOfCan_182 rfl ?_
    refine q_iload 1 dX6_rateOfCan_184 rfl ?_
    refine q_idiv dX6_rateOfCan_186 (fun v45 h46 => ?_)
    exact q_iret dX6_rateOfCan_187 rfl rfl (Nat.le_of_ble_eq_true rfl) rfl
set_option maxRecDepth 20000 in
theorem v_X6_rateOfCan_b155 {kk52 : Int64 → Int32 → Int32 → Int32 → Option Int32} {M : q_Mem} {a0 : Nat} {a2 : Int32} {a3 : Int64} {a5 : Int64} {a7 : Int32} {a8 : Int32} {a9 : Int32} {a10 : Int32}  (hk52 : ∀ (a5 : Int64) (a7 : Int32) (a8 : Int32) (a9 : Int32), q_V Y_X6_rateOfCan none (fun x : Int32 => (some (.int x), M)) 0 0 52 [(0, .ref a0), (2, .int a2), (3, .long a3), (5, .long a5), (7, .int a7), (8, .int a8), (9, .int a9)] [] M (kk52 a5 a7 a8 a9)): q_V Y_X6_rateOfCan none (fun x : Int32 => (some (.int x), M)) 0 0 155 [(0, .ref a0), (2, .int a2), (3, .long a3), (5, .long a5), (7, .int a7), (8, .int a8), (9, .int a9), (10, .int a10)] [] M (f_X6_rateOfCan_b155 kk52 M a0 a2 a3 a5 a7 a8 a9 a10 ) := by
  unfold f_X6_rateOfCan_b155
  refine q_iload 4 dX6_rateOfCan_155 rfl ?_
  refine q_iload 7 dX6_rateOfCan_157 rfl ?_
  refine q_iadd dX6_rateOfCan_159 ?_
  refine q_istore (ls' := [(7, .int (a7 + a10)), (0, .ref a0), (2, .int a2), (3, .long a3), (5, .long a5), (8, .int a8), (9, .int a9), (10, .int a10)]) dX6_rateOfCan_160 (by decide) rfl ?_
  refine q_iinc 5 (y := (a8 + (1 : Int32))) (ls' := [(8, .int (a8 + (1 : Int32))), (7, .int (a7 + a10)), (0, .ref a0), (2, .int a2), (3, .long a3), (5, .long a5), (9, .int a9), (10, .int a10)]) dX6_rateOfCan_162 rfl rfl (by decide) rfl ?_
  refine q_iinc 6 (y := (a9 + (1 : Int32))) (ls' := [(9, .int (a9 + (1 : Int32))), (8, .int (a8 + (1 : Int32))), (7, .int (a7 + a10)), (0, .ref a0), (2, .int a2), (3, .long a3), (5, .long a5), (10, .int a10)]) dX6_rateOfCan_165 rfl rfl (by decide) rfl ?_
  refine q_goto (tgt := 52) dX6_rateOfCan_168 (by decide) ?_
  refine q_sub (ls' := [(0, .ref a0), (2, .int a2), (3, .long a3), (5, .long a5), (7, .int (a7 + a10)), (8, .int (a8 + (1 : Int32))), (9, .int (a9 + (1 : Int32)))]) [3, 4, 5, 6, 2, 1, 0] rfl ?_
  exact hk52 _ _ _ _
set_option maxRecDepth 20000 in
theorem v_X6_rateOfCan_b52 {M : q_Mem} {a0 : Nat} {a2 : Int32} {a3 : Int64}  : ∀ (n : Nat) (a5 : Int64) (a7 : Int32) (a8 : Int32) (a9 : Int32), q_V Y_X6_rateOfCan none (fun x : Int32 => (some (.int x), M)) 0 0 52 [(0, .ref a0), (2, .int a2), (3, .long a3), (5, .long a5), (7, .int a7), (8, .int a8), (9, .int a9)] [] M (f_X6_rateOfCan_b52 M a0 a2 a3 n a5 a7 a8 a9) := by
  intro n
  induction n with
  | zero => intro a5 a7 a8 a9; exact q_none
  | succ n ih =>
    intro a5 a7 a8 a9
    rw [f_X6_rateOfCan_b52.eq_2]
    refine q_iload 6 dX6_rateOfCan_52 rfl ?_
    refine q_aload_n 0 dX6_rateOfCan_54 rfl ?_
    refine q_getR (f := 1) cl_X6 (by decide) qw_164 rfl dX6_rateOfCan_55 (fun _ _ _ => rfl) (fun v19 h20 => ?_)
    refine q_getI (f := 3) cl_X9 (by decide) qw_45 rfl dX6_rateOfCan_58 (Or.inl rfl) (fun v21 h22 => ?_)
    refine q_icmp_ge (tgt := 171) dX6_rateOfCan_61 (by decide) (fun c44 => ?_) (fun c44 => ?_)
    · refine q_aload_n 0 dX6_rateOfCan_64 rfl ?_
      refine q_iload 6 dX6_rateOfCan_65 rfl ?_
      refine q_cVI (Y2 := Y_X6_rateLearned) (As := [.int a9]) (b := a0) (st := []) cl_X6 mv_X6_rateLearned qw_504 dX6_rateOfCan_67 ⟨Nat.le_of_ble_eq_true rfl, Nat.le_of_ble_eq_true rfl⟩ rfl (fun _ _ => rfl) (Nat.le_of_ble_eq_true rfl) ⟨Nat.le_of_ble_eq_true rfl, Nat.le_of_ble_eq_true rfl⟩ (fun v24 h23 => q_ob_is h23) (fun v24 h23 => m_X6_rateLearned h23) (fun v24 h23 => ?_)
      refine q_istore (ls' := [(10, .int v24), (0, .ref a0), (2, .int a2), (3, .long a3), (5, .long a5), (7, .int a7), (8, .int a8), (9, .int a9)]) dX6_rateOfCan_70 (by decide) rfl ?_
      refine q_iload 0 dX6_rateOfCan_72 rfl ?_
      refine q_iconst (x := (-1 : Int32)) dX6_rateOfCan_74 rfl ?_
      refine q_icmp_eq (tgt := 165) dX6_rateOfCan_75 (by decide) (fun c43 => ?_) (fun c43 => ?_)
      · refine q_iinc 7 (y := (a9 + (1 : Int32))) (ls' := [(9, .int (a9 + (1 : Int32))), (10, .int v24), (0, .ref a0), (2, .int a2), (3, .long a3), (5, .long a5), (7, .int a7), (8, .int a8)]) dX6_rateOfCan_165 rfl rfl (by decide) rfl ?_
        refine q_goto (tgt := 52) dX6_rateOfCan_168 (by decide) ?_
        refine q_sub (ls' := [(0, .ref a0), (2, .int a2), (3, .long a3), (5, .long a5), (7, .int a7), (8, .int a8), (9, .int (a9 + (1 : Int32)))]) [2, 3, 4, 5, 6, 7, 0] rfl ?_
        exact ih _ _ _ _
      · refine q_aload_n 1 dX6_rateOfCan_78 rfl ?_
        refine q_getR (f := 1) cl_X6 (by decide) qw_164 rfl dX6_rateOfCan_79 (fun _ _ _ => rfl) (fun v25 h26 => ?_)
        refine q_iload 7 dX6_rateOfCan_82 rfl ?_
        refine q_iconst (x := (0 : Int32)) dX6_rateOfCan_84 rfl ?_
        refine q_cVI (Y2 := Y_X9_at) (As := [.int a9, .int (0 : Int32)]) (b := v25) (st := []) cl_X9 mv_X9_at qw_466 dX6_rateOfCan_85 ⟨Nat.le_of_ble_eq_true rfl, Nat.le_of_ble_eq_true rfl⟩ rfl (fun _ _ => rfl) (Nat.le_of_ble_eq_true rfl) ⟨Nat.le_of_ble_eq_true rfl, Nat.le_of_ble_eq_true rfl⟩ (fun v28 h27 => q_ob_is h27) (fun v28 h27 => m_X9_at h27) (fun v28 h27 => ?_)
        refine q_iload_n 2 dX6_rateOfCan_88 rfl ?_
        refine q_icmp_eq (tgt := 95) dX6_rateOfCan_89 (by decide) (fun c42 => ?_) (fun c42 => ?_)
        · refine q_aload_n 1 dX6_rateOfCan_95 rfl ?_
          refine q_getR (f := 1) cl_X6 (by decide) qw_164 rfl dX6_rateOfCan_96 (fun _ _ _ => rfl) (fun v29 h30 => ?_)
          refine q_iload 7 dX6_rateOfCan_99 rfl ?_
          refine q_iconst (x := (1 : Int32)) dX6_rateOfCan_101 rfl ?_
          refine q_cVI (Y2 := Y_X9_at) (As := [.int a9, .int (1 : Int32)]) (b := v29) (st := []) cl_X9 mv_X9_at qw_466 dX6_rateOfCan_102 ⟨Nat.le_of_ble_eq_true rfl, Nat.le_of_ble_eq_true rfl⟩ rfl (fun _ _ => rfl) (Nat.le_of_ble_eq_true rfl) ⟨Nat.le_of_ble_eq_true rfl, Nat.le_of_ble_eq_true rfl⟩ (fun v32 h31 => q_ob_is h31) (fun v32 h31 => m_X9_at h31) (fun v32 h31 => ?_)
          refine q_i2l dX6_rateOfCan_105 ?_
          refine q_aload_n 1 dX6_rateOfCan_106 rfl ?_
          refine q_getR (f := 0) cl_X6 (by decide) qw_163 rfl dX6_rateOfCan_107 (fun _ _ _ => rfl) (fun v33 h34 => ?_)
          refine q_getI (f := 13) cl_X5 (by decide) qw_116 rfl dX6_rateOfCan_110 (Or.inl rfl) (fun v35 h36 => ?_)
          refine q_i2l dX6_rateOfCan_113 ?_
          refine q_cNJ (Y2 := Y_X11_cut) (As := [.long v32.toInt64, .long v35.toInt64]) (st := []) ms_X11_cut (host := "CountyCream") (by decide +kernel) dX6_rateOfCan_114 ⟨Nat.le_of_ble_eq_true rfl, Nat.le_of_ble_eq_true rfl⟩ rfl (fun _ _ => rfl) (Nat.le_of_ble_eq_true rfl) ⟨Nat.le_of_ble_eq_true rfl, Nat.le_of_ble_eq_true rfl⟩ (fun v38 h37 => m_X11_cut h37) (fun v38 h37 => ?_)
          refine q_lstore (ls' := [(11, .long v38), (10, .int v24), (0, .ref a0), (2, .int a2), (3, .long a3), (5, .long a5), (7, .int a7), (8, .int a8), (9, .int a9)]) dX6_rateOfCan_117 (by decide) rfl ?_
          refine q_lload 0 dX6_rateOfCan_119 rfl ?_
          refine q_lload_n 4 dX6_rateOfCan_121 rfl ?_
          refine q_lcmp_gt (tgt := 165) dX6_rateOfCan_122 dX6_rateOfCan_123 (by decide) (fun c41 => ?_) (fun c41 => ?_)
          · refine q_iinc 8 (y := (a9 + (1 : Int32))) (ls' := [(9, .int (a9 + (1 : Int32))), (11, .long v38), (10, .int v24), (0, .ref a0), (2, .int a2), (3, .long a3), (5, .long a5), (7, .int a7), (8, .int a8)]) dX6_rateOfCan_165 rfl rfl (by decide) rfl ?_
            refine q_goto (tgt := 52) dX6_rateOfCan_168 (by decide) ?_
            refine q_sub (ls' := [(0, .ref a0), (2, .int a2), (3, .long a3), (5, .long a5), (7, .int a7), (8, .int a8), (9, .int (a9 + (1 : Int32)))]) [3, 4, 5, 6, 7, 8, 0] rfl ?_
            exact ih _ _ _ _
          · refine q_lload 0 dX6_rateOfCan_126 rfl ?_
            refine q_lload 5 dX6_rateOfCan_128 rfl ?_
            refine q_lcmp_ge (tgt := 137) dX6_rateOfCan_130 dX6_rateOfCan_131 (by decide) (fun c40 => ?_) (fun c40 => ?_)
            · refine q_goto (tgt := 165) dX6_rateOfCan_134 (by decide) ?_
              refine q_iinc 8 (y := (a9 + (1 : Int32))) (ls' := [(9, .int (a9 + (1 : Int32))), (11, .long v38), (10, .int v24), (0, .ref a0), (2, .int a2), (3, .long a3), (5, .long a5), (7, .int a7), (8, .int a8)]) dX6_rateOfCan_165 rfl rfl (by decide) rfl ?_
              refine q_goto (tgt := 52) dX6_rateOfCan_168 (by decide) ?_
              refine q_sub (ls' := [(0, .ref a0), (2, .int a2), (3, .long a3), (5, .long a5), (7, .int a7), (8, .int a8), (9, .int (a9 + (1 : Int32)))]) [3, 4, 5, 6, 7, 8, 0] rfl ?_
              exact ih _ _ _ _
            · refine q_lload 0 dX6_rateOfCan_137 rfl ?_
              refine q_lload 5 dX6_rateOfCan_139 rfl ?_
              refine q_lcmp_le (tgt := 155) dX6_rateOfCan_141 dX6_rateOfCan_142 (by decide) (fun c39 => ?_) (fun c39 => ?_)
              · refine q_lload 0 dX6_rateOfCan_145 rfl ?_
                refine q_lstore (ls' := [(5, .long v38), (11, .long v38), (10, .int v24), (0, .ref a0), (2, .int a2), (3, .long a3), (7, .int a7), (8, .int a8), (9, .int a9)]) dX6_rateOfCan_147 (by decide) rfl ?_
                refine q_iconst (x := (0 : Int32)) dX6_rateOfCan_149 rfl ?_
                refine q_istore (ls' := [(7, .int (0 : Int32)), (5, .long v38), (11, .long v38), (10, .int v24), (0, .ref a0), (2, .int a2), (3, .long a3), (8, .int a8), (9, .int a9)]) dX6_rateOfCan_150 (by decide) rfl ?_
                refine q_iconst (x := (0 : Int32)) dX6_rateOfCan_152 rfl ?_
                refine q_istore (ls' := [(8, .int (0 : Int32)), (7, .int (0 : Int32)), (5, .long v38), (11, .long v38), (10, .int v24), (0, .ref a0), (2, .int a2), (3, .long a3), (9, .int a9)]) dX6_rateOfCan_153 (by decide) rfl ?_
                refine q_sub (ls' := [(0, .ref a0), (2, .int a2), (3, .long a3), (5, .long v38), (7, .int (0 : Int32)), (8, .int (0 : Int32)), (9, .int a9), (10, .int v24)]) [5, 6, 7, 2, 1, 0, 8, 4] rfl ?_
                exact v_X6_rateOfCan_b155 (ih)
              · refine q_sub (ls' := [(0, .ref a0), (2, .int a2), (3, .long a3), (5, .long a5), (7, .int a7), (8, .int a8), (9, .int a9), (10, .int v24)]) [2, 3, 4, 5, 6, 7, 8, 1] rfl ?_
                exact v_X6_rateOfCan_b155 (ih)
        · refine q_goto (tgt := 165) dX6_rateOfCan_92 (by decide) ?_
          refine q_iinc 7 (y := (a9 + (1 : Int32))) (ls' := [(9, .int (a9 + (1 : Int32))), (10, .int v24), (0, .ref a0), (2, .int a2), (3, .long a3), (5, .long a5), (7, .int a7), (8, .int a8)]) dX6_rateOfCan_165 rfl rfl (by decide) rfl ?_
          refine q_goto (tgt := 52) dX6_rateOfCan_168 (by decide) ?_
          refine q_sub (ls' := [(0, .ref a0), (2, .int a2), (3, .long a3), (5, .long a5), (7, .int a7), (8, .int a8), (9, .int (a9 + (1 : Int32)))]) [2, 3, 4, 5, 6, 7, 0] rfl ?_
          exact ih _ _ _ _
    · refine q_sub (ls' := [(7, .int a7), (8, .int a8)]) [4, 5] rfl ?_
      exact v_X6_rateOfCan_b171
set_option maxRecDepth 20000 in
theorem m_X6_rateOfCan {M : q_Mem} {a0 : Nat} {a1 : Int32} {x : Int32} (h : f_X6_rateOfCan M a0 a1 = some x) : q_C Y_X6_rateOfCan [.ref a0, .int a1] M (some (.int x)) M := by
  refine q_met (φ := (fun x : Int32 => (some (.int x), M))) (r := f_X6_rateOfCan M a0 a1) (by decide +kernel) (Nat.le_of_ble_eq_true rfl) ?_ h (fun _ _ => rfl)
  show q_V Y_X6_rateOfCan none (fun x : Int32 => (some (.int x), M)) 0 0 0 [(0, .ref a0), (1, .int a1)] [] M (f_X6_rateOfCan M a0 a1)
  unfold f_X6_rateOfCan
  refine q_obV ?_
  refine q_aload_n 0 dX6_rateOfCan_0 rfl ?_
  refine q_getR (f := 0) cl_X6 (by decide) qw_163 rfl dX6_rateOfCan_1 (fun _ _ _ => rfl) (fun v1 h2 => ?_)
  refine q_getR (f := 1) cl_X5 (by decide) qw_81 rfl dX6_rateOfCan_4 (fun _ _ _ => rfl) (fun v3 h4 => ?_)
  refine q_iload_n 1 dX6_rateOfCan_7 rfl ?_
  refine q_iconst (x := (0 : Int32)) dX6_rateOfCan_8 rfl ?_
  refine q_cVI (Y2 := Y_X9_at) (As := [.int a1, .int (0 : Int32)]) (b := v3) (st := []) cl_X9 mv_X9_at qw_466 dX6_rateOfCan_9 ⟨Nat.le_of_ble_eq_true rfl, Nat.le_of_ble_eq_true rfl⟩ rfl (fun _ _ => rfl) (Nat.le_of_ble_eq_true rfl) ⟨Nat.le_of_ble_eq_true rfl, Nat.le_of_ble_eq_true rfl⟩ (fun v6 h5 => q_ob_is h5) (fun v6 h5 => m_X9_at h5) (fun v6 h5 => ?_)
  refine q_istore_n (ls' := [(2, .int v6), (0, .ref a0), (1, .int a1)]) dX6_rateOfCan_12 (by decide) rfl ?_
  refine q_aload_n 1 dX6_rateOfCan_13 rfl ?_
  refine q_getR (f := 0) cl_X6 (by decide) qw_163 rfl dX6_rateOfCan_14 (fun _ _ _ => rfl) (fun v7 h8 => ?_)
  refine q_getR (f := 1) cl_X5 (by decide) qw_81 rfl dX6_rateOfCan_17 (fun _ _ _ => rfl) (fun v9 h10 => ?_)
  refine q_iload_n 2 dX6_rateOfCan_20 rfl ?_
  refine q_iconst (x := (1 : Int32)) dX6_rateOfCan_21 rfl ?_
  refine q_cVI (Y2 := Y_X9_at) (As := [.int a1, .int (1 : Int32)]) (b := v9) (st := []) cl_X9 mv_X9_at qw_466 dX6_rateOfCan_22 ⟨Nat.le_of_ble_eq_true rfl, Nat.le_of_ble_eq_true rfl⟩ rfl (fun _ _ => rfl) (Nat.le_of_ble_eq_true rfl) ⟨Nat.le_of_ble_eq_true rfl, Nat.le_of_ble_eq_true rfl⟩ (fun v12 h11 => q_ob_is h11) (fun v12 h11 => m_X9_at h11) (fun v12 h11 => ?_)
  refine q_i2l dX6_rateOfCan_25 ?_
  refine q_aload_n 1 dX6_rateOfCan_26 rfl ?_
  refine q_getR (f := 0) cl_X6 (by decide) qw_163 rfl dX6_rateOfCan_27 (fun _ _ _ => rfl) (fun v13 h14 => ?_)
  refine q_getI (f := 13) cl_X5 (by decide) qw_116 rfl dX6_rateOfCan_30 (Or.inl rfl) (fun v15 h16 => ?_)
  refine q_i2l dX6_rateOfCan_33 ?_
  refine q_cNJ (Y2 := Y_X11_cut) (As := [.long v12.toInt64, .long v15.toInt64]) (st := []) ms_X11_cut (host := "CountyCream") (by decide +kernel) dX6_rateOfCan_34 ⟨Nat.le_of_ble_eq_true rfl, Nat.le_of_ble_eq_true rfl⟩ rfl (fun _ _ => rfl) (Nat.le_of_ble_eq_true rfl) ⟨Nat.le_of_ble_eq_true rfl, Nat.le_of_ble_eq_true rfl⟩ (fun v18 h17 => m_X11_cut h17) (fun v18 h17 => ?_)
  refine q_lstore_n (ls' := [(3, .long v18), (2, .int v6), (0, .ref a0), (1, .int a1)]) dX6_rateOfCan_37 (by decide) rfl ?_
  refine q_ldc2 (x := (-1 : Int64)) qw_503 dX6_rateOfCan_38 ?_
  refine q_lstore (ls' := [(5, .long (-1 : Int64)), (3, .long v18), (2, .int v6), (0, .ref a0), (1, .int a1)]) dX6_rateOfCan_41 (by decide) rfl ?_
  refine q_iconst (x := (0 : Int32)) dX6_rateOfCan_43 rfl ?_
  refine q_istore (ls' := [(7, .int (0 : Int32)), (5, .long (-1 : Int64)), (3, .long v18), (2, .int v6), (0, .ref a0), (1, .int a1)]) dX6_rateOfCan_44 (by decide) rfl ?_
  refine q_iconst (x := (0 : Int32)) dX6_rateOfCan_46 rfl ?_
  refine q_istore (ls' := [(8, .int (0 : Int32)), (7, .int (0 : Int32)), (5, .long (-1 : Int64)), (3, .long v18), (2, .int v6), (0, .ref a0), (1, .int a1)]) dX6_rateOfCan_47 (by decide) rfl ?_
  refine q_iconst (x := (0 : Int32)) dX6_rateOfCan_49 rfl ?_
  refine q_istore (ls' := [(9, .int (0 : Int32)), (8, .int (0 : Int32)), (7, .int (0 : Int32)), (5, .long (-1 : Int64)), (3, .long v18), (2, .int v6), (0, .ref a0), (1, .int a1)]) dX6_rateOfCan_50 (by decide) rfl ?_
  refine q_sub (ls' := [(0, .ref a0), (2, .int v6), (3, .long v18), (5, .long (-1 : Int64)), (7, .int (0 : Int32)), (8, .int (0 : Int32)), (9, .int (0 : Int32))]) [6, 5, 4, 3, 2, 1, 0] rfl ?_
  exact v_X6_rateOfCan_b52 _ _ _ _ _
theorem dX6_fatOfCan_0 : decode cX6_fatOfCan 0 = .ok (.aload_n 0, 1) := by decide +kernel
theorem dX6_fatOfCan_1 : decode cX6_fatOfCan 1 = .ok (.getfield 15, 3) := by decide +kernel
theorem dX6_fatOfCan_4 : decode cX6_fatOfCan 4 = .ok (.getfield 64, 3) := by decide +kernel
theorem dX6_fatOfCan_7 : decode cX6_fatOfCan 7 = .ok (.iload_n 1, 1) := by decide +kernel
theorem dX6_fatOfCan_8 : decode cX6_fatOfCan 8 = .ok (.iconst 2, 1) := by decide +kernel
theorem dX6_fatOfCan_9 : decode cX6_fatOfCan 9 = .ok (.invokevirtual 36, 3) := by decide +kernel
theorem dX6_fatOfCan_12 : decode cX6_fatOfCan 12 = .ok (.i2l, 1) := by decide +kernel
theorem dX6_fatOfCan_13 : decode cX6_fatOfCan 13 = .ok (.aload_n 0, 1) := by decide +kernel
theorem dX6_fatOfCan_14 : decode cX6_fatOfCan 14 = .ok (.iload_n 1, 1) := by decide +kernel
theorem dX6_fatOfCan_15 : decode cX6_fatOfCan 15 = .ok (.invokevirtual 79, 3) := by decide +kernel
theorem dX6_fatOfCan_18 : decode cX6_fatOfCan 18 = .ok (.i2l, 1) := by decide +kernel
theorem dX6_fatOfCan_19 : decode cX6_fatOfCan 19 = .ok (.lmul, 1) := by decide +kernel
theorem dX6_fatOfCan_20 : decode cX6_fatOfCan 20 = .ok (.lreturn, 1) := by decide +kernel
def f_X6_fatOfCan (M : q_Mem) (a0 : Nat) (a1 : Int32) : Option Int64 :=
  q_ob 5 M a0 ((q_gR 5 0 M a0).bind fun v1 =>
  (q_gR 4 1 M v1).bind fun v3 =>
  (f_X9_at M v3 a1 (2 : Int32)).bind fun v6 =>
  (f_X6_rateOfCan M a0 a1).bind fun v8 =>
  some (v6.toInt64 * v8.toInt64))
set_option maxRecDepth 20000 in
theorem m_X6_fatOfCan {M : q_Mem} {a0 : Nat} {a1 : Int32} {x : Int64} (h : f_X6_fatOfCan M a0 a1 = some x) : q_C Y_X6_fatOfCan [.ref a0, .int a1] M (some (.long x)) M := by
  refine q_met (φ := (fun x : Int64 => (some (.long x), M))) (r := f_X6_fatOfCan M a0 a1) (by decide +kernel) (Nat.le_of_ble_eq_true rfl) ?_ h (fun _ _ => rfl)
  show q_V Y_X6_fatOfCan none (fun x : Int64 => (some (.long x), M)) 0 0 0 [(0, .ref a0), (1, .int a1)] [] M (f_X6_fatOfCan M a0 a1)
  unfold f_X6_fatOfCan
  refine q_obV ?_
  refine q_aload_n 0 dX6_fatOfCan_0 rfl ?_
  refine q_getR (f := 0) cl_X6 (by decide) qw_163 rfl dX6_fatOfCan_1 (fun _ _ _ => rfl) (fun v1 h2 => ?_)
  refine q_getR (f := 1) cl_X5 (by decide) qw_81 rfl dX6_fatOfCan_4 (fun _ _ _ => rfl) (fun v3 h4 => ?_)
  refine q_iload_n 1 dX6_fatOfCan_7 rfl ?_
  refine q_iconst (x := (2 : Int32)) dX6_fatOfCan_8 rfl ?_
  refine q_cVI (Y2 := Y_X9_at) (As := [.int a1, .int (2 : Int32)]) (b := v3) (st := []) cl_X9 mv_X9_at qw_466 dX6_fatOfCan_9 ⟨Nat.le_of_ble_eq_true rfl, Nat.le_of_ble_eq_true rfl⟩ rfl (fun _ _ => rfl) (Nat.le_of_ble_eq_true rfl) ⟨Nat.le_of_ble_eq_true rfl, Nat.le_of_ble_eq_true rfl⟩ (fun v6 h5 => q_ob_is h5) (fun v6 h5 => m_X9_at h5) (fun v6 h5 => ?_)
  refine q_i2l dX6_fatOfCan_12 ?_
  refine q_aload_n 0 dX6_fatOfCan_13 rfl ?_
  refine q_iload_n 1 dX6_fatOfCan_14 rfl ?_
  refine q_cVI (Y2 := Y_X6_rateOfCan) (As := [.int a1]) (b := a0) (st := [.long v6.toInt64]) cl_X6 mv_X6_rateOfCan qw_524 dX6_fatOfCan_15 ⟨Nat.le_of_ble_eq_true rfl, Nat.le_of_ble_eq_true rfl⟩ rfl (fun _ _ => rfl) (Nat.le_of_ble_eq_true rfl) ⟨Nat.le_of_ble_eq_true rfl, Nat.le_of_ble_eq_true rfl⟩ (fun v8 h7 => q_ob_is h7) (fun v8 h7 => m_X6_rateOfCan h7) (fun v8 h7 => ?_)
  refine q_i2l dX6_fatOfCan_18 ?_
  refine q_lmul dX6_fatOfCan_19 ?_
  exact q_lret dX6_fatOfCan_20 rfl rfl (Nat.le_of_ble_eq_true rfl) rfl
theorem dX4_fatOf_0 : decode cX4_fatOf 0 = .ok (.lconst 0, 1) := by decide +kernel
theorem dX4_fatOf_1 : decode cX4_fatOf 1 = .ok (.lstore_n 3, 1) := by decide +kernel
theorem dX4_fatOf_2 : decode cX4_fatOf 2 = .ok (.iconst 0, 1) := by decide +kernel
theorem dX4_fatOf_3 : decode cX4_fatOf 3 = .ok (.istore 5, 2) := by decide +kernel
theorem dX4_fatOf_5 : decode cX4_fatOf 5 = .ok (.iload 5, 2) := by decide +kernel
theorem dX4_fatOf_7 : decode cX4_fatOf 7 = .ok (.aload_n 0, 1) := by decide +kernel
theorem dX4_fatOf_8 : decode cX4_fatOf 8 = .ok (.getfield 9, 3) := by decide +kernel
theorem dX4_fatOf_11 : decode cX4_fatOf 11 = .ok (.getfield 19, 3) := by decide +kernel
theorem dX4_fatOf_14 : decode cX4_fatOf 14 = .ok (.getfield 25, 3) := by decide +kernel
theorem dX4_fatOf_17 : decode cX4_fatOf 17 = .ok (.if_icmp .ge 63, 3) := by decide +kernel
theorem dX4_fatOf_20 : decode cX4_fatOf 20 = .ok (.aload_n 0, 1) := by decide +kernel
theorem dX4_fatOf_21 : decode cX4_fatOf 21 = .ok (.getfield 9, 3) := by decide +kernel
theorem dX4_fatOf_24 : decode cX4_fatOf 24 = .ok (.getfield 19, 3) := by decide +kernel
theorem dX4_fatOf_27 : decode cX4_fatOf 27 = .ok (.iload 5, 2) := by decide +kernel
theorem dX4_fatOf_29 : decode cX4_fatOf 29 = .ok (.iconst 3, 1) := by decide +kernel
theorem dX4_fatOf_30 : decode cX4_fatOf 30 = .ok (.invokevirtual 31, 3) := by decide +kernel
theorem dX4_fatOf_33 : decode cX4_fatOf 33 = .ok (.iload_n 1, 1) := by decide +kernel
theorem dX4_fatOf_34 : decode cX4_fatOf 34 = .ok (.if_icmp .eq 6, 3) := by decide +kernel
theorem dX4_fatOf_37 : decode cX4_fatOf 37 = .ok (.goto 37, 3) := by decide +kernel
theorem dX4_fatOf_40 : decode cX4_fatOf 40 = .ok (.iload_n 2, 1) := by decide +kernel
theorem dX4_fatOf_41 : decode cX4_fatOf 41 = .ok (.iconst (-1), 1) := by decide +kernel
theorem dX4_fatOf_42 : decode cX4_fatOf 42 = .ok (.if_icmp .eq 20, 3) := by decide +kernel
theorem dX4_fatOf_45 : decode cX4_fatOf 45 = .ok (.aload_n 0, 1) := by decide +kernel
theorem dX4_fatOf_46 : decode cX4_fatOf 46 = .ok (.getfield 9, 3) := by decide +kernel
theorem dX4_fatOf_49 : decode cX4_fatOf 49 = .ok (.getfield 19, 3) := by decide +kernel
theorem dX4_fatOf_52 : decode cX4_fatOf 52 = .ok (.iload 5, 2) := by decide +kernel
theorem dX4_fatOf_54 : decode cX4_fatOf 54 = .ok (.iconst 0, 1) := by decide +kernel
theorem dX4_fatOf_55 : decode cX4_fatOf 55 = .ok (.invokevirtual 31, 3) := by decide +kernel
theorem dX4_fatOf_58 : decode cX4_fatOf 58 = .ok (.iload_n 2, 1) := by decide +kernel
theorem dX4_fatOf_59 : decode cX4_fatOf 59 = .ok (.if_icmp .ne 15, 3) := by decide +kernel
theorem dX4_fatOf_62 : decode cX4_fatOf 62 = .ok (.lload_n 3, 1) := by decide +kernel
theorem dX4_fatOf_63 : decode cX4_fatOf 63 = .ok (.aload_n 0, 1) := by decide +kernel
theorem dX4_fatOf_64 : decode cX4_fatOf 64 = .ok (.getfield 15, 3) := by decide +kernel
theorem dX4_fatOf_67 : decode cX4_fatOf 67 = .ok (.iload 5, 2) := by decide +kernel
theorem dX4_fatOf_69 : decode cX4_fatOf 69 = .ok (.invokevirtual 47, 3) := by decide +kernel
theorem dX4_fatOf_72 : decode cX4_fatOf 72 = .ok (.ladd, 1) := by decide +kernel
theorem dX4_fatOf_73 : decode cX4_fatOf 73 = .ok (.lstore_n 3, 1) := by decide +kernel
theorem dX4_fatOf_74 : decode cX4_fatOf 74 = .ok (.iinc 5 1, 3) := by decide +kernel
theorem dX4_fatOf_77 : decode cX4_fatOf 77 = .ok (.goto (-72), 3) := by decide +kernel
theorem dX4_fatOf_80 : decode cX4_fatOf 80 = .ok (.lload_n 3, 1) := by decide +kernel
theorem dX4_fatOf_81 : decode cX4_fatOf 81 = .ok (.lreturn, 1) := by decide +kernel
def f_X4_fatOf_b62 (kk5 : Int64 → Int32 → Option Int64) (M : q_Mem) (a0 : Nat) (a1 : Int32) (a2 : Int32) (a3 : Int64) (a5 : Int32) : Option Int64 :=
  (q_gR 3 1 M a0).bind fun v23 =>
  (f_X6_fatOfCan M v23 a5).bind fun v26 =>
  kk5 (a3 + v26) (a5 + (1 : Int32))
def f_X4_fatOf_b5 (M : q_Mem) (a0 : Nat) (a1 : Int32) (a2 : Int32) : Nat → Int64 → Int32 → Option Int64
  | 0, _, _ => none
  | n + 1, a3, a5 =>
    (q_gR 3 0 M a0).bind fun v1 =>
    (q_gR 4 1 M v1).bind fun v3 =>
    (q_gI 8 3 M v3).bind fun v5 =>
    (if a5 < v5 then
      (q_gR 3 0 M a0).bind fun v7 =>
      (q_gR 4 1 M v7).bind fun v9 =>
      (f_X9_at M v9 a5 (3 : Int32)).bind fun v12 =>
      (if v12 = a1 then
        (if a2 = (-1 : Int32) then
          f_X4_fatOf_b62 (f_X4_fatOf_b5 M a0 a1 a2 n) M a0 a1 a2 a3 a5
        else
          (q_gR 3 0 M a0).bind fun v13 =>
          (q_gR 4 1 M v13).bind fun v15 =>
          (f_X9_at M v15 a5 (0 : Int32)).bind fun v18 =>
          (if v18 = a2 then
            f_X4_fatOf_b62 (f_X4_fatOf_b5 M a0 a1 a2 n) M a0 a1 a2 a3 a5
          else
            f_X4_fatOf_b5 M a0 a1 a2 n a3 (a5 + (1 : Int32))))
      else
        f_X4_fatOf_b5 M a0 a1 a2 n a3 (a5 + (1 : Int32)))
    else
      some a3)
def f_X4_fatOf (M : q_Mem) (a0 : Nat) (a1 : Int32) (a2 : Int32) : Option Int64 :=
  q_ob 3 M a0 (f_X4_fatOf_b5 M a0 a1 a2 q_fuel (0 : Int64) (0 : Int32))
set_option maxRecDepth 20000 in
theorem v_X4_fatOf_b62 {kk5 : Int64 → Int32 → Option Int64} {M : q_Mem} {a0 : Nat} {a1 : Int32} {a2 : Int32} {a3 : Int64} {a5 : Int32}  (hk5 : ∀ (a3 : Int64) (a5 : Int32), q_V Y_X4_fatOf none (fun x : Int64 => (some (.long x), M)) 0 0 5 [(0, .ref a0), (1, .int a1), (2, .int a2), (3, .long a3), (5, .int a5)] [] M (kk5 a3 a5)): q_V Y_X4_fatOf none (fun x : Int64 => (some (.long x), M)) 0 0 62 [(0, .ref a0), (1, .int a1), (2, .int a2), (3, .long a3), (5, .int a5)] [] M (f_X4_fatOf_b62 kk5 M a0 a1 a2 a3 a5 ) := by
  unfold f_X4_fatOf_b62
  refine q_lload_n 3 dX4_fatOf_62 rfl ?_
  refine q_aload_n 0 dX4_fatOf_63 rfl ?_
  refine q_getR (f := 1) cl_X4 (by decide) qw_181 rfl dX4_fatOf_64 (fun _ _ _ => rfl) (fun v23 h24 => ?_)
  refine q_iload 4 dX4_fatOf_67 rfl ?_
  refine q_cVJ (Y2 := Y_X6_fatOfCan) (As := [.int a5]) (b := v23) (st := [.long a3]) cl_X6 mv_X6_fatOfCan qw_554 dX4_fatOf_69 ⟨Nat.le_of_ble_eq_true rfl, Nat.le_of_ble_eq_true rfl⟩ rfl (fun _ _ => rfl) (Nat.le_of_ble_eq_true rfl) ⟨Nat.le_of_ble_eq_true rfl, Nat.le_of_ble_eq_true rfl⟩ (fun v26 h25 => q_ob_is h25) (fun v26 h25 => m_X6_fatOfCan h25) (fun v26 h25 => ?_)
  refine q_ladd dX4_fatOf_72 ?_
  refine q_lstore_n (ls' := [(3, .long (a3 + v26)), (0, .ref a0), (1, .int a1), (2, .int a2), (5, .int a5)]) dX4_fatOf_73 (by decide) rfl ?_
  refine q_iinc 4 (y := (a5 + (1 : Int32))) (ls' := [(5, .int (a5 + (1 : Int32))), (3, .long (a3 + v26)), (0, .ref a0), (1, .int a1), (2, .int a2)]) dX4_fatOf_74 rfl rfl (by decide) rfl ?_
  refine q_goto (tgt := 5) dX4_fatOf_77 (by decide) ?_
  refine q_sub (ls' := [(0, .ref a0), (1, .int a1), (2, .int a2), (3, .long (a3 + v26)), (5, .int (a5 + (1 : Int32)))]) [2, 3, 4, 1, 0] rfl ?_
  exact hk5 _ _
set_option maxRecDepth 20000 in
theorem v_X4_fatOf_b5 {M : q_Mem} {a0 : Nat} {a1 : Int32} {a2 : Int32}  : ∀ (n : Nat) (a3 : Int64) (a5 : Int32), q_V Y_X4_fatOf none (fun x : Int64 => (some (.long x), M)) 0 0 5 [(0, .ref a0), (1, .int a1), (2, .int a2), (3, .long a3), (5, .int a5)] [] M (f_X4_fatOf_b5 M a0 a1 a2 n a3 a5) := by
  intro n
  induction n with
  | zero => intro a3 a5; exact q_none
  | succ n ih =>
    intro a3 a5
    rw [f_X4_fatOf_b5.eq_2]
    refine q_iload 4 dX4_fatOf_5 rfl ?_
    refine q_aload_n 0 dX4_fatOf_7 rfl ?_
    refine q_getR (f := 0) cl_X4 (by decide) qw_180 rfl dX4_fatOf_8 (fun _ _ _ => rfl) (fun v1 h2 => ?_)
    refine q_getR (f := 1) cl_X5 (by decide) qw_78 rfl dX4_fatOf_11 (fun _ _ _ => rfl) (fun v3 h4 => ?_)
    refine q_getI (f := 3) cl_X9 (by decide) qw_47 rfl dX4_fatOf_14 (Or.inl rfl) (fun v5 h6 => ?_)
    refine q_icmp_ge (tgt := 80) dX4_fatOf_17 (by decide) (fun c22 => ?_) (fun c22 => ?_)
    · refine q_aload_n 0 dX4_fatOf_20 rfl ?_
      refine q_getR (f := 0) cl_X4 (by decide) qw_180 rfl dX4_fatOf_21 (fun _ _ _ => rfl) (fun v7 h8 => ?_)
      refine q_getR (f := 1) cl_X5 (by decide) qw_78 rfl dX4_fatOf_24 (fun _ _ _ => rfl) (fun v9 h10 => ?_)
      refine q_iload 4 dX4_fatOf_27 rfl ?_
      refine q_iconst (x := (3 : Int32)) dX4_fatOf_29 rfl ?_
      refine q_cVI (Y2 := Y_X9_at) (As := [.int a5, .int (3 : Int32)]) (b := v9) (st := []) cl_X9 mv_X9_at qw_541 dX4_fatOf_30 ⟨Nat.le_of_ble_eq_true rfl, Nat.le_of_ble_eq_true rfl⟩ rfl (fun _ _ => rfl) (Nat.le_of_ble_eq_true rfl) ⟨Nat.le_of_ble_eq_true rfl, Nat.le_of_ble_eq_true rfl⟩ (fun v12 h11 => q_ob_is h11) (fun v12 h11 => m_X9_at h11) (fun v12 h11 => ?_)
      refine q_iload_n 1 dX4_fatOf_33 rfl ?_
      refine q_icmp_eq (tgt := 40) dX4_fatOf_34 (by decide) (fun c21 => ?_) (fun c21 => ?_)
      · refine q_iload_n 2 dX4_fatOf_40 rfl ?_
        refine q_iconst (x := (-1 : Int32)) dX4_fatOf_41 rfl ?_
        refine q_icmp_eq (tgt := 62) dX4_fatOf_42 (by decide) (fun c20 => ?_) (fun c20 => ?_)
        · exact v_X4_fatOf_b62 (ih)
        · refine q_aload_n 0 dX4_fatOf_45 rfl ?_
          refine q_getR (f := 0) cl_X4 (by decide) qw_180 rfl dX4_fatOf_46 (fun _ _ _ => rfl) (fun v13 h14 => ?_)
          refine q_getR (f := 1) cl_X5 (by decide) qw_78 rfl dX4_fatOf_49 (fun _ _ _ => rfl) (fun v15 h16 => ?_)
          refine q_iload 4 dX4_fatOf_52 rfl ?_
          refine q_iconst (x := (0 : Int32)) dX4_fatOf_54 rfl ?_
          refine q_cVI (Y2 := Y_X9_at) (As := [.int a5, .int (0 : Int32)]) (b := v15) (st := []) cl_X9 mv_X9_at qw_541 dX4_fatOf_55 ⟨Nat.le_of_ble_eq_true rfl, Nat.le_of_ble_eq_true rfl⟩ rfl (fun _ _ => rfl) (Nat.le_of_ble_eq_true rfl) ⟨Nat.le_of_ble_eq_true rfl, Nat.le_of_ble_eq_true rfl⟩ (fun v18 h17 => q_ob_is h17) (fun v18 h17 => m_X9_at h17) (fun v18 h17 => ?_)
          refine q_iload_n 2 dX4_fatOf_58 rfl ?_
          refine q_icmp_ne (tgt := 74) dX4_fatOf_59 (by decide) (fun c19 => ?_) (fun c19 => ?_)
          · exact v_X4_fatOf_b62 (ih)
          · refine q_iinc 4 (y := (a5 + (1 : Int32))) (ls' := [(5, .int (a5 + (1 : Int32))), (0, .ref a0), (1, .int a1), (2, .int a2), (3, .long a3)]) dX4_fatOf_74 rfl rfl (by decide) rfl ?_
            refine q_goto (tgt := 5) dX4_fatOf_77 (by decide) ?_
            refine q_sub (ls' := [(0, .ref a0), (1, .int a1), (2, .int a2), (3, .long a3), (5, .int (a5 + (1 : Int32)))]) [1, 2, 3, 4, 0] rfl ?_
            exact ih _ _
      · refine q_goto (tgt := 74) dX4_fatOf_37 (by decide) ?_
        refine q_iinc 4 (y := (a5 + (1 : Int32))) (ls' := [(5, .int (a5 + (1 : Int32))), (0, .ref a0), (1, .int a1), (2, .int a2), (3, .long a3)]) dX4_fatOf_74 rfl rfl (by decide) rfl ?_
        refine q_goto (tgt := 5) dX4_fatOf_77 (by decide) ?_
        refine q_sub (ls' := [(0, .ref a0), (1, .int a1), (2, .int a2), (3, .long a3), (5, .int (a5 + (1 : Int32)))]) [1, 2, 3, 4, 0] rfl ?_
        exact ih _ _
    · refine q_lload_n 3 dX4_fatOf_80 rfl ?_
      exact q_lret dX4_fatOf_81 rfl rfl (Nat.le_of_ble_eq_true rfl) rfl
set_option maxRecDepth 20000 in
theorem m_X4_fatOf {M : q_Mem} {a0 : Nat} {a1 : Int32} {a2 : Int32} {x : Int64} (h : f_X4_fatOf M a0 a1 a2 = some x) : q_C Y_X4_fatOf [.ref a0, .int a1, .int a2] M (some (.long x)) M := by
  refine q_met (φ := (fun x : Int64 => (some (.long x), M))) (r := f_X4_fatOf M a0 a1 a2) (by decide +kernel) (Nat.le_of_ble_eq_true rfl) ?_ h (fun _ _ => rfl)
  show q_V Y_X4_fatOf none (fun x : Int64 => (some (.long x), M)) 0 0 0 [(0, .ref a0), (1, .int a1), (2, .int a2)] [] M (f_X4_fatOf M a0 a1 a2)
  unfold f_X4_fatOf
  refine q_obV ?_
  refine q_lconst (x := (0 : Int64)) dX4_fatOf_0 rfl ?_
  refine q_lstore_n (ls' := [(3, .long (0 : Int64)), (0, .ref a0), (1, .int a1), (2, .int a2)]) dX4_fatOf_1 (by decide) rfl ?_
  refine q_iconst (x := (0 : Int32)) dX4_fatOf_2 rfl ?_
  refine q_istore (ls' := [(5, .int (0 : Int32)), (3, .long (0 : Int64)), (0, .ref a0), (1, .int a1), (2, .int a2)]) dX4_fatOf_3 (by decide) rfl ?_
  refine q_sub (ls' := [(0, .ref a0), (1, .int a1), (2, .int a2), (3, .long (0 : Int64)), (5, .int (0 : Int32))]) [2, 3, 4, 1, 0] rfl ?_
  exact v_X4_fatOf_b5 _ _ _
theorem dX4_butterOf_0 : decode cX4_butterOf 0 = .ok (.aload_n 0, 1) := by decide +kernel
theorem dX4_butterOf_1 : decode cX4_butterOf 1 = .ok (.iload_n 1, 1) := by decide +kernel
theorem dX4_butterOf_2 : decode cX4_butterOf 2 = .ok (.iconst (-1), 1) := by decide +kernel
theorem dX4_butterOf_3 : decode cX4_butterOf 3 = .ok (.invokevirtual 53, 3) := by decide +kernel
theorem dX4_butterOf_6 : decode cX4_butterOf 6 = .ok (.sipush 1000, 3) := by decide +kernel
theorem dX4_butterOf_9 : decode cX4_butterOf 9 = .ok (.aload_n 0, 1) := by decide +kernel
theorem dX4_butterOf_10 : decode cX4_butterOf 10 = .ok (.iload_n 1, 1) := by decide +kernel
theorem dX4_butterOf_11 : decode cX4_butterOf 11 = .ok (.invokevirtual 57, 3) := by decide +kernel
theorem dX4_butterOf_14 : decode cX4_butterOf 14 = .ok (.isub, 1) := by decide +kernel
theorem dX4_butterOf_15 : decode cX4_butterOf 15 = .ok (.i2l, 1) := by decide +kernel
theorem dX4_butterOf_16 : decode cX4_butterOf 16 = .ok (.lmul, 1) := by decide +kernel
theorem dX4_butterOf_17 : decode cX4_butterOf 17 = .ok (.ldc2_w 60, 3) := by decide +kernel
theorem dX4_butterOf_20 : decode cX4_butterOf 20 = .ok (.ldiv, 1) := by decide +kernel
theorem dX4_butterOf_21 : decode cX4_butterOf 21 = .ok (.lreturn, 1) := by decide +kernel
def f_X4_butterOf (M : q_Mem) (a0 : Nat) (a1 : Int32) : Option Int64 :=
  q_ob 3 M a0 ((f_X4_fatOf M a0 a1 (-1 : Int32)).bind fun v2 =>
  (f_X4_lossOf M a0 a1).bind fun v4 =>
  (q_ldv (v2 * ((1000 : Int32) - v4).toInt64) (1000 : Int64)).bind fun v5 =>
  some v5)
set_option maxRecDepth 20000 in
theorem m_X4_butterOf {M : q_Mem} {a0 : Nat} {a1 : Int32} {x : Int64} (h : f_X4_butterOf M a0 a1 = some x) : q_C Y_X4_butterOf [.ref a0, .int a1] M (some (.long x)) M := by
  refine q_met (φ := (fun x : Int64 => (some (.long x), M))) (r := f_X4_butterOf M a0 a1) (by decide +kernel) (Nat.le_of_ble_eq_true rfl) ?_ h (fun _ _ => rfl)
  show q_V Y_X4_butterOf none (fun x : Int64 => (some (.long x), M)) 0 0 0 [(0, .ref a0), (1, .int a1)] [] M (f_X4_butterOf M a0 a1)
  unfold f_X4_butterOf
  refine q_obV ?_
  refine q_aload_n 0 dX4_butterOf_0 rfl ?_
  refine q_iload_n 1 dX4_butterOf_1 rfl ?_
  refine q_iconst (x := (-1 : Int32)) dX4_butterOf_2 rfl ?_
  refine q_cVJ (Y2 := Y_X4_fatOf) (As := [.int a1, .int (-1 : Int32)]) (b := a0) (st := []) cl_X4 mv_X4_fatOf qw_559 dX4_butterOf_3 ⟨Nat.le_of_ble_eq_true rfl, Nat.le_of_ble_eq_true rfl⟩ rfl (fun _ _ => rfl) (Nat.le_of_ble_eq_true rfl) ⟨Nat.le_of_ble_eq_true rfl, Nat.le_of_ble_eq_true rfl⟩ (fun v2 h1 => q_ob_is h1) (fun v2 h1 => m_X4_fatOf h1) (fun v2 h1 => ?_)
  refine q_sipush (x := (1000 : Int32)) dX4_butterOf_6 rfl ?_
  refine q_aload_n 0 dX4_butterOf_9 rfl ?_
  refine q_iload_n 1 dX4_butterOf_10 rfl ?_
  refine q_cVI (Y2 := Y_X4_lossOf) (As := [.int a1]) (b := a0) (st := [.int (1000 : Int32), .long v2]) cl_X4 mv_X4_lossOf qw_560 dX4_butterOf_11 ⟨Nat.le_of_ble_eq_true rfl, Nat.le_of_ble_eq_true rfl⟩ rfl (fun _ _ => rfl) (Nat.le_of_ble_eq_true rfl) ⟨Nat.le_of_ble_eq_true rfl, Nat.le_of_ble_eq_true rfl⟩ (fun v4 h3 => q_ob_is h3) (fun v4 h3 => m_X4_lossOf h3) (fun v4 h3 => ?_)
  refine q_isub dX4_butterOf_14 ?_
  refine q_i2l dX4_butterOf_15 ?_
  refine q_lmul dX4_butterOf_16 ?_
  refine q_ldc2 (x := (1000 : Int64)) qw_561 dX4_butterOf_17 ?_
  refine q_ldiv dX4_butterOf_20 (fun v5 h6 => ?_)
  exact q_lret dX4_butterOf_21 rfl rfl (Nat.le_of_ble_eq_true rfl) rfl
theorem dX4_agrees_0 : decode cX4_agrees 0 = .ok (.aload_n 0, 1) := by decide +kernel
theorem dX4_agrees_1 : decode cX4_agrees 1 = .ok (.getfield 9, 3) := by decide +kernel
theorem dX4_agrees_4 : decode cX4_agrees 4 = .ok (.getfield 35, 3) := by decide +kernel
theorem dX4_agrees_7 : decode cX4_agrees 7 = .ok (.iload_n 1, 1) := by decide +kernel
theorem dX4_agrees_8 : decode cX4_agrees 8 = .ok (.iconst 2, 1) := by decide +kernel
theorem dX4_agrees_9 : decode cX4_agrees 9 = .ok (.invokevirtual 31, 3) := by decide +kernel
theorem dX4_agrees_12 : decode cX4_agrees 12 = .ok (.istore_n 2, 1) := by decide +kernel
theorem dX4_agrees_13 : decode cX4_agrees 13 = .ok (.iload_n 2, 1) := by decide +kernel
theorem dX4_agrees_14 : decode cX4_agrees 14 = .ok (.iconst (-1), 1) := by decide +kernel
theorem dX4_agrees_15 : decode cX4_agrees 15 = .ok (.if_icmp .ne 5, 3) := by decide +kernel
theorem dX4_agrees_18 : decode cX4_agrees 18 = .ok (.iconst (-1), 1) := by decide +kernel
theorem dX4_agrees_19 : decode cX4_agrees 19 = .ok (.ireturn, 1) := by decide +kernel
theorem dX4_agrees_20 : decode cX4_agrees 20 = .ok (.aload_n 0, 1) := by decide +kernel
theorem dX4_agrees_21 : decode cX4_agrees 21 = .ok (.iload_n 1, 1) := by decide +kernel
theorem dX4_agrees_22 : decode cX4_agrees 22 = .ok (.invokevirtual 62, 3) := by decide +kernel
theorem dX4_agrees_25 : decode cX4_agrees 25 = .ok (.lstore_n 3, 1) := by decide +kernel
theorem dX4_agrees_26 : decode cX4_agrees 26 = .ok (.iload_n 2, 1) := by decide +kernel
theorem dX4_agrees_27 : decode cX4_agrees 27 = .ok (.i2l, 1) := by decide +kernel
theorem dX4_agrees_28 : decode cX4_agrees 28 = .ok (.lload_n 3, 1) := by decide +kernel
theorem dX4_agrees_29 : decode cX4_agrees 29 = .ok (.lsub, 1) := by decide +kernel
theorem dX4_agrees_30 : decode cX4_agrees 30 = .ok (.invokestatic 65, 3) := by decide +kernel
theorem dX4_agrees_33 : decode cX4_agrees 33 = .ok (.ldc2_w 68, 3) := by decide +kernel
theorem dX4_agrees_36 : decode cX4_agrees 36 = .ok (.lload_n 3, 1) := by decide +kernel
theorem dX4_agrees_37 : decode cX4_agrees 37 = .ok (.lmul, 1) := by decide +kernel
theorem dX4_agrees_38 : decode cX4_agrees 38 = .ok (.ldc2_w 60, 3) := by decide +kernel
theorem dX4_agrees_41 : decode cX4_agrees 41 = .ok (.ldiv, 1) := by decide +kernel
theorem dX4_agrees_42 : decode cX4_agrees 42 = .ok (.lcmp, 1) := by decide +kernel
theorem dX4_agrees_43 : decode cX4_agrees 43 = .ok (.ifCond .gt 7, 3) := by decide +kernel
theorem dX4_agrees_46 : decode cX4_agrees 46 = .ok (.iconst 1, 1) := by decide +kernel
theorem dX4_agrees_47 : decode cX4_agrees 47 = .ok (.goto 4, 3) := by decide +kernel
theorem dX4_agrees_50 : decode cX4_agrees 50 = .ok (.iconst 0, 1) := by decide +kernel
theorem dX4_agrees_51 : decode cX4_agrees 51 = .ok (.invokestatic 70, 3) := by decide +kernel
theorem dX4_agrees_54 : decode cX4_agrees 54 = .ok (.ireturn, 1) := by decide +kernel
def f_X4_agrees (M : q_Mem) (a0 : Nat) (a1 : Int32) : Option Int32 :=
  q_ob 3 M a0 ((q_gR 3 0 M a0).bind fun v1 =>
  (q_gR 4 3 M v1).bind fun v3 =>
  (f_X9_at M v3 a1 (2 : Int32)).bind fun v6 =>
  (if v6 = (-1 : Int32) then
    some (-1 : Int32)
  else
    (f_X4_butterOf M a0 a1).bind fun v8 =>
    (q_ldv ((20 : Int64) * v8) (1000 : Int64)).bind fun v9 =>
    (if v9 < (q_abJ (v6.toInt64 - v8)) then
      (f_X11_asNumber M (0 : Int32)).bind fun v12 =>
      some v12
    else
      (f_X11_asNumber M (1 : Int32)).bind fun v14 =>
      some v14)))
set_option maxRecDepth 20000 in
theorem m_X4_agrees {M : q_Mem} {a0 : Nat} {a1 : Int32} {x : Int32} (h : f_X4_agrees M a0 a1 = some x) : q_C Y_X4_agrees [.ref a0, .int a1] M (some (.int x)) M := by
  refine q_met (φ := (fun x : Int32 => (some (.int x), M))) (r := f_X4_agrees M a0 a1) (by decide +kernel) (Nat.le_of_ble_eq_true rfl) ?_ h (fun _ _ => rfl)
  show q_V Y_X4_agrees none (fun x : Int32 => (some (.int x), M)) 0 0 0 [(0, .ref a0), (1, .int a1)] [] M (f_X4_agrees M a0 a1)
  unfold f_X4_agrees
  refine q_obV ?_
  refine q_aload_n 0 dX4_agrees_0 rfl ?_
  refine q_getR (f := 0) cl_X4 (by decide) qw_180 rfl dX4_agrees_1 (fun _ _ _ => rfl) (fun v1 h2 => ?_)
  refine q_getR (f := 3) cl_X5 (by decide) qw_87 rfl dX4_agrees_4 (fun _ _ _ => rfl) (fun v3 h4 => ?_)
  refine q_iload_n 1 dX4_agrees_7 rfl ?_
  refine q_iconst (x := (2 : Int32)) dX4_agrees_8 rfl ?_
  refine q_cVI (Y2 := Y_X9_at) (As := [.int a1, .int (2 : Int32)]) (b := v3) (st := []) cl_X9 mv_X9_at qw_541 dX4_agrees_9 ⟨Nat.le_of_ble_eq_true rfl, Nat.le_of_ble_eq_true rfl⟩ rfl (fun _ _ => rfl) (Nat.le_of_ble_eq_true rfl) ⟨Nat.le_of_ble_eq_true rfl, Nat.le_of_ble_eq_true rfl⟩ (fun v6 h5 => q_ob_is h5) (fun v6 h5 => m_X9_at h5) (fun v6 h5 => ?_)
  refine q_istore_n (ls' := [(2, .int v6), (0, .ref a0), (1, .int a1)]) dX4_agrees_12 (by decide) rfl ?_
  refine q_iload_n 0 dX4_agrees_13 rfl ?_
  refine q_iconst (x := (-1 : Int32)) dX4_agrees_14 rfl ?_
  refine q_icmp_ne (tgt := 20) dX4_agrees_15 (by decide) (fun c16 => ?_) (fun c16 => ?_)
  · refine q_iconst (x := (-1 : Int32)) dX4_agrees_18 rfl ?_
    exact q_iret dX4_agrees_19 rfl rfl (Nat.le_of_ble_eq_true rfl) rfl
  · refine q_aload_n 1 dX4_agrees_20 rfl ?_
    refine q_iload_n 2 dX4_agrees_21 rfl ?_
    refine q_cVJ (Y2 := Y_X4_butterOf) (As := [.int a1]) (b := a0) (st := []) cl_X4 mv_X4_butterOf qw_566 dX4_agrees_22 ⟨Nat.le_of_ble_eq_true rfl, Nat.le_of_ble_eq_true rfl⟩ rfl (fun _ _ => rfl) (Nat.le_of_ble_eq_true rfl) ⟨Nat.le_of_ble_eq_true rfl, Nat.le_of_ble_eq_true rfl⟩ (fun v8 h7 => q_ob_is h7) (fun v8 h7 => m_X4_butterOf h7) (fun v8 h7 => ?_)
    refine q_lstore_n (ls' := [(3, .long v8), (2, .int v6), (0, .ref a0), (1, .int a1)]) dX4_agrees_25 (by decide) rfl ?_
    refine q_iload_n 1 dX4_agrees_26 rfl ?_
    refine q_i2l dX4_agrees_27 ?_
    refine q_lload_n 0 dX4_agrees_28 rfl ?_
    refine q_lsub dX4_agrees_29 ?_
    refine q_mabsJ qw_567 qm_mabsJ_1 qm_2 qm_mabsJ_3 dX4_agrees_30 (Nat.le_of_ble_eq_true rfl) (Nat.le_of_ble_eq_true rfl) (Nat.le_of_ble_eq_true rfl) ⟨Nat.le_of_ble_eq_true rfl, Nat.le_of_ble_eq_true rfl⟩ ?_
    refine q_ldc2 (x := (20 : Int64)) qw_570 dX4_agrees_33 ?_
    refine q_lload_n 0 dX4_agrees_36 rfl ?_
    refine q_lmul dX4_agrees_37 ?_
    refine q_ldc2 (x := (1000 : Int64)) qw_561 dX4_agrees_38 ?_
    refine q_ldiv dX4_agrees_41 (fun v9 h10 => ?_)
    refine q_lcmp_gt (tgt := 50) dX4_agrees_42 dX4_agrees_43 (by decide) (fun c15 => ?_) (fun c15 => ?_)
    · refine q_iconst (x := (0 : Int32)) dX4_agrees_50 rfl ?_
      refine q_cNI (Y2 := Y_X11_asNumber) (As := [.int (0 : Int32)]) (st := []) ms_X11_asNumber (host := "CountyCream") (by decide +kernel) dX4_agrees_51 ⟨Nat.le_of_ble_eq_true rfl, Nat.le_of_ble_eq_true rfl⟩ rfl (fun _ _ => rfl) (Nat.le_of_ble_eq_true rfl) ⟨Nat.le_of_ble_eq_true rfl, Nat.le_of_ble_eq_true rfl⟩ (fun v12 h11 => m_X11_asNumber h11) (fun v12 h11 => ?_)
      exact q_iret dX4_agrees_54 rfl rfl (Nat.le_of_ble_eq_true rfl) rfl
    · refine q_iconst (x := (1 : Int32)) dX4_agrees_46 rfl ?_
      refine q_goto (tgt := 51) dX4_agrees_47 (by decide) ?_
      refine q_cNI (Y2 := Y_X11_asNumber) (As := [.int (1 : Int32)]) (st := []) ms_X11_asNumber (host := "CountyCream") (by decide +kernel) dX4_agrees_51 ⟨Nat.le_of_ble_eq_true rfl, Nat.le_of_ble_eq_true rfl⟩ rfl (fun _ _ => rfl) (Nat.le_of_ble_eq_true rfl) ⟨Nat.le_of_ble_eq_true rfl, Nat.le_of_ble_eq_true rfl⟩ (fun v14 h13 => m_X11_asNumber h13) (fun v14 h13 => ?_)
      exact q_iret dX4_agrees_54 rfl rfl (Nat.le_of_ble_eq_true rfl) rfl
theorem dX4_howManyBoxes_0 : decode cX4_howManyBoxes 0 = .ok (.iconst 0, 1) := by decide +kernel
theorem dX4_howManyBoxes_1 : decode cX4_howManyBoxes 1 = .ok (.istore_n 2, 1) := by decide +kernel
theorem dX4_howManyBoxes_2 : decode cX4_howManyBoxes 2 = .ok (.iconst 0, 1) := by decide +kernel
theorem dX4_howManyBoxes_3 : decode cX4_howManyBoxes 3 = .ok (.istore_n 3, 1) := by decide +kernel
theorem dX4_howManyBoxes_4 : decode cX4_howManyBoxes 4 = .ok (.iload_n 3, 1) := by decide +kernel
theorem dX4_howManyBoxes_5 : decode cX4_howManyBoxes 5 = .ok (.aload_n 0, 1) := by decide +kernel
theorem dX4_howManyBoxes_6 : decode cX4_howManyBoxes 6 = .ok (.getfield 9, 3) := by decide +kernel
theorem dX4_howManyBoxes_9 : decode cX4_howManyBoxes 9 = .ok (.getfield 74, 3) := by decide +kernel
theorem dX4_howManyBoxes_12 : decode cX4_howManyBoxes 12 = .ok (.getfield 25, 3) := by decide +kernel
theorem dX4_howManyBoxes_15 : decode cX4_howManyBoxes 15 = .ok (.if_icmp .ge 28, 3) := by decide +kernel
theorem dX4_howManyBoxes_18 : decode cX4_howManyBoxes 18 = .ok (.aload_n 0, 1) := by decide +kernel
theorem dX4_howManyBoxes_19 : decode cX4_howManyBoxes 19 = .ok (.getfield 9, 3) := by decide +kernel
theorem dX4_howManyBoxes_22 : decode cX4_howManyBoxes 22 = .ok (.getfield 74, 3) := by decide +kernel
theorem dX4_howManyBoxes_25 : decode cX4_howManyBoxes 25 = .ok (.iload_n 3, 1) := by decide +kernel
theorem dX4_howManyBoxes_26 : decode cX4_howManyBoxes 26 = .ok (.iconst 0, 1) := by decide +kernel
theorem dX4_howManyBoxes_27 : decode cX4_howManyBoxes 27 = .ok (.invokevirtual 31, 3) := by decide +kernel
theorem dX4_howManyBoxes_30 : decode cX4_howManyBoxes 30 = .ok (.iload_n 1, 1) := by decide +kernel
theorem dX4_howManyBoxes_31 : decode cX4_howManyBoxes 31 = .ok (.if_icmp .ne 6, 3) := by decide +kernel
theorem dX4_howManyBoxes_34 : decode cX4_howManyBoxes 34 = .ok (.iinc 2 1, 3) := by decide +kernel
theorem dX4_howManyBoxes_37 : decode cX4_howManyBoxes 37 = .ok (.iinc 3 1, 3) := by decide +kernel
theorem dX4_howManyBoxes_40 : decode cX4_howManyBoxes 40 = .ok (.goto (-36), 3) := by decide +kernel
theorem dX4_howManyBoxes_43 : decode cX4_howManyBoxes 43 = .ok (.iload_n 2, 1) := by decide +kernel
theorem dX4_howManyBoxes_44 : decode cX4_howManyBoxes 44 = .ok (.ireturn, 1) := by decide +kernel
def f_X4_howManyBoxes_b4 (M : q_Mem) (a0 : Nat) (a1 : Int32) : Nat → Int32 → Int32 → Option Int32
  | 0, _, _ => none
  | n + 1, a2, a3 =>
    (q_gR 3 0 M a0).bind fun v1 =>
    (q_gR 4 4 M v1).bind fun v3 =>
    (q_gI 8 3 M v3).bind fun v5 =>
    (if a3 < v5 then
      (q_gR 3 0 M a0).bind fun v7 =>
      (q_gR 4 4 M v7).bind fun v9 =>
      (f_X9_at M v9 a3 (0 : Int32)).bind fun v12 =>
      (if v12 = a1 then
        f_X4_howManyBoxes_b4 M a0 a1 n (a2 + (1 : Int32)) (a3 + (1 : Int32))
      else
        f_X4_howManyBoxes_b4 M a0 a1 n a2 (a3 + (1 : Int32)))
    else
      some a2)
def f_X4_howManyBoxes (M : q_Mem) (a0 : Nat) (a1 : Int32) : Option Int32 :=
  q_ob 3 M a0 (f_X4_howManyBoxes_b4 M a0 a1 q_fuel (0 : Int32) (0 : Int32))
set_option maxRecDepth 20000 in
theorem v_X4_howManyBoxes_b4 {M : q_Mem} {a0 : Nat} {a1 : Int32}  : ∀ (n : Nat) (a2 : Int32) (a3 : Int32), q_V Y_X4_howManyBoxes none (fun x : Int32 => (some (.int x), M)) 0 0 4 [(0, .ref a0), (1, .int a1), (2, .int a2), (3, .int a3)] [] M (f_X4_howManyBoxes_b4 M a0 a1 n a2 a3) := by
  intro n
  induction n with
  | zero => intro a2 a3; exact q_none
  | succ n ih =>
    intro a2 a3
    rw [f_X4_howManyBoxes_b4.eq_2]
    refine q_iload_n 3 dX4_howManyBoxes_4 rfl ?_
    refine q_aload_n 0 dX4_howManyBoxes_5 rfl ?_
    refine q_getR (f := 0) cl_X4 (by decide) qw_180 rfl dX4_howManyBoxes_6 (fun _ _ _ => rfl) (fun v1 h2 => ?_)
    refine q_getR (f := 4) cl_X5 (by decide) qw_92 rfl dX4_howManyBoxes_9 (fun _ _ _ => rfl) (fun v3 h4 => ?_)
    refine q_getI (f := 3) cl_X9 (by decide) qw_47 rfl dX4_howManyBoxes_12 (Or.inl rfl) (fun v5 h6 => ?_)
    refine q_icmp_ge (tgt := 43) dX4_howManyBoxes_15 (by decide) (fun c14 => ?_) (fun c14 => ?_)
    · refine q_aload_n 0 dX4_howManyBoxes_18 rfl ?_
      refine q_getR (f := 0) cl_X4 (by decide) qw_180 rfl dX4_howManyBoxes_19 (fun _ _ _ => rfl) (fun v7 h8 => ?_)
      refine q_getR (f := 4) cl_X5 (by decide) qw_92 rfl dX4_howManyBoxes_22 (fun _ _ _ => rfl) (fun v9 h10 => ?_)
      refine q_iload_n 3 dX4_howManyBoxes_25 rfl ?_
      refine q_iconst (x := (0 : Int32)) dX4_howManyBoxes_26 rfl ?_
      refine q_cVI (Y2 := Y_X9_at) (As := [.int a3, .int (0 : Int32)]) (b := v9) (st := []) cl_X9 mv_X9_at qw_541 dX4_howManyBoxes_27 ⟨Nat.le_of_ble_eq_true rfl, Nat.le_of_ble_eq_true rfl⟩ rfl (fun _ _ => rfl) (Nat.le_of_ble_eq_true rfl) ⟨Nat.le_of_ble_eq_true rfl, Nat.le_of_ble_eq_true rfl⟩ (fun v12 h11 => q_ob_is h11) (fun v12 h11 => m_X9_at h11) (fun v12 h11 => ?_)
      refine q_iload_n 1 dX4_howManyBoxes_30 rfl ?_
      refine q_icmp_ne (tgt := 37) dX4_howManyBoxes_31 (by decide) (fun c13 => ?_) (fun c13 => ?_)
      · refine q_iinc 2 (y := (a2 + (1 : Int32))) (ls' := [(2, .int (a2 + (1 : Int32))), (0, .ref a0), (1, .int a1), (3, .int a3)]) dX4_howManyBoxes_34 rfl rfl (by decide) rfl ?_
        refine q_iinc 3 (y := (a3 + (1 : Int32))) (ls' := [(3, .int (a3 + (1 : Int32))), (2, .int (a2 + (1 : Int32))), (0, .ref a0), (1, .int a1)]) dX4_howManyBoxes_37 rfl rfl (by decide) rfl ?_
        refine q_goto (tgt := 4) dX4_howManyBoxes_40 (by decide) ?_
        refine q_sub (ls' := [(0, .ref a0), (1, .int a1), (2, .int (a2 + (1 : Int32))), (3, .int (a3 + (1 : Int32)))]) [2, 3, 1, 0] rfl ?_
        exact ih _ _
      · refine q_iinc 3 (y := (a3 + (1 : Int32))) (ls' := [(3, .int (a3 + (1 : Int32))), (0, .ref a0), (1, .int a1), (2, .int a2)]) dX4_howManyBoxes_37 rfl rfl (by decide) rfl ?_
        refine q_goto (tgt := 4) dX4_howManyBoxes_40 (by decide) ?_
        refine q_sub (ls' := [(0, .ref a0), (1, .int a1), (2, .int a2), (3, .int (a3 + (1 : Int32)))]) [1, 2, 3, 0] rfl ?_
        exact ih _ _
    · refine q_iload_n 2 dX4_howManyBoxes_43 rfl ?_
      exact q_iret dX4_howManyBoxes_44 rfl rfl (Nat.le_of_ble_eq_true rfl) rfl
set_option maxRecDepth 20000 in
theorem m_X4_howManyBoxes {M : q_Mem} {a0 : Nat} {a1 : Int32} {x : Int32} (h : f_X4_howManyBoxes M a0 a1 = some x) : q_C Y_X4_howManyBoxes [.ref a0, .int a1] M (some (.int x)) M := by
  refine q_met (φ := (fun x : Int32 => (some (.int x), M))) (r := f_X4_howManyBoxes M a0 a1) (by decide +kernel) (Nat.le_of_ble_eq_true rfl) ?_ h (fun _ _ => rfl)
  show q_V Y_X4_howManyBoxes none (fun x : Int32 => (some (.int x), M)) 0 0 0 [(0, .ref a0), (1, .int a1)] [] M (f_X4_howManyBoxes M a0 a1)
  unfold f_X4_howManyBoxes
  refine q_obV ?_
  refine q_iconst (x := (0 : Int32)) dX4_howManyBoxes_0 rfl ?_
  refine q_istore_n (ls' := [(2, .int (0 : Int32)), (0, .ref a0), (1, .int a1)]) dX4_howManyBoxes_1 (by decide) rfl ?_
  refine q_iconst (x := (0 : Int32)) dX4_howManyBoxes_2 rfl ?_
  refine q_istore_n (ls' := [(3, .int (0 : Int32)), (2, .int (0 : Int32)), (0, .ref a0), (1, .int a1)]) dX4_howManyBoxes_3 (by decide) rfl ?_
  refine q_sub (ls' := [(0, .ref a0), (1, .int a1), (2, .int (0 : Int32)), (3, .int (0 : Int32))]) [2, 3, 1, 0] rfl ?_
  exact v_X4_howManyBoxes_b4 _ _ _
theorem dX4_penceOf_0 : decode cX4_penceOf 0 = .ok (.aload_n 0, 1) := by decide +kernel
theorem dX4_penceOf_1 : decode cX4_penceOf 1 = .ok (.getfield 9, 3) := by decide +kernel
theorem dX4_penceOf_4 : decode cX4_penceOf 4 = .ok (.getfield 74, 3) := by decide +kernel
theorem dX4_penceOf_7 : decode cX4_penceOf 7 = .ok (.astore_n 3, 1) := by decide +kernel
theorem dX4_penceOf_8 : decode cX4_penceOf 8 = .ok (.lconst 0, 1) := by decide +kernel
theorem dX4_penceOf_9 : decode cX4_penceOf 9 = .ok (.lstore 4, 2) := by decide +kernel
theorem dX4_penceOf_11 : decode cX4_penceOf 11 = .ok (.iconst 0, 1) := by decide +kernel
theorem dX4_penceOf_12 : decode cX4_penceOf 12 = .ok (.istore 6, 2) := by decide +kernel
theorem dX4_penceOf_14 : decode cX4_penceOf 14 = .ok (.iload 6, 2) := by decide +kernel
theorem dX4_penceOf_16 : decode cX4_penceOf 16 = .ok (.aload_n 3, 1) := by decide +kernel
theorem dX4_penceOf_17 : decode cX4_penceOf 17 = .ok (.getfield 25, 3) := by decide +kernel
theorem dX4_penceOf_20 : decode cX4_penceOf 20 = .ok (.if_icmp .ge 54, 3) := by decide +kernel
theorem dX4_penceOf_23 : decode cX4_penceOf 23 = .ok (.aload_n 3, 1) := by decide +kernel
theorem dX4_penceOf_24 : decode cX4_penceOf 24 = .ok (.iload 6, 2) := by decide +kernel
theorem dX4_penceOf_26 : decode cX4_penceOf 26 = .ok (.iconst 2, 1) := by decide +kernel
theorem dX4_penceOf_27 : decode cX4_penceOf 27 = .ok (.invokevirtual 31, 3) := by decide +kernel
theorem dX4_penceOf_30 : decode cX4_penceOf 30 = .ok (.istore 7, 2) := by decide +kernel
theorem dX4_penceOf_32 : decode cX4_penceOf 32 = .ok (.aload_n 3, 1) := by decide +kernel
theorem dX4_penceOf_33 : decode cX4_penceOf 33 = .ok (.iload 6, 2) := by decide +kernel
theorem dX4_penceOf_35 : decode cX4_penceOf 35 = .ok (.iconst 0, 1) := by decide +kernel
theorem dX4_penceOf_36 : decode cX4_penceOf 36 = .ok (.invokevirtual 31, 3) := by decide +kernel
theorem dX4_penceOf_39 : decode cX4_penceOf 39 = .ok (.iload_n 1, 1) := by decide +kernel
theorem dX4_penceOf_40 : decode cX4_penceOf 40 = .ok (.if_icmp .ne 28, 3) := by decide +kernel
theorem dX4_penceOf_43 : decode cX4_penceOf 43 = .ok (.iload 7, 2) := by decide +kernel
theorem dX4_penceOf_45 : decode cX4_penceOf 45 = .ok (.iconst (-1), 1) := by decide +kernel
theorem dX4_penceOf_46 : decode cX4_penceOf 46 = .ok (.if_icmp .eq 22, 3) := by decide +kernel
theorem dX4_penceOf_49 : decode cX4_penceOf 49 = .ok (.iload 7, 2) := by decide +kernel
theorem dX4_penceOf_51 : decode cX4_penceOf 51 = .ok (.iload_n 2, 1) := by decide +kernel
theorem dX4_penceOf_52 : decode cX4_penceOf 52 = .ok (.if_icmp .gt 16, 3) := by decide +kernel
theorem dX4_penceOf_55 : decode cX4_penceOf 55 = .ok (.lload 4, 2) := by decide +kernel
theorem dX4_penceOf_57 : decode cX4_penceOf 57 = .ok (.aload_n 3, 1) := by decide +kernel
theorem dX4_penceOf_58 : decode cX4_penceOf 58 = .ok (.iload 6, 2) := by decide +kernel
theorem dX4_penceOf_60 : decode cX4_penceOf 60 = .ok (.iconst 1, 1) := by decide +kernel
theorem dX4_penceOf_61 : decode cX4_penceOf 61 = .ok (.invokevirtual 31, 3) := by decide +kernel
theorem dX4_penceOf_64 : decode cX4_penceOf 64 = .ok (.i2l, 1) := by decide +kernel
theorem dX4_penceOf_65 : decode cX4_penceOf 65 = .ok (.ladd, 1) := by decide +kernel
theorem dX4_penceOf_66 : decode cX4_penceOf 66 = .ok (.lstore 4, 2) := by decide +kernel
theorem dX4_penceOf_68 : decode cX4_penceOf 68 = .ok (.iinc 6 1, 3) := by decide +kernel
theorem dX4_penceOf_71 : decode cX4_penceOf 71 = .ok (.goto (-57), 3) := by decide +kernel
theorem dX4_penceOf_74 : decode cX4_penceOf 74 = .ok (.lload 4, 2) := by decide +kernel
theorem dX4_penceOf_76 : decode cX4_penceOf 76 = .ok (.lreturn, 1) := by decide +kernel
def f_X4_penceOf_b14 (M : q_Mem) (a1 : Int32) (a2 : Int32) (a3 : Nat) : Nat → Int64 → Int32 → Option Int64
  | 0, _, _ => none
  | n + 1, a4, a6 =>
    (q_gI 8 3 M a3).bind fun v5 =>
    (if a6 < v5 then
      (f_X9_at M a3 a6 (2 : Int32)).bind fun v8 =>
      (f_X9_at M a3 a6 (0 : Int32)).bind fun v10 =>
      (if v10 = a1 then
        (if v8 = (-1 : Int32) then
          f_X4_penceOf_b14 M a1 a2 a3 n a4 (a6 + (1 : Int32))
        else
          (if a2 < v8 then
            f_X4_penceOf_b14 M a1 a2 a3 n a4 (a6 + (1 : Int32))
          else
            (f_X9_at M a3 a6 (1 : Int32)).bind fun v12 =>
            f_X4_penceOf_b14 M a1 a2 a3 n (a4 + v12.toInt64) (a6 + (1 : Int32))))
      else
        f_X4_penceOf_b14 M a1 a2 a3 n a4 (a6 + (1 : Int32)))
    else
      some a4)
def f_X4_penceOf (M : q_Mem) (a0 : Nat) (a1 : Int32) (a2 : Int32) : Option Int64 :=
  q_ob 3 M a0 ((q_gR 3 0 M a0).bind fun v1 =>
  (q_gR 4 4 M v1).bind fun v3 =>
  f_X4_penceOf_b14 M a1 a2 v3 q_fuel (0 : Int64) (0 : Int32))
set_option maxRecDepth 20000 in
theorem v_X4_penceOf_b14 {M : q_Mem} {a1 : Int32} {a2 : Int32} {a3 : Nat}  : ∀ (n : Nat) (a4 : Int64) (a6 : Int32), q_V Y_X4_penceOf none (fun x : Int64 => (some (.long x), M)) 0 0 14 [(1, .int a1), (2, .int a2), (3, .ref a3), (4, .long a4), (6, .int a6)] [] M (f_X4_penceOf_b14 M a1 a2 a3 n a4 a6) := by
  intro n
  induction n with
  | zero => intro a4 a6; exact q_none
  | succ n ih =>
    intro a4 a6
    rw [f_X4_penceOf_b14.eq_2]
    refine q_iload 4 dX4_penceOf_14 rfl ?_
    refine q_aload_n 2 dX4_penceOf_16 rfl ?_
    refine q_getI (f := 3) cl_X9 (by decide) qw_47 rfl dX4_penceOf_17 (Or.inl rfl) (fun v5 h6 => ?_)
    refine q_icmp_ge (tgt := 74) dX4_penceOf_20 (by decide) (fun c16 => ?_) (fun c16 => ?_)
    · refine q_aload_n 2 dX4_penceOf_23 rfl ?_
      refine q_iload 4 dX4_penceOf_24 rfl ?_
      refine q_iconst (x := (2 : Int32)) dX4_penceOf_26 rfl ?_
      refine q_cVI (Y2 := Y_X9_at) (As := [.int a6, .int (2 : Int32)]) (b := a3) (st := []) cl_X9 mv_X9_at qw_541 dX4_penceOf_27 ⟨Nat.le_of_ble_eq_true rfl, Nat.le_of_ble_eq_true rfl⟩ rfl (fun _ _ => rfl) (Nat.le_of_ble_eq_true rfl) ⟨Nat.le_of_ble_eq_true rfl, Nat.le_of_ble_eq_true rfl⟩ (fun v8 h7 => q_ob_is h7) (fun v8 h7 => m_X9_at h7) (fun v8 h7 => ?_)
      refine q_istore (ls' := [(7, .int v8), (1, .int a1), (2, .int a2), (3, .ref a3), (4, .long a4), (6, .int a6)]) dX4_penceOf_30 (by decide) rfl ?_
      refine q_aload_n 3 dX4_penceOf_32 rfl ?_
      refine q_iload 5 dX4_penceOf_33 rfl ?_
      refine q_iconst (x := (0 : Int32)) dX4_penceOf_35 rfl ?_
      refine q_cVI (Y2 := Y_X9_at) (As := [.int a6, .int (0 : Int32)]) (b := a3) (st := []) cl_X9 mv_X9_at qw_541 dX4_penceOf_36 ⟨Nat.le_of_ble_eq_true rfl, Nat.le_of_ble_eq_true rfl⟩ rfl (fun _ _ => rfl) (Nat.le_of_ble_eq_true rfl) ⟨Nat.le_of_ble_eq_true rfl, Nat.le_of_ble_eq_true rfl⟩ (fun v10 h9 => q_ob_is h9) (fun v10 h9 => m_X9_at h9) (fun v10 h9 => ?_)
      refine q_iload_n 1 dX4_penceOf_39 rfl ?_
      refine q_icmp_ne (tgt := 68) dX4_penceOf_40 (by decide) (fun c15 => ?_) (fun c15 => ?_)
      · refine q_iload 0 dX4_penceOf_43 rfl ?_
        refine q_iconst (x := (-1 : Int32)) dX4_penceOf_45 rfl ?_
        refine q_icmp_eq (tgt := 68) dX4_penceOf_46 (by decide) (fun c14 => ?_) (fun c14 => ?_)
        · refine q_iinc 5 (y := (a6 + (1 : Int32))) (ls' := [(6, .int (a6 + (1 : Int32))), (7, .int v8), (1, .int a1), (2, .int a2), (3, .ref a3), (4, .long a4)]) dX4_penceOf_68 rfl rfl (by decide) rfl ?_
          refine q_goto (tgt := 14) dX4_penceOf_71 (by decide) ?_
          refine q_sub (ls' := [(1, .int a1), (2, .int a2), (3, .ref a3), (4, .long a4), (6, .int (a6 + (1 : Int32)))]) [2, 3, 4, 5, 0] rfl ?_
          exact ih _ _
        · refine q_iload 0 dX4_penceOf_49 rfl ?_
          refine q_iload_n 2 dX4_penceOf_51 rfl ?_
          refine q_icmp_gt (tgt := 68) dX4_penceOf_52 (by decide) (fun c13 => ?_) (fun c13 => ?_)
          · refine q_iinc 5 (y := (a6 + (1 : Int32))) (ls' := [(6, .int (a6 + (1 : Int32))), (7, .int v8), (1, .int a1), (2, .int a2), (3, .ref a3), (4, .long a4)]) dX4_penceOf_68 rfl rfl (by decide) rfl ?_
            refine q_goto (tgt := 14) dX4_penceOf_71 (by decide) ?_
            refine q_sub (ls' := [(1, .int a1), (2, .int a2), (3, .ref a3), (4, .long a4), (6, .int (a6 + (1 : Int32)))]) [2, 3, 4, 5, 0] rfl ?_
            exact ih _ _
          · refine q_lload 4 dX4_penceOf_55 rfl ?_
            refine q_aload_n 3 dX4_penceOf_57 rfl ?_
            refine q_iload 5 dX4_penceOf_58 rfl ?_
            refine q_iconst (x := (1 : Int32)) dX4_penceOf_60 rfl ?_
            refine q_cVI (Y2 := Y_X9_at) (As := [.int a6, .int (1 : Int32)]) (b := a3) (st := [.long a4]) cl_X9 mv_X9_at qw_541 dX4_penceOf_61 ⟨Nat.le_of_ble_eq_true rfl, Nat.le_of_ble_eq_true rfl⟩ rfl (fun _ _ => rfl) (Nat.le_of_ble_eq_true rfl) ⟨Nat.le_of_ble_eq_true rfl, Nat.le_of_ble_eq_true rfl⟩ (fun v12 h11 => q_ob_is h11) (fun v12 h11 => m_X9_at h11) (fun v12 h11 => ?_)
            refine q_i2l dX4_penceOf_64 ?_
            refine q_ladd dX4_penceOf_65 ?_
            refine q_lstore (ls' := [(4, .long (a4 + v12.toInt64)), (7, .int v8), (1, .int a1), (2, .int a2), (3, .ref a3), (6, .int a6)]) dX4_penceOf_66 (by decide) rfl ?_
            refine q_iinc 5 (y := (a6 + (1 : Int32))) (ls' := [(6, .int (a6 + (1 : Int32))), (4, .long (a4 + v12.toInt64)), (7, .int v8), (1, .int a1), (2, .int a2), (3, .ref a3)]) dX4_penceOf_68 rfl rfl (by decide) rfl ?_
            refine q_goto (tgt := 14) dX4_penceOf_71 (by decide) ?_
            refine q_sub (ls' := [(1, .int a1), (2, .int a2), (3, .ref a3), (4, .long (a4 + v12.toInt64)), (6, .int (a6 + (1 : Int32)))]) [3, 4, 5, 1, 0] rfl ?_
            exact ih _ _
      · refine q_iinc 5 (y := (a6 + (1 : Int32))) (ls' := [(6, .int (a6 + (1 : Int32))), (7, .int v8), (1, .int a1), (2, .int a2), (3, .ref a3), (4, .long a4)]) dX4_penceOf_68 rfl rfl (by decide) rfl ?_
        refine q_goto (tgt := 14) dX4_penceOf_71 (by decide) ?_
        refine q_sub (ls' := [(1, .int a1), (2, .int a2), (3, .ref a3), (4, .long a4), (6, .int (a6 + (1 : Int32)))]) [2, 3, 4, 5, 0] rfl ?_
        exact ih _ _
    · refine q_lload 3 dX4_penceOf_74 rfl ?_
      exact q_lret dX4_penceOf_76 rfl rfl (Nat.le_of_ble_eq_true rfl) rfl
set_option maxRecDepth 20000 in
theorem m_X4_penceOf {M : q_Mem} {a0 : Nat} {a1 : Int32} {a2 : Int32} {x : Int64} (h : f_X4_penceOf M a0 a1 a2 = some x) : q_C Y_X4_penceOf [.ref a0, .int a1, .int a2] M (some (.long x)) M := by
  refine q_met (φ := (fun x : Int64 => (some (.long x), M))) (r := f_X4_penceOf M a0 a1 a2) (by decide +kernel) (Nat.le_of_ble_eq_true rfl) ?_ h (fun _ _ => rfl)
  show q_V Y_X4_penceOf none (fun x : Int64 => (some (.long x), M)) 0 0 0 [(0, .ref a0), (1, .int a1), (2, .int a2)] [] M (f_X4_penceOf M a0 a1 a2)
  unfold f_X4_penceOf
  refine q_obV ?_
  refine q_aload_n 0 dX4_penceOf_0 rfl ?_
  refine q_getR (f := 0) cl_X4 (by decide) qw_180 rfl dX4_penceOf_1 (fun _ _ _ => rfl) (fun v1 h2 => ?_)
  refine q_getR (f := 4) cl_X5 (by decide) qw_92 rfl dX4_penceOf_4 (fun _ _ _ => rfl) (fun v3 h4 => ?_)
  refine q_astore_n (ls' := [(3, .ref v3), (0, .ref a0), (1, .int a1), (2, .int a2)]) dX4_penceOf_7 (by decide) rfl ?_
  refine q_lconst (x := (0 : Int64)) dX4_penceOf_8 rfl ?_
  refine q_lstore (ls' := [(4, .long (0 : Int64)), (3, .ref v3), (0, .ref a0), (1, .int a1), (2, .int a2)]) dX4_penceOf_9 (by decide) rfl ?_
  refine q_iconst (x := (0 : Int32)) dX4_penceOf_11 rfl ?_
  refine q_istore (ls' := [(6, .int (0 : Int32)), (4, .long (0 : Int64)), (3, .ref v3), (0, .ref a0), (1, .int a1), (2, .int a2)]) dX4_penceOf_12 (by decide) rfl ?_
  refine q_sub (ls' := [(1, .int a1), (2, .int a2), (3, .ref v3), (4, .long (0 : Int64)), (6, .int (0 : Int32))]) [4, 5, 2, 1, 0] rfl ?_
  exact v_X4_penceOf_b14 _ _ _
theorem dX4_leanOfGraders_0 : decode cX4_leanOfGraders 0 = .ok (.iconst 0, 1) := by decide +kernel
theorem dX4_leanOfGraders_1 : decode cX4_leanOfGraders 1 = .ok (.istore_n 1, 1) := by decide +kernel
theorem dX4_leanOfGraders_2 : decode cX4_leanOfGraders 2 = .ok (.iconst 0, 1) := by decide +kernel
theorem dX4_leanOfGraders_3 : decode cX4_leanOfGraders 3 = .ok (.istore_n 2, 1) := by decide +kernel
theorem dX4_leanOfGraders_4 : decode cX4_leanOfGraders 4 = .ok (.iconst 0, 1) := by decide +kernel
theorem dX4_leanOfGraders_5 : decode cX4_leanOfGraders 5 = .ok (.istore_n 3, 1) := by decide +kernel
theorem dX4_leanOfGraders_6 : decode cX4_leanOfGraders 6 = .ok (.iload_n 3, 1) := by decide +kernel
theorem dX4_leanOfGraders_7 : decode cX4_leanOfGraders 7 = .ok (.aload_n 0, 1) := by decide +kernel
theorem dX4_leanOfGraders_8 : decode cX4_leanOfGraders 8 = .ok (.getfield 9, 3) := by decide +kernel
theorem dX4_leanOfGraders_11 : decode cX4_leanOfGraders 11 = .ok (.getfield 74, 3) := by decide +kernel
theorem dX4_leanOfGraders_14 : decode cX4_leanOfGraders 14 = .ok (.getfield 25, 3) := by decide +kernel
theorem dX4_leanOfGraders_17 : decode cX4_leanOfGraders 17 = .ok (.if_icmp .ge 63, 3) := by decide +kernel
theorem dX4_leanOfGraders_20 : decode cX4_leanOfGraders 20 = .ok (.aload_n 0, 1) := by decide +kernel
theorem dX4_leanOfGraders_21 : decode cX4_leanOfGraders 21 = .ok (.getfield 9, 3) := by decide +kernel
theorem dX4_leanOfGraders_24 : decode cX4_leanOfGraders 24 = .ok (.getfield 74, 3) := by decide +kernel
theorem dX4_leanOfGraders_27 : decode cX4_leanOfGraders 27 = .ok (.iload_n 3, 1) := by decide +kernel
theorem dX4_leanOfGraders_28 : decode cX4_leanOfGraders 28 = .ok (.iconst 3, 1) := by decide +kernel
theorem dX4_leanOfGraders_29 : decode cX4_leanOfGraders 29 = .ok (.invokevirtual 31, 3) := by decide +kernel
theorem dX4_leanOfGraders_32 : decode cX4_leanOfGraders 32 = .ok (.istore 4, 2) := by decide +kernel
theorem dX4_leanOfGraders_34 : decode cX4_leanOfGraders 34 = .ok (.aload_n 0, 1) := by decide +kernel
theorem dX4_leanOfGraders_35 : decode cX4_leanOfGraders 35 = .ok (.getfield 9, 3) := by decide +kernel
theorem dX4_leanOfGraders_38 : decode cX4_leanOfGraders 38 = .ok (.getfield 74, 3) := by decide +kernel
theorem dX4_leanOfGraders_41 : decode cX4_leanOfGraders 41 = .ok (.iload_n 3, 1) := by decide +kernel
theorem dX4_leanOfGraders_42 : decode cX4_leanOfGraders 42 = .ok (.iconst 4, 1) := by decide +kernel
theorem dX4_leanOfGraders_43 : decode cX4_leanOfGraders 43 = .ok (.invokevirtual 31, 3) := by decide +kernel
theorem dX4_leanOfGraders_46 : decode cX4_leanOfGraders 46 = .ok (.istore 5, 2) := by decide +kernel
theorem dX4_leanOfGraders_48 : decode cX4_leanOfGraders 48 = .ok (.iload 4, 2) := by decide +kernel
theorem dX4_leanOfGraders_50 : decode cX4_leanOfGraders 50 = .ok (.iconst (-1), 1) := by decide +kernel
theorem dX4_leanOfGraders_51 : decode cX4_leanOfGraders 51 = .ok (.if_icmp .eq 23, 3) := by decide +kernel
theorem dX4_leanOfGraders_54 : decode cX4_leanOfGraders 54 = .ok (.iload 5, 2) := by decide +kernel
theorem dX4_leanOfGraders_56 : decode cX4_leanOfGraders 56 = .ok (.iconst (-1), 1) := by decide +kernel
theorem dX4_leanOfGraders_57 : decode cX4_leanOfGraders 57 = .ok (.if_icmp .ne 6, 3) := by decide +kernel
theorem dX4_leanOfGraders_60 : decode cX4_leanOfGraders 60 = .ok (.goto 14, 3) := by decide +kernel
theorem dX4_leanOfGraders_63 : decode cX4_leanOfGraders 63 = .ok (.iload_n 1, 1) := by decide +kernel
theorem dX4_leanOfGraders_64 : decode cX4_leanOfGraders 64 = .ok (.iload 4, 2) := by decide +kernel
theorem dX4_leanOfGraders_66 : decode cX4_leanOfGraders 66 = .ok (.iload 5, 2) := by decide +kernel
theorem dX4_leanOfGraders_68 : decode cX4_leanOfGraders 68 = .ok (.isub, 1) := by decide +kernel
theorem dX4_leanOfGraders_69 : decode cX4_leanOfGraders 69 = .ok (.iadd, 1) := by decide +kernel
theorem dX4_leanOfGraders_70 : decode cX4_leanOfGraders 70 = .ok (.istore_n 1, 1) := by decide +kernel
theorem dX4_leanOfGraders_71 : decode cX4_leanOfGraders 71 = .ok (.iinc 2 1, 3) := by decide +kernel
theorem dX4_leanOfGraders_74 : decode cX4_leanOfGraders 74 = .ok (.iinc 3 1, 3) := by decide +kernel
theorem dX4_leanOfGraders_77 : decode cX4_leanOfGraders 77 = .ok (.goto (-71), 3) := by decide +kernel
theorem dX4_leanOfGraders_80 : decode cX4_leanOfGraders 80 = .ok (.iload_n 2, 1) := by decide +kernel
theorem dX4_leanOfGraders_81 : decode cX4_leanOfGraders 81 = .ok (.ifCond .ne 7, 3) := by decide +kernel
theorem dX4_leanOfGraders_84 : decode cX4_leanOfGraders 84 = .ok (.iconst 0, 1) := by decide +kernel
theorem dX4_leanOfGraders_85 : decode cX4_leanOfGraders 85 = .ok (.goto 6, 3) := by decide +kernel
theorem dX4_leanOfGraders_88 : decode cX4_leanOfGraders 88 = .ok (.iload_n 1, 1) := by decide +kernel
theorem dX4_leanOfGraders_89 : decode cX4_leanOfGraders 89 = .ok (.iload_n 2, 1) := by decide +kernel
theorem dX4_leanOfGraders_90 : decode cX4_leanOfGraders 90 = .ok (.idiv, 1) := by decide +kernel
theorem dX4_leanOfGraders_91 : decode cX4_leanOfGraders 91 = .ok (.ireturn, 1) := by decide +kernel
def f_X4_leanOfGraders_b80 (M : q_Mem) (a1 : Int32) (a2 : Int32) : Option Int32 :=
  (if a2 = 0 then
    some (0 : Int32)
  else
    (q_dv a1 a2).bind fun v22 =>
    some v22)
def f_X4_leanOfGraders_b6 (M : q_Mem) (a0 : Nat) : Nat → Int32 → Int32 → Int32 → Option Int32
  | 0, _, _, _ => none
  | n + 1, a1, a2, a3 =>
    (q_gR 3 0 M a0).bind fun v1 =>
    (q_gR 4 4 M v1).bind fun v3 =>
    (q_gI 8 3 M v3).bind fun v5 =>
    (if a3 < v5 then
      (q_gR 3 0 M a0).bind fun v7 =>
      (q_gR 4 4 M v7).bind fun v9 =>
      (f_X9_at M v9 a3 (3 : Int32)).bind fun v12 =>
      (q_gR 3 0 M a0).bind fun v13 =>
      (q_gR 4 4 M v13).bind fun v15 =>
      (f_X9_at M v15 a3 (4 : Int32)).bind fun v18 =>
      (if v12 = (-1 : Int32) then
        f_X4_leanOfGraders_b6 M a0 n a1 a2 (a3 + (1 : Int32))
      else
        (if v18 = (-1 : Int32) then
          f_X4_leanOfGraders_b6 M a0 n a1 a2 (a3 + (1 : Int32))
        else
          f_X4_leanOfGraders_b6 M a0 n (a1 + (v12 - v18)) (a2 + (1 : Int32)) (a3 + (1 : Int32))))
    else
      f_X4_leanOfGraders_b80 M a1 a2)
def f_X4_leanOfGraders (M : q_Mem) (a0 : Nat) : Option Int32 :=
  q_ob 3 M a0 (f_X4_leanOfGraders_b6 M a0 q_fuel (0 : Int32) (0 : Int32) (0 : Int32))
set_option maxRecDepth 20000 in
theorem v_X4_leanOfGraders_b80 {M : q_Mem} {a1 : Int32} {a2 : Int32}  : q_V Y_X4_leanOfGraders none (fun x : Int32 => (some (.int x), M)) 0 0 80 [(1, .int a1), (2, .int a2)] [] M (f_X4_leanOfGraders_b80 M a1 a2 ) := by
  unfold f_X4_leanOfGraders_b80
  refine q_iload_n 1 dX4_leanOfGraders_80 rfl ?_
  refine q_if_ne (tgt := 88) dX4_leanOfGraders_81 (by decide) (fun c24 => ?_) (fun c24 => ?_)
  · refine q_iconst (x := (0 : Int32)) dX4_leanOfGraders_84 rfl ?_
    refine q_goto (tgt := 91) dX4_leanOfGraders_85 (by decide) ?_
    exact q_iret dX4_leanOfGraders_91 rfl rfl (Nat.le_of_ble_eq_true rfl) rfl
  · refine q_iload_n 0 dX4_leanOfGraders_88 rfl ?_
    refine q_iload_n 1 dX4_leanOfGraders_89 rfl ?_
    refine q_idiv dX4_leanOfGraders_90 (fun v22 h23 => ?_)
    exact q_iret dX4_leanOfGraders_91 rfl rfl (Nat.le_of_ble_eq_true rfl) rfl
set_option maxRecDepth 20000 in
theorem v_X4_leanOfGraders_b6 {M : q_Mem} {a0 : Nat}  : ∀ (n : Nat) (a1 : Int32) (a2 : Int32) (a3 : Int32), q_V Y_X4_leanOfGraders none (fun x : Int32 => (some (.int x), M)) 0 0 6 [(0, .ref a0), (1, .int a1), (2, .int a2), (3, .int a3)] [] M (f_X4_leanOfGraders_b6 M a0 n a1 a2 a3) := by
  intro n
  induction n with
  | zero => intro a1 a2 a3; exact q_none
  | succ n ih =>
    intro a1 a2 a3
    rw [f_X4_leanOfGraders_b6.eq_2]
    refine q_iload_n 3 dX4_leanOfGraders_6 rfl ?_
    refine q_aload_n 0 dX4_leanOfGraders_7 rfl ?_
    refine q_getR (f := 0) cl_X4 (by decide) qw_180 rfl dX4_leanOfGraders_8 (fun _ _ _ => rfl) (fun v1 h2 => ?_)
    refine q_getR (f := 4) cl_X5 (by decide) qw_92 rfl dX4_leanOfGraders_11 (fun _ _ _ => rfl) (fun v3 h4 => ?_)
    refine q_getI (f := 3) cl_X9 (by decide) qw_47 rfl dX4_leanOfGraders_14 (Or.inl rfl) (fun v5 h6 => ?_)
    refine q_icmp_ge (tgt := 80) dX4_leanOfGraders_17 (by decide) (fun c21 => ?_) (fun c21 => ?_)
    · refine q_aload_n 0 dX4_leanOfGraders_20 rfl ?_
      refine q_getR (f := 0) cl_X4 (by decide) qw_180 rfl dX4_leanOfGraders_21 (fun _ _ _ => rfl) (fun v7 h8 => ?_)
      refine q_getR (f := 4) cl_X5 (by decide) qw_92 rfl dX4_leanOfGraders_24 (fun _ _ _ => rfl) (fun v9 h10 => ?_)
      refine q_iload_n 3 dX4_leanOfGraders_27 rfl ?_
      refine q_iconst (x := (3 : Int32)) dX4_leanOfGraders_28 rfl ?_
      refine q_cVI (Y2 := Y_X9_at) (As := [.int a3, .int (3 : Int32)]) (b := v9) (st := []) cl_X9 mv_X9_at qw_541 dX4_leanOfGraders_29 ⟨Nat.le_of_ble_eq_true rfl, Nat.le_of_ble_eq_true rfl⟩ rfl (fun _ _ => rfl) (Nat.le_of_ble_eq_true rfl) ⟨Nat.le_of_ble_eq_true rfl, Nat.le_of_ble_eq_true rfl⟩ (fun v12 h11 => q_ob_is h11) (fun v12 h11 => m_X9_at h11) (fun v12 h11 => ?_)
      refine q_istore (ls' := [(4, .int v12), (0, .ref a0), (1, .int a1), (2, .int a2), (3, .int a3)]) dX4_leanOfGraders_32 (by decide) rfl ?_
      refine q_aload_n 1 dX4_leanOfGraders_34 rfl ?_
      refine q_getR (f := 0) cl_X4 (by decide) qw_180 rfl dX4_leanOfGraders_35 (fun _ _ _ => rfl) (fun v13 h14 => ?_)
      refine q_getR (f := 4) cl_X5 (by decide) qw_92 rfl dX4_leanOfGraders_38 (fun _ _ _ => rfl) (fun v15 h16 => ?_)
      refine q_iload_n 4 dX4_leanOfGraders_41 rfl ?_
      refine q_iconst (x := (4 : Int32)) dX4_leanOfGraders_42 rfl ?_
      refine q_cVI (Y2 := Y_X9_at) (As := [.int a3, .int (4 : Int32)]) (b := v15) (st := []) cl_X9 mv_X9_at qw_541 dX4_leanOfGraders_43 ⟨Nat.le_of_ble_eq_true rfl, Nat.le_of_ble_eq_true rfl⟩ rfl (fun _ _ => rfl) (Nat.le_of_ble_eq_true rfl) ⟨Nat.le_of_ble_eq_true rfl, Nat.le_of_ble_eq_true rfl⟩ (fun v18 h17 => q_ob_is h17) (fun v18 h17 => m_X9_at h17) (fun v18 h17 => ?_)
      refine q_istore (ls' := [(5, .int v18), (4, .int v12), (0, .ref a0), (1, .int a1), (2, .int a2), (3, .int a3)]) dX4_leanOfGraders_46 (by decide) rfl ?_
      refine q_iload 1 dX4_leanOfGraders_48 rfl ?_
      refine q_iconst (x := (-1 : Int32)) dX4_leanOfGraders_50 rfl ?_
      refine q_icmp_eq (tgt := 74) dX4_leanOfGraders_51 (by decide) (fun c20 => ?_) (fun c20 => ?_)
      · refine q_iinc 5 (y := (a3 + (1 : Int32))) (ls' := [(3, .int (a3 + (1 : Int32))), (5, .int v18), (4, .int v12), (0, .ref a0), (1, .int a1), (2, .int a2)]) dX4_leanOfGraders_74 rfl rfl (by decide) rfl ?_
        refine q_goto (tgt := 6) dX4_leanOfGraders_77 (by decide) ?_
        refine q_sub (ls' := [(0, .ref a0), (1, .int a1), (2, .int a2), (3, .int (a3 + (1 : Int32)))]) [3, 4, 5, 0] rfl ?_
        exact ih _ _ _
      · refine q_iload 0 dX4_leanOfGraders_54 rfl ?_
        refine q_iconst (x := (-1 : Int32)) dX4_leanOfGraders_56 rfl ?_
        refine q_icmp_ne (tgt := 63) dX4_leanOfGraders_57 (by decide) (fun c19 => ?_) (fun c19 => ?_)
        · refine q_goto (tgt := 74) dX4_leanOfGraders_60 (by decide) ?_
          refine q_iinc 5 (y := (a3 + (1 : Int32))) (ls' := [(3, .int (a3 + (1 : Int32))), (5, .int v18), (4, .int v12), (0, .ref a0), (1, .int a1), (2, .int a2)]) dX4_leanOfGraders_74 rfl rfl (by decide) rfl ?_
          refine q_goto (tgt := 6) dX4_leanOfGraders_77 (by decide) ?_
          refine q_sub (ls' := [(0, .ref a0), (1, .int a1), (2, .int a2), (3, .int (a3 + (1 : Int32)))]) [3, 4, 5, 0] rfl ?_
          exact ih _ _ _
        · refine q_iload_n 3 dX4_leanOfGraders_63 rfl ?_
          refine q_iload 1 dX4_leanOfGraders_64 rfl ?_
          refine q_iload 0 dX4_leanOfGraders_66 rfl ?_
          refine q_isub dX4_leanOfGraders_68 ?_
          refine q_iadd dX4_leanOfGraders_69 ?_
          refine q_istore_n (ls' := [(1, .int (a1 + (v12 - v18))), (5, .int v18), (4, .int v12), (0, .ref a0), (2, .int a2), (3, .int a3)]) dX4_leanOfGraders_70 (by decide) rfl ?_
          refine q_iinc 4 (y := (a2 + (1 : Int32))) (ls' := [(2, .int (a2 + (1 : Int32))), (1, .int (a1 + (v12 - v18))), (5, .int v18), (4, .int v12), (0, .ref a0), (3, .int a3)]) dX4_leanOfGraders_71 rfl rfl (by decide) rfl ?_
          refine q_iinc 5 (y := (a3 + (1 : Int32))) (ls' := [(3, .int (a3 + (1 : Int32))), (2, .int (a2 + (1 : Int32))), (1, .int (a1 + (v12 - v18))), (5, .int v18), (4, .int v12), (0, .ref a0)]) dX4_leanOfGraders_74 rfl rfl (by decide) rfl ?_
          refine q_goto (tgt := 6) dX4_leanOfGraders_77 (by decide) ?_
          refine q_sub (ls' := [(0, .ref a0), (1, .int (a1 + (v12 - v18))), (2, .int (a2 + (1 : Int32))), (3, .int (a3 + (1 : Int32)))]) [5, 2, 1, 0] rfl ?_
          exact ih _ _ _
    · refine q_sub (ls' := [(1, .int a1), (2, .int a2)]) [1, 2] rfl ?_
      exact v_X4_leanOfGraders_b80
set_option maxRecDepth 20000 in
theorem m_X4_leanOfGraders {M : q_Mem} {a0 : Nat} {x : Int32} (h : f_X4_leanOfGraders M a0 = some x) : q_C Y_X4_leanOfGraders [.ref a0] M (some (.int x)) M := by
  refine q_met (φ := (fun x : Int32 => (some (.int x), M))) (r := f_X4_leanOfGraders M a0) (by decide +kernel) (Nat.le_of_ble_eq_true rfl) ?_ h (fun _ _ => rfl)
  show q_V Y_X4_leanOfGraders none (fun x : Int32 => (some (.int x), M)) 0 0 0 [(0, .ref a0)] [] M (f_X4_leanOfGraders M a0)
  unfold f_X4_leanOfGraders
  refine q_obV ?_
  refine q_iconst (x := (0 : Int32)) dX4_leanOfGraders_0 rfl ?_
  refine q_istore_n (ls' := [(1, .int (0 : Int32)), (0, .ref a0)]) dX4_leanOfGraders_1 (by decide) rfl ?_
  refine q_iconst (x := (0 : Int32)) dX4_leanOfGraders_2 rfl ?_
  refine q_istore_n (ls' := [(2, .int (0 : Int32)), (1, .int (0 : Int32)), (0, .ref a0)]) dX4_leanOfGraders_3 (by decide) rfl ?_
  refine q_iconst (x := (0 : Int32)) dX4_leanOfGraders_4 rfl ?_
  refine q_istore_n (ls' := [(3, .int (0 : Int32)), (2, .int (0 : Int32)), (1, .int (0 : Int32)), (0, .ref a0)]) dX4_leanOfGraders_5 (by decide) rfl ?_
  refine q_sub (ls' := [(0, .ref a0), (1, .int (0 : Int32)), (2, .int (0 : Int32)), (3, .int (0 : Int32))]) [3, 2, 1, 0] rfl ?_
  exact v_X4_leanOfGraders_b6 _ _ _ _
theorem dX4_lotOf_0 : decode cX4_lotOf 0 = .ok (.aload_n 0, 1) := by decide +kernel
theorem dX4_lotOf_1 : decode cX4_lotOf 1 = .ok (.invokevirtual 77, 3) := by decide +kernel
theorem dX4_lotOf_4 : decode cX4_lotOf 4 = .ok (.istore_n 3, 1) := by decide +kernel
theorem dX4_lotOf_5 : decode cX4_lotOf 5 = .ok (.iconst 0, 1) := by decide +kernel
theorem dX4_lotOf_6 : decode cX4_lotOf 6 = .ok (.istore 4, 2) := by decide +kernel
theorem dX4_lotOf_8 : decode cX4_lotOf 8 = .ok (.iconst 0, 1) := by decide +kernel
theorem dX4_lotOf_9 : decode cX4_lotOf 9 = .ok (.istore 5, 2) := by decide +kernel
theorem dX4_lotOf_11 : decode cX4_lotOf 11 = .ok (.iconst 0, 1) := by decide +kernel
theorem dX4_lotOf_12 : decode cX4_lotOf 12 = .ok (.istore 6, 2) := by decide +kernel
theorem dX4_lotOf_14 : decode cX4_lotOf 14 = .ok (.iconst 0, 1) := by decide +kernel
theorem dX4_lotOf_15 : decode cX4_lotOf 15 = .ok (.istore 7, 2) := by decide +kernel
theorem dX4_lotOf_17 : decode cX4_lotOf 17 = .ok (.iconst 0, 1) := by decide +kernel
theorem dX4_lotOf_18 : decode cX4_lotOf 18 = .ok (.istore 8, 2) := by decide +kernel
theorem dX4_lotOf_20 : decode cX4_lotOf 20 = .ok (.iload 8, 2) := by decide +kernel
theorem dX4_lotOf_22 : decode cX4_lotOf 22 = .ok (.aload_n 0, 1) := by decide +kernel
theorem dX4_lotOf_23 : decode cX4_lotOf 23 = .ok (.getfield 9, 3) := by decide +kernel
theorem dX4_lotOf_26 : decode cX4_lotOf 26 = .ok (.getfield 74, 3) := by decide +kernel
theorem dX4_lotOf_29 : decode cX4_lotOf 29 = .ok (.getfield 25, 3) := by decide +kernel
theorem dX4_lotOf_32 : decode cX4_lotOf 32 = .ok (.if_icmp .ge 148, 3) := by decide +kernel
theorem dX4_lotOf_35 : decode cX4_lotOf 35 = .ok (.aload_n 0, 1) := by decide +kernel
theorem dX4_lotOf_36 : decode cX4_lotOf 36 = .ok (.getfield 9, 3) := by decide +kernel
theorem dX4_lotOf_39 : decode cX4_lotOf 39 = .ok (.getfield 74, 3) := by decide +kernel
theorem dX4_lotOf_42 : decode cX4_lotOf 42 = .ok (.iload 8, 2) := by decide +kernel
theorem dX4_lotOf_44 : decode cX4_lotOf 44 = .ok (.iconst 3, 1) := by decide +kernel
theorem dX4_lotOf_45 : decode cX4_lotOf 45 = .ok (.invokevirtual 31, 3) := by decide +kernel
theorem dX4_lotOf_48 : decode cX4_lotOf 48 = .ok (.istore 9, 2) := by decide +kernel
theorem dX4_lotOf_50 : decode cX4_lotOf 50 = .ok (.aload_n 0, 1) := by decide +kernel
theorem dX4_lotOf_51 : decode cX4_lotOf 51 = .ok (.getfield 9, 3) := by decide +kernel
theorem dX4_lotOf_54 : decode cX4_lotOf 54 = .ok (.getfield 74, 3) := by decide +kernel
theorem dX4_lotOf_57 : decode cX4_lotOf 57 = .ok (.iload 8, 2) := by decide +kernel
theorem dX4_lotOf_59 : decode cX4_lotOf 59 = .ok (.iconst 4, 1) := by decide +kernel
theorem dX4_lotOf_60 : decode cX4_lotOf 60 = .ok (.invokevirtual 31, 3) := by decide +kernel
theorem dX4_lotOf_63 : decode cX4_lotOf 63 = .ok (.istore 10, 2) := by decide +kernel
theorem dX4_lotOf_65 : decode cX4_lotOf 65 = .ok (.iload 9, 2) := by decide +kernel
theorem dX4_lotOf_67 : decode cX4_lotOf 67 = .ok (.iconst (-1), 1) := by decide +kernel
theorem dX4_lotOf_68 : decode cX4_lotOf 68 = .ok (.if_icmp .ne 9, 3) := by decide +kernel
theorem dX4_lotOf_71 : decode cX4_lotOf 71 = .ok (.iload 10, 2) := by decide +kernel
theorem dX4_lotOf_73 : decode cX4_lotOf 73 = .ok (.iconst (-1), 1) := by decide +kernel
theorem dX4_lotOf_74 : decode cX4_lotOf 74 = .ok (.if_icmp .eq 7, 3) := by decide +kernel
theorem dX4_lotOf_77 : decode cX4_lotOf 77 = .ok (.iconst 1, 1) := by decide +kernel
theorem dX4_lotOf_78 : decode cX4_lotOf 78 = .ok (.goto 4, 3) := by decide +kernel
theorem dX4_lotOf_81 : decode cX4_lotOf 81 = .ok (.iconst 0, 1) := by decide +kernel
theorem dX4_lotOf_82 : decode cX4_lotOf 82 = .ok (.istore 11, 2) := by decide +kernel
theorem dX4_lotOf_84 : decode cX4_lotOf 84 = .ok (.aload_n 0, 1) := by decide +kernel
theorem dX4_lotOf_85 : decode cX4_lotOf 85 = .ok (.getfield 9, 3) := by decide +kernel
theorem dX4_lotOf_88 : decode cX4_lotOf 88 = .ok (.getfield 74, 3) := by decide +kernel
theorem dX4_lotOf_91 : decode cX4_lotOf 91 = .ok (.iload 8, 2) := by decide +kernel
theorem dX4_lotOf_93 : decode cX4_lotOf 93 = .ok (.iconst 0, 1) := by decide +kernel
theorem dX4_lotOf_94 : decode cX4_lotOf 94 = .ok (.invokevirtual 31, 3) := by decide +kernel
theorem dX4_lotOf_97 : decode cX4_lotOf 97 = .ok (.iload_n 1, 1) := by decide +kernel
theorem dX4_lotOf_98 : decode cX4_lotOf 98 = .ok (.if_icmp .ne 76, 3) := by decide +kernel
theorem dX4_lotOf_101 : decode cX4_lotOf 101 = .ok (.iload 11, 2) := by decide +kernel
theorem dX4_lotOf_103 : decode cX4_lotOf 103 = .ok (.ifCond .ne 6, 3) := by decide +kernel
theorem dX4_lotOf_106 : decode cX4_lotOf 106 = .ok (.goto 68, 3) := by decide +kernel
theorem dX4_lotOf_109 : decode cX4_lotOf 109 = .ok (.iload 9, 2) := by decide +kernel
theorem dX4_lotOf_111 : decode cX4_lotOf 111 = .ok (.iconst (-1), 1) := by decide +kernel
theorem dX4_lotOf_112 : decode cX4_lotOf 112 = .ok (.if_icmp .eq 8, 3) := by decide +kernel
theorem dX4_lotOf_115 : decode cX4_lotOf 115 = .ok (.iload 9, 2) := by decide +kernel
theorem dX4_lotOf_117 : decode cX4_lotOf 117 = .ok (.goto 7, 3) := by decide +kernel
theorem dX4_lotOf_120 : decode cX4_lotOf 120 = .ok (.iload 10, 2) := by decide +kernel
theorem dX4_lotOf_122 : decode cX4_lotOf 122 = .ok (.iload_n 3, 1) := by decide +kernel
theorem dX4_lotOf_123 : decode cX4_lotOf 123 = .ok (.iadd, 1) := by decide +kernel
theorem dX4_lotOf_124 : decode cX4_lotOf 124 = .ok (.istore 12, 2) := by decide +kernel
theorem dX4_lotOf_126 : decode cX4_lotOf 126 = .ok (.iload 7, 2) := by decide +kernel
theorem dX4_lotOf_128 : decode cX4_lotOf 128 = .ok (.ifCond .ne 8, 3) := by decide +kernel
theorem dX4_lotOf_131 : decode cX4_lotOf 131 = .ok (.iload 12, 2) := by decide +kernel
theorem dX4_lotOf_133 : decode cX4_lotOf 133 = .ok (.goto 10, 3) := by decide +kernel
theorem dX4_lotOf_136 : decode cX4_lotOf 136 = .ok (.iload 4, 2) := by decide +kernel
theorem dX4_lotOf_138 : decode cX4_lotOf 138 = .ok (.iload 12, 2) := by decide +kernel
theorem dX4_lotOf_140 : decode cX4_lotOf 140 = .ok (.invokestatic 81, 3) := by decide +kernel
theorem dX4_lotOf_143 : decode cX4_lotOf 143 = .ok (.istore 4, 2) := by decide +kernel
theorem dX4_lotOf_145 : decode cX4_lotOf 145 = .ok (.iload 7, 2) := by decide +kernel
theorem dX4_lotOf_147 : decode cX4_lotOf 147 = .ok (.ifCond .ne 8, 3) := by decide +kernel
theorem dX4_lotOf_150 : decode cX4_lotOf 150 = .ok (.iload 12, 2) := by decide +kernel
theorem dX4_lotOf_152 : decode cX4_lotOf 152 = .ok (.goto 10, 3) := by decide +kernel
theorem dX4_lotOf_155 : decode cX4_lotOf 155 = .ok (.iload 5, 2) := by decide +kernel
theorem dX4_lotOf_157 : decode cX4_lotOf 157 = .ok (.iload 12, 2) := by decide +kernel
theorem dX4_lotOf_159 : decode cX4_lotOf 159 = .ok (.invokestatic 38, 3) := by decide +kernel
theorem dX4_lotOf_162 : decode cX4_lotOf 162 = .ok (.istore 5, 2) := by decide +kernel
theorem dX4_lotOf_164 : decode cX4_lotOf 164 = .ok (.iload 6, 2) := by decide +kernel
theorem dX4_lotOf_166 : decode cX4_lotOf 166 = .ok (.iload 12, 2) := by decide +kernel
theorem dX4_lotOf_168 : decode cX4_lotOf 168 = .ok (.iadd, 1) := by decide +kernel
theorem dX4_lotOf_169 : decode cX4_lotOf 169 = .ok (.istore 6, 2) := by decide +kernel
theorem dX4_lotOf_171 : decode cX4_lotOf 171 = .ok (.iinc 7 1, 3) := by decide +kernel
theorem dX4_lotOf_174 : decode cX4_lotOf 174 = .ok (.iinc 8 1, 3) := by decide +kernel
theorem dX4_lotOf_177 : decode cX4_lotOf 177 = .ok (.goto (-157), 3) := by decide +kernel
theorem dX4_lotOf_180 : decode cX4_lotOf 180 = .ok (.iload_n 2, 1) := by decide +kernel
theorem dX4_lotOf_181 : decode cX4_lotOf 181 = .ok (.iconst 3, 1) := by decide +kernel
theorem dX4_lotOf_182 : decode cX4_lotOf 182 = .ok (.if_icmp .ne 6, 3) := by decide +kernel
theorem dX4_lotOf_185 : decode cX4_lotOf 185 = .ok (.iload 7, 2) := by decide +kernel
theorem dX4_lotOf_187 : decode cX4_lotOf 187 = .ok (.ireturn, 1) := by decide +kernel
theorem dX4_lotOf_188 : decode cX4_lotOf 188 = .ok (.iload 7, 2) := by decide +kernel
theorem dX4_lotOf_190 : decode cX4_lotOf 190 = .ok (.ifCond .ne 7, 3) := by decide +kernel
theorem dX4_lotOf_193 : decode cX4_lotOf 193 = .ok (.sipush (-2000), 3) := by decide +kernel
theorem dX4_lotOf_196 : decode cX4_lotOf 196 = .ok (.ireturn, 1) := by decide +kernel
theorem dX4_lotOf_197 : decode cX4_lotOf 197 = .ok (.iload_n 2, 1) := by decide +kernel
theorem dX4_lotOf_198 : decode cX4_lotOf 198 = .ok (.iconst 2, 1) := by decide +kernel
theorem dX4_lotOf_199 : decode cX4_lotOf 199 = .ok (.if_icmp .ne 9, 3) := by decide +kernel
theorem dX4_lotOf_202 : decode cX4_lotOf 202 = .ok (.iload 6, 2) := by decide +kernel
theorem dX4_lotOf_204 : decode cX4_lotOf 204 = .ok (.iload 7, 2) := by decide +kernel
theorem dX4_lotOf_206 : decode cX4_lotOf 206 = .ok (.idiv, 1) := by decide +kernel
theorem dX4_lotOf_207 : decode cX4_lotOf 207 = .ok (.ireturn, 1) := by decide +kernel
theorem dX4_lotOf_208 : decode cX4_lotOf 208 = .ok (.iload_n 2, 1) := by decide +kernel
theorem dX4_lotOf_209 : decode cX4_lotOf 209 = .ok (.ifCond .ne 8, 3) := by decide +kernel
theorem dX4_lotOf_212 : decode cX4_lotOf 212 = .ok (.iload 4, 2) := by decide +kernel
theorem dX4_lotOf_214 : decode cX4_lotOf 214 = .ok (.goto 5, 3) := by decide +kernel
theorem dX4_lotOf_217 : decode cX4_lotOf 217 = .ok (.iload 5, 2) := by decide +kernel
theorem dX4_lotOf_219 : decode cX4_lotOf 219 = .ok (.ireturn, 1) := by decide +kernel
def f_X4_lotOf_b180 (M : q_Mem) (a2 : Int32) (a4 : Int32) (a5 : Int32) (a6 : Int32) (a7 : Int32) : Option Int32 :=
  (if a2 = (3 : Int32) then
    some a7
  else
    (if a7 = 0 then
      some (-2000 : Int32)
    else
      (if a2 = (2 : Int32) then
        (q_dv a6 a7).bind fun v33 =>
        some v33
      else
        (if a2 = 0 then
          some a4
        else
          some a5))))
def f_X4_lotOf_b162 (kk20 : Int32 → Int32 → Int32 → Int32 → Int32 → Option Int32) (M : q_Mem) (a0 : Nat) (a1 : Int32) (a2 : Int32) (a3 : Int32) (a4 : Int32) (a6 : Int32) (a7 : Int32) (a8 : Int32) (a12 : Int32) (s0 : Int32) : Option Int32 :=
  kk20 a4 s0 (a6 + a12) (a7 + (1 : Int32)) (a8 + (1 : Int32))
def f_X4_lotOf_b143 (kk20 : Int32 → Int32 → Int32 → Int32 → Int32 → Option Int32) (M : q_Mem) (a0 : Nat) (a1 : Int32) (a2 : Int32) (a3 : Int32) (a5 : Int32) (a6 : Int32) (a7 : Int32) (a8 : Int32) (a12 : Int32) (s0 : Int32) : Option Int32 :=
  (if a7 = 0 then
    f_X4_lotOf_b162 kk20 M a0 a1 a2 a3 s0 a6 a7 a8 a12 a12
  else
    f_X4_lotOf_b162 kk20 M a0 a1 a2 a3 s0 a6 a7 a8 a12 (q_mx a5 a12))
def f_X4_lotOf_b124 (kk20 : Int32 → Int32 → Int32 → Int32 → Int32 → Option Int32) (M : q_Mem) (a0 : Nat) (a1 : Int32) (a2 : Int32) (a3 : Int32) (a4 : Int32) (a5 : Int32) (a6 : Int32) (a7 : Int32) (a8 : Int32) (s0 : Int32) : Option Int32 :=
  (if a7 = 0 then
    f_X4_lotOf_b143 kk20 M a0 a1 a2 a3 a5 a6 a7 a8 s0 s0
  else
    f_X4_lotOf_b143 kk20 M a0 a1 a2 a3 a5 a6 a7 a8 s0 (q_mi a4 s0))
def f_X4_lotOf_b82 (kk20 : Int32 → Int32 → Int32 → Int32 → Int32 → Option Int32) (M : q_Mem) (a0 : Nat) (a1 : Int32) (a2 : Int32) (a3 : Int32) (a4 : Int32) (a5 : Int32) (a6 : Int32) (a7 : Int32) (a8 : Int32) (a9 : Int32) (a10 : Int32) (s0 : Int32) : Option Int32 :=
  (q_gR 3 0 M a0).bind fun v24 =>
  (q_gR 4 4 M v24).bind fun v26 =>
  (f_X9_at M v26 a8 (0 : Int32)).bind fun v29 =>
  (if v29 = a1 then
    (if s0 = 0 then
      kk20 a4 a5 a6 a7 (a8 + (1 : Int32))
    else
      (if a9 = (-1 : Int32) then
        f_X4_lotOf_b124 kk20 M a0 a1 a2 a3 a4 a5 a6 a7 a8 (a10 + a3)
      else
        f_X4_lotOf_b124 kk20 M a0 a1 a2 a3 a4 a5 a6 a7 a8 a9))
  else
    kk20 a4 a5 a6 a7 (a8 + (1 : Int32)))
def f_X4_lotOf_b20 (M : q_Mem) (a0 : Nat) (a1 : Int32) (a2 : Int32) (a3 : Int32) : Nat → Int32 → Int32 → Int32 → Int32 → Int32 → Option Int32
  | 0, _, _, _, _, _ => none
  | n + 1, a4, a5, a6, a7, a8 =>
    (q_gR 3 0 M a0).bind fun v3 =>
    (q_gR 4 4 M v3).bind fun v5 =>
    (q_gI 8 3 M v5).bind fun v7 =>
    (if a8 < v7 then
      (q_gR 3 0 M a0).bind fun v9 =>
      (q_gR 4 4 M v9).bind fun v11 =>
      (f_X9_at M v11 a8 (3 : Int32)).bind fun v14 =>
      (q_gR 3 0 M a0).bind fun v15 =>
      (q_gR 4 4 M v15).bind fun v17 =>
      (f_X9_at M v17 a8 (4 : Int32)).bind fun v20 =>
      (if v14 = (-1 : Int32) then
        (if v20 = (-1 : Int32) then
          f_X4_lotOf_b82 (f_X4_lotOf_b20 M a0 a1 a2 a3 n) M a0 a1 a2 a3 a4 a5 a6 a7 a8 v14 v20 (0 : Int32)
        else
          f_X4_lotOf_b82 (f_X4_lotOf_b20 M a0 a1 a2 a3 n) M a0 a1 a2 a3 a4 a5 a6 a7 a8 v14 v20 (1 : Int32))
      else
        f_X4_lotOf_b82 (f_X4_lotOf_b20 M a0 a1 a2 a3 n) M a0 a1 a2 a3 a4 a5 a6 a7 a8 v14 v20 (1 : Int32))
    else
      f_X4_lotOf_b180 M a2 a4 a5 a6 a7)
def f_X4_lotOf (M : q_Mem) (a0 : Nat) (a1 : Int32) (a2 : Int32) : Option Int32 :=
  q_ob 3 M a0 ((f_X4_leanOfGraders M a0).bind fun v2 =>
  f_X4_lotOf_b20 M a0 a1 a2 v2 q_fuel (0 : Int32) (0 : Int32) (0 : Int32) (0 : Int32) (0 : Int32))
set_option maxRecDepth 20000 in
theorem v_X4_lotOf_b180 {M : q_Mem} {a2 : Int32} {a4 : Int32} {a5 : Int32} {a6 : Int32} {a7 : Int32}  : q_V Y_X4_lotOf none (fun x : Int32 => (some (.int x), M)) 0 0 180 [(2, .int a2), (4, .int a4), (5, .int a5), (6, .int a6), (7, .int a7)] [] M (f_X4_lotOf_b180 M a2 a4 a5 a6 a7 ) := by
  unfold f_X4_lotOf_b180
  refine q_iload_n 0 dX4_lotOf_180 rfl ?_
  refine q_iconst (x := (3 : Int32)) dX4_lotOf_181 rfl ?_
  refine q_icmp_ne (tgt := 188) dX4_lotOf_182 (by decide) (fun c38 => ?_) (fun c38 => ?_)
  · refine q_iload 4 dX4_lotOf_185 rfl ?_
    exact q_iret dX4_lotOf_187 rfl rfl (Nat.le_of_ble_eq_true rfl) rfl
  · refine q_iload 4 dX4_lotOf_188 rfl ?_
    refine q_if_ne (tgt := 197) dX4_lotOf_190 (by decide) (fun c37 => ?_) (fun c37 => ?_)
    · refine q_sipush (x := (-2000 : Int32)) dX4_lotOf_193 rfl ?_
      exact q_iret dX4_lotOf_196 rfl rfl (Nat.le_of_ble_eq_true rfl) rfl
    · refine q_iload_n 0 dX4_lotOf_197 rfl ?_
      refine q_iconst (x := (2 : Int32)) dX4_lotOf_198 rfl ?_
      refine q_icmp_ne (tgt := 208) dX4_lotOf_199 (by decide) (fun c36 => ?_) (fun c36 => ?_)
      · refine q_iload 3 dX4_lotOf_202 rfl ?_
        refine q_iload 4 dX4_lotOf_204 rfl ?_
        refine q_idiv dX4_lotOf_206 (fun v33 h34 => ?_)
        exact q_iret dX4_lotOf_207 rfl rfl (Nat.le_of_ble_eq_true rfl) rfl
      · refine q_iload_n 0 dX4_lotOf_208 rfl ?_
        refine q_if_ne (tgt := 217) dX4_lotOf_209 (by decide) (fun c35 => ?_) (fun c35 => ?_)
        · refine q_iload 1 dX4_lotOf_212 rfl ?_
          refine q_goto (tgt := 219) dX4_lotOf_214 (by decide) ?_
          exact q_iret dX4_lotOf_219 rfl rfl (Nat.le_of_ble_eq_true rfl) rfl
        · refine q_iload 2 dX4_lotOf_217 rfl ?_
          exact q_iret dX4_lotOf_219 rfl rfl (Nat.le_of_ble_eq_true rfl) rfl
set_option maxRecDepth 20000 in
theorem v_X4_lotOf_b162 {kk20 : Int32 → Int32 → Int32 → Int32 → Int32 → Option Int32} {M : q_Mem} {a0 : Nat} {a1 : Int32} {a2 : Int32} {a3 : Int32} {a4 : Int32} {a6 : Int32} {a7 : Int32} {a8 : Int32} {a12 : Int32} {s0 : Int32}  (hk20 : ∀ (a4 : Int32) (a5 : Int32) (a6 : Int32) (a7 : Int32) (a8 : Int32), q_V Y_X4_lotOf none (fun x : Int32 => (some (.int x), M)) 0 0 20 [(0, .ref a0), (1, .int a1), (2, .int a2), (3, .int a3), (4, .int a4), (5, .int a5), (6, .int a6), (7, .int a7), (8, .int a8)] [] M (kk20 a4 a5 a6 a7 a8)): q_V Y_X4_lotOf none (fun x : Int32 => (some (.int x), M)) 0 0 162 [(0, .ref a0), (1, .int a1), (2, .int a2), (3, .int a3), (4, .int a4), (6, .int a6), (7, .int a7), (8, .int a8), (12, .int a12)] [.int s0] M (f_X4_lotOf_b162 kk20 M a0 a1 a2 a3 a4 a6 a7 a8 a12 s0) := by
  unfold f_X4_lotOf_b162
  refine q_istore (ls' := [(5, .int s0), (0, .ref a0), (1, .int a1), (2, .int a2), (3, .int a3), (4, .int a4), (6, .int a6), (7, .int a7), (8, .int a8), (12, .int a12)]) dX4_lotOf_162 (by decide) rfl ?_
  refine q_iload 6 dX4_lotOf_164 rfl ?_
  refine q_iload 9 dX4_lotOf_166 rfl ?_
  refine q_iadd dX4_lotOf_168 ?_
  refine q_istore (ls' := [(6, .int (a6 + a12)), (5, .int s0), (0, .ref a0), (1, .int a1), (2, .int a2), (3, .int a3), (4, .int a4), (7, .int a7), (8, .int a8), (12, .int a12)]) dX4_lotOf_169 (by decide) rfl ?_
  refine q_iinc 7 (y := (a7 + (1 : Int32))) (ls' := [(7, .int (a7 + (1 : Int32))), (6, .int (a6 + a12)), (5, .int s0), (0, .ref a0), (1, .int a1), (2, .int a2), (3, .int a3), (4, .int a4), (8, .int a8), (12, .int a12)]) dX4_lotOf_171 rfl rfl (by decide) rfl ?_
  refine q_iinc 8 (y := (a8 + (1 : Int32))) (ls' := [(8, .int (a8 + (1 : Int32))), (7, .int (a7 + (1 : Int32))), (6, .int (a6 + a12)), (5, .int s0), (0, .ref a0), (1, .int a1), (2, .int a2), (3, .int a3), (4, .int a4), (12, .int a12)]) dX4_lotOf_174 rfl rfl (by decide) rfl ?_
  refine q_goto (tgt := 20) dX4_lotOf_177 (by decide) ?_
  refine q_sub (ls' := [(0, .ref a0), (1, .int a1), (2, .int a2), (3, .int a3), (4, .int a4), (5, .int s0), (6, .int (a6 + a12)), (7, .int (a7 + (1 : Int32))), (8, .int (a8 + (1 : Int32)))]) [4, 5, 6, 7, 8, 3, 2, 1, 0] rfl ?_
  exact hk20 _ _ _ _ _
set_option maxRecDepth 20000 in
theorem v_X4_lotOf_b143 {kk20 : Int32 → Int32 → Int32 → Int32 → Int32 → Option Int32} {M : q_Mem} {a0 : Nat} {a1 : Int32} {a2 : Int32} {a3 : Int32} {a5 : Int32} {a6 : Int32} {a7 : Int32} {a8 : Int32} {a12 : Int32} {s0 : Int32}  (hk20 : ∀ (a4 : Int32) (a5 : Int32) (a6 : Int32) (a7 : Int32) (a8 : Int32), q_V Y_X4_lotOf none (fun x : Int32 => (some (.int x), M)) 0 0 20 [(0, .ref a0), (1, .int a1), (2, .int a2), (3, .int a3), (4, .int a4), (5, .int a5), (6, .int a6), (7, .int a7), (8, .int a8)] [] M (kk20 a4 a5 a6 a7 a8)): q_V Y_X4_lotOf none (fun x : Int32 => (some (.int x), M)) 0 0 143 [(0, .ref a0), (1, .int a1), (2, .int a2), (3, .int a3), (5, .int a5), (6, .int a6), (7, .int a7), (8, .int a8), (12, .int a12)] [.int s0] M (f_X4_lotOf_b143 kk20 M a0 a1 a2 a3 a5 a6 a7 a8 a12 s0) := by
  unfold f_X4_lotOf_b143
  refine q_istore (ls' := [(4, .int s0), (0, .ref a0), (1, .int a1), (2, .int a2), (3, .int a3), (5, .int a5), (6, .int a6), (7, .int a7), (8, .int a8), (12, .int a12)]) dX4_lotOf_143 (by decide) rfl ?_
  refine q_iload 7 dX4_lotOf_145 rfl ?_
  refine q_if_ne (tgt := 155) dX4_lotOf_147 (by decide) (fun c40 => ?_) (fun c40 => ?_)
  · refine q_iload 9 dX4_lotOf_150 rfl ?_
    refine q_goto (tgt := 162) dX4_lotOf_152 (by decide) ?_
    refine q_sub (ls' := [(0, .ref a0), (1, .int a1), (2, .int a2), (3, .int a3), (4, .int s0), (6, .int a6), (7, .int a7), (8, .int a8), (12, .int a12)]) [1, 2, 3, 4, 0, 6, 7, 8, 9] rfl ?_
    exact v_X4_lotOf_b162 (hk20)
  · refine q_iload 5 dX4_lotOf_155 rfl ?_
    refine q_iload 9 dX4_lotOf_157 rfl ?_
    refine q_mmax qw_546 qm_mmax_1 qm_2 qm_mmax_3 dX4_lotOf_159 (Nat.le_of_ble_eq_true rfl) (Nat.le_of_ble_eq_true rfl) (Nat.le_of_ble_eq_true rfl) ⟨Nat.le_of_ble_eq_true rfl, Nat.le_of_ble_eq_true rfl⟩ ?_
    refine q_sub (ls' := [(0, .ref a0), (1, .int a1), (2, .int a2), (3, .int a3), (4, .int s0), (6, .int a6), (7, .int a7), (8, .int a8), (12, .int a12)]) [1, 2, 3, 4, 0, 6, 7, 8, 9] rfl ?_
    exact v_X4_lotOf_b162 (hk20)
set_option maxRecDepth 20000 in
theorem v_X4_lotOf_b124 {kk20 : Int32 → Int32 → Int32 → Int32 → Int32 → Option Int32} {M : q_Mem} {a0 : Nat} {a1 : Int32} {a2 : Int32} {a3 : Int32} {a4 : Int32} {a5 : Int32} {a6 : Int32} {a7 : Int32} {a8 : Int32} {s0 : Int32}  (hk20 : ∀ (a4 : Int32) (a5 : Int32) (a6 : Int32) (a7 : Int32) (a8 : Int32), q_V Y_X4_lotOf none (fun x : Int32 => (some (.int x), M)) 0 0 20 [(0, .ref a0), (1, .int a1), (2, .int a2), (3, .int a3), (4, .int a4), (5, .int a5), (6, .int a6), (7, .int a7), (8, .int a8)] [] M (kk20 a4 a5 a6 a7 a8)): q_V Y_X4_lotOf none (fun x : Int32 => (some (.int x), M)) 0 0 124 [(0, .ref a0), (1, .int a1), (2, .int a2), (3, .int a3), (4, .int a4), (5, .int a5), (6, .int a6), (7, .int a7), (8, .int a8)] [.int s0] M (f_X4_lotOf_b124 kk20 M a0 a1 a2 a3 a4 a5 a6 a7 a8 s0) := by
  unfold f_X4_lotOf_b124
  refine q_istore (ls' := [(12, .int s0), (0, .ref a0), (1, .int a1), (2, .int a2), (3, .int a3), (4, .int a4), (5, .int a5), (6, .int a6), (7, .int a7), (8, .int a8)]) dX4_lotOf_124 (by decide) rfl ?_
  refine q_iload 8 dX4_lotOf_126 rfl ?_
  refine q_if_ne (tgt := 136) dX4_lotOf_128 (by decide) (fun c39 => ?_) (fun c39 => ?_)
  · refine q_iload 0 dX4_lotOf_131 rfl ?_
    refine q_goto (tgt := 143) dX4_lotOf_133 (by decide) ?_
    refine q_sub (ls' := [(0, .ref a0), (1, .int a1), (2, .int a2), (3, .int a3), (5, .int a5), (6, .int a6), (7, .int a7), (8, .int a8), (12, .int s0)]) [1, 2, 3, 4, 6, 7, 8, 9, 0] rfl ?_
    exact v_X4_lotOf_b143 (hk20)
  · refine q_iload 5 dX4_lotOf_136 rfl ?_
    refine q_iload 0 dX4_lotOf_138 rfl ?_
    refine q_mmin qw_615 qm_mmin_1 qm_2 qm_mmin_3 dX4_lotOf_140 (Nat.le_of_ble_eq_true rfl) (Nat.le_of_ble_eq_true rfl) (Nat.le_of_ble_eq_true rfl) ⟨Nat.le_of_ble_eq_true rfl, Nat.le_of_ble_eq_true rfl⟩ ?_
    refine q_sub (ls' := [(0, .ref a0), (1, .int a1), (2, .int a2), (3, .int a3), (5, .int a5), (6, .int a6), (7, .int a7), (8, .int a8), (12, .int s0)]) [1, 2, 3, 4, 6, 7, 8, 9, 0] rfl ?_
    exact v_X4_lotOf_b143 (hk20)
set_option maxRecDepth 20000 in
theorem v_X4_lotOf_b82 {kk20 : Int32 → Int32 → Int32 → Int32 → Int32 → Option Int32} {M : q_Mem} {a0 : Nat} {a1 : Int32} {a2 : Int32} {a3 : Int32} {a4 : Int32} {a5 : Int32} {a6 : Int32} {a7 : Int32} {a8 : Int32} {a9 : Int32} {a10 : Int32} {s0 : Int32}  (hk20 : ∀ (a4 : Int32) (a5 : Int32) (a6 : Int32) (a7 : Int32) (a8 : Int32), q_V Y_X4_lotOf none (fun x : Int32 => (some (.int x), M)) 0 0 20 [(0, .ref a0), (1, .int a1), (2, .int a2), (3, .int a3), (4, .int a4), (5, .int a5), (6, .int a6), (7, .int a7), (8, .int a8)] [] M (kk20 a4 a5 a6 a7 a8)): q_V Y_X4_lotOf none (fun x : Int32 => (some (.int x), M)) 0 0 82 [(0, .ref a0), (1, .int a1), (2, .int a2), (3, .int a3), (4, .int a4), (5, .int a5), (6, .int a6), (7, .int a7), (8, .int a8), (9, .int a9), (10, .int a10)] [.int s0] M (f_X4_lotOf_b82 kk20 M a0 a1 a2 a3 a4 a5 a6 a7 a8 a9 a10 s0) := by
  unfold f_X4_lotOf_b82
  refine q_istore (ls' := [(11, .int s0), (0, .ref a0), (1, .int a1), (2, .int a2), (3, .int a3), (4, .int a4), (5, .int a5), (6, .int a6), (7, .int a7), (8, .int a8), (9, .int a9), (10, .int a10)]) dX4_lotOf_82 (by decide) rfl ?_
  refine q_aload_n 1 dX4_lotOf_84 rfl ?_
  refine q_getR (f := 0) cl_X4 (by decide) qw_180 rfl dX4_lotOf_85 (fun _ _ _ => rfl) (fun v24 h25 => ?_)
  refine q_getR (f := 4) cl_X5 (by decide) qw_92 rfl dX4_lotOf_88 (fun _ _ _ => rfl) (fun v26 h27 => ?_)
  refine q_iload 9 dX4_lotOf_91 rfl ?_
  refine q_iconst (x := (0 : Int32)) dX4_lotOf_93 rfl ?_
  refine q_cVI (Y2 := Y_X9_at) (As := [.int a8, .int (0 : Int32)]) (b := v26) (st := []) cl_X9 mv_X9_at qw_541 dX4_lotOf_94 ⟨Nat.le_of_ble_eq_true rfl, Nat.le_of_ble_eq_true rfl⟩ rfl (fun _ _ => rfl) (Nat.le_of_ble_eq_true rfl) ⟨Nat.le_of_ble_eq_true rfl, Nat.le_of_ble_eq_true rfl⟩ (fun v29 h28 => q_ob_is h28) (fun v29 h28 => m_X9_at h28) (fun v29 h28 => ?_)
  refine q_iload_n 2 dX4_lotOf_97 rfl ?_
  refine q_icmp_ne (tgt := 174) dX4_lotOf_98 (by decide) (fun c32 => ?_) (fun c32 => ?_)
  · refine q_iload 0 dX4_lotOf_101 rfl ?_
    refine q_if_ne (tgt := 109) dX4_lotOf_103 (by decide) (fun c31 => ?_) (fun c31 => ?_)
    · refine q_goto (tgt := 174) dX4_lotOf_106 (by decide) ?_
      refine q_iinc 9 (y := (a8 + (1 : Int32))) (ls' := [(8, .int (a8 + (1 : Int32))), (11, .int s0), (0, .ref a0), (1, .int a1), (2, .int a2), (3, .int a3), (4, .int a4), (5, .int a5), (6, .int a6), (7, .int a7), (9, .int a9), (10, .int a10)]) dX4_lotOf_174 rfl rfl (by decide) rfl ?_
      refine q_goto (tgt := 20) dX4_lotOf_177 (by decide) ?_
      refine q_sub (ls' := [(0, .ref a0), (1, .int a1), (2, .int a2), (3, .int a3), (4, .int a4), (5, .int a5), (6, .int a6), (7, .int a7), (8, .int (a8 + (1 : Int32)))]) [2, 3, 4, 5, 6, 7, 8, 9, 0] rfl ?_
      exact hk20 _ _ _ _ _
    · refine q_iload 10 dX4_lotOf_109 rfl ?_
      refine q_iconst (x := (-1 : Int32)) dX4_lotOf_111 rfl ?_
      refine q_icmp_eq (tgt := 120) dX4_lotOf_112 (by decide) (fun c30 => ?_) (fun c30 => ?_)
      · refine q_iload 11 dX4_lotOf_120 rfl ?_
        refine q_iload_n 4 dX4_lotOf_122 rfl ?_
        refine q_iadd dX4_lotOf_123 ?_
        refine q_sub (ls' := [(0, .ref a0), (1, .int a1), (2, .int a2), (3, .int a3), (4, .int a4), (5, .int a5), (6, .int a6), (7, .int a7), (8, .int a8)]) [1, 2, 3, 4, 5, 6, 7, 8, 9] rfl ?_
        exact v_X4_lotOf_b124 (hk20)
      · refine q_iload 10 dX4_lotOf_115 rfl ?_
        refine q_goto (tgt := 124) dX4_lotOf_117 (by decide) ?_
        refine q_sub (ls' := [(0, .ref a0), (1, .int a1), (2, .int a2), (3, .int a3), (4, .int a4), (5, .int a5), (6, .int a6), (7, .int a7), (8, .int a8)]) [1, 2, 3, 4, 5, 6, 7, 8, 9] rfl ?_
        exact v_X4_lotOf_b124 (hk20)
  · refine q_iinc 9 (y := (a8 + (1 : Int32))) (ls' := [(8, .int (a8 + (1 : Int32))), (11, .int s0), (0, .ref a0), (1, .int a1), (2, .int a2), (3, .int a3), (4, .int a4), (5, .int a5), (6, .int a6), (7, .int a7), (9, .int a9), (10, .int a10)]) dX4_lotOf_174 rfl rfl (by decide) rfl ?_
    refine q_goto (tgt := 20) dX4_lotOf_177 (by decide) ?_
    refine q_sub (ls' := [(0, .ref a0), (1, .int a1), (2, .int a2), (3, .int a3), (4, .int a4), (5, .int a5), (6, .int a6), (7, .int a7), (8, .int (a8 + (1 : Int32)))]) [2, 3, 4, 5, 6, 7, 8, 9, 0] rfl ?_
    exact hk20 _ _ _ _ _
set_option maxRecDepth 20000 in
theorem v_X4_lotOf_b20 {M : q_Mem} {a0 : Nat} {a1 : Int32} {a2 : Int32} {a3 : Int32}  : ∀ (n : Nat) (a4 : Int32) (a5 : Int32) (a6 : Int32) (a7 : Int32) (a8 : Int32), q_V Y_X4_lotOf none (fun x : Int32 => (some (.int x), M)) 0 0 20 [(0, .ref a0), (1, .int a1), (2, .int a2), (3, .int a3), (4, .int a4), (5, .int a5), (6, .int a6), (7, .int a7), (8, .int a8)] [] M (f_X4_lotOf_b20 M a0 a1 a2 a3 n a4 a5 a6 a7 a8) := by
  intro n
  induction n with
  | zero => intro a4 a5 a6 a7 a8; exact q_none
  | succ n ih =>
    intro a4 a5 a6 a7 a8
    rw [f_X4_lotOf_b20.eq_2]
    refine q_iload 8 dX4_lotOf_20 rfl ?_
    refine q_aload_n 0 dX4_lotOf_22 rfl ?_
    refine q_getR (f := 0) cl_X4 (by decide) qw_180 rfl dX4_lotOf_23 (fun _ _ _ => rfl) (fun v3 h4 => ?_)
    refine q_getR (f := 4) cl_X5 (by decide) qw_92 rfl dX4_lotOf_26 (fun _ _ _ => rfl) (fun v5 h6 => ?_)
    refine q_getI (f := 3) cl_X9 (by decide) qw_47 rfl dX4_lotOf_29 (Or.inl rfl) (fun v7 h8 => ?_)
    refine q_icmp_ge (tgt := 180) dX4_lotOf_32 (by decide) (fun c23 => ?_) (fun c23 => ?_)
    · refine q_aload_n 0 dX4_lotOf_35 rfl ?_
      refine q_getR (f := 0) cl_X4 (by decide) qw_180 rfl dX4_lotOf_36 (fun _ _ _ => rfl) (fun v9 h10 => ?_)
      refine q_getR (f := 4) cl_X5 (by decide) qw_92 rfl dX4_lotOf_39 (fun _ _ _ => rfl) (fun v11 h12 => ?_)
      refine q_iload 8 dX4_lotOf_42 rfl ?_
      refine q_iconst (x := (3 : Int32)) dX4_lotOf_44 rfl ?_
      refine q_cVI (Y2 := Y_X9_at) (As := [.int a8, .int (3 : Int32)]) (b := v11) (st := []) cl_X9 mv_X9_at qw_541 dX4_lotOf_45 ⟨Nat.le_of_ble_eq_true rfl, Nat.le_of_ble_eq_true rfl⟩ rfl (fun _ _ => rfl) (Nat.le_of_ble_eq_true rfl) ⟨Nat.le_of_ble_eq_true rfl, Nat.le_of_ble_eq_true rfl⟩ (fun v14 h13 => q_ob_is h13) (fun v14 h13 => m_X9_at h13) (fun v14 h13 => ?_)
      refine q_istore (ls' := [(9, .int v14), (0, .ref a0), (1, .int a1), (2, .int a2), (3, .int a3), (4, .int a4), (5, .int a5), (6, .int a6), (7, .int a7), (8, .int a8)]) dX4_lotOf_48 (by decide) rfl ?_
      refine q_aload_n 1 dX4_lotOf_50 rfl ?_
      refine q_getR (f := 0) cl_X4 (by decide) qw_180 rfl dX4_lotOf_51 (fun _ _ _ => rfl) (fun v15 h16 => ?_)
      refine q_getR (f := 4) cl_X5 (by decide) qw_92 rfl dX4_lotOf_54 (fun _ _ _ => rfl) (fun v17 h18 => ?_)
      refine q_iload 9 dX4_lotOf_57 rfl ?_
      refine q_iconst (x := (4 : Int32)) dX4_lotOf_59 rfl ?_
      refine q_cVI (Y2 := Y_X9_at) (As := [.int a8, .int (4 : Int32)]) (b := v17) (st := []) cl_X9 mv_X9_at qw_541 dX4_lotOf_60 ⟨Nat.le_of_ble_eq_true rfl, Nat.le_of_ble_eq_true rfl⟩ rfl (fun _ _ => rfl) (Nat.le_of_ble_eq_true rfl) ⟨Nat.le_of_ble_eq_true rfl, Nat.le_of_ble_eq_true rfl⟩ (fun v20 h19 => q_ob_is h19) (fun v20 h19 => m_X9_at h19) (fun v20 h19 => ?_)
      refine q_istore (ls' := [(10, .int v20), (9, .int v14), (0, .ref a0), (1, .int a1), (2, .int a2), (3, .int a3), (4, .int a4), (5, .int a5), (6, .int a6), (7, .int a7), (8, .int a8)]) dX4_lotOf_63 (by decide) rfl ?_
      refine q_iload 1 dX4_lotOf_65 rfl ?_
      refine q_iconst (x := (-1 : Int32)) dX4_lotOf_67 rfl ?_
      refine q_icmp_ne (tgt := 77) dX4_lotOf_68 (by decide) (fun c22 => ?_) (fun c22 => ?_)
      · refine q_iload 0 dX4_lotOf_71 rfl ?_
        refine q_iconst (x := (-1 : Int32)) dX4_lotOf_73 rfl ?_
        refine q_icmp_eq (tgt := 81) dX4_lotOf_74 (by decide) (fun c21 => ?_) (fun c21 => ?_)
        · refine q_iconst (x := (0 : Int32)) dX4_lotOf_81 rfl ?_
          refine q_sub (ls' := [(0, .ref a0), (1, .int a1), (2, .int a2), (3, .int a3), (4, .int a4), (5, .int a5), (6, .int a6), (7, .int a7), (8, .int a8), (9, .int v14), (10, .int v20)]) [2, 3, 4, 5, 6, 7, 8, 9, 10, 1, 0] rfl ?_
          exact v_X4_lotOf_b82 (ih)
        · refine q_iconst (x := (1 : Int32)) dX4_lotOf_77 rfl ?_
          refine q_goto (tgt := 82) dX4_lotOf_78 (by decide) ?_
          refine q_sub (ls' := [(0, .ref a0), (1, .int a1), (2, .int a2), (3, .int a3), (4, .int a4), (5, .int a5), (6, .int a6), (7, .int a7), (8, .int a8), (9, .int v14), (10, .int v20)]) [2, 3, 4, 5, 6, 7, 8, 9, 10, 1, 0] rfl ?_
          exact v_X4_lotOf_b82 (ih)
      · refine q_iconst (x := (1 : Int32)) dX4_lotOf_77 rfl ?_
        refine q_goto (tgt := 82) dX4_lotOf_78 (by decide) ?_
        refine q_sub (ls' := [(0, .ref a0), (1, .int a1), (2, .int a2), (3, .int a3), (4, .int a4), (5, .int a5), (6, .int a6), (7, .int a7), (8, .int a8), (9, .int v14), (10, .int v20)]) [2, 3, 4, 5, 6, 7, 8, 9, 10, 1, 0] rfl ?_
        exact v_X4_lotOf_b82 (ih)
    · refine q_sub (ls' := [(2, .int a2), (4, .int a4), (5, .int a5), (6, .int a6), (7, .int a7)]) [2, 4, 5, 6, 7] rfl ?_
      exact v_X4_lotOf_b180
set_option maxRecDepth 20000 in
theorem m_X4_lotOf {M : q_Mem} {a0 : Nat} {a1 : Int32} {a2 : Int32} {x : Int32} (h : f_X4_lotOf M a0 a1 a2 = some x) : q_C Y_X4_lotOf [.ref a0, .int a1, .int a2] M (some (.int x)) M := by
  refine q_met (φ := (fun x : Int32 => (some (.int x), M))) (r := f_X4_lotOf M a0 a1 a2) (by decide +kernel) (Nat.le_of_ble_eq_true rfl) ?_ h (fun _ _ => rfl)
  show q_V Y_X4_lotOf none (fun x : Int32 => (some (.int x), M)) 0 0 0 [(0, .ref a0), (1, .int a1), (2, .int a2)] [] M (f_X4_lotOf M a0 a1 a2)
  unfold f_X4_lotOf
  refine q_obV ?_
  refine q_aload_n 0 dX4_lotOf_0 rfl ?_
  refine q_cVI (Y2 := Y_X4_leanOfGraders) (As := []) (b := a0) (st := []) cl_X4 mv_X4_leanOfGraders qw_614 dX4_lotOf_1 ⟨Nat.le_of_ble_eq_true rfl, Nat.le_of_ble_eq_true rfl⟩ rfl (fun _ _ => rfl) (Nat.le_of_ble_eq_true rfl) ⟨Nat.le_of_ble_eq_true rfl, Nat.le_of_ble_eq_true rfl⟩ (fun v2 h1 => q_ob_is h1) (fun v2 h1 => m_X4_leanOfGraders h1) (fun v2 h1 => ?_)
  refine q_istore_n (ls' := [(3, .int v2), (0, .ref a0), (1, .int a1), (2, .int a2)]) dX4_lotOf_4 (by decide) rfl ?_
  refine q_iconst (x := (0 : Int32)) dX4_lotOf_5 rfl ?_
  refine q_istore (ls' := [(4, .int (0 : Int32)), (3, .int v2), (0, .ref a0), (1, .int a1), (2, .int a2)]) dX4_lotOf_6 (by decide) rfl ?_
  refine q_iconst (x := (0 : Int32)) dX4_lotOf_8 rfl ?_
  refine q_istore (ls' := [(5, .int (0 : Int32)), (4, .int (0 : Int32)), (3, .int v2), (0, .ref a0), (1, .int a1), (2, .int a2)]) dX4_lotOf_9 (by decide) rfl ?_
  refine q_iconst (x := (0 : Int32)) dX4_lotOf_11 rfl ?_
  refine q_istore (ls' := [(6, .int (0 : Int32)), (5, .int (0 : Int32)), (4, .int (0 : Int32)), (3, .int v2), (0, .ref a0), (1, .int a1), (2, .int a2)]) dX4_lotOf_12 (by decide) rfl ?_
  refine q_iconst (x := (0 : Int32)) dX4_lotOf_14 rfl ?_
  refine q_istore (ls' := [(7, .int (0 : Int32)), (6, .int (0 : Int32)), (5, .int (0 : Int32)), (4, .int (0 : Int32)), (3, .int v2), (0, .ref a0), (1, .int a1), (2, .int a2)]) dX4_lotOf_15 (by decide) rfl ?_
  refine q_iconst (x := (0 : Int32)) dX4_lotOf_17 rfl ?_
  refine q_istore (ls' := [(8, .int (0 : Int32)), (7, .int (0 : Int32)), (6, .int (0 : Int32)), (5, .int (0 : Int32)), (4, .int (0 : Int32)), (3, .int v2), (0, .ref a0), (1, .int a1), (2, .int a2)]) dX4_lotOf_18 (by decide) rfl ?_
  refine q_sub (ls' := [(0, .ref a0), (1, .int a1), (2, .int a2), (3, .int v2), (4, .int (0 : Int32)), (5, .int (0 : Int32)), (6, .int (0 : Int32)), (7, .int (0 : Int32)), (8, .int (0 : Int32))]) [6, 7, 8, 5, 4, 3, 2, 1, 0] rfl ?_
  exact v_X4_lotOf_b20 _ _ _ _ _ _
theorem dX9_init_0 : decode cX9_init 0 = .ok (.aload_n 0, 1) := by decide +kernel
theorem dX9_init_1 : decode cX9_init 1 = .ok (.invokespecial 3, 3) := by decide +kernel
theorem dX9_init_4 : decode cX9_init 4 = .ok (.aload_n 0, 1) := by decide +kernel
theorem dX9_init_5 : decode cX9_init 5 = .ok (.iload_n 1, 1) := by decide +kernel
theorem dX9_init_6 : decode cX9_init 6 = .ok (.putfield 9, 3) := by decide +kernel
theorem dX9_init_9 : decode cX9_init 9 = .ok (.aload_n 0, 1) := by decide +kernel
theorem dX9_init_10 : decode cX9_init 10 = .ok (.iload_n 2, 1) := by decide +kernel
theorem dX9_init_11 : decode cX9_init 11 = .ok (.putfield 15, 3) := by decide +kernel
theorem dX9_init_14 : decode cX9_init 14 = .ok (.aload_n 0, 1) := by decide +kernel
theorem dX9_init_15 : decode cX9_init 15 = .ok (.iconst 0, 1) := by decide +kernel
theorem dX9_init_16 : decode cX9_init 16 = .ok (.iload_n 1, 1) := by decide +kernel
theorem dX9_init_17 : decode cX9_init 17 = .ok (.iload_n 2, 1) := by decide +kernel
theorem dX9_init_18 : decode cX9_init 18 = .ok (.imul, 1) := by decide +kernel
theorem dX9_init_19 : decode cX9_init 19 = .ok (.invokestatic 18, 3) := by decide +kernel
theorem dX9_init_22 : decode cX9_init 22 = .ok (.newarray .int, 2) := by decide +kernel
theorem dX9_init_24 : decode cX9_init 24 = .ok (.putfield 24, 3) := by decide +kernel
theorem dX9_init_27 : decode cX9_init 27 = .ok (.return_, 1) := by decide +kernel
def f_X9_init (M : q_Mem) (a0 : Nat) (a1 : Int32) (a2 : Int32) : Option q_Mem :=
  q_ob 8 M a0 ((q_pI 8 0 M a0 a1).bind fun M1 =>
  (q_pI 8 1 M1 a0 a2).bind fun M3 =>
  (q_na M3 100 (q_mx (0 : Int32) (a1 * a2))).bind fun M5 =>
  (q_pR 8 2 M5 a0 M3.1).bind fun M6 =>
  some M6)
set_option maxRecDepth 20000 in
theorem m_X9_init {M : q_Mem} {a0 : Nat} {a1 : Int32} {a2 : Int32} (L : Nat) (hL : ¬ q_mx 0 (a1 * a2) < 0 ∧ (q_mx 0 (a1 * a2)).toNatClampNeg = L ∧ L * componentBytes .int ≤ 536870912) {x : q_Mem} (h : f_X9_init M a0 a1 a2 = some x) : q_C (Y_X9_init L) [.ref a0, .int a1, .int a2] M none x := by
  refine q_met (φ := (fun x : q_Mem => (none, x))) (r := f_X9_init M a0 a1 a2) (by show plainName "CountyCream$Rows" = true; decide +kernel) (Nat.le_of_ble_eq_true rfl) ?_ h (fun _ _ => rfl)
  show q_V (Y_X9_init L) none (fun x : q_Mem => (none, x)) 0 0 0 [(0, .ref a0), (1, .int a1), (2, .int a2)] [] M (f_X9_init M a0 a1 a2)
  unfold f_X9_init
  refine q_obV ?_
  refine q_aload_n 0 dX9_init_0 rfl ?_
  refine q_objInit qw_37 qo_2 qo_3 dX9_init_1 (Nat.le_of_ble_eq_true rfl) (Nat.le_of_ble_eq_true rfl) (Nat.le_of_ble_eq_true rfl) ?_
  refine q_aload_n 0 dX9_init_4 rfl ?_
  refine q_iload_n 1 dX9_init_5 rfl ?_
  refine q_putI (f := 0) cl_X9 (by decide) qw_41 rfl (Or.inr ⟨rfl, rfl, rfl⟩) dX9_init_6 rfl (fun M1 h2 => ?_)
  refine q_aload_n 0 dX9_init_9 rfl ?_
  refine q_iload_n 2 dX9_init_10 rfl ?_
  refine q_putI (f := 1) cl_X9 (by decide) qw_42 rfl (Or.inr ⟨rfl, rfl, rfl⟩) dX9_init_11 rfl (fun M3 h4 => ?_)
  refine q_aload_n 0 dX9_init_14 rfl ?_
  refine q_iconst (x := (0 : Int32)) dX9_init_15 rfl ?_
  refine q_iload_n 1 dX9_init_16 rfl ?_
  refine q_iload_n 2 dX9_init_17 rfl ?_
  refine q_imul dX9_init_18 ?_
  refine q_mmax qw_38 qm_mmax_1 qm_2 qm_mmax_3 dX9_init_19 (Nat.le_of_ble_eq_true rfl) (Nat.le_of_ble_eq_true rfl) (Nat.le_of_ble_eq_true rfl) ⟨Nat.le_of_ble_eq_true rfl, Nat.le_of_ble_eq_true rfl⟩ ?_
  refine q_newarr (at_ := .int) (ty := .int) (len := L) rfl qa_int (Or.inl ⟨rfl, rfl, rfl⟩) hL.1 hL.2.1 hL.2.2 (Nat.le_of_ble_eq_true rfl) (by show 0 + L ≤ L; omega) dX9_init_22 ?_
  refine q_putR (f := 2) cl_X9 (by decide) qw_43 rfl (Or.inr ⟨rfl, rfl, rfl⟩) dX9_init_24 (fun _ _ _ => rfl) (fun _ => rfl) (fun _ => rfl) (fun M6 h7 => ?_)
  exact q_vret dX9_init_27 rfl rfl (by show 0 + L ≤ L; omega) rfl
theorem dX5_init_0 : decode cX5_init 0 = .ok (.aload_n 0, 1) := by decide +kernel
theorem dX5_init_1 : decode cX5_init 1 = .ok (.invokespecial 3, 3) := by decide +kernel
theorem dX5_init_4 : decode cX5_init 4 = .ok (.aload_n 0, 1) := by decide +kernel
theorem dX5_init_5 : decode cX5_init 5 = .ok (.new 9, 3) := by decide +kernel
theorem dX5_init_8 : decode cX5_init 8 = .ok (.dup, 1) := by decide +kernel
theorem dX5_init_9 : decode cX5_init 9 = .ok (.bipush 20, 2) := by decide +kernel
theorem dX5_init_11 : decode cX5_init 11 = .ok (.iconst 4, 1) := by decide +kernel
theorem dX5_init_12 : decode cX5_init 12 = .ok (.invokespecial 11, 3) := by decide +kernel
theorem dX5_init_15 : decode cX5_init 15 = .ok (.putfield 14, 3) := by decide +kernel
theorem dX5_init_18 : decode cX5_init 18 = .ok (.aload_n 0, 1) := by decide +kernel
theorem dX5_init_19 : decode cX5_init 19 = .ok (.new 9, 3) := by decide +kernel
theorem dX5_init_22 : decode cX5_init 22 = .ok (.dup, 1) := by decide +kernel
theorem dX5_init_23 : decode cX5_init 23 = .ok (.sipush 300, 3) := by decide +kernel
theorem dX5_init_26 : decode cX5_init 26 = .ok (.iconst 4, 1) := by decide +kernel
theorem dX5_init_27 : decode cX5_init 27 = .ok (.invokespecial 11, 3) := by decide +kernel
theorem dX5_init_30 : decode cX5_init 30 = .ok (.putfield 20, 3) := by decide +kernel
theorem dX5_init_33 : decode cX5_init 33 = .ok (.aload_n 0, 1) := by decide +kernel
theorem dX5_init_34 : decode cX5_init 34 = .ok (.new 9, 3) := by decide +kernel
theorem dX5_init_37 : decode cX5_init 37 = .ok (.dup, 1) := by decide +kernel
theorem dX5_init_38 : decode cX5_init 38 = .ok (.sipush 200, 3) := by decide +kernel
theorem dX5_init_41 : decode cX5_init 41 = .ok (.bipush 7, 2) := by decide +kernel
theorem dX5_init_43 : decode cX5_init 43 = .ok (.invokespecial 11, 3) := by decide +kernel
theorem dX5_init_46 : decode cX5_init 46 = .ok (.putfield 23, 3) := by decide +kernel
theorem dX5_init_49 : decode cX5_init 49 = .ok (.aload_n 0, 1) := by decide +kernel
theorem dX5_init_50 : decode cX5_init 50 = .ok (.new 9, 3) := by decide +kernel
theorem dX5_init_53 : decode cX5_init 53 = .ok (.dup, 1) := by decide +kernel
theorem dX5_init_54 : decode cX5_init 54 = .ok (.bipush 40, 2) := by decide +kernel
theorem dX5_init_56 : decode cX5_init 56 = .ok (.iconst 3, 1) := by decide +kernel
theorem dX5_init_57 : decode cX5_init 57 = .ok (.invokespecial 11, 3) := by decide +kernel
theorem dX5_init_60 : decode cX5_init 60 = .ok (.putfield 26, 3) := by decide +kernel
theorem dX5_init_63 : decode cX5_init 63 = .ok (.aload_n 0, 1) := by decide +kernel
theorem dX5_init_64 : decode cX5_init 64 = .ok (.new 9, 3) := by decide +kernel
theorem dX5_init_67 : decode cX5_init 67 = .ok (.dup, 1) := by decide +kernel
theorem dX5_init_68 : decode cX5_init 68 = .ok (.bipush 100, 2) := by decide +kernel
theorem dX5_init_70 : decode cX5_init 70 = .ok (.iconst 5, 1) := by decide +kernel
theorem dX5_init_71 : decode cX5_init 71 = .ok (.invokespecial 11, 3) := by decide +kernel
theorem dX5_init_74 : decode cX5_init 74 = .ok (.putfield 29, 3) := by decide +kernel
theorem dX5_init_77 : decode cX5_init 77 = .ok (.aload_n 0, 1) := by decide +kernel
theorem dX5_init_78 : decode cX5_init 78 = .ok (.new 9, 3) := by decide +kernel
theorem dX5_init_81 : decode cX5_init 81 = .ok (.dup, 1) := by decide +kernel
theorem dX5_init_82 : decode cX5_init 82 = .ok (.bipush 6, 2) := by decide +kernel
theorem dX5_init_84 : decode cX5_init 84 = .ok (.bipush 61, 2) := by decide +kernel
theorem dX5_init_86 : decode cX5_init 86 = .ok (.invokespecial 11, 3) := by decide +kernel
theorem dX5_init_89 : decode cX5_init 89 = .ok (.putfield 32, 3) := by decide +kernel
theorem dX5_init_92 : decode cX5_init 92 = .ok (.aload_n 0, 1) := by decide +kernel
theorem dX5_init_93 : decode cX5_init 93 = .ok (.new 9, 3) := by decide +kernel
theorem dX5_init_96 : decode cX5_init 96 = .ok (.dup, 1) := by decide +kernel
theorem dX5_init_97 : decode cX5_init 97 = .ok (.bipush 10, 2) := by decide +kernel
theorem dX5_init_99 : decode cX5_init 99 = .ok (.bipush 84, 2) := by decide +kernel
theorem dX5_init_101 : decode cX5_init 101 = .ok (.invokespecial 11, 3) := by decide +kernel
theorem dX5_init_104 : decode cX5_init 104 = .ok (.putfield 35, 3) := by decide +kernel
theorem dX5_init_107 : decode cX5_init 107 = .ok (.aload_n 0, 1) := by decide +kernel
theorem dX5_init_108 : decode cX5_init 108 = .ok (.new 9, 3) := by decide +kernel
theorem dX5_init_111 : decode cX5_init 111 = .ok (.dup, 1) := by decide +kernel
theorem dX5_init_112 : decode cX5_init 112 = .ok (.bipush 10, 2) := by decide +kernel
theorem dX5_init_114 : decode cX5_init 114 = .ok (.iconst 3, 1) := by decide +kernel
theorem dX5_init_115 : decode cX5_init 115 = .ok (.invokespecial 11, 3) := by decide +kernel
theorem dX5_init_118 : decode cX5_init 118 = .ok (.putfield 40, 3) := by decide +kernel
theorem dX5_init_121 : decode cX5_init 121 = .ok (.aload_n 0, 1) := by decide +kernel
theorem dX5_init_122 : decode cX5_init 122 = .ok (.new 9, 3) := by decide +kernel
theorem dX5_init_125 : decode cX5_init 125 = .ok (.dup, 1) := by decide +kernel
theorem dX5_init_126 : decode cX5_init 126 = .ok (.bipush 40, 2) := by decide +kernel
theorem dX5_init_128 : decode cX5_init 128 = .ok (.iconst 3, 1) := by decide +kernel
theorem dX5_init_129 : decode cX5_init 129 = .ok (.invokespecial 11, 3) := by decide +kernel
theorem dX5_init_132 : decode cX5_init 132 = .ok (.putfield 43, 3) := by decide +kernel
theorem dX5_init_135 : decode cX5_init 135 = .ok (.aload_n 0, 1) := by decide +kernel
theorem dX5_init_136 : decode cX5_init 136 = .ok (.new 9, 3) := by decide +kernel
theorem dX5_init_139 : decode cX5_init 139 = .ok (.dup, 1) := by decide +kernel
theorem dX5_init_140 : decode cX5_init 140 = .ok (.bipush 6, 2) := by decide +kernel
theorem dX5_init_142 : decode cX5_init 142 = .ok (.iconst 3, 1) := by decide +kernel
theorem dX5_init_143 : decode cX5_init 143 = .ok (.invokespecial 11, 3) := by decide +kernel
theorem dX5_init_146 : decode cX5_init 146 = .ok (.putfield 46, 3) := by decide +kernel
theorem dX5_init_149 : decode cX5_init 149 = .ok (.aload_n 0, 1) := by decide +kernel
theorem dX5_init_150 : decode cX5_init 150 = .ok (.new 9, 3) := by decide +kernel
theorem dX5_init_153 : decode cX5_init 153 = .ok (.dup, 1) := by decide +kernel
theorem dX5_init_154 : decode cX5_init 154 = .ok (.bipush 6, 2) := by decide +kernel
theorem dX5_init_156 : decode cX5_init 156 = .ok (.iconst 3, 1) := by decide +kernel
theorem dX5_init_157 : decode cX5_init 157 = .ok (.invokespecial 11, 3) := by decide +kernel
theorem dX5_init_160 : decode cX5_init 160 = .ok (.putfield 49, 3) := by decide +kernel
theorem dX5_init_163 : decode cX5_init 163 = .ok (.aload_n 0, 1) := by decide +kernel
theorem dX5_init_164 : decode cX5_init 164 = .ok (.iconst 4, 1) := by decide +kernel
theorem dX5_init_165 : decode cX5_init 165 = .ok (.newarray .int, 2) := by decide +kernel
theorem dX5_init_167 : decode cX5_init 167 = .ok (.putfield 52, 3) := by decide +kernel
theorem dX5_init_170 : decode cX5_init 170 = .ok (.aload_n 0, 1) := by decide +kernel
theorem dX5_init_171 : decode cX5_init 171 = .ok (.bipush 52, 2) := by decide +kernel
theorem dX5_init_173 : decode cX5_init 173 = .ok (.newarray .int, 2) := by decide +kernel
theorem dX5_init_175 : decode cX5_init 175 = .ok (.putfield 56, 3) := by decide +kernel
theorem dX5_init_178 : decode cX5_init 178 = .ok (.aload_n 0, 1) := by decide +kernel
theorem dX5_init_179 : decode cX5_init 179 = .ok (.bipush 7, 2) := by decide +kernel
theorem dX5_init_181 : decode cX5_init 181 = .ok (.putfield 59, 3) := by decide +kernel
theorem dX5_init_184 : decode cX5_init 184 = .ok (.aload_n 0, 1) := by decide +kernel
theorem dX5_init_185 : decode cX5_init 185 = .ok (.sipush 300, 3) := by decide +kernel
theorem dX5_init_188 : decode cX5_init 188 = .ok (.putfield 63, 3) := by decide +kernel
theorem dX5_init_191 : decode cX5_init 191 = .ok (.aload_n 0, 1) := by decide +kernel
theorem dX5_init_192 : decode cX5_init 192 = .ok (.iconst 1, 1) := by decide +kernel
theorem dX5_init_193 : decode cX5_init 193 = .ok (.putfield 66, 3) := by decide +kernel
theorem dX5_init_196 : decode cX5_init 196 = .ok (.iconst 0, 1) := by decide +kernel
theorem dX5_init_197 : decode cX5_init 197 = .ok (.istore_n 1, 1) := by decide +kernel
theorem dX5_init_198 : decode cX5_init 198 = .ok (.iload_n 1, 1) := by decide +kernel
theorem dX5_init_199 : decode cX5_init 199 = .ok (.bipush 6, 2) := by decide +kernel
theorem dX5_init_201 : decode cX5_init 201 = .ok (.if_icmp .ge 20, 3) := by decide +kernel
theorem dX5_init_204 : decode cX5_init 204 = .ok (.aload_n 0, 1) := by decide +kernel
theorem dX5_init_205 : decode cX5_init 205 = .ok (.getfield 32, 3) := by decide +kernel
theorem dX5_init_208 : decode cX5_init 208 = .ok (.iconst 0, 1) := by decide +kernel
theorem dX5_init_209 : decode cX5_init 209 = .ok (.iconst (-1), 1) := by decide +kernel
theorem dX5_init_210 : decode cX5_init 210 = .ok (.iconst (-1), 1) := by decide +kernel
theorem dX5_init_211 : decode cX5_init 211 = .ok (.invokevirtual 69, 3) := by decide +kernel
theorem dX5_init_214 : decode cX5_init 214 = .ok (.pop, 1) := by decide +kernel
theorem dX5_init_215 : decode cX5_init 215 = .ok (.iinc 1 1, 3) := by decide +kernel
theorem dX5_init_218 : decode cX5_init 218 = .ok (.goto (-20), 3) := by decide +kernel
theorem dX5_init_221 : decode cX5_init 221 = .ok (.return_, 1) := by decide +kernel
def f_X5_init_b198 (a0 : Nat) : Nat → Int32 → q_Mem → Option q_Mem
  | 0, _, _ => none
  | n + 1, a1, M =>
    (if a1 < (6 : Int32) then
      (q_gR 4 5 M a0).bind fun v57 =>
      (f_X9_come M v57 (0 : Int32) (-1 : Int32) (-1 : Int32)).bind fun r60 =>
      f_X5_init_b198 a0 n (a1 + (1 : Int32)) r60.2
    else
      some M)
def f_X5_init (M : q_Mem) (a0 : Nat) : Option q_Mem :=
  q_ob 4 M a0 ((f_X9_init (q_nw M 8 0) M.1 (20 : Int32) (4 : Int32)).bind fun M2 =>
  (q_pR 4 0 M2 a0 M.1).bind fun M3 =>
  (f_X9_init (q_nw M3 8 0) M3.1 (300 : Int32) (4 : Int32)).bind fun M6 =>
  (q_pR 4 1 M6 a0 M3.1).bind fun M7 =>
  (f_X9_init (q_nw M7 8 0) M7.1 (200 : Int32) (7 : Int32)).bind fun M10 =>
  (q_pR 4 2 M10 a0 M7.1).bind fun M11 =>
  (f_X9_init (q_nw M11 8 0) M11.1 (40 : Int32) (3 : Int32)).bind fun M14 =>
  (q_pR 4 3 M14 a0 M11.1).bind fun M15 =>
  (f_X9_init (q_nw M15 8 0) M15.1 (100 : Int32) (5 : Int32)).bind fun M18 =>
  (q_pR 4 4 M18 a0 M15.1).bind fun M19 =>
  (f_X9_init (q_nw M19 8 0) M19.1 (6 : Int32) (61 : Int32)).bind fun M22 =>
  (q_pR 4 5 M22 a0 M19.1).bind fun M23 =>
  (f_X9_init (q_nw M23 8 0) M23.1 (10 : Int32) (84 : Int32)).bind fun M26 =>
  (q_pR 4 6 M26 a0 M23.1).bind fun M27 =>
  (f_X9_init (q_nw M27 8 0) M27.1 (10 : Int32) (3 : Int32)).bind fun M30 =>
  (q_pR 4 7 M30 a0 M27.1).bind fun M31 =>
  (f_X9_init (q_nw M31 8 0) M31.1 (40 : Int32) (3 : Int32)).bind fun M34 =>
  (q_pR 4 8 M34 a0 M31.1).bind fun M35 =>
  (f_X9_init (q_nw M35 8 0) M35.1 (6 : Int32) (3 : Int32)).bind fun M38 =>
  (q_pR 4 9 M38 a0 M35.1).bind fun M39 =>
  (f_X9_init (q_nw M39 8 0) M39.1 (6 : Int32) (3 : Int32)).bind fun M42 =>
  (q_pR 4 10 M42 a0 M39.1).bind fun M43 =>
  (q_na M43 100 (4 : Int32)).bind fun M45 =>
  (q_pR 4 11 M45 a0 M43.1).bind fun M46 =>
  (q_na M46 100 (52 : Int32)).bind fun M48 =>
  (q_pR 4 12 M48 a0 M46.1).bind fun M49 =>
  (q_pI 4 13 M49 a0 (7 : Int32)).bind fun M51 =>
  (q_pI 4 14 M51 a0 (300 : Int32)).bind fun M53 =>
  (q_pI 4 15 M53 a0 (1 : Int32)).bind fun M55 =>
  f_X5_init_b198 a0 q_fuel (0 : Int32) M55)
set_option maxRecDepth 20000 in
theorem v_X5_init_b198 {a0 : Nat}  : ∀ (n : Nat) (a1 : Int32) (M : q_Mem), q_V Y_X5_init none (fun x : q_Mem => (none, x)) 24 4792 198 [(0, .ref a0), (1, .int a1)] [] M (f_X5_init_b198 a0 n a1 M) := by
  intro n
  induction n with
  | zero => intro a1 M; exact q_none
  | succ n ih =>
    intro a1 M
    rw [f_X5_init_b198.eq_2]
    refine q_iload_n 1 dX5_init_198 rfl ?_
    refine q_bipush (x := (6 : Int32)) dX5_init_199 rfl ?_
    refine q_icmp_ge (tgt := 221) dX5_init_201 (by decide) (fun c61 => ?_) (fun c61 => ?_)
    · refine q_aload_n 0 dX5_init_204 rfl ?_
      refine q_getR (f := 5) cl_X5 (by decide) qw_94 rfl dX5_init_205 (fun _ _ _ => rfl) (fun v57 h58 => ?_)
      refine q_iconst (x := (0 : Int32)) dX5_init_208 rfl ?_
      refine q_iconst (x := (-1 : Int32)) dX5_init_209 rfl ?_
      refine q_iconst (x := (-1 : Int32)) dX5_init_210 rfl ?_
      refine q_cVMI (Y2 := Y_X9_come) (As := [.int (0 : Int32), .int (-1 : Int32), .int (-1 : Int32)]) (b := v57) (st := []) cl_X9 mv_X9_come qw_63 dX5_init_211 ⟨Nat.le_of_ble_eq_true rfl, Nat.le_of_ble_eq_true rfl⟩ rfl (fun _ _ => rfl) (Nat.le_of_ble_eq_true rfl) ⟨Nat.le_of_ble_eq_true rfl, Nat.le_of_ble_eq_true rfl⟩ (fun r60 h59 => q_ob_is h59) (fun r60 h59 => m_X9_come h59) (fun r60 h59 => ?_)
      refine q_pop dX5_init_214 rfl ?_
      refine q_iinc 1 (y := (a1 + (1 : Int32))) (ls' := [(1, .int (a1 + (1 : Int32))), (0, .ref a0)]) dX5_init_215 rfl rfl (by decide) rfl ?_
      refine q_goto (tgt := 198) dX5_init_218 (by decide) ?_
      refine q_sub (ls' := [(0, .ref a0), (1, .int (a1 + (1 : Int32)))]) [1, 0] rfl ?_
      exact ih _ _
    · exact q_vret dX5_init_221 rfl rfl (Nat.le_of_ble_eq_true rfl) rfl
set_option maxRecDepth 20000 in
theorem m_X5_init {M : q_Mem} {a0 : Nat} {x : q_Mem} (h : f_X5_init M a0 = some x) : q_C Y_X5_init [.ref a0] M none x := by
  refine q_met (φ := (fun x : q_Mem => (none, x))) (r := f_X5_init M a0) (by decide +kernel) (Nat.le_of_ble_eq_true rfl) ?_ h (fun _ _ => rfl)
  show q_V Y_X5_init none (fun x : q_Mem => (none, x)) 0 0 0 [(0, .ref a0)] [] M (f_X5_init M a0)
  unfold f_X5_init
  refine q_obV ?_
  refine q_aload_n 0 dX5_init_0 rfl ?_
  refine q_objInit qw_31 qo_2 qo_3 dX5_init_1 (Nat.le_of_ble_eq_true rfl) (Nat.le_of_ble_eq_true rfl) (Nat.le_of_ble_eq_true rfl) ?_
  refine q_aload_n 0 dX5_init_4 rfl ?_
  refine q_new cl_X9 qw_32 qw_33 qw_3 q_dv_X9 (Nat.le_of_ble_eq_true rfl) (Nat.le_of_ble_eq_true rfl) dX5_init_5 ?_
  refine q_dup dX5_init_8 rfl ?_
  refine q_bipush (x := (20 : Int32)) dX5_init_9 rfl ?_
  refine q_iconst (x := (4 : Int32)) dX5_init_11 rfl ?_
  refine q_cI2 (Y2 := (Y_X9_init 80)) (As := [.int (20 : Int32), .int (4 : Int32)]) (b := M.1) (st := [.ref M.1, .ref a0]) (k' := 2) (n' := 84) (mi_X9_init 80) qw_34 dX5_init_12 ⟨Nat.le_of_ble_eq_true rfl, Nat.le_of_ble_eq_true rfl⟩ rfl (fun _ _ => rfl) (Nat.le_of_ble_eq_true rfl) rfl rfl ⟨Nat.le_of_ble_eq_true rfl, Nat.le_of_ble_eq_true rfl⟩ (fun M2 h1 => m_X9_init 80 (by decide) h1) (fun M2 h1 => ?_)
  refine q_putR (f := 0) cl_X5 (by decide) qw_71 rfl (Or.inr ⟨rfl, rfl, rfl⟩) dX5_init_15 (fun _ _ _ => rfl) (fun _ => rfl) (fun _ => rfl) (fun M3 h4 => ?_)
  refine q_aload_n 0 dX5_init_18 rfl ?_
  refine q_new cl_X9 qw_32 qw_33 qw_3 q_dv_X9 (Nat.le_of_ble_eq_true rfl) (Nat.le_of_ble_eq_true rfl) dX5_init_19 ?_
  refine q_dup dX5_init_22 rfl ?_
  refine q_sipush (x := (300 : Int32)) dX5_init_23 rfl ?_
  refine q_iconst (x := (4 : Int32)) dX5_init_26 rfl ?_
  refine q_cI2 (Y2 := (Y_X9_init 1200)) (As := [.int (300 : Int32), .int (4 : Int32)]) (b := M3.1) (st := [.ref M3.1, .ref a0]) (k' := 4) (n' := 1288) (mi_X9_init 1200) qw_34 dX5_init_27 ⟨Nat.le_of_ble_eq_true rfl, Nat.le_of_ble_eq_true rfl⟩ rfl (fun _ _ => rfl) (Nat.le_of_ble_eq_true rfl) rfl rfl ⟨Nat.le_of_ble_eq_true rfl, Nat.le_of_ble_eq_true rfl⟩ (fun M6 h5 => m_X9_init 1200 (by decide) h5) (fun M6 h5 => ?_)
  refine q_putR (f := 1) cl_X5 (by decide) qw_77 rfl (Or.inr ⟨rfl, rfl, rfl⟩) dX5_init_30 (fun _ _ _ => rfl) (fun _ => rfl) (fun _ => rfl) (fun M7 h8 => ?_)
  refine q_aload_n 0 dX5_init_33 rfl ?_
  refine q_new cl_X9 qw_32 qw_33 qw_3 q_dv_X9 (Nat.le_of_ble_eq_true rfl) (Nat.le_of_ble_eq_true rfl) dX5_init_34 ?_
  refine q_dup dX5_init_37 rfl ?_
  refine q_sipush (x := (200 : Int32)) dX5_init_38 rfl ?_
  refine q_bipush (x := (7 : Int32)) dX5_init_41 rfl ?_
  refine q_cI2 (Y2 := (Y_X9_init 1400)) (As := [.int (200 : Int32), .int (7 : Int32)]) (b := M7.1) (st := [.ref M7.1, .ref a0]) (k' := 6) (n' := 2692) (mi_X9_init 1400) qw_34 dX5_init_43 ⟨Nat.le_of_ble_eq_true rfl, Nat.le_of_ble_eq_true rfl⟩ rfl (fun _ _ => rfl) (Nat.le_of_ble_eq_true rfl) rfl rfl ⟨Nat.le_of_ble_eq_true rfl, Nat.le_of_ble_eq_true rfl⟩ (fun M10 h9 => m_X9_init 1400 (by decide) h9) (fun M10 h9 => ?_)
  refine q_putR (f := 2) cl_X5 (by decide) qw_83 rfl (Or.inr ⟨rfl, rfl, rfl⟩) dX5_init_46 (fun _ _ _ => rfl) (fun _ => rfl) (fun _ => rfl) (fun M11 h12 => ?_)
  refine q_aload_n 0 dX5_init_49 rfl ?_
  refine q_new cl_X9 qw_32 qw_33 qw_3 q_dv_X9 (Nat.le_of_ble_eq_true rfl) (Nat.le_of_ble_eq_true rfl) dX5_init_50 ?_
  refine q_dup dX5_init_53 rfl ?_
  refine q_bipush (x := (40 : Int32)) dX5_init_54 rfl ?_
  refine q_iconst (x := (3 : Int32)) dX5_init_56 rfl ?_
  refine q_cI2 (Y2 := (Y_X9_init 120)) (As := [.int (40 : Int32), .int (3 : Int32)]) (b := M11.1) (st := [.ref M11.1, .ref a0]) (k' := 8) (n' := 2816) (mi_X9_init 120) qw_34 dX5_init_57 ⟨Nat.le_of_ble_eq_true rfl, Nat.le_of_ble_eq_true rfl⟩ rfl (fun _ _ => rfl) (Nat.le_of_ble_eq_true rfl) rfl rfl ⟨Nat.le_of_ble_eq_true rfl, Nat.le_of_ble_eq_true rfl⟩ (fun M14 h13 => m_X9_init 120 (by decide) h13) (fun M14 h13 => ?_)
  refine q_putR (f := 3) cl_X5 (by decide) qw_86 rfl (Or.inr ⟨rfl, rfl, rfl⟩) dX5_init_60 (fun _ _ _ => rfl) (fun _ => rfl) (fun _ => rfl) (fun M15 h16 => ?_)
  refine q_aload_n 0 dX5_init_63 rfl ?_
  refine q_new cl_X9 qw_32 qw_33 qw_3 q_dv_X9 (Nat.le_of_ble_eq_true rfl) (Nat.le_of_ble_eq_true rfl) dX5_init_64 ?_
  refine q_dup dX5_init_67 rfl ?_
  refine q_bipush (x := (100 : Int32)) dX5_init_68 rfl ?_
  refine q_iconst (x := (5 : Int32)) dX5_init_70 rfl ?_
  refine q_cI2 (Y2 := (Y_X9_init 500)) (As := [.int (100 : Int32), .int (5 : Int32)]) (b := M15.1) (st := [.ref M15.1, .ref a0]) (k' := 10) (n' := 3320) (mi_X9_init 500) qw_34 dX5_init_71 ⟨Nat.le_of_ble_eq_true rfl, Nat.le_of_ble_eq_true rfl⟩ rfl (fun _ _ => rfl) (Nat.le_of_ble_eq_true rfl) rfl rfl ⟨Nat.le_of_ble_eq_true rfl, Nat.le_of_ble_eq_true rfl⟩ (fun M18 h17 => m_X9_init 500 (by decide) h17) (fun M18 h17 => ?_)
  refine q_putR (f := 4) cl_X5 (by decide) qw_90 rfl (Or.inr ⟨rfl, rfl, rfl⟩) dX5_init_74 (fun _ _ _ => rfl) (fun _ => rfl) (fun _ => rfl) (fun M19 h20 => ?_)
  refine q_aload_n 0 dX5_init_77 rfl ?_
  refine q_new cl_X9 qw_32 qw_33 qw_3 q_dv_X9 (Nat.le_of_ble_eq_true rfl) (Nat.le_of_ble_eq_true rfl) dX5_init_78 ?_
  refine q_dup dX5_init_81 rfl ?_
  refine q_bipush (x := (6 : Int32)) dX5_init_82 rfl ?_
  refine q_bipush (x := (61 : Int32)) dX5_init_84 rfl ?_
  refine q_cI2 (Y2 := (Y_X9_init 366)) (As := [.int (6 : Int32), .int (61 : Int32)]) (b := M19.1) (st := [.ref M19.1, .ref a0]) (k' := 12) (n' := 3690) (mi_X9_init 366) qw_34 dX5_init_86 ⟨Nat.le_of_ble_eq_true rfl, Nat.le_of_ble_eq_true rfl⟩ rfl (fun _ _ => rfl) (Nat.le_of_ble_eq_true rfl) rfl rfl ⟨Nat.le_of_ble_eq_true rfl, Nat.le_of_ble_eq_true rfl⟩ (fun M22 h21 => m_X9_init 366 (by decide) h21) (fun M22 h21 => ?_)
  refine q_putR (f := 5) cl_X5 (by decide) qw_94 rfl (Or.inr ⟨rfl, rfl, rfl⟩) dX5_init_89 (fun _ _ _ => rfl) (fun _ => rfl) (fun _ => rfl) (fun M23 h24 => ?_)
  refine q_aload_n 0 dX5_init_92 rfl ?_
  refine q_new cl_X9 qw_32 qw_33 qw_3 q_dv_X9 (Nat.le_of_ble_eq_true rfl) (Nat.le_of_ble_eq_true rfl) dX5_init_93 ?_
  refine q_dup dX5_init_96 rfl ?_
  refine q_bipush (x := (10 : Int32)) dX5_init_97 rfl ?_
  refine q_bipush (x := (84 : Int32)) dX5_init_99 rfl ?_
  refine q_cI2 (Y2 := (Y_X9_init 840)) (As := [.int (10 : Int32), .int (84 : Int32)]) (b := M23.1) (st := [.ref M23.1, .ref a0]) (k' := 14) (n' := 4534) (mi_X9_init 840) qw_34 dX5_init_101 ⟨Nat.le_of_ble_eq_true rfl, Nat.le_of_ble_eq_true rfl⟩ rfl (fun _ _ => rfl) (Nat.le_of_ble_eq_true rfl) rfl rfl ⟨Nat.le_of_ble_eq_true rfl, Nat.le_of_ble_eq_true rfl⟩ (fun M26 h25 => m_X9_init 840 (by decide) h25) (fun M26 h25 => ?_)
  refine q_putR (f := 6) cl_X5 (by decide) qw_98 rfl (Or.inr ⟨rfl, rfl, rfl⟩) dX5_init_104 (fun _ _ _ => rfl) (fun _ => rfl) (fun _ => rfl) (fun M27 h28 => ?_)
  refine q_aload_n 0 dX5_init_107 rfl ?_
  refine q_new cl_X9 qw_32 qw_33 qw_3 q_dv_X9 (Nat.le_of_ble_eq_true rfl) (Nat.le_of_ble_eq_true rfl) dX5_init_108 ?_
  refine q_dup dX5_init_111 rfl ?_
  refine q_bipush (x := (10 : Int32)) dX5_init_112 rfl ?_
  refine q_iconst (x := (3 : Int32)) dX5_init_114 rfl ?_
  refine q_cI2 (Y2 := (Y_X9_init 30)) (As := [.int (10 : Int32), .int (3 : Int32)]) (b := M27.1) (st := [.ref M27.1, .ref a0]) (k' := 16) (n' := 4568) (mi_X9_init 30) qw_34 dX5_init_115 ⟨Nat.le_of_ble_eq_true rfl, Nat.le_of_ble_eq_true rfl⟩ rfl (fun _ _ => rfl) (Nat.le_of_ble_eq_true rfl) rfl rfl ⟨Nat.le_of_ble_eq_true rfl, Nat.le_of_ble_eq_true rfl⟩ (fun M30 h29 => m_X9_init 30 (by decide) h29) (fun M30 h29 => ?_)
  refine q_putR (f := 7) cl_X5 (by decide) qw_101 rfl (Or.inr ⟨rfl, rfl, rfl⟩) dX5_init_118 (fun _ _ _ => rfl) (fun _ => rfl) (fun _ => rfl) (fun M31 h32 => ?_)
  refine q_aload_n 0 dX5_init_121 rfl ?_
  refine q_new cl_X9 qw_32 qw_33 qw_3 q_dv_X9 (Nat.le_of_ble_eq_true rfl) (Nat.le_of_ble_eq_true rfl) dX5_init_122 ?_
  refine q_dup dX5_init_125 rfl ?_
  refine q_bipush (x := (40 : Int32)) dX5_init_126 rfl ?_
  refine q_iconst (x := (3 : Int32)) dX5_init_128 rfl ?_
  refine q_cI2 (Y2 := (Y_X9_init 120)) (As := [.int (40 : Int32), .int (3 : Int32)]) (b := M31.1) (st := [.ref M31.1, .ref a0]) (k' := 18) (n' := 4692) (mi_X9_init 120) qw_34 dX5_init_129 ⟨Nat.le_of_ble_eq_true rfl, Nat.le_of_ble_eq_true rfl⟩ rfl (fun _ _ => rfl) (Nat.le_of_ble_eq_true rfl) rfl rfl ⟨Nat.le_of_ble_eq_true rfl, Nat.le_of_ble_eq_true rfl⟩ (fun M34 h33 => m_X9_init 120 (by decide) h33) (fun M34 h33 => ?_)
  refine q_putR (f := 8) cl_X5 (by decide) qw_103 rfl (Or.inr ⟨rfl, rfl, rfl⟩) dX5_init_132 (fun _ _ _ => rfl) (fun _ => rfl) (fun _ => rfl) (fun M35 h36 => ?_)
  refine q_aload_n 0 dX5_init_135 rfl ?_
  refine q_new cl_X9 qw_32 qw_33 qw_3 q_dv_X9 (Nat.le_of_ble_eq_true rfl) (Nat.le_of_ble_eq_true rfl) dX5_init_136 ?_
  refine q_dup dX5_init_139 rfl ?_
  refine q_bipush (x := (6 : Int32)) dX5_init_140 rfl ?_
  refine q_iconst (x := (3 : Int32)) dX5_init_142 rfl ?_
  refine q_cI2 (Y2 := (Y_X9_init 18)) (As := [.int (6 : Int32), .int (3 : Int32)]) (b := M35.1) (st := [.ref M35.1, .ref a0]) (k' := 20) (n' := 4714) (mi_X9_init 18) qw_34 dX5_init_143 ⟨Nat.le_of_ble_eq_true rfl, Nat.le_of_ble_eq_true rfl⟩ rfl (fun _ _ => rfl) (Nat.le_of_ble_eq_true rfl) rfl rfl ⟨Nat.le_of_ble_eq_true rfl, Nat.le_of_ble_eq_true rfl⟩ (fun M38 h37 => m_X9_init 18 (by decide) h37) (fun M38 h37 => ?_)
  refine q_putR (f := 9) cl_X5 (by decide) qw_105 rfl (Or.inr ⟨rfl, rfl, rfl⟩) dX5_init_146 (fun _ _ _ => rfl) (fun _ => rfl) (fun _ => rfl) (fun M39 h40 => ?_)
  refine q_aload_n 0 dX5_init_149 rfl ?_
  refine q_new cl_X9 qw_32 qw_33 qw_3 q_dv_X9 (Nat.le_of_ble_eq_true rfl) (Nat.le_of_ble_eq_true rfl) dX5_init_150 ?_
  refine q_dup dX5_init_153 rfl ?_
  refine q_bipush (x := (6 : Int32)) dX5_init_154 rfl ?_
  refine q_iconst (x := (3 : Int32)) dX5_init_156 rfl ?_
  refine q_cI2 (Y2 := (Y_X9_init 18)) (As := [.int (6 : Int32), .int (3 : Int32)]) (b := M39.1) (st := [.ref M39.1, .ref a0]) (k' := 22) (n' := 4736) (mi_X9_init 18) qw_34 dX5_init_157 ⟨Nat.le_of_ble_eq_true rfl, Nat.le_of_ble_eq_true rfl⟩ rfl (fun _ _ => rfl) (Nat.le_of_ble_eq_true rfl) rfl rfl ⟨Nat.le_of_ble_eq_true rfl, Nat.le_of_ble_eq_true rfl⟩ (fun M42 h41 => m_X9_init 18 (by decide) h41) (fun M42 h41 => ?_)
  refine q_putR (f := 10) cl_X5 (by decide) qw_108 rfl (Or.inr ⟨rfl, rfl, rfl⟩) dX5_init_160 (fun _ _ _ => rfl) (fun _ => rfl) (fun _ => rfl) (fun M43 h44 => ?_)
  refine q_aload_n 0 dX5_init_163 rfl ?_
  refine q_iconst (x := (4 : Int32)) dX5_init_164 rfl ?_
  refine q_newarr (at_ := .int) (ty := .int) (len := 4) rfl qa_int (Or.inl ⟨rfl, rfl, rfl⟩) (by decide) rfl (by decide) (Nat.le_of_ble_eq_true rfl) (Nat.le_of_ble_eq_true rfl) dX5_init_165 ?_
  refine q_putR (f := 11) cl_X5 (by decide) qw_110 rfl (Or.inr ⟨rfl, rfl, rfl⟩) dX5_init_167 (fun _ _ _ => rfl) (fun _ => rfl) (fun _ => rfl) (fun M46 h47 => ?_)
  refine q_aload_n 0 dX5_init_170 rfl ?_
  refine q_bipush (x := (52 : Int32)) dX5_init_171 rfl ?_
  refine q_newarr (at_ := .int) (ty := .int) (len := 52) rfl qa_int (Or.inl ⟨rfl, rfl, rfl⟩) (by decide) rfl (by decide) (Nat.le_of_ble_eq_true rfl) (Nat.le_of_ble_eq_true rfl) dX5_init_173 ?_
  refine q_putR (f := 12) cl_X5 (by decide) qw_112 rfl (Or.inr ⟨rfl, rfl, rfl⟩) dX5_init_175 (fun _ _ _ => rfl) (fun _ => rfl) (fun _ => rfl) (fun M49 h50 => ?_)
  refine q_aload_n 0 dX5_init_178 rfl ?_
  refine q_bipush (x := (7 : Int32)) dX5_init_179 rfl ?_
  refine q_putI (f := 13) cl_X5 (by decide) qw_114 rfl (Or.inl rfl) dX5_init_181 rfl (fun M51 h52 => ?_)
  refine q_aload_n 0 dX5_init_184 rfl ?_
  refine q_sipush (x := (300 : Int32)) dX5_init_185 rfl ?_
  refine q_putI (f := 14) cl_X5 (by decide) qw_117 rfl (Or.inl rfl) dX5_init_188 rfl (fun M53 h54 => ?_)
  refine q_aload_n 0 dX5_init_191 rfl ?_
  refine q_iconst (x := (1 : Int32)) dX5_init_192 rfl ?_
  refine q_putI (f := 15) cl_X5 (by decide) qw_120 rfl (Or.inl rfl) dX5_init_193 rfl (fun M55 h56 => ?_)
  refine q_iconst (x := (0 : Int32)) dX5_init_196 rfl ?_
  refine q_istore_n (ls' := [(1, .int (0 : Int32)), (0, .ref a0)]) dX5_init_197 (by decide) rfl ?_
  refine q_sub (ls' := [(0, .ref a0), (1, .int (0 : Int32))]) [1, 0] rfl ?_
  exact v_X5_init_b198 _ _ _
theorem dX9_become_0 : decode cX9_become 0 = .ok (.aload_n 0, 1) := by decide +kernel
theorem dX9_become_1 : decode cX9_become 1 = .ok (.getfield 24, 3) := by decide +kernel
theorem dX9_become_4 : decode cX9_become 4 = .ok (.arraylength, 1) := by decide +kernel
theorem dX9_become_5 : decode cX9_become 5 = .ok (.aload_n 1, 1) := by decide +kernel
theorem dX9_become_6 : decode cX9_become 6 = .ok (.getfield 24, 3) := by decide +kernel
theorem dX9_become_9 : decode cX9_become 9 = .ok (.arraylength, 1) := by decide +kernel
theorem dX9_become_10 : decode cX9_become 10 = .ok (.invokestatic 35, 3) := by decide +kernel
theorem dX9_become_13 : decode cX9_become 13 = .ok (.aload_n 1, 1) := by decide +kernel
theorem dX9_become_14 : decode cX9_become 14 = .ok (.getfield 28, 3) := by decide +kernel
theorem dX9_become_17 : decode cX9_become 17 = .ok (.aload_n 1, 1) := by decide +kernel
theorem dX9_become_18 : decode cX9_become 18 = .ok (.getfield 15, 3) := by decide +kernel
theorem dX9_become_21 : decode cX9_become 21 = .ok (.imul, 1) := by decide +kernel
theorem dX9_become_22 : decode cX9_become 22 = .ok (.invokestatic 35, 3) := by decide +kernel
theorem dX9_become_25 : decode cX9_become 25 = .ok (.istore_n 2, 1) := by decide +kernel
theorem dX9_become_26 : decode cX9_become 26 = .ok (.aload_n 1, 1) := by decide +kernel
theorem dX9_become_27 : decode cX9_become 27 = .ok (.getfield 24, 3) := by decide +kernel
theorem dX9_become_30 : decode cX9_become 30 = .ok (.iconst 0, 1) := by decide +kernel
theorem dX9_become_31 : decode cX9_become 31 = .ok (.aload_n 0, 1) := by decide +kernel
theorem dX9_become_32 : decode cX9_become 32 = .ok (.getfield 24, 3) := by decide +kernel
theorem dX9_become_35 : decode cX9_become 35 = .ok (.iconst 0, 1) := by decide +kernel
theorem dX9_become_36 : decode cX9_become 36 = .ok (.iload_n 2, 1) := by decide +kernel
theorem dX9_become_37 : decode cX9_become 37 = .ok (.invokestatic 38, 3) := by decide +kernel
theorem dX9_become_40 : decode cX9_become 40 = .ok (.aload_n 0, 1) := by decide +kernel
theorem dX9_become_41 : decode cX9_become 41 = .ok (.aload_n 0, 1) := by decide +kernel
theorem dX9_become_42 : decode cX9_become 42 = .ok (.getfield 9, 3) := by decide +kernel
theorem dX9_become_45 : decode cX9_become 45 = .ok (.aload_n 1, 1) := by decide +kernel
theorem dX9_become_46 : decode cX9_become 46 = .ok (.getfield 28, 3) := by decide +kernel
theorem dX9_become_49 : decode cX9_become 49 = .ok (.invokestatic 35, 3) := by decide +kernel
theorem dX9_become_52 : decode cX9_become 52 = .ok (.putfield 28, 3) := by decide +kernel
theorem dX9_become_55 : decode cX9_become 55 = .ok (.return_, 1) := by decide +kernel
def f_X9_become (M : q_Mem) (a0 : Nat) (a1 : Nat) : Option q_Mem :=
  q_ob 8 M a0 ((q_gR 8 2 M a0).bind fun v1 =>
  (q_ln M v1).bind fun v3 =>
  (q_gR 8 2 M a1).bind fun v5 =>
  (q_ln M v5).bind fun v7 =>
  (q_gI 8 3 M a1).bind fun v9 =>
  (q_gI 8 1 M a1).bind fun v11 =>
  (q_gR 8 2 M a1).bind fun v13 =>
  (q_gR 8 2 M a0).bind fun v15 =>
  (q_cI M v13 (0 : Int32) v15 (0 : Int32) (q_mi (q_mi v3 v7) (v9 * v11))).bind fun M17 =>
  (q_gI 8 0 M17 a0).bind fun v19 =>
  (q_gI 8 3 M17 a1).bind fun v21 =>
  (q_pI 8 3 M17 a0 (q_mi v19 v21)).bind fun M23 =>
  some M23)
set_option maxRecDepth 20000 in
theorem m_X9_become {M : q_Mem} {a0 : Nat} {a1 : Nat} {x : q_Mem} (h : f_X9_become M a0 a1 = some x) : q_C Y_X9_become [.ref a0, .ref a1] M none x := by
  refine q_met (φ := (fun x : q_Mem => (none, x))) (r := f_X9_become M a0 a1) (by decide +kernel) (Nat.le_of_ble_eq_true rfl) ?_ h (fun _ _ => rfl)
  show q_V Y_X9_become none (fun x : q_Mem => (none, x)) 0 0 0 [(0, .ref a0), (1, .ref a1)] [] M (f_X9_become M a0 a1)
  unfold f_X9_become
  refine q_obV ?_
  refine q_aload_n 0 dX9_become_0 rfl ?_
  refine q_getR (f := 2) cl_X9 (by decide) qw_43 rfl dX9_become_1 (fun _ _ _ => rfl) (fun v1 h2 => ?_)
  refine q_alen dX9_become_4 (fun v3 h4 => ?_)
  refine q_aload_n 1 dX9_become_5 rfl ?_
  refine q_getR (f := 2) cl_X9 (by decide) qw_43 rfl dX9_become_6 (fun _ _ _ => rfl) (fun v5 h6 => ?_)
  refine q_alen dX9_become_9 (fun v7 h8 => ?_)
  refine q_mmin qw_1082 qm_mmin_1 qm_2 qm_mmin_3 dX9_become_10 (Nat.le_of_ble_eq_true rfl) (Nat.le_of_ble_eq_true rfl) (Nat.le_of_ble_eq_true rfl) ⟨Nat.le_of_ble_eq_true rfl, Nat.le_of_ble_eq_true rfl⟩ ?_
  refine q_aload_n 1 dX9_become_13 rfl ?_
  refine q_getI (f := 3) cl_X9 (by decide) qw_44 rfl dX9_become_14 (Or.inl rfl) (fun v9 h10 => ?_)
  refine q_aload_n 1 dX9_become_17 rfl ?_
  refine q_getI (f := 1) cl_X9 (by decide) qw_42 rfl dX9_become_18 (Or.inl rfl) (fun v11 h12 => ?_)
  refine q_imul dX9_become_21 ?_
  refine q_mmin qw_1082 qm_mmin_1 qm_2 qm_mmin_3 dX9_become_22 (Nat.le_of_ble_eq_true rfl) (Nat.le_of_ble_eq_true rfl) (Nat.le_of_ble_eq_true rfl) ⟨Nat.le_of_ble_eq_true rfl, Nat.le_of_ble_eq_true rfl⟩ ?_
  refine q_istore_n (ls' := [(2, .int (q_mi (q_mi v3 v7) (v9 * v11))), (0, .ref a0), (1, .ref a1)]) dX9_become_25 (by decide) rfl ?_
  refine q_aload_n 2 dX9_become_26 rfl ?_
  refine q_getR (f := 2) cl_X9 (by decide) qw_43 rfl dX9_become_27 (fun _ _ _ => rfl) (fun v13 h14 => ?_)
  refine q_iconst (x := (0 : Int32)) dX9_become_30 rfl ?_
  refine q_aload_n 1 dX9_become_31 rfl ?_
  refine q_getR (f := 2) cl_X9 (by decide) qw_43 rfl dX9_become_32 (fun _ _ _ => rfl) (fun v15 h16 => ?_)
  refine q_iconst (x := (0 : Int32)) dX9_become_35 rfl ?_
  refine q_iload_n 0 dX9_become_36 rfl ?_
  refine q_acopy dX9_become_37 qw_1083 qy_1 qy_2 qy_3 (Nat.le_of_ble_eq_true rfl) (Nat.le_of_ble_eq_true rfl) (Nat.le_of_ble_eq_true rfl) (fun M17 h18 => ?_)
  refine q_aload_n 1 dX9_become_40 rfl ?_
  refine q_aload_n 1 dX9_become_41 rfl ?_
  refine q_getI (f := 0) cl_X9 (by decide) qw_41 rfl dX9_become_42 (Or.inl rfl) (fun v19 h20 => ?_)
  refine q_aload_n 2 dX9_become_45 rfl ?_
  refine q_getI (f := 3) cl_X9 (by decide) qw_44 rfl dX9_become_46 (Or.inl rfl) (fun v21 h22 => ?_)
  refine q_mmin qw_1082 qm_mmin_1 qm_2 qm_mmin_3 dX9_become_49 (Nat.le_of_ble_eq_true rfl) (Nat.le_of_ble_eq_true rfl) (Nat.le_of_ble_eq_true rfl) ⟨Nat.le_of_ble_eq_true rfl, Nat.le_of_ble_eq_true rfl⟩ ?_
  refine q_putI (f := 3) cl_X9 (by decide) qw_44 rfl (Or.inl rfl) dX9_become_52 rfl (fun M23 h24 => ?_)
  exact q_vret dX9_become_55 rfl rfl (Nat.le_of_ble_eq_true rfl) rfl
theorem dX5_become_0 : decode cX5_become 0 = .ok (.aload_n 0, 1) := by decide +kernel
theorem dX5_become_1 : decode cX5_become 1 = .ok (.getfield 14, 3) := by decide +kernel
theorem dX5_become_4 : decode cX5_become 4 = .ok (.aload_n 1, 1) := by decide +kernel
theorem dX5_become_5 : decode cX5_become 5 = .ok (.getfield 14, 3) := by decide +kernel
theorem dX5_become_8 : decode cX5_become 8 = .ok (.invokevirtual 73, 3) := by decide +kernel
theorem dX5_become_11 : decode cX5_become 11 = .ok (.aload_n 0, 1) := by decide +kernel
theorem dX5_become_12 : decode cX5_become 12 = .ok (.getfield 20, 3) := by decide +kernel
theorem dX5_become_15 : decode cX5_become 15 = .ok (.aload_n 1, 1) := by decide +kernel
theorem dX5_become_16 : decode cX5_become 16 = .ok (.getfield 20, 3) := by decide +kernel
theorem dX5_become_19 : decode cX5_become 19 = .ok (.invokevirtual 73, 3) := by decide +kernel
theorem dX5_become_22 : decode cX5_become 22 = .ok (.aload_n 0, 1) := by decide +kernel
theorem dX5_become_23 : decode cX5_become 23 = .ok (.getfield 23, 3) := by decide +kernel
theorem dX5_become_26 : decode cX5_become 26 = .ok (.aload_n 1, 1) := by decide +kernel
theorem dX5_become_27 : decode cX5_become 27 = .ok (.getfield 23, 3) := by decide +kernel
theorem dX5_become_30 : decode cX5_become 30 = .ok (.invokevirtual 73, 3) := by decide +kernel
theorem dX5_become_33 : decode cX5_become 33 = .ok (.aload_n 0, 1) := by decide +kernel
theorem dX5_become_34 : decode cX5_become 34 = .ok (.getfield 26, 3) := by decide +kernel
theorem dX5_become_37 : decode cX5_become 37 = .ok (.aload_n 1, 1) := by decide +kernel
theorem dX5_become_38 : decode cX5_become 38 = .ok (.getfield 26, 3) := by decide +kernel
theorem dX5_become_41 : decode cX5_become 41 = .ok (.invokevirtual 73, 3) := by decide +kernel
theorem dX5_become_44 : decode cX5_become 44 = .ok (.aload_n 0, 1) := by decide +kernel
theorem dX5_become_45 : decode cX5_become 45 = .ok (.getfield 29, 3) := by decide +kernel
theorem dX5_become_48 : decode cX5_become 48 = .ok (.aload_n 1, 1) := by decide +kernel
theorem dX5_become_49 : decode cX5_become 49 = .ok (.getfield 29, 3) := by decide +kernel
theorem dX5_become_52 : decode cX5_become 52 = .ok (.invokevirtual 73, 3) := by decide +kernel
theorem dX5_become_55 : decode cX5_become 55 = .ok (.aload_n 0, 1) := by decide +kernel
theorem dX5_become_56 : decode cX5_become 56 = .ok (.getfield 32, 3) := by decide +kernel
theorem dX5_become_59 : decode cX5_become 59 = .ok (.aload_n 1, 1) := by decide +kernel
theorem dX5_become_60 : decode cX5_become 60 = .ok (.getfield 32, 3) := by decide +kernel
theorem dX5_become_63 : decode cX5_become 63 = .ok (.invokevirtual 73, 3) := by decide +kernel
theorem dX5_become_66 : decode cX5_become 66 = .ok (.aload_n 0, 1) := by decide +kernel
theorem dX5_become_67 : decode cX5_become 67 = .ok (.getfield 35, 3) := by decide +kernel
theorem dX5_become_70 : decode cX5_become 70 = .ok (.aload_n 1, 1) := by decide +kernel
theorem dX5_become_71 : decode cX5_become 71 = .ok (.getfield 35, 3) := by decide +kernel
theorem dX5_become_74 : decode cX5_become 74 = .ok (.invokevirtual 73, 3) := by decide +kernel
theorem dX5_become_77 : decode cX5_become 77 = .ok (.aload_n 0, 1) := by decide +kernel
theorem dX5_become_78 : decode cX5_become 78 = .ok (.getfield 40, 3) := by decide +kernel
theorem dX5_become_81 : decode cX5_become 81 = .ok (.aload_n 1, 1) := by decide +kernel
theorem dX5_become_82 : decode cX5_become 82 = .ok (.getfield 40, 3) := by decide +kernel
theorem dX5_become_85 : decode cX5_become 85 = .ok (.invokevirtual 73, 3) := by decide +kernel
theorem dX5_become_88 : decode cX5_become 88 = .ok (.aload_n 0, 1) := by decide +kernel
theorem dX5_become_89 : decode cX5_become 89 = .ok (.getfield 43, 3) := by decide +kernel
theorem dX5_become_92 : decode cX5_become 92 = .ok (.aload_n 1, 1) := by decide +kernel
theorem dX5_become_93 : decode cX5_become 93 = .ok (.getfield 43, 3) := by decide +kernel
theorem dX5_become_96 : decode cX5_become 96 = .ok (.invokevirtual 73, 3) := by decide +kernel
theorem dX5_become_99 : decode cX5_become 99 = .ok (.aload_n 0, 1) := by decide +kernel
theorem dX5_become_100 : decode cX5_become 100 = .ok (.getfield 46, 3) := by decide +kernel
theorem dX5_become_103 : decode cX5_become 103 = .ok (.aload_n 1, 1) := by decide +kernel
theorem dX5_become_104 : decode cX5_become 104 = .ok (.getfield 46, 3) := by decide +kernel
theorem dX5_become_107 : decode cX5_become 107 = .ok (.invokevirtual 73, 3) := by decide +kernel
theorem dX5_become_110 : decode cX5_become 110 = .ok (.aload_n 0, 1) := by decide +kernel
theorem dX5_become_111 : decode cX5_become 111 = .ok (.getfield 49, 3) := by decide +kernel
theorem dX5_become_114 : decode cX5_become 114 = .ok (.aload_n 1, 1) := by decide +kernel
theorem dX5_become_115 : decode cX5_become 115 = .ok (.getfield 49, 3) := by decide +kernel
theorem dX5_become_118 : decode cX5_become 118 = .ok (.invokevirtual 73, 3) := by decide +kernel
theorem dX5_become_121 : decode cX5_become 121 = .ok (.iconst 0, 1) := by decide +kernel
theorem dX5_become_122 : decode cX5_become 122 = .ok (.istore_n 2, 1) := by decide +kernel
theorem dX5_become_123 : decode cX5_become 123 = .ok (.iload_n 2, 1) := by decide +kernel
theorem dX5_become_124 : decode cX5_become 124 = .ok (.aload_n 0, 1) := by decide +kernel
theorem dX5_become_125 : decode cX5_become 125 = .ok (.getfield 52, 3) := by decide +kernel
theorem dX5_become_128 : decode cX5_become 128 = .ok (.arraylength, 1) := by decide +kernel
theorem dX5_become_129 : decode cX5_become 129 = .ok (.if_icmp .ge 30, 3) := by decide +kernel
theorem dX5_become_132 : decode cX5_become 132 = .ok (.iload_n 2, 1) := by decide +kernel
theorem dX5_become_133 : decode cX5_become 133 = .ok (.aload_n 1, 1) := by decide +kernel
theorem dX5_become_134 : decode cX5_become 134 = .ok (.getfield 52, 3) := by decide +kernel
theorem dX5_become_137 : decode cX5_become 137 = .ok (.arraylength, 1) := by decide +kernel
theorem dX5_become_138 : decode cX5_become 138 = .ok (.if_icmp .ge 21, 3) := by decide +kernel
theorem dX5_become_141 : decode cX5_become 141 = .ok (.aload_n 0, 1) := by decide +kernel
theorem dX5_become_142 : decode cX5_become 142 = .ok (.getfield 52, 3) := by decide +kernel
theorem dX5_become_145 : decode cX5_become 145 = .ok (.iload_n 2, 1) := by decide +kernel
theorem dX5_become_146 : decode cX5_become 146 = .ok (.aload_n 1, 1) := by decide +kernel
theorem dX5_become_147 : decode cX5_become 147 = .ok (.getfield 52, 3) := by decide +kernel
theorem dX5_become_150 : decode cX5_become 150 = .ok (.iload_n 2, 1) := by decide +kernel
theorem dX5_become_151 : decode cX5_become 151 = .ok (.iaload, 1) := by decide +kernel
theorem dX5_become_152 : decode cX5_become 152 = .ok (.iastore, 1) := by decide +kernel
theorem dX5_become_153 : decode cX5_become 153 = .ok (.iinc 2 1, 3) := by decide +kernel
theorem dX5_become_156 : decode cX5_become 156 = .ok (.goto (-33), 3) := by decide +kernel
theorem dX5_become_159 : decode cX5_become 159 = .ok (.iconst 0, 1) := by decide +kernel
theorem dX5_become_160 : decode cX5_become 160 = .ok (.istore_n 2, 1) := by decide +kernel
theorem dX5_become_161 : decode cX5_become 161 = .ok (.iload_n 2, 1) := by decide +kernel
theorem dX5_become_162 : decode cX5_become 162 = .ok (.aload_n 0, 1) := by decide +kernel
theorem dX5_become_163 : decode cX5_become 163 = .ok (.getfield 56, 3) := by decide +kernel
theorem dX5_become_166 : decode cX5_become 166 = .ok (.arraylength, 1) := by decide +kernel
theorem dX5_become_167 : decode cX5_become 167 = .ok (.if_icmp .ge 30, 3) := by decide +kernel
theorem dX5_become_170 : decode cX5_become 170 = .ok (.iload_n 2, 1) := by decide +kernel
theorem dX5_become_171 : decode cX5_become 171 = .ok (.aload_n 1, 1) := by decide +kernel
theorem dX5_become_172 : decode cX5_become 172 = .ok (.getfield 56, 3) := by decide +kernel
theorem dX5_become_175 : decode cX5_become 175 = .ok (.arraylength, 1) := by decide +kernel
theorem dX5_become_176 : decode cX5_become 176 = .ok (.if_icmp .ge 21, 3) := by decide +kernel
theorem dX5_become_179 : decode cX5_become 179 = .ok (.aload_n 0, 1) := by decide +kernel
theorem dX5_become_180 : decode cX5_become 180 = .ok (.getfield 56, 3) := by decide +kernel
theorem dX5_become_183 : decode cX5_become 183 = .ok (.iload_n 2, 1) := by decide +kernel
theorem dX5_become_184 : decode cX5_become 184 = .ok (.aload_n 1, 1) := by decide +kernel
theorem dX5_become_185 : decode cX5_become 185 = .ok (.getfield 56, 3) := by decide +kernel
theorem dX5_become_188 : decode cX5_become 188 = .ok (.iload_n 2, 1) := by decide +kernel
theorem dX5_become_189 : decode cX5_become 189 = .ok (.iaload, 1) := by decide +kernel
theorem dX5_become_190 : decode cX5_become 190 = .ok (.iastore, 1) := by decide +kernel
theorem dX5_become_191 : decode cX5_become 191 = .ok (.iinc 2 1, 3) := by decide +kernel
theorem dX5_become_194 : decode cX5_become 194 = .ok (.goto (-33), 3) := by decide +kernel
theorem dX5_become_197 : decode cX5_become 197 = .ok (.aload_n 0, 1) := by decide +kernel
theorem dX5_become_198 : decode cX5_become 198 = .ok (.aload_n 1, 1) := by decide +kernel
theorem dX5_become_199 : decode cX5_become 199 = .ok (.getfield 59, 3) := by decide +kernel
theorem dX5_become_202 : decode cX5_become 202 = .ok (.putfield 59, 3) := by decide +kernel
theorem dX5_become_205 : decode cX5_become 205 = .ok (.aload_n 0, 1) := by decide +kernel
theorem dX5_become_206 : decode cX5_become 206 = .ok (.aload_n 1, 1) := by decide +kernel
theorem dX5_become_207 : decode cX5_become 207 = .ok (.getfield 63, 3) := by decide +kernel
theorem dX5_become_210 : decode cX5_become 210 = .ok (.putfield 63, 3) := by decide +kernel
theorem dX5_become_213 : decode cX5_become 213 = .ok (.aload_n 0, 1) := by decide +kernel
theorem dX5_become_214 : decode cX5_become 214 = .ok (.aload_n 1, 1) := by decide +kernel
theorem dX5_become_215 : decode cX5_become 215 = .ok (.getfield 66, 3) := by decide +kernel
theorem dX5_become_218 : decode cX5_become 218 = .ok (.putfield 66, 3) := by decide +kernel
theorem dX5_become_221 : decode cX5_become 221 = .ok (.return_, 1) := by decide +kernel
def f_X5_become_b197 (M : q_Mem) (a0 : Nat) (a1 : Nat) : Option q_Mem :=
  (q_gI 4 13 M a1).bind fun v114 =>
  (q_pI 4 13 M a0 v114).bind fun M116 =>
  (q_gI 4 14 M116 a1).bind fun v118 =>
  (q_pI 4 14 M116 a0 v118).bind fun M120 =>
  (q_gI 4 15 M120 a1).bind fun v122 =>
  (q_pI 4 15 M120 a0 v122).bind fun M124 =>
  some M124
def f_X5_become_b161 (a0 : Nat) (a1 : Nat) : Nat → Int32 → q_Mem → Option q_Mem
  | 0, _, _ => none
  | n + 1, a2, M =>
    (q_gR 4 12 M a0).bind fun v96 =>
    (q_ln M v96).bind fun v98 =>
    (if a2 < v98 then
      (q_gR 4 12 M a1).bind fun v100 =>
      (q_ln M v100).bind fun v102 =>
      (if a2 < v102 then
        (q_gR 4 12 M a0).bind fun v104 =>
        (q_gR 4 12 M a1).bind fun v106 =>
        (q_lI M v106 a2).bind fun v108 =>
        (q_tI M v104 a2 v108).bind fun M110 =>
        f_X5_become_b161 a0 a1 n (a2 + (1 : Int32)) M110
      else
        f_X5_become_b197 M a0 a1)
    else
      f_X5_become_b197 M a0 a1)
def f_X5_become_b123 (a0 : Nat) (a1 : Nat) : Nat → Int32 → q_Mem → Option q_Mem
  | 0, _, _ => none
  | n + 1, a2, M =>
    (q_gR 4 11 M a0).bind fun v78 =>
    (q_ln M v78).bind fun v80 =>
    (if a2 < v80 then
      (q_gR 4 11 M a1).bind fun v82 =>
      (q_ln M v82).bind fun v84 =>
      (if a2 < v84 then
        (q_gR 4 11 M a0).bind fun v86 =>
        (q_gR 4 11 M a1).bind fun v88 =>
        (q_lI M v88 a2).bind fun v90 =>
        (q_tI M v86 a2 v90).bind fun M92 =>
        f_X5_become_b123 a0 a1 n (a2 + (1 : Int32)) M92
      else
        f_X5_become_b161 a0 a1 q_fuel (0 : Int32) M)
    else
      f_X5_become_b161 a0 a1 q_fuel (0 : Int32) M)
def f_X5_become (M : q_Mem) (a0 : Nat) (a1 : Nat) : Option q_Mem :=
  q_ob 4 M a0 ((q_gR 4 0 M a0).bind fun v1 =>
  (q_gR 4 0 M a1).bind fun v3 =>
  (f_X9_become M v1 v3).bind fun M7 =>
  (q_gR 4 1 M7 a0).bind fun v8 =>
  (q_gR 4 1 M7 a1).bind fun v10 =>
  (f_X9_become M7 v8 v10).bind fun M14 =>
  (q_gR 4 2 M14 a0).bind fun v15 =>
  (q_gR 4 2 M14 a1).bind fun v17 =>
  (f_X9_become M14 v15 v17).bind fun M21 =>
  (q_gR 4 3 M21 a0).bind fun v22 =>
  (q_gR 4 3 M21 a1).bind fun v24 =>
  (f_X9_become M21 v22 v24).bind fun M28 =>
  (q_gR 4 4 M28 a0).bind fun v29 =>
  (q_gR 4 4 M28 a1).bind fun v31 =>
  (f_X9_become M28 v29 v31).bind fun M35 =>
  (q_gR 4 5 M35 a0).bind fun v36 =>
  (q_gR 4 5 M35 a1).bind fun v38 =>
  (f_X9_become M35 v36 v38).bind fun M42 =>
  (q_gR 4 6 M42 a0).bind fun v43 =>
  (q_gR 4 6 M42 a1).bind fun v45 =>
  (f_X9_become M42 v43 v45).bind fun M49 =>
  (q_gR 4 7 M49 a0).bind fun v50 =>
  (q_gR 4 7 M49 a1).bind fun v52 =>
  (f_X9_become M49 v50 v52).bind fun M56 =>
  (q_gR 4 8 M56 a0).bind fun v57 =>
  (q_gR 4 8 M56 a1).bind fun v59 =>
  (f_X9_become M56 v57 v59).bind fun M63 =>
  (q_gR 4 9 M63 a0).bind fun v64 =>
  (q_gR 4 9 M63 a1).bind fun v66 =>
  (f_X9_become M63 v64 v66).bind fun M70 =>
  (q_gR 4 10 M70 a0).bind fun v71 =>
  (q_gR 4 10 M70 a1).bind fun v73 =>
  (f_X9_become M70 v71 v73).bind fun M77 =>
  f_X5_become_b123 a0 a1 q_fuel (0 : Int32) M77)
set_option maxRecDepth 20000 in
theorem v_X5_become_b197 {M : q_Mem} {a0 : Nat} {a1 : Nat}  : q_V Y_X5_become none (fun x : q_Mem => (none, x)) 0 0 197 [(0, .ref a0), (1, .ref a1)] [] M (f_X5_become_b197 M a0 a1 ) := by
  unfold f_X5_become_b197
  refine q_aload_n 0 dX5_become_197 rfl ?_
  refine q_aload_n 1 dX5_become_198 rfl ?_
  refine q_getI (f := 13) cl_X5 (by decide) qw_114 rfl dX5_become_199 (Or.inl rfl) (fun v114 h115 => ?_)
  refine q_putI (f := 13) cl_X5 (by decide) qw_114 rfl (Or.inl rfl) dX5_become_202 rfl (fun M116 h117 => ?_)
  refine q_aload_n 0 dX5_become_205 rfl ?_
  refine q_aload_n 1 dX5_become_206 rfl ?_
  refine q_getI (f := 14) cl_X5 (by decide) qw_117 rfl dX5_become_207 (Or.inl rfl) (fun v118 h119 => ?_)
  refine q_putI (f := 14) cl_X5 (by decide) qw_117 rfl (Or.inl rfl) dX5_become_210 rfl (fun M120 h121 => ?_)
  refine q_aload_n 0 dX5_become_213 rfl ?_
  refine q_aload_n 1 dX5_become_214 rfl ?_
  refine q_getI (f := 15) cl_X5 (by decide) qw_120 rfl dX5_become_215 (Or.inl rfl) (fun v122 h123 => ?_)
  refine q_putI (f := 15) cl_X5 (by decide) qw_120 rfl (Or.inl rfl) dX5_become_218 rfl (fun M124 h125 => ?_)
  exact q_vret dX5_become_221 rfl rfl (Nat.le_of_ble_eq_true rfl) rfl
set_option maxRecDepth 20000 in
theorem v_X5_become_b161 {a0 : Nat} {a1 : Nat}  : ∀ (n : Nat) (a2 : Int32) (M : q_Mem), q_V Y_X5_become none (fun x : q_Mem => (none, x)) 0 0 161 [(0, .ref a0), (1, .ref a1), (2, .int a2)] [] M (f_X5_become_b161 a0 a1 n a2 M) := by
  intro n
  induction n with
  | zero => intro a2 M; exact q_none
  | succ n ih =>
    intro a2 M
    rw [f_X5_become_b161.eq_2]
    refine q_iload_n 2 dX5_become_161 rfl ?_
    refine q_aload_n 0 dX5_become_162 rfl ?_
    refine q_getR (f := 12) cl_X5 (by decide) qw_112 rfl dX5_become_163 (fun _ _ _ => rfl) (fun v96 h97 => ?_)
    refine q_alen dX5_become_166 (fun v98 h99 => ?_)
    refine q_icmp_ge (tgt := 197) dX5_become_167 (by decide) (fun c113 => ?_) (fun c113 => ?_)
    · refine q_iload_n 2 dX5_become_170 rfl ?_
      refine q_aload_n 1 dX5_become_171 rfl ?_
      refine q_getR (f := 12) cl_X5 (by decide) qw_112 rfl dX5_become_172 (fun _ _ _ => rfl) (fun v100 h101 => ?_)
      refine q_alen dX5_become_175 (fun v102 h103 => ?_)
      refine q_icmp_ge (tgt := 197) dX5_become_176 (by decide) (fun c112 => ?_) (fun c112 => ?_)
      · refine q_aload_n 0 dX5_become_179 rfl ?_
        refine q_getR (f := 12) cl_X5 (by decide) qw_112 rfl dX5_become_180 (fun _ _ _ => rfl) (fun v104 h105 => ?_)
        refine q_iload_n 2 dX5_become_183 rfl ?_
        refine q_aload_n 1 dX5_become_184 rfl ?_
        refine q_getR (f := 12) cl_X5 (by decide) qw_112 rfl dX5_become_185 (fun _ _ _ => rfl) (fun v106 h107 => ?_)
        refine q_iload_n 2 dX5_become_188 rfl ?_
        refine q_iald dX5_become_189 (fun v108 h109 => ?_)
        refine q_iast dX5_become_190 (fun M110 h111 => ?_)
        refine q_iinc 2 (y := (a2 + (1 : Int32))) (ls' := [(2, .int (a2 + (1 : Int32))), (0, .ref a0), (1, .ref a1)]) dX5_become_191 rfl rfl (by decide) rfl ?_
        refine q_goto (tgt := 161) dX5_become_194 (by decide) ?_
        refine q_sub (ls' := [(0, .ref a0), (1, .ref a1), (2, .int (a2 + (1 : Int32)))]) [1, 2, 0] rfl ?_
        exact ih _ _
      · refine q_sub (ls' := [(0, .ref a0), (1, .ref a1)]) [0, 1] rfl ?_
        exact v_X5_become_b197
    · refine q_sub (ls' := [(0, .ref a0), (1, .ref a1)]) [0, 1] rfl ?_
      exact v_X5_become_b197
set_option maxRecDepth 20000 in
theorem v_X5_become_b123 {a0 : Nat} {a1 : Nat}  : ∀ (n : Nat) (a2 : Int32) (M : q_Mem), q_V Y_X5_become none (fun x : q_Mem => (none, x)) 0 0 123 [(0, .ref a0), (1, .ref a1), (2, .int a2)] [] M (f_X5_become_b123 a0 a1 n a2 M) := by
  intro n
  induction n with
  | zero => intro a2 M; exact q_none
  | succ n ih =>
    intro a2 M
    rw [f_X5_become_b123.eq_2]
    refine q_iload_n 2 dX5_become_123 rfl ?_
    refine q_aload_n 0 dX5_become_124 rfl ?_
    refine q_getR (f := 11) cl_X5 (by decide) qw_110 rfl dX5_become_125 (fun _ _ _ => rfl) (fun v78 h79 => ?_)
    refine q_alen dX5_become_128 (fun v80 h81 => ?_)
    refine q_icmp_ge (tgt := 159) dX5_become_129 (by decide) (fun c95 => ?_) (fun c95 => ?_)
    · refine q_iload_n 2 dX5_become_132 rfl ?_
      refine q_aload_n 1 dX5_become_133 rfl ?_
      refine q_getR (f := 11) cl_X5 (by decide) qw_110 rfl dX5_become_134 (fun _ _ _ => rfl) (fun v82 h83 => ?_)
      refine q_alen dX5_become_137 (fun v84 h85 => ?_)
      refine q_icmp_ge (tgt := 159) dX5_become_138 (by decide) (fun c94 => ?_) (fun c94 => ?_)
      · refine q_aload_n 0 dX5_become_141 rfl ?_
        refine q_getR (f := 11) cl_X5 (by decide) qw_110 rfl dX5_become_142 (fun _ _ _ => rfl) (fun v86 h87 => ?_)
        refine q_iload_n 2 dX5_become_145 rfl ?_
        refine q_aload_n 1 dX5_become_146 rfl ?_
        refine q_getR (f := 11) cl_X5 (by decide) qw_110 rfl dX5_become_147 (fun _ _ _ => rfl) (fun v88 h89 => ?_)
        refine q_iload_n 2 dX5_become_150 rfl ?_
        refine q_iald dX5_become_151 (fun v90 h91 => ?_)
        refine q_iast dX5_become_152 (fun M92 h93 => ?_)
        refine q_iinc 2 (y := (a2 + (1 : Int32))) (ls' := [(2, .int (a2 + (1 : Int32))), (0, .ref a0), (1, .ref a1)]) dX5_become_153 rfl rfl (by decide) rfl ?_
        refine q_goto (tgt := 123) dX5_become_156 (by decide) ?_
        refine q_sub (ls' := [(0, .ref a0), (1, .ref a1), (2, .int (a2 + (1 : Int32)))]) [1, 2, 0] rfl ?_
        exact ih _ _
      · refine q_iconst (x := (0 : Int32)) dX5_become_159 rfl ?_
        refine q_istore_n (ls' := [(2, .int (0 : Int32)), (0, .ref a0), (1, .ref a1)]) dX5_become_160 (by decide) rfl ?_
        refine q_sub (ls' := [(0, .ref a0), (1, .ref a1), (2, .int (0 : Int32))]) [1, 2, 0] rfl ?_
        exact v_X5_become_b161 _ _ _
    · refine q_iconst (x := (0 : Int32)) dX5_become_159 rfl ?_
      refine q_istore_n (ls' := [(2, .int (0 : Int32)), (0, .ref a0), (1, .ref a1)]) dX5_become_160 (by decide) rfl ?_
      refine q_sub (ls' := [(0, .ref a0), (1, .ref a1), (2, .int (0 : Int32))]) [1, 2, 0] rfl ?_
      exact v_X5_become_b161 _ _ _
set_option maxRecDepth 20000 in
theorem m_X5_become {M : q_Mem} {a0 : Nat} {a1 : Nat} {x : q_Mem} (h : f_X5_become M a0 a1 = some x) : q_C Y_X5_become [.ref a0, .ref a1] M none x := by
  refine q_met (φ := (fun x : q_Mem => (none, x))) (r := f_X5_become M a0 a1) (by decide +kernel) (Nat.le_of_ble_eq_true rfl) ?_ h (fun _ _ => rfl)
  show q_V Y_X5_become none (fun x : q_Mem => (none, x)) 0 0 0 [(0, .ref a0), (1, .ref a1)] [] M (f_X5_become M a0 a1)
  unfold f_X5_become
  refine q_obV ?_
  refine q_aload_n 0 dX5_become_0 rfl ?_
  refine q_getR (f := 0) cl_X5 (by decide) qw_71 rfl dX5_become_1 (fun _ _ _ => rfl) (fun v1 h2 => ?_)
  refine q_aload_n 1 dX5_become_4 rfl ?_
  refine q_getR (f := 0) cl_X5 (by decide) qw_71 rfl dX5_become_5 (fun _ _ _ => rfl) (fun v3 h4 => ?_)
  refine q_cVM (Y2 := Y_X9_become) (As := [.ref v3]) (b := v1) (st := []) cl_X9 mv_X9_become qw_1078 dX5_become_8 ⟨Nat.le_of_ble_eq_true rfl, Nat.le_of_ble_eq_true rfl⟩ rfl (fun _ _ => rfl) (Nat.le_of_ble_eq_true rfl) ⟨Nat.le_of_ble_eq_true rfl, Nat.le_of_ble_eq_true rfl⟩ (fun M7 h5 => q_ob_is h5) (fun M7 h5 => m_X9_become h5) (fun M7 h5 => ?_)
  refine q_aload_n 0 dX5_become_11 rfl ?_
  refine q_getR (f := 1) cl_X5 (by decide) qw_77 rfl dX5_become_12 (fun _ _ _ => rfl) (fun v8 h9 => ?_)
  refine q_aload_n 1 dX5_become_15 rfl ?_
  refine q_getR (f := 1) cl_X5 (by decide) qw_77 rfl dX5_become_16 (fun _ _ _ => rfl) (fun v10 h11 => ?_)
  refine q_cVM (Y2 := Y_X9_become) (As := [.ref v10]) (b := v8) (st := []) cl_X9 mv_X9_become qw_1078 dX5_become_19 ⟨Nat.le_of_ble_eq_true rfl, Nat.le_of_ble_eq_true rfl⟩ rfl (fun _ _ => rfl) (Nat.le_of_ble_eq_true rfl) ⟨Nat.le_of_ble_eq_true rfl, Nat.le_of_ble_eq_true rfl⟩ (fun M14 h12 => q_ob_is h12) (fun M14 h12 => m_X9_become h12) (fun M14 h12 => ?_)
  refine q_aload_n 0 dX5_become_22 rfl ?_
  refine q_getR (f := 2) cl_X5 (by decide) qw_83 rfl dX5_become_23 (fun _ _ _ => rfl) (fun v15 h16 => ?_)
  refine q_aload_n 1 dX5_become_26 rfl ?_
  refine q_getR (f := 2) cl_X5 (by decide) qw_83 rfl dX5_become_27 (fun _ _ _ => rfl) (fun v17 h18 => ?_)
  refine q_cVM (Y2 := Y_X9_become) (As := [.ref v17]) (b := v15) (st := []) cl_X9 mv_X9_become qw_1078 dX5_become_30 ⟨Nat.le_of_ble_eq_true rfl, Nat.le_of_ble_eq_true rfl⟩ rfl (fun _ _ => rfl) (Nat.le_of_ble_eq_true rfl) ⟨Nat.le_of_ble_eq_true rfl, Nat.le_of_ble_eq_true rfl⟩ (fun M21 h19 => q_ob_is h19) (fun M21 h19 => m_X9_become h19) (fun M21 h19 => ?_)
  refine q_aload_n 0 dX5_become_33 rfl ?_
  refine q_getR (f := 3) cl_X5 (by decide) qw_86 rfl dX5_become_34 (fun _ _ _ => rfl) (fun v22 h23 => ?_)
  refine q_aload_n 1 dX5_become_37 rfl ?_
  refine q_getR (f := 3) cl_X5 (by decide) qw_86 rfl dX5_become_38 (fun _ _ _ => rfl) (fun v24 h25 => ?_)
  refine q_cVM (Y2 := Y_X9_become) (As := [.ref v24]) (b := v22) (st := []) cl_X9 mv_X9_become qw_1078 dX5_become_41 ⟨Nat.le_of_ble_eq_true rfl, Nat.le_of_ble_eq_true rfl⟩ rfl (fun _ _ => rfl) (Nat.le_of_ble_eq_true rfl) ⟨Nat.le_of_ble_eq_true rfl, Nat.le_of_ble_eq_true rfl⟩ (fun M28 h26 => q_ob_is h26) (fun M28 h26 => m_X9_become h26) (fun M28 h26 => ?_)
  refine q_aload_n 0 dX5_become_44 rfl ?_
  refine q_getR (f := 4) cl_X5 (by decide) qw_90 rfl dX5_become_45 (fun _ _ _ => rfl) (fun v29 h30 => ?_)
  refine q_aload_n 1 dX5_become_48 rfl ?_
  refine q_getR (f := 4) cl_X5 (by decide) qw_90 rfl dX5_become_49 (fun _ _ _ => rfl) (fun v31 h32 => ?_)
  refine q_cVM (Y2 := Y_X9_become) (As := [.ref v31]) (b := v29) (st := []) cl_X9 mv_X9_become qw_1078 dX5_become_52 ⟨Nat.le_of_ble_eq_true rfl, Nat.le_of_ble_eq_true rfl⟩ rfl (fun _ _ => rfl) (Nat.le_of_ble_eq_true rfl) ⟨Nat.le_of_ble_eq_true rfl, Nat.le_of_ble_eq_true rfl⟩ (fun M35 h33 => q_ob_is h33) (fun M35 h33 => m_X9_become h33) (fun M35 h33 => ?_)
  refine q_aload_n 0 dX5_become_55 rfl ?_
  refine q_getR (f := 5) cl_X5 (by decide) qw_94 rfl dX5_become_56 (fun _ _ _ => rfl) (fun v36 h37 => ?_)
  refine q_aload_n 1 dX5_become_59 rfl ?_
  refine q_getR (f := 5) cl_X5 (by decide) qw_94 rfl dX5_become_60 (fun _ _ _ => rfl) (fun v38 h39 => ?_)
  refine q_cVM (Y2 := Y_X9_become) (As := [.ref v38]) (b := v36) (st := []) cl_X9 mv_X9_become qw_1078 dX5_become_63 ⟨Nat.le_of_ble_eq_true rfl, Nat.le_of_ble_eq_true rfl⟩ rfl (fun _ _ => rfl) (Nat.le_of_ble_eq_true rfl) ⟨Nat.le_of_ble_eq_true rfl, Nat.le_of_ble_eq_true rfl⟩ (fun M42 h40 => q_ob_is h40) (fun M42 h40 => m_X9_become h40) (fun M42 h40 => ?_)
  refine q_aload_n 0 dX5_become_66 rfl ?_
  refine q_getR (f := 6) cl_X5 (by decide) qw_98 rfl dX5_become_67 (fun _ _ _ => rfl) (fun v43 h44 => ?_)
  refine q_aload_n 1 dX5_become_70 rfl ?_
  refine q_getR (f := 6) cl_X5 (by decide) qw_98 rfl dX5_become_71 (fun _ _ _ => rfl) (fun v45 h46 => ?_)
  refine q_cVM (Y2 := Y_X9_become) (As := [.ref v45]) (b := v43) (st := []) cl_X9 mv_X9_become qw_1078 dX5_become_74 ⟨Nat.le_of_ble_eq_true rfl, Nat.le_of_ble_eq_true rfl⟩ rfl (fun _ _ => rfl) (Nat.le_of_ble_eq_true rfl) ⟨Nat.le_of_ble_eq_true rfl, Nat.le_of_ble_eq_true rfl⟩ (fun M49 h47 => q_ob_is h47) (fun M49 h47 => m_X9_become h47) (fun M49 h47 => ?_)
  refine q_aload_n 0 dX5_become_77 rfl ?_
  refine q_getR (f := 7) cl_X5 (by decide) qw_101 rfl dX5_become_78 (fun _ _ _ => rfl) (fun v50 h51 => ?_)
  refine q_aload_n 1 dX5_become_81 rfl ?_
  refine q_getR (f := 7) cl_X5 (by decide) qw_101 rfl dX5_become_82 (fun _ _ _ => rfl) (fun v52 h53 => ?_)
  refine q_cVM (Y2 := Y_X9_become) (As := [.ref v52]) (b := v50) (st := []) cl_X9 mv_X9_become qw_1078 dX5_become_85 ⟨Nat.le_of_ble_eq_true rfl, Nat.le_of_ble_eq_true rfl⟩ rfl (fun _ _ => rfl) (Nat.le_of_ble_eq_true rfl) ⟨Nat.le_of_ble_eq_true rfl, Nat.le_of_ble_eq_true rfl⟩ (fun M56 h54 => q_ob_is h54) (fun M56 h54 => m_X9_become h54) (fun M56 h54 => ?_)
  refine q_aload_n 0 dX5_become_88 rfl ?_
  refine q_getR (f := 8) cl_X5 (by decide) qw_103 rfl dX5_become_89 (fun _ _ _ => rfl) (fun v57 h58 => ?_)
  refine q_aload_n 1 dX5_become_92 rfl ?_
  refine q_getR (f := 8) cl_X5 (by decide) qw_103 rfl dX5_become_93 (fun _ _ _ => rfl) (fun v59 h60 => ?_)
  refine q_cVM (Y2 := Y_X9_become) (As := [.ref v59]) (b := v57) (st := []) cl_X9 mv_X9_become qw_1078 dX5_become_96 ⟨Nat.le_of_ble_eq_true rfl, Nat.le_of_ble_eq_true rfl⟩ rfl (fun _ _ => rfl) (Nat.le_of_ble_eq_true rfl) ⟨Nat.le_of_ble_eq_true rfl, Nat.le_of_ble_eq_true rfl⟩ (fun M63 h61 => q_ob_is h61) (fun M63 h61 => m_X9_become h61) (fun M63 h61 => ?_)
  refine q_aload_n 0 dX5_become_99 rfl ?_
  refine q_getR (f := 9) cl_X5 (by decide) qw_105 rfl dX5_become_100 (fun _ _ _ => rfl) (fun v64 h65 => ?_)
  refine q_aload_n 1 dX5_become_103 rfl ?_
  refine q_getR (f := 9) cl_X5 (by decide) qw_105 rfl dX5_become_104 (fun _ _ _ => rfl) (fun v66 h67 => ?_)
  refine q_cVM (Y2 := Y_X9_become) (As := [.ref v66]) (b := v64) (st := []) cl_X9 mv_X9_become qw_1078 dX5_become_107 ⟨Nat.le_of_ble_eq_true rfl, Nat.le_of_ble_eq_true rfl⟩ rfl (fun _ _ => rfl) (Nat.le_of_ble_eq_true rfl) ⟨Nat.le_of_ble_eq_true rfl, Nat.le_of_ble_eq_true rfl⟩ (fun M70 h68 => q_ob_is h68) (fun M70 h68 => m_X9_become h68) (fun M70 h68 => ?_)
  refine q_aload_n 0 dX5_become_110 rfl ?_
  refine q_getR (f := 10) cl_X5 (by decide) qw_108 rfl dX5_become_111 (fun _ _ _ => rfl) (fun v71 h72 => ?_)
  refine q_aload_n 1 dX5_become_114 rfl ?_
  refine q_getR (f := 10) cl_X5 (by decide) qw_108 rfl dX5_become_115 (fun _ _ _ => rfl) (fun v73 h74 => ?_)
  refine q_cVM (Y2 := Y_X9_become) (As := [.ref v73]) (b := v71) (st := []) cl_X9 mv_X9_become qw_1078 dX5_become_118 ⟨Nat.le_of_ble_eq_true rfl, Nat.le_of_ble_eq_true rfl⟩ rfl (fun _ _ => rfl) (Nat.le_of_ble_eq_true rfl) ⟨Nat.le_of_ble_eq_true rfl, Nat.le_of_ble_eq_true rfl⟩ (fun M77 h75 => q_ob_is h75) (fun M77 h75 => m_X9_become h75) (fun M77 h75 => ?_)
  refine q_iconst (x := (0 : Int32)) dX5_become_121 rfl ?_
  refine q_istore_n (ls' := [(2, .int (0 : Int32)), (0, .ref a0), (1, .ref a1)]) dX5_become_122 (by decide) rfl ?_
  refine q_sub (ls' := [(0, .ref a0), (1, .ref a1), (2, .int (0 : Int32))]) [1, 2, 0] rfl ?_
  exact v_X5_become_b123 _ _ _
