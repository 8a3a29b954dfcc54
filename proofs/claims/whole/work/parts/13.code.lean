theorem dX11_together_0 : decode cX11_together 0 = .ok (.iload_n 1, 1) := by decide +kernel
theorem dX11_together_1 : decode cX11_together 1 = .ok (.iconst 1, 1) := by decide +kernel
theorem dX11_together_2 : decode cX11_together 2 = .ok (.iconst 5, 1) := by decide +kernel
theorem dX11_together_3 : decode cX11_together 3 = .ok (.invokestatic 96, 3) := by decide +kernel
theorem dX11_together_6 : decode cX11_together 6 = .ok (.ifCond .ne 7, 3) := by decide +kernel
theorem dX11_together_9 : decode cX11_together 9 = .ok (.ldc2_w 159, 3) := by decide +kernel
theorem dX11_together_12 : decode cX11_together 12 = .ok (.lreturn, 1) := by decide +kernel
theorem dX11_together_13 : decode cX11_together 13 = .ok (.aload_n 0, 1) := by decide +kernel
theorem dX11_together_14 : decode cX11_together 14 = .ok (.getfield 81, 3) := by decide +kernel
theorem dX11_together_17 : decode cX11_together 17 = .ok (.iload_n 1, 1) := by decide +kernel
theorem dX11_together_18 : decode cX11_together 18 = .ok (.invokevirtual 286, 3) := by decide +kernel
theorem dX11_together_21 : decode cX11_together 21 = .ok (.aload_n 0, 1) := by decide +kernel
theorem dX11_together_22 : decode cX11_together 22 = .ok (.getfield 81, 3) := by decide +kernel
theorem dX11_together_25 : decode cX11_together 25 = .ok (.invokevirtual 287, 3) := by decide +kernel
theorem dX11_together_28 : decode cX11_together 28 = .ok (.lreturn, 1) := by decide +kernel
def f_X11_together (M : q_Mem) (a0 : Nat) (a1 : Int32) : Option (Int64 × q_Mem) :=
  q_ob 10 M a0 ((f_X11_within M a1 (1 : Int32) (5 : Int32)).bind fun v2 =>
  (if v2 = 0 then
    some ((-2 : Int64), M)
  else
    (q_gR 10 9 M a0).bind fun v3 =>
    (f_X2_plan M v3 a1).bind fun M7 =>
    (q_gR 10 9 M7 a0).bind fun v8 =>
    (f_X2_lost M7 v8).bind fun v11 =>
    some (v11, M7)))
set_option maxRecDepth 20000 in
theorem m_X11_together {M : q_Mem} {a0 : Nat} {a1 : Int32} {x : (Int64 × q_Mem)} (h : f_X11_together M a0 a1 = some x) : q_C Y_X11_together [.ref a0, .int a1] M (some (.long x.1)) x.2 := by
  refine q_met (φ := (fun x : Int64 × q_Mem => (some (.long x.1), x.2))) (r := f_X11_together M a0 a1) (by decide +kernel) (Nat.le_of_ble_eq_true rfl) ?_ h (fun _ _ => rfl)
  show q_V Y_X11_together none (fun x : Int64 × q_Mem => (some (.long x.1), x.2)) 0 0 0 [(0, .ref a0), (1, .int a1)] [] M (f_X11_together M a0 a1)
  unfold f_X11_together
  refine q_obV ?_
  refine q_iload_n 1 dX11_together_0 rfl ?_
  refine q_iconst (x := (1 : Int32)) dX11_together_1 rfl ?_
  refine q_iconst (x := (5 : Int32)) dX11_together_2 rfl ?_
  refine q_cSI (Y2 := Y_X11_within) (As := [.int a1, .int (1 : Int32), .int (5 : Int32)]) (st := []) ms_X11_within qw_408 dX11_together_3 ⟨Nat.le_of_ble_eq_true rfl, Nat.le_of_ble_eq_true rfl⟩ rfl (fun _ _ => rfl) (Nat.le_of_ble_eq_true rfl) ⟨Nat.le_of_ble_eq_true rfl, Nat.le_of_ble_eq_true rfl⟩ (fun v2 h1 => m_X11_within h1) (fun v2 h1 => ?_)
  refine q_if_ne (tgt := 13) dX11_together_6 (by decide) (fun c12 => ?_) (fun c12 => ?_)
  · refine q_ldc2 (x := (-2 : Int64)) qw_515 dX11_together_9 ?_
    exact q_lret dX11_together_12 rfl rfl (Nat.le_of_ble_eq_true rfl) rfl
  · refine q_aload_n 0 dX11_together_13 rfl ?_
    refine q_getR (f := 9) cl_X11 (by decide) qw_376 rfl dX11_together_14 (fun _ _ _ => rfl) (fun v3 h4 => ?_)
    refine q_iload_n 1 dX11_together_17 rfl ?_
    refine q_cVM (Y2 := Y_X2_plan) (As := [.int a1]) (b := v3) (st := []) cl_X2 mv_X2_plan qw_954 dX11_together_18 ⟨Nat.le_of_ble_eq_true rfl, Nat.le_of_ble_eq_true rfl⟩ rfl (fun _ _ => rfl) (Nat.le_of_ble_eq_true rfl) ⟨Nat.le_of_ble_eq_true rfl, Nat.le_of_ble_eq_true rfl⟩ (fun M7 h5 => q_ob_is h5) (fun M7 h5 => m_X2_plan h5) (fun M7 h5 => ?_)
    refine q_aload_n 0 dX11_together_21 rfl ?_
    refine q_getR (f := 9) cl_X11 (by decide) qw_376 rfl dX11_together_22 (fun _ _ _ => rfl) (fun v8 h9 => ?_)
    refine q_cVJ (Y2 := Y_X2_lost) (As := []) (b := v8) (st := []) cl_X2 mv_X2_lost qw_993 dX11_together_25 ⟨Nat.le_of_ble_eq_true rfl, Nat.le_of_ble_eq_true rfl⟩ rfl (fun _ _ => rfl) (Nat.le_of_ble_eq_true rfl) ⟨Nat.le_of_ble_eq_true rfl, Nat.le_of_ble_eq_true rfl⟩ (fun v11 h10 => q_ob_is h10) (fun v11 h10 => m_X2_lost h10) (fun v11 h10 => ?_)
    exact q_lret dX11_together_28 rfl rfl (Nat.le_of_ble_eq_true rfl) rfl
theorem dX11_heap_0 : decode cX11_heap 0 = .ok (.iload_n 1, 1) := by decide +kernel
theorem dX11_heap_1 : decode cX11_heap 1 = .ok (.iconst 1, 1) := by decide +kernel
theorem dX11_heap_2 : decode cX11_heap 2 = .ok (.iconst 5, 1) := by decide +kernel
theorem dX11_heap_3 : decode cX11_heap 3 = .ok (.invokestatic 96, 3) := by decide +kernel
theorem dX11_heap_6 : decode cX11_heap 6 = .ok (.ifCond .eq 17, 3) := by decide +kernel
theorem dX11_heap_9 : decode cX11_heap 9 = .ok (.aload_n 0, 1) := by decide +kernel
theorem dX11_heap_10 : decode cX11_heap 10 = .ok (.getfield 12, 3) := by decide +kernel
theorem dX11_heap_13 : decode cX11_heap 13 = .ok (.getfield 74, 3) := by decide +kernel
theorem dX11_heap_16 : decode cX11_heap 16 = .ok (.iload_n 2, 1) := by decide +kernel
theorem dX11_heap_17 : decode cX11_heap 17 = .ok (.invokevirtual 117, 3) := by decide +kernel
theorem dX11_heap_20 : decode cX11_heap 20 = .ok (.ifCond .ne 6, 3) := by decide +kernel
theorem dX11_heap_23 : decode cX11_heap 23 = .ok (.bipush (-2), 2) := by decide +kernel
theorem dX11_heap_25 : decode cX11_heap 25 = .ok (.ireturn, 1) := by decide +kernel
theorem dX11_heap_26 : decode cX11_heap 26 = .ok (.aload_n 0, 1) := by decide +kernel
theorem dX11_heap_27 : decode cX11_heap 27 = .ok (.getfield 81, 3) := by decide +kernel
theorem dX11_heap_30 : decode cX11_heap 30 = .ok (.iload_n 1, 1) := by decide +kernel
theorem dX11_heap_31 : decode cX11_heap 31 = .ok (.invokevirtual 286, 3) := by decide +kernel
theorem dX11_heap_34 : decode cX11_heap 34 = .ok (.aload_n 0, 1) := by decide +kernel
theorem dX11_heap_35 : decode cX11_heap 35 = .ok (.getfield 81, 3) := by decide +kernel
theorem dX11_heap_38 : decode cX11_heap 38 = .ok (.iload_n 2, 1) := by decide +kernel
theorem dX11_heap_39 : decode cX11_heap 39 = .ok (.invokevirtual 291, 3) := by decide +kernel
theorem dX11_heap_42 : decode cX11_heap 42 = .ok (.ireturn, 1) := by decide +kernel
def f_X11_heap (M : q_Mem) (a0 : Nat) (a1 : Int32) (a2 : Int32) : Option (Int32 × q_Mem) :=
  q_ob 10 M a0 ((f_X11_within M a1 (1 : Int32) (5 : Int32)).bind fun v2 =>
  (if v2 = 0 then
    some ((-2 : Int32), M)
  else
    (q_gR 10 0 M a0).bind fun v3 =>
    (q_gR 4 7 M v3).bind fun v5 =>
    (f_X9_has M v5 a2).bind fun v8 =>
    (if v8 = 0 then
      some ((-2 : Int32), M)
    else
      (q_gR 10 9 M a0).bind fun v9 =>
      (f_X2_plan M v9 a1).bind fun M13 =>
      (q_gR 10 9 M13 a0).bind fun v14 =>
      (f_X2_leastOfHeap M13 v14 a2).bind fun v17 =>
      some (v17, M13))))
set_option maxRecDepth 20000 in
theorem m_X11_heap {M : q_Mem} {a0 : Nat} {a1 : Int32} {a2 : Int32} {x : (Int32 × q_Mem)} (h : f_X11_heap M a0 a1 a2 = some x) : q_C Y_X11_heap [.ref a0, .int a1, .int a2] M (some (.int x.1)) x.2 := by
  refine q_met (φ := (fun x : Int32 × q_Mem => (some (.int x.1), x.2))) (r := f_X11_heap M a0 a1 a2) (by decide +kernel) (Nat.le_of_ble_eq_true rfl) ?_ h (fun _ _ => rfl)
  show q_V Y_X11_heap none (fun x : Int32 × q_Mem => (some (.int x.1), x.2)) 0 0 0 [(0, .ref a0), (1, .int a1), (2, .int a2)] [] M (f_X11_heap M a0 a1 a2)
  unfold f_X11_heap
  refine q_obV ?_
  refine q_iload_n 1 dX11_heap_0 rfl ?_
  refine q_iconst (x := (1 : Int32)) dX11_heap_1 rfl ?_
  refine q_iconst (x := (5 : Int32)) dX11_heap_2 rfl ?_
  refine q_cSI (Y2 := Y_X11_within) (As := [.int a1, .int (1 : Int32), .int (5 : Int32)]) (st := []) ms_X11_within qw_408 dX11_heap_3 ⟨Nat.le_of_ble_eq_true rfl, Nat.le_of_ble_eq_true rfl⟩ rfl (fun _ _ => rfl) (Nat.le_of_ble_eq_true rfl) ⟨Nat.le_of_ble_eq_true rfl, Nat.le_of_ble_eq_true rfl⟩ (fun v2 h1 => m_X11_within h1) (fun v2 h1 => ?_)
  refine q_if_eq (tgt := 23) dX11_heap_6 (by decide) (fun c19 => ?_) (fun c19 => ?_)
  · refine q_bipush (x := (-2 : Int32)) dX11_heap_23 rfl ?_
    exact q_iret dX11_heap_25 rfl rfl (Nat.le_of_ble_eq_true rfl) rfl
  · refine q_aload_n 0 dX11_heap_9 rfl ?_
    refine q_getR (f := 0) cl_X11 (by decide) qw_367 rfl dX11_heap_10 (fun _ _ _ => rfl) (fun v3 h4 => ?_)
    refine q_getR (f := 7) cl_X5 (by decide) qw_102 rfl dX11_heap_13 (fun _ _ _ => rfl) (fun v5 h6 => ?_)
    refine q_iload_n 2 dX11_heap_16 rfl ?_
    refine q_cVI (Y2 := Y_X9_has) (As := [.int a2]) (b := v5) (st := []) cl_X9 mv_X9_has qw_420 dX11_heap_17 ⟨Nat.le_of_ble_eq_true rfl, Nat.le_of_ble_eq_true rfl⟩ rfl (fun _ _ => rfl) (Nat.le_of_ble_eq_true rfl) ⟨Nat.le_of_ble_eq_true rfl, Nat.le_of_ble_eq_true rfl⟩ (fun v8 h7 => q_ob_is h7) (fun v8 h7 => m_X9_has h7) (fun v8 h7 => ?_)
    refine q_if_ne (tgt := 26) dX11_heap_20 (by decide) (fun c18 => ?_) (fun c18 => ?_)
    · refine q_bipush (x := (-2 : Int32)) dX11_heap_23 rfl ?_
      exact q_iret dX11_heap_25 rfl rfl (Nat.le_of_ble_eq_true rfl) rfl
    · refine q_aload_n 0 dX11_heap_26 rfl ?_
      refine q_getR (f := 9) cl_X11 (by decide) qw_376 rfl dX11_heap_27 (fun _ _ _ => rfl) (fun v9 h10 => ?_)
      refine q_iload_n 1 dX11_heap_30 rfl ?_
      refine q_cVM (Y2 := Y_X2_plan) (As := [.int a1]) (b := v9) (st := []) cl_X2 mv_X2_plan qw_954 dX11_heap_31 ⟨Nat.le_of_ble_eq_true rfl, Nat.le_of_ble_eq_true rfl⟩ rfl (fun _ _ => rfl) (Nat.le_of_ble_eq_true rfl) ⟨Nat.le_of_ble_eq_true rfl, Nat.le_of_ble_eq_true rfl⟩ (fun M13 h11 => q_ob_is h11) (fun M13 h11 => m_X2_plan h11) (fun M13 h11 => ?_)
      refine q_aload_n 0 dX11_heap_34 rfl ?_
      refine q_getR (f := 9) cl_X11 (by decide) qw_376 rfl dX11_heap_35 (fun _ _ _ => rfl) (fun v14 h15 => ?_)
      refine q_iload_n 2 dX11_heap_38 rfl ?_
      refine q_cVI (Y2 := Y_X2_leastOfHeap) (As := [.int a2]) (b := v14) (st := []) cl_X2 mv_X2_leastOfHeap qw_1001 dX11_heap_39 ⟨Nat.le_of_ble_eq_true rfl, Nat.le_of_ble_eq_true rfl⟩ rfl (fun _ _ => rfl) (Nat.le_of_ble_eq_true rfl) ⟨Nat.le_of_ble_eq_true rfl, Nat.le_of_ble_eq_true rfl⟩ (fun v17 h16 => q_ob_is h16) (fun v17 h16 => m_X2_leastOfHeap h16) (fun v17 h16 => ?_)
      exact q_iret dX11_heap_42 rfl rfl (Nat.le_of_ble_eq_true rfl) rfl
theorem dX11_gives_0 : decode cX11_gives 0 = .ok (.iload_n 1, 1) := by decide +kernel
theorem dX11_gives_1 : decode cX11_gives 1 = .ok (.ifCond .lt 26, 3) := by decide +kernel
theorem dX11_gives_4 : decode cX11_gives 4 = .ok (.iload_n 1, 1) := by decide +kernel
theorem dX11_gives_5 : decode cX11_gives 5 = .ok (.aload_n 0, 1) := by decide +kernel
theorem dX11_gives_6 : decode cX11_gives 6 = .ok (.getfield 12, 3) := by decide +kernel
theorem dX11_gives_9 : decode cX11_gives 9 = .ok (.getfield 294, 3) := by decide +kernel
theorem dX11_gives_12 : decode cX11_gives 12 = .ok (.arraylength, 1) := by decide +kernel
theorem dX11_gives_13 : decode cX11_gives 13 = .ok (.if_icmp .ge 14, 3) := by decide +kernel
theorem dX11_gives_16 : decode cX11_gives 16 = .ok (.iload_n 2, 1) := by decide +kernel
theorem dX11_gives_17 : decode cX11_gives 17 = .ok (.iconst 0, 1) := by decide +kernel
theorem dX11_gives_18 : decode cX11_gives 18 = .ok (.sipush 500, 3) := by decide +kernel
theorem dX11_gives_21 : decode cX11_gives 21 = .ok (.invokestatic 96, 3) := by decide +kernel
theorem dX11_gives_24 : decode cX11_gives 24 = .ok (.ifCond .ne 6, 3) := by decide +kernel
theorem dX11_gives_27 : decode cX11_gives 27 = .ok (.bipush (-2), 2) := by decide +kernel
theorem dX11_gives_29 : decode cX11_gives 29 = .ok (.ireturn, 1) := by decide +kernel
theorem dX11_gives_30 : decode cX11_gives 30 = .ok (.aload_n 0, 1) := by decide +kernel
theorem dX11_gives_31 : decode cX11_gives 31 = .ok (.getfield 12, 3) := by decide +kernel
theorem dX11_gives_34 : decode cX11_gives 34 = .ok (.getfield 294, 3) := by decide +kernel
theorem dX11_gives_37 : decode cX11_gives 37 = .ok (.iload_n 1, 1) := by decide +kernel
theorem dX11_gives_38 : decode cX11_gives 38 = .ok (.iaload, 1) := by decide +kernel
theorem dX11_gives_39 : decode cX11_gives 39 = .ok (.istore_n 3, 1) := by decide +kernel
theorem dX11_gives_40 : decode cX11_gives 40 = .ok (.aload_n 0, 1) := by decide +kernel
theorem dX11_gives_41 : decode cX11_gives 41 = .ok (.getfield 12, 3) := by decide +kernel
theorem dX11_gives_44 : decode cX11_gives 44 = .ok (.getfield 294, 3) := by decide +kernel
theorem dX11_gives_47 : decode cX11_gives 47 = .ok (.iload_n 1, 1) := by decide +kernel
theorem dX11_gives_48 : decode cX11_gives 48 = .ok (.iload_n 2, 1) := by decide +kernel
theorem dX11_gives_49 : decode cX11_gives 49 = .ok (.iastore, 1) := by decide +kernel
theorem dX11_gives_50 : decode cX11_gives 50 = .ok (.iload_n 3, 1) := by decide +kernel
theorem dX11_gives_51 : decode cX11_gives 51 = .ok (.ireturn, 1) := by decide +kernel
def f_X11_gives (M : q_Mem) (a0 : Nat) (a1 : Int32) (a2 : Int32) : Option (Int32 × q_Mem) :=
  q_ob 10 M a0 ((if a1 < 0 then
    some ((-2 : Int32), M)
  else
    (q_gR 10 0 M a0).bind fun v1 =>
    (q_gR 4 12 M v1).bind fun v3 =>
    (q_ln M v3).bind fun v5 =>
    (if a1 < v5 then
      (f_X11_within M a2 (0 : Int32) (500 : Int32)).bind fun v8 =>
      (if v8 = 0 then
        some ((-2 : Int32), M)
      else
        (q_gR 10 0 M a0).bind fun v9 =>
        (q_gR 4 12 M v9).bind fun v11 =>
        (q_lI M v11 a1).bind fun v13 =>
        (q_gR 10 0 M a0).bind fun v15 =>
        (q_gR 4 12 M v15).bind fun v17 =>
        (q_tI M v17 a1 a2).bind fun M19 =>
        some (v13, M19))
    else
      some ((-2 : Int32), M))))
set_option maxRecDepth 20000 in
theorem m_X11_gives {M : q_Mem} {a0 : Nat} {a1 : Int32} {a2 : Int32} {x : (Int32 × q_Mem)} (h : f_X11_gives M a0 a1 a2 = some x) : q_C Y_X11_gives [.ref a0, .int a1, .int a2] M (some (.int x.1)) x.2 := by
  refine q_met (φ := (fun x : Int32 × q_Mem => (some (.int x.1), x.2))) (r := f_X11_gives M a0 a1 a2) (by decide +kernel) (Nat.le_of_ble_eq_true rfl) ?_ h (fun _ _ => rfl)
  show q_V Y_X11_gives none (fun x : Int32 × q_Mem => (some (.int x.1), x.2)) 0 0 0 [(0, .ref a0), (1, .int a1), (2, .int a2)] [] M (f_X11_gives M a0 a1 a2)
  unfold f_X11_gives
  refine q_obV ?_
  refine q_iload_n 1 dX11_gives_0 rfl ?_
  refine q_if_lt (tgt := 27) dX11_gives_1 (by decide) (fun c23 => ?_) (fun c23 => ?_)
  · refine q_bipush (x := (-2 : Int32)) dX11_gives_27 rfl ?_
    exact q_iret dX11_gives_29 rfl rfl (Nat.le_of_ble_eq_true rfl) rfl
  · refine q_iload_n 1 dX11_gives_4 rfl ?_
    refine q_aload_n 0 dX11_gives_5 rfl ?_
    refine q_getR (f := 0) cl_X11 (by decide) qw_367 rfl dX11_gives_6 (fun _ _ _ => rfl) (fun v1 h2 => ?_)
    refine q_getR (f := 12) cl_X5 (by decide) qw_113 rfl dX11_gives_9 (fun _ _ _ => rfl) (fun v3 h4 => ?_)
    refine q_alen dX11_gives_12 (fun v5 h6 => ?_)
    refine q_icmp_ge (tgt := 27) dX11_gives_13 (by decide) (fun c22 => ?_) (fun c22 => ?_)
    · refine q_iload_n 2 dX11_gives_16 rfl ?_
      refine q_iconst (x := (0 : Int32)) dX11_gives_17 rfl ?_
      refine q_sipush (x := (500 : Int32)) dX11_gives_18 rfl ?_
      refine q_cSI (Y2 := Y_X11_within) (As := [.int a2, .int (0 : Int32), .int (500 : Int32)]) (st := []) ms_X11_within qw_408 dX11_gives_21 ⟨Nat.le_of_ble_eq_true rfl, Nat.le_of_ble_eq_true rfl⟩ rfl (fun _ _ => rfl) (Nat.le_of_ble_eq_true rfl) ⟨Nat.le_of_ble_eq_true rfl, Nat.le_of_ble_eq_true rfl⟩ (fun v8 h7 => m_X11_within h7) (fun v8 h7 => ?_)
      refine q_if_ne (tgt := 30) dX11_gives_24 (by decide) (fun c21 => ?_) (fun c21 => ?_)
      · refine q_bipush (x := (-2 : Int32)) dX11_gives_27 rfl ?_
        exact q_iret dX11_gives_29 rfl rfl (Nat.le_of_ble_eq_true rfl) rfl
      · refine q_aload_n 0 dX11_gives_30 rfl ?_
        refine q_getR (f := 0) cl_X11 (by decide) qw_367 rfl dX11_gives_31 (fun _ _ _ => rfl) (fun v9 h10 => ?_)
        refine q_getR (f := 12) cl_X5 (by decide) qw_113 rfl dX11_gives_34 (fun _ _ _ => rfl) (fun v11 h12 => ?_)
        refine q_iload_n 1 dX11_gives_37 rfl ?_
        refine q_iald dX11_gives_38 (fun v13 h14 => ?_)
        refine q_istore_n (ls' := [(3, .int v13), (0, .ref a0), (1, .int a1), (2, .int a2)]) dX11_gives_39 (by decide) rfl ?_
        refine q_aload_n 1 dX11_gives_40 rfl ?_
        refine q_getR (f := 0) cl_X11 (by decide) qw_367 rfl dX11_gives_41 (fun _ _ _ => rfl) (fun v15 h16 => ?_)
        refine q_getR (f := 12) cl_X5 (by decide) qw_113 rfl dX11_gives_44 (fun _ _ _ => rfl) (fun v17 h18 => ?_)
        refine q_iload_n 2 dX11_gives_47 rfl ?_
        refine q_iload_n 3 dX11_gives_48 rfl ?_
        refine q_iast dX11_gives_49 (fun M19 h20 => ?_)
        refine q_iload_n 0 dX11_gives_50 rfl ?_
        exact q_iret dX11_gives_51 rfl rfl (Nat.le_of_ble_eq_true rfl) rfl
    · refine q_bipush (x := (-2 : Int32)) dX11_gives_27 rfl ?_
      exact q_iret dX11_gives_29 rfl rfl (Nat.le_of_ble_eq_true rfl) rfl
theorem dX11_calved_0 : decode cX11_calved 0 = .ok (.aload_n 0, 1) := by decide +kernel
theorem dX11_calved_1 : decode cX11_calved 1 = .ok (.getfield 12, 3) := by decide +kernel
theorem dX11_calved_4 : decode cX11_calved 4 = .ok (.getfield 100, 3) := by decide +kernel
theorem dX11_calved_7 : decode cX11_calved 7 = .ok (.iload_n 1, 1) := by decide +kernel
theorem dX11_calved_8 : decode cX11_calved 8 = .ok (.invokevirtual 117, 3) := by decide +kernel
theorem dX11_calved_11 : decode cX11_calved 11 = .ok (.ifCond .eq 24, 3) := by decide +kernel
theorem dX11_calved_14 : decode cX11_calved 14 = .ok (.iload_n 2, 1) := by decide +kernel
theorem dX11_calved_15 : decode cX11_calved 15 = .ok (.bipush (-51), 2) := by decide +kernel
theorem dX11_calved_17 : decode cX11_calved 17 = .ok (.bipush 27, 2) := by decide +kernel
theorem dX11_calved_19 : decode cX11_calved 19 = .ok (.invokestatic 96, 3) := by decide +kernel
theorem dX11_calved_22 : decode cX11_calved 22 = .ok (.ifCond .eq 13, 3) := by decide +kernel
theorem dX11_calved_25 : decode cX11_calved 25 = .ok (.iload_n 3, 1) := by decide +kernel
theorem dX11_calved_26 : decode cX11_calved 26 = .ok (.iconst 1, 1) := by decide +kernel
theorem dX11_calved_27 : decode cX11_calved 27 = .ok (.bipush 60, 2) := by decide +kernel
theorem dX11_calved_29 : decode cX11_calved 29 = .ok (.invokestatic 96, 3) := by decide +kernel
theorem dX11_calved_32 : decode cX11_calved 32 = .ok (.ifCond .ne 6, 3) := by decide +kernel
theorem dX11_calved_35 : decode cX11_calved 35 = .ok (.bipush (-2), 2) := by decide +kernel
theorem dX11_calved_37 : decode cX11_calved 37 = .ok (.ireturn, 1) := by decide +kernel
theorem dX11_calved_38 : decode cX11_calved 38 = .ok (.aload_n 0, 1) := by decide +kernel
theorem dX11_calved_39 : decode cX11_calved 39 = .ok (.getfield 12, 3) := by decide +kernel
theorem dX11_calved_42 : decode cX11_calved 42 = .ok (.getfield 297, 3) := by decide +kernel
theorem dX11_calved_45 : decode cX11_calved 45 = .ok (.iload_n 1, 1) := by decide +kernel
theorem dX11_calved_46 : decode cX11_calved 46 = .ok (.iload_n 2, 1) := by decide +kernel
theorem dX11_calved_47 : decode cX11_calved 47 = .ok (.iload_n 3, 1) := by decide +kernel
theorem dX11_calved_48 : decode cX11_calved 48 = .ok (.invokevirtual 103, 3) := by decide +kernel
theorem dX11_calved_51 : decode cX11_calved 51 = .ok (.istore 4, 2) := by decide +kernel
theorem dX11_calved_53 : decode cX11_calved 53 = .ok (.iload 4, 2) := by decide +kernel
theorem dX11_calved_55 : decode cX11_calved 55 = .ok (.bipush (-4), 2) := by decide +kernel
theorem dX11_calved_57 : decode cX11_calved 57 = .ok (.if_icmp .ne 8, 3) := by decide +kernel
theorem dX11_calved_60 : decode cX11_calved 60 = .ok (.bipush (-4), 2) := by decide +kernel
theorem dX11_calved_62 : decode cX11_calved 62 = .ok (.goto 13, 3) := by decide +kernel
theorem dX11_calved_65 : decode cX11_calved 65 = .ok (.aload_n 0, 1) := by decide +kernel
theorem dX11_calved_66 : decode cX11_calved 66 = .ok (.getfield 12, 3) := by decide +kernel
theorem dX11_calved_69 : decode cX11_calved 69 = .ok (.getfield 297, 3) := by decide +kernel
theorem dX11_calved_72 : decode cX11_calved 72 = .ok (.getfield 283, 3) := by decide +kernel
theorem dX11_calved_75 : decode cX11_calved 75 = .ok (.ireturn, 1) := by decide +kernel
def f_X11_calved (M : q_Mem) (a0 : Nat) (a1 : Int32) (a2 : Int32) (a3 : Int32) : Option (Int32 × q_Mem) :=
  q_ob 10 M a0 ((q_gR 10 0 M a0).bind fun v1 =>
  (q_gR 4 0 M v1).bind fun v3 =>
  (f_X9_has M v3 a1).bind fun v6 =>
  (if v6 = 0 then
    some ((-2 : Int32), M)
  else
    (f_X11_within M a2 (-51 : Int32) (27 : Int32)).bind fun v8 =>
    (if v8 = 0 then
      some ((-2 : Int32), M)
    else
      (f_X11_within M a3 (1 : Int32) (60 : Int32)).bind fun v10 =>
      (if v10 = 0 then
        some ((-2 : Int32), M)
      else
        (q_gR 10 0 M a0).bind fun v11 =>
        (q_gR 4 8 M v11).bind fun v13 =>
        (f_X9_come M v13 a1 a2 a3).bind fun r16 =>
        (if r16.1 = (-4 : Int32) then
          some ((-4 : Int32), r16.2)
        else
          (q_gR 10 0 r16.2 a0).bind fun v17 =>
          (q_gR 4 8 r16.2 v17).bind fun v19 =>
          (q_gI 8 3 r16.2 v19).bind fun v21 =>
          some (v21, r16.2))))))
set_option maxRecDepth 20000 in
theorem m_X11_calved {M : q_Mem} {a0 : Nat} {a1 : Int32} {a2 : Int32} {a3 : Int32} {x : (Int32 × q_Mem)} (h : f_X11_calved M a0 a1 a2 a3 = some x) : q_C Y_X11_calved [.ref a0, .int a1, .int a2, .int a3] M (some (.int x.1)) x.2 := by
  refine q_met (φ := (fun x : Int32 × q_Mem => (some (.int x.1), x.2))) (r := f_X11_calved M a0 a1 a2 a3) (by decide +kernel) (Nat.le_of_ble_eq_true rfl) ?_ h (fun _ _ => rfl)
  show q_V Y_X11_calved none (fun x : Int32 × q_Mem => (some (.int x.1), x.2)) 0 0 0 [(0, .ref a0), (1, .int a1), (2, .int a2), (3, .int a3)] [] M (f_X11_calved M a0 a1 a2 a3)
  unfold f_X11_calved
  refine q_obV ?_
  refine q_aload_n 0 dX11_calved_0 rfl ?_
  refine q_getR (f := 0) cl_X11 (by decide) qw_367 rfl dX11_calved_1 (fun _ _ _ => rfl) (fun v1 h2 => ?_)
  refine q_getR (f := 0) cl_X5 (by decide) qw_72 rfl dX11_calved_4 (fun _ _ _ => rfl) (fun v3 h4 => ?_)
  refine q_iload_n 1 dX11_calved_7 rfl ?_
  refine q_cVI (Y2 := Y_X9_has) (As := [.int a1]) (b := v3) (st := []) cl_X9 mv_X9_has qw_420 dX11_calved_8 ⟨Nat.le_of_ble_eq_true rfl, Nat.le_of_ble_eq_true rfl⟩ rfl (fun _ _ => rfl) (Nat.le_of_ble_eq_true rfl) ⟨Nat.le_of_ble_eq_true rfl, Nat.le_of_ble_eq_true rfl⟩ (fun v6 h5 => q_ob_is h5) (fun v6 h5 => m_X9_has h5) (fun v6 h5 => ?_)
  refine q_if_eq (tgt := 35) dX11_calved_11 (by decide) (fun c26 => ?_) (fun c26 => ?_)
  · refine q_bipush (x := (-2 : Int32)) dX11_calved_35 rfl ?_
    exact q_iret dX11_calved_37 rfl rfl (Nat.le_of_ble_eq_true rfl) rfl
  · refine q_iload_n 2 dX11_calved_14 rfl ?_
    refine q_bipush (x := (-51 : Int32)) dX11_calved_15 rfl ?_
    refine q_bipush (x := (27 : Int32)) dX11_calved_17 rfl ?_
    refine q_cSI (Y2 := Y_X11_within) (As := [.int a2, .int (-51 : Int32), .int (27 : Int32)]) (st := []) ms_X11_within qw_408 dX11_calved_19 ⟨Nat.le_of_ble_eq_true rfl, Nat.le_of_ble_eq_true rfl⟩ rfl (fun _ _ => rfl) (Nat.le_of_ble_eq_true rfl) ⟨Nat.le_of_ble_eq_true rfl, Nat.le_of_ble_eq_true rfl⟩ (fun v8 h7 => m_X11_within h7) (fun v8 h7 => ?_)
    refine q_if_eq (tgt := 35) dX11_calved_22 (by decide) (fun c25 => ?_) (fun c25 => ?_)
    · refine q_bipush (x := (-2 : Int32)) dX11_calved_35 rfl ?_
      exact q_iret dX11_calved_37 rfl rfl (Nat.le_of_ble_eq_true rfl) rfl
    · refine q_iload_n 3 dX11_calved_25 rfl ?_
      refine q_iconst (x := (1 : Int32)) dX11_calved_26 rfl ?_
      refine q_bipush (x := (60 : Int32)) dX11_calved_27 rfl ?_
      refine q_cSI (Y2 := Y_X11_within) (As := [.int a3, .int (1 : Int32), .int (60 : Int32)]) (st := []) ms_X11_within qw_408 dX11_calved_29 ⟨Nat.le_of_ble_eq_true rfl, Nat.le_of_ble_eq_true rfl⟩ rfl (fun _ _ => rfl) (Nat.le_of_ble_eq_true rfl) ⟨Nat.le_of_ble_eq_true rfl, Nat.le_of_ble_eq_true rfl⟩ (fun v10 h9 => m_X11_within h9) (fun v10 h9 => ?_)
      refine q_if_ne (tgt := 38) dX11_calved_32 (by decide) (fun c24 => ?_) (fun c24 => ?_)
      · refine q_bipush (x := (-2 : Int32)) dX11_calved_35 rfl ?_
        exact q_iret dX11_calved_37 rfl rfl (Nat.le_of_ble_eq_true rfl) rfl
      · refine q_aload_n 0 dX11_calved_38 rfl ?_
        refine q_getR (f := 0) cl_X11 (by decide) qw_367 rfl dX11_calved_39 (fun _ _ _ => rfl) (fun v11 h12 => ?_)
        refine q_getR (f := 8) cl_X5 (by decide) qw_104 rfl dX11_calved_42 (fun _ _ _ => rfl) (fun v13 h14 => ?_)
        refine q_iload_n 1 dX11_calved_45 rfl ?_
        refine q_iload_n 2 dX11_calved_46 rfl ?_
        refine q_iload_n 3 dX11_calved_47 rfl ?_
        refine q_cVMI (Y2 := Y_X9_come) (As := [.int a1, .int a2, .int a3]) (b := v13) (st := []) cl_X9 mv_X9_come qw_411 dX11_calved_48 ⟨Nat.le_of_ble_eq_true rfl, Nat.le_of_ble_eq_true rfl⟩ rfl (fun _ _ => rfl) (Nat.le_of_ble_eq_true rfl) ⟨Nat.le_of_ble_eq_true rfl, Nat.le_of_ble_eq_true rfl⟩ (fun r16 h15 => q_ob_is h15) (fun r16 h15 => m_X9_come h15) (fun r16 h15 => ?_)
        refine q_istore (ls' := [(4, .int r16.1), (0, .ref a0), (1, .int a1), (2, .int a2), (3, .int a3)]) dX11_calved_51 (by decide) rfl ?_
        refine q_iload 0 dX11_calved_53 rfl ?_
        refine q_bipush (x := (-4 : Int32)) dX11_calved_55 rfl ?_
        refine q_icmp_ne (tgt := 65) dX11_calved_57 (by decide) (fun c23 => ?_) (fun c23 => ?_)
        · refine q_bipush (x := (-4 : Int32)) dX11_calved_60 rfl ?_
          refine q_goto (tgt := 75) dX11_calved_62 (by decide) ?_
          exact q_iret dX11_calved_75 rfl rfl (Nat.le_of_ble_eq_true rfl) rfl
        · refine q_aload_n 1 dX11_calved_65 rfl ?_
          refine q_getR (f := 0) cl_X11 (by decide) qw_367 rfl dX11_calved_66 (fun _ _ _ => rfl) (fun v17 h18 => ?_)
          refine q_getR (f := 8) cl_X5 (by decide) qw_104 rfl dX11_calved_69 (fun _ _ _ => rfl) (fun v19 h20 => ?_)
          refine q_getI (f := 3) cl_X9 (by decide) qw_52 rfl dX11_calved_72 (Or.inl rfl) (fun v21 h22 => ?_)
          exact q_iret dX11_calved_75 rfl rfl (Nat.le_of_ble_eq_true rfl) rfl
theorem dX11_foretold_0 : decode cX11_foretold 0 = .ok (.aload_n 0, 1) := by decide +kernel
theorem dX11_foretold_1 : decode cX11_foretold 1 = .ok (.getfield 12, 3) := by decide +kernel
theorem dX11_foretold_4 : decode cX11_foretold 4 = .ok (.getfield 100, 3) := by decide +kernel
theorem dX11_foretold_7 : decode cX11_foretold 7 = .ok (.iload_n 1, 1) := by decide +kernel
theorem dX11_foretold_8 : decode cX11_foretold 8 = .ok (.invokevirtual 117, 3) := by decide +kernel
theorem dX11_foretold_11 : decode cX11_foretold 11 = .ok (.ifCond .eq 10, 3) := by decide +kernel
theorem dX11_foretold_14 : decode cX11_foretold 14 = .ok (.iload_n 2, 1) := by decide +kernel
theorem dX11_foretold_15 : decode cX11_foretold 15 = .ok (.invokestatic 156, 3) := by decide +kernel
theorem dX11_foretold_18 : decode cX11_foretold 18 = .ok (.ifCond .ne 6, 3) := by decide +kernel
theorem dX11_foretold_21 : decode cX11_foretold 21 = .ok (.bipush (-2), 2) := by decide +kernel
theorem dX11_foretold_23 : decode cX11_foretold 23 = .ok (.ireturn, 1) := by decide +kernel
theorem dX11_foretold_24 : decode cX11_foretold 24 = .ok (.aload_n 0, 1) := by decide +kernel
theorem dX11_foretold_25 : decode cX11_foretold 25 = .ok (.getfield 12, 3) := by decide +kernel
theorem dX11_foretold_28 : decode cX11_foretold 28 = .ok (.getfield 297, 3) := by decide +kernel
theorem dX11_foretold_31 : decode cX11_foretold 31 = .ok (.astore_n 3, 1) := by decide +kernel
theorem dX11_foretold_32 : decode cX11_foretold 32 = .ok (.iconst 0, 1) := by decide +kernel
theorem dX11_foretold_33 : decode cX11_foretold 33 = .ok (.istore 4, 2) := by decide +kernel
theorem dX11_foretold_35 : decode cX11_foretold 35 = .ok (.iconst 0, 1) := by decide +kernel
theorem dX11_foretold_36 : decode cX11_foretold 36 = .ok (.istore 5, 2) := by decide +kernel
theorem dX11_foretold_38 : decode cX11_foretold 38 = .ok (.iload 5, 2) := by decide +kernel
theorem dX11_foretold_40 : decode cX11_foretold 40 = .ok (.aload_n 3, 1) := by decide +kernel
theorem dX11_foretold_41 : decode cX11_foretold 41 = .ok (.getfield 283, 3) := by decide +kernel
theorem dX11_foretold_44 : decode cX11_foretold 44 = .ok (.if_icmp .ge 72, 3) := by decide +kernel
theorem dX11_foretold_47 : decode cX11_foretold 47 = .ok (.iload_n 2, 1) := by decide +kernel
theorem dX11_foretold_48 : decode cX11_foretold 48 = .ok (.aload_n 3, 1) := by decide +kernel
theorem dX11_foretold_49 : decode cX11_foretold 49 = .ok (.iload 5, 2) := by decide +kernel
theorem dX11_foretold_51 : decode cX11_foretold 51 = .ok (.iconst 1, 1) := by decide +kernel
theorem dX11_foretold_52 : decode cX11_foretold 52 = .ok (.invokevirtual 133, 3) := by decide +kernel
theorem dX11_foretold_55 : decode cX11_foretold 55 = .ok (.isub, 1) := by decide +kernel
theorem dX11_foretold_56 : decode cX11_foretold 56 = .ok (.istore 6, 2) := by decide +kernel
theorem dX11_foretold_58 : decode cX11_foretold 58 = .ok (.aload_n 3, 1) := by decide +kernel
theorem dX11_foretold_59 : decode cX11_foretold 59 = .ok (.iload 5, 2) := by decide +kernel
theorem dX11_foretold_61 : decode cX11_foretold 61 = .ok (.iconst 0, 1) := by decide +kernel
theorem dX11_foretold_62 : decode cX11_foretold 62 = .ok (.invokevirtual 133, 3) := by decide +kernel
theorem dX11_foretold_65 : decode cX11_foretold 65 = .ok (.iload_n 1, 1) := by decide +kernel
theorem dX11_foretold_66 : decode cX11_foretold 66 = .ok (.if_icmp .ne 44, 3) := by decide +kernel
theorem dX11_foretold_69 : decode cX11_foretold 69 = .ok (.iload 6, 2) := by decide +kernel
theorem dX11_foretold_71 : decode cX11_foretold 71 = .ok (.ifCond .lt 39, 3) := by decide +kernel
theorem dX11_foretold_74 : decode cX11_foretold 74 = .ok (.iload 6, 2) := by decide +kernel
theorem dX11_foretold_76 : decode cX11_foretold 76 = .ok (.aload_n 0, 1) := by decide +kernel
theorem dX11_foretold_77 : decode cX11_foretold 77 = .ok (.getfield 12, 3) := by decide +kernel
theorem dX11_foretold_80 : decode cX11_foretold 80 = .ok (.getfield 294, 3) := by decide +kernel
theorem dX11_foretold_83 : decode cX11_foretold 83 = .ok (.arraylength, 1) := by decide +kernel
theorem dX11_foretold_84 : decode cX11_foretold 84 = .ok (.if_icmp .ge 26, 3) := by decide +kernel
theorem dX11_foretold_87 : decode cX11_foretold 87 = .ok (.iload 4, 2) := by decide +kernel
theorem dX11_foretold_89 : decode cX11_foretold 89 = .ok (.aload_n 3, 1) := by decide +kernel
theorem dX11_foretold_90 : decode cX11_foretold 90 = .ok (.iload 5, 2) := by decide +kernel
theorem dX11_foretold_92 : decode cX11_foretold 92 = .ok (.iconst 2, 1) := by decide +kernel
theorem dX11_foretold_93 : decode cX11_foretold 93 = .ok (.invokevirtual 133, 3) := by decide +kernel
theorem dX11_foretold_96 : decode cX11_foretold 96 = .ok (.aload_n 0, 1) := by decide +kernel
theorem dX11_foretold_97 : decode cX11_foretold 97 = .ok (.getfield 12, 3) := by decide +kernel
theorem dX11_foretold_100 : decode cX11_foretold 100 = .ok (.getfield 294, 3) := by decide +kernel
theorem dX11_foretold_103 : decode cX11_foretold 103 = .ok (.iload 6, 2) := by decide +kernel
theorem dX11_foretold_105 : decode cX11_foretold 105 = .ok (.iaload, 1) := by decide +kernel
theorem dX11_foretold_106 : decode cX11_foretold 106 = .ok (.imul, 1) := by decide +kernel
theorem dX11_foretold_107 : decode cX11_foretold 107 = .ok (.iadd, 1) := by decide +kernel
theorem dX11_foretold_108 : decode cX11_foretold 108 = .ok (.istore 4, 2) := by decide +kernel
theorem dX11_foretold_110 : decode cX11_foretold 110 = .ok (.iinc 5 1, 3) := by decide +kernel
theorem dX11_foretold_113 : decode cX11_foretold 113 = .ok (.goto (-75), 3) := by decide +kernel
theorem dX11_foretold_116 : decode cX11_foretold 116 = .ok (.iload 4, 2) := by decide +kernel
theorem dX11_foretold_118 : decode cX11_foretold 118 = .ok (.ireturn, 1) := by decide +kernel
def f_X11_foretold_b38 (M : q_Mem) (a0 : Nat) (a1 : Int32) (a2 : Int32) (a3 : Nat) : Nat → Int32 → Int32 → Option Int32
  | 0, _, _ => none
  | n + 1, a4, a5 =>
    (q_gI 8 3 M a3).bind fun v15 =>
    (if a5 < v15 then
      (f_X9_at M a3 a5 (1 : Int32)).bind fun v18 =>
      (f_X9_at M a3 a5 (0 : Int32)).bind fun v20 =>
      (if v20 = a1 then
        (if (a2 - v18) < 0 then
          f_X11_foretold_b38 M a0 a1 a2 a3 n a4 (a5 + (1 : Int32))
        else
          (q_gR 10 0 M a0).bind fun v21 =>
          (q_gR 4 12 M v21).bind fun v23 =>
          (q_ln M v23).bind fun v25 =>
          (if (a2 - v18) < v25 then
            (f_X9_at M a3 a5 (2 : Int32)).bind fun v28 =>
            (q_gR 10 0 M a0).bind fun v29 =>
            (q_gR 4 12 M v29).bind fun v31 =>
            (q_lI M v31 (a2 - v18)).bind fun v33 =>
            f_X11_foretold_b38 M a0 a1 a2 a3 n (a4 + (v28 * v33)) (a5 + (1 : Int32))
          else
            f_X11_foretold_b38 M a0 a1 a2 a3 n a4 (a5 + (1 : Int32))))
      else
        f_X11_foretold_b38 M a0 a1 a2 a3 n a4 (a5 + (1 : Int32)))
    else
      some a4)
def f_X11_foretold (M : q_Mem) (a0 : Nat) (a1 : Int32) (a2 : Int32) : Option Int32 :=
  q_ob 10 M a0 ((q_gR 10 0 M a0).bind fun v1 =>
  (q_gR 4 0 M v1).bind fun v3 =>
  (f_X9_has M v3 a1).bind fun v6 =>
  (if v6 = 0 then
    some (-2 : Int32)
  else
    (f_X11_isWeek M a2).bind fun v8 =>
    (if v8 = 0 then
      some (-2 : Int32)
    else
      (q_gR 10 0 M a0).bind fun v9 =>
      (q_gR 4 8 M v9).bind fun v11 =>
      f_X11_foretold_b38 M a0 a1 a2 v11 q_fuel (0 : Int32) (0 : Int32))))
set_option maxRecDepth 20000 in
theorem v_X11_foretold_b38 {M : q_Mem} {a0 : Nat} {a1 : Int32} {a2 : Int32} {a3 : Nat}  : ∀ (n : Nat) (a4 : Int32) (a5 : Int32), q_V Y_X11_foretold none (fun x : Int32 => (some (.int x), M)) 0 0 38 [(0, .ref a0), (1, .int a1), (2, .int a2), (3, .ref a3), (4, .int a4), (5, .int a5)] [] M (f_X11_foretold_b38 M a0 a1 a2 a3 n a4 a5) := by
  intro n
  induction n with
  | zero => intro a4 a5; exact q_none
  | succ n ih =>
    intro a4 a5
    rw [f_X11_foretold_b38.eq_2]
    refine q_iload 5 dX11_foretold_38 rfl ?_
    refine q_aload_n 3 dX11_foretold_40 rfl ?_
    refine q_getI (f := 3) cl_X9 (by decide) qw_52 rfl dX11_foretold_41 (Or.inl rfl) (fun v15 h16 => ?_)
    refine q_icmp_ge (tgt := 116) dX11_foretold_44 (by decide) (fun c38 => ?_) (fun c38 => ?_)
    · refine q_iload_n 2 dX11_foretold_47 rfl ?_
      refine q_aload_n 3 dX11_foretold_48 rfl ?_
      refine q_iload 5 dX11_foretold_49 rfl ?_
      refine q_iconst (x := (1 : Int32)) dX11_foretold_51 rfl ?_
      refine q_cVI (Y2 := Y_X9_at) (As := [.int a5, .int (1 : Int32)]) (b := a3) (st := [.int a2]) cl_X9 mv_X9_at qw_442 dX11_foretold_52 ⟨Nat.le_of_ble_eq_true rfl, Nat.le_of_ble_eq_true rfl⟩ rfl (fun _ _ => rfl) (Nat.le_of_ble_eq_true rfl) ⟨Nat.le_of_ble_eq_true rfl, Nat.le_of_ble_eq_true rfl⟩ (fun v18 h17 => q_ob_is h17) (fun v18 h17 => m_X9_at h17) (fun v18 h17 => ?_)
      refine q_isub dX11_foretold_55 ?_
      refine q_istore (ls' := [(6, .int (a2 - v18)), (0, .ref a0), (1, .int a1), (2, .int a2), (3, .ref a3), (4, .int a4), (5, .int a5)]) dX11_foretold_56 (by decide) rfl ?_
      refine q_aload_n 4 dX11_foretold_58 rfl ?_
      refine q_iload 6 dX11_foretold_59 rfl ?_
      refine q_iconst (x := (0 : Int32)) dX11_foretold_61 rfl ?_
      refine q_cVI (Y2 := Y_X9_at) (As := [.int a5, .int (0 : Int32)]) (b := a3) (st := []) cl_X9 mv_X9_at qw_442 dX11_foretold_62 ⟨Nat.le_of_ble_eq_true rfl, Nat.le_of_ble_eq_true rfl⟩ rfl (fun _ _ => rfl) (Nat.le_of_ble_eq_true rfl) ⟨Nat.le_of_ble_eq_true rfl, Nat.le_of_ble_eq_true rfl⟩ (fun v20 h19 => q_ob_is h19) (fun v20 h19 => m_X9_at h19) (fun v20 h19 => ?_)
      refine q_iload_n 2 dX11_foretold_65 rfl ?_
      refine q_icmp_ne (tgt := 110) dX11_foretold_66 (by decide) (fun c37 => ?_) (fun c37 => ?_)
      · refine q_iload 0 dX11_foretold_69 rfl ?_
        refine q_if_lt (tgt := 110) dX11_foretold_71 (by decide) (fun c36 => ?_) (fun c36 => ?_)
        · refine q_iinc 6 (y := (a5 + (1 : Int32))) (ls' := [(5, .int (a5 + (1 : Int32))), (6, .int (a2 - v18)), (0, .ref a0), (1, .int a1), (2, .int a2), (3, .ref a3), (4, .int a4)]) dX11_foretold_110 rfl rfl (by decide) rfl ?_
          refine q_goto (tgt := 38) dX11_foretold_113 (by decide) ?_
          refine q_sub (ls' := [(0, .ref a0), (1, .int a1), (2, .int a2), (3, .ref a3), (4, .int a4), (5, .int (a5 + (1 : Int32)))]) [2, 3, 4, 5, 6, 0] rfl ?_
          exact ih _ _
        · refine q_iload 0 dX11_foretold_74 rfl ?_
          refine q_aload_n 1 dX11_foretold_76 rfl ?_
          refine q_getR (f := 0) cl_X11 (by decide) qw_367 rfl dX11_foretold_77 (fun _ _ _ => rfl) (fun v21 h22 => ?_)
          refine q_getR (f := 12) cl_X5 (by decide) qw_113 rfl dX11_foretold_80 (fun _ _ _ => rfl) (fun v23 h24 => ?_)
          refine q_alen dX11_foretold_83 (fun v25 h26 => ?_)
          refine q_icmp_ge (tgt := 110) dX11_foretold_84 (by decide) (fun c35 => ?_) (fun c35 => ?_)
          · refine q_iload 5 dX11_foretold_87 rfl ?_
            refine q_aload_n 4 dX11_foretold_89 rfl ?_
            refine q_iload 6 dX11_foretold_90 rfl ?_
            refine q_iconst (x := (2 : Int32)) dX11_foretold_92 rfl ?_
            refine q_cVI (Y2 := Y_X9_at) (As := [.int a5, .int (2 : Int32)]) (b := a3) (st := [.int a4]) cl_X9 mv_X9_at qw_442 dX11_foretold_93 ⟨Nat.le_of_ble_eq_true rfl, Nat.le_of_ble_eq_true rfl⟩ rfl (fun _ _ => rfl) (Nat.le_of_ble_eq_true rfl) ⟨Nat.le_of_ble_eq_true rfl, Nat.le_of_ble_eq_true rfl⟩ (fun v28 h27 => q_ob_is h27) (fun v28 h27 => m_X9_at h27) (fun v28 h27 => ?_)
            refine q_aload_n 1 dX11_foretold_96 rfl ?_
            refine q_getR (f := 0) cl_X11 (by decide) qw_367 rfl dX11_foretold_97 (fun _ _ _ => rfl) (fun v29 h30 => ?_)
            refine q_getR (f := 12) cl_X5 (by decide) qw_113 rfl dX11_foretold_100 (fun _ _ _ => rfl) (fun v31 h32 => ?_)
            refine q_iload 0 dX11_foretold_103 rfl ?_
            refine q_iald dX11_foretold_105 (fun v33 h34 => ?_)
            refine q_imul dX11_foretold_106 ?_
            refine q_iadd dX11_foretold_107 ?_
            refine q_istore (ls' := [(4, .int (a4 + (v28 * v33))), (6, .int (a2 - v18)), (0, .ref a0), (1, .int a1), (2, .int a2), (3, .ref a3), (5, .int a5)]) dX11_foretold_108 (by decide) rfl ?_
            refine q_iinc 6 (y := (a5 + (1 : Int32))) (ls' := [(5, .int (a5 + (1 : Int32))), (4, .int (a4 + (v28 * v33))), (6, .int (a2 - v18)), (0, .ref a0), (1, .int a1), (2, .int a2), (3, .ref a3)]) dX11_foretold_110 rfl rfl (by decide) rfl ?_
            refine q_goto (tgt := 38) dX11_foretold_113 (by decide) ?_
            refine q_sub (ls' := [(0, .ref a0), (1, .int a1), (2, .int a2), (3, .ref a3), (4, .int (a4 + (v28 * v33))), (5, .int (a5 + (1 : Int32)))]) [3, 4, 5, 6, 1, 0] rfl ?_
            exact ih _ _
          · refine q_iinc 6 (y := (a5 + (1 : Int32))) (ls' := [(5, .int (a5 + (1 : Int32))), (6, .int (a2 - v18)), (0, .ref a0), (1, .int a1), (2, .int a2), (3, .ref a3), (4, .int a4)]) dX11_foretold_110 rfl rfl (by decide) rfl ?_
            refine q_goto (tgt := 38) dX11_foretold_113 (by decide) ?_
            refine q_sub (ls' := [(0, .ref a0), (1, .int a1), (2, .int a2), (3, .ref a3), (4, .int a4), (5, .int (a5 + (1 : Int32)))]) [2, 3, 4, 5, 6, 0] rfl ?_
            exact ih _ _
      · refine q_iinc 6 (y := (a5 + (1 : Int32))) (ls' := [(5, .int (a5 + (1 : Int32))), (6, .int (a2 - v18)), (0, .ref a0), (1, .int a1), (2, .int a2), (3, .ref a3), (4, .int a4)]) dX11_foretold_110 rfl rfl (by decide) rfl ?_
        refine q_goto (tgt := 38) dX11_foretold_113 (by decide) ?_
        refine q_sub (ls' := [(0, .ref a0), (1, .int a1), (2, .int a2), (3, .ref a3), (4, .int a4), (5, .int (a5 + (1 : Int32)))]) [2, 3, 4, 5, 6, 0] rfl ?_
        exact ih _ _
    · refine q_iload 4 dX11_foretold_116 rfl ?_
      exact q_iret dX11_foretold_118 rfl rfl (Nat.le_of_ble_eq_true rfl) rfl
set_option maxRecDepth 20000 in
theorem m_X11_foretold {M : q_Mem} {a0 : Nat} {a1 : Int32} {a2 : Int32} {x : Int32} (h : f_X11_foretold M a0 a1 a2 = some x) : q_C Y_X11_foretold [.ref a0, .int a1, .int a2] M (some (.int x)) M := by
  refine q_met (φ := (fun x : Int32 => (some (.int x), M))) (r := f_X11_foretold M a0 a1 a2) (by decide +kernel) (Nat.le_of_ble_eq_true rfl) ?_ h (fun _ _ => rfl)
  show q_V Y_X11_foretold none (fun x : Int32 => (some (.int x), M)) 0 0 0 [(0, .ref a0), (1, .int a1), (2, .int a2)] [] M (f_X11_foretold M a0 a1 a2)
  unfold f_X11_foretold
  refine q_obV ?_
  refine q_aload_n 0 dX11_foretold_0 rfl ?_
  refine q_getR (f := 0) cl_X11 (by decide) qw_367 rfl dX11_foretold_1 (fun _ _ _ => rfl) (fun v1 h2 => ?_)
  refine q_getR (f := 0) cl_X5 (by decide) qw_72 rfl dX11_foretold_4 (fun _ _ _ => rfl) (fun v3 h4 => ?_)
  refine q_iload_n 1 dX11_foretold_7 rfl ?_
  refine q_cVI (Y2 := Y_X9_has) (As := [.int a1]) (b := v3) (st := []) cl_X9 mv_X9_has qw_420 dX11_foretold_8 ⟨Nat.le_of_ble_eq_true rfl, Nat.le_of_ble_eq_true rfl⟩ rfl (fun _ _ => rfl) (Nat.le_of_ble_eq_true rfl) ⟨Nat.le_of_ble_eq_true rfl, Nat.le_of_ble_eq_true rfl⟩ (fun v6 h5 => q_ob_is h5) (fun v6 h5 => m_X9_has h5) (fun v6 h5 => ?_)
  refine q_if_eq (tgt := 21) dX11_foretold_11 (by decide) (fun c14 => ?_) (fun c14 => ?_)
  · refine q_bipush (x := (-2 : Int32)) dX11_foretold_21 rfl ?_
    exact q_iret dX11_foretold_23 rfl rfl (Nat.le_of_ble_eq_true rfl) rfl
  · refine q_iload_n 2 dX11_foretold_14 rfl ?_
    refine q_cSI (Y2 := Y_X11_isWeek) (As := [.int a2]) (st := []) ms_X11_isWeek qw_512 dX11_foretold_15 ⟨Nat.le_of_ble_eq_true rfl, Nat.le_of_ble_eq_true rfl⟩ rfl (fun _ _ => rfl) (Nat.le_of_ble_eq_true rfl) ⟨Nat.le_of_ble_eq_true rfl, Nat.le_of_ble_eq_true rfl⟩ (fun v8 h7 => m_X11_isWeek h7) (fun v8 h7 => ?_)
    refine q_if_ne (tgt := 24) dX11_foretold_18 (by decide) (fun c13 => ?_) (fun c13 => ?_)
    · refine q_bipush (x := (-2 : Int32)) dX11_foretold_21 rfl ?_
      exact q_iret dX11_foretold_23 rfl rfl (Nat.le_of_ble_eq_true rfl) rfl
    · refine q_aload_n 0 dX11_foretold_24 rfl ?_
      refine q_getR (f := 0) cl_X11 (by decide) qw_367 rfl dX11_foretold_25 (fun _ _ _ => rfl) (fun v9 h10 => ?_)
      refine q_getR (f := 8) cl_X5 (by decide) qw_104 rfl dX11_foretold_28 (fun _ _ _ => rfl) (fun v11 h12 => ?_)
      refine q_astore_n (ls' := [(3, .ref v11), (0, .ref a0), (1, .int a1), (2, .int a2)]) dX11_foretold_31 (by decide) rfl ?_
      refine q_iconst (x := (0 : Int32)) dX11_foretold_32 rfl ?_
      refine q_istore (ls' := [(4, .int (0 : Int32)), (3, .ref v11), (0, .ref a0), (1, .int a1), (2, .int a2)]) dX11_foretold_33 (by decide) rfl ?_
      refine q_iconst (x := (0 : Int32)) dX11_foretold_35 rfl ?_
      refine q_istore (ls' := [(5, .int (0 : Int32)), (4, .int (0 : Int32)), (3, .ref v11), (0, .ref a0), (1, .int a1), (2, .int a2)]) dX11_foretold_36 (by decide) rfl ?_
      refine q_sub (ls' := [(0, .ref a0), (1, .int a1), (2, .int a2), (3, .ref v11), (4, .int (0 : Int32)), (5, .int (0 : Int32))]) [3, 4, 5, 2, 1, 0] rfl ?_
      exact v_X11_foretold_b38 _ _ _
theorem dX11_site_0 : decode cX11_site 0 = .ok (.iload_n 1, 1) := by decide +kernel
theorem dX11_site_1 : decode cX11_site 1 = .ok (.iload_n 2, 1) := by decide +kernel
theorem dX11_site_2 : decode cX11_site 2 = .ok (.invokestatic 92, 3) := by decide +kernel
theorem dX11_site_5 : decode cX11_site 5 = .ok (.ifCond .eq 13, 3) := by decide +kernel
theorem dX11_site_8 : decode cX11_site 8 = .ok (.iload_n 3, 1) := by decide +kernel
theorem dX11_site_9 : decode cX11_site 9 = .ok (.iconst 0, 1) := by decide +kernel
theorem dX11_site_10 : decode cX11_site 10 = .ok (.ldc 194, 2) := by decide +kernel
theorem dX11_site_12 : decode cX11_site 12 = .ok (.invokestatic 96, 3) := by decide +kernel
theorem dX11_site_15 : decode cX11_site 15 = .ok (.ifCond .ne 6, 3) := by decide +kernel
theorem dX11_site_18 : decode cX11_site 18 = .ok (.bipush (-2), 2) := by decide +kernel
theorem dX11_site_20 : decode cX11_site 20 = .ok (.ireturn, 1) := by decide +kernel
theorem dX11_site_21 : decode cX11_site 21 = .ok (.aload_n 0, 1) := by decide +kernel
theorem dX11_site_22 : decode cX11_site 22 = .ok (.getfield 12, 3) := by decide +kernel
theorem dX11_site_25 : decode cX11_site 25 = .ok (.getfield 300, 3) := by decide +kernel
theorem dX11_site_28 : decode cX11_site 28 = .ok (.iload_n 1, 1) := by decide +kernel
theorem dX11_site_29 : decode cX11_site 29 = .ok (.iload_n 2, 1) := by decide +kernel
theorem dX11_site_30 : decode cX11_site 30 = .ok (.iload_n 3, 1) := by decide +kernel
theorem dX11_site_31 : decode cX11_site 31 = .ok (.invokevirtual 103, 3) := by decide +kernel
theorem dX11_site_34 : decode cX11_site 34 = .ok (.ireturn, 1) := by decide +kernel
def f_X11_site (M : q_Mem) (a0 : Nat) (a1 : Int32) (a2 : Int32) (a3 : Int32) : Option (Int32 × q_Mem) :=
  q_ob 10 M a0 ((f_X11_isPlace M a1 a2).bind fun v2 =>
  (if v2 = 0 then
    some ((-2 : Int32), M)
  else
    (f_X11_within M a3 (0 : Int32) (1000000 : Int32)).bind fun v4 =>
    (if v4 = 0 then
      some ((-2 : Int32), M)
    else
      (q_gR 10 0 M a0).bind fun v5 =>
      (q_gR 4 9 M v5).bind fun v7 =>
      (f_X9_come M v7 a1 a2 a3).bind fun r10 =>
      some (r10.1, r10.2))))
set_option maxRecDepth 20000 in
theorem m_X11_site {M : q_Mem} {a0 : Nat} {a1 : Int32} {a2 : Int32} {a3 : Int32} {x : (Int32 × q_Mem)} (h : f_X11_site M a0 a1 a2 a3 = some x) : q_C Y_X11_site [.ref a0, .int a1, .int a2, .int a3] M (some (.int x.1)) x.2 := by
  refine q_met (φ := (fun x : Int32 × q_Mem => (some (.int x.1), x.2))) (r := f_X11_site M a0 a1 a2 a3) (by decide +kernel) (Nat.le_of_ble_eq_true rfl) ?_ h (fun _ _ => rfl)
  show q_V Y_X11_site none (fun x : Int32 × q_Mem => (some (.int x.1), x.2)) 0 0 0 [(0, .ref a0), (1, .int a1), (2, .int a2), (3, .int a3)] [] M (f_X11_site M a0 a1 a2 a3)
  unfold f_X11_site
  refine q_obV ?_
  refine q_iload_n 1 dX11_site_0 rfl ?_
  refine q_iload_n 2 dX11_site_1 rfl ?_
  refine q_cSI (Y2 := Y_X11_isPlace) (As := [.int a1, .int a2]) (st := []) ms_X11_isPlace qw_405 dX11_site_2 ⟨Nat.le_of_ble_eq_true rfl, Nat.le_of_ble_eq_true rfl⟩ rfl (fun _ _ => rfl) (Nat.le_of_ble_eq_true rfl) ⟨Nat.le_of_ble_eq_true rfl, Nat.le_of_ble_eq_true rfl⟩ (fun v2 h1 => m_X11_isPlace h1) (fun v2 h1 => ?_)
  refine q_if_eq (tgt := 18) dX11_site_5 (by decide) (fun c12 => ?_) (fun c12 => ?_)
  · refine q_bipush (x := (-2 : Int32)) dX11_site_18 rfl ?_
    exact q_iret dX11_site_20 rfl rfl (Nat.le_of_ble_eq_true rfl) rfl
  · refine q_iload_n 3 dX11_site_8 rfl ?_
    refine q_iconst (x := (0 : Int32)) dX11_site_9 rfl ?_
    refine q_ldc (x := (1000000 : Int32)) qw_593 dX11_site_10 ?_
    refine q_cSI (Y2 := Y_X11_within) (As := [.int a3, .int (0 : Int32), .int (1000000 : Int32)]) (st := []) ms_X11_within qw_408 dX11_site_12 ⟨Nat.le_of_ble_eq_true rfl, Nat.le_of_ble_eq_true rfl⟩ rfl (fun _ _ => rfl) (Nat.le_of_ble_eq_true rfl) ⟨Nat.le_of_ble_eq_true rfl, Nat.le_of_ble_eq_true rfl⟩ (fun v4 h3 => m_X11_within h3) (fun v4 h3 => ?_)
    refine q_if_ne (tgt := 21) dX11_site_15 (by decide) (fun c11 => ?_) (fun c11 => ?_)
    · refine q_bipush (x := (-2 : Int32)) dX11_site_18 rfl ?_
      exact q_iret dX11_site_20 rfl rfl (Nat.le_of_ble_eq_true rfl) rfl
    · refine q_aload_n 0 dX11_site_21 rfl ?_
      refine q_getR (f := 0) cl_X11 (by decide) qw_367 rfl dX11_site_22 (fun _ _ _ => rfl) (fun v5 h6 => ?_)
      refine q_getR (f := 9) cl_X5 (by decide) qw_107 rfl dX11_site_25 (fun _ _ _ => rfl) (fun v7 h8 => ?_)
      refine q_iload_n 1 dX11_site_28 rfl ?_
      refine q_iload_n 2 dX11_site_29 rfl ?_
      refine q_iload_n 3 dX11_site_30 rfl ?_
      refine q_cVMI (Y2 := Y_X9_come) (As := [.int a1, .int a2, .int a3]) (b := v7) (st := []) cl_X9 mv_X9_come qw_411 dX11_site_31 ⟨Nat.le_of_ble_eq_true rfl, Nat.le_of_ble_eq_true rfl⟩ rfl (fun _ _ => rfl) (Nat.le_of_ble_eq_true rfl) ⟨Nat.le_of_ble_eq_true rfl, Nat.le_of_ble_eq_true rfl⟩ (fun r10 h9 => q_ob_is h9) (fun r10 h9 => m_X9_come h9) (fun r10 h9 => ?_)
      exact q_iret dX11_site_34 rfl rfl (Nat.le_of_ble_eq_true rfl) rfl
theorem dX11_freight_0 : decode cX11_freight 0 = .ok (.iload_n 1, 1) := by decide +kernel
theorem dX11_freight_1 : decode cX11_freight 1 = .ok (.iconst 0, 1) := by decide +kernel
theorem dX11_freight_2 : decode cX11_freight 2 = .ok (.bipush 100, 2) := by decide +kernel
theorem dX11_freight_4 : decode cX11_freight 4 = .ok (.invokestatic 96, 3) := by decide +kernel
theorem dX11_freight_7 : decode cX11_freight 7 = .ok (.ifCond .ne 6, 3) := by decide +kernel
theorem dX11_freight_10 : decode cX11_freight 10 = .ok (.bipush (-2), 2) := by decide +kernel
theorem dX11_freight_12 : decode cX11_freight 12 = .ok (.ireturn, 1) := by decide +kernel
theorem dX11_freight_13 : decode cX11_freight 13 = .ok (.aload_n 0, 1) := by decide +kernel
theorem dX11_freight_14 : decode cX11_freight 14 = .ok (.getfield 12, 3) := by decide +kernel
theorem dX11_freight_17 : decode cX11_freight 17 = .ok (.getfield 303, 3) := by decide +kernel
theorem dX11_freight_20 : decode cX11_freight 20 = .ok (.istore_n 2, 1) := by decide +kernel
theorem dX11_freight_21 : decode cX11_freight 21 = .ok (.aload_n 0, 1) := by decide +kernel
theorem dX11_freight_22 : decode cX11_freight 22 = .ok (.getfield 12, 3) := by decide +kernel
theorem dX11_freight_25 : decode cX11_freight 25 = .ok (.iload_n 1, 1) := by decide +kernel
theorem dX11_freight_26 : decode cX11_freight 26 = .ok (.putfield 303, 3) := by decide +kernel
theorem dX11_freight_29 : decode cX11_freight 29 = .ok (.iload_n 2, 1) := by decide +kernel
theorem dX11_freight_30 : decode cX11_freight 30 = .ok (.ireturn, 1) := by decide +kernel
def f_X11_freight (M : q_Mem) (a0 : Nat) (a1 : Int32) : Option (Int32 × q_Mem) :=
  q_ob 10 M a0 ((f_X11_within M a1 (0 : Int32) (100 : Int32)).bind fun v2 =>
  (if v2 = 0 then
    some ((-2 : Int32), M)
  else
    (q_gR 10 0 M a0).bind fun v3 =>
    (q_gI 4 15 M v3).bind fun v5 =>
    (q_gR 10 0 M a0).bind fun v7 =>
    (q_pI 4 15 M v7 a1).bind fun M9 =>
    some (v5, M9)))
set_option maxRecDepth 20000 in
theorem m_X11_freight {M : q_Mem} {a0 : Nat} {a1 : Int32} {x : (Int32 × q_Mem)} (h : f_X11_freight M a0 a1 = some x) : q_C Y_X11_freight [.ref a0, .int a1] M (some (.int x.1)) x.2 := by
  refine q_met (φ := (fun x : Int32 × q_Mem => (some (.int x.1), x.2))) (r := f_X11_freight M a0 a1) (by decide +kernel) (Nat.le_of_ble_eq_true rfl) ?_ h (fun _ _ => rfl)
  show q_V Y_X11_freight none (fun x : Int32 × q_Mem => (some (.int x.1), x.2)) 0 0 0 [(0, .ref a0), (1, .int a1)] [] M (f_X11_freight M a0 a1)
  unfold f_X11_freight
  refine q_obV ?_
  refine q_iload_n 1 dX11_freight_0 rfl ?_
  refine q_iconst (x := (0 : Int32)) dX11_freight_1 rfl ?_
  refine q_bipush (x := (100 : Int32)) dX11_freight_2 rfl ?_
  refine q_cSI (Y2 := Y_X11_within) (As := [.int a1, .int (0 : Int32), .int (100 : Int32)]) (st := []) ms_X11_within qw_408 dX11_freight_4 ⟨Nat.le_of_ble_eq_true rfl, Nat.le_of_ble_eq_true rfl⟩ rfl (fun _ _ => rfl) (Nat.le_of_ble_eq_true rfl) ⟨Nat.le_of_ble_eq_true rfl, Nat.le_of_ble_eq_true rfl⟩ (fun v2 h1 => m_X11_within h1) (fun v2 h1 => ?_)
  refine q_if_ne (tgt := 13) dX11_freight_7 (by decide) (fun c11 => ?_) (fun c11 => ?_)
  · refine q_bipush (x := (-2 : Int32)) dX11_freight_10 rfl ?_
    exact q_iret dX11_freight_12 rfl rfl (Nat.le_of_ble_eq_true rfl) rfl
  · refine q_aload_n 0 dX11_freight_13 rfl ?_
    refine q_getR (f := 0) cl_X11 (by decide) qw_367 rfl dX11_freight_14 (fun _ _ _ => rfl) (fun v3 h4 => ?_)
    refine q_getI (f := 15) cl_X5 (by decide) qw_122 rfl dX11_freight_17 (Or.inl rfl) (fun v5 h6 => ?_)
    refine q_istore_n (ls' := [(2, .int v5), (0, .ref a0), (1, .int a1)]) dX11_freight_20 (by decide) rfl ?_
    refine q_aload_n 1 dX11_freight_21 rfl ?_
    refine q_getR (f := 0) cl_X11 (by decide) qw_367 rfl dX11_freight_22 (fun _ _ _ => rfl) (fun v7 h8 => ?_)
    refine q_iload_n 2 dX11_freight_25 rfl ?_
    refine q_putI (f := 15) cl_X5 (by decide) qw_122 rfl (Or.inl rfl) dX11_freight_26 rfl (fun M9 h10 => ?_)
    refine q_iload_n 0 dX11_freight_29 rfl ?_
    exact q_iret dX11_freight_30 rfl rfl (Nat.le_of_ble_eq_true rfl) rfl
theorem dX11_open_0 : decode cX11_open 0 = .ok (.iload_n 1, 1) := by decide +kernel
theorem dX11_open_1 : decode cX11_open 1 = .ok (.iconst 0, 1) := by decide +kernel
theorem dX11_open_2 : decode cX11_open 2 = .ok (.iconst 1, 1) := by decide +kernel
theorem dX11_open_3 : decode cX11_open 3 = .ok (.invokestatic 96, 3) := by decide +kernel
theorem dX11_open_6 : decode cX11_open 6 = .ok (.ifCond .ne 7, 3) := by decide +kernel
theorem dX11_open_9 : decode cX11_open 9 = .ok (.ldc2_w 159, 3) := by decide +kernel
theorem dX11_open_12 : decode cX11_open 12 = .ok (.lreturn, 1) := by decide +kernel
theorem dX11_open_13 : decode cX11_open 13 = .ok (.aload_n 0, 1) := by decide +kernel
theorem dX11_open_14 : decode cX11_open 14 = .ok (.getfield 12, 3) := by decide +kernel
theorem dX11_open_17 : decode cX11_open 17 = .ok (.getfield 300, 3) := by decide +kernel
theorem dX11_open_20 : decode cX11_open 20 = .ok (.getfield 283, 3) := by decide +kernel
theorem dX11_open_23 : decode cX11_open 23 = .ok (.ifCond .ne 7, 3) := by decide +kernel
theorem dX11_open_26 : decode cX11_open 26 = .ok (.ldc2_w 306, 3) := by decide +kernel
theorem dX11_open_29 : decode cX11_open 29 = .ok (.lreturn, 1) := by decide +kernel
theorem dX11_open_30 : decode cX11_open 30 = .ok (.aload_n 0, 1) := by decide +kernel
theorem dX11_open_31 : decode cX11_open 31 = .ok (.getfield 88, 3) := by decide +kernel
theorem dX11_open_34 : decode cX11_open 34 = .ok (.invokevirtual 308, 3) := by decide +kernel
theorem dX11_open_37 : decode cX11_open 37 = .ok (.iload_n 1, 1) := by decide +kernel
theorem dX11_open_38 : decode cX11_open 38 = .ok (.ifCond .ne 14, 3) := by decide +kernel
theorem dX11_open_41 : decode cX11_open 41 = .ok (.aload_n 0, 1) := by decide +kernel
theorem dX11_open_42 : decode cX11_open 42 = .ok (.getfield 88, 3) := by decide +kernel
theorem dX11_open_45 : decode cX11_open 45 = .ok (.getfield 310, 3) := by decide +kernel
theorem dX11_open_48 : decode cX11_open 48 = .ok (.i2l, 1) := by decide +kernel
theorem dX11_open_49 : decode cX11_open 49 = .ok (.goto 10, 3) := by decide +kernel
theorem dX11_open_52 : decode cX11_open 52 = .ok (.aload_n 0, 1) := by decide +kernel
theorem dX11_open_53 : decode cX11_open 53 = .ok (.getfield 88, 3) := by decide +kernel
theorem dX11_open_56 : decode cX11_open 56 = .ok (.getfield 313, 3) := by decide +kernel
theorem dX11_open_59 : decode cX11_open 59 = .ok (.lreturn, 1) := by decide +kernel
def f_X11_open (M : q_Mem) (a0 : Nat) (a1 : Int32) : Option (Int64 × q_Mem) :=
  q_ob 10 M a0 ((f_X11_within M a1 (0 : Int32) (1 : Int32)).bind fun v2 =>
  (if v2 = 0 then
    some ((-2 : Int64), M)
  else
    (q_gR 10 0 M a0).bind fun v3 =>
    (q_gR 4 9 M v3).bind fun v5 =>
    (q_gI 8 3 M v5).bind fun v7 =>
    (if v7 = 0 then
      some ((-3 : Int64), M)
    else
      (q_gR 10 10 M a0).bind fun v9 =>
      (f_X10_plan M v9).bind fun M13 =>
      (if a1 = 0 then
        (q_gR 10 10 M13 a0).bind fun v14 =>
        (q_gI 9 1 M13 v14).bind fun v16 =>
        some (v16.toInt64, M13)
      else
        (q_gR 10 10 M13 a0).bind fun v18 =>
        (q_gJ 9 2 M13 v18).bind fun v20 =>
        some (v20, M13)))))
set_option maxRecDepth 20000 in
theorem m_X11_open {M : q_Mem} {a0 : Nat} {a1 : Int32} {x : (Int64 × q_Mem)} (h : f_X11_open M a0 a1 = some x) : q_C Y_X11_open [.ref a0, .int a1] M (some (.long x.1)) x.2 := by
  refine q_met (φ := (fun x : Int64 × q_Mem => (some (.long x.1), x.2))) (r := f_X11_open M a0 a1) (by decide +kernel) (Nat.le_of_ble_eq_true rfl) ?_ h (fun _ _ => rfl)
  show q_V Y_X11_open none (fun x : Int64 × q_Mem => (some (.long x.1), x.2)) 0 0 0 [(0, .ref a0), (1, .int a1)] [] M (f_X11_open M a0 a1)
  unfold f_X11_open
  refine q_obV ?_
  refine q_iload_n 1 dX11_open_0 rfl ?_
  refine q_iconst (x := (0 : Int32)) dX11_open_1 rfl ?_
  refine q_iconst (x := (1 : Int32)) dX11_open_2 rfl ?_
  refine q_cSI (Y2 := Y_X11_within) (As := [.int a1, .int (0 : Int32), .int (1 : Int32)]) (st := []) ms_X11_within qw_408 dX11_open_3 ⟨Nat.le_of_ble_eq_true rfl, Nat.le_of_ble_eq_true rfl⟩ rfl (fun _ _ => rfl) (Nat.le_of_ble_eq_true rfl) ⟨Nat.le_of_ble_eq_true rfl, Nat.le_of_ble_eq_true rfl⟩ (fun v2 h1 => m_X11_within h1) (fun v2 h1 => ?_)
  refine q_if_ne (tgt := 13) dX11_open_6 (by decide) (fun c24 => ?_) (fun c24 => ?_)
  · refine q_ldc2 (x := (-2 : Int64)) qw_515 dX11_open_9 ?_
    exact q_lret dX11_open_12 rfl rfl (Nat.le_of_ble_eq_true rfl) rfl
  · refine q_aload_n 0 dX11_open_13 rfl ?_
    refine q_getR (f := 0) cl_X11 (by decide) qw_367 rfl dX11_open_14 (fun _ _ _ => rfl) (fun v3 h4 => ?_)
    refine q_getR (f := 9) cl_X5 (by decide) qw_107 rfl dX11_open_17 (fun _ _ _ => rfl) (fun v5 h6 => ?_)
    refine q_getI (f := 3) cl_X9 (by decide) qw_52 rfl dX11_open_20 (Or.inl rfl) (fun v7 h8 => ?_)
    refine q_if_ne (tgt := 30) dX11_open_23 (by decide) (fun c23 => ?_) (fun c23 => ?_)
    · refine q_ldc2 (x := (-3 : Int64)) qw_1029 dX11_open_26 ?_
      exact q_lret dX11_open_29 rfl rfl (Nat.le_of_ble_eq_true rfl) rfl
    · refine q_aload_n 0 dX11_open_30 rfl ?_
      refine q_getR (f := 10) cl_X11 (by decide) qw_377 rfl dX11_open_31 (fun _ _ _ => rfl) (fun v9 h10 => ?_)
      refine q_cVM (Y2 := Y_X10_plan) (As := []) (b := v9) (st := []) cl_X10 mv_X10_plan qw_1030 dX11_open_34 ⟨Nat.le_of_ble_eq_true rfl, Nat.le_of_ble_eq_true rfl⟩ rfl (fun _ _ => rfl) (Nat.le_of_ble_eq_true rfl) ⟨Nat.le_of_ble_eq_true rfl, Nat.le_of_ble_eq_true rfl⟩ (fun M13 h11 => q_ob_is h11) (fun M13 h11 => m_X10_plan h11) (fun M13 h11 => ?_)
      refine q_iload_n 1 dX11_open_37 rfl ?_
      refine q_if_ne (tgt := 52) dX11_open_38 (by decide) (fun c22 => ?_) (fun c22 => ?_)
      · refine q_aload_n 0 dX11_open_41 rfl ?_
        refine q_getR (f := 10) cl_X11 (by decide) qw_377 rfl dX11_open_42 (fun _ _ _ => rfl) (fun v14 h15 => ?_)
        refine q_getI (f := 1) cl_X10 (by decide) qw_357 rfl dX11_open_45 (Or.inl rfl) (fun v16 h17 => ?_)
        refine q_i2l dX11_open_48 ?_
        refine q_goto (tgt := 59) dX11_open_49 (by decide) ?_
        exact q_lret dX11_open_59 rfl rfl (Nat.le_of_ble_eq_true rfl) rfl
      · refine q_aload_n 0 dX11_open_52 rfl ?_
        refine q_getR (f := 10) cl_X11 (by decide) qw_377 rfl dX11_open_53 (fun _ _ _ => rfl) (fun v18 h19 => ?_)
        refine q_getJ (f := 2) cl_X10 (by decide) qw_359 rfl dX11_open_56 rfl (fun v20 h21 => ?_)
        exact q_lret dX11_open_59 rfl rfl (Nat.le_of_ble_eq_true rfl) rfl
theorem dX11_nearest_0 : decode cX11_nearest 0 = .ok (.aload_n 0, 1) := by decide +kernel
theorem dX11_nearest_1 : decode cX11_nearest 1 = .ok (.getfield 12, 3) := by decide +kernel
theorem dX11_nearest_4 : decode cX11_nearest 4 = .ok (.getfield 100, 3) := by decide +kernel
theorem dX11_nearest_7 : decode cX11_nearest 7 = .ok (.iload_n 1, 1) := by decide +kernel
theorem dX11_nearest_8 : decode cX11_nearest 8 = .ok (.invokevirtual 117, 3) := by decide +kernel
theorem dX11_nearest_11 : decode cX11_nearest 11 = .ok (.ifCond .eq 21, 3) := by decide +kernel
theorem dX11_nearest_14 : decode cX11_nearest 14 = .ok (.iload_n 2, 1) := by decide +kernel
theorem dX11_nearest_15 : decode cX11_nearest 15 = .ok (.ifCond .eq 17, 3) := by decide +kernel
theorem dX11_nearest_18 : decode cX11_nearest 18 = .ok (.iload_n 2, 1) := by decide +kernel
theorem dX11_nearest_19 : decode cX11_nearest 19 = .ok (.aload_n 0, 1) := by decide +kernel
theorem dX11_nearest_20 : decode cX11_nearest 20 = .ok (.getfield 12, 3) := by decide +kernel
theorem dX11_nearest_23 : decode cX11_nearest 23 = .ok (.getfield 300, 3) := by decide +kernel
theorem dX11_nearest_26 : decode cX11_nearest 26 = .ok (.invokestatic 265, 3) := by decide +kernel
theorem dX11_nearest_29 : decode cX11_nearest 29 = .ok (.ifCond .ne 6, 3) := by decide +kernel
theorem dX11_nearest_32 : decode cX11_nearest 32 = .ok (.bipush (-2), 2) := by decide +kernel
theorem dX11_nearest_34 : decode cX11_nearest 34 = .ok (.ireturn, 1) := by decide +kernel
theorem dX11_nearest_35 : decode cX11_nearest 35 = .ok (.aload_n 0, 1) := by decide +kernel
theorem dX11_nearest_36 : decode cX11_nearest 36 = .ok (.getfield 88, 3) := by decide +kernel
theorem dX11_nearest_39 : decode cX11_nearest 39 = .ok (.iload_n 1, 1) := by decide +kernel
theorem dX11_nearest_40 : decode cX11_nearest 40 = .ok (.iload_n 2, 1) := by decide +kernel
theorem dX11_nearest_41 : decode cX11_nearest 41 = .ok (.invokevirtual 316, 3) := by decide +kernel
theorem dX11_nearest_44 : decode cX11_nearest 44 = .ok (.ireturn, 1) := by decide +kernel
def f_X11_nearest (M : q_Mem) (a0 : Nat) (a1 : Int32) (a2 : Int32) : Option Int32 :=
  q_ob 10 M a0 ((q_gR 10 0 M a0).bind fun v1 =>
  (q_gR 4 0 M v1).bind fun v3 =>
  (f_X9_has M v3 a1).bind fun v6 =>
  (if v6 = 0 then
    some (-2 : Int32)
  else
    (if a2 = 0 then
      some (-2 : Int32)
    else
      (q_gR 10 0 M a0).bind fun v7 =>
      (q_gR 4 9 M v7).bind fun v9 =>
      (f_X11_isSet M a2 v9).bind fun v12 =>
      (if v12 = 0 then
        some (-2 : Int32)
      else
        (q_gR 10 10 M a0).bind fun v13 =>
        (f_X10_nearestOf M v13 a1 a2).bind fun v16 =>
        some v16))))
set_option maxRecDepth 20000 in
theorem m_X11_nearest {M : q_Mem} {a0 : Nat} {a1 : Int32} {a2 : Int32} {x : Int32} (h : f_X11_nearest M a0 a1 a2 = some x) : q_C Y_X11_nearest [.ref a0, .int a1, .int a2] M (some (.int x)) M := by
  refine q_met (φ := (fun x : Int32 => (some (.int x), M))) (r := f_X11_nearest M a0 a1 a2) (by decide +kernel) (Nat.le_of_ble_eq_true rfl) ?_ h (fun _ _ => rfl)
  show q_V Y_X11_nearest none (fun x : Int32 => (some (.int x), M)) 0 0 0 [(0, .ref a0), (1, .int a1), (2, .int a2)] [] M (f_X11_nearest M a0 a1 a2)
  unfold f_X11_nearest
  refine q_obV ?_
  refine q_aload_n 0 dX11_nearest_0 rfl ?_
  refine q_getR (f := 0) cl_X11 (by decide) qw_367 rfl dX11_nearest_1 (fun _ _ _ => rfl) (fun v1 h2 => ?_)
  refine q_getR (f := 0) cl_X5 (by decide) qw_72 rfl dX11_nearest_4 (fun _ _ _ => rfl) (fun v3 h4 => ?_)
  refine q_iload_n 1 dX11_nearest_7 rfl ?_
  refine q_cVI (Y2 := Y_X9_has) (As := [.int a1]) (b := v3) (st := []) cl_X9 mv_X9_has qw_420 dX11_nearest_8 ⟨Nat.le_of_ble_eq_true rfl, Nat.le_of_ble_eq_true rfl⟩ rfl (fun _ _ => rfl) (Nat.le_of_ble_eq_true rfl) ⟨Nat.le_of_ble_eq_true rfl, Nat.le_of_ble_eq_true rfl⟩ (fun v6 h5 => q_ob_is h5) (fun v6 h5 => m_X9_has h5) (fun v6 h5 => ?_)
  refine q_if_eq (tgt := 32) dX11_nearest_11 (by decide) (fun c19 => ?_) (fun c19 => ?_)
  · refine q_bipush (x := (-2 : Int32)) dX11_nearest_32 rfl ?_
    exact q_iret dX11_nearest_34 rfl rfl (Nat.le_of_ble_eq_true rfl) rfl
  · refine q_iload_n 2 dX11_nearest_14 rfl ?_
    refine q_if_eq (tgt := 32) dX11_nearest_15 (by decide) (fun c18 => ?_) (fun c18 => ?_)
    · refine q_bipush (x := (-2 : Int32)) dX11_nearest_32 rfl ?_
      exact q_iret dX11_nearest_34 rfl rfl (Nat.le_of_ble_eq_true rfl) rfl
    · refine q_iload_n 2 dX11_nearest_18 rfl ?_
      refine q_aload_n 0 dX11_nearest_19 rfl ?_
      refine q_getR (f := 0) cl_X11 (by decide) qw_367 rfl dX11_nearest_20 (fun _ _ _ => rfl) (fun v7 h8 => ?_)
      refine q_getR (f := 9) cl_X5 (by decide) qw_107 rfl dX11_nearest_23 (fun _ _ _ => rfl) (fun v9 h10 => ?_)
      refine q_cSI (Y2 := Y_X11_isSet) (As := [.int a2, .ref v9]) (st := []) ms_X11_isSet qw_869 dX11_nearest_26 ⟨Nat.le_of_ble_eq_true rfl, Nat.le_of_ble_eq_true rfl⟩ rfl (fun _ _ => rfl) (Nat.le_of_ble_eq_true rfl) ⟨Nat.le_of_ble_eq_true rfl, Nat.le_of_ble_eq_true rfl⟩ (fun v12 h11 => m_X11_isSet h11) (fun v12 h11 => ?_)
      refine q_if_ne (tgt := 35) dX11_nearest_29 (by decide) (fun c17 => ?_) (fun c17 => ?_)
      · refine q_bipush (x := (-2 : Int32)) dX11_nearest_32 rfl ?_
        exact q_iret dX11_nearest_34 rfl rfl (Nat.le_of_ble_eq_true rfl) rfl
      · refine q_aload_n 0 dX11_nearest_35 rfl ?_
        refine q_getR (f := 10) cl_X11 (by decide) qw_377 rfl dX11_nearest_36 (fun _ _ _ => rfl) (fun v13 h14 => ?_)
        refine q_iload_n 1 dX11_nearest_39 rfl ?_
        refine q_iload_n 2 dX11_nearest_40 rfl ?_
        refine q_cVI (Y2 := Y_X10_nearestOf) (As := [.int a1, .int a2]) (b := v13) (st := []) cl_X10 mv_X10_nearestOf qw_1049 dX11_nearest_41 ⟨Nat.le_of_ble_eq_true rfl, Nat.le_of_ble_eq_true rfl⟩ rfl (fun _ _ => rfl) (Nat.le_of_ble_eq_true rfl) ⟨Nat.le_of_ble_eq_true rfl, Nat.le_of_ble_eq_true rfl⟩ (fun v16 h15 => q_ob_is h15) (fun v16 h15 => m_X10_nearestOf h15) (fun v16 h15 => ?_)
        exact q_iret dX11_nearest_44 rfl rfl (Nat.le_of_ble_eq_true rfl) rfl
theorem dX11_loan_0 : decode cX11_loan 0 = .ok (.iload_n 1, 1) := by decide +kernel
theorem dX11_loan_1 : decode cX11_loan 1 = .ok (.iconst 1, 1) := by decide +kernel
theorem dX11_loan_2 : decode cX11_loan 2 = .ok (.ldc 194, 2) := by decide +kernel
theorem dX11_loan_4 : decode cX11_loan 4 = .ok (.invokestatic 96, 3) := by decide +kernel
theorem dX11_loan_7 : decode cX11_loan 7 = .ok (.ifCond .eq 24, 3) := by decide +kernel
theorem dX11_loan_10 : decode cX11_loan 10 = .ok (.iload_n 2, 1) := by decide +kernel
theorem dX11_loan_11 : decode cX11_loan 11 = .ok (.iconst 0, 1) := by decide +kernel
theorem dX11_loan_12 : decode cX11_loan 12 = .ok (.bipush 100, 2) := by decide +kernel
theorem dX11_loan_14 : decode cX11_loan 14 = .ok (.invokestatic 96, 3) := by decide +kernel
theorem dX11_loan_17 : decode cX11_loan 17 = .ok (.ifCond .eq 14, 3) := by decide +kernel
theorem dX11_loan_20 : decode cX11_loan 20 = .ok (.iload_n 3, 1) := by decide +kernel
theorem dX11_loan_21 : decode cX11_loan 21 = .ok (.iconst 1, 1) := by decide +kernel
theorem dX11_loan_22 : decode cX11_loan 22 = .ok (.ldc_w 319, 3) := by decide +kernel
theorem dX11_loan_25 : decode cX11_loan 25 = .ok (.invokestatic 96, 3) := by decide +kernel
theorem dX11_loan_28 : decode cX11_loan 28 = .ok (.ifCond .ne 6, 3) := by decide +kernel
theorem dX11_loan_31 : decode cX11_loan 31 = .ok (.bipush (-2), 2) := by decide +kernel
theorem dX11_loan_33 : decode cX11_loan 33 = .ok (.ireturn, 1) := by decide +kernel
theorem dX11_loan_34 : decode cX11_loan 34 = .ok (.aload_n 0, 1) := by decide +kernel
theorem dX11_loan_35 : decode cX11_loan 35 = .ok (.getfield 12, 3) := by decide +kernel
theorem dX11_loan_38 : decode cX11_loan 38 = .ok (.getfield 320, 3) := by decide +kernel
theorem dX11_loan_41 : decode cX11_loan 41 = .ok (.iload_n 1, 1) := by decide +kernel
theorem dX11_loan_42 : decode cX11_loan 42 = .ok (.iload_n 2, 1) := by decide +kernel
theorem dX11_loan_43 : decode cX11_loan 43 = .ok (.iload_n 3, 1) := by decide +kernel
theorem dX11_loan_44 : decode cX11_loan 44 = .ok (.invokevirtual 103, 3) := by decide +kernel
theorem dX11_loan_47 : decode cX11_loan 47 = .ok (.ireturn, 1) := by decide +kernel
def f_X11_loan (M : q_Mem) (a0 : Nat) (a1 : Int32) (a2 : Int32) (a3 : Int32) : Option (Int32 × q_Mem) :=
  q_ob 10 M a0 ((f_X11_within M a1 (1 : Int32) (1000000 : Int32)).bind fun v2 =>
  (if v2 = 0 then
    some ((-2 : Int32), M)
  else
    (f_X11_within M a2 (0 : Int32) (100 : Int32)).bind fun v4 =>
    (if v4 = 0 then
      some ((-2 : Int32), M)
    else
      (f_X11_within M a3 (1 : Int32) (100000 : Int32)).bind fun v6 =>
      (if v6 = 0 then
        some ((-2 : Int32), M)
      else
        (q_gR 10 0 M a0).bind fun v7 =>
        (q_gR 4 10 M v7).bind fun v9 =>
        (f_X9_come M v9 a1 a2 a3).bind fun r12 =>
        some (r12.1, r12.2)))))
set_option maxRecDepth 20000 in
theorem m_X11_loan {M : q_Mem} {a0 : Nat} {a1 : Int32} {a2 : Int32} {a3 : Int32} {x : (Int32 × q_Mem)} (h : f_X11_loan M a0 a1 a2 a3 = some x) : q_C Y_X11_loan [.ref a0, .int a1, .int a2, .int a3] M (some (.int x.1)) x.2 := by
  refine q_met (φ := (fun x : Int32 × q_Mem => (some (.int x.1), x.2))) (r := f_X11_loan M a0 a1 a2 a3) (by decide +kernel) (Nat.le_of_ble_eq_true rfl) ?_ h (fun _ _ => rfl)
  show q_V Y_X11_loan none (fun x : Int32 × q_Mem => (some (.int x.1), x.2)) 0 0 0 [(0, .ref a0), (1, .int a1), (2, .int a2), (3, .int a3)] [] M (f_X11_loan M a0 a1 a2 a3)
  unfold f_X11_loan
  refine q_obV ?_
  refine q_iload_n 1 dX11_loan_0 rfl ?_
  refine q_iconst (x := (1 : Int32)) dX11_loan_1 rfl ?_
  refine q_ldc (x := (1000000 : Int32)) qw_593 dX11_loan_2 ?_
  refine q_cSI (Y2 := Y_X11_within) (As := [.int a1, .int (1 : Int32), .int (1000000 : Int32)]) (st := []) ms_X11_within qw_408 dX11_loan_4 ⟨Nat.le_of_ble_eq_true rfl, Nat.le_of_ble_eq_true rfl⟩ rfl (fun _ _ => rfl) (Nat.le_of_ble_eq_true rfl) ⟨Nat.le_of_ble_eq_true rfl, Nat.le_of_ble_eq_true rfl⟩ (fun v2 h1 => m_X11_within h1) (fun v2 h1 => ?_)
  refine q_if_eq (tgt := 31) dX11_loan_7 (by decide) (fun c15 => ?_) (fun c15 => ?_)
  · refine q_bipush (x := (-2 : Int32)) dX11_loan_31 rfl ?_
    exact q_iret dX11_loan_33 rfl rfl (Nat.le_of_ble_eq_true rfl) rfl
  · refine q_iload_n 2 dX11_loan_10 rfl ?_
    refine q_iconst (x := (0 : Int32)) dX11_loan_11 rfl ?_
    refine q_bipush (x := (100 : Int32)) dX11_loan_12 rfl ?_
    refine q_cSI (Y2 := Y_X11_within) (As := [.int a2, .int (0 : Int32), .int (100 : Int32)]) (st := []) ms_X11_within qw_408 dX11_loan_14 ⟨Nat.le_of_ble_eq_true rfl, Nat.le_of_ble_eq_true rfl⟩ rfl (fun _ _ => rfl) (Nat.le_of_ble_eq_true rfl) ⟨Nat.le_of_ble_eq_true rfl, Nat.le_of_ble_eq_true rfl⟩ (fun v4 h3 => m_X11_within h3) (fun v4 h3 => ?_)
    refine q_if_eq (tgt := 31) dX11_loan_17 (by decide) (fun c14 => ?_) (fun c14 => ?_)
    · refine q_bipush (x := (-2 : Int32)) dX11_loan_31 rfl ?_
      exact q_iret dX11_loan_33 rfl rfl (Nat.le_of_ble_eq_true rfl) rfl
    · refine q_iload_n 3 dX11_loan_20 rfl ?_
      refine q_iconst (x := (1 : Int32)) dX11_loan_21 rfl ?_
      refine q_ldcw (x := (100000 : Int32)) qw_1054 dX11_loan_22 ?_
      refine q_cSI (Y2 := Y_X11_within) (As := [.int a3, .int (1 : Int32), .int (100000 : Int32)]) (st := []) ms_X11_within qw_408 dX11_loan_25 ⟨Nat.le_of_ble_eq_true rfl, Nat.le_of_ble_eq_true rfl⟩ rfl (fun _ _ => rfl) (Nat.le_of_ble_eq_true rfl) ⟨Nat.le_of_ble_eq_true rfl, Nat.le_of_ble_eq_true rfl⟩ (fun v6 h5 => m_X11_within h5) (fun v6 h5 => ?_)
      refine q_if_ne (tgt := 34) dX11_loan_28 (by decide) (fun c13 => ?_) (fun c13 => ?_)
      · refine q_bipush (x := (-2 : Int32)) dX11_loan_31 rfl ?_
        exact q_iret dX11_loan_33 rfl rfl (Nat.le_of_ble_eq_true rfl) rfl
      · refine q_aload_n 0 dX11_loan_34 rfl ?_
        refine q_getR (f := 0) cl_X11 (by decide) qw_367 rfl dX11_loan_35 (fun _ _ _ => rfl) (fun v7 h8 => ?_)
        refine q_getR (f := 10) cl_X5 (by decide) qw_109 rfl dX11_loan_38 (fun _ _ _ => rfl) (fun v9 h10 => ?_)
        refine q_iload_n 1 dX11_loan_41 rfl ?_
        refine q_iload_n 2 dX11_loan_42 rfl ?_
        refine q_iload_n 3 dX11_loan_43 rfl ?_
        refine q_cVMI (Y2 := Y_X9_come) (As := [.int a1, .int a2, .int a3]) (b := v9) (st := []) cl_X9 mv_X9_come qw_411 dX11_loan_44 ⟨Nat.le_of_ble_eq_true rfl, Nat.le_of_ble_eq_true rfl⟩ rfl (fun _ _ => rfl) (Nat.le_of_ble_eq_true rfl) ⟨Nat.le_of_ble_eq_true rfl, Nat.le_of_ble_eq_true rfl⟩ (fun r12 h11 => q_ob_is h11) (fun r12 h11 => m_X9_come h11) (fun r12 h11 => ?_)
        exact q_iret dX11_loan_47 rfl rfl (Nat.le_of_ble_eq_true rfl) rfl
theorem dX11_owed_0 : decode cX11_owed 0 = .ok (.aload_n 0, 1) := by decide +kernel
theorem dX11_owed_1 : decode cX11_owed 1 = .ok (.getfield 12, 3) := by decide +kernel
theorem dX11_owed_4 : decode cX11_owed 4 = .ok (.getfield 320, 3) := by decide +kernel
theorem dX11_owed_7 : decode cX11_owed 7 = .ok (.iload_n 1, 1) := by decide +kernel
theorem dX11_owed_8 : decode cX11_owed 8 = .ok (.invokevirtual 117, 3) := by decide +kernel
theorem dX11_owed_11 : decode cX11_owed 11 = .ok (.ifCond .eq 14, 3) := by decide +kernel
theorem dX11_owed_14 : decode cX11_owed 14 = .ok (.iload_n 2, 1) := by decide +kernel
theorem dX11_owed_15 : decode cX11_owed 15 = .ok (.iconst 0, 1) := by decide +kernel
theorem dX11_owed_16 : decode cX11_owed 16 = .ok (.sipush 1000, 3) := by decide +kernel
theorem dX11_owed_19 : decode cX11_owed 19 = .ok (.invokestatic 96, 3) := by decide +kernel
theorem dX11_owed_22 : decode cX11_owed 22 = .ok (.ifCond .ne 7, 3) := by decide +kernel
theorem dX11_owed_25 : decode cX11_owed 25 = .ok (.ldc2_w 159, 3) := by decide +kernel
theorem dX11_owed_28 : decode cX11_owed 28 = .ok (.lreturn, 1) := by decide +kernel
theorem dX11_owed_29 : decode cX11_owed 29 = .ok (.aload_n 0, 1) := by decide +kernel
theorem dX11_owed_30 : decode cX11_owed 30 = .ok (.getfield 12, 3) := by decide +kernel
theorem dX11_owed_33 : decode cX11_owed 33 = .ok (.getfield 320, 3) := by decide +kernel
theorem dX11_owed_36 : decode cX11_owed 36 = .ok (.iload_n 1, 1) := by decide +kernel
theorem dX11_owed_37 : decode cX11_owed 37 = .ok (.iconst 0, 1) := by decide +kernel
theorem dX11_owed_38 : decode cX11_owed 38 = .ok (.invokevirtual 133, 3) := by decide +kernel
theorem dX11_owed_41 : decode cX11_owed 41 = .ok (.i2l, 1) := by decide +kernel
theorem dX11_owed_42 : decode cX11_owed 42 = .ok (.lstore_n 3, 1) := by decide +kernel
theorem dX11_owed_43 : decode cX11_owed 43 = .ok (.iconst 0, 1) := by decide +kernel
theorem dX11_owed_44 : decode cX11_owed 44 = .ok (.istore 5, 2) := by decide +kernel
theorem dX11_owed_46 : decode cX11_owed 46 = .ok (.iload 5, 2) := by decide +kernel
theorem dX11_owed_48 : decode cX11_owed 48 = .ok (.iload_n 2, 1) := by decide +kernel
theorem dX11_owed_49 : decode cX11_owed 49 = .ok (.if_icmp .ge 22, 3) := by decide +kernel
theorem dX11_owed_52 : decode cX11_owed 52 = .ok (.aload_n 0, 1) := by decide +kernel
theorem dX11_owed_53 : decode cX11_owed 53 = .ok (.getfield 12, 3) := by decide +kernel
theorem dX11_owed_56 : decode cX11_owed 56 = .ok (.getfield 320, 3) := by decide +kernel
theorem dX11_owed_59 : decode cX11_owed 59 = .ok (.iload_n 1, 1) := by decide +kernel
theorem dX11_owed_60 : decode cX11_owed 60 = .ok (.lload_n 3, 1) := by decide +kernel
theorem dX11_owed_61 : decode cX11_owed 61 = .ok (.invokestatic 325, 3) := by decide +kernel
theorem dX11_owed_64 : decode cX11_owed 64 = .ok (.lstore_n 3, 1) := by decide +kernel
theorem dX11_owed_65 : decode cX11_owed 65 = .ok (.iinc 5 1, 3) := by decide +kernel
theorem dX11_owed_68 : decode cX11_owed 68 = .ok (.goto (-22), 3) := by decide +kernel
theorem dX11_owed_71 : decode cX11_owed 71 = .ok (.lload_n 3, 1) := by decide +kernel
theorem dX11_owed_72 : decode cX11_owed 72 = .ok (.lreturn, 1) := by decide +kernel
def f_X11_owed_b46 (M : q_Mem) (a0 : Nat) (a1 : Int32) (a2 : Int32) : Nat → Int64 → Int32 → Option Int64
  | 0, _, _ => none
  | n + 1, a3, a5 =>
    (if a5 < a2 then
      (q_gR 10 0 M a0).bind fun v17 =>
      (q_gR 4 10 M v17).bind fun v19 =>
      (f_X1_behindAWeek M v19 a1 a3).bind fun v22 =>
      f_X11_owed_b46 M a0 a1 a2 n v22 (a5 + (1 : Int32))
    else
      some a3)
def f_X11_owed (M : q_Mem) (a0 : Nat) (a1 : Int32) (a2 : Int32) : Option Int64 :=
  q_ob 10 M a0 ((q_gR 10 0 M a0).bind fun v1 =>
  (q_gR 4 10 M v1).bind fun v3 =>
  (f_X9_has M v3 a1).bind fun v6 =>
  (if v6 = 0 then
    some (-2 : Int64)
  else
    (f_X11_within M a2 (0 : Int32) (1000 : Int32)).bind fun v8 =>
    (if v8 = 0 then
      some (-2 : Int64)
    else
      (q_gR 10 0 M a0).bind fun v9 =>
      (q_gR 4 10 M v9).bind fun v11 =>
      (f_X9_at M v11 a1 (0 : Int32)).bind fun v14 =>
      f_X11_owed_b46 M a0 a1 a2 q_fuel v14.toInt64 (0 : Int32))))
set_option maxRecDepth 20000 in
theorem v_X11_owed_b46 {M : q_Mem} {a0 : Nat} {a1 : Int32} {a2 : Int32}  : ∀ (n : Nat) (a3 : Int64) (a5 : Int32), q_V Y_X11_owed none (fun x : Int64 => (some (.long x), M)) 0 0 46 [(0, .ref a0), (1, .int a1), (2, .int a2), (3, .long a3), (5, .int a5)] [] M (f_X11_owed_b46 M a0 a1 a2 n a3 a5) := by
  intro n
  induction n with
  | zero => intro a3 a5; exact q_none
  | succ n ih =>
    intro a3 a5
    rw [f_X11_owed_b46.eq_2]
    refine q_iload 4 dX11_owed_46 rfl ?_
    refine q_iload_n 2 dX11_owed_48 rfl ?_
    refine q_icmp_ge (tgt := 71) dX11_owed_49 (by decide) (fun c23 => ?_) (fun c23 => ?_)
    · refine q_aload_n 0 dX11_owed_52 rfl ?_
      refine q_getR (f := 0) cl_X11 (by decide) qw_367 rfl dX11_owed_53 (fun _ _ _ => rfl) (fun v17 h18 => ?_)
      refine q_getR (f := 10) cl_X5 (by decide) qw_109 rfl dX11_owed_56 (fun _ _ _ => rfl) (fun v19 h20 => ?_)
      refine q_iload_n 1 dX11_owed_59 rfl ?_
      refine q_lload_n 3 dX11_owed_60 rfl ?_
      refine q_cSJ (Y2 := Y_X1_behindAWeek) (As := [.ref v19, .int a1, .long a3]) (st := []) ms_X1_behindAWeek qw_1059 dX11_owed_61 ⟨Nat.le_of_ble_eq_true rfl, Nat.le_of_ble_eq_true rfl⟩ rfl (fun _ _ => rfl) (Nat.le_of_ble_eq_true rfl) ⟨Nat.le_of_ble_eq_true rfl, Nat.le_of_ble_eq_true rfl⟩ (fun v22 h21 => m_X1_behindAWeek h21) (fun v22 h21 => ?_)
      refine q_lstore_n (ls' := [(3, .long v22), (0, .ref a0), (1, .int a1), (2, .int a2), (5, .int a5)]) dX11_owed_64 (by decide) rfl ?_
      refine q_iinc 4 (y := (a5 + (1 : Int32))) (ls' := [(5, .int (a5 + (1 : Int32))), (3, .long v22), (0, .ref a0), (1, .int a1), (2, .int a2)]) dX11_owed_65 rfl rfl (by decide) rfl ?_
      refine q_goto (tgt := 46) dX11_owed_68 (by decide) ?_
      refine q_sub (ls' := [(0, .ref a0), (1, .int a1), (2, .int a2), (3, .long v22), (5, .int (a5 + (1 : Int32)))]) [2, 3, 4, 1, 0] rfl ?_
      exact ih _ _
    · refine q_lload_n 3 dX11_owed_71 rfl ?_
      exact q_lret dX11_owed_72 rfl rfl (Nat.le_of_ble_eq_true rfl) rfl
set_option maxRecDepth 20000 in
theorem m_X11_owed {M : q_Mem} {a0 : Nat} {a1 : Int32} {a2 : Int32} {x : Int64} (h : f_X11_owed M a0 a1 a2 = some x) : q_C Y_X11_owed [.ref a0, .int a1, .int a2] M (some (.long x)) M := by
  refine q_met (φ := (fun x : Int64 => (some (.long x), M))) (r := f_X11_owed M a0 a1 a2) (by decide +kernel) (Nat.le_of_ble_eq_true rfl) ?_ h (fun _ _ => rfl)
  show q_V Y_X11_owed none (fun x : Int64 => (some (.long x), M)) 0 0 0 [(0, .ref a0), (1, .int a1), (2, .int a2)] [] M (f_X11_owed M a0 a1 a2)
  unfold f_X11_owed
  refine q_obV ?_
  refine q_aload_n 0 dX11_owed_0 rfl ?_
  refine q_getR (f := 0) cl_X11 (by decide) qw_367 rfl dX11_owed_1 (fun _ _ _ => rfl) (fun v1 h2 => ?_)
  refine q_getR (f := 10) cl_X5 (by decide) qw_109 rfl dX11_owed_4 (fun _ _ _ => rfl) (fun v3 h4 => ?_)
  refine q_iload_n 1 dX11_owed_7 rfl ?_
  refine q_cVI (Y2 := Y_X9_has) (As := [.int a1]) (b := v3) (st := []) cl_X9 mv_X9_has qw_420 dX11_owed_8 ⟨Nat.le_of_ble_eq_true rfl, Nat.le_of_ble_eq_true rfl⟩ rfl (fun _ _ => rfl) (Nat.le_of_ble_eq_true rfl) ⟨Nat.le_of_ble_eq_true rfl, Nat.le_of_ble_eq_true rfl⟩ (fun v6 h5 => q_ob_is h5) (fun v6 h5 => m_X9_has h5) (fun v6 h5 => ?_)
  refine q_if_eq (tgt := 25) dX11_owed_11 (by decide) (fun c16 => ?_) (fun c16 => ?_)
  · refine q_ldc2 (x := (-2 : Int64)) qw_515 dX11_owed_25 ?_
    exact q_lret dX11_owed_28 rfl rfl (Nat.le_of_ble_eq_true rfl) rfl
  · refine q_iload_n 2 dX11_owed_14 rfl ?_
    refine q_iconst (x := (0 : Int32)) dX11_owed_15 rfl ?_
    refine q_sipush (x := (1000 : Int32)) dX11_owed_16 rfl ?_
    refine q_cSI (Y2 := Y_X11_within) (As := [.int a2, .int (0 : Int32), .int (1000 : Int32)]) (st := []) ms_X11_within qw_408 dX11_owed_19 ⟨Nat.le_of_ble_eq_true rfl, Nat.le_of_ble_eq_true rfl⟩ rfl (fun _ _ => rfl) (Nat.le_of_ble_eq_true rfl) ⟨Nat.le_of_ble_eq_true rfl, Nat.le_of_ble_eq_true rfl⟩ (fun v8 h7 => m_X11_within h7) (fun v8 h7 => ?_)
    refine q_if_ne (tgt := 29) dX11_owed_22 (by decide) (fun c15 => ?_) (fun c15 => ?_)
    · refine q_ldc2 (x := (-2 : Int64)) qw_515 dX11_owed_25 ?_
      exact q_lret dX11_owed_28 rfl rfl (Nat.le_of_ble_eq_true rfl) rfl
    · refine q_aload_n 0 dX11_owed_29 rfl ?_
      refine q_getR (f := 0) cl_X11 (by decide) qw_367 rfl dX11_owed_30 (fun _ _ _ => rfl) (fun v9 h10 => ?_)
      refine q_getR (f := 10) cl_X5 (by decide) qw_109 rfl dX11_owed_33 (fun _ _ _ => rfl) (fun v11 h12 => ?_)
      refine q_iload_n 1 dX11_owed_36 rfl ?_
      refine q_iconst (x := (0 : Int32)) dX11_owed_37 rfl ?_
      refine q_cVI (Y2 := Y_X9_at) (As := [.int a1, .int (0 : Int32)]) (b := v11) (st := []) cl_X9 mv_X9_at qw_442 dX11_owed_38 ⟨Nat.le_of_ble_eq_true rfl, Nat.le_of_ble_eq_true rfl⟩ rfl (fun _ _ => rfl) (Nat.le_of_ble_eq_true rfl) ⟨Nat.le_of_ble_eq_true rfl, Nat.le_of_ble_eq_true rfl⟩ (fun v14 h13 => q_ob_is h13) (fun v14 h13 => m_X9_at h13) (fun v14 h13 => ?_)
      refine q_i2l dX11_owed_41 ?_
      refine q_lstore_n (ls' := [(3, .long v14.toInt64), (0, .ref a0), (1, .int a1), (2, .int a2)]) dX11_owed_42 (by decide) rfl ?_
      refine q_iconst (x := (0 : Int32)) dX11_owed_43 rfl ?_
      refine q_istore (ls' := [(5, .int (0 : Int32)), (3, .long v14.toInt64), (0, .ref a0), (1, .int a1), (2, .int a2)]) dX11_owed_44 (by decide) rfl ?_
      refine q_sub (ls' := [(0, .ref a0), (1, .int a1), (2, .int a2), (3, .long v14.toInt64), (5, .int (0 : Int32))]) [2, 3, 4, 1, 0] rfl ?_
      exact v_X11_owed_b46 _ _ _
theorem dX11_ends_0 : decode cX11_ends 0 = .ok (.aload_n 0, 1) := by decide +kernel
theorem dX11_ends_1 : decode cX11_ends 1 = .ok (.getfield 12, 3) := by decide +kernel
theorem dX11_ends_4 : decode cX11_ends 4 = .ok (.getfield 320, 3) := by decide +kernel
theorem dX11_ends_7 : decode cX11_ends 7 = .ok (.iload_n 1, 1) := by decide +kernel
theorem dX11_ends_8 : decode cX11_ends 8 = .ok (.invokevirtual 117, 3) := by decide +kernel
theorem dX11_ends_11 : decode cX11_ends 11 = .ok (.ifCond .ne 6, 3) := by decide +kernel
theorem dX11_ends_14 : decode cX11_ends 14 = .ok (.bipush (-2), 2) := by decide +kernel
theorem dX11_ends_16 : decode cX11_ends 16 = .ok (.ireturn, 1) := by decide +kernel
theorem dX11_ends_17 : decode cX11_ends 17 = .ok (.aload_n 0, 1) := by decide +kernel
theorem dX11_ends_18 : decode cX11_ends 18 = .ok (.getfield 12, 3) := by decide +kernel
theorem dX11_ends_21 : decode cX11_ends 21 = .ok (.getfield 320, 3) := by decide +kernel
theorem dX11_ends_24 : decode cX11_ends 24 = .ok (.iload_n 1, 1) := by decide +kernel
theorem dX11_ends_25 : decode cX11_ends 25 = .ok (.iconst 0, 1) := by decide +kernel
theorem dX11_ends_26 : decode cX11_ends 26 = .ok (.invokevirtual 133, 3) := by decide +kernel
theorem dX11_ends_29 : decode cX11_ends 29 = .ok (.i2l, 1) := by decide +kernel
theorem dX11_ends_30 : decode cX11_ends 30 = .ok (.lstore_n 2, 1) := by decide +kernel
theorem dX11_ends_31 : decode cX11_ends 31 = .ok (.iconst 1, 1) := by decide +kernel
theorem dX11_ends_32 : decode cX11_ends 32 = .ok (.istore 4, 2) := by decide +kernel
theorem dX11_ends_34 : decode cX11_ends 34 = .ok (.iload 4, 2) := by decide +kernel
theorem dX11_ends_36 : decode cX11_ends 36 = .ok (.sipush 1000, 3) := by decide +kernel
theorem dX11_ends_39 : decode cX11_ends 39 = .ok (.if_icmp .gt 31, 3) := by decide +kernel
theorem dX11_ends_42 : decode cX11_ends 42 = .ok (.aload_n 0, 1) := by decide +kernel
theorem dX11_ends_43 : decode cX11_ends 43 = .ok (.getfield 12, 3) := by decide +kernel
theorem dX11_ends_46 : decode cX11_ends 46 = .ok (.getfield 320, 3) := by decide +kernel
theorem dX11_ends_49 : decode cX11_ends 49 = .ok (.iload_n 1, 1) := by decide +kernel
theorem dX11_ends_50 : decode cX11_ends 50 = .ok (.lload_n 2, 1) := by decide +kernel
theorem dX11_ends_51 : decode cX11_ends 51 = .ok (.invokestatic 325, 3) := by decide +kernel
theorem dX11_ends_54 : decode cX11_ends 54 = .ok (.lstore_n 2, 1) := by decide +kernel
theorem dX11_ends_55 : decode cX11_ends 55 = .ok (.lload_n 2, 1) := by decide +kernel
theorem dX11_ends_56 : decode cX11_ends 56 = .ok (.lconst 0, 1) := by decide +kernel
theorem dX11_ends_57 : decode cX11_ends 57 = .ok (.lcmp, 1) := by decide +kernel
theorem dX11_ends_58 : decode cX11_ends 58 = .ok (.ifCond .ne 6, 3) := by decide +kernel
theorem dX11_ends_61 : decode cX11_ends 61 = .ok (.iload 4, 2) := by decide +kernel
theorem dX11_ends_63 : decode cX11_ends 63 = .ok (.ireturn, 1) := by decide +kernel
theorem dX11_ends_64 : decode cX11_ends 64 = .ok (.iinc 4 1, 3) := by decide +kernel
theorem dX11_ends_67 : decode cX11_ends 67 = .ok (.goto (-33), 3) := by decide +kernel
theorem dX11_ends_70 : decode cX11_ends 70 = .ok (.iconst (-1), 1) := by decide +kernel
theorem dX11_ends_71 : decode cX11_ends 71 = .ok (.ireturn, 1) := by decide +kernel
def f_X11_ends_b34 (M : q_Mem) (a0 : Nat) (a1 : Int32) : Nat → Int64 → Int32 → Option Int32
  | 0, _, _ => none
  | n + 1, a2, a4 =>
    (if (1000 : Int32) < a4 then
      some (-1 : Int32)
    else
      (q_gR 10 0 M a0).bind fun v14 =>
      (q_gR 4 10 M v14).bind fun v16 =>
      (f_X1_behindAWeek M v16 a1 a2).bind fun v19 =>
      (if v19 = (0 : Int64) then
        some a4
      else
        f_X11_ends_b34 M a0 a1 n v19 (a4 + (1 : Int32))))
def f_X11_ends (M : q_Mem) (a0 : Nat) (a1 : Int32) : Option Int32 :=
  q_ob 10 M a0 ((q_gR 10 0 M a0).bind fun v1 =>
  (q_gR 4 10 M v1).bind fun v3 =>
  (f_X9_has M v3 a1).bind fun v6 =>
  (if v6 = 0 then
    some (-2 : Int32)
  else
    (q_gR 10 0 M a0).bind fun v7 =>
    (q_gR 4 10 M v7).bind fun v9 =>
    (f_X9_at M v9 a1 (0 : Int32)).bind fun v12 =>
    f_X11_ends_b34 M a0 a1 q_fuel v12.toInt64 (1 : Int32)))
set_option maxRecDepth 20000 in
theorem v_X11_ends_b34 {M : q_Mem} {a0 : Nat} {a1 : Int32}  : ∀ (n : Nat) (a2 : Int64) (a4 : Int32), q_V Y_X11_ends none (fun x : Int32 => (some (.int x), M)) 0 0 34 [(0, .ref a0), (1, .int a1), (2, .long a2), (4, .int a4)] [] M (f_X11_ends_b34 M a0 a1 n a2 a4) := by
  intro n
  induction n with
  | zero => intro a2 a4; exact q_none
  | succ n ih =>
    intro a2 a4
    rw [f_X11_ends_b34.eq_2]
    refine q_iload 3 dX11_ends_34 rfl ?_
    refine q_sipush (x := (1000 : Int32)) dX11_ends_36 rfl ?_
    refine q_icmp_gt (tgt := 70) dX11_ends_39 (by decide) (fun c21 => ?_) (fun c21 => ?_)
    · refine q_iconst (x := (-1 : Int32)) dX11_ends_70 rfl ?_
      exact q_iret dX11_ends_71 rfl rfl (Nat.le_of_ble_eq_true rfl) rfl
    · refine q_aload_n 0 dX11_ends_42 rfl ?_
      refine q_getR (f := 0) cl_X11 (by decide) qw_367 rfl dX11_ends_43 (fun _ _ _ => rfl) (fun v14 h15 => ?_)
      refine q_getR (f := 10) cl_X5 (by decide) qw_109 rfl dX11_ends_46 (fun _ _ _ => rfl) (fun v16 h17 => ?_)
      refine q_iload_n 1 dX11_ends_49 rfl ?_
      refine q_lload_n 2 dX11_ends_50 rfl ?_
      refine q_cSJ (Y2 := Y_X1_behindAWeek) (As := [.ref v16, .int a1, .long a2]) (st := []) ms_X1_behindAWeek qw_1059 dX11_ends_51 ⟨Nat.le_of_ble_eq_true rfl, Nat.le_of_ble_eq_true rfl⟩ rfl (fun _ _ => rfl) (Nat.le_of_ble_eq_true rfl) ⟨Nat.le_of_ble_eq_true rfl, Nat.le_of_ble_eq_true rfl⟩ (fun v19 h18 => m_X1_behindAWeek h18) (fun v19 h18 => ?_)
      refine q_lstore_n (ls' := [(2, .long v19), (0, .ref a0), (1, .int a1), (4, .int a4)]) dX11_ends_54 (by decide) rfl ?_
      refine q_lload_n 0 dX11_ends_55 rfl ?_
      refine q_lconst (x := (0 : Int64)) dX11_ends_56 rfl ?_
      refine q_lcmp_ne (tgt := 64) dX11_ends_57 dX11_ends_58 (by decide) (fun c20 => ?_) (fun c20 => ?_)
      · refine q_iload 3 dX11_ends_61 rfl ?_
        exact q_iret dX11_ends_63 rfl rfl (Nat.le_of_ble_eq_true rfl) rfl
      · refine q_iinc 3 (y := (a4 + (1 : Int32))) (ls' := [(4, .int (a4 + (1 : Int32))), (2, .long v19), (0, .ref a0), (1, .int a1)]) dX11_ends_64 rfl rfl (by decide) rfl ?_
        refine q_goto (tgt := 34) dX11_ends_67 (by decide) ?_
        refine q_sub (ls' := [(0, .ref a0), (1, .int a1), (2, .long v19), (4, .int (a4 + (1 : Int32)))]) [2, 3, 1, 0] rfl ?_
        exact ih _ _
set_option maxRecDepth 20000 in
theorem m_X11_ends {M : q_Mem} {a0 : Nat} {a1 : Int32} {x : Int32} (h : f_X11_ends M a0 a1 = some x) : q_C Y_X11_ends [.ref a0, .int a1] M (some (.int x)) M := by
  refine q_met (φ := (fun x : Int32 => (some (.int x), M))) (r := f_X11_ends M a0 a1) (by decide +kernel) (Nat.le_of_ble_eq_true rfl) ?_ h (fun _ _ => rfl)
  show q_V Y_X11_ends none (fun x : Int32 => (some (.int x), M)) 0 0 0 [(0, .ref a0), (1, .int a1)] [] M (f_X11_ends M a0 a1)
  unfold f_X11_ends
  refine q_obV ?_
  refine q_aload_n 0 dX11_ends_0 rfl ?_
  refine q_getR (f := 0) cl_X11 (by decide) qw_367 rfl dX11_ends_1 (fun _ _ _ => rfl) (fun v1 h2 => ?_)
  refine q_getR (f := 10) cl_X5 (by decide) qw_109 rfl dX11_ends_4 (fun _ _ _ => rfl) (fun v3 h4 => ?_)
  refine q_iload_n 1 dX11_ends_7 rfl ?_
  refine q_cVI (Y2 := Y_X9_has) (As := [.int a1]) (b := v3) (st := []) cl_X9 mv_X9_has qw_420 dX11_ends_8 ⟨Nat.le_of_ble_eq_true rfl, Nat.le_of_ble_eq_true rfl⟩ rfl (fun _ _ => rfl) (Nat.le_of_ble_eq_true rfl) ⟨Nat.le_of_ble_eq_true rfl, Nat.le_of_ble_eq_true rfl⟩ (fun v6 h5 => q_ob_is h5) (fun v6 h5 => m_X9_has h5) (fun v6 h5 => ?_)
  refine q_if_ne (tgt := 17) dX11_ends_11 (by decide) (fun c13 => ?_) (fun c13 => ?_)
  · refine q_bipush (x := (-2 : Int32)) dX11_ends_14 rfl ?_
    exact q_iret dX11_ends_16 rfl rfl (Nat.le_of_ble_eq_true rfl) rfl
  · refine q_aload_n 0 dX11_ends_17 rfl ?_
    refine q_getR (f := 0) cl_X11 (by decide) qw_367 rfl dX11_ends_18 (fun _ _ _ => rfl) (fun v7 h8 => ?_)
    refine q_getR (f := 10) cl_X5 (by decide) qw_109 rfl dX11_ends_21 (fun _ _ _ => rfl) (fun v9 h10 => ?_)
    refine q_iload_n 1 dX11_ends_24 rfl ?_
    refine q_iconst (x := (0 : Int32)) dX11_ends_25 rfl ?_
    refine q_cVI (Y2 := Y_X9_at) (As := [.int a1, .int (0 : Int32)]) (b := v9) (st := []) cl_X9 mv_X9_at qw_442 dX11_ends_26 ⟨Nat.le_of_ble_eq_true rfl, Nat.le_of_ble_eq_true rfl⟩ rfl (fun _ _ => rfl) (Nat.le_of_ble_eq_true rfl) ⟨Nat.le_of_ble_eq_true rfl, Nat.le_of_ble_eq_true rfl⟩ (fun v12 h11 => q_ob_is h11) (fun v12 h11 => m_X9_at h11) (fun v12 h11 => ?_)
    refine q_i2l dX11_ends_29 ?_
    refine q_lstore_n (ls' := [(2, .long v12.toInt64), (0, .ref a0), (1, .int a1)]) dX11_ends_30 (by decide) rfl ?_
    refine q_iconst (x := (1 : Int32)) dX11_ends_31 rfl ?_
    refine q_istore (ls' := [(4, .int (1 : Int32)), (2, .long v12.toInt64), (0, .ref a0), (1, .int a1)]) dX11_ends_32 (by decide) rfl ?_
    refine q_sub (ls' := [(0, .ref a0), (1, .int a1), (2, .long v12.toInt64), (4, .int (1 : Int32))]) [2, 3, 1, 0] rfl ?_
    exact v_X11_ends_b34 _ _ _
theorem dX11_image_0 : decode cX11_image 0 = .ok (.iload_n 1, 1) := by decide +kernel
theorem dX11_image_1 : decode cX11_image 1 = .ok (.ifCond .lt 21, 3) := by decide +kernel
theorem dX11_image_4 : decode cX11_image 4 = .ok (.iload_n 1, 1) := by decide +kernel
theorem dX11_image_5 : decode cX11_image 5 = .ok (.aload_n 0, 1) := by decide +kernel
theorem dX11_image_6 : decode cX11_image 6 = .ok (.getfield 16, 3) := by decide +kernel
theorem dX11_image_9 : decode cX11_image 9 = .ok (.arraylength, 1) := by decide +kernel
theorem dX11_image_10 : decode cX11_image 10 = .ok (.if_icmp .ge 12, 3) := by decide +kernel
theorem dX11_image_13 : decode cX11_image 13 = .ok (.iload_n 1, 1) := by decide +kernel
theorem dX11_image_14 : decode cX11_image 14 = .ok (.aload_n 0, 1) := by decide +kernel
theorem dX11_image_15 : decode cX11_image 15 = .ok (.getfield 20, 3) := by decide +kernel
theorem dX11_image_18 : decode cX11_image 18 = .ok (.arraylength, 1) := by decide +kernel
theorem dX11_image_19 : decode cX11_image 19 = .ok (.if_icmp .lt 6, 3) := by decide +kernel
theorem dX11_image_22 : decode cX11_image 22 = .ok (.bipush (-2), 2) := by decide +kernel
theorem dX11_image_24 : decode cX11_image 24 = .ok (.ireturn, 1) := by decide +kernel
theorem dX11_image_25 : decode cX11_image 25 = .ok (.aload_n 0, 1) := by decide +kernel
theorem dX11_image_26 : decode cX11_image 26 = .ok (.getfield 16, 3) := by decide +kernel
theorem dX11_image_29 : decode cX11_image 29 = .ok (.iload_n 1, 1) := by decide +kernel
theorem dX11_image_30 : decode cX11_image 30 = .ok (.aaload, 1) := by decide +kernel
theorem dX11_image_31 : decode cX11_image 31 = .ok (.aload_n 0, 1) := by decide +kernel
theorem dX11_image_32 : decode cX11_image 32 = .ok (.getfield 12, 3) := by decide +kernel
theorem dX11_image_35 : decode cX11_image 35 = .ok (.invokevirtual 329, 3) := by decide +kernel
theorem dX11_image_38 : decode cX11_image 38 = .ok (.aload_n 0, 1) := by decide +kernel
theorem dX11_image_39 : decode cX11_image 39 = .ok (.getfield 20, 3) := by decide +kernel
theorem dX11_image_42 : decode cX11_image 42 = .ok (.iload_n 1, 1) := by decide +kernel
theorem dX11_image_43 : decode cX11_image 43 = .ok (.iconst 1, 1) := by decide +kernel
theorem dX11_image_44 : decode cX11_image 44 = .ok (.bastore, 1) := by decide +kernel
theorem dX11_image_45 : decode cX11_image 45 = .ok (.iconst 1, 1) := by decide +kernel
theorem dX11_image_46 : decode cX11_image 46 = .ok (.ireturn, 1) := by decide +kernel
def f_X11_image (M : q_Mem) (a0 : Nat) (a1 : Int32) : Option (Int32 × q_Mem) :=
  q_ob 10 M a0 ((if a1 < 0 then
    some ((-2 : Int32), M)
  else
    (q_gR 10 1 M a0).bind fun v1 =>
    (q_ln M v1).bind fun v3 =>
    (if a1 < v3 then
      (q_gR 10 2 M a0).bind fun v5 =>
      (q_ln M v5).bind fun v7 =>
      (if a1 < v7 then
        (q_gR 10 1 M a0).bind fun v9 =>
        (q_lR M v9 a1).bind fun v11 =>
        (q_gR 10 0 M a0).bind fun v13 =>
        (f_X5_become M v11 v13).bind fun M17 =>
        (q_gR 10 2 M17 a0).bind fun v18 =>
        (q_tZ M17 v18 a1 (1 : Int32)).bind fun M20 =>
        some ((1 : Int32), M20)
      else
        some ((-2 : Int32), M))
    else
      some ((-2 : Int32), M))))
set_option maxRecDepth 20000 in
theorem m_X11_image {M : q_Mem} {a0 : Nat} {a1 : Int32} {x : (Int32 × q_Mem)} (h : f_X11_image M a0 a1 = some x) : q_C Y_X11_image [.ref a0, .int a1] M (some (.int x.1)) x.2 := by
  refine q_met (φ := (fun x : Int32 × q_Mem => (some (.int x.1), x.2))) (r := f_X11_image M a0 a1) (by decide +kernel) (Nat.le_of_ble_eq_true rfl) ?_ h (fun _ _ => rfl)
  show q_V Y_X11_image none (fun x : Int32 × q_Mem => (some (.int x.1), x.2)) 0 0 0 [(0, .ref a0), (1, .int a1)] [] M (f_X11_image M a0 a1)
  unfold f_X11_image
  refine q_obV ?_
  refine q_iload_n 1 dX11_image_0 rfl ?_
  refine q_if_lt (tgt := 22) dX11_image_1 (by decide) (fun c24 => ?_) (fun c24 => ?_)
  · refine q_bipush (x := (-2 : Int32)) dX11_image_22 rfl ?_
    exact q_iret dX11_image_24 rfl rfl (Nat.le_of_ble_eq_true rfl) rfl
  · refine q_iload_n 1 dX11_image_4 rfl ?_
    refine q_aload_n 0 dX11_image_5 rfl ?_
    refine q_getR (f := 1) cl_X11 (by decide) qw_368 rfl dX11_image_6 (fun _ _ _ => rfl) (fun v1 h2 => ?_)
    refine q_alen dX11_image_9 (fun v3 h4 => ?_)
    refine q_icmp_ge (tgt := 22) dX11_image_10 (by decide) (fun c23 => ?_) (fun c23 => ?_)
    · refine q_iload_n 1 dX11_image_13 rfl ?_
      refine q_aload_n 0 dX11_image_14 rfl ?_
      refine q_getR (f := 2) cl_X11 (by decide) qw_369 rfl dX11_image_15 (fun _ _ _ => rfl) (fun v5 h6 => ?_)
      refine q_alen dX11_image_18 (fun v7 h8 => ?_)
      refine q_icmp_lt (tgt := 25) dX11_image_19 (by decide) (fun c22 => ?_) (fun c22 => ?_)
      · refine q_aload_n 0 dX11_image_25 rfl ?_
        refine q_getR (f := 1) cl_X11 (by decide) qw_368 rfl dX11_image_26 (fun _ _ _ => rfl) (fun v9 h10 => ?_)
        refine q_iload_n 1 dX11_image_29 rfl ?_
        refine q_rald dX11_image_30 (fun v11 h12 => ?_)
        refine q_aload_n 0 dX11_image_31 rfl ?_
        refine q_getR (f := 0) cl_X11 (by decide) qw_367 rfl dX11_image_32 (fun _ _ _ => rfl) (fun v13 h14 => ?_)
        refine q_cVM (Y2 := Y_X5_become) (As := [.ref v13]) (b := v11) (st := []) cl_X5 mv_X5_become qw_1074 dX11_image_35 ⟨Nat.le_of_ble_eq_true rfl, Nat.le_of_ble_eq_true rfl⟩ rfl (fun _ _ => rfl) (Nat.le_of_ble_eq_true rfl) ⟨Nat.le_of_ble_eq_true rfl, Nat.le_of_ble_eq_true rfl⟩ (fun M17 h15 => q_ob_is h15) (fun M17 h15 => m_X5_become h15) (fun M17 h15 => ?_)
        refine q_aload_n 0 dX11_image_38 rfl ?_
        refine q_getR (f := 2) cl_X11 (by decide) qw_369 rfl dX11_image_39 (fun _ _ _ => rfl) (fun v18 h19 => ?_)
        refine q_iload_n 1 dX11_image_42 rfl ?_
        refine q_iconst (x := (1 : Int32)) dX11_image_43 rfl ?_
        refine q_zast dX11_image_44 (fun M20 h21 => ?_)
        refine q_iconst (x := (1 : Int32)) dX11_image_45 rfl ?_
        exact q_iret dX11_image_46 rfl rfl (Nat.le_of_ble_eq_true rfl) rfl
      · refine q_bipush (x := (-2 : Int32)) dX11_image_22 rfl ?_
        exact q_iret dX11_image_24 rfl rfl (Nat.le_of_ble_eq_true rfl) rfl
    · refine q_bipush (x := (-2 : Int32)) dX11_image_22 rfl ?_
      exact q_iret dX11_image_24 rfl rfl (Nat.le_of_ble_eq_true rfl) rfl
theorem dX11_from_0 : decode cX11_from 0 = .ok (.iload_n 1, 1) := by decide +kernel
theorem dX11_from_1 : decode cX11_from 1 = .ok (.ifCond .lt 21, 3) := by decide +kernel
theorem dX11_from_4 : decode cX11_from 4 = .ok (.iload_n 1, 1) := by decide +kernel
theorem dX11_from_5 : decode cX11_from 5 = .ok (.aload_n 0, 1) := by decide +kernel
theorem dX11_from_6 : decode cX11_from 6 = .ok (.getfield 16, 3) := by decide +kernel
theorem dX11_from_9 : decode cX11_from 9 = .ok (.arraylength, 1) := by decide +kernel
theorem dX11_from_10 : decode cX11_from 10 = .ok (.if_icmp .ge 12, 3) := by decide +kernel
theorem dX11_from_13 : decode cX11_from 13 = .ok (.iload_n 1, 1) := by decide +kernel
theorem dX11_from_14 : decode cX11_from 14 = .ok (.aload_n 0, 1) := by decide +kernel
theorem dX11_from_15 : decode cX11_from 15 = .ok (.getfield 20, 3) := by decide +kernel
theorem dX11_from_18 : decode cX11_from 18 = .ok (.arraylength, 1) := by decide +kernel
theorem dX11_from_19 : decode cX11_from 19 = .ok (.if_icmp .lt 6, 3) := by decide +kernel
theorem dX11_from_22 : decode cX11_from 22 = .ok (.bipush (-2), 2) := by decide +kernel
theorem dX11_from_24 : decode cX11_from 24 = .ok (.ireturn, 1) := by decide +kernel
theorem dX11_from_25 : decode cX11_from 25 = .ok (.aload_n 0, 1) := by decide +kernel
theorem dX11_from_26 : decode cX11_from 26 = .ok (.getfield 20, 3) := by decide +kernel
theorem dX11_from_29 : decode cX11_from 29 = .ok (.iload_n 1, 1) := by decide +kernel
theorem dX11_from_30 : decode cX11_from 30 = .ok (.baload, 1) := by decide +kernel
theorem dX11_from_31 : decode cX11_from 31 = .ok (.ifCond .ne 6, 3) := by decide +kernel
theorem dX11_from_34 : decode cX11_from 34 = .ok (.bipush (-3), 2) := by decide +kernel
theorem dX11_from_36 : decode cX11_from 36 = .ok (.ireturn, 1) := by decide +kernel
theorem dX11_from_37 : decode cX11_from 37 = .ok (.aload_n 0, 1) := by decide +kernel
theorem dX11_from_38 : decode cX11_from 38 = .ok (.getfield 12, 3) := by decide +kernel
theorem dX11_from_41 : decode cX11_from 41 = .ok (.aload_n 0, 1) := by decide +kernel
theorem dX11_from_42 : decode cX11_from 42 = .ok (.getfield 16, 3) := by decide +kernel
theorem dX11_from_45 : decode cX11_from 45 = .ok (.iload_n 1, 1) := by decide +kernel
theorem dX11_from_46 : decode cX11_from 46 = .ok (.aaload, 1) := by decide +kernel
theorem dX11_from_47 : decode cX11_from 47 = .ok (.invokevirtual 329, 3) := by decide +kernel
theorem dX11_from_50 : decode cX11_from 50 = .ok (.iconst 1, 1) := by decide +kernel
theorem dX11_from_51 : decode cX11_from 51 = .ok (.ireturn, 1) := by decide +kernel
def f_X11_from (M : q_Mem) (a0 : Nat) (a1 : Int32) : Option (Int32 × q_Mem) :=
  q_ob 10 M a0 ((if a1 < 0 then
    some ((-2 : Int32), M)
  else
    (q_gR 10 1 M a0).bind fun v1 =>
    (q_ln M v1).bind fun v3 =>
    (if a1 < v3 then
      (q_gR 10 2 M a0).bind fun v5 =>
      (q_ln M v5).bind fun v7 =>
      (if a1 < v7 then
        (q_gR 10 2 M a0).bind fun v9 =>
        (q_lZ M v9 a1).bind fun v11 =>
        (if v11 = 0 then
          some ((-3 : Int32), M)
        else
          (q_gR 10 0 M a0).bind fun v13 =>
          (q_gR 10 1 M a0).bind fun v15 =>
          (q_lR M v15 a1).bind fun v17 =>
          (f_X5_become M v13 v17).bind fun M21 =>
          some ((1 : Int32), M21))
      else
        some ((-2 : Int32), M))
    else
      some ((-2 : Int32), M))))
set_option maxRecDepth 20000 in
theorem m_X11_from {M : q_Mem} {a0 : Nat} {a1 : Int32} {x : (Int32 × q_Mem)} (h : f_X11_from M a0 a1 = some x) : q_C Y_X11_from [.ref a0, .int a1] M (some (.int x.1)) x.2 := by
  refine q_met (φ := (fun x : Int32 × q_Mem => (some (.int x.1), x.2))) (r := f_X11_from M a0 a1) (by decide +kernel) (Nat.le_of_ble_eq_true rfl) ?_ h (fun _ _ => rfl)
  show q_V Y_X11_from none (fun x : Int32 × q_Mem => (some (.int x.1), x.2)) 0 0 0 [(0, .ref a0), (1, .int a1)] [] M (f_X11_from M a0 a1)
  unfold f_X11_from
  refine q_obV ?_
  refine q_iload_n 1 dX11_from_0 rfl ?_
  refine q_if_lt (tgt := 22) dX11_from_1 (by decide) (fun c25 => ?_) (fun c25 => ?_)
  · refine q_bipush (x := (-2 : Int32)) dX11_from_22 rfl ?_
    exact q_iret dX11_from_24 rfl rfl (Nat.le_of_ble_eq_true rfl) rfl
  · refine q_iload_n 1 dX11_from_4 rfl ?_
    refine q_aload_n 0 dX11_from_5 rfl ?_
    refine q_getR (f := 1) cl_X11 (by decide) qw_368 rfl dX11_from_6 (fun _ _ _ => rfl) (fun v1 h2 => ?_)
    refine q_alen dX11_from_9 (fun v3 h4 => ?_)
    refine q_icmp_ge (tgt := 22) dX11_from_10 (by decide) (fun c24 => ?_) (fun c24 => ?_)
    · refine q_iload_n 1 dX11_from_13 rfl ?_
      refine q_aload_n 0 dX11_from_14 rfl ?_
      refine q_getR (f := 2) cl_X11 (by decide) qw_369 rfl dX11_from_15 (fun _ _ _ => rfl) (fun v5 h6 => ?_)
      refine q_alen dX11_from_18 (fun v7 h8 => ?_)
      refine q_icmp_lt (tgt := 25) dX11_from_19 (by decide) (fun c23 => ?_) (fun c23 => ?_)
      · refine q_aload_n 0 dX11_from_25 rfl ?_
        refine q_getR (f := 2) cl_X11 (by decide) qw_369 rfl dX11_from_26 (fun _ _ _ => rfl) (fun v9 h10 => ?_)
        refine q_iload_n 1 dX11_from_29 rfl ?_
        refine q_zald dX11_from_30 (fun v11 h12 => ?_)
        refine q_if_ne (tgt := 37) dX11_from_31 (by decide) (fun c22 => ?_) (fun c22 => ?_)
        · refine q_bipush (x := (-3 : Int32)) dX11_from_34 rfl ?_
          exact q_iret dX11_from_36 rfl rfl (Nat.le_of_ble_eq_true rfl) rfl
        · refine q_aload_n 0 dX11_from_37 rfl ?_
          refine q_getR (f := 0) cl_X11 (by decide) qw_367 rfl dX11_from_38 (fun _ _ _ => rfl) (fun v13 h14 => ?_)
          refine q_aload_n 0 dX11_from_41 rfl ?_
          refine q_getR (f := 1) cl_X11 (by decide) qw_368 rfl dX11_from_42 (fun _ _ _ => rfl) (fun v15 h16 => ?_)
          refine q_iload_n 1 dX11_from_45 rfl ?_
          refine q_rald dX11_from_46 (fun v17 h18 => ?_)
          refine q_cVM (Y2 := Y_X5_become) (As := [.ref v17]) (b := v13) (st := []) cl_X5 mv_X5_become qw_1074 dX11_from_47 ⟨Nat.le_of_ble_eq_true rfl, Nat.le_of_ble_eq_true rfl⟩ rfl (fun _ _ => rfl) (Nat.le_of_ble_eq_true rfl) ⟨Nat.le_of_ble_eq_true rfl, Nat.le_of_ble_eq_true rfl⟩ (fun M21 h19 => q_ob_is h19) (fun M21 h19 => m_X5_become h19) (fun M21 h19 => ?_)
          refine q_iconst (x := (1 : Int32)) dX11_from_50 rfl ?_
          exact q_iret dX11_from_51 rfl rfl (Nat.le_of_ble_eq_true rfl) rfl
      · refine q_bipush (x := (-2 : Int32)) dX11_from_22 rfl ?_
        exact q_iret dX11_from_24 rfl rfl (Nat.le_of_ble_eq_true rfl) rfl
    · refine q_bipush (x := (-2 : Int32)) dX11_from_22 rfl ?_
      exact q_iret dX11_from_24 rfl rfl (Nat.le_of_ble_eq_true rfl) rfl
theorem dX11_count_0 : decode cX11_count 0 = .ok (.iload_n 1, 1) := by decide +kernel
theorem dX11_count_1 : decode cX11_count 1 = .ok (.tableswitch 165 0 9 #[55, 66, 77, 88, 99, 110, 121, 132, 143, 154], 55) := by decide +kernel
theorem dX11_count_56 : decode cX11_count 56 = .ok (.aload_n 0, 1) := by decide +kernel
theorem dX11_count_57 : decode cX11_count 57 = .ok (.getfield 12, 3) := by decide +kernel
theorem dX11_count_60 : decode cX11_count 60 = .ok (.getfield 100, 3) := by decide +kernel
theorem dX11_count_63 : decode cX11_count 63 = .ok (.getfield 283, 3) := by decide +kernel
theorem dX11_count_66 : decode cX11_count 66 = .ok (.ireturn, 1) := by decide +kernel
theorem dX11_count_67 : decode cX11_count 67 = .ok (.aload_n 0, 1) := by decide +kernel
theorem dX11_count_68 : decode cX11_count 68 = .ok (.getfield 12, 3) := by decide +kernel
theorem dX11_count_71 : decode cX11_count 71 = .ok (.getfield 124, 3) := by decide +kernel
theorem dX11_count_74 : decode cX11_count 74 = .ok (.getfield 283, 3) := by decide +kernel
theorem dX11_count_77 : decode cX11_count 77 = .ok (.ireturn, 1) := by decide +kernel
theorem dX11_count_78 : decode cX11_count 78 = .ok (.aload_n 0, 1) := by decide +kernel
theorem dX11_count_79 : decode cX11_count 79 = .ok (.getfield 12, 3) := by decide +kernel
theorem dX11_count_82 : decode cX11_count 82 = .ok (.getfield 130, 3) := by decide +kernel
theorem dX11_count_85 : decode cX11_count 85 = .ok (.getfield 283, 3) := by decide +kernel
theorem dX11_count_88 : decode cX11_count 88 = .ok (.ireturn, 1) := by decide +kernel
theorem dX11_count_89 : decode cX11_count 89 = .ok (.aload_n 0, 1) := by decide +kernel
theorem dX11_count_90 : decode cX11_count 90 = .ok (.getfield 12, 3) := by decide +kernel
theorem dX11_count_93 : decode cX11_count 93 = .ok (.getfield 165, 3) := by decide +kernel
theorem dX11_count_96 : decode cX11_count 96 = .ok (.getfield 283, 3) := by decide +kernel
theorem dX11_count_99 : decode cX11_count 99 = .ok (.ireturn, 1) := by decide +kernel
theorem dX11_count_100 : decode cX11_count 100 = .ok (.aload_n 0, 1) := by decide +kernel
theorem dX11_count_101 : decode cX11_count 101 = .ok (.getfield 12, 3) := by decide +kernel
theorem dX11_count_104 : decode cX11_count 104 = .ok (.getfield 191, 3) := by decide +kernel
theorem dX11_count_107 : decode cX11_count 107 = .ok (.getfield 283, 3) := by decide +kernel
theorem dX11_count_110 : decode cX11_count 110 = .ok (.ireturn, 1) := by decide +kernel
theorem dX11_count_111 : decode cX11_count 111 = .ok (.aload_n 0, 1) := by decide +kernel
theorem dX11_count_112 : decode cX11_count 112 = .ok (.getfield 12, 3) := by decide +kernel
theorem dX11_count_115 : decode cX11_count 115 = .ok (.getfield 236, 3) := by decide +kernel
theorem dX11_count_118 : decode cX11_count 118 = .ok (.getfield 283, 3) := by decide +kernel
theorem dX11_count_121 : decode cX11_count 121 = .ok (.ireturn, 1) := by decide +kernel
theorem dX11_count_122 : decode cX11_count 122 = .ok (.aload_n 0, 1) := by decide +kernel
theorem dX11_count_123 : decode cX11_count 123 = .ok (.getfield 12, 3) := by decide +kernel
theorem dX11_count_126 : decode cX11_count 126 = .ok (.getfield 74, 3) := by decide +kernel
theorem dX11_count_129 : decode cX11_count 129 = .ok (.getfield 283, 3) := by decide +kernel
theorem dX11_count_132 : decode cX11_count 132 = .ok (.ireturn, 1) := by decide +kernel
theorem dX11_count_133 : decode cX11_count 133 = .ok (.aload_n 0, 1) := by decide +kernel
theorem dX11_count_134 : decode cX11_count 134 = .ok (.getfield 12, 3) := by decide +kernel
theorem dX11_count_137 : decode cX11_count 137 = .ok (.getfield 297, 3) := by decide +kernel
theorem dX11_count_140 : decode cX11_count 140 = .ok (.getfield 283, 3) := by decide +kernel
theorem dX11_count_143 : decode cX11_count 143 = .ok (.ireturn, 1) := by decide +kernel
theorem dX11_count_144 : decode cX11_count 144 = .ok (.aload_n 0, 1) := by decide +kernel
theorem dX11_count_145 : decode cX11_count 145 = .ok (.getfield 12, 3) := by decide +kernel
theorem dX11_count_148 : decode cX11_count 148 = .ok (.getfield 300, 3) := by decide +kernel
theorem dX11_count_151 : decode cX11_count 151 = .ok (.getfield 283, 3) := by decide +kernel
theorem dX11_count_154 : decode cX11_count 154 = .ok (.ireturn, 1) := by decide +kernel
theorem dX11_count_155 : decode cX11_count 155 = .ok (.aload_n 0, 1) := by decide +kernel
theorem dX11_count_156 : decode cX11_count 156 = .ok (.getfield 12, 3) := by decide +kernel
theorem dX11_count_159 : decode cX11_count 159 = .ok (.getfield 320, 3) := by decide +kernel
theorem dX11_count_162 : decode cX11_count 162 = .ok (.getfield 283, 3) := by decide +kernel
theorem dX11_count_165 : decode cX11_count 165 = .ok (.ireturn, 1) := by decide +kernel
theorem dX11_count_166 : decode cX11_count 166 = .ok (.bipush (-2), 2) := by decide +kernel
theorem dX11_count_168 : decode cX11_count 168 = .ok (.ireturn, 1) := by decide +kernel
def f_X11_count (M : q_Mem) (a0 : Nat) (a1 : Int32) : Option Int32 :=
  q_ob 10 M a0 ((if a1 < 0 then
    some (-2 : Int32)
  else
   (if a1 = 0 then
    (q_gR 10 0 M a0).bind fun v3 =>
    (q_gR 4 0 M v3).bind fun v5 =>
    (q_gI 8 3 M v5).bind fun v7 =>
    some v7
   else
   (if a1 = 1 then
    (q_gR 10 0 M a0).bind fun v11 =>
    (q_gR 4 1 M v11).bind fun v13 =>
    (q_gI 8 3 M v13).bind fun v15 =>
    some v15
   else
   (if a1 = 2 then
    (q_gR 10 0 M a0).bind fun v19 =>
    (q_gR 4 2 M v19).bind fun v21 =>
    (q_gI 8 3 M v21).bind fun v23 =>
    some v23
   else
   (if a1 = 3 then
    (q_gR 10 0 M a0).bind fun v27 =>
    (q_gR 4 3 M v27).bind fun v29 =>
    (q_gI 8 3 M v29).bind fun v31 =>
    some v31
   else
   (if a1 = 4 then
    (q_gR 10 0 M a0).bind fun v35 =>
    (q_gR 4 4 M v35).bind fun v37 =>
    (q_gI 8 3 M v37).bind fun v39 =>
    some v39
   else
   (if a1 = 5 then
    (q_gR 10 0 M a0).bind fun v43 =>
    (q_gR 4 6 M v43).bind fun v45 =>
    (q_gI 8 3 M v45).bind fun v47 =>
    some v47
   else
   (if a1 = 6 then
    (q_gR 10 0 M a0).bind fun v51 =>
    (q_gR 4 7 M v51).bind fun v53 =>
    (q_gI 8 3 M v53).bind fun v55 =>
    some v55
   else
   (if a1 = 7 then
    (q_gR 10 0 M a0).bind fun v59 =>
    (q_gR 4 8 M v59).bind fun v61 =>
    (q_gI 8 3 M v61).bind fun v63 =>
    some v63
   else
   (if a1 = 8 then
    (q_gR 10 0 M a0).bind fun v67 =>
    (q_gR 4 9 M v67).bind fun v69 =>
    (q_gI 8 3 M v69).bind fun v71 =>
    some v71
   else
   (if a1 = 9 then
    (q_gR 10 0 M a0).bind fun v75 =>
    (q_gR 4 10 M v75).bind fun v77 =>
    (q_gI 8 3 M v77).bind fun v79 =>
    some v79
   else
   some (-2 : Int32)))))))))))))
set_option maxRecDepth 20000 in
theorem m_X11_count {M : q_Mem} {a0 : Nat} {a1 : Int32} {x : Int32} (h : f_X11_count M a0 a1 = some x) : q_C Y_X11_count [.ref a0, .int a1] M (some (.int x)) M := by
  refine q_met (φ := (fun x : Int32 => (some (.int x), M))) (r := f_X11_count M a0 a1) (by decide +kernel) (Nat.le_of_ble_eq_true rfl) ?_ h (fun _ _ => rfl)
  show q_V Y_X11_count none (fun x : Int32 => (some (.int x), M)) 0 0 0 [(0, .ref a0), (1, .int a1)] [] M (f_X11_count M a0 a1)
  unfold f_X11_count
  refine q_obV ?_
  refine q_iload_n 1 dX11_count_0 rfl ?_
  refine q_ifV (fun c1 => ?_) (fun c1 => ?_)
  · refine q_tabOut (tgt := 166) dX11_count_1 (Or.inl (q_lt c1 rfl)) (by decide) ?_
    refine q_bipush (x := (-2 : Int32)) dX11_count_166 rfl ?_
    exact q_iret dX11_count_168 rfl rfl (Nat.le_of_ble_eq_true rfl) rfl
  · have b2 := q_nlt (b := 0) c1 rfl
    refine q_ifV (fun c9 => ?_) (fun c9 => ?_)
    · refine q_tabIn (tgt := 56) 0 dX11_count_1 c9 (by decide) (by decide) rfl (by decide) ?_
      refine q_aload_n 0 dX11_count_56 rfl ?_
      refine q_getR (f := 0) cl_X11 (by decide) qw_367 rfl dX11_count_57 (fun _ _ _ => rfl) (fun v3 h4 => ?_)
      refine q_getR (f := 0) cl_X5 (by decide) qw_72 rfl dX11_count_60 (fun _ _ _ => rfl) (fun v5 h6 => ?_)
      refine q_getI (f := 3) cl_X9 (by decide) qw_52 rfl dX11_count_63 (Or.inl rfl) (fun v7 h8 => ?_)
      exact q_iret dX11_count_66 rfl rfl (Nat.le_of_ble_eq_true rfl) rfl
    · have b10 := q_step (c := 1) b2 c9 rfl (by decide)
      refine q_ifV (fun c17 => ?_) (fun c17 => ?_)
      · refine q_tabIn (tgt := 67) 1 dX11_count_1 c17 (by decide) (by decide) rfl (by decide) ?_
        refine q_aload_n 0 dX11_count_67 rfl ?_
        refine q_getR (f := 0) cl_X11 (by decide) qw_367 rfl dX11_count_68 (fun _ _ _ => rfl) (fun v11 h12 => ?_)
        refine q_getR (f := 1) cl_X5 (by decide) qw_80 rfl dX11_count_71 (fun _ _ _ => rfl) (fun v13 h14 => ?_)
        refine q_getI (f := 3) cl_X9 (by decide) qw_52 rfl dX11_count_74 (Or.inl rfl) (fun v15 h16 => ?_)
        exact q_iret dX11_count_77 rfl rfl (Nat.le_of_ble_eq_true rfl) rfl
      · have b18 := q_step (c := 2) b10 c17 rfl (by decide)
        refine q_ifV (fun c25 => ?_) (fun c25 => ?_)
        · refine q_tabIn (tgt := 78) 2 dX11_count_1 c25 (by decide) (by decide) rfl (by decide) ?_
          refine q_aload_n 0 dX11_count_78 rfl ?_
          refine q_getR (f := 0) cl_X11 (by decide) qw_367 rfl dX11_count_79 (fun _ _ _ => rfl) (fun v19 h20 => ?_)
          refine q_getR (f := 2) cl_X5 (by decide) qw_85 rfl dX11_count_82 (fun _ _ _ => rfl) (fun v21 h22 => ?_)
          refine q_getI (f := 3) cl_X9 (by decide) qw_52 rfl dX11_count_85 (Or.inl rfl) (fun v23 h24 => ?_)
          exact q_iret dX11_count_88 rfl rfl (Nat.le_of_ble_eq_true rfl) rfl
        · have b26 := q_step (c := 3) b18 c25 rfl (by decide)
          refine q_ifV (fun c33 => ?_) (fun c33 => ?_)
          · refine q_tabIn (tgt := 89) 3 dX11_count_1 c33 (by decide) (by decide) rfl (by decide) ?_
            refine q_aload_n 0 dX11_count_89 rfl ?_
            refine q_getR (f := 0) cl_X11 (by decide) qw_367 rfl dX11_count_90 (fun _ _ _ => rfl) (fun v27 h28 => ?_)
            refine q_getR (f := 3) cl_X5 (by decide) qw_89 rfl dX11_count_93 (fun _ _ _ => rfl) (fun v29 h30 => ?_)
            refine q_getI (f := 3) cl_X9 (by decide) qw_52 rfl dX11_count_96 (Or.inl rfl) (fun v31 h32 => ?_)
            exact q_iret dX11_count_99 rfl rfl (Nat.le_of_ble_eq_true rfl) rfl
          · have b34 := q_step (c := 4) b26 c33 rfl (by decide)
            refine q_ifV (fun c41 => ?_) (fun c41 => ?_)
            · refine q_tabIn (tgt := 100) 4 dX11_count_1 c41 (by decide) (by decide) rfl (by decide) ?_
              refine q_aload_n 0 dX11_count_100 rfl ?_
              refine q_getR (f := 0) cl_X11 (by decide) qw_367 rfl dX11_count_101 (fun _ _ _ => rfl) (fun v35 h36 => ?_)
              refine q_getR (f := 4) cl_X5 (by decide) qw_93 rfl dX11_count_104 (fun _ _ _ => rfl) (fun v37 h38 => ?_)
              refine q_getI (f := 3) cl_X9 (by decide) qw_52 rfl dX11_count_107 (Or.inl rfl) (fun v39 h40 => ?_)
              exact q_iret dX11_count_110 rfl rfl (Nat.le_of_ble_eq_true rfl) rfl
            · have b42 := q_step (c := 5) b34 c41 rfl (by decide)
              refine q_ifV (fun c49 => ?_) (fun c49 => ?_)
              · refine q_tabIn (tgt := 111) 5 dX11_count_1 c49 (by decide) (by decide) rfl (by decide) ?_
                refine q_aload_n 0 dX11_count_111 rfl ?_
                refine q_getR (f := 0) cl_X11 (by decide) qw_367 rfl dX11_count_112 (fun _ _ _ => rfl) (fun v43 h44 => ?_)
                refine q_getR (f := 6) cl_X5 (by decide) qw_100 rfl dX11_count_115 (fun _ _ _ => rfl) (fun v45 h46 => ?_)
                refine q_getI (f := 3) cl_X9 (by decide) qw_52 rfl dX11_count_118 (Or.inl rfl) (fun v47 h48 => ?_)
                exact q_iret dX11_count_121 rfl rfl (Nat.le_of_ble_eq_true rfl) rfl
              · have b50 := q_step (c := 6) b42 c49 rfl (by decide)
                refine q_ifV (fun c57 => ?_) (fun c57 => ?_)
                · refine q_tabIn (tgt := 122) 6 dX11_count_1 c57 (by decide) (by decide) rfl (by decide) ?_
                  refine q_aload_n 0 dX11_count_122 rfl ?_
                  refine q_getR (f := 0) cl_X11 (by decide) qw_367 rfl dX11_count_123 (fun _ _ _ => rfl) (fun v51 h52 => ?_)
                  refine q_getR (f := 7) cl_X5 (by decide) qw_102 rfl dX11_count_126 (fun _ _ _ => rfl) (fun v53 h54 => ?_)
                  refine q_getI (f := 3) cl_X9 (by decide) qw_52 rfl dX11_count_129 (Or.inl rfl) (fun v55 h56 => ?_)
                  exact q_iret dX11_count_132 rfl rfl (Nat.le_of_ble_eq_true rfl) rfl
                · have b58 := q_step (c := 7) b50 c57 rfl (by decide)
                  refine q_ifV (fun c65 => ?_) (fun c65 => ?_)
                  · refine q_tabIn (tgt := 133) 7 dX11_count_1 c65 (by decide) (by decide) rfl (by decide) ?_
                    refine q_aload_n 0 dX11_count_133 rfl ?_
                    refine q_getR (f := 0) cl_X11 (by decide) qw_367 rfl dX11_count_134 (fun _ _ _ => rfl) (fun v59 h60 => ?_)
                    refine q_getR (f := 8) cl_X5 (by decide) qw_104 rfl dX11_count_137 (fun _ _ _ => rfl) (fun v61 h62 => ?_)
                    refine q_getI (f := 3) cl_X9 (by decide) qw_52 rfl dX11_count_140 (Or.inl rfl) (fun v63 h64 => ?_)
                    exact q_iret dX11_count_143 rfl rfl (Nat.le_of_ble_eq_true rfl) rfl
                  · have b66 := q_step (c := 8) b58 c65 rfl (by decide)
                    refine q_ifV (fun c73 => ?_) (fun c73 => ?_)
                    · refine q_tabIn (tgt := 144) 8 dX11_count_1 c73 (by decide) (by decide) rfl (by decide) ?_
                      refine q_aload_n 0 dX11_count_144 rfl ?_
                      refine q_getR (f := 0) cl_X11 (by decide) qw_367 rfl dX11_count_145 (fun _ _ _ => rfl) (fun v67 h68 => ?_)
                      refine q_getR (f := 9) cl_X5 (by decide) qw_107 rfl dX11_count_148 (fun _ _ _ => rfl) (fun v69 h70 => ?_)
                      refine q_getI (f := 3) cl_X9 (by decide) qw_52 rfl dX11_count_151 (Or.inl rfl) (fun v71 h72 => ?_)
                      exact q_iret dX11_count_154 rfl rfl (Nat.le_of_ble_eq_true rfl) rfl
                    · have b74 := q_step (c := 9) b66 c73 rfl (by decide)
                      refine q_ifV (fun c81 => ?_) (fun c81 => ?_)
                      · refine q_tabIn (tgt := 155) 9 dX11_count_1 c81 (by decide) (by decide) rfl (by decide) ?_
                        refine q_aload_n 0 dX11_count_155 rfl ?_
                        refine q_getR (f := 0) cl_X11 (by decide) qw_367 rfl dX11_count_156 (fun _ _ _ => rfl) (fun v75 h76 => ?_)
                        refine q_getR (f := 10) cl_X5 (by decide) qw_109 rfl dX11_count_159 (fun _ _ _ => rfl) (fun v77 h78 => ?_)
                        refine q_getI (f := 3) cl_X9 (by decide) qw_52 rfl dX11_count_162 (Or.inl rfl) (fun v79 h80 => ?_)
                        exact q_iret dX11_count_165 rfl rfl (Nat.le_of_ble_eq_true rfl) rfl
                      · have b82 := q_step (c := 10) b74 c81 rfl (by decide)
                        refine q_tabOut (tgt := 166) dX11_count_1 (Or.inr (Int.lt_of_lt_of_le (by decide) b82)) (by decide) ?_
                        refine q_bipush (x := (-2 : Int32)) dX11_count_166 rfl ?_
                        exact q_iret dX11_count_168 rfl rfl (Nat.le_of_ble_eq_true rfl) rfl
theorem dX11_digestOfTexts_0 : decode cX11_digestOfTexts 0 = .ok (.lload_n 1, 1) := by decide +kernel
theorem dX11_digestOfTexts_1 : decode cX11_digestOfTexts 1 = .ok (.lstore_n 3, 1) := by decide +kernel
theorem dX11_digestOfTexts_2 : decode cX11_digestOfTexts 2 = .ok (.iconst 0, 1) := by decide +kernel
theorem dX11_digestOfTexts_3 : decode cX11_digestOfTexts 3 = .ok (.istore 5, 2) := by decide +kernel
theorem dX11_digestOfTexts_5 : decode cX11_digestOfTexts 5 = .ok (.iload 5, 2) := by decide +kernel
theorem dX11_digestOfTexts_7 : decode cX11_digestOfTexts 7 = .ok (.aload_n 0, 1) := by decide +kernel
theorem dX11_digestOfTexts_8 : decode cX11_digestOfTexts 8 = .ok (.getfield 12, 3) := by decide +kernel
theorem dX11_digestOfTexts_11 : decode cX11_digestOfTexts 11 = .ok (.getfield 202, 3) := by decide +kernel
theorem dX11_digestOfTexts_14 : decode cX11_digestOfTexts 14 = .ok (.getfield 283, 3) := by decide +kernel
theorem dX11_digestOfTexts_17 : decode cX11_digestOfTexts 17 = .ok (.if_icmp .ge 64, 3) := by decide +kernel
theorem dX11_digestOfTexts_20 : decode cX11_digestOfTexts 20 = .ok (.aload_n 0, 1) := by decide +kernel
theorem dX11_digestOfTexts_21 : decode cX11_digestOfTexts 21 = .ok (.getfield 12, 3) := by decide +kernel
theorem dX11_digestOfTexts_24 : decode cX11_digestOfTexts 24 = .ok (.getfield 202, 3) := by decide +kernel
theorem dX11_digestOfTexts_27 : decode cX11_digestOfTexts 27 = .ok (.iload 5, 2) := by decide +kernel
theorem dX11_digestOfTexts_29 : decode cX11_digestOfTexts 29 = .ok (.iconst 0, 1) := by decide +kernel
theorem dX11_digestOfTexts_30 : decode cX11_digestOfTexts 30 = .ok (.invokevirtual 133, 3) := by decide +kernel
theorem dX11_digestOfTexts_33 : decode cX11_digestOfTexts 33 = .ok (.istore 6, 2) := by decide +kernel
theorem dX11_digestOfTexts_35 : decode cX11_digestOfTexts 35 = .ok (.iconst 0, 1) := by decide +kernel
theorem dX11_digestOfTexts_36 : decode cX11_digestOfTexts 36 = .ok (.istore 7, 2) := by decide +kernel
theorem dX11_digestOfTexts_38 : decode cX11_digestOfTexts 38 = .ok (.iload 7, 2) := by decide +kernel
theorem dX11_digestOfTexts_40 : decode cX11_digestOfTexts 40 = .ok (.iload 6, 2) := by decide +kernel
theorem dX11_digestOfTexts_42 : decode cX11_digestOfTexts 42 = .ok (.if_icmp .gt 33, 3) := by decide +kernel
theorem dX11_digestOfTexts_45 : decode cX11_digestOfTexts 45 = .ok (.ldc2_w 334, 3) := by decide +kernel
theorem dX11_digestOfTexts_48 : decode cX11_digestOfTexts 48 = .ok (.lload_n 3, 1) := by decide +kernel
theorem dX11_digestOfTexts_49 : decode cX11_digestOfTexts 49 = .ok (.lmul, 1) := by decide +kernel
theorem dX11_digestOfTexts_50 : decode cX11_digestOfTexts 50 = .ok (.aload_n 0, 1) := by decide +kernel
theorem dX11_digestOfTexts_51 : decode cX11_digestOfTexts 51 = .ok (.getfield 12, 3) := by decide +kernel
theorem dX11_digestOfTexts_54 : decode cX11_digestOfTexts 54 = .ok (.getfield 202, 3) := by decide +kernel
theorem dX11_digestOfTexts_57 : decode cX11_digestOfTexts 57 = .ok (.iload 5, 2) := by decide +kernel
theorem dX11_digestOfTexts_59 : decode cX11_digestOfTexts 59 = .ok (.iconst 0, 1) := by decide +kernel
theorem dX11_digestOfTexts_60 : decode cX11_digestOfTexts 60 = .ok (.iload 7, 2) := by decide +kernel
theorem dX11_digestOfTexts_62 : decode cX11_digestOfTexts 62 = .ok (.iadd, 1) := by decide +kernel
theorem dX11_digestOfTexts_63 : decode cX11_digestOfTexts 63 = .ok (.invokevirtual 133, 3) := by decide +kernel
theorem dX11_digestOfTexts_66 : decode cX11_digestOfTexts 66 = .ok (.i2l, 1) := by decide +kernel
theorem dX11_digestOfTexts_67 : decode cX11_digestOfTexts 67 = .ok (.ladd, 1) := by decide +kernel
theorem dX11_digestOfTexts_68 : decode cX11_digestOfTexts 68 = .ok (.lstore_n 3, 1) := by decide +kernel
theorem dX11_digestOfTexts_69 : decode cX11_digestOfTexts 69 = .ok (.iinc 7 1, 3) := by decide +kernel
theorem dX11_digestOfTexts_72 : decode cX11_digestOfTexts 72 = .ok (.goto (-34), 3) := by decide +kernel
theorem dX11_digestOfTexts_75 : decode cX11_digestOfTexts 75 = .ok (.iinc 5 1, 3) := by decide +kernel
theorem dX11_digestOfTexts_78 : decode cX11_digestOfTexts 78 = .ok (.goto (-73), 3) := by decide +kernel
theorem dX11_digestOfTexts_81 : decode cX11_digestOfTexts 81 = .ok (.lload_n 3, 1) := by decide +kernel
theorem dX11_digestOfTexts_82 : decode cX11_digestOfTexts 82 = .ok (.lreturn, 1) := by decide +kernel
def f_X11_digestOfTexts_b38 (kk5 : Int64 → Int32 → Option Int64) (M : q_Mem) (a0 : Nat) (a5 : Int32) (a6 : Int32) : Nat → Int64 → Int32 → Option Int64
  | 0, _, _ => none
  | n + 1, a3, a7 =>
    (if a6 < a7 then
      kk5 a3 (a5 + (1 : Int32))
    else
      (q_gR 10 0 M a0).bind fun v14 =>
      (q_gR 4 5 M v14).bind fun v16 =>
      (f_X9_at M v16 a5 ((0 : Int32) + a7)).bind fun v19 =>
      f_X11_digestOfTexts_b38 kk5 M a0 a5 a6 n (((31 : Int64) * a3) + v19.toInt64) (a7 + (1 : Int32)))
def f_X11_digestOfTexts_b5 (M : q_Mem) (a0 : Nat) : Nat → Int64 → Int32 → Option Int64
  | 0, _, _ => none
  | n + 1, a3, a5 =>
    (q_gR 10 0 M a0).bind fun v1 =>
    (q_gR 4 5 M v1).bind fun v3 =>
    (q_gI 8 3 M v3).bind fun v5 =>
    (if a5 < v5 then
      (q_gR 10 0 M a0).bind fun v7 =>
      (q_gR 4 5 M v7).bind fun v9 =>
      (f_X9_at M v9 a5 (0 : Int32)).bind fun v12 =>
      f_X11_digestOfTexts_b38 (f_X11_digestOfTexts_b5 M a0 n) M a0 a5 v12 q_fuel a3 (0 : Int32)
    else
      some a3)
def f_X11_digestOfTexts (M : q_Mem) (a0 : Nat) (a1 : Int64) : Option Int64 :=
  q_ob 10 M a0 (f_X11_digestOfTexts_b5 M a0 q_fuel a1 (0 : Int32))
set_option maxRecDepth 20000 in
theorem v_X11_digestOfTexts_b38 {kk5 : Int64 → Int32 → Option Int64} {M : q_Mem} {a0 : Nat} {a5 : Int32} {a6 : Int32} (hk5 : ∀ (a3 : Int64) (a5 : Int32), q_V Y_X11_digestOfTexts none (fun x : Int64 => (some (.long x), M)) 0 0 5 [(0, .ref a0), (3, .long a3), (5, .int a5)] [] M (kk5 a3 a5)) : ∀ (n : Nat) (a3 : Int64) (a7 : Int32), q_V Y_X11_digestOfTexts none (fun x : Int64 => (some (.long x), M)) 0 0 38 [(0, .ref a0), (3, .long a3), (5, .int a5), (6, .int a6), (7, .int a7)] [] M (f_X11_digestOfTexts_b38 kk5 M a0 a5 a6 n a3 a7) := by
  intro n
  induction n with
  | zero => intro a3 a7; exact q_none
  | succ n ih =>
    intro a3 a7
    rw [f_X11_digestOfTexts_b38.eq_2]
    refine q_iload 4 dX11_digestOfTexts_38 rfl ?_
    refine q_iload 3 dX11_digestOfTexts_40 rfl ?_
    refine q_icmp_gt (tgt := 75) dX11_digestOfTexts_42 (by decide) (fun c20 => ?_) (fun c20 => ?_)
    · refine q_iinc 2 (y := (a5 + (1 : Int32))) (ls' := [(5, .int (a5 + (1 : Int32))), (0, .ref a0), (3, .long a3), (6, .int a6), (7, .int a7)]) dX11_digestOfTexts_75 rfl rfl (by decide) rfl ?_
      refine q_goto (tgt := 5) dX11_digestOfTexts_78 (by decide) ?_
      refine q_sub (ls' := [(0, .ref a0), (3, .long a3), (5, .int (a5 + (1 : Int32)))]) [1, 2, 0] rfl ?_
      exact hk5 _ _
    · refine q_ldc2 (x := (31 : Int64)) qw_1099 dX11_digestOfTexts_45 ?_
      refine q_lload_n 1 dX11_digestOfTexts_48 rfl ?_
      refine q_lmul dX11_digestOfTexts_49 ?_
      refine q_aload_n 0 dX11_digestOfTexts_50 rfl ?_
      refine q_getR (f := 0) cl_X11 (by decide) qw_367 rfl dX11_digestOfTexts_51 (fun _ _ _ => rfl) (fun v14 h15 => ?_)
      refine q_getR (f := 5) cl_X5 (by decide) qw_96 rfl dX11_digestOfTexts_54 (fun _ _ _ => rfl) (fun v16 h17 => ?_)
      refine q_iload 2 dX11_digestOfTexts_57 rfl ?_
      refine q_iconst (x := (0 : Int32)) dX11_digestOfTexts_59 rfl ?_
      refine q_iload 4 dX11_digestOfTexts_60 rfl ?_
      refine q_iadd dX11_digestOfTexts_62 ?_
      refine q_cVI (Y2 := Y_X9_at) (As := [.int a5, .int ((0 : Int32) + a7)]) (b := v16) (st := [.long ((31 : Int64) * a3)]) cl_X9 mv_X9_at qw_442 dX11_digestOfTexts_63 ⟨Nat.le_of_ble_eq_true rfl, Nat.le_of_ble_eq_true rfl⟩ rfl (fun _ _ => rfl) (Nat.le_of_ble_eq_true rfl) ⟨Nat.le_of_ble_eq_true rfl, Nat.le_of_ble_eq_true rfl⟩ (fun v19 h18 => q_ob_is h18) (fun v19 h18 => m_X9_at h18) (fun v19 h18 => ?_)
      refine q_i2l dX11_digestOfTexts_66 ?_
      refine q_ladd dX11_digestOfTexts_67 ?_
      refine q_lstore_n (ls' := [(3, .long (((31 : Int64) * a3) + v19.toInt64)), (0, .ref a0), (5, .int a5), (6, .int a6), (7, .int a7)]) dX11_digestOfTexts_68 (by decide) rfl ?_
      refine q_iinc 4 (y := (a7 + (1 : Int32))) (ls' := [(7, .int (a7 + (1 : Int32))), (3, .long (((31 : Int64) * a3) + v19.toInt64)), (0, .ref a0), (5, .int a5), (6, .int a6)]) dX11_digestOfTexts_69 rfl rfl (by decide) rfl ?_
      refine q_goto (tgt := 38) dX11_digestOfTexts_72 (by decide) ?_
      refine q_sub (ls' := [(0, .ref a0), (3, .long (((31 : Int64) * a3) + v19.toInt64)), (5, .int a5), (6, .int a6), (7, .int (a7 + (1 : Int32)))]) [2, 1, 3, 4, 0] rfl ?_
      exact ih _ _
set_option maxRecDepth 20000 in
theorem v_X11_digestOfTexts_b5 {M : q_Mem} {a0 : Nat}  : ∀ (n : Nat) (a3 : Int64) (a5 : Int32), q_V Y_X11_digestOfTexts none (fun x : Int64 => (some (.long x), M)) 0 0 5 [(0, .ref a0), (3, .long a3), (5, .int a5)] [] M (f_X11_digestOfTexts_b5 M a0 n a3 a5) := by
  intro n
  induction n with
  | zero => intro a3 a5; exact q_none
  | succ n ih =>
    intro a3 a5
    rw [f_X11_digestOfTexts_b5.eq_2]
    refine q_iload 2 dX11_digestOfTexts_5 rfl ?_
    refine q_aload_n 0 dX11_digestOfTexts_7 rfl ?_
    refine q_getR (f := 0) cl_X11 (by decide) qw_367 rfl dX11_digestOfTexts_8 (fun _ _ _ => rfl) (fun v1 h2 => ?_)
    refine q_getR (f := 5) cl_X5 (by decide) qw_96 rfl dX11_digestOfTexts_11 (fun _ _ _ => rfl) (fun v3 h4 => ?_)
    refine q_getI (f := 3) cl_X9 (by decide) qw_52 rfl dX11_digestOfTexts_14 (Or.inl rfl) (fun v5 h6 => ?_)
    refine q_icmp_ge (tgt := 81) dX11_digestOfTexts_17 (by decide) (fun c13 => ?_) (fun c13 => ?_)
    · refine q_aload_n 0 dX11_digestOfTexts_20 rfl ?_
      refine q_getR (f := 0) cl_X11 (by decide) qw_367 rfl dX11_digestOfTexts_21 (fun _ _ _ => rfl) (fun v7 h8 => ?_)
      refine q_getR (f := 5) cl_X5 (by decide) qw_96 rfl dX11_digestOfTexts_24 (fun _ _ _ => rfl) (fun v9 h10 => ?_)
      refine q_iload 2 dX11_digestOfTexts_27 rfl ?_
      refine q_iconst (x := (0 : Int32)) dX11_digestOfTexts_29 rfl ?_
      refine q_cVI (Y2 := Y_X9_at) (As := [.int a5, .int (0 : Int32)]) (b := v9) (st := []) cl_X9 mv_X9_at qw_442 dX11_digestOfTexts_30 ⟨Nat.le_of_ble_eq_true rfl, Nat.le_of_ble_eq_true rfl⟩ rfl (fun _ _ => rfl) (Nat.le_of_ble_eq_true rfl) ⟨Nat.le_of_ble_eq_true rfl, Nat.le_of_ble_eq_true rfl⟩ (fun v12 h11 => q_ob_is h11) (fun v12 h11 => m_X9_at h11) (fun v12 h11 => ?_)
      refine q_istore (ls' := [(6, .int v12), (0, .ref a0), (3, .long a3), (5, .int a5)]) dX11_digestOfTexts_33 (by decide) rfl ?_
      refine q_iconst (x := (0 : Int32)) dX11_digestOfTexts_35 rfl ?_
      refine q_istore (ls' := [(7, .int (0 : Int32)), (6, .int v12), (0, .ref a0), (3, .long a3), (5, .int a5)]) dX11_digestOfTexts_36 (by decide) rfl ?_
      refine q_sub (ls' := [(0, .ref a0), (3, .long a3), (5, .int a5), (6, .int v12), (7, .int (0 : Int32))]) [2, 3, 4, 1, 0] rfl ?_
      exact v_X11_digestOfTexts_b38 (ih) _ _ _
    · refine q_lload_n 1 dX11_digestOfTexts_81 rfl ?_
      exact q_lret dX11_digestOfTexts_82 rfl rfl (Nat.le_of_ble_eq_true rfl) rfl
set_option maxRecDepth 20000 in
theorem m_X11_digestOfTexts {M : q_Mem} {a0 : Nat} {a1 : Int64} {x : Int64} (h : f_X11_digestOfTexts M a0 a1 = some x) : q_C Y_X11_digestOfTexts [.ref a0, .long a1] M (some (.long x)) M := by
  refine q_met (φ := (fun x : Int64 => (some (.long x), M))) (r := f_X11_digestOfTexts M a0 a1) (by decide +kernel) (Nat.le_of_ble_eq_true rfl) ?_ h (fun _ _ => rfl)
  show q_V Y_X11_digestOfTexts none (fun x : Int64 => (some (.long x), M)) 0 0 0 [(0, .ref a0), (1, .long a1)] [] M (f_X11_digestOfTexts M a0 a1)
  unfold f_X11_digestOfTexts
  refine q_obV ?_
  refine q_lload_n 1 dX11_digestOfTexts_0 rfl ?_
  refine q_lstore_n (ls' := [(3, .long a1), (0, .ref a0), (1, .long a1)]) dX11_digestOfTexts_1 (by decide) rfl ?_
  refine q_iconst (x := (0 : Int32)) dX11_digestOfTexts_2 rfl ?_
  refine q_istore (ls' := [(5, .int (0 : Int32)), (3, .long a1), (0, .ref a0), (1, .long a1)]) dX11_digestOfTexts_3 (by decide) rfl ?_
  refine q_sub (ls' := [(0, .ref a0), (3, .long a1), (5, .int (0 : Int32))]) [2, 1, 0] rfl ?_
  exact v_X11_digestOfTexts_b5 _ _ _
theorem dX11_digest_0 : decode cX11_digest 0 = .ok (.ldc2_w 332, 3) := by decide +kernel
theorem dX11_digest_3 : decode cX11_digest 3 = .ok (.lstore_n 1, 1) := by decide +kernel
theorem dX11_digest_4 : decode cX11_digest 4 = .ok (.iconst 0, 1) := by decide +kernel
theorem dX11_digest_5 : decode cX11_digest 5 = .ok (.istore_n 3, 1) := by decide +kernel
theorem dX11_digest_6 : decode cX11_digest 6 = .ok (.iload_n 3, 1) := by decide +kernel
theorem dX11_digest_7 : decode cX11_digest 7 = .ok (.bipush 9, 2) := by decide +kernel
theorem dX11_digest_9 : decode cX11_digest 9 = .ok (.if_icmp .gt 22, 3) := by decide +kernel
theorem dX11_digest_12 : decode cX11_digest 12 = .ok (.ldc2_w 334, 3) := by decide +kernel
theorem dX11_digest_15 : decode cX11_digest 15 = .ok (.lload_n 1, 1) := by decide +kernel
theorem dX11_digest_16 : decode cX11_digest 16 = .ok (.lmul, 1) := by decide +kernel
theorem dX11_digest_17 : decode cX11_digest 17 = .ok (.aload_n 0, 1) := by decide +kernel
theorem dX11_digest_18 : decode cX11_digest 18 = .ok (.iload_n 3, 1) := by decide +kernel
theorem dX11_digest_19 : decode cX11_digest 19 = .ok (.invokevirtual 336, 3) := by decide +kernel
theorem dX11_digest_22 : decode cX11_digest 22 = .ok (.i2l, 1) := by decide +kernel
theorem dX11_digest_23 : decode cX11_digest 23 = .ok (.ladd, 1) := by decide +kernel
theorem dX11_digest_24 : decode cX11_digest 24 = .ok (.lstore_n 1, 1) := by decide +kernel
theorem dX11_digest_25 : decode cX11_digest 25 = .ok (.iinc 3 1, 3) := by decide +kernel
theorem dX11_digest_28 : decode cX11_digest 28 = .ok (.goto (-22), 3) := by decide +kernel
theorem dX11_digest_31 : decode cX11_digest 31 = .ok (.aload_n 0, 1) := by decide +kernel
theorem dX11_digest_32 : decode cX11_digest 32 = .ok (.getfield 12, 3) := by decide +kernel
theorem dX11_digest_35 : decode cX11_digest 35 = .ok (.getfield 100, 3) := by decide +kernel
theorem dX11_digest_38 : decode cX11_digest 38 = .ok (.lload_n 1, 1) := by decide +kernel
theorem dX11_digest_39 : decode cX11_digest 39 = .ok (.invokevirtual 339, 3) := by decide +kernel
theorem dX11_digest_42 : decode cX11_digest 42 = .ok (.lstore_n 1, 1) := by decide +kernel
theorem dX11_digest_43 : decode cX11_digest 43 = .ok (.aload_n 0, 1) := by decide +kernel
theorem dX11_digest_44 : decode cX11_digest 44 = .ok (.getfield 12, 3) := by decide +kernel
theorem dX11_digest_47 : decode cX11_digest 47 = .ok (.getfield 124, 3) := by decide +kernel
theorem dX11_digest_50 : decode cX11_digest 50 = .ok (.lload_n 1, 1) := by decide +kernel
theorem dX11_digest_51 : decode cX11_digest 51 = .ok (.invokevirtual 339, 3) := by decide +kernel
theorem dX11_digest_54 : decode cX11_digest 54 = .ok (.lstore_n 1, 1) := by decide +kernel
theorem dX11_digest_55 : decode cX11_digest 55 = .ok (.aload_n 0, 1) := by decide +kernel
theorem dX11_digest_56 : decode cX11_digest 56 = .ok (.getfield 12, 3) := by decide +kernel
theorem dX11_digest_59 : decode cX11_digest 59 = .ok (.getfield 130, 3) := by decide +kernel
theorem dX11_digest_62 : decode cX11_digest 62 = .ok (.lload_n 1, 1) := by decide +kernel
theorem dX11_digest_63 : decode cX11_digest 63 = .ok (.invokevirtual 339, 3) := by decide +kernel
theorem dX11_digest_66 : decode cX11_digest 66 = .ok (.lstore_n 1, 1) := by decide +kernel
theorem dX11_digest_67 : decode cX11_digest 67 = .ok (.iconst 0, 1) := by decide +kernel
theorem dX11_digest_68 : decode cX11_digest 68 = .ok (.istore_n 3, 1) := by decide +kernel
theorem dX11_digest_69 : decode cX11_digest 69 = .ok (.iload_n 3, 1) := by decide +kernel
theorem dX11_digest_70 : decode cX11_digest 70 = .ok (.aload_n 0, 1) := by decide +kernel
theorem dX11_digest_71 : decode cX11_digest 71 = .ok (.getfield 12, 3) := by decide +kernel
theorem dX11_digest_74 : decode cX11_digest 74 = .ok (.getfield 137, 3) := by decide +kernel
theorem dX11_digest_77 : decode cX11_digest 77 = .ok (.arraylength, 1) := by decide +kernel
theorem dX11_digest_78 : decode cX11_digest 78 = .ok (.if_icmp .ge 26, 3) := by decide +kernel
theorem dX11_digest_81 : decode cX11_digest 81 = .ok (.ldc2_w 334, 3) := by decide +kernel
theorem dX11_digest_84 : decode cX11_digest 84 = .ok (.lload_n 1, 1) := by decide +kernel
theorem dX11_digest_85 : decode cX11_digest 85 = .ok (.lmul, 1) := by decide +kernel
theorem dX11_digest_86 : decode cX11_digest 86 = .ok (.aload_n 0, 1) := by decide +kernel
theorem dX11_digest_87 : decode cX11_digest 87 = .ok (.getfield 12, 3) := by decide +kernel
theorem dX11_digest_90 : decode cX11_digest 90 = .ok (.getfield 137, 3) := by decide +kernel
theorem dX11_digest_93 : decode cX11_digest 93 = .ok (.iload_n 3, 1) := by decide +kernel
theorem dX11_digest_94 : decode cX11_digest 94 = .ok (.iaload, 1) := by decide +kernel
theorem dX11_digest_95 : decode cX11_digest 95 = .ok (.i2l, 1) := by decide +kernel
theorem dX11_digest_96 : decode cX11_digest 96 = .ok (.ladd, 1) := by decide +kernel
theorem dX11_digest_97 : decode cX11_digest 97 = .ok (.lstore_n 1, 1) := by decide +kernel
theorem dX11_digest_98 : decode cX11_digest 98 = .ok (.iinc 3 1, 3) := by decide +kernel
theorem dX11_digest_101 : decode cX11_digest 101 = .ok (.goto (-32), 3) := by decide +kernel
theorem dX11_digest_104 : decode cX11_digest 104 = .ok (.ldc2_w 334, 3) := by decide +kernel
theorem dX11_digest_107 : decode cX11_digest 107 = .ok (.lload_n 1, 1) := by decide +kernel
theorem dX11_digest_108 : decode cX11_digest 108 = .ok (.lmul, 1) := by decide +kernel
theorem dX11_digest_109 : decode cX11_digest 109 = .ok (.aload_n 0, 1) := by decide +kernel
theorem dX11_digest_110 : decode cX11_digest 110 = .ok (.getfield 12, 3) := by decide +kernel
theorem dX11_digest_113 : decode cX11_digest 113 = .ok (.getfield 141, 3) := by decide +kernel
theorem dX11_digest_116 : decode cX11_digest 116 = .ok (.i2l, 1) := by decide +kernel
theorem dX11_digest_117 : decode cX11_digest 117 = .ok (.ladd, 1) := by decide +kernel
theorem dX11_digest_118 : decode cX11_digest 118 = .ok (.lstore_n 1, 1) := by decide +kernel
theorem dX11_digest_119 : decode cX11_digest 119 = .ok (.aload_n 0, 1) := by decide +kernel
theorem dX11_digest_120 : decode cX11_digest 120 = .ok (.getfield 12, 3) := by decide +kernel
theorem dX11_digest_123 : decode cX11_digest 123 = .ok (.getfield 165, 3) := by decide +kernel
theorem dX11_digest_126 : decode cX11_digest 126 = .ok (.lload_n 1, 1) := by decide +kernel
theorem dX11_digest_127 : decode cX11_digest 127 = .ok (.invokevirtual 339, 3) := by decide +kernel
theorem dX11_digest_130 : decode cX11_digest 130 = .ok (.lstore_n 1, 1) := by decide +kernel
theorem dX11_digest_131 : decode cX11_digest 131 = .ok (.aload_n 0, 1) := by decide +kernel
theorem dX11_digest_132 : decode cX11_digest 132 = .ok (.getfield 12, 3) := by decide +kernel
theorem dX11_digest_135 : decode cX11_digest 135 = .ok (.getfield 191, 3) := by decide +kernel
theorem dX11_digest_138 : decode cX11_digest 138 = .ok (.lload_n 1, 1) := by decide +kernel
theorem dX11_digest_139 : decode cX11_digest 139 = .ok (.invokevirtual 339, 3) := by decide +kernel
theorem dX11_digest_142 : decode cX11_digest 142 = .ok (.lstore_n 1, 1) := by decide +kernel
theorem dX11_digest_143 : decode cX11_digest 143 = .ok (.aload_n 0, 1) := by decide +kernel
theorem dX11_digest_144 : decode cX11_digest 144 = .ok (.lload_n 1, 1) := by decide +kernel
theorem dX11_digest_145 : decode cX11_digest 145 = .ok (.invokevirtual 343, 3) := by decide +kernel
theorem dX11_digest_148 : decode cX11_digest 148 = .ok (.lstore_n 1, 1) := by decide +kernel
theorem dX11_digest_149 : decode cX11_digest 149 = .ok (.iconst 0, 1) := by decide +kernel
theorem dX11_digest_150 : decode cX11_digest 150 = .ok (.istore_n 3, 1) := by decide +kernel
theorem dX11_digest_151 : decode cX11_digest 151 = .ok (.iload_n 3, 1) := by decide +kernel
theorem dX11_digest_152 : decode cX11_digest 152 = .ok (.aload_n 0, 1) := by decide +kernel
theorem dX11_digest_153 : decode cX11_digest 153 = .ok (.getfield 12, 3) := by decide +kernel
theorem dX11_digest_156 : decode cX11_digest 156 = .ok (.getfield 236, 3) := by decide +kernel
theorem dX11_digest_159 : decode cX11_digest 159 = .ok (.getfield 283, 3) := by decide +kernel
theorem dX11_digest_162 : decode cX11_digest 162 = .ok (.if_icmp .ge 42, 3) := by decide +kernel
theorem dX11_digest_165 : decode cX11_digest 165 = .ok (.iconst 0, 1) := by decide +kernel
theorem dX11_digest_166 : decode cX11_digest 166 = .ok (.istore 4, 2) := by decide +kernel
theorem dX11_digest_168 : decode cX11_digest 168 = .ok (.iload 4, 2) := by decide +kernel
theorem dX11_digest_170 : decode cX11_digest 170 = .ok (.iconst 4, 1) := by decide +kernel
theorem dX11_digest_171 : decode cX11_digest 171 = .ok (.if_icmp .gt 27, 3) := by decide +kernel
theorem dX11_digest_174 : decode cX11_digest 174 = .ok (.ldc2_w 334, 3) := by decide +kernel
theorem dX11_digest_177 : decode cX11_digest 177 = .ok (.lload_n 1, 1) := by decide +kernel
theorem dX11_digest_178 : decode cX11_digest 178 = .ok (.lmul, 1) := by decide +kernel
theorem dX11_digest_179 : decode cX11_digest 179 = .ok (.aload_n 0, 1) := by decide +kernel
theorem dX11_digest_180 : decode cX11_digest 180 = .ok (.getfield 52, 3) := by decide +kernel
theorem dX11_digest_183 : decode cX11_digest 183 = .ok (.iload_n 3, 1) := by decide +kernel
theorem dX11_digest_184 : decode cX11_digest 184 = .ok (.iload 4, 2) := by decide +kernel
theorem dX11_digest_186 : decode cX11_digest 186 = .ok (.invokevirtual 239, 3) := by decide +kernel
theorem dX11_digest_189 : decode cX11_digest 189 = .ok (.i2l, 1) := by decide +kernel
theorem dX11_digest_190 : decode cX11_digest 190 = .ok (.ladd, 1) := by decide +kernel
theorem dX11_digest_191 : decode cX11_digest 191 = .ok (.lstore_n 1, 1) := by decide +kernel
theorem dX11_digest_192 : decode cX11_digest 192 = .ok (.iinc 4 1, 3) := by decide +kernel
theorem dX11_digest_195 : decode cX11_digest 195 = .ok (.goto (-27), 3) := by decide +kernel
theorem dX11_digest_198 : decode cX11_digest 198 = .ok (.iinc 3 1, 3) := by decide +kernel
theorem dX11_digest_201 : decode cX11_digest 201 = .ok (.goto (-50), 3) := by decide +kernel
theorem dX11_digest_204 : decode cX11_digest 204 = .ok (.lload_n 1, 1) := by decide +kernel
theorem dX11_digest_205 : decode cX11_digest 205 = .ok (.lreturn, 1) := by decide +kernel
def f_X11_digest_b168 (kk151 : Int64 → Int32 → Option Int64) (M : q_Mem) (a0 : Nat) (a3 : Int32) : Nat → Int64 → Int32 → Option Int64
  | 0, _, _ => none
  | n + 1, a1, a4 =>
    (if (4 : Int32) < a4 then
      kk151 a1 (a3 + (1 : Int32))
    else
      (q_gR 10 6 M a0).bind fun v60 =>
      (f_X0_tellOf M v60 a3 a4).bind fun v63 =>
      f_X11_digest_b168 kk151 M a0 a3 n (((31 : Int64) * a1) + v63.toInt64) (a4 + (1 : Int32)))
def f_X11_digest_b151 (M : q_Mem) (a0 : Nat) : Nat → Int64 → Int32 → Option Int64
  | 0, _, _ => none
  | n + 1, a1, a3 =>
    (q_gR 10 0 M a0).bind fun v53 =>
    (q_gR 4 6 M v53).bind fun v55 =>
    (q_gI 8 3 M v55).bind fun v57 =>
    (if a3 < v57 then
      f_X11_digest_b168 (f_X11_digest_b151 M a0 n) M a0 a3 q_fuel a1 (0 : Int32)
    else
      some a1)
def f_X11_digest_b104 (M : q_Mem) (a0 : Nat) (a1 : Int64) : Option Int64 :=
  (q_gR 10 0 M a0).bind fun v35 =>
  (q_gI 4 13 M v35).bind fun v37 =>
  (q_gR 10 0 M a0).bind fun v39 =>
  (q_gR 4 3 M v39).bind fun v41 =>
  (f_X9_digestOn M v41 (((31 : Int64) * a1) + v37.toInt64)).bind fun v44 =>
  (q_gR 10 0 M a0).bind fun v45 =>
  (q_gR 4 4 M v45).bind fun v47 =>
  (f_X9_digestOn M v47 v44).bind fun v50 =>
  (f_X11_digestOfTexts M a0 v50).bind fun v52 =>
  f_X11_digest_b151 M a0 q_fuel v52 (0 : Int32)
def f_X11_digest_b69 (M : q_Mem) (a0 : Nat) : Nat → Int64 → Int32 → Option Int64
  | 0, _, _ => none
  | n + 1, a1, a3 =>
    (q_gR 10 0 M a0).bind fun v22 =>
    (q_gR 4 11 M v22).bind fun v24 =>
    (q_ln M v24).bind fun v26 =>
    (if a3 < v26 then
      (q_gR 10 0 M a0).bind fun v28 =>
      (q_gR 4 11 M v28).bind fun v30 =>
      (q_lI M v30 a3).bind fun v32 =>
      f_X11_digest_b69 M a0 n (((31 : Int64) * a1) + v32.toInt64) (a3 + (1 : Int32))
    else
      f_X11_digest_b104 M a0 a1)
def f_X11_digest_b31 (M : q_Mem) (a0 : Nat) (a1 : Int64) : Option Int64 :=
  (q_gR 10 0 M a0).bind fun v4 =>
  (q_gR 4 0 M v4).bind fun v6 =>
  (f_X9_digestOn M v6 a1).bind fun v9 =>
  (q_gR 10 0 M a0).bind fun v10 =>
  (q_gR 4 1 M v10).bind fun v12 =>
  (f_X9_digestOn M v12 v9).bind fun v15 =>
  (q_gR 10 0 M a0).bind fun v16 =>
  (q_gR 4 2 M v16).bind fun v18 =>
  (f_X9_digestOn M v18 v15).bind fun v21 =>
  f_X11_digest_b69 M a0 q_fuel v21 (0 : Int32)
def f_X11_digest_b6 (M : q_Mem) (a0 : Nat) : Nat → Int64 → Int32 → Option Int64
  | 0, _, _ => none
  | n + 1, a1, a3 =>
    (if (9 : Int32) < a3 then
      f_X11_digest_b31 M a0 a1
    else
      (f_X11_count M a0 a3).bind fun v2 =>
      f_X11_digest_b6 M a0 n (((31 : Int64) * a1) + v2.toInt64) (a3 + (1 : Int32)))
def f_X11_digest (M : q_Mem) (a0 : Nat) : Option Int64 :=
  q_ob 10 M a0 (f_X11_digest_b6 M a0 q_fuel (281 : Int64) (0 : Int32))
set_option maxRecDepth 20000 in
theorem v_X11_digest_b168 {kk151 : Int64 → Int32 → Option Int64} {M : q_Mem} {a0 : Nat} {a3 : Int32} (hk151 : ∀ (a1 : Int64) (a3 : Int32), q_V Y_X11_digest none (fun x : Int64 => (some (.long x), M)) 0 0 151 [(0, .ref a0), (1, .long a1), (3, .int a3)] [] M (kk151 a1 a3)) : ∀ (n : Nat) (a1 : Int64) (a4 : Int32), q_V Y_X11_digest none (fun x : Int64 => (some (.long x), M)) 0 0 168 [(0, .ref a0), (1, .long a1), (3, .int a3), (4, .int a4)] [] M (f_X11_digest_b168 kk151 M a0 a3 n a1 a4) := by
  intro n
  induction n with
  | zero => intro a1 a4; exact q_none
  | succ n ih =>
    intro a1 a4
    rw [f_X11_digest_b168.eq_2]
    refine q_iload 3 dX11_digest_168 rfl ?_
    refine q_iconst (x := (4 : Int32)) dX11_digest_170 rfl ?_
    refine q_icmp_gt (tgt := 198) dX11_digest_171 (by decide) (fun c64 => ?_) (fun c64 => ?_)
    · refine q_iinc 2 (y := (a3 + (1 : Int32))) (ls' := [(3, .int (a3 + (1 : Int32))), (0, .ref a0), (1, .long a1), (4, .int a4)]) dX11_digest_198 rfl rfl (by decide) rfl ?_
      refine q_goto (tgt := 151) dX11_digest_201 (by decide) ?_
      refine q_sub (ls' := [(0, .ref a0), (1, .long a1), (3, .int (a3 + (1 : Int32)))]) [1, 2, 0] rfl ?_
      exact hk151 _ _
    · refine q_ldc2 (x := (31 : Int64)) qw_1099 dX11_digest_174 ?_
      refine q_lload_n 1 dX11_digest_177 rfl ?_
      refine q_lmul dX11_digest_178 ?_
      refine q_aload_n 0 dX11_digest_179 rfl ?_
      refine q_getR (f := 6) cl_X11 (by decide) qw_373 rfl dX11_digest_180 (fun _ _ _ => rfl) (fun v60 h61 => ?_)
      refine q_iload_n 2 dX11_digest_183 rfl ?_
      refine q_iload 3 dX11_digest_184 rfl ?_
      refine q_cVI (Y2 := Y_X0_tellOf) (As := [.int a3, .int a4]) (b := v60) (st := [.long ((31 : Int64) * a1)]) cl_X0 mv_X0_tellOf qw_792 dX11_digest_186 ⟨Nat.le_of_ble_eq_true rfl, Nat.le_of_ble_eq_true rfl⟩ rfl (fun _ _ => rfl) (Nat.le_of_ble_eq_true rfl) ⟨Nat.le_of_ble_eq_true rfl, Nat.le_of_ble_eq_true rfl⟩ (fun v63 h62 => q_ob_is h62) (fun v63 h62 => m_X0_tellOf h62) (fun v63 h62 => ?_)
      refine q_i2l dX11_digest_189 ?_
      refine q_ladd dX11_digest_190 ?_
      refine q_lstore_n (ls' := [(1, .long (((31 : Int64) * a1) + v63.toInt64)), (0, .ref a0), (3, .int a3), (4, .int a4)]) dX11_digest_191 (by decide) rfl ?_
      refine q_iinc 3 (y := (a4 + (1 : Int32))) (ls' := [(4, .int (a4 + (1 : Int32))), (1, .long (((31 : Int64) * a1) + v63.toInt64)), (0, .ref a0), (3, .int a3)]) dX11_digest_192 rfl rfl (by decide) rfl ?_
      refine q_goto (tgt := 168) dX11_digest_195 (by decide) ?_
      refine q_sub (ls' := [(0, .ref a0), (1, .long (((31 : Int64) * a1) + v63.toInt64)), (3, .int a3), (4, .int (a4 + (1 : Int32)))]) [2, 1, 3, 0] rfl ?_
      exact ih _ _
set_option maxRecDepth 20000 in
theorem v_X11_digest_b151 {M : q_Mem} {a0 : Nat}  : ∀ (n : Nat) (a1 : Int64) (a3 : Int32), q_V Y_X11_digest none (fun x : Int64 => (some (.long x), M)) 0 0 151 [(0, .ref a0), (1, .long a1), (3, .int a3)] [] M (f_X11_digest_b151 M a0 n a1 a3) := by
  intro n
  induction n with
  | zero => intro a1 a3; exact q_none
  | succ n ih =>
    intro a1 a3
    rw [f_X11_digest_b151.eq_2]
    refine q_iload_n 2 dX11_digest_151 rfl ?_
    refine q_aload_n 0 dX11_digest_152 rfl ?_
    refine q_getR (f := 0) cl_X11 (by decide) qw_367 rfl dX11_digest_153 (fun _ _ _ => rfl) (fun v53 h54 => ?_)
    refine q_getR (f := 6) cl_X5 (by decide) qw_100 rfl dX11_digest_156 (fun _ _ _ => rfl) (fun v55 h56 => ?_)
    refine q_getI (f := 3) cl_X9 (by decide) qw_52 rfl dX11_digest_159 (Or.inl rfl) (fun v57 h58 => ?_)
    refine q_icmp_ge (tgt := 204) dX11_digest_162 (by decide) (fun c59 => ?_) (fun c59 => ?_)
    · refine q_iconst (x := (0 : Int32)) dX11_digest_165 rfl ?_
      refine q_istore (ls' := [(4, .int (0 : Int32)), (0, .ref a0), (1, .long a1), (3, .int a3)]) dX11_digest_166 (by decide) rfl ?_
      refine q_sub (ls' := [(0, .ref a0), (1, .long a1), (3, .int a3), (4, .int (0 : Int32))]) [1, 2, 3, 0] rfl ?_
      exact v_X11_digest_b168 (ih) _ _ _
    · refine q_lload_n 1 dX11_digest_204 rfl ?_
      exact q_lret dX11_digest_205 rfl rfl (Nat.le_of_ble_eq_true rfl) rfl
set_option maxRecDepth 20000 in
theorem v_X11_digest_b104 {M : q_Mem} {a0 : Nat} {a1 : Int64}  : q_V Y_X11_digest none (fun x : Int64 => (some (.long x), M)) 0 0 104 [(0, .ref a0), (1, .long a1)] [] M (f_X11_digest_b104 M a0 a1 ) := by
  unfold f_X11_digest_b104
  refine q_ldc2 (x := (31 : Int64)) qw_1099 dX11_digest_104 ?_
  refine q_lload_n 1 dX11_digest_107 rfl ?_
  refine q_lmul dX11_digest_108 ?_
  refine q_aload_n 0 dX11_digest_109 rfl ?_
  refine q_getR (f := 0) cl_X11 (by decide) qw_367 rfl dX11_digest_110 (fun _ _ _ => rfl) (fun v35 h36 => ?_)
  refine q_getI (f := 13) cl_X5 (by decide) qw_115 rfl dX11_digest_113 (Or.inl rfl) (fun v37 h38 => ?_)
  refine q_i2l dX11_digest_116 ?_
  refine q_ladd dX11_digest_117 ?_
  refine q_lstore_n (ls' := [(1, .long (((31 : Int64) * a1) + v37.toInt64)), (0, .ref a0)]) dX11_digest_118 (by decide) rfl ?_
  refine q_aload_n 1 dX11_digest_119 rfl ?_
  refine q_getR (f := 0) cl_X11 (by decide) qw_367 rfl dX11_digest_120 (fun _ _ _ => rfl) (fun v39 h40 => ?_)
  refine q_getR (f := 3) cl_X5 (by decide) qw_89 rfl dX11_digest_123 (fun _ _ _ => rfl) (fun v41 h42 => ?_)
  refine q_lload_n 0 dX11_digest_126 rfl ?_
  refine q_cVJ (Y2 := Y_X9_digestOn) (As := [.long (((31 : Int64) * a1) + v37.toInt64)]) (b := v41) (st := []) cl_X9 mv_X9_digestOn qw_1101 dX11_digest_127 ⟨Nat.le_of_ble_eq_true rfl, Nat.le_of_ble_eq_true rfl⟩ rfl (fun _ _ => rfl) (Nat.le_of_ble_eq_true rfl) ⟨Nat.le_of_ble_eq_true rfl, Nat.le_of_ble_eq_true rfl⟩ (fun v44 h43 => q_ob_is h43) (fun v44 h43 => m_X9_digestOn h43) (fun v44 h43 => ?_)
  refine q_lstore_n (ls' := [(1, .long v44), (0, .ref a0)]) dX11_digest_130 (by decide) rfl ?_
  refine q_aload_n 1 dX11_digest_131 rfl ?_
  refine q_getR (f := 0) cl_X11 (by decide) qw_367 rfl dX11_digest_132 (fun _ _ _ => rfl) (fun v45 h46 => ?_)
  refine q_getR (f := 4) cl_X5 (by decide) qw_93 rfl dX11_digest_135 (fun _ _ _ => rfl) (fun v47 h48 => ?_)
  refine q_lload_n 0 dX11_digest_138 rfl ?_
  refine q_cVJ (Y2 := Y_X9_digestOn) (As := [.long v44]) (b := v47) (st := []) cl_X9 mv_X9_digestOn qw_1101 dX11_digest_139 ⟨Nat.le_of_ble_eq_true rfl, Nat.le_of_ble_eq_true rfl⟩ rfl (fun _ _ => rfl) (Nat.le_of_ble_eq_true rfl) ⟨Nat.le_of_ble_eq_true rfl, Nat.le_of_ble_eq_true rfl⟩ (fun v50 h49 => q_ob_is h49) (fun v50 h49 => m_X9_digestOn h49) (fun v50 h49 => ?_)
  refine q_lstore_n (ls' := [(1, .long v50), (0, .ref a0)]) dX11_digest_142 (by decide) rfl ?_
  refine q_aload_n 1 dX11_digest_143 rfl ?_
  refine q_lload_n 0 dX11_digest_144 rfl ?_
  refine q_cVJ (Y2 := Y_X11_digestOfTexts) (As := [.long v50]) (b := a0) (st := []) cl_X11 mv_X11_digestOfTexts qw_1107 dX11_digest_145 ⟨Nat.le_of_ble_eq_true rfl, Nat.le_of_ble_eq_true rfl⟩ rfl (fun _ _ => rfl) (Nat.le_of_ble_eq_true rfl) ⟨Nat.le_of_ble_eq_true rfl, Nat.le_of_ble_eq_true rfl⟩ (fun v52 h51 => q_ob_is h51) (fun v52 h51 => m_X11_digestOfTexts h51) (fun v52 h51 => ?_)
  refine q_lstore_n (ls' := [(1, .long v52), (0, .ref a0)]) dX11_digest_148 (by decide) rfl ?_
  refine q_iconst (x := (0 : Int32)) dX11_digest_149 rfl ?_
  refine q_istore_n (ls' := [(3, .int (0 : Int32)), (1, .long v52), (0, .ref a0)]) dX11_digest_150 (by decide) rfl ?_
  refine q_sub (ls' := [(0, .ref a0), (1, .long v52), (3, .int (0 : Int32))]) [2, 1, 0] rfl ?_
  exact v_X11_digest_b151 _ _ _
set_option maxRecDepth 20000 in
theorem v_X11_digest_b69 {M : q_Mem} {a0 : Nat}  : ∀ (n : Nat) (a1 : Int64) (a3 : Int32), q_V Y_X11_digest none (fun x : Int64 => (some (.long x), M)) 0 0 69 [(0, .ref a0), (1, .long a1), (3, .int a3)] [] M (f_X11_digest_b69 M a0 n a1 a3) := by
  intro n
  induction n with
  | zero => intro a1 a3; exact q_none
  | succ n ih =>
    intro a1 a3
    rw [f_X11_digest_b69.eq_2]
    refine q_iload_n 2 dX11_digest_69 rfl ?_
    refine q_aload_n 0 dX11_digest_70 rfl ?_
    refine q_getR (f := 0) cl_X11 (by decide) qw_367 rfl dX11_digest_71 (fun _ _ _ => rfl) (fun v22 h23 => ?_)
    refine q_getR (f := 11) cl_X5 (by decide) qw_111 rfl dX11_digest_74 (fun _ _ _ => rfl) (fun v24 h25 => ?_)
    refine q_alen dX11_digest_77 (fun v26 h27 => ?_)
    refine q_icmp_ge (tgt := 104) dX11_digest_78 (by decide) (fun c34 => ?_) (fun c34 => ?_)
    · refine q_ldc2 (x := (31 : Int64)) qw_1099 dX11_digest_81 ?_
      refine q_lload_n 1 dX11_digest_84 rfl ?_
      refine q_lmul dX11_digest_85 ?_
      refine q_aload_n 0 dX11_digest_86 rfl ?_
      refine q_getR (f := 0) cl_X11 (by decide) qw_367 rfl dX11_digest_87 (fun _ _ _ => rfl) (fun v28 h29 => ?_)
      refine q_getR (f := 11) cl_X5 (by decide) qw_111 rfl dX11_digest_90 (fun _ _ _ => rfl) (fun v30 h31 => ?_)
      refine q_iload_n 2 dX11_digest_93 rfl ?_
      refine q_iald dX11_digest_94 (fun v32 h33 => ?_)
      refine q_i2l dX11_digest_95 ?_
      refine q_ladd dX11_digest_96 ?_
      refine q_lstore_n (ls' := [(1, .long (((31 : Int64) * a1) + v32.toInt64)), (0, .ref a0), (3, .int a3)]) dX11_digest_97 (by decide) rfl ?_
      refine q_iinc 2 (y := (a3 + (1 : Int32))) (ls' := [(3, .int (a3 + (1 : Int32))), (1, .long (((31 : Int64) * a1) + v32.toInt64)), (0, .ref a0)]) dX11_digest_98 rfl rfl (by decide) rfl ?_
      refine q_goto (tgt := 69) dX11_digest_101 (by decide) ?_
      refine q_sub (ls' := [(0, .ref a0), (1, .long (((31 : Int64) * a1) + v32.toInt64)), (3, .int (a3 + (1 : Int32)))]) [2, 1, 0] rfl ?_
      exact ih _ _
    · refine q_sub (ls' := [(0, .ref a0), (1, .long a1)]) [0, 1] rfl ?_
      exact v_X11_digest_b104
set_option maxRecDepth 20000 in
theorem v_X11_digest_b31 {M : q_Mem} {a0 : Nat} {a1 : Int64}  : q_V Y_X11_digest none (fun x : Int64 => (some (.long x), M)) 0 0 31 [(0, .ref a0), (1, .long a1)] [] M (f_X11_digest_b31 M a0 a1 ) := by
  unfold f_X11_digest_b31
  refine q_aload_n 0 dX11_digest_31 rfl ?_
  refine q_getR (f := 0) cl_X11 (by decide) qw_367 rfl dX11_digest_32 (fun _ _ _ => rfl) (fun v4 h5 => ?_)
  refine q_getR (f := 0) cl_X5 (by decide) qw_72 rfl dX11_digest_35 (fun _ _ _ => rfl) (fun v6 h7 => ?_)
  refine q_lload_n 1 dX11_digest_38 rfl ?_
  refine q_cVJ (Y2 := Y_X9_digestOn) (As := [.long a1]) (b := v6) (st := []) cl_X9 mv_X9_digestOn qw_1101 dX11_digest_39 ⟨Nat.le_of_ble_eq_true rfl, Nat.le_of_ble_eq_true rfl⟩ rfl (fun _ _ => rfl) (Nat.le_of_ble_eq_true rfl) ⟨Nat.le_of_ble_eq_true rfl, Nat.le_of_ble_eq_true rfl⟩ (fun v9 h8 => q_ob_is h8) (fun v9 h8 => m_X9_digestOn h8) (fun v9 h8 => ?_)
  refine q_lstore_n (ls' := [(1, .long v9), (0, .ref a0)]) dX11_digest_42 (by decide) rfl ?_
  refine q_aload_n 1 dX11_digest_43 rfl ?_
  refine q_getR (f := 0) cl_X11 (by decide) qw_367 rfl dX11_digest_44 (fun _ _ _ => rfl) (fun v10 h11 => ?_)
  refine q_getR (f := 1) cl_X5 (by decide) qw_80 rfl dX11_digest_47 (fun _ _ _ => rfl) (fun v12 h13 => ?_)
  refine q_lload_n 0 dX11_digest_50 rfl ?_
  refine q_cVJ (Y2 := Y_X9_digestOn) (As := [.long v9]) (b := v12) (st := []) cl_X9 mv_X9_digestOn qw_1101 dX11_digest_51 ⟨Nat.le_of_ble_eq_true rfl, Nat.le_of_ble_eq_true rfl⟩ rfl (fun _ _ => rfl) (Nat.le_of_ble_eq_true rfl) ⟨Nat.le_of_ble_eq_true rfl, Nat.le_of_ble_eq_true rfl⟩ (fun v15 h14 => q_ob_is h14) (fun v15 h14 => m_X9_digestOn h14) (fun v15 h14 => ?_)
  refine q_lstore_n (ls' := [(1, .long v15), (0, .ref a0)]) dX11_digest_54 (by decide) rfl ?_
  refine q_aload_n 1 dX11_digest_55 rfl ?_
  refine q_getR (f := 0) cl_X11 (by decide) qw_367 rfl dX11_digest_56 (fun _ _ _ => rfl) (fun v16 h17 => ?_)
  refine q_getR (f := 2) cl_X5 (by decide) qw_85 rfl dX11_digest_59 (fun _ _ _ => rfl) (fun v18 h19 => ?_)
  refine q_lload_n 0 dX11_digest_62 rfl ?_
  refine q_cVJ (Y2 := Y_X9_digestOn) (As := [.long v15]) (b := v18) (st := []) cl_X9 mv_X9_digestOn qw_1101 dX11_digest_63 ⟨Nat.le_of_ble_eq_true rfl, Nat.le_of_ble_eq_true rfl⟩ rfl (fun _ _ => rfl) (Nat.le_of_ble_eq_true rfl) ⟨Nat.le_of_ble_eq_true rfl, Nat.le_of_ble_eq_true rfl⟩ (fun v21 h20 => q_ob_is h20) (fun v21 h20 => m_X9_digestOn h20) (fun v21 h20 => ?_)
  refine q_lstore_n (ls' := [(1, .long v21), (0, .ref a0)]) dX11_digest_66 (by decide) rfl ?_
  refine q_iconst (x := (0 : Int32)) dX11_digest_67 rfl ?_
  refine q_istore_n (ls' := [(3, .int (0 : Int32)), (1, .long v21), (0, .ref a0)]) dX11_digest_68 (by decide) rfl ?_
  refine q_sub (ls' := [(0, .ref a0), (1, .long v21), (3, .int (0 : Int32))]) [2, 1, 0] rfl ?_
  exact v_X11_digest_b69 _ _ _
set_option maxRecDepth 20000 in
theorem v_X11_digest_b6 {M : q_Mem} {a0 : Nat}  : ∀ (n : Nat) (a1 : Int64) (a3 : Int32), q_V Y_X11_digest none (fun x : Int64 => (some (.long x), M)) 0 0 6 [(0, .ref a0), (1, .long a1), (3, .int a3)] [] M (f_X11_digest_b6 M a0 n a1 a3) := by
  intro n
  induction n with
  | zero => intro a1 a3; exact q_none
  | succ n ih =>
    intro a1 a3
    rw [f_X11_digest_b6.eq_2]
    refine q_iload_n 2 dX11_digest_6 rfl ?_
    refine q_bipush (x := (9 : Int32)) dX11_digest_7 rfl ?_
    refine q_icmp_gt (tgt := 31) dX11_digest_9 (by decide) (fun c3 => ?_) (fun c3 => ?_)
    · refine q_sub (ls' := [(0, .ref a0), (1, .long a1)]) [0, 1] rfl ?_
      exact v_X11_digest_b31
    · refine q_ldc2 (x := (31 : Int64)) qw_1099 dX11_digest_12 ?_
      refine q_lload_n 1 dX11_digest_15 rfl ?_
      refine q_lmul dX11_digest_16 ?_
      refine q_aload_n 0 dX11_digest_17 rfl ?_
      refine q_iload_n 2 dX11_digest_18 rfl ?_
      refine q_cVI (Y2 := Y_X11_count) (As := [.int a3]) (b := a0) (st := [.long ((31 : Int64) * a1)]) cl_X11 mv_X11_count qw_1100 dX11_digest_19 ⟨Nat.le_of_ble_eq_true rfl, Nat.le_of_ble_eq_true rfl⟩ rfl (fun _ _ => rfl) (Nat.le_of_ble_eq_true rfl) ⟨Nat.le_of_ble_eq_true rfl, Nat.le_of_ble_eq_true rfl⟩ (fun v2 h1 => q_ob_is h1) (fun v2 h1 => m_X11_count h1) (fun v2 h1 => ?_)
      refine q_i2l dX11_digest_22 ?_
      refine q_ladd dX11_digest_23 ?_
      refine q_lstore_n (ls' := [(1, .long (((31 : Int64) * a1) + v2.toInt64)), (0, .ref a0), (3, .int a3)]) dX11_digest_24 (by decide) rfl ?_
      refine q_iinc 2 (y := (a3 + (1 : Int32))) (ls' := [(3, .int (a3 + (1 : Int32))), (1, .long (((31 : Int64) * a1) + v2.toInt64)), (0, .ref a0)]) dX11_digest_25 rfl rfl (by decide) rfl ?_
      refine q_goto (tgt := 6) dX11_digest_28 (by decide) ?_
      refine q_sub (ls' := [(0, .ref a0), (1, .long (((31 : Int64) * a1) + v2.toInt64)), (3, .int (a3 + (1 : Int32)))]) [2, 1, 0] rfl ?_
      exact ih _ _
set_option maxRecDepth 20000 in
theorem m_X11_digest {M : q_Mem} {a0 : Nat} {x : Int64} (h : f_X11_digest M a0 = some x) : q_C Y_X11_digest [.ref a0] M (some (.long x)) M := by
  refine q_met (φ := (fun x : Int64 => (some (.long x), M))) (r := f_X11_digest M a0) (by decide +kernel) (Nat.le_of_ble_eq_true rfl) ?_ h (fun _ _ => rfl)
  show q_V Y_X11_digest none (fun x : Int64 => (some (.long x), M)) 0 0 0 [(0, .ref a0)] [] M (f_X11_digest M a0)
  unfold f_X11_digest
  refine q_obV ?_
  refine q_ldc2 (x := (281 : Int64)) qw_1098 dX11_digest_0 ?_
  refine q_lstore_n (ls' := [(1, .long (281 : Int64)), (0, .ref a0)]) dX11_digest_3 (by decide) rfl ?_
  refine q_iconst (x := (0 : Int32)) dX11_digest_4 rfl ?_
  refine q_istore_n (ls' := [(3, .int (0 : Int32)), (1, .long (281 : Int64)), (0, .ref a0)]) dX11_digest_5 (by decide) rfl ?_
  refine q_sub (ls' := [(0, .ref a0), (1, .long (281 : Int64)), (3, .int (0 : Int32))]) [2, 1, 0] rfl ?_
  exact v_X11_digest_b6 _ _ _
theorem dX12_in_0 : decode cX12_in 0 = .ok (.iload_n 0, 1) := by decide +kernel
theorem dX12_in_1 : decode cX12_in 1 = .ok (.iload_n 1, 1) := by decide +kernel
theorem dX12_in_2 : decode cX12_in 2 = .ok (.if_icmp .lt 12, 3) := by decide +kernel
theorem dX12_in_5 : decode cX12_in 5 = .ok (.iload_n 0, 1) := by decide +kernel
theorem dX12_in_6 : decode cX12_in 6 = .ok (.iload_n 2, 1) := by decide +kernel
theorem dX12_in_7 : decode cX12_in 7 = .ok (.if_icmp .gt 7, 3) := by decide +kernel
theorem dX12_in_10 : decode cX12_in 10 = .ok (.iconst 1, 1) := by decide +kernel
theorem dX12_in_11 : decode cX12_in 11 = .ok (.goto 4, 3) := by decide +kernel
theorem dX12_in_14 : decode cX12_in 14 = .ok (.iconst 0, 1) := by decide +kernel
theorem dX12_in_15 : decode cX12_in 15 = .ok (.ireturn, 1) := by decide +kernel
def f_X12_in (M : q_Mem) (a0 : Int32) (a1 : Int32) (a2 : Int32) : Option Int32 :=
  (if a0 < a1 then
    some (0 : Int32)
  else
    (if a2 < a0 then
      some (0 : Int32)
    else
      some (1 : Int32)))
set_option maxRecDepth 20000 in
theorem m_X12_in {M : q_Mem} {a0 : Int32} {a1 : Int32} {a2 : Int32} {x : Int32} (h : f_X12_in M a0 a1 a2 = some x) : q_C Y_X12_in [.int a0, .int a1, .int a2] M (some (.int x)) M := by
  refine q_met (φ := (fun x : Int32 => (some (.int x), M))) (r := f_X12_in M a0 a1 a2) (by decide +kernel) (Nat.le_of_ble_eq_true rfl) ?_ h (fun _ _ => rfl)
  show q_V Y_X12_in none (fun x : Int32 => (some (.int x), M)) 0 0 0 [(0, .int a0), (1, .int a1), (2, .int a2)] [] M (f_X12_in M a0 a1 a2)
  unfold f_X12_in
  refine q_iload_n 0 dX12_in_0 rfl ?_
  refine q_iload_n 1 dX12_in_1 rfl ?_
  refine q_icmp_lt (tgt := 14) dX12_in_2 (by decide) (fun c2 => ?_) (fun c2 => ?_)
  · refine q_iconst (x := (0 : Int32)) dX12_in_14 rfl ?_
    exact q_zretL dX12_in_15 rfl (Or.inl rfl) rfl (Nat.le_of_ble_eq_true rfl) rfl
  · refine q_iload_n 0 dX12_in_5 rfl ?_
    refine q_iload_n 2 dX12_in_6 rfl ?_
    refine q_icmp_gt (tgt := 14) dX12_in_7 (by decide) (fun c1 => ?_) (fun c1 => ?_)
    · refine q_iconst (x := (0 : Int32)) dX12_in_14 rfl ?_
      exact q_zretL dX12_in_15 rfl (Or.inl rfl) rfl (Nat.le_of_ble_eq_true rfl) rfl
    · refine q_iconst (x := (1 : Int32)) dX12_in_10 rfl ?_
      refine q_goto (tgt := 15) dX12_in_11 (by decide) ?_
      exact q_zretL dX12_in_15 rfl (Or.inr rfl) rfl (Nat.le_of_ble_eq_true rfl) rfl
theorem dX12_init_0 : decode cX12_init 0 = .ok (.aload_n 0, 1) := by decide +kernel
theorem dX12_init_1 : decode cX12_init 1 = .ok (.invokespecial 1, 3) := by decide +kernel
theorem dX12_init_4 : decode cX12_init 4 = .ok (.aload_n 0, 1) := by decide +kernel
theorem dX12_init_5 : decode cX12_init 5 = .ok (.sipush 4764, 3) := by decide +kernel
theorem dX12_init_8 : decode cX12_init 8 = .ok (.newarray .int, 2) := by decide +kernel
theorem dX12_init_10 : decode cX12_init 10 = .ok (.putfield 7, 3) := by decide +kernel
theorem dX12_init_13 : decode cX12_init 13 = .ok (.aload_n 0, 1) := by decide +kernel
theorem dX12_init_14 : decode cX12_init 14 = .ok (.sipush 9528, 3) := by decide +kernel
theorem dX12_init_17 : decode cX12_init 17 = .ok (.newarray .int, 2) := by decide +kernel
theorem dX12_init_19 : decode cX12_init 19 = .ok (.putfield 13, 3) := by decide +kernel
theorem dX12_init_22 : decode cX12_init 22 = .ok (.aload_n 0, 1) := by decide +kernel
theorem dX12_init_23 : decode cX12_init 23 = .ok (.iconst 2, 1) := by decide +kernel
theorem dX12_init_24 : decode cX12_init 24 = .ok (.newarray .boolean, 2) := by decide +kernel
theorem dX12_init_26 : decode cX12_init 26 = .ok (.putfield 16, 3) := by decide +kernel
theorem dX12_init_29 : decode cX12_init 29 = .ok (.aload_n 0, 1) := by decide +kernel
theorem dX12_init_30 : decode cX12_init 30 = .ok (.sipush 200, 3) := by decide +kernel
theorem dX12_init_33 : decode cX12_init 33 = .ok (.newarray .int, 2) := by decide +kernel
theorem dX12_init_35 : decode cX12_init 35 = .ok (.putfield 20, 3) := by decide +kernel
theorem dX12_init_38 : decode cX12_init 38 = .ok (.aload_n 0, 1) := by decide +kernel
theorem dX12_init_39 : decode cX12_init 39 = .ok (.sipush 200, 3) := by decide +kernel
theorem dX12_init_42 : decode cX12_init 42 = .ok (.newarray .int, 2) := by decide +kernel
theorem dX12_init_44 : decode cX12_init 44 = .ok (.putfield 23, 3) := by decide +kernel
theorem dX12_init_47 : decode cX12_init 47 = .ok (.aload_n 0, 1) := by decide +kernel
theorem dX12_init_48 : decode cX12_init 48 = .ok (.sipush 200, 3) := by decide +kernel
theorem dX12_init_51 : decode cX12_init 51 = .ok (.newarray .int, 2) := by decide +kernel
theorem dX12_init_53 : decode cX12_init 53 = .ok (.putfield 26, 3) := by decide +kernel
theorem dX12_init_56 : decode cX12_init 56 = .ok (.aload_n 0, 1) := by decide +kernel
theorem dX12_init_57 : decode cX12_init 57 = .ok (.sipush 200, 3) := by decide +kernel
theorem dX12_init_60 : decode cX12_init 60 = .ok (.newarray .int, 2) := by decide +kernel
theorem dX12_init_62 : decode cX12_init 62 = .ok (.putfield 29, 3) := by decide +kernel
theorem dX12_init_65 : decode cX12_init 65 = .ok (.aload_n 0, 1) := by decide +kernel
theorem dX12_init_66 : decode cX12_init 66 = .ok (.sipush 130, 3) := by decide +kernel
theorem dX12_init_69 : decode cX12_init 69 = .ok (.newarray .int, 2) := by decide +kernel
theorem dX12_init_71 : decode cX12_init 71 = .ok (.putfield 32, 3) := by decide +kernel
theorem dX12_init_74 : decode cX12_init 74 = .ok (.aload_n 0, 1) := by decide +kernel
theorem dX12_init_75 : decode cX12_init 75 = .ok (.sipush 130, 3) := by decide +kernel
theorem dX12_init_78 : decode cX12_init 78 = .ok (.newarray .int, 2) := by decide +kernel
theorem dX12_init_80 : decode cX12_init 80 = .ok (.putfield 35, 3) := by decide +kernel
theorem dX12_init_83 : decode cX12_init 83 = .ok (.aload_n 0, 1) := by decide +kernel
theorem dX12_init_84 : decode cX12_init 84 = .ok (.sipush 130, 3) := by decide +kernel
theorem dX12_init_87 : decode cX12_init 87 = .ok (.newarray .int, 2) := by decide +kernel
theorem dX12_init_89 : decode cX12_init 89 = .ok (.putfield 38, 3) := by decide +kernel
theorem dX12_init_92 : decode cX12_init 92 = .ok (.aload_n 0, 1) := by decide +kernel
theorem dX12_init_93 : decode cX12_init 93 = .ok (.bipush 8, 2) := by decide +kernel
theorem dX12_init_95 : decode cX12_init 95 = .ok (.newarray .long, 2) := by decide +kernel
theorem dX12_init_97 : decode cX12_init 97 = .ok (.putfield 41, 3) := by decide +kernel
theorem dX12_init_100 : decode cX12_init 100 = .ok (.aload_n 0, 1) := by decide +kernel
theorem dX12_init_101 : decode cX12_init 101 = .ok (.bipush 20, 2) := by decide +kernel
theorem dX12_init_103 : decode cX12_init 103 = .ok (.newarray .int, 2) := by decide +kernel
theorem dX12_init_105 : decode cX12_init 105 = .ok (.putfield 45, 3) := by decide +kernel
theorem dX12_init_108 : decode cX12_init 108 = .ok (.aload_n 0, 1) := by decide +kernel
theorem dX12_init_109 : decode cX12_init 109 = .ok (.sipush 130, 3) := by decide +kernel
theorem dX12_init_112 : decode cX12_init 112 = .ok (.newarray .long, 2) := by decide +kernel
theorem dX12_init_114 : decode cX12_init 114 = .ok (.putfield 48, 3) := by decide +kernel
theorem dX12_init_117 : decode cX12_init 117 = .ok (.aload_n 0, 1) := by decide +kernel
theorem dX12_init_118 : decode cX12_init 118 = .ok (.sipush 130, 3) := by decide +kernel
theorem dX12_init_121 : decode cX12_init 121 = .ok (.newarray .boolean, 2) := by decide +kernel
theorem dX12_init_123 : decode cX12_init 123 = .ok (.putfield 51, 3) := by decide +kernel
theorem dX12_init_126 : decode cX12_init 126 = .ok (.aload_n 0, 1) := by decide +kernel
theorem dX12_init_127 : decode cX12_init 127 = .ok (.bipush 20, 2) := by decide +kernel
theorem dX12_init_129 : decode cX12_init 129 = .ok (.newarray .long, 2) := by decide +kernel
theorem dX12_init_131 : decode cX12_init 131 = .ok (.putfield 54, 3) := by decide +kernel
theorem dX12_init_134 : decode cX12_init 134 = .ok (.aload_n 0, 1) := by decide +kernel
theorem dX12_init_135 : decode cX12_init 135 = .ok (.bipush 8, 2) := by decide +kernel
theorem dX12_init_137 : decode cX12_init 137 = .ok (.newarray .int, 2) := by decide +kernel
theorem dX12_init_139 : decode cX12_init 139 = .ok (.putfield 57, 3) := by decide +kernel
theorem dX12_init_142 : decode cX12_init 142 = .ok (.aload_n 0, 1) := by decide +kernel
theorem dX12_init_143 : decode cX12_init 143 = .ok (.bipush 8, 2) := by decide +kernel
theorem dX12_init_145 : decode cX12_init 145 = .ok (.newarray .int, 2) := by decide +kernel
theorem dX12_init_147 : decode cX12_init 147 = .ok (.putfield 60, 3) := by decide +kernel
theorem dX12_init_150 : decode cX12_init 150 = .ok (.aload_n 0, 1) := by decide +kernel
theorem dX12_init_151 : decode cX12_init 151 = .ok (.sipush 1024, 3) := by decide +kernel
theorem dX12_init_154 : decode cX12_init 154 = .ok (.newarray .long, 2) := by decide +kernel
theorem dX12_init_156 : decode cX12_init 156 = .ok (.putfield 63, 3) := by decide +kernel
theorem dX12_init_159 : decode cX12_init 159 = .ok (.aload_n 0, 1) := by decide +kernel
theorem dX12_init_160 : decode cX12_init 160 = .ok (.bipush 10, 2) := by decide +kernel
theorem dX12_init_162 : decode cX12_init 162 = .ok (.newarray .int, 2) := by decide +kernel
theorem dX12_init_164 : decode cX12_init 164 = .ok (.putfield 66, 3) := by decide +kernel
theorem dX12_init_167 : decode cX12_init 167 = .ok (.aload_n 0, 1) := by decide +kernel
theorem dX12_init_168 : decode cX12_init 168 = .ok (.bipush 10, 2) := by decide +kernel
theorem dX12_init_170 : decode cX12_init 170 = .ok (.newarray .int, 2) := by decide +kernel
theorem dX12_init_172 : decode cX12_init 172 = .ok (.putfield 69, 3) := by decide +kernel
theorem dX12_init_175 : decode cX12_init 175 = .ok (.aload_n 0, 1) := by decide +kernel
theorem dX12_init_176 : decode cX12_init 176 = .ok (.bipush 10, 2) := by decide +kernel
theorem dX12_init_178 : decode cX12_init 178 = .ok (.newarray .int, 2) := by decide +kernel
theorem dX12_init_180 : decode cX12_init 180 = .ok (.putfield 72, 3) := by decide +kernel
theorem dX12_init_183 : decode cX12_init 183 = .ok (.aload_n 0, 1) := by decide +kernel
theorem dX12_init_184 : decode cX12_init 184 = .ok (.bipush 10, 2) := by decide +kernel
theorem dX12_init_186 : decode cX12_init 186 = .ok (.newarray .int, 2) := by decide +kernel
theorem dX12_init_188 : decode cX12_init 188 = .ok (.putfield 75, 3) := by decide +kernel
theorem dX12_init_191 : decode cX12_init 191 = .ok (.aload_n 0, 1) := by decide +kernel
theorem dX12_init_192 : decode cX12_init 192 = .ok (.getfield 7, 3) := by decide +kernel
theorem dX12_init_195 : decode cX12_init 195 = .ok (.bipush 10, 2) := by decide +kernel
theorem dX12_init_197 : decode cX12_init 197 = .ok (.bipush 7, 2) := by decide +kernel
theorem dX12_init_199 : decode cX12_init 199 = .ok (.iastore, 1) := by decide +kernel
theorem dX12_init_200 : decode cX12_init 200 = .ok (.aload_n 0, 1) := by decide +kernel
theorem dX12_init_201 : decode cX12_init 201 = .ok (.getfield 7, 3) := by decide +kernel
theorem dX12_init_204 : decode cX12_init 204 = .ok (.bipush 11, 2) := by decide +kernel
theorem dX12_init_206 : decode cX12_init 206 = .ok (.sipush 300, 3) := by decide +kernel
theorem dX12_init_209 : decode cX12_init 209 = .ok (.iastore, 1) := by decide +kernel
theorem dX12_init_210 : decode cX12_init 210 = .ok (.aload_n 0, 1) := by decide +kernel
theorem dX12_init_211 : decode cX12_init 211 = .ok (.getfield 7, 3) := by decide +kernel
theorem dX12_init_214 : decode cX12_init 214 = .ok (.bipush 12, 2) := by decide +kernel
theorem dX12_init_216 : decode cX12_init 216 = .ok (.iconst 1, 1) := by decide +kernel
theorem dX12_init_217 : decode cX12_init 217 = .ok (.iastore, 1) := by decide +kernel
theorem dX12_init_218 : decode cX12_init 218 = .ok (.return_, 1) := by decide +kernel
def f_X12_init (M : q_Mem) (a0 : Nat) : Option q_Mem :=
  q_ob 11 M a0 ((q_na M 100 (4764 : Int32)).bind fun M1 =>
  (q_pR 11 0 M1 a0 M.1).bind fun M2 =>
  (q_na M2 100 (9528 : Int32)).bind fun M4 =>
  (q_pR 11 1 M4 a0 M2.1).bind fun M5 =>
  (q_na M5 102 (2 : Int32)).bind fun M7 =>
  (q_pR 11 2 M7 a0 M5.1).bind fun M8 =>
  (q_na M8 100 (200 : Int32)).bind fun M10 =>
  (q_pR 11 3 M10 a0 M8.1).bind fun M11 =>
  (q_na M11 100 (200 : Int32)).bind fun M13 =>
  (q_pR 11 5 M13 a0 M11.1).bind fun M14 =>
  (q_na M14 100 (200 : Int32)).bind fun M16 =>
  (q_pR 11 6 M16 a0 M14.1).bind fun M17 =>
  (q_na M17 100 (200 : Int32)).bind fun M19 =>
  (q_pR 11 7 M19 a0 M17.1).bind fun M20 =>
  (q_na M20 100 (130 : Int32)).bind fun M22 =>
  (q_pR 11 9 M22 a0 M20.1).bind fun M23 =>
  (q_na M23 100 (130 : Int32)).bind fun M25 =>
  (q_pR 11 10 M25 a0 M23.1).bind fun M26 =>
  (q_na M26 100 (130 : Int32)).bind fun M28 =>
  (q_pR 11 11 M28 a0 M26.1).bind fun M29 =>
  (q_na M29 101 (8 : Int32)).bind fun M31 =>
  (q_pR 11 14 M31 a0 M29.1).bind fun M32 =>
  (q_na M32 100 (20 : Int32)).bind fun M34 =>
  (q_pR 11 15 M34 a0 M32.1).bind fun M35 =>
  (q_na M35 101 (130 : Int32)).bind fun M37 =>
  (q_pR 11 16 M37 a0 M35.1).bind fun M38 =>
  (q_na M38 102 (130 : Int32)).bind fun M40 =>
  (q_pR 11 17 M40 a0 M38.1).bind fun M41 =>
  (q_na M41 101 (20 : Int32)).bind fun M43 =>
  (q_pR 11 19 M43 a0 M41.1).bind fun M44 =>
  (q_na M44 100 (8 : Int32)).bind fun M46 =>
  (q_pR 11 21 M46 a0 M44.1).bind fun M47 =>
  (q_na M47 100 (8 : Int32)).bind fun M49 =>
  (q_pR 11 22 M49 a0 M47.1).bind fun M50 =>
  (q_na M50 101 (1024 : Int32)).bind fun M52 =>
  (q_pR 11 24 M52 a0 M50.1).bind fun M53 =>
  (q_na M53 100 (10 : Int32)).bind fun M55 =>
  (q_pR 11 25 M55 a0 M53.1).bind fun M56 =>
  (q_na M56 100 (10 : Int32)).bind fun M58 =>
  (q_pR 11 26 M58 a0 M56.1).bind fun M59 =>
  (q_na M59 100 (10 : Int32)).bind fun M61 =>
  (q_pR 11 27 M61 a0 M59.1).bind fun M62 =>
  (q_na M62 100 (10 : Int32)).bind fun M64 =>
  (q_pR 11 28 M64 a0 M62.1).bind fun M65 =>
  (q_gR 11 0 M65 a0).bind fun v67 =>
  (q_tI M65 v67 (10 : Int32) (7 : Int32)).bind fun M69 =>
  (q_gR 11 0 M69 a0).bind fun v71 =>
  (q_tI M69 v71 (11 : Int32) (300 : Int32)).bind fun M73 =>
  (q_gR 11 0 M73 a0).bind fun v75 =>
  (q_tI M73 v75 (12 : Int32) (1 : Int32)).bind fun M77 =>
  some M77)
set_option maxRecDepth 20000 in
theorem m_X12_init {M : q_Mem} {a0 : Nat} {x : q_Mem} (h : f_X12_init M a0 = some x) : q_C Y_X12_init [.ref a0] M none x := by
  refine q_met (φ := (fun x : q_Mem => (none, x))) (r := f_X12_init M a0) (by decide +kernel) (Nat.le_of_ble_eq_true rfl) ?_ h (fun _ _ => rfl)
  show q_V Y_X12_init none (fun x : q_Mem => (none, x)) 0 0 0 [(0, .ref a0)] [] M (f_X12_init M a0)
  unfold f_X12_init
  refine q_obV ?_
  refine q_aload_n 0 dX12_init_0 rfl ?_
  refine q_objInit qw_1116 qo_2 qo_3 dX12_init_1 (Nat.le_of_ble_eq_true rfl) (Nat.le_of_ble_eq_true rfl) (Nat.le_of_ble_eq_true rfl) ?_
  refine q_aload_n 0 dX12_init_4 rfl ?_
  refine q_sipush (x := (4764 : Int32)) dX12_init_5 rfl ?_
  refine q_newarr (at_ := .int) (ty := .int) (len := 4764) rfl qa_int (Or.inl ⟨rfl, rfl, rfl⟩) (by decide) rfl (by decide) (Nat.le_of_ble_eq_true rfl) (Nat.le_of_ble_eq_true rfl) dX12_init_8 ?_
  refine q_putR (f := 0) cl_X12 (by decide) qw_1117 rfl (Or.inr ⟨rfl, rfl, rfl⟩) dX12_init_10 (fun _ _ _ => rfl) (fun _ => rfl) (fun _ => rfl) (fun M2 h3 => ?_)
  refine q_aload_n 0 dX12_init_13 rfl ?_
  refine q_sipush (x := (9528 : Int32)) dX12_init_14 rfl ?_
  refine q_newarr (at_ := .int) (ty := .int) (len := 9528) rfl qa_int (Or.inl ⟨rfl, rfl, rfl⟩) (by decide) rfl (by decide) (Nat.le_of_ble_eq_true rfl) (Nat.le_of_ble_eq_true rfl) dX12_init_17 ?_
  refine q_putR (f := 1) cl_X12 (by decide) qw_1118 rfl (Or.inr ⟨rfl, rfl, rfl⟩) dX12_init_19 (fun _ _ _ => rfl) (fun _ => rfl) (fun _ => rfl) (fun M5 h6 => ?_)
  refine q_aload_n 0 dX12_init_22 rfl ?_
  refine q_iconst (x := (2 : Int32)) dX12_init_23 rfl ?_
  refine q_newarr (at_ := .boolean) (ty := .boolean) (len := 2) rfl qa_boolean (Or.inr (Or.inr ⟨rfl, rfl, rfl⟩)) (by decide) rfl (by decide) (Nat.le_of_ble_eq_true rfl) (Nat.le_of_ble_eq_true rfl) dX12_init_24 ?_
  refine q_putR (f := 2) cl_X12 (by decide) qw_1119 rfl (Or.inr ⟨rfl, rfl, rfl⟩) dX12_init_26 (fun _ _ _ => rfl) (fun _ => rfl) (fun _ => rfl) (fun M8 h9 => ?_)
  refine q_aload_n 0 dX12_init_29 rfl ?_
  refine q_sipush (x := (200 : Int32)) dX12_init_30 rfl ?_
  refine q_newarr (at_ := .int) (ty := .int) (len := 200) rfl qa_int (Or.inl ⟨rfl, rfl, rfl⟩) (by decide) rfl (by decide) (Nat.le_of_ble_eq_true rfl) (Nat.le_of_ble_eq_true rfl) dX12_init_33 ?_
  refine q_putR (f := 3) cl_X12 (by decide) qw_1120 rfl (Or.inr ⟨rfl, rfl, rfl⟩) dX12_init_35 (fun _ _ _ => rfl) (fun _ => rfl) (fun _ => rfl) (fun M11 h12 => ?_)
  refine q_aload_n 0 dX12_init_38 rfl ?_
  refine q_sipush (x := (200 : Int32)) dX12_init_39 rfl ?_
  refine q_newarr (at_ := .int) (ty := .int) (len := 200) rfl qa_int (Or.inl ⟨rfl, rfl, rfl⟩) (by decide) rfl (by decide) (Nat.le_of_ble_eq_true rfl) (Nat.le_of_ble_eq_true rfl) dX12_init_42 ?_
  refine q_putR (f := 5) cl_X12 (by decide) qw_1122 rfl (Or.inr ⟨rfl, rfl, rfl⟩) dX12_init_44 (fun _ _ _ => rfl) (fun _ => rfl) (fun _ => rfl) (fun M14 h15 => ?_)
  refine q_aload_n 0 dX12_init_47 rfl ?_
  refine q_sipush (x := (200 : Int32)) dX12_init_48 rfl ?_
  refine q_newarr (at_ := .int) (ty := .int) (len := 200) rfl qa_int (Or.inl ⟨rfl, rfl, rfl⟩) (by decide) rfl (by decide) (Nat.le_of_ble_eq_true rfl) (Nat.le_of_ble_eq_true rfl) dX12_init_51 ?_
  refine q_putR (f := 6) cl_X12 (by decide) qw_1123 rfl (Or.inr ⟨rfl, rfl, rfl⟩) dX12_init_53 (fun _ _ _ => rfl) (fun _ => rfl) (fun _ => rfl) (fun M17 h18 => ?_)
  refine q_aload_n 0 dX12_init_56 rfl ?_
  refine q_sipush (x := (200 : Int32)) dX12_init_57 rfl ?_
  refine q_newarr (at_ := .int) (ty := .int) (len := 200) rfl qa_int (Or.inl ⟨rfl, rfl, rfl⟩) (by decide) rfl (by decide) (Nat.le_of_ble_eq_true rfl) (Nat.le_of_ble_eq_true rfl) dX12_init_60 ?_
  refine q_putR (f := 7) cl_X12 (by decide) qw_1124 rfl (Or.inr ⟨rfl, rfl, rfl⟩) dX12_init_62 (fun _ _ _ => rfl) (fun _ => rfl) (fun _ => rfl) (fun M20 h21 => ?_)
  refine q_aload_n 0 dX12_init_65 rfl ?_
  refine q_sipush (x := (130 : Int32)) dX12_init_66 rfl ?_
  refine q_newarr (at_ := .int) (ty := .int) (len := 130) rfl qa_int (Or.inl ⟨rfl, rfl, rfl⟩) (by decide) rfl (by decide) (Nat.le_of_ble_eq_true rfl) (Nat.le_of_ble_eq_true rfl) dX12_init_69 ?_
  refine q_putR (f := 9) cl_X12 (by decide) qw_1126 rfl (Or.inr ⟨rfl, rfl, rfl⟩) dX12_init_71 (fun _ _ _ => rfl) (fun _ => rfl) (fun _ => rfl) (fun M23 h24 => ?_)
  refine q_aload_n 0 dX12_init_74 rfl ?_
  refine q_sipush (x := (130 : Int32)) dX12_init_75 rfl ?_
  refine q_newarr (at_ := .int) (ty := .int) (len := 130) rfl qa_int (Or.inl ⟨rfl, rfl, rfl⟩) (by decide) rfl (by decide) (Nat.le_of_ble_eq_true rfl) (Nat.le_of_ble_eq_true rfl) dX12_init_78 ?_
  refine q_putR (f := 10) cl_X12 (by decide) qw_1127 rfl (Or.inr ⟨rfl, rfl, rfl⟩) dX12_init_80 (fun _ _ _ => rfl) (fun _ => rfl) (fun _ => rfl) (fun M26 h27 => ?_)
  refine q_aload_n 0 dX12_init_83 rfl ?_
  refine q_sipush (x := (130 : Int32)) dX12_init_84 rfl ?_
  refine q_newarr (at_ := .int) (ty := .int) (len := 130) rfl qa_int (Or.inl ⟨rfl, rfl, rfl⟩) (by decide) rfl (by decide) (Nat.le_of_ble_eq_true rfl) (Nat.le_of_ble_eq_true rfl) dX12_init_87 ?_
  refine q_putR (f := 11) cl_X12 (by decide) qw_1128 rfl (Or.inr ⟨rfl, rfl, rfl⟩) dX12_init_89 (fun _ _ _ => rfl) (fun _ => rfl) (fun _ => rfl) (fun M29 h30 => ?_)
  refine q_aload_n 0 dX12_init_92 rfl ?_
  refine q_bipush (x := (8 : Int32)) dX12_init_93 rfl ?_
  refine q_newarr (at_ := .long) (ty := .long) (len := 8) rfl qa_long (Or.inr (Or.inl ⟨rfl, rfl, rfl⟩)) (by decide) rfl (by decide) (Nat.le_of_ble_eq_true rfl) (Nat.le_of_ble_eq_true rfl) dX12_init_95 ?_
  refine q_putR (f := 14) cl_X12 (by decide) qw_1130 rfl (Or.inr ⟨rfl, rfl, rfl⟩) dX12_init_97 (fun _ _ _ => rfl) (fun _ => rfl) (fun _ => rfl) (fun M32 h33 => ?_)
  refine q_aload_n 0 dX12_init_100 rfl ?_
  refine q_bipush (x := (20 : Int32)) dX12_init_101 rfl ?_
  refine q_newarr (at_ := .int) (ty := .int) (len := 20) rfl qa_int (Or.inl ⟨rfl, rfl, rfl⟩) (by decide) rfl (by decide) (Nat.le_of_ble_eq_true rfl) (Nat.le_of_ble_eq_true rfl) dX12_init_103 ?_
  refine q_putR (f := 15) cl_X12 (by decide) qw_1131 rfl (Or.inr ⟨rfl, rfl, rfl⟩) dX12_init_105 (fun _ _ _ => rfl) (fun _ => rfl) (fun _ => rfl) (fun M35 h36 => ?_)
  refine q_aload_n 0 dX12_init_108 rfl ?_
  refine q_sipush (x := (130 : Int32)) dX12_init_109 rfl ?_
  refine q_newarr (at_ := .long) (ty := .long) (len := 130) rfl qa_long (Or.inr (Or.inl ⟨rfl, rfl, rfl⟩)) (by decide) rfl (by decide) (Nat.le_of_ble_eq_true rfl) (Nat.le_of_ble_eq_true rfl) dX12_init_112 ?_
  refine q_putR (f := 16) cl_X12 (by decide) qw_1132 rfl (Or.inr ⟨rfl, rfl, rfl⟩) dX12_init_114 (fun _ _ _ => rfl) (fun _ => rfl) (fun _ => rfl) (fun M38 h39 => ?_)
  refine q_aload_n 0 dX12_init_117 rfl ?_
  refine q_sipush (x := (130 : Int32)) dX12_init_118 rfl ?_
  refine q_newarr (at_ := .boolean) (ty := .boolean) (len := 130) rfl qa_boolean (Or.inr (Or.inr ⟨rfl, rfl, rfl⟩)) (by decide) rfl (by decide) (Nat.le_of_ble_eq_true rfl) (Nat.le_of_ble_eq_true rfl) dX12_init_121 ?_
  refine q_putR (f := 17) cl_X12 (by decide) qw_1133 rfl (Or.inr ⟨rfl, rfl, rfl⟩) dX12_init_123 (fun _ _ _ => rfl) (fun _ => rfl) (fun _ => rfl) (fun M41 h42 => ?_)
  refine q_aload_n 0 dX12_init_126 rfl ?_
  refine q_bipush (x := (20 : Int32)) dX12_init_127 rfl ?_
  refine q_newarr (at_ := .long) (ty := .long) (len := 20) rfl qa_long (Or.inr (Or.inl ⟨rfl, rfl, rfl⟩)) (by decide) rfl (by decide) (Nat.le_of_ble_eq_true rfl) (Nat.le_of_ble_eq_true rfl) dX12_init_129 ?_
  refine q_putR (f := 19) cl_X12 (by decide) qw_1135 rfl (Or.inr ⟨rfl, rfl, rfl⟩) dX12_init_131 (fun _ _ _ => rfl) (fun _ => rfl) (fun _ => rfl) (fun M44 h45 => ?_)
  refine q_aload_n 0 dX12_init_134 rfl ?_
  refine q_bipush (x := (8 : Int32)) dX12_init_135 rfl ?_
  refine q_newarr (at_ := .int) (ty := .int) (len := 8) rfl qa_int (Or.inl ⟨rfl, rfl, rfl⟩) (by decide) rfl (by decide) (Nat.le_of_ble_eq_true rfl) (Nat.le_of_ble_eq_true rfl) dX12_init_137 ?_
  refine q_putR (f := 21) cl_X12 (by decide) qw_1137 rfl (Or.inr ⟨rfl, rfl, rfl⟩) dX12_init_139 (fun _ _ _ => rfl) (fun _ => rfl) (fun _ => rfl) (fun M47 h48 => ?_)
  refine q_aload_n 0 dX12_init_142 rfl ?_
  refine q_bipush (x := (8 : Int32)) dX12_init_143 rfl ?_
  refine q_newarr (at_ := .int) (ty := .int) (len := 8) rfl qa_int (Or.inl ⟨rfl, rfl, rfl⟩) (by decide) rfl (by decide) (Nat.le_of_ble_eq_true rfl) (Nat.le_of_ble_eq_true rfl) dX12_init_145 ?_
  refine q_putR (f := 22) cl_X12 (by decide) qw_1138 rfl (Or.inr ⟨rfl, rfl, rfl⟩) dX12_init_147 (fun _ _ _ => rfl) (fun _ => rfl) (fun _ => rfl) (fun M50 h51 => ?_)
  refine q_aload_n 0 dX12_init_150 rfl ?_
  refine q_sipush (x := (1024 : Int32)) dX12_init_151 rfl ?_
  refine q_newarr (at_ := .long) (ty := .long) (len := 1024) rfl qa_long (Or.inr (Or.inl ⟨rfl, rfl, rfl⟩)) (by decide) rfl (by decide) (Nat.le_of_ble_eq_true rfl) (Nat.le_of_ble_eq_true rfl) dX12_init_154 ?_
  refine q_putR (f := 24) cl_X12 (by decide) qw_1140 rfl (Or.inr ⟨rfl, rfl, rfl⟩) dX12_init_156 (fun _ _ _ => rfl) (fun _ => rfl) (fun _ => rfl) (fun M53 h54 => ?_)
  refine q_aload_n 0 dX12_init_159 rfl ?_
  refine q_bipush (x := (10 : Int32)) dX12_init_160 rfl ?_
  refine q_newarr (at_ := .int) (ty := .int) (len := 10) rfl qa_int (Or.inl ⟨rfl, rfl, rfl⟩) (by decide) rfl (by decide) (Nat.le_of_ble_eq_true rfl) (Nat.le_of_ble_eq_true rfl) dX12_init_162 ?_
  refine q_putR (f := 25) cl_X12 (by decide) qw_1141 rfl (Or.inr ⟨rfl, rfl, rfl⟩) dX12_init_164 (fun _ _ _ => rfl) (fun _ => rfl) (fun _ => rfl) (fun M56 h57 => ?_)
  refine q_aload_n 0 dX12_init_167 rfl ?_
  refine q_bipush (x := (10 : Int32)) dX12_init_168 rfl ?_
  refine q_newarr (at_ := .int) (ty := .int) (len := 10) rfl qa_int (Or.inl ⟨rfl, rfl, rfl⟩) (by decide) rfl (by decide) (Nat.le_of_ble_eq_true rfl) (Nat.le_of_ble_eq_true rfl) dX12_init_170 ?_
  refine q_putR (f := 26) cl_X12 (by decide) qw_1142 rfl (Or.inr ⟨rfl, rfl, rfl⟩) dX12_init_172 (fun _ _ _ => rfl) (fun _ => rfl) (fun _ => rfl) (fun M59 h60 => ?_)
  refine q_aload_n 0 dX12_init_175 rfl ?_
  refine q_bipush (x := (10 : Int32)) dX12_init_176 rfl ?_
  refine q_newarr (at_ := .int) (ty := .int) (len := 10) rfl qa_int (Or.inl ⟨rfl, rfl, rfl⟩) (by decide) rfl (by decide) (Nat.le_of_ble_eq_true rfl) (Nat.le_of_ble_eq_true rfl) dX12_init_178 ?_
  refine q_putR (f := 27) cl_X12 (by decide) qw_1143 rfl (Or.inr ⟨rfl, rfl, rfl⟩) dX12_init_180 (fun _ _ _ => rfl) (fun _ => rfl) (fun _ => rfl) (fun M62 h63 => ?_)
  refine q_aload_n 0 dX12_init_183 rfl ?_
  refine q_bipush (x := (10 : Int32)) dX12_init_184 rfl ?_
  refine q_newarr (at_ := .int) (ty := .int) (len := 10) rfl qa_int (Or.inl ⟨rfl, rfl, rfl⟩) (by decide) rfl (by decide) (Nat.le_of_ble_eq_true rfl) (Nat.le_of_ble_eq_true rfl) dX12_init_186 ?_
  refine q_putR (f := 28) cl_X12 (by decide) qw_1144 rfl (Or.inr ⟨rfl, rfl, rfl⟩) dX12_init_188 (fun _ _ _ => rfl) (fun _ => rfl) (fun _ => rfl) (fun M65 h66 => ?_)
  refine q_aload_n 0 dX12_init_191 rfl ?_
  refine q_getR (f := 0) cl_X12 (by decide) qw_1117 rfl dX12_init_192 (fun _ _ _ => rfl) (fun v67 h68 => ?_)
  refine q_bipush (x := (10 : Int32)) dX12_init_195 rfl ?_
  refine q_bipush (x := (7 : Int32)) dX12_init_197 rfl ?_
  refine q_iast dX12_init_199 (fun M69 h70 => ?_)
  refine q_aload_n 0 dX12_init_200 rfl ?_
  refine q_getR (f := 0) cl_X12 (by decide) qw_1117 rfl dX12_init_201 (fun _ _ _ => rfl) (fun v71 h72 => ?_)
  refine q_bipush (x := (11 : Int32)) dX12_init_204 rfl ?_
  refine q_sipush (x := (300 : Int32)) dX12_init_206 rfl ?_
  refine q_iast dX12_init_209 (fun M73 h74 => ?_)
  refine q_aload_n 0 dX12_init_210 rfl ?_
  refine q_getR (f := 0) cl_X12 (by decide) qw_1117 rfl dX12_init_211 (fun _ _ _ => rfl) (fun v75 h76 => ?_)
  refine q_bipush (x := (12 : Int32)) dX12_init_214 rfl ?_
  refine q_iconst (x := (1 : Int32)) dX12_init_216 rfl ?_
  refine q_iast dX12_init_217 (fun M77 h78 => ?_)
  exact q_vret dX12_init_218 rfl rfl (Nat.le_of_ble_eq_true rfl) rfl
theorem dX12_is_0 : decode cX12_is 0 = .ok (.iload_n 2, 1) := by decide +kernel
theorem dX12_is_1 : decode cX12_is 1 = .ok (.iconst 0, 1) := by decide +kernel
theorem dX12_is_2 : decode cX12_is 2 = .ok (.aload_n 0, 1) := by decide +kernel
theorem dX12_is_3 : decode cX12_is 3 = .ok (.getfield 7, 3) := by decide +kernel
theorem dX12_is_6 : decode cX12_is 6 = .ok (.iload_n 1, 1) := by decide +kernel
theorem dX12_is_7 : decode cX12_is 7 = .ok (.iaload, 1) := by decide +kernel
theorem dX12_is_8 : decode cX12_is 8 = .ok (.iconst 1, 1) := by decide +kernel
theorem dX12_is_9 : decode cX12_is 9 = .ok (.isub, 1) := by decide +kernel
theorem dX12_is_10 : decode cX12_is 10 = .ok (.invokestatic 78, 3) := by decide +kernel
theorem dX12_is_13 : decode cX12_is 13 = .ok (.ireturn, 1) := by decide +kernel
def f_X12_is (M : q_Mem) (a0 : Nat) (a1 : Int32) (a2 : Int32) : Option Int32 :=
  q_ob 11 M a0 ((q_gR 11 0 M a0).bind fun v1 =>
  (q_lI M v1 a1).bind fun v3 =>
  (f_X12_in M a2 (0 : Int32) (v3 - (1 : Int32))).bind fun v6 =>
  (if v6 = 0 ∨ v6 = 1 then some v6 else none))
set_option maxRecDepth 20000 in
theorem m_X12_is {M : q_Mem} {a0 : Nat} {a1 : Int32} {a2 : Int32} {x : Int32} (h : f_X12_is M a0 a1 a2 = some x) : q_C Y_X12_is [.ref a0, .int a1, .int a2] M (some (.int x)) M := by
  refine q_met (φ := (fun x : Int32 => (some (.int x), M))) (r := f_X12_is M a0 a1 a2) (by decide +kernel) (Nat.le_of_ble_eq_true rfl) ?_ h (fun _ _ => rfl)
  show q_V Y_X12_is none (fun x : Int32 => (some (.int x), M)) 0 0 0 [(0, .ref a0), (1, .int a1), (2, .int a2)] [] M (f_X12_is M a0 a1 a2)
  unfold f_X12_is
  refine q_obV ?_
  refine q_iload_n 2 dX12_is_0 rfl ?_
  refine q_iconst (x := (0 : Int32)) dX12_is_1 rfl ?_
  refine q_aload_n 0 dX12_is_2 rfl ?_
  refine q_getR (f := 0) cl_X12 (by decide) qw_1117 rfl dX12_is_3 (fun _ _ _ => rfl) (fun v1 h2 => ?_)
  refine q_iload_n 1 dX12_is_6 rfl ?_
  refine q_iald dX12_is_7 (fun v3 h4 => ?_)
  refine q_iconst (x := (1 : Int32)) dX12_is_8 rfl ?_
  refine q_isub dX12_is_9 ?_
  refine q_cSI (Y2 := Y_X12_in) (As := [.int a2, .int (0 : Int32), .int (v3 - (1 : Int32))]) (st := []) ms_X12_in qw_1214 dX12_is_10 ⟨Nat.le_of_ble_eq_true rfl, Nat.le_of_ble_eq_true rfl⟩ rfl (fun _ _ => rfl) (Nat.le_of_ble_eq_true rfl) ⟨Nat.le_of_ble_eq_true rfl, Nat.le_of_ble_eq_true rfl⟩ (fun v6 h5 => m_X12_in h5) (fun v6 h5 => ?_)
  exact q_zret dX12_is_13 rfl rfl (Nat.le_of_ble_eq_true rfl) rfl
theorem dX12_more_0 : decode cX12_more 0 = .ok (.aload_n 0, 1) := by decide +kernel
theorem dX12_more_1 : decode cX12_more 1 = .ok (.getfield 7, 3) := by decide +kernel
theorem dX12_more_4 : decode cX12_more 4 = .ok (.iload_n 1, 1) := by decide +kernel
theorem dX12_more_5 : decode cX12_more 5 = .ok (.dup2, 1) := by decide +kernel
theorem dX12_more_6 : decode cX12_more 6 = .ok (.iaload, 1) := by decide +kernel
theorem dX12_more_7 : decode cX12_more 7 = .ok (.iconst 1, 1) := by decide +kernel
theorem dX12_more_8 : decode cX12_more 8 = .ok (.iadd, 1) := by decide +kernel
theorem dX12_more_9 : decode cX12_more 9 = .ok (.iastore, 1) := by decide +kernel
theorem dX12_more_10 : decode cX12_more 10 = .ok (.aload_n 0, 1) := by decide +kernel
theorem dX12_more_11 : decode cX12_more 11 = .ok (.getfield 7, 3) := by decide +kernel
theorem dX12_more_14 : decode cX12_more 14 = .ok (.iload_n 1, 1) := by decide +kernel
theorem dX12_more_15 : decode cX12_more 15 = .ok (.iaload, 1) := by decide +kernel
theorem dX12_more_16 : decode cX12_more 16 = .ok (.iconst 1, 1) := by decide +kernel
theorem dX12_more_17 : decode cX12_more 17 = .ok (.isub, 1) := by decide +kernel
theorem dX12_more_18 : decode cX12_more 18 = .ok (.ireturn, 1) := by decide +kernel
def f_X12_more (M : q_Mem) (a0 : Nat) (a1 : Int32) : Option (Int32 × q_Mem) :=
  q_ob 11 M a0 ((q_gR 11 0 M a0).bind fun v1 =>
  (q_lI M v1 a1).bind fun v3 =>
  (q_tI M v1 a1 (v3 + (1 : Int32))).bind fun M5 =>
  (q_gR 11 0 M5 a0).bind fun v7 =>
  (q_lI M5 v7 a1).bind fun v9 =>
  some ((v9 - (1 : Int32)), M5))
set_option maxRecDepth 20000 in
theorem m_X12_more {M : q_Mem} {a0 : Nat} {a1 : Int32} {x : (Int32 × q_Mem)} (h : f_X12_more M a0 a1 = some x) : q_C Y_X12_more [.ref a0, .int a1] M (some (.int x.1)) x.2 := by
  refine q_met (φ := (fun x : Int32 × q_Mem => (some (.int x.1), x.2))) (r := f_X12_more M a0 a1) (by decide +kernel) (Nat.le_of_ble_eq_true rfl) ?_ h (fun _ _ => rfl)
  show q_V Y_X12_more none (fun x : Int32 × q_Mem => (some (.int x.1), x.2)) 0 0 0 [(0, .ref a0), (1, .int a1)] [] M (f_X12_more M a0 a1)
  unfold f_X12_more
  refine q_obV ?_
  refine q_aload_n 0 dX12_more_0 rfl ?_
  refine q_getR (f := 0) cl_X12 (by decide) qw_1117 rfl dX12_more_1 (fun _ _ _ => rfl) (fun v1 h2 => ?_)
  refine q_iload_n 1 dX12_more_4 rfl ?_
  refine q_dup2 dX12_more_5 rfl rfl ?_
  refine q_iald dX12_more_6 (fun v3 h4 => ?_)
  refine q_iconst (x := (1 : Int32)) dX12_more_7 rfl ?_
  refine q_iadd dX12_more_8 ?_
  refine q_iast dX12_more_9 (fun M5 h6 => ?_)
  refine q_aload_n 0 dX12_more_10 rfl ?_
  refine q_getR (f := 0) cl_X12 (by decide) qw_1117 rfl dX12_more_11 (fun _ _ _ => rfl) (fun v7 h8 => ?_)
  refine q_iload_n 1 dX12_more_14 rfl ?_
  refine q_iald dX12_more_15 (fun v9 h10 => ?_)
  refine q_iconst (x := (1 : Int32)) dX12_more_16 rfl ?_
  refine q_isub dX12_more_17 ?_
  exact q_iret dX12_more_18 rfl rfl (Nat.le_of_ble_eq_true rfl) rfl
theorem dX12_isDay_0 : decode cX12_isDay 0 = .ok (.iload_n 0, 1) := by decide +kernel
theorem dX12_isDay_1 : decode cX12_isDay 1 = .ok (.iconst 0, 1) := by decide +kernel
theorem dX12_isDay_2 : decode cX12_isDay 2 = .ok (.sipush 195, 3) := by decide +kernel
theorem dX12_isDay_5 : decode cX12_isDay 5 = .ok (.invokestatic 78, 3) := by decide +kernel
theorem dX12_isDay_8 : decode cX12_isDay 8 = .ok (.ireturn, 1) := by decide +kernel
def f_X12_isDay (M : q_Mem) (a0 : Int32) : Option Int32 :=
  (f_X12_in M a0 (0 : Int32) (195 : Int32)).bind fun v2 =>
  (if v2 = 0 ∨ v2 = 1 then some v2 else none)
set_option maxRecDepth 20000 in
theorem m_X12_isDay {M : q_Mem} {a0 : Int32} {x : Int32} (h : f_X12_isDay M a0 = some x) : q_C Y_X12_isDay [.int a0] M (some (.int x)) M := by
  refine q_met (φ := (fun x : Int32 => (some (.int x), M))) (r := f_X12_isDay M a0) (by decide +kernel) (Nat.le_of_ble_eq_true rfl) ?_ h (fun _ _ => rfl)
  show q_V Y_X12_isDay none (fun x : Int32 => (some (.int x), M)) 0 0 0 [(0, .int a0)] [] M (f_X12_isDay M a0)
  unfold f_X12_isDay
  refine q_iload_n 0 dX12_isDay_0 rfl ?_
  refine q_iconst (x := (0 : Int32)) dX12_isDay_1 rfl ?_
  refine q_sipush (x := (195 : Int32)) dX12_isDay_2 rfl ?_
  refine q_cSI (Y2 := Y_X12_in) (As := [.int a0, .int (0 : Int32), .int (195 : Int32)]) (st := []) ms_X12_in qw_1214 dX12_isDay_5 ⟨Nat.le_of_ble_eq_true rfl, Nat.le_of_ble_eq_true rfl⟩ rfl (fun _ _ => rfl) (Nat.le_of_ble_eq_true rfl) ⟨Nat.le_of_ble_eq_true rfl, Nat.le_of_ble_eq_true rfl⟩ (fun v2 h1 => m_X12_in h1) (fun v2 h1 => ?_)
  exact q_zret dX12_isDay_8 rfl rfl (Nat.le_of_ble_eq_true rfl) rfl
theorem dX12_isWeek_0 : decode cX12_isWeek 0 = .ok (.iload_n 0, 1) := by decide +kernel
theorem dX12_isWeek_1 : decode cX12_isWeek 1 = .ok (.iconst 0, 1) := by decide +kernel
theorem dX12_isWeek_2 : decode cX12_isWeek 2 = .ok (.bipush 27, 2) := by decide +kernel
theorem dX12_isWeek_4 : decode cX12_isWeek 4 = .ok (.invokestatic 78, 3) := by decide +kernel
theorem dX12_isWeek_7 : decode cX12_isWeek 7 = .ok (.ireturn, 1) := by decide +kernel
def f_X12_isWeek (M : q_Mem) (a0 : Int32) : Option Int32 :=
  (f_X12_in M a0 (0 : Int32) (27 : Int32)).bind fun v2 =>
  (if v2 = 0 ∨ v2 = 1 then some v2 else none)
set_option maxRecDepth 20000 in
theorem m_X12_isWeek {M : q_Mem} {a0 : Int32} {x : Int32} (h : f_X12_isWeek M a0 = some x) : q_C Y_X12_isWeek [.int a0] M (some (.int x)) M := by
  refine q_met (φ := (fun x : Int32 => (some (.int x), M))) (r := f_X12_isWeek M a0) (by decide +kernel) (Nat.le_of_ble_eq_true rfl) ?_ h (fun _ _ => rfl)
  show q_V Y_X12_isWeek none (fun x : Int32 => (some (.int x), M)) 0 0 0 [(0, .int a0)] [] M (f_X12_isWeek M a0)
  unfold f_X12_isWeek
  refine q_iload_n 0 dX12_isWeek_0 rfl ?_
  refine q_iconst (x := (0 : Int32)) dX12_isWeek_1 rfl ?_
  refine q_bipush (x := (27 : Int32)) dX12_isWeek_2 rfl ?_
  refine q_cSI (Y2 := Y_X12_in) (As := [.int a0, .int (0 : Int32), .int (27 : Int32)]) (st := []) ms_X12_in qw_1214 dX12_isWeek_4 ⟨Nat.le_of_ble_eq_true rfl, Nat.le_of_ble_eq_true rfl⟩ rfl (fun _ _ => rfl) (Nat.le_of_ble_eq_true rfl) ⟨Nat.le_of_ble_eq_true rfl, Nat.le_of_ble_eq_true rfl⟩ (fun v2 h1 => m_X12_in h1) (fun v2 h1 => ?_)
  exact q_zret dX12_isWeek_7 rfl rfl (Nat.le_of_ble_eq_true rfl) rfl
theorem dX12_farm_0 : decode cX12_farm 0 = .ok (.iload_n 1, 1) := by decide +kernel
theorem dX12_farm_1 : decode cX12_farm 1 = .ok (.iconst 0, 1) := by decide +kernel
theorem dX12_farm_2 : decode cX12_farm 2 = .ok (.sipush 200, 3) := by decide +kernel
theorem dX12_farm_5 : decode cX12_farm 5 = .ok (.invokestatic 78, 3) := by decide +kernel
theorem dX12_farm_8 : decode cX12_farm 8 = .ok (.ifCond .eq 24, 3) := by decide +kernel
theorem dX12_farm_11 : decode cX12_farm 11 = .ok (.iload_n 2, 1) := by decide +kernel
theorem dX12_farm_12 : decode cX12_farm 12 = .ok (.iconst 0, 1) := by decide +kernel
theorem dX12_farm_13 : decode cX12_farm 13 = .ok (.sipush 200, 3) := by decide +kernel
theorem dX12_farm_16 : decode cX12_farm 16 = .ok (.invokestatic 78, 3) := by decide +kernel
theorem dX12_farm_19 : decode cX12_farm 19 = .ok (.ifCond .eq 13, 3) := by decide +kernel
theorem dX12_farm_22 : decode cX12_farm 22 = .ok (.iload_n 3, 1) := by decide +kernel
theorem dX12_farm_23 : decode cX12_farm 23 = .ok (.iconst 0, 1) := by decide +kernel
theorem dX12_farm_24 : decode cX12_farm 24 = .ok (.bipush 60, 2) := by decide +kernel
theorem dX12_farm_26 : decode cX12_farm 26 = .ok (.invokestatic 78, 3) := by decide +kernel
theorem dX12_farm_29 : decode cX12_farm 29 = .ok (.ifCond .ne 6, 3) := by decide +kernel
theorem dX12_farm_32 : decode cX12_farm 32 = .ok (.bipush (-2), 2) := by decide +kernel
theorem dX12_farm_34 : decode cX12_farm 34 = .ok (.ireturn, 1) := by decide +kernel
theorem dX12_farm_35 : decode cX12_farm 35 = .ok (.aload_n 0, 1) := by decide +kernel
theorem dX12_farm_36 : decode cX12_farm 36 = .ok (.getfield 7, 3) := by decide +kernel
theorem dX12_farm_39 : decode cX12_farm 39 = .ok (.iconst 0, 1) := by decide +kernel
theorem dX12_farm_40 : decode cX12_farm 40 = .ok (.iaload, 1) := by decide +kernel
theorem dX12_farm_41 : decode cX12_farm 41 = .ok (.bipush 20, 2) := by decide +kernel
theorem dX12_farm_43 : decode cX12_farm 43 = .ok (.if_icmp .ne 6, 3) := by decide +kernel
theorem dX12_farm_46 : decode cX12_farm 46 = .ok (.bipush (-4), 2) := by decide +kernel
theorem dX12_farm_48 : decode cX12_farm 48 = .ok (.ireturn, 1) := by decide +kernel
theorem dX12_farm_49 : decode cX12_farm 49 = .ok (.bipush 20, 2) := by decide +kernel
theorem dX12_farm_51 : decode cX12_farm 51 = .ok (.iconst 4, 1) := by decide +kernel
theorem dX12_farm_52 : decode cX12_farm 52 = .ok (.aload_n 0, 1) := by decide +kernel
theorem dX12_farm_53 : decode cX12_farm 53 = .ok (.getfield 7, 3) := by decide +kernel
theorem dX12_farm_56 : decode cX12_farm 56 = .ok (.iconst 0, 1) := by decide +kernel
theorem dX12_farm_57 : decode cX12_farm 57 = .ok (.iaload, 1) := by decide +kernel
theorem dX12_farm_58 : decode cX12_farm 58 = .ok (.imul, 1) := by decide +kernel
theorem dX12_farm_59 : decode cX12_farm 59 = .ok (.iadd, 1) := by decide +kernel
theorem dX12_farm_60 : decode cX12_farm 60 = .ok (.istore 5, 2) := by decide +kernel
theorem dX12_farm_62 : decode cX12_farm 62 = .ok (.aload_n 0, 1) := by decide +kernel
theorem dX12_farm_63 : decode cX12_farm 63 = .ok (.getfield 7, 3) := by decide +kernel
theorem dX12_farm_66 : decode cX12_farm 66 = .ok (.iload 5, 2) := by decide +kernel
theorem dX12_farm_68 : decode cX12_farm 68 = .ok (.iload_n 1, 1) := by decide +kernel
theorem dX12_farm_69 : decode cX12_farm 69 = .ok (.iastore, 1) := by decide +kernel
theorem dX12_farm_70 : decode cX12_farm 70 = .ok (.aload_n 0, 1) := by decide +kernel
theorem dX12_farm_71 : decode cX12_farm 71 = .ok (.getfield 7, 3) := by decide +kernel
theorem dX12_farm_74 : decode cX12_farm 74 = .ok (.iload 5, 2) := by decide +kernel
theorem dX12_farm_76 : decode cX12_farm 76 = .ok (.iconst 1, 1) := by decide +kernel
theorem dX12_farm_77 : decode cX12_farm 77 = .ok (.iadd, 1) := by decide +kernel
theorem dX12_farm_78 : decode cX12_farm 78 = .ok (.iload_n 2, 1) := by decide +kernel
theorem dX12_farm_79 : decode cX12_farm 79 = .ok (.iastore, 1) := by decide +kernel
theorem dX12_farm_80 : decode cX12_farm 80 = .ok (.aload_n 0, 1) := by decide +kernel
theorem dX12_farm_81 : decode cX12_farm 81 = .ok (.getfield 7, 3) := by decide +kernel
theorem dX12_farm_84 : decode cX12_farm 84 = .ok (.iload 5, 2) := by decide +kernel
theorem dX12_farm_86 : decode cX12_farm 86 = .ok (.iconst 2, 1) := by decide +kernel
theorem dX12_farm_87 : decode cX12_farm 87 = .ok (.iadd, 1) := by decide +kernel
theorem dX12_farm_88 : decode cX12_farm 88 = .ok (.iload_n 3, 1) := by decide +kernel
theorem dX12_farm_89 : decode cX12_farm 89 = .ok (.iastore, 1) := by decide +kernel
theorem dX12_farm_90 : decode cX12_farm 90 = .ok (.aload_n 0, 1) := by decide +kernel
theorem dX12_farm_91 : decode cX12_farm 91 = .ok (.getfield 7, 3) := by decide +kernel
theorem dX12_farm_94 : decode cX12_farm 94 = .ok (.iload 5, 2) := by decide +kernel
theorem dX12_farm_96 : decode cX12_farm 96 = .ok (.iconst 3, 1) := by decide +kernel
theorem dX12_farm_97 : decode cX12_farm 97 = .ok (.iadd, 1) := by decide +kernel
theorem dX12_farm_98 : decode cX12_farm 98 = .ok (.iload 4, 2) := by decide +kernel
theorem dX12_farm_100 : decode cX12_farm 100 = .ok (.ifCond .eq 7, 3) := by decide +kernel
theorem dX12_farm_103 : decode cX12_farm 103 = .ok (.iconst 1, 1) := by decide +kernel
theorem dX12_farm_104 : decode cX12_farm 104 = .ok (.goto 4, 3) := by decide +kernel
theorem dX12_farm_107 : decode cX12_farm 107 = .ok (.iconst 0, 1) := by decide +kernel
theorem dX12_farm_108 : decode cX12_farm 108 = .ok (.iastore, 1) := by decide +kernel
theorem dX12_farm_109 : decode cX12_farm 109 = .ok (.aload_n 0, 1) := by decide +kernel
theorem dX12_farm_110 : decode cX12_farm 110 = .ok (.iconst 0, 1) := by decide +kernel
theorem dX12_farm_111 : decode cX12_farm 111 = .ok (.invokevirtual 82, 3) := by decide +kernel
theorem dX12_farm_114 : decode cX12_farm 114 = .ok (.ireturn, 1) := by decide +kernel
def f_X12_farm (M : q_Mem) (a0 : Nat) (a1 : Int32) (a2 : Int32) (a3 : Int32) (a4 : Int32) : Option (Int32 × q_Mem) :=
  q_ob 11 M a0 ((f_X12_in M a1 (0 : Int32) (200 : Int32)).bind fun v2 =>
  (if v2 = 0 then
    some ((-2 : Int32), M)
  else
    (f_X12_in M a2 (0 : Int32) (200 : Int32)).bind fun v4 =>
    (if v4 = 0 then
      some ((-2 : Int32), M)
    else
      (f_X12_in M a3 (0 : Int32) (60 : Int32)).bind fun v6 =>
      (if v6 = 0 then
        some ((-2 : Int32), M)
      else
        (q_gR 11 0 M a0).bind fun v7 =>
        (q_lI M v7 (0 : Int32)).bind fun v9 =>
        (if v9 = (20 : Int32) then
          some ((-4 : Int32), M)
        else
          (q_gR 11 0 M a0).bind fun v11 =>
          (q_lI M v11 (0 : Int32)).bind fun v13 =>
          (q_gR 11 0 M a0).bind fun v15 =>
          (q_tI M v15 ((20 : Int32) + ((4 : Int32) * v13)) a1).bind fun M17 =>
          (q_gR 11 0 M17 a0).bind fun v19 =>
          (q_tI M17 v19 (((20 : Int32) + ((4 : Int32) * v13)) + (1 : Int32)) a2).bind fun M21 =>
          (q_gR 11 0 M21 a0).bind fun v23 =>
          (q_tI M21 v23 (((20 : Int32) + ((4 : Int32) * v13)) + (2 : Int32)) a3).bind fun M25 =>
          (q_gR 11 0 M25 a0).bind fun v27 =>
          (if a4 = 0 then
            (q_tI M25 v27 (((20 : Int32) + ((4 : Int32) * v13)) + (3 : Int32)) (0 : Int32)).bind fun M29 =>
            (f_X12_more M29 a0 (0 : Int32)).bind fun r32 =>
            some (r32.1, r32.2)
          else
            (q_tI M25 v27 (((20 : Int32) + ((4 : Int32) * v13)) + (3 : Int32)) (1 : Int32)).bind fun M33 =>
            (f_X12_more M33 a0 (0 : Int32)).bind fun r36 =>
            some (r36.1, r36.2)))))))
set_option maxRecDepth 20000 in
theorem m_X12_farm {M : q_Mem} {a0 : Nat} {a1 : Int32} {a2 : Int32} {a3 : Int32} {a4 : Int32} {x : (Int32 × q_Mem)} (h : f_X12_farm M a0 a1 a2 a3 a4 = some x) : q_C Y_X12_farm [.ref a0, .int a1, .int a2, .int a3, .int a4] M (some (.int x.1)) x.2 := by
  refine q_met (φ := (fun x : Int32 × q_Mem => (some (.int x.1), x.2))) (r := f_X12_farm M a0 a1 a2 a3 a4) (by decide +kernel) (Nat.le_of_ble_eq_true rfl) ?_ h (fun _ _ => rfl)
  show q_V Y_X12_farm none (fun x : Int32 × q_Mem => (some (.int x.1), x.2)) 0 0 0 [(0, .ref a0), (1, .int a1), (2, .int a2), (3, .int a3), (4, .int a4)] [] M (f_X12_farm M a0 a1 a2 a3 a4)
  unfold f_X12_farm
  refine q_obV ?_
  refine q_iload_n 1 dX12_farm_0 rfl ?_
  refine q_iconst (x := (0 : Int32)) dX12_farm_1 rfl ?_
  refine q_sipush (x := (200 : Int32)) dX12_farm_2 rfl ?_
  refine q_cSI (Y2 := Y_X12_in) (As := [.int a1, .int (0 : Int32), .int (200 : Int32)]) (st := []) ms_X12_in qw_1214 dX12_farm_5 ⟨Nat.le_of_ble_eq_true rfl, Nat.le_of_ble_eq_true rfl⟩ rfl (fun _ _ => rfl) (Nat.le_of_ble_eq_true rfl) ⟨Nat.le_of_ble_eq_true rfl, Nat.le_of_ble_eq_true rfl⟩ (fun v2 h1 => m_X12_in h1) (fun v2 h1 => ?_)
  refine q_if_eq (tgt := 32) dX12_farm_8 (by decide) (fun c41 => ?_) (fun c41 => ?_)
  · refine q_bipush (x := (-2 : Int32)) dX12_farm_32 rfl ?_
    exact q_iret dX12_farm_34 rfl rfl (Nat.le_of_ble_eq_true rfl) rfl
  · refine q_iload_n 2 dX12_farm_11 rfl ?_
    refine q_iconst (x := (0 : Int32)) dX12_farm_12 rfl ?_
    refine q_sipush (x := (200 : Int32)) dX12_farm_13 rfl ?_
    refine q_cSI (Y2 := Y_X12_in) (As := [.int a2, .int (0 : Int32), .int (200 : Int32)]) (st := []) ms_X12_in qw_1214 dX12_farm_16 ⟨Nat.le_of_ble_eq_true rfl, Nat.le_of_ble_eq_true rfl⟩ rfl (fun _ _ => rfl) (Nat.le_of_ble_eq_true rfl) ⟨Nat.le_of_ble_eq_true rfl, Nat.le_of_ble_eq_true rfl⟩ (fun v4 h3 => m_X12_in h3) (fun v4 h3 => ?_)
    refine q_if_eq (tgt := 32) dX12_farm_19 (by decide) (fun c40 => ?_) (fun c40 => ?_)
    · refine q_bipush (x := (-2 : Int32)) dX12_farm_32 rfl ?_
      exact q_iret dX12_farm_34 rfl rfl (Nat.le_of_ble_eq_true rfl) rfl
    · refine q_iload_n 3 dX12_farm_22 rfl ?_
      refine q_iconst (x := (0 : Int32)) dX12_farm_23 rfl ?_
      refine q_bipush (x := (60 : Int32)) dX12_farm_24 rfl ?_
      refine q_cSI (Y2 := Y_X12_in) (As := [.int a3, .int (0 : Int32), .int (60 : Int32)]) (st := []) ms_X12_in qw_1214 dX12_farm_26 ⟨Nat.le_of_ble_eq_true rfl, Nat.le_of_ble_eq_true rfl⟩ rfl (fun _ _ => rfl) (Nat.le_of_ble_eq_true rfl) ⟨Nat.le_of_ble_eq_true rfl, Nat.le_of_ble_eq_true rfl⟩ (fun v6 h5 => m_X12_in h5) (fun v6 h5 => ?_)
      refine q_if_ne (tgt := 35) dX12_farm_29 (by decide) (fun c39 => ?_) (fun c39 => ?_)
      · refine q_bipush (x := (-2 : Int32)) dX12_farm_32 rfl ?_
        exact q_iret dX12_farm_34 rfl rfl (Nat.le_of_ble_eq_true rfl) rfl
      · refine q_aload_n 0 dX12_farm_35 rfl ?_
        refine q_getR (f := 0) cl_X12 (by decide) qw_1117 rfl dX12_farm_36 (fun _ _ _ => rfl) (fun v7 h8 => ?_)
        refine q_iconst (x := (0 : Int32)) dX12_farm_39 rfl ?_
        refine q_iald dX12_farm_40 (fun v9 h10 => ?_)
        refine q_bipush (x := (20 : Int32)) dX12_farm_41 rfl ?_
        refine q_icmp_ne (tgt := 49) dX12_farm_43 (by decide) (fun c38 => ?_) (fun c38 => ?_)
        · refine q_bipush (x := (-4 : Int32)) dX12_farm_46 rfl ?_
          exact q_iret dX12_farm_48 rfl rfl (Nat.le_of_ble_eq_true rfl) rfl
        · refine q_bipush (x := (20 : Int32)) dX12_farm_49 rfl ?_
          refine q_iconst (x := (4 : Int32)) dX12_farm_51 rfl ?_
          refine q_aload_n 0 dX12_farm_52 rfl ?_
          refine q_getR (f := 0) cl_X12 (by decide) qw_1117 rfl dX12_farm_53 (fun _ _ _ => rfl) (fun v11 h12 => ?_)
          refine q_iconst (x := (0 : Int32)) dX12_farm_56 rfl ?_
          refine q_iald dX12_farm_57 (fun v13 h14 => ?_)
          refine q_imul dX12_farm_58 ?_
          refine q_iadd dX12_farm_59 ?_
          refine q_istore (ls' := [(5, .int ((20 : Int32) + ((4 : Int32) * v13))), (0, .ref a0), (1, .int a1), (2, .int a2), (3, .int a3), (4, .int a4)]) dX12_farm_60 (by decide) rfl ?_
          refine q_aload_n 1 dX12_farm_62 rfl ?_
          refine q_getR (f := 0) cl_X12 (by decide) qw_1117 rfl dX12_farm_63 (fun _ _ _ => rfl) (fun v15 h16 => ?_)
          refine q_iload 0 dX12_farm_66 rfl ?_
          refine q_iload_n 2 dX12_farm_68 rfl ?_
          refine q_iast dX12_farm_69 (fun M17 h18 => ?_)
          refine q_aload_n 1 dX12_farm_70 rfl ?_
          refine q_getR (f := 0) cl_X12 (by decide) qw_1117 rfl dX12_farm_71 (fun _ _ _ => rfl) (fun v19 h20 => ?_)
          refine q_iload 0 dX12_farm_74 rfl ?_
          refine q_iconst (x := (1 : Int32)) dX12_farm_76 rfl ?_
          refine q_iadd dX12_farm_77 ?_
          refine q_iload_n 3 dX12_farm_78 rfl ?_
          refine q_iast dX12_farm_79 (fun M21 h22 => ?_)
          refine q_aload_n 1 dX12_farm_80 rfl ?_
          refine q_getR (f := 0) cl_X12 (by decide) qw_1117 rfl dX12_farm_81 (fun _ _ _ => rfl) (fun v23 h24 => ?_)
          refine q_iload 0 dX12_farm_84 rfl ?_
          refine q_iconst (x := (2 : Int32)) dX12_farm_86 rfl ?_
          refine q_iadd dX12_farm_87 ?_
          refine q_iload_n 4 dX12_farm_88 rfl ?_
          refine q_iast dX12_farm_89 (fun M25 h26 => ?_)
          refine q_aload_n 1 dX12_farm_90 rfl ?_
          refine q_getR (f := 0) cl_X12 (by decide) qw_1117 rfl dX12_farm_91 (fun _ _ _ => rfl) (fun v27 h28 => ?_)
          refine q_iload 0 dX12_farm_94 rfl ?_
          refine q_iconst (x := (3 : Int32)) dX12_farm_96 rfl ?_
          refine q_iadd dX12_farm_97 ?_
          refine q_iload 5 dX12_farm_98 rfl ?_
          refine q_if_eq (tgt := 107) dX12_farm_100 (by decide) (fun c37 => ?_) (fun c37 => ?_)
          · refine q_iconst (x := (0 : Int32)) dX12_farm_107 rfl ?_
            refine q_iast dX12_farm_108 (fun M29 h30 => ?_)
            refine q_aload_n 1 dX12_farm_109 rfl ?_
            refine q_iconst (x := (0 : Int32)) dX12_farm_110 rfl ?_
            refine q_cVMI (Y2 := Y_X12_more) (As := [.int (0 : Int32)]) (b := a0) (st := []) cl_X12 mv_X12_more qw_1217 dX12_farm_111 ⟨Nat.le_of_ble_eq_true rfl, Nat.le_of_ble_eq_true rfl⟩ rfl (fun _ _ => rfl) (Nat.le_of_ble_eq_true rfl) ⟨Nat.le_of_ble_eq_true rfl, Nat.le_of_ble_eq_true rfl⟩ (fun r32 h31 => q_ob_is h31) (fun r32 h31 => m_X12_more h31) (fun r32 h31 => ?_)
            exact q_iret dX12_farm_114 rfl rfl (Nat.le_of_ble_eq_true rfl) rfl
          · refine q_iconst (x := (1 : Int32)) dX12_farm_103 rfl ?_
            refine q_goto (tgt := 108) dX12_farm_104 (by decide) ?_
            refine q_iast dX12_farm_108 (fun M33 h34 => ?_)
            refine q_aload_n 1 dX12_farm_109 rfl ?_
            refine q_iconst (x := (0 : Int32)) dX12_farm_110 rfl ?_
            refine q_cVMI (Y2 := Y_X12_more) (As := [.int (0 : Int32)]) (b := a0) (st := []) cl_X12 mv_X12_more qw_1217 dX12_farm_111 ⟨Nat.le_of_ble_eq_true rfl, Nat.le_of_ble_eq_true rfl⟩ rfl (fun _ _ => rfl) (Nat.le_of_ble_eq_true rfl) ⟨Nat.le_of_ble_eq_true rfl, Nat.le_of_ble_eq_true rfl⟩ (fun r36 h35 => q_ob_is h35) (fun r36 h35 => m_X12_more h35) (fun r36 h35 => ?_)
            exact q_iret dX12_farm_114 rfl rfl (Nat.le_of_ble_eq_true rfl) rfl
theorem dX12_cows_0 : decode cX12_cows 0 = .ok (.aload_n 0, 1) := by decide +kernel
theorem dX12_cows_1 : decode cX12_cows 1 = .ok (.getfield 7, 3) := by decide +kernel
theorem dX12_cows_4 : decode cX12_cows 4 = .ok (.bipush 20, 2) := by decide +kernel
theorem dX12_cows_6 : decode cX12_cows 6 = .ok (.iconst 4, 1) := by decide +kernel
theorem dX12_cows_7 : decode cX12_cows 7 = .ok (.iload_n 1, 1) := by decide +kernel
theorem dX12_cows_8 : decode cX12_cows 8 = .ok (.imul, 1) := by decide +kernel
theorem dX12_cows_9 : decode cX12_cows 9 = .ok (.iadd, 1) := by decide +kernel
theorem dX12_cows_10 : decode cX12_cows 10 = .ok (.iconst 2, 1) := by decide +kernel
theorem dX12_cows_11 : decode cX12_cows 11 = .ok (.iadd, 1) := by decide +kernel
theorem dX12_cows_12 : decode cX12_cows 12 = .ok (.iaload, 1) := by decide +kernel
theorem dX12_cows_13 : decode cX12_cows 13 = .ok (.ireturn, 1) := by decide +kernel
def f_X12_cows (M : q_Mem) (a0 : Nat) (a1 : Int32) : Option Int32 :=
  q_ob 11 M a0 ((q_gR 11 0 M a0).bind fun v1 =>
  (q_lI M v1 (((20 : Int32) + ((4 : Int32) * a1)) + (2 : Int32))).bind fun v3 =>
  some v3)
set_option maxRecDepth 20000 in
theorem m_X12_cows {M : q_Mem} {a0 : Nat} {a1 : Int32} {x : Int32} (h : f_X12_cows M a0 a1 = some x) : q_C Y_X12_cows [.ref a0, .int a1] M (some (.int x)) M := by
  refine q_met (φ := (fun x : Int32 => (some (.int x), M))) (r := f_X12_cows M a0 a1) (by decide +kernel) (Nat.le_of_ble_eq_true rfl) ?_ h (fun _ _ => rfl)
  show q_V Y_X12_cows none (fun x : Int32 => (some (.int x), M)) 0 0 0 [(0, .ref a0), (1, .int a1)] [] M (f_X12_cows M a0 a1)
  unfold f_X12_cows
  refine q_obV ?_
  refine q_aload_n 0 dX12_cows_0 rfl ?_
  refine q_getR (f := 0) cl_X12 (by decide) qw_1117 rfl dX12_cows_1 (fun _ _ _ => rfl) (fun v1 h2 => ?_)
  refine q_bipush (x := (20 : Int32)) dX12_cows_4 rfl ?_
  refine q_iconst (x := (4 : Int32)) dX12_cows_6 rfl ?_
  refine q_iload_n 1 dX12_cows_7 rfl ?_
  refine q_imul dX12_cows_8 ?_
  refine q_iadd dX12_cows_9 ?_
  refine q_iconst (x := (2 : Int32)) dX12_cows_10 rfl ?_
  refine q_iadd dX12_cows_11 ?_
  refine q_iald dX12_cows_12 (fun v3 h4 => ?_)
  exact q_iret dX12_cows_13 rfl rfl (Nat.le_of_ble_eq_true rfl) rfl
theorem dX12_isMember_0 : decode cX12_isMember 0 = .ok (.aload_n 0, 1) := by decide +kernel
theorem dX12_isMember_1 : decode cX12_isMember 1 = .ok (.getfield 7, 3) := by decide +kernel
theorem dX12_isMember_4 : decode cX12_isMember 4 = .ok (.bipush 20, 2) := by decide +kernel
theorem dX12_isMember_6 : decode cX12_isMember 6 = .ok (.iconst 4, 1) := by decide +kernel
theorem dX12_isMember_7 : decode cX12_isMember 7 = .ok (.iload_n 1, 1) := by decide +kernel
theorem dX12_isMember_8 : decode cX12_isMember 8 = .ok (.imul, 1) := by decide +kernel
theorem dX12_isMember_9 : decode cX12_isMember 9 = .ok (.iadd, 1) := by decide +kernel
theorem dX12_isMember_10 : decode cX12_isMember 10 = .ok (.iconst 3, 1) := by decide +kernel
theorem dX12_isMember_11 : decode cX12_isMember 11 = .ok (.iadd, 1) := by decide +kernel
theorem dX12_isMember_12 : decode cX12_isMember 12 = .ok (.iaload, 1) := by decide +kernel
theorem dX12_isMember_13 : decode cX12_isMember 13 = .ok (.iconst 1, 1) := by decide +kernel
theorem dX12_isMember_14 : decode cX12_isMember 14 = .ok (.if_icmp .ne 7, 3) := by decide +kernel
theorem dX12_isMember_17 : decode cX12_isMember 17 = .ok (.iconst 1, 1) := by decide +kernel
theorem dX12_isMember_18 : decode cX12_isMember 18 = .ok (.goto 4, 3) := by decide +kernel
theorem dX12_isMember_21 : decode cX12_isMember 21 = .ok (.iconst 0, 1) := by decide +kernel
theorem dX12_isMember_22 : decode cX12_isMember 22 = .ok (.ireturn, 1) := by decide +kernel
def f_X12_isMember (M : q_Mem) (a0 : Nat) (a1 : Int32) : Option Int32 :=
  q_ob 11 M a0 ((q_gR 11 0 M a0).bind fun v1 =>
  (q_lI M v1 (((20 : Int32) + ((4 : Int32) * a1)) + (3 : Int32))).bind fun v3 =>
  (if v3 = (1 : Int32) then
    some (1 : Int32)
  else
    some (0 : Int32)))
set_option maxRecDepth 20000 in
theorem m_X12_isMember {M : q_Mem} {a0 : Nat} {a1 : Int32} {x : Int32} (h : f_X12_isMember M a0 a1 = some x) : q_C Y_X12_isMember [.ref a0, .int a1] M (some (.int x)) M := by
  refine q_met (φ := (fun x : Int32 => (some (.int x), M))) (r := f_X12_isMember M a0 a1) (by decide +kernel) (Nat.le_of_ble_eq_true rfl) ?_ h (fun _ _ => rfl)
  show q_V Y_X12_isMember none (fun x : Int32 => (some (.int x), M)) 0 0 0 [(0, .ref a0), (1, .int a1)] [] M (f_X12_isMember M a0 a1)
  unfold f_X12_isMember
  refine q_obV ?_
  refine q_aload_n 0 dX12_isMember_0 rfl ?_
  refine q_getR (f := 0) cl_X12 (by decide) qw_1117 rfl dX12_isMember_1 (fun _ _ _ => rfl) (fun v1 h2 => ?_)
  refine q_bipush (x := (20 : Int32)) dX12_isMember_4 rfl ?_
  refine q_iconst (x := (4 : Int32)) dX12_isMember_6 rfl ?_
  refine q_iload_n 1 dX12_isMember_7 rfl ?_
  refine q_imul dX12_isMember_8 ?_
  refine q_iadd dX12_isMember_9 ?_
  refine q_iconst (x := (3 : Int32)) dX12_isMember_10 rfl ?_
  refine q_iadd dX12_isMember_11 ?_
  refine q_iald dX12_isMember_12 (fun v3 h4 => ?_)
  refine q_iconst (x := (1 : Int32)) dX12_isMember_13 rfl ?_
  refine q_icmp_ne (tgt := 21) dX12_isMember_14 (by decide) (fun c5 => ?_) (fun c5 => ?_)
  · refine q_iconst (x := (1 : Int32)) dX12_isMember_17 rfl ?_
    refine q_goto (tgt := 22) dX12_isMember_18 (by decide) ?_
    exact q_zretL dX12_isMember_22 rfl (Or.inr rfl) rfl (Nat.le_of_ble_eq_true rfl) rfl
  · refine q_iconst (x := (0 : Int32)) dX12_isMember_21 rfl ?_
    exact q_zretL dX12_isMember_22 rfl (Or.inl rfl) rfl (Nat.le_of_ble_eq_true rfl) rfl
theorem dX12_change_0 : decode cX12_change 0 = .ok (.aload_n 0, 1) := by decide +kernel
theorem dX12_change_1 : decode cX12_change 1 = .ok (.iconst 0, 1) := by decide +kernel
theorem dX12_change_2 : decode cX12_change 2 = .ok (.iload_n 1, 1) := by decide +kernel
theorem dX12_change_3 : decode cX12_change 3 = .ok (.invokevirtual 86, 3) := by decide +kernel
theorem dX12_change_6 : decode cX12_change 6 = .ok (.ifCond .eq 13, 3) := by decide +kernel
theorem dX12_change_9 : decode cX12_change 9 = .ok (.iload_n 2, 1) := by decide +kernel
theorem dX12_change_10 : decode cX12_change 10 = .ok (.iconst 0, 1) := by decide +kernel
theorem dX12_change_11 : decode cX12_change 11 = .ok (.bipush 60, 2) := by decide +kernel
theorem dX12_change_13 : decode cX12_change 13 = .ok (.invokestatic 78, 3) := by decide +kernel
theorem dX12_change_16 : decode cX12_change 16 = .ok (.ifCond .ne 6, 3) := by decide +kernel
theorem dX12_change_19 : decode cX12_change 19 = .ok (.bipush (-2), 2) := by decide +kernel
theorem dX12_change_21 : decode cX12_change 21 = .ok (.ireturn, 1) := by decide +kernel
theorem dX12_change_22 : decode cX12_change 22 = .ok (.aload_n 0, 1) := by decide +kernel
theorem dX12_change_23 : decode cX12_change 23 = .ok (.getfield 7, 3) := by decide +kernel
theorem dX12_change_26 : decode cX12_change 26 = .ok (.bipush 20, 2) := by decide +kernel
theorem dX12_change_28 : decode cX12_change 28 = .ok (.iconst 4, 1) := by decide +kernel
theorem dX12_change_29 : decode cX12_change 29 = .ok (.iload_n 1, 1) := by decide +kernel
theorem dX12_change_30 : decode cX12_change 30 = .ok (.imul, 1) := by decide +kernel
theorem dX12_change_31 : decode cX12_change 31 = .ok (.iadd, 1) := by decide +kernel
theorem dX12_change_32 : decode cX12_change 32 = .ok (.iconst 2, 1) := by decide +kernel
theorem dX12_change_33 : decode cX12_change 33 = .ok (.iadd, 1) := by decide +kernel
theorem dX12_change_34 : decode cX12_change 34 = .ok (.iload_n 2, 1) := by decide +kernel
theorem dX12_change_35 : decode cX12_change 35 = .ok (.iastore, 1) := by decide +kernel
theorem dX12_change_36 : decode cX12_change 36 = .ok (.aload_n 0, 1) := by decide +kernel
theorem dX12_change_37 : decode cX12_change 37 = .ok (.getfield 7, 3) := by decide +kernel
theorem dX12_change_40 : decode cX12_change 40 = .ok (.bipush 20, 2) := by decide +kernel
theorem dX12_change_42 : decode cX12_change 42 = .ok (.iconst 4, 1) := by decide +kernel
theorem dX12_change_43 : decode cX12_change 43 = .ok (.iload_n 1, 1) := by decide +kernel
theorem dX12_change_44 : decode cX12_change 44 = .ok (.imul, 1) := by decide +kernel
theorem dX12_change_45 : decode cX12_change 45 = .ok (.iadd, 1) := by decide +kernel
theorem dX12_change_46 : decode cX12_change 46 = .ok (.iconst 3, 1) := by decide +kernel
theorem dX12_change_47 : decode cX12_change 47 = .ok (.iadd, 1) := by decide +kernel
theorem dX12_change_48 : decode cX12_change 48 = .ok (.iload_n 3, 1) := by decide +kernel
theorem dX12_change_49 : decode cX12_change 49 = .ok (.ifCond .eq 7, 3) := by decide +kernel
theorem dX12_change_52 : decode cX12_change 52 = .ok (.iconst 1, 1) := by decide +kernel
theorem dX12_change_53 : decode cX12_change 53 = .ok (.goto 4, 3) := by decide +kernel
theorem dX12_change_56 : decode cX12_change 56 = .ok (.iconst 0, 1) := by decide +kernel
theorem dX12_change_57 : decode cX12_change 57 = .ok (.iastore, 1) := by decide +kernel
theorem dX12_change_58 : decode cX12_change 58 = .ok (.iconst 1, 1) := by decide +kernel
theorem dX12_change_59 : decode cX12_change 59 = .ok (.ireturn, 1) := by decide +kernel
def f_X12_change (M : q_Mem) (a0 : Nat) (a1 : Int32) (a2 : Int32) (a3 : Int32) : Option (Int32 × q_Mem) :=
  q_ob 11 M a0 ((f_X12_is M a0 (0 : Int32) a1).bind fun v2 =>
  (if v2 = 0 then
    some ((-2 : Int32), M)
  else
    (f_X12_in M a2 (0 : Int32) (60 : Int32)).bind fun v4 =>
    (if v4 = 0 then
      some ((-2 : Int32), M)
    else
      (q_gR 11 0 M a0).bind fun v5 =>
      (q_tI M v5 (((20 : Int32) + ((4 : Int32) * a1)) + (2 : Int32)) a2).bind fun M7 =>
      (q_gR 11 0 M7 a0).bind fun v9 =>
      (if a3 = 0 then
        (q_tI M7 v9 (((20 : Int32) + ((4 : Int32) * a1)) + (3 : Int32)) (0 : Int32)).bind fun M11 =>
        some ((1 : Int32), M11)
      else
        (q_tI M7 v9 (((20 : Int32) + ((4 : Int32) * a1)) + (3 : Int32)) (1 : Int32)).bind fun M13 =>
        some ((1 : Int32), M13)))))
set_option maxRecDepth 20000 in
theorem m_X12_change {M : q_Mem} {a0 : Nat} {a1 : Int32} {a2 : Int32} {a3 : Int32} {x : (Int32 × q_Mem)} (h : f_X12_change M a0 a1 a2 a3 = some x) : q_C Y_X12_change [.ref a0, .int a1, .int a2, .int a3] M (some (.int x.1)) x.2 := by
  refine q_met (φ := (fun x : Int32 × q_Mem => (some (.int x.1), x.2))) (r := f_X12_change M a0 a1 a2 a3) (by decide +kernel) (Nat.le_of_ble_eq_true rfl) ?_ h (fun _ _ => rfl)
  show q_V Y_X12_change none (fun x : Int32 × q_Mem => (some (.int x.1), x.2)) 0 0 0 [(0, .ref a0), (1, .int a1), (2, .int a2), (3, .int a3)] [] M (f_X12_change M a0 a1 a2 a3)
  unfold f_X12_change
  refine q_obV ?_
  refine q_aload_n 0 dX12_change_0 rfl ?_
  refine q_iconst (x := (0 : Int32)) dX12_change_1 rfl ?_
  refine q_iload_n 1 dX12_change_2 rfl ?_
  refine q_cVI (Y2 := Y_X12_is) (As := [.int (0 : Int32), .int a1]) (b := a0) (st := []) cl_X12 mv_X12_is qw_1225 dX12_change_3 ⟨Nat.le_of_ble_eq_true rfl, Nat.le_of_ble_eq_true rfl⟩ rfl (fun _ _ => rfl) (Nat.le_of_ble_eq_true rfl) ⟨Nat.le_of_ble_eq_true rfl, Nat.le_of_ble_eq_true rfl⟩ (fun v2 h1 => q_ob_is h1) (fun v2 h1 => m_X12_is h1) (fun v2 h1 => ?_)
  refine q_if_eq (tgt := 19) dX12_change_6 (by decide) (fun c17 => ?_) (fun c17 => ?_)
  · refine q_bipush (x := (-2 : Int32)) dX12_change_19 rfl ?_
    exact q_iret dX12_change_21 rfl rfl (Nat.le_of_ble_eq_true rfl) rfl
  · refine q_iload_n 2 dX12_change_9 rfl ?_
    refine q_iconst (x := (0 : Int32)) dX12_change_10 rfl ?_
    refine q_bipush (x := (60 : Int32)) dX12_change_11 rfl ?_
    refine q_cSI (Y2 := Y_X12_in) (As := [.int a2, .int (0 : Int32), .int (60 : Int32)]) (st := []) ms_X12_in qw_1214 dX12_change_13 ⟨Nat.le_of_ble_eq_true rfl, Nat.le_of_ble_eq_true rfl⟩ rfl (fun _ _ => rfl) (Nat.le_of_ble_eq_true rfl) ⟨Nat.le_of_ble_eq_true rfl, Nat.le_of_ble_eq_true rfl⟩ (fun v4 h3 => m_X12_in h3) (fun v4 h3 => ?_)
    refine q_if_ne (tgt := 22) dX12_change_16 (by decide) (fun c16 => ?_) (fun c16 => ?_)
    · refine q_bipush (x := (-2 : Int32)) dX12_change_19 rfl ?_
      exact q_iret dX12_change_21 rfl rfl (Nat.le_of_ble_eq_true rfl) rfl
    · refine q_aload_n 0 dX12_change_22 rfl ?_
      refine q_getR (f := 0) cl_X12 (by decide) qw_1117 rfl dX12_change_23 (fun _ _ _ => rfl) (fun v5 h6 => ?_)
      refine q_bipush (x := (20 : Int32)) dX12_change_26 rfl ?_
      refine q_iconst (x := (4 : Int32)) dX12_change_28 rfl ?_
      refine q_iload_n 1 dX12_change_29 rfl ?_
      refine q_imul dX12_change_30 ?_
      refine q_iadd dX12_change_31 ?_
      refine q_iconst (x := (2 : Int32)) dX12_change_32 rfl ?_
      refine q_iadd dX12_change_33 ?_
      refine q_iload_n 2 dX12_change_34 rfl ?_
      refine q_iast dX12_change_35 (fun M7 h8 => ?_)
      refine q_aload_n 0 dX12_change_36 rfl ?_
      refine q_getR (f := 0) cl_X12 (by decide) qw_1117 rfl dX12_change_37 (fun _ _ _ => rfl) (fun v9 h10 => ?_)
      refine q_bipush (x := (20 : Int32)) dX12_change_40 rfl ?_
      refine q_iconst (x := (4 : Int32)) dX12_change_42 rfl ?_
      refine q_iload_n 1 dX12_change_43 rfl ?_
      refine q_imul dX12_change_44 ?_
      refine q_iadd dX12_change_45 ?_
      refine q_iconst (x := (3 : Int32)) dX12_change_46 rfl ?_
      refine q_iadd dX12_change_47 ?_
      refine q_iload_n 3 dX12_change_48 rfl ?_
      refine q_if_eq (tgt := 56) dX12_change_49 (by decide) (fun c15 => ?_) (fun c15 => ?_)
      · refine q_iconst (x := (0 : Int32)) dX12_change_56 rfl ?_
        refine q_iast dX12_change_57 (fun M11 h12 => ?_)
        refine q_iconst (x := (1 : Int32)) dX12_change_58 rfl ?_
        exact q_iret dX12_change_59 rfl rfl (Nat.le_of_ble_eq_true rfl) rfl
      · refine q_iconst (x := (1 : Int32)) dX12_change_52 rfl ?_
        refine q_goto (tgt := 57) dX12_change_53 (by decide) ?_
        refine q_iast dX12_change_57 (fun M13 h14 => ?_)
        refine q_iconst (x := (1 : Int32)) dX12_change_58 rfl ?_
        exact q_iret dX12_change_59 rfl rfl (Nat.le_of_ble_eq_true rfl) rfl
theorem dX12_can_0 : decode cX12_can 0 = .ok (.aload_n 0, 1) := by decide +kernel
theorem dX12_can_1 : decode cX12_can 1 = .ok (.iconst 0, 1) := by decide +kernel
theorem dX12_can_2 : decode cX12_can 2 = .ok (.iload_n 1, 1) := by decide +kernel
theorem dX12_can_3 : decode cX12_can 3 = .ok (.invokevirtual 86, 3) := by decide +kernel
theorem dX12_can_6 : decode cX12_can 6 = .ok (.ifCond .eq 21, 3) := by decide +kernel
theorem dX12_can_9 : decode cX12_can 9 = .ok (.iload_n 2, 1) := by decide +kernel
theorem dX12_can_10 : decode cX12_can 10 = .ok (.invokestatic 90, 3) := by decide +kernel
theorem dX12_can_13 : decode cX12_can 13 = .ok (.ifCond .eq 14, 3) := by decide +kernel
theorem dX12_can_16 : decode cX12_can 16 = .ok (.iload_n 3, 1) := by decide +kernel
theorem dX12_can_17 : decode cX12_can 17 = .ok (.iconst 1, 1) := by decide +kernel
theorem dX12_can_18 : decode cX12_can 18 = .ok (.sipush 1000, 3) := by decide +kernel
theorem dX12_can_21 : decode cX12_can 21 = .ok (.invokestatic 78, 3) := by decide +kernel
theorem dX12_can_24 : decode cX12_can 24 = .ok (.ifCond .ne 6, 3) := by decide +kernel
theorem dX12_can_27 : decode cX12_can 27 = .ok (.bipush (-2), 2) := by decide +kernel
theorem dX12_can_29 : decode cX12_can 29 = .ok (.ireturn, 1) := by decide +kernel
theorem dX12_can_30 : decode cX12_can 30 = .ok (.aload_n 0, 1) := by decide +kernel
theorem dX12_can_31 : decode cX12_can 31 = .ok (.getfield 7, 3) := by decide +kernel
theorem dX12_can_34 : decode cX12_can 34 = .ok (.iconst 1, 1) := by decide +kernel
theorem dX12_can_35 : decode cX12_can 35 = .ok (.iaload, 1) := by decide +kernel
theorem dX12_can_36 : decode cX12_can 36 = .ok (.sipush 300, 3) := by decide +kernel
theorem dX12_can_39 : decode cX12_can 39 = .ok (.if_icmp .ne 6, 3) := by decide +kernel
theorem dX12_can_42 : decode cX12_can 42 = .ok (.bipush (-4), 2) := by decide +kernel
theorem dX12_can_44 : decode cX12_can 44 = .ok (.ireturn, 1) := by decide +kernel
theorem dX12_can_45 : decode cX12_can 45 = .ok (.bipush 100, 2) := by decide +kernel
theorem dX12_can_47 : decode cX12_can 47 = .ok (.iconst 4, 1) := by decide +kernel
theorem dX12_can_48 : decode cX12_can 48 = .ok (.aload_n 0, 1) := by decide +kernel
theorem dX12_can_49 : decode cX12_can 49 = .ok (.getfield 7, 3) := by decide +kernel
theorem dX12_can_52 : decode cX12_can 52 = .ok (.iconst 1, 1) := by decide +kernel
theorem dX12_can_53 : decode cX12_can 53 = .ok (.iaload, 1) := by decide +kernel
theorem dX12_can_54 : decode cX12_can 54 = .ok (.imul, 1) := by decide +kernel
theorem dX12_can_55 : decode cX12_can 55 = .ok (.iadd, 1) := by decide +kernel
theorem dX12_can_56 : decode cX12_can 56 = .ok (.istore 4, 2) := by decide +kernel
theorem dX12_can_58 : decode cX12_can 58 = .ok (.aload_n 0, 1) := by decide +kernel
theorem dX12_can_59 : decode cX12_can 59 = .ok (.getfield 7, 3) := by decide +kernel
theorem dX12_can_62 : decode cX12_can 62 = .ok (.iload 4, 2) := by decide +kernel
theorem dX12_can_64 : decode cX12_can 64 = .ok (.iload_n 1, 1) := by decide +kernel
theorem dX12_can_65 : decode cX12_can 65 = .ok (.iastore, 1) := by decide +kernel
theorem dX12_can_66 : decode cX12_can 66 = .ok (.aload_n 0, 1) := by decide +kernel
theorem dX12_can_67 : decode cX12_can 67 = .ok (.getfield 7, 3) := by decide +kernel
theorem dX12_can_70 : decode cX12_can 70 = .ok (.iload 4, 2) := by decide +kernel
theorem dX12_can_72 : decode cX12_can 72 = .ok (.iconst 1, 1) := by decide +kernel
theorem dX12_can_73 : decode cX12_can 73 = .ok (.iadd, 1) := by decide +kernel
theorem dX12_can_74 : decode cX12_can 74 = .ok (.iload_n 2, 1) := by decide +kernel
theorem dX12_can_75 : decode cX12_can 75 = .ok (.iastore, 1) := by decide +kernel
theorem dX12_can_76 : decode cX12_can 76 = .ok (.aload_n 0, 1) := by decide +kernel
theorem dX12_can_77 : decode cX12_can 77 = .ok (.getfield 7, 3) := by decide +kernel
theorem dX12_can_80 : decode cX12_can 80 = .ok (.iload 4, 2) := by decide +kernel
theorem dX12_can_82 : decode cX12_can 82 = .ok (.iconst 2, 1) := by decide +kernel
theorem dX12_can_83 : decode cX12_can 83 = .ok (.iadd, 1) := by decide +kernel
theorem dX12_can_84 : decode cX12_can 84 = .ok (.iload_n 3, 1) := by decide +kernel
theorem dX12_can_85 : decode cX12_can 85 = .ok (.iastore, 1) := by decide +kernel
theorem dX12_can_86 : decode cX12_can 86 = .ok (.aload_n 0, 1) := by decide +kernel
theorem dX12_can_87 : decode cX12_can 87 = .ok (.getfield 7, 3) := by decide +kernel
theorem dX12_can_90 : decode cX12_can 90 = .ok (.iload 4, 2) := by decide +kernel
theorem dX12_can_92 : decode cX12_can 92 = .ok (.iconst 3, 1) := by decide +kernel
theorem dX12_can_93 : decode cX12_can 93 = .ok (.iadd, 1) := by decide +kernel
theorem dX12_can_94 : decode cX12_can 94 = .ok (.iconst (-1), 1) := by decide +kernel
theorem dX12_can_95 : decode cX12_can 95 = .ok (.iastore, 1) := by decide +kernel
theorem dX12_can_96 : decode cX12_can 96 = .ok (.aload_n 0, 1) := by decide +kernel
theorem dX12_can_97 : decode cX12_can 97 = .ok (.iconst 1, 1) := by decide +kernel
theorem dX12_can_98 : decode cX12_can 98 = .ok (.invokevirtual 82, 3) := by decide +kernel
theorem dX12_can_101 : decode cX12_can 101 = .ok (.ireturn, 1) := by decide +kernel
def f_X12_can (M : q_Mem) (a0 : Nat) (a1 : Int32) (a2 : Int32) (a3 : Int32) : Option (Int32 × q_Mem) :=
  q_ob 11 M a0 ((f_X12_is M a0 (0 : Int32) a1).bind fun v2 =>
  (if v2 = 0 then
    some ((-2 : Int32), M)
  else
    (f_X12_isDay M a2).bind fun v4 =>
    (if v4 = 0 then
      some ((-2 : Int32), M)
    else
      (f_X12_in M a3 (1 : Int32) (1000 : Int32)).bind fun v6 =>
      (if v6 = 0 then
        some ((-2 : Int32), M)
      else
        (q_gR 11 0 M a0).bind fun v7 =>
        (q_lI M v7 (1 : Int32)).bind fun v9 =>
        (if v9 = (300 : Int32) then
          some ((-4 : Int32), M)
        else
          (q_gR 11 0 M a0).bind fun v11 =>
          (q_lI M v11 (1 : Int32)).bind fun v13 =>
          (q_gR 11 0 M a0).bind fun v15 =>
          (q_tI M v15 ((100 : Int32) + ((4 : Int32) * v13)) a1).bind fun M17 =>
          (q_gR 11 0 M17 a0).bind fun v19 =>
          (q_tI M17 v19 (((100 : Int32) + ((4 : Int32) * v13)) + (1 : Int32)) a2).bind fun M21 =>
          (q_gR 11 0 M21 a0).bind fun v23 =>
          (q_tI M21 v23 (((100 : Int32) + ((4 : Int32) * v13)) + (2 : Int32)) a3).bind fun M25 =>
          (q_gR 11 0 M25 a0).bind fun v27 =>
          (q_tI M25 v27 (((100 : Int32) + ((4 : Int32) * v13)) + (3 : Int32)) (-1 : Int32)).bind fun M29 =>
          (f_X12_more M29 a0 (1 : Int32)).bind fun r32 =>
          some (r32.1, r32.2))))))
set_option maxRecDepth 20000 in
theorem m_X12_can {M : q_Mem} {a0 : Nat} {a1 : Int32} {a2 : Int32} {a3 : Int32} {x : (Int32 × q_Mem)} (h : f_X12_can M a0 a1 a2 a3 = some x) : q_C Y_X12_can [.ref a0, .int a1, .int a2, .int a3] M (some (.int x.1)) x.2 := by
  refine q_met (φ := (fun x : Int32 × q_Mem => (some (.int x.1), x.2))) (r := f_X12_can M a0 a1 a2 a3) (by decide +kernel) (Nat.le_of_ble_eq_true rfl) ?_ h (fun _ _ => rfl)
  show q_V Y_X12_can none (fun x : Int32 × q_Mem => (some (.int x.1), x.2)) 0 0 0 [(0, .ref a0), (1, .int a1), (2, .int a2), (3, .int a3)] [] M (f_X12_can M a0 a1 a2 a3)
  unfold f_X12_can
  refine q_obV ?_
  refine q_aload_n 0 dX12_can_0 rfl ?_
  refine q_iconst (x := (0 : Int32)) dX12_can_1 rfl ?_
  refine q_iload_n 1 dX12_can_2 rfl ?_
  refine q_cVI (Y2 := Y_X12_is) (As := [.int (0 : Int32), .int a1]) (b := a0) (st := []) cl_X12 mv_X12_is qw_1225 dX12_can_3 ⟨Nat.le_of_ble_eq_true rfl, Nat.le_of_ble_eq_true rfl⟩ rfl (fun _ _ => rfl) (Nat.le_of_ble_eq_true rfl) ⟨Nat.le_of_ble_eq_true rfl, Nat.le_of_ble_eq_true rfl⟩ (fun v2 h1 => q_ob_is h1) (fun v2 h1 => m_X12_is h1) (fun v2 h1 => ?_)
  refine q_if_eq (tgt := 27) dX12_can_6 (by decide) (fun c36 => ?_) (fun c36 => ?_)
  · refine q_bipush (x := (-2 : Int32)) dX12_can_27 rfl ?_
    exact q_iret dX12_can_29 rfl rfl (Nat.le_of_ble_eq_true rfl) rfl
  · refine q_iload_n 2 dX12_can_9 rfl ?_
    refine q_cSI (Y2 := Y_X12_isDay) (As := [.int a2]) (st := []) ms_X12_isDay qw_1233 dX12_can_10 ⟨Nat.le_of_ble_eq_true rfl, Nat.le_of_ble_eq_true rfl⟩ rfl (fun _ _ => rfl) (Nat.le_of_ble_eq_true rfl) ⟨Nat.le_of_ble_eq_true rfl, Nat.le_of_ble_eq_true rfl⟩ (fun v4 h3 => m_X12_isDay h3) (fun v4 h3 => ?_)
    refine q_if_eq (tgt := 27) dX12_can_13 (by decide) (fun c35 => ?_) (fun c35 => ?_)
    · refine q_bipush (x := (-2 : Int32)) dX12_can_27 rfl ?_
      exact q_iret dX12_can_29 rfl rfl (Nat.le_of_ble_eq_true rfl) rfl
    · refine q_iload_n 3 dX12_can_16 rfl ?_
      refine q_iconst (x := (1 : Int32)) dX12_can_17 rfl ?_
      refine q_sipush (x := (1000 : Int32)) dX12_can_18 rfl ?_
      refine q_cSI (Y2 := Y_X12_in) (As := [.int a3, .int (1 : Int32), .int (1000 : Int32)]) (st := []) ms_X12_in qw_1214 dX12_can_21 ⟨Nat.le_of_ble_eq_true rfl, Nat.le_of_ble_eq_true rfl⟩ rfl (fun _ _ => rfl) (Nat.le_of_ble_eq_true rfl) ⟨Nat.le_of_ble_eq_true rfl, Nat.le_of_ble_eq_true rfl⟩ (fun v6 h5 => m_X12_in h5) (fun v6 h5 => ?_)
      refine q_if_ne (tgt := 30) dX12_can_24 (by decide) (fun c34 => ?_) (fun c34 => ?_)
      · refine q_bipush (x := (-2 : Int32)) dX12_can_27 rfl ?_
        exact q_iret dX12_can_29 rfl rfl (Nat.le_of_ble_eq_true rfl) rfl
      · refine q_aload_n 0 dX12_can_30 rfl ?_
        refine q_getR (f := 0) cl_X12 (by decide) qw_1117 rfl dX12_can_31 (fun _ _ _ => rfl) (fun v7 h8 => ?_)
        refine q_iconst (x := (1 : Int32)) dX12_can_34 rfl ?_
        refine q_iald dX12_can_35 (fun v9 h10 => ?_)
        refine q_sipush (x := (300 : Int32)) dX12_can_36 rfl ?_
        refine q_icmp_ne (tgt := 45) dX12_can_39 (by decide) (fun c33 => ?_) (fun c33 => ?_)
        · refine q_bipush (x := (-4 : Int32)) dX12_can_42 rfl ?_
          exact q_iret dX12_can_44 rfl rfl (Nat.le_of_ble_eq_true rfl) rfl
        · refine q_bipush (x := (100 : Int32)) dX12_can_45 rfl ?_
          refine q_iconst (x := (4 : Int32)) dX12_can_47 rfl ?_
          refine q_aload_n 0 dX12_can_48 rfl ?_
          refine q_getR (f := 0) cl_X12 (by decide) qw_1117 rfl dX12_can_49 (fun _ _ _ => rfl) (fun v11 h12 => ?_)
          refine q_iconst (x := (1 : Int32)) dX12_can_52 rfl ?_
          refine q_iald dX12_can_53 (fun v13 h14 => ?_)
          refine q_imul dX12_can_54 ?_
          refine q_iadd dX12_can_55 ?_
          refine q_istore (ls' := [(4, .int ((100 : Int32) + ((4 : Int32) * v13))), (0, .ref a0), (1, .int a1), (2, .int a2), (3, .int a3)]) dX12_can_56 (by decide) rfl ?_
          refine q_aload_n 1 dX12_can_58 rfl ?_
          refine q_getR (f := 0) cl_X12 (by decide) qw_1117 rfl dX12_can_59 (fun _ _ _ => rfl) (fun v15 h16 => ?_)
          refine q_iload 0 dX12_can_62 rfl ?_
          refine q_iload_n 2 dX12_can_64 rfl ?_
          refine q_iast dX12_can_65 (fun M17 h18 => ?_)
          refine q_aload_n 1 dX12_can_66 rfl ?_
          refine q_getR (f := 0) cl_X12 (by decide) qw_1117 rfl dX12_can_67 (fun _ _ _ => rfl) (fun v19 h20 => ?_)
          refine q_iload 0 dX12_can_70 rfl ?_
          refine q_iconst (x := (1 : Int32)) dX12_can_72 rfl ?_
          refine q_iadd dX12_can_73 ?_
          refine q_iload_n 3 dX12_can_74 rfl ?_
          refine q_iast dX12_can_75 (fun M21 h22 => ?_)
          refine q_aload_n 1 dX12_can_76 rfl ?_
          refine q_getR (f := 0) cl_X12 (by decide) qw_1117 rfl dX12_can_77 (fun _ _ _ => rfl) (fun v23 h24 => ?_)
          refine q_iload 0 dX12_can_80 rfl ?_
          refine q_iconst (x := (2 : Int32)) dX12_can_82 rfl ?_
          refine q_iadd dX12_can_83 ?_
          refine q_iload_n 4 dX12_can_84 rfl ?_
          refine q_iast dX12_can_85 (fun M25 h26 => ?_)
          refine q_aload_n 1 dX12_can_86 rfl ?_
          refine q_getR (f := 0) cl_X12 (by decide) qw_1117 rfl dX12_can_87 (fun _ _ _ => rfl) (fun v27 h28 => ?_)
          refine q_iload 0 dX12_can_90 rfl ?_
          refine q_iconst (x := (3 : Int32)) dX12_can_92 rfl ?_
          refine q_iadd dX12_can_93 ?_
          refine q_iconst (x := (-1 : Int32)) dX12_can_94 rfl ?_
          refine q_iast dX12_can_95 (fun M29 h30 => ?_)
          refine q_aload_n 1 dX12_can_96 rfl ?_
          refine q_iconst (x := (1 : Int32)) dX12_can_97 rfl ?_
          refine q_cVMI (Y2 := Y_X12_more) (As := [.int (1 : Int32)]) (b := a0) (st := []) cl_X12 mv_X12_more qw_1217 dX12_can_98 ⟨Nat.le_of_ble_eq_true rfl, Nat.le_of_ble_eq_true rfl⟩ rfl (fun _ _ => rfl) (Nat.le_of_ble_eq_true rfl) ⟨Nat.le_of_ble_eq_true rfl, Nat.le_of_ble_eq_true rfl⟩ (fun r32 h31 => q_ob_is h31) (fun r32 h31 => m_X12_more h31) (fun r32 h31 => ?_)
          exact q_iret dX12_can_101 rfl rfl (Nat.le_of_ble_eq_true rfl) rfl
theorem dX12_test_0 : decode cX12_test 0 = .ok (.aload_n 0, 1) := by decide +kernel
theorem dX12_test_1 : decode cX12_test 1 = .ok (.iconst 0, 1) := by decide +kernel
theorem dX12_test_2 : decode cX12_test 2 = .ok (.iload_n 1, 1) := by decide +kernel
theorem dX12_test_3 : decode cX12_test 3 = .ok (.invokevirtual 86, 3) := by decide +kernel
theorem dX12_test_6 : decode cX12_test 6 = .ok (.ifCond .eq 50, 3) := by decide +kernel
theorem dX12_test_9 : decode cX12_test 9 = .ok (.iload_n 2, 1) := by decide +kernel
theorem dX12_test_10 : decode cX12_test 10 = .ok (.invokestatic 90, 3) := by decide +kernel
theorem dX12_test_13 : decode cX12_test 13 = .ok (.ifCond .eq 43, 3) := by decide +kernel
theorem dX12_test_16 : decode cX12_test 16 = .ok (.iload_n 3, 1) := by decide +kernel
theorem dX12_test_17 : decode cX12_test 17 = .ok (.iconst 0, 1) := by decide +kernel
theorem dX12_test_18 : decode cX12_test 18 = .ok (.iconst 3, 1) := by decide +kernel
theorem dX12_test_19 : decode cX12_test 19 = .ok (.invokestatic 78, 3) := by decide +kernel
theorem dX12_test_22 : decode cX12_test 22 = .ok (.ifCond .eq 34, 3) := by decide +kernel
theorem dX12_test_25 : decode cX12_test 25 = .ok (.iload 4, 2) := by decide +kernel
theorem dX12_test_27 : decode cX12_test 27 = .ok (.iconst 0, 1) := by decide +kernel
theorem dX12_test_28 : decode cX12_test 28 = .ok (.sipush 1000, 3) := by decide +kernel
theorem dX12_test_31 : decode cX12_test 31 = .ok (.invokestatic 78, 3) := by decide +kernel
theorem dX12_test_34 : decode cX12_test 34 = .ok (.ifCond .ne 10, 3) := by decide +kernel
theorem dX12_test_37 : decode cX12_test 37 = .ok (.iload 4, 2) := by decide +kernel
theorem dX12_test_39 : decode cX12_test 39 = .ok (.bipush (-7), 2) := by decide +kernel
theorem dX12_test_41 : decode cX12_test 41 = .ok (.if_icmp .ne 15, 3) := by decide +kernel
theorem dX12_test_44 : decode cX12_test 44 = .ok (.iload 5, 2) := by decide +kernel
theorem dX12_test_46 : decode cX12_test 46 = .ok (.iload_n 2, 1) := by decide +kernel
theorem dX12_test_47 : decode cX12_test 47 = .ok (.sipush 195, 3) := by decide +kernel
theorem dX12_test_50 : decode cX12_test 50 = .ok (.invokestatic 78, 3) := by decide +kernel
theorem dX12_test_53 : decode cX12_test 53 = .ok (.ifCond .ne 6, 3) := by decide +kernel
theorem dX12_test_56 : decode cX12_test 56 = .ok (.bipush (-2), 2) := by decide +kernel
theorem dX12_test_58 : decode cX12_test 58 = .ok (.ireturn, 1) := by decide +kernel
theorem dX12_test_59 : decode cX12_test 59 = .ok (.aload_n 0, 1) := by decide +kernel
theorem dX12_test_60 : decode cX12_test 60 = .ok (.getfield 7, 3) := by decide +kernel
theorem dX12_test_63 : decode cX12_test 63 = .ok (.iconst 2, 1) := by decide +kernel
theorem dX12_test_64 : decode cX12_test 64 = .ok (.iaload, 1) := by decide +kernel
theorem dX12_test_65 : decode cX12_test 65 = .ok (.sipush 200, 3) := by decide +kernel
theorem dX12_test_68 : decode cX12_test 68 = .ok (.if_icmp .ne 6, 3) := by decide +kernel
theorem dX12_test_71 : decode cX12_test 71 = .ok (.bipush (-4), 2) := by decide +kernel
theorem dX12_test_73 : decode cX12_test 73 = .ok (.ireturn, 1) := by decide +kernel
theorem dX12_test_74 : decode cX12_test 74 = .ok (.sipush 1300, 3) := by decide +kernel
theorem dX12_test_77 : decode cX12_test 77 = .ok (.bipush 7, 2) := by decide +kernel
theorem dX12_test_79 : decode cX12_test 79 = .ok (.aload_n 0, 1) := by decide +kernel
theorem dX12_test_80 : decode cX12_test 80 = .ok (.getfield 7, 3) := by decide +kernel
theorem dX12_test_83 : decode cX12_test 83 = .ok (.iconst 2, 1) := by decide +kernel
theorem dX12_test_84 : decode cX12_test 84 = .ok (.iaload, 1) := by decide +kernel
theorem dX12_test_85 : decode cX12_test 85 = .ok (.imul, 1) := by decide +kernel
theorem dX12_test_86 : decode cX12_test 86 = .ok (.iadd, 1) := by decide +kernel
theorem dX12_test_87 : decode cX12_test 87 = .ok (.istore 6, 2) := by decide +kernel
theorem dX12_test_89 : decode cX12_test 89 = .ok (.aload_n 0, 1) := by decide +kernel
theorem dX12_test_90 : decode cX12_test 90 = .ok (.getfield 7, 3) := by decide +kernel
theorem dX12_test_93 : decode cX12_test 93 = .ok (.iload 6, 2) := by decide +kernel
theorem dX12_test_95 : decode cX12_test 95 = .ok (.iload_n 1, 1) := by decide +kernel
theorem dX12_test_96 : decode cX12_test 96 = .ok (.iastore, 1) := by decide +kernel
theorem dX12_test_97 : decode cX12_test 97 = .ok (.aload_n 0, 1) := by decide +kernel
theorem dX12_test_98 : decode cX12_test 98 = .ok (.getfield 7, 3) := by decide +kernel
theorem dX12_test_101 : decode cX12_test 101 = .ok (.iload 6, 2) := by decide +kernel
theorem dX12_test_103 : decode cX12_test 103 = .ok (.iconst 1, 1) := by decide +kernel
theorem dX12_test_104 : decode cX12_test 104 = .ok (.iadd, 1) := by decide +kernel
theorem dX12_test_105 : decode cX12_test 105 = .ok (.iload_n 2, 1) := by decide +kernel
theorem dX12_test_106 : decode cX12_test 106 = .ok (.iastore, 1) := by decide +kernel
theorem dX12_test_107 : decode cX12_test 107 = .ok (.aload_n 0, 1) := by decide +kernel
theorem dX12_test_108 : decode cX12_test 108 = .ok (.getfield 7, 3) := by decide +kernel
theorem dX12_test_111 : decode cX12_test 111 = .ok (.iload 6, 2) := by decide +kernel
theorem dX12_test_113 : decode cX12_test 113 = .ok (.iconst 2, 1) := by decide +kernel
theorem dX12_test_114 : decode cX12_test 114 = .ok (.iadd, 1) := by decide +kernel
theorem dX12_test_115 : decode cX12_test 115 = .ok (.iload_n 3, 1) := by decide +kernel
theorem dX12_test_116 : decode cX12_test 116 = .ok (.iastore, 1) := by decide +kernel
theorem dX12_test_117 : decode cX12_test 117 = .ok (.aload_n 0, 1) := by decide +kernel
theorem dX12_test_118 : decode cX12_test 118 = .ok (.getfield 7, 3) := by decide +kernel
theorem dX12_test_121 : decode cX12_test 121 = .ok (.iload 6, 2) := by decide +kernel
theorem dX12_test_123 : decode cX12_test 123 = .ok (.iconst 3, 1) := by decide +kernel
theorem dX12_test_124 : decode cX12_test 124 = .ok (.iadd, 1) := by decide +kernel
theorem dX12_test_125 : decode cX12_test 125 = .ok (.iload 4, 2) := by decide +kernel
theorem dX12_test_127 : decode cX12_test 127 = .ok (.iastore, 1) := by decide +kernel
theorem dX12_test_128 : decode cX12_test 128 = .ok (.aload_n 0, 1) := by decide +kernel
theorem dX12_test_129 : decode cX12_test 129 = .ok (.getfield 7, 3) := by decide +kernel
theorem dX12_test_132 : decode cX12_test 132 = .ok (.iload 6, 2) := by decide +kernel
theorem dX12_test_134 : decode cX12_test 134 = .ok (.iconst 4, 1) := by decide +kernel
theorem dX12_test_135 : decode cX12_test 135 = .ok (.iadd, 1) := by decide +kernel
theorem dX12_test_136 : decode cX12_test 136 = .ok (.iload 5, 2) := by decide +kernel
theorem dX12_test_138 : decode cX12_test 138 = .ok (.iastore, 1) := by decide +kernel
theorem dX12_test_139 : decode cX12_test 139 = .ok (.aload_n 0, 1) := by decide +kernel
theorem dX12_test_140 : decode cX12_test 140 = .ok (.getfield 7, 3) := by decide +kernel
theorem dX12_test_143 : decode cX12_test 143 = .ok (.iload 6, 2) := by decide +kernel
theorem dX12_test_145 : decode cX12_test 145 = .ok (.iconst 5, 1) := by decide +kernel
theorem dX12_test_146 : decode cX12_test 146 = .ok (.iadd, 1) := by decide +kernel
theorem dX12_test_147 : decode cX12_test 147 = .ok (.iconst (-1), 1) := by decide +kernel
theorem dX12_test_148 : decode cX12_test 148 = .ok (.iastore, 1) := by decide +kernel
theorem dX12_test_149 : decode cX12_test 149 = .ok (.aload_n 0, 1) := by decide +kernel
theorem dX12_test_150 : decode cX12_test 150 = .ok (.getfield 7, 3) := by decide +kernel
theorem dX12_test_153 : decode cX12_test 153 = .ok (.iload 6, 2) := by decide +kernel
theorem dX12_test_155 : decode cX12_test 155 = .ok (.bipush 6, 2) := by decide +kernel
theorem dX12_test_157 : decode cX12_test 157 = .ok (.iadd, 1) := by decide +kernel
theorem dX12_test_158 : decode cX12_test 158 = .ok (.iconst (-1), 1) := by decide +kernel
theorem dX12_test_159 : decode cX12_test 159 = .ok (.iastore, 1) := by decide +kernel
theorem dX12_test_160 : decode cX12_test 160 = .ok (.aload_n 0, 1) := by decide +kernel
theorem dX12_test_161 : decode cX12_test 161 = .ok (.iconst 2, 1) := by decide +kernel
theorem dX12_test_162 : decode cX12_test 162 = .ok (.invokevirtual 82, 3) := by decide +kernel
theorem dX12_test_165 : decode cX12_test 165 = .ok (.ireturn, 1) := by decide +kernel
def f_X12_test_b44 (M : q_Mem) (a0 : Nat) (a1 : Int32) (a2 : Int32) (a3 : Int32) (a4 : Int32) (a5 : Int32) : Option (Int32 × q_Mem) :=
  (f_X12_in M a5 a2 (195 : Int32)).bind fun v15 =>
  (if v15 = 0 then
    some ((-2 : Int32), M)
  else
    (q_gR 11 0 M a0).bind fun v16 =>
    (q_lI M v16 (2 : Int32)).bind fun v18 =>
    (if v18 = (200 : Int32) then
      some ((-4 : Int32), M)
    else
      (q_gR 11 0 M a0).bind fun v20 =>
      (q_lI M v20 (2 : Int32)).bind fun v22 =>
      (q_gR 11 0 M a0).bind fun v24 =>
      (q_tI M v24 ((1300 : Int32) + ((7 : Int32) * v22)) a1).bind fun M26 =>
      (q_gR 11 0 M26 a0).bind fun v28 =>
      (q_tI M26 v28 (((1300 : Int32) + ((7 : Int32) * v22)) + (1 : Int32)) a2).bind fun M30 =>
      (q_gR 11 0 M30 a0).bind fun v32 =>
      (q_tI M30 v32 (((1300 : Int32) + ((7 : Int32) * v22)) + (2 : Int32)) a3).bind fun M34 =>
      (q_gR 11 0 M34 a0).bind fun v36 =>
      (q_tI M34 v36 (((1300 : Int32) + ((7 : Int32) * v22)) + (3 : Int32)) a4).bind fun M38 =>
      (q_gR 11 0 M38 a0).bind fun v40 =>
      (q_tI M38 v40 (((1300 : Int32) + ((7 : Int32) * v22)) + (4 : Int32)) a5).bind fun M42 =>
      (q_gR 11 0 M42 a0).bind fun v44 =>
      (q_tI M42 v44 (((1300 : Int32) + ((7 : Int32) * v22)) + (5 : Int32)) (-1 : Int32)).bind fun M46 =>
      (q_gR 11 0 M46 a0).bind fun v48 =>
      (q_tI M46 v48 (((1300 : Int32) + ((7 : Int32) * v22)) + (6 : Int32)) (-1 : Int32)).bind fun M50 =>
      (f_X12_more M50 a0 (2 : Int32)).bind fun r53 =>
      some (r53.1, r53.2)))
def f_X12_test (M : q_Mem) (a0 : Nat) (a1 : Int32) (a2 : Int32) (a3 : Int32) (a4 : Int32) (a5 : Int32) : Option (Int32 × q_Mem) :=
  q_ob 11 M a0 ((f_X12_is M a0 (0 : Int32) a1).bind fun v2 =>
  (if v2 = 0 then
    some ((-2 : Int32), M)
  else
    (f_X12_isDay M a2).bind fun v4 =>
    (if v4 = 0 then
      some ((-2 : Int32), M)
    else
      (f_X12_in M a3 (0 : Int32) (3 : Int32)).bind fun v6 =>
      (if v6 = 0 then
        some ((-2 : Int32), M)
      else
        (f_X12_in M a4 (0 : Int32) (1000 : Int32)).bind fun v8 =>
        (if v8 = 0 then
          (if a4 = (-7 : Int32) then
            f_X12_test_b44 M a0 a1 a2 a3 a4 a5
          else
            some ((-2 : Int32), M))
        else
          f_X12_test_b44 M a0 a1 a2 a3 a4 a5)))))
set_option maxRecDepth 20000 in
theorem v_X12_test_b44 {M : q_Mem} {a0 : Nat} {a1 : Int32} {a2 : Int32} {a3 : Int32} {a4 : Int32} {a5 : Int32}  : q_V Y_X12_test none (fun x : Int32 × q_Mem => (some (.int x.1), x.2)) 0 0 44 [(0, .ref a0), (1, .int a1), (2, .int a2), (3, .int a3), (4, .int a4), (5, .int a5)] [] M (f_X12_test_b44 M a0 a1 a2 a3 a4 a5 ) := by
  unfold f_X12_test_b44
  refine q_iload 5 dX12_test_44 rfl ?_
  refine q_iload_n 2 dX12_test_46 rfl ?_
  refine q_sipush (x := (195 : Int32)) dX12_test_47 rfl ?_
  refine q_cSI (Y2 := Y_X12_in) (As := [.int a5, .int a2, .int (195 : Int32)]) (st := []) ms_X12_in qw_1214 dX12_test_50 ⟨Nat.le_of_ble_eq_true rfl, Nat.le_of_ble_eq_true rfl⟩ rfl (fun _ _ => rfl) (Nat.le_of_ble_eq_true rfl) ⟨Nat.le_of_ble_eq_true rfl, Nat.le_of_ble_eq_true rfl⟩ (fun v15 h14 => m_X12_in h14) (fun v15 h14 => ?_)
  refine q_if_ne (tgt := 59) dX12_test_53 (by decide) (fun c55 => ?_) (fun c55 => ?_)
  · refine q_bipush (x := (-2 : Int32)) dX12_test_56 rfl ?_
    exact q_iret dX12_test_58 rfl rfl (Nat.le_of_ble_eq_true rfl) rfl
  · refine q_aload_n 0 dX12_test_59 rfl ?_
    refine q_getR (f := 0) cl_X12 (by decide) qw_1117 rfl dX12_test_60 (fun _ _ _ => rfl) (fun v16 h17 => ?_)
    refine q_iconst (x := (2 : Int32)) dX12_test_63 rfl ?_
    refine q_iald dX12_test_64 (fun v18 h19 => ?_)
    refine q_sipush (x := (200 : Int32)) dX12_test_65 rfl ?_
    refine q_icmp_ne (tgt := 74) dX12_test_68 (by decide) (fun c54 => ?_) (fun c54 => ?_)
    · refine q_bipush (x := (-4 : Int32)) dX12_test_71 rfl ?_
      exact q_iret dX12_test_73 rfl rfl (Nat.le_of_ble_eq_true rfl) rfl
    · refine q_sipush (x := (1300 : Int32)) dX12_test_74 rfl ?_
      refine q_bipush (x := (7 : Int32)) dX12_test_77 rfl ?_
      refine q_aload_n 0 dX12_test_79 rfl ?_
      refine q_getR (f := 0) cl_X12 (by decide) qw_1117 rfl dX12_test_80 (fun _ _ _ => rfl) (fun v20 h21 => ?_)
      refine q_iconst (x := (2 : Int32)) dX12_test_83 rfl ?_
      refine q_iald dX12_test_84 (fun v22 h23 => ?_)
      refine q_imul dX12_test_85 ?_
      refine q_iadd dX12_test_86 ?_
      refine q_istore (ls' := [(6, .int ((1300 : Int32) + ((7 : Int32) * v22))), (0, .ref a0), (1, .int a1), (2, .int a2), (3, .int a3), (4, .int a4), (5, .int a5)]) dX12_test_87 (by decide) rfl ?_
      refine q_aload_n 1 dX12_test_89 rfl ?_
      refine q_getR (f := 0) cl_X12 (by decide) qw_1117 rfl dX12_test_90 (fun _ _ _ => rfl) (fun v24 h25 => ?_)
      refine q_iload 0 dX12_test_93 rfl ?_
      refine q_iload_n 2 dX12_test_95 rfl ?_
      refine q_iast dX12_test_96 (fun M26 h27 => ?_)
      refine q_aload_n 1 dX12_test_97 rfl ?_
      refine q_getR (f := 0) cl_X12 (by decide) qw_1117 rfl dX12_test_98 (fun _ _ _ => rfl) (fun v28 h29 => ?_)
      refine q_iload 0 dX12_test_101 rfl ?_
      refine q_iconst (x := (1 : Int32)) dX12_test_103 rfl ?_
      refine q_iadd dX12_test_104 ?_
      refine q_iload_n 3 dX12_test_105 rfl ?_
      refine q_iast dX12_test_106 (fun M30 h31 => ?_)
      refine q_aload_n 1 dX12_test_107 rfl ?_
      refine q_getR (f := 0) cl_X12 (by decide) qw_1117 rfl dX12_test_108 (fun _ _ _ => rfl) (fun v32 h33 => ?_)
      refine q_iload 0 dX12_test_111 rfl ?_
      refine q_iconst (x := (2 : Int32)) dX12_test_113 rfl ?_
      refine q_iadd dX12_test_114 ?_
      refine q_iload_n 4 dX12_test_115 rfl ?_
      refine q_iast dX12_test_116 (fun M34 h35 => ?_)
      refine q_aload_n 1 dX12_test_117 rfl ?_
      refine q_getR (f := 0) cl_X12 (by decide) qw_1117 rfl dX12_test_118 (fun _ _ _ => rfl) (fun v36 h37 => ?_)
      refine q_iload 0 dX12_test_121 rfl ?_
      refine q_iconst (x := (3 : Int32)) dX12_test_123 rfl ?_
      refine q_iadd dX12_test_124 ?_
      refine q_iload 5 dX12_test_125 rfl ?_
      refine q_iast dX12_test_127 (fun M38 h39 => ?_)
      refine q_aload_n 1 dX12_test_128 rfl ?_
      refine q_getR (f := 0) cl_X12 (by decide) qw_1117 rfl dX12_test_129 (fun _ _ _ => rfl) (fun v40 h41 => ?_)
      refine q_iload 0 dX12_test_132 rfl ?_
      refine q_iconst (x := (4 : Int32)) dX12_test_134 rfl ?_
      refine q_iadd dX12_test_135 ?_
      refine q_iload 6 dX12_test_136 rfl ?_
      refine q_iast dX12_test_138 (fun M42 h43 => ?_)
      refine q_aload_n 1 dX12_test_139 rfl ?_
      refine q_getR (f := 0) cl_X12 (by decide) qw_1117 rfl dX12_test_140 (fun _ _ _ => rfl) (fun v44 h45 => ?_)
      refine q_iload 0 dX12_test_143 rfl ?_
      refine q_iconst (x := (5 : Int32)) dX12_test_145 rfl ?_
      refine q_iadd dX12_test_146 ?_
      refine q_iconst (x := (-1 : Int32)) dX12_test_147 rfl ?_
      refine q_iast dX12_test_148 (fun M46 h47 => ?_)
      refine q_aload_n 1 dX12_test_149 rfl ?_
      refine q_getR (f := 0) cl_X12 (by decide) qw_1117 rfl dX12_test_150 (fun _ _ _ => rfl) (fun v48 h49 => ?_)
      refine q_iload 0 dX12_test_153 rfl ?_
      refine q_bipush (x := (6 : Int32)) dX12_test_155 rfl ?_
      refine q_iadd dX12_test_157 ?_
      refine q_iconst (x := (-1 : Int32)) dX12_test_158 rfl ?_
      refine q_iast dX12_test_159 (fun M50 h51 => ?_)
      refine q_aload_n 1 dX12_test_160 rfl ?_
      refine q_iconst (x := (2 : Int32)) dX12_test_161 rfl ?_
      refine q_cVMI (Y2 := Y_X12_more) (As := [.int (2 : Int32)]) (b := a0) (st := []) cl_X12 mv_X12_more qw_1217 dX12_test_162 ⟨Nat.le_of_ble_eq_true rfl, Nat.le_of_ble_eq_true rfl⟩ rfl (fun _ _ => rfl) (Nat.le_of_ble_eq_true rfl) ⟨Nat.le_of_ble_eq_true rfl, Nat.le_of_ble_eq_true rfl⟩ (fun r53 h52 => q_ob_is h52) (fun r53 h52 => m_X12_more h52) (fun r53 h52 => ?_)
      exact q_iret dX12_test_165 rfl rfl (Nat.le_of_ble_eq_true rfl) rfl
set_option maxRecDepth 20000 in
theorem m_X12_test {M : q_Mem} {a0 : Nat} {a1 : Int32} {a2 : Int32} {a3 : Int32} {a4 : Int32} {a5 : Int32} {x : (Int32 × q_Mem)} (h : f_X12_test M a0 a1 a2 a3 a4 a5 = some x) : q_C Y_X12_test [.ref a0, .int a1, .int a2, .int a3, .int a4, .int a5] M (some (.int x.1)) x.2 := by
  refine q_met (φ := (fun x : Int32 × q_Mem => (some (.int x.1), x.2))) (r := f_X12_test M a0 a1 a2 a3 a4 a5) (by decide +kernel) (Nat.le_of_ble_eq_true rfl) ?_ h (fun _ _ => rfl)
  show q_V Y_X12_test none (fun x : Int32 × q_Mem => (some (.int x.1), x.2)) 0 0 0 [(0, .ref a0), (1, .int a1), (2, .int a2), (3, .int a3), (4, .int a4), (5, .int a5)] [] M (f_X12_test M a0 a1 a2 a3 a4 a5)
  unfold f_X12_test
  refine q_obV ?_
  refine q_aload_n 0 dX12_test_0 rfl ?_
  refine q_iconst (x := (0 : Int32)) dX12_test_1 rfl ?_
  refine q_iload_n 1 dX12_test_2 rfl ?_
  refine q_cVI (Y2 := Y_X12_is) (As := [.int (0 : Int32), .int a1]) (b := a0) (st := []) cl_X12 mv_X12_is qw_1225 dX12_test_3 ⟨Nat.le_of_ble_eq_true rfl, Nat.le_of_ble_eq_true rfl⟩ rfl (fun _ _ => rfl) (Nat.le_of_ble_eq_true rfl) ⟨Nat.le_of_ble_eq_true rfl, Nat.le_of_ble_eq_true rfl⟩ (fun v2 h1 => q_ob_is h1) (fun v2 h1 => m_X12_is h1) (fun v2 h1 => ?_)
  refine q_if_eq (tgt := 56) dX12_test_6 (by decide) (fun c13 => ?_) (fun c13 => ?_)
  · refine q_bipush (x := (-2 : Int32)) dX12_test_56 rfl ?_
    exact q_iret dX12_test_58 rfl rfl (Nat.le_of_ble_eq_true rfl) rfl
  · refine q_iload_n 2 dX12_test_9 rfl ?_
    refine q_cSI (Y2 := Y_X12_isDay) (As := [.int a2]) (st := []) ms_X12_isDay qw_1233 dX12_test_10 ⟨Nat.le_of_ble_eq_true rfl, Nat.le_of_ble_eq_true rfl⟩ rfl (fun _ _ => rfl) (Nat.le_of_ble_eq_true rfl) ⟨Nat.le_of_ble_eq_true rfl, Nat.le_of_ble_eq_true rfl⟩ (fun v4 h3 => m_X12_isDay h3) (fun v4 h3 => ?_)
    refine q_if_eq (tgt := 56) dX12_test_13 (by decide) (fun c12 => ?_) (fun c12 => ?_)
    · refine q_bipush (x := (-2 : Int32)) dX12_test_56 rfl ?_
      exact q_iret dX12_test_58 rfl rfl (Nat.le_of_ble_eq_true rfl) rfl
    · refine q_iload_n 3 dX12_test_16 rfl ?_
      refine q_iconst (x := (0 : Int32)) dX12_test_17 rfl ?_
      refine q_iconst (x := (3 : Int32)) dX12_test_18 rfl ?_
      refine q_cSI (Y2 := Y_X12_in) (As := [.int a3, .int (0 : Int32), .int (3 : Int32)]) (st := []) ms_X12_in qw_1214 dX12_test_19 ⟨Nat.le_of_ble_eq_true rfl, Nat.le_of_ble_eq_true rfl⟩ rfl (fun _ _ => rfl) (Nat.le_of_ble_eq_true rfl) ⟨Nat.le_of_ble_eq_true rfl, Nat.le_of_ble_eq_true rfl⟩ (fun v6 h5 => m_X12_in h5) (fun v6 h5 => ?_)
      refine q_if_eq (tgt := 56) dX12_test_22 (by decide) (fun c11 => ?_) (fun c11 => ?_)
      · refine q_bipush (x := (-2 : Int32)) dX12_test_56 rfl ?_
        exact q_iret dX12_test_58 rfl rfl (Nat.le_of_ble_eq_true rfl) rfl
      · refine q_iload 4 dX12_test_25 rfl ?_
        refine q_iconst (x := (0 : Int32)) dX12_test_27 rfl ?_
        refine q_sipush (x := (1000 : Int32)) dX12_test_28 rfl ?_
        refine q_cSI (Y2 := Y_X12_in) (As := [.int a4, .int (0 : Int32), .int (1000 : Int32)]) (st := []) ms_X12_in qw_1214 dX12_test_31 ⟨Nat.le_of_ble_eq_true rfl, Nat.le_of_ble_eq_true rfl⟩ rfl (fun _ _ => rfl) (Nat.le_of_ble_eq_true rfl) ⟨Nat.le_of_ble_eq_true rfl, Nat.le_of_ble_eq_true rfl⟩ (fun v8 h7 => m_X12_in h7) (fun v8 h7 => ?_)
        refine q_if_ne (tgt := 44) dX12_test_34 (by decide) (fun c10 => ?_) (fun c10 => ?_)
        · refine q_iload 4 dX12_test_37 rfl ?_
          refine q_bipush (x := (-7 : Int32)) dX12_test_39 rfl ?_
          refine q_icmp_ne (tgt := 56) dX12_test_41 (by decide) (fun c9 => ?_) (fun c9 => ?_)
          · exact v_X12_test_b44
          · refine q_bipush (x := (-2 : Int32)) dX12_test_56 rfl ?_
            exact q_iret dX12_test_58 rfl rfl (Nat.le_of_ble_eq_true rfl) rfl
        · exact v_X12_test_b44
