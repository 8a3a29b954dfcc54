theorem dX12_digest_0 : decode cX12_digest 0 = .ok (.aload_n 0, 1) := by decide +kernel
theorem dX12_digest_1 : decode cX12_digest 1 = .ok (.ldc2_w 346, 3) := by decide +kernel
theorem dX12_digest_4 : decode cX12_digest 4 = .ok (.iconst 0, 1) := by decide +kernel
theorem dX12_digest_5 : decode cX12_digest 5 = .ok (.bipush 10, 2) := by decide +kernel
theorem dX12_digest_7 : decode cX12_digest 7 = .ok (.invokevirtual 348, 3) := by decide +kernel
theorem dX12_digest_10 : decode cX12_digest 10 = .ok (.lstore_n 1, 1) := by decide +kernel
theorem dX12_digest_11 : decode cX12_digest 11 = .ok (.aload_n 0, 1) := by decide +kernel
theorem dX12_digest_12 : decode cX12_digest 12 = .ok (.lload_n 1, 1) := by decide +kernel
theorem dX12_digest_13 : decode cX12_digest 13 = .ok (.bipush 20, 2) := by decide +kernel
theorem dX12_digest_15 : decode cX12_digest 15 = .ok (.iconst 4, 1) := by decide +kernel
theorem dX12_digest_16 : decode cX12_digest 16 = .ok (.aload_n 0, 1) := by decide +kernel
theorem dX12_digest_17 : decode cX12_digest 17 = .ok (.getfield 7, 3) := by decide +kernel
theorem dX12_digest_20 : decode cX12_digest 20 = .ok (.iconst 0, 1) := by decide +kernel
theorem dX12_digest_21 : decode cX12_digest 21 = .ok (.iaload, 1) := by decide +kernel
theorem dX12_digest_22 : decode cX12_digest 22 = .ok (.imul, 1) := by decide +kernel
theorem dX12_digest_23 : decode cX12_digest 23 = .ok (.invokevirtual 348, 3) := by decide +kernel
theorem dX12_digest_26 : decode cX12_digest 26 = .ok (.lstore_n 1, 1) := by decide +kernel
theorem dX12_digest_27 : decode cX12_digest 27 = .ok (.aload_n 0, 1) := by decide +kernel
theorem dX12_digest_28 : decode cX12_digest 28 = .ok (.lload_n 1, 1) := by decide +kernel
theorem dX12_digest_29 : decode cX12_digest 29 = .ok (.bipush 100, 2) := by decide +kernel
theorem dX12_digest_31 : decode cX12_digest 31 = .ok (.iconst 4, 1) := by decide +kernel
theorem dX12_digest_32 : decode cX12_digest 32 = .ok (.aload_n 0, 1) := by decide +kernel
theorem dX12_digest_33 : decode cX12_digest 33 = .ok (.getfield 7, 3) := by decide +kernel
theorem dX12_digest_36 : decode cX12_digest 36 = .ok (.iconst 1, 1) := by decide +kernel
theorem dX12_digest_37 : decode cX12_digest 37 = .ok (.iaload, 1) := by decide +kernel
theorem dX12_digest_38 : decode cX12_digest 38 = .ok (.imul, 1) := by decide +kernel
theorem dX12_digest_39 : decode cX12_digest 39 = .ok (.invokevirtual 348, 3) := by decide +kernel
theorem dX12_digest_42 : decode cX12_digest 42 = .ok (.lstore_n 1, 1) := by decide +kernel
theorem dX12_digest_43 : decode cX12_digest 43 = .ok (.aload_n 0, 1) := by decide +kernel
theorem dX12_digest_44 : decode cX12_digest 44 = .ok (.lload_n 1, 1) := by decide +kernel
theorem dX12_digest_45 : decode cX12_digest 45 = .ok (.sipush 1300, 3) := by decide +kernel
theorem dX12_digest_48 : decode cX12_digest 48 = .ok (.bipush 7, 2) := by decide +kernel
theorem dX12_digest_50 : decode cX12_digest 50 = .ok (.aload_n 0, 1) := by decide +kernel
theorem dX12_digest_51 : decode cX12_digest 51 = .ok (.getfield 7, 3) := by decide +kernel
theorem dX12_digest_54 : decode cX12_digest 54 = .ok (.iconst 2, 1) := by decide +kernel
theorem dX12_digest_55 : decode cX12_digest 55 = .ok (.iaload, 1) := by decide +kernel
theorem dX12_digest_56 : decode cX12_digest 56 = .ok (.imul, 1) := by decide +kernel
theorem dX12_digest_57 : decode cX12_digest 57 = .ok (.invokevirtual 348, 3) := by decide +kernel
theorem dX12_digest_60 : decode cX12_digest 60 = .ok (.lstore_n 1, 1) := by decide +kernel
theorem dX12_digest_61 : decode cX12_digest 61 = .ok (.aload_n 0, 1) := by decide +kernel
theorem dX12_digest_62 : decode cX12_digest 62 = .ok (.aload_n 0, 1) := by decide +kernel
theorem dX12_digest_63 : decode cX12_digest 63 = .ok (.lload_n 1, 1) := by decide +kernel
theorem dX12_digest_64 : decode cX12_digest 64 = .ok (.bipush 13, 2) := by decide +kernel
theorem dX12_digest_66 : decode cX12_digest 66 = .ok (.iconst 4, 1) := by decide +kernel
theorem dX12_digest_67 : decode cX12_digest 67 = .ok (.invokevirtual 348, 3) := by decide +kernel
theorem dX12_digest_70 : decode cX12_digest 70 = .ok (.bipush 10, 2) := by decide +kernel
theorem dX12_digest_72 : decode cX12_digest 72 = .ok (.iconst 1, 1) := by decide +kernel
theorem dX12_digest_73 : decode cX12_digest 73 = .ok (.invokevirtual 348, 3) := by decide +kernel
theorem dX12_digest_76 : decode cX12_digest 76 = .ok (.lstore_n 1, 1) := by decide +kernel
theorem dX12_digest_77 : decode cX12_digest 77 = .ok (.aload_n 0, 1) := by decide +kernel
theorem dX12_digest_78 : decode cX12_digest 78 = .ok (.lload_n 1, 1) := by decide +kernel
theorem dX12_digest_79 : decode cX12_digest 79 = .ok (.sipush 2700, 3) := by decide +kernel
theorem dX12_digest_82 : decode cX12_digest 82 = .ok (.iconst 3, 1) := by decide +kernel
theorem dX12_digest_83 : decode cX12_digest 83 = .ok (.aload_n 0, 1) := by decide +kernel
theorem dX12_digest_84 : decode cX12_digest 84 = .ok (.getfield 7, 3) := by decide +kernel
theorem dX12_digest_87 : decode cX12_digest 87 = .ok (.iconst 3, 1) := by decide +kernel
theorem dX12_digest_88 : decode cX12_digest 88 = .ok (.iaload, 1) := by decide +kernel
theorem dX12_digest_89 : decode cX12_digest 89 = .ok (.imul, 1) := by decide +kernel
theorem dX12_digest_90 : decode cX12_digest 90 = .ok (.invokevirtual 348, 3) := by decide +kernel
theorem dX12_digest_93 : decode cX12_digest 93 = .ok (.lstore_n 1, 1) := by decide +kernel
theorem dX12_digest_94 : decode cX12_digest 94 = .ok (.aload_n 0, 1) := by decide +kernel
theorem dX12_digest_95 : decode cX12_digest 95 = .ok (.lload_n 1, 1) := by decide +kernel
theorem dX12_digest_96 : decode cX12_digest 96 = .ok (.sipush 2820, 3) := by decide +kernel
theorem dX12_digest_99 : decode cX12_digest 99 = .ok (.iconst 5, 1) := by decide +kernel
theorem dX12_digest_100 : decode cX12_digest 100 = .ok (.aload_n 0, 1) := by decide +kernel
theorem dX12_digest_101 : decode cX12_digest 101 = .ok (.getfield 7, 3) := by decide +kernel
theorem dX12_digest_104 : decode cX12_digest 104 = .ok (.iconst 4, 1) := by decide +kernel
theorem dX12_digest_105 : decode cX12_digest 105 = .ok (.iaload, 1) := by decide +kernel
theorem dX12_digest_106 : decode cX12_digest 106 = .ok (.imul, 1) := by decide +kernel
theorem dX12_digest_107 : decode cX12_digest 107 = .ok (.invokevirtual 348, 3) := by decide +kernel
theorem dX12_digest_110 : decode cX12_digest 110 = .ok (.lstore_n 1, 1) := by decide +kernel
theorem dX12_digest_111 : decode cX12_digest 111 = .ok (.iconst 0, 1) := by decide +kernel
theorem dX12_digest_112 : decode cX12_digest 112 = .ok (.istore_n 3, 1) := by decide +kernel
theorem dX12_digest_113 : decode cX12_digest 113 = .ok (.iload_n 3, 1) := by decide +kernel
theorem dX12_digest_114 : decode cX12_digest 114 = .ok (.bipush 6, 2) := by decide +kernel
theorem dX12_digest_116 : decode cX12_digest 116 = .ok (.if_icmp .ge 38, 3) := by decide +kernel
theorem dX12_digest_119 : decode cX12_digest 119 = .ok (.aload_n 0, 1) := by decide +kernel
theorem dX12_digest_120 : decode cX12_digest 120 = .ok (.lload_n 1, 1) := by decide +kernel
theorem dX12_digest_121 : decode cX12_digest 121 = .ok (.sipush 3320, 3) := by decide +kernel
theorem dX12_digest_124 : decode cX12_digest 124 = .ok (.bipush 61, 2) := by decide +kernel
theorem dX12_digest_126 : decode cX12_digest 126 = .ok (.iload_n 3, 1) := by decide +kernel
theorem dX12_digest_127 : decode cX12_digest 127 = .ok (.imul, 1) := by decide +kernel
theorem dX12_digest_128 : decode cX12_digest 128 = .ok (.iadd, 1) := by decide +kernel
theorem dX12_digest_129 : decode cX12_digest 129 = .ok (.iconst 1, 1) := by decide +kernel
theorem dX12_digest_130 : decode cX12_digest 130 = .ok (.aload_n 0, 1) := by decide +kernel
theorem dX12_digest_131 : decode cX12_digest 131 = .ok (.getfield 7, 3) := by decide +kernel
theorem dX12_digest_134 : decode cX12_digest 134 = .ok (.sipush 3320, 3) := by decide +kernel
theorem dX12_digest_137 : decode cX12_digest 137 = .ok (.bipush 61, 2) := by decide +kernel
theorem dX12_digest_139 : decode cX12_digest 139 = .ok (.iload_n 3, 1) := by decide +kernel
theorem dX12_digest_140 : decode cX12_digest 140 = .ok (.imul, 1) := by decide +kernel
theorem dX12_digest_141 : decode cX12_digest 141 = .ok (.iadd, 1) := by decide +kernel
theorem dX12_digest_142 : decode cX12_digest 142 = .ok (.iaload, 1) := by decide +kernel
theorem dX12_digest_143 : decode cX12_digest 143 = .ok (.iadd, 1) := by decide +kernel
theorem dX12_digest_144 : decode cX12_digest 144 = .ok (.invokevirtual 348, 3) := by decide +kernel
theorem dX12_digest_147 : decode cX12_digest 147 = .ok (.lstore_n 1, 1) := by decide +kernel
theorem dX12_digest_148 : decode cX12_digest 148 = .ok (.iinc 3 1, 3) := by decide +kernel
theorem dX12_digest_151 : decode cX12_digest 151 = .ok (.goto (-38), 3) := by decide +kernel
theorem dX12_digest_154 : decode cX12_digest 154 = .ok (.iconst 0, 1) := by decide +kernel
theorem dX12_digest_155 : decode cX12_digest 155 = .ok (.istore_n 3, 1) := by decide +kernel
theorem dX12_digest_156 : decode cX12_digest 156 = .ok (.iload_n 3, 1) := by decide +kernel
theorem dX12_digest_157 : decode cX12_digest 157 = .ok (.aload_n 0, 1) := by decide +kernel
theorem dX12_digest_158 : decode cX12_digest 158 = .ok (.getfield 7, 3) := by decide +kernel
theorem dX12_digest_161 : decode cX12_digest 161 = .ok (.iconst 5, 1) := by decide +kernel
theorem dX12_digest_162 : decode cX12_digest 162 = .ok (.iaload, 1) := by decide +kernel
theorem dX12_digest_163 : decode cX12_digest 163 = .ok (.if_icmp .ge 39, 3) := by decide +kernel
theorem dX12_digest_166 : decode cX12_digest 166 = .ok (.iconst 0, 1) := by decide +kernel
theorem dX12_digest_167 : decode cX12_digest 167 = .ok (.istore 4, 2) := by decide +kernel
theorem dX12_digest_169 : decode cX12_digest 169 = .ok (.iload 4, 2) := by decide +kernel
theorem dX12_digest_171 : decode cX12_digest 171 = .ok (.iconst 5, 1) := by decide +kernel
theorem dX12_digest_172 : decode cX12_digest 172 = .ok (.if_icmp .ge 24, 3) := by decide +kernel
theorem dX12_digest_175 : decode cX12_digest 175 = .ok (.ldc2_w 344, 3) := by decide +kernel
theorem dX12_digest_178 : decode cX12_digest 178 = .ok (.lload_n 1, 1) := by decide +kernel
theorem dX12_digest_179 : decode cX12_digest 179 = .ok (.lmul, 1) := by decide +kernel
theorem dX12_digest_180 : decode cX12_digest 180 = .ok (.aload_n 0, 1) := by decide +kernel
theorem dX12_digest_181 : decode cX12_digest 181 = .ok (.iload_n 3, 1) := by decide +kernel
theorem dX12_digest_182 : decode cX12_digest 182 = .ok (.iload 4, 2) := by decide +kernel
theorem dX12_digest_184 : decode cX12_digest 184 = .ok (.invokevirtual 259, 3) := by decide +kernel
theorem dX12_digest_187 : decode cX12_digest 187 = .ok (.i2l, 1) := by decide +kernel
theorem dX12_digest_188 : decode cX12_digest 188 = .ok (.ladd, 1) := by decide +kernel
theorem dX12_digest_189 : decode cX12_digest 189 = .ok (.lstore_n 1, 1) := by decide +kernel
theorem dX12_digest_190 : decode cX12_digest 190 = .ok (.iinc 4 1, 3) := by decide +kernel
theorem dX12_digest_193 : decode cX12_digest 193 = .ok (.goto (-24), 3) := by decide +kernel
theorem dX12_digest_196 : decode cX12_digest 196 = .ok (.iinc 3 1, 3) := by decide +kernel
theorem dX12_digest_199 : decode cX12_digest 199 = .ok (.goto (-43), 3) := by decide +kernel
theorem dX12_digest_202 : decode cX12_digest 202 = .ok (.lload_n 1, 1) := by decide +kernel
theorem dX12_digest_203 : decode cX12_digest 203 = .ok (.lreturn, 1) := by decide +kernel
def f_X12_digest_b169 (kk156 : Int64 → Int32 → Option Int64) (M : q_Mem) (a0 : Nat) (a3 : Int32) : Nat → Int64 → Int32 → Option Int64
  | 0, _, _ => none
  | n + 1, a1, a4 =>
    (if a4 < (5 : Int32) then
      (f_X12_motionOf M a0 a3 a4).bind fun v50 =>
      f_X12_digest_b169 kk156 M a0 a3 n (((31 : Int64) * a1) + v50.toInt64) (a4 + (1 : Int32))
    else
      kk156 a1 (a3 + (1 : Int32)))
def f_X12_digest_b156 (M : q_Mem) (a0 : Nat) : Nat → Int64 → Int32 → Option Int64
  | 0, _, _ => none
  | n + 1, a1, a3 =>
    (q_gR 11 0 M a0).bind fun v44 =>
    (q_lI M v44 (5 : Int32)).bind fun v46 =>
    (if a3 < v46 then
      f_X12_digest_b169 (f_X12_digest_b156 M a0 n) M a0 a3 q_fuel a1 (0 : Int32)
    else
      some a1)
def f_X12_digest_b113 (M : q_Mem) (a0 : Nat) : Nat → Int64 → Int32 → Option Int64
  | 0, _, _ => none
  | n + 1, a1, a3 =>
    (if a3 < (6 : Int32) then
      (q_gR 11 0 M a0).bind fun v37 =>
      (q_lI M v37 ((3320 : Int32) + ((61 : Int32) * a3))).bind fun v39 =>
      (f_X12_mixed M a0 a1 ((3320 : Int32) + ((61 : Int32) * a3)) ((1 : Int32) + v39)).bind fun v42 =>
      f_X12_digest_b113 M a0 n v42 (a3 + (1 : Int32))
    else
      f_X12_digest_b156 M a0 q_fuel a1 (0 : Int32))
def f_X12_digest (M : q_Mem) (a0 : Nat) : Option Int64 :=
  q_ob 11 M a0 ((f_X12_mixed M a0 (281 : Int64) (0 : Int32) (10 : Int32)).bind fun v2 =>
  (q_gR 11 0 M a0).bind fun v3 =>
  (q_lI M v3 (0 : Int32)).bind fun v5 =>
  (f_X12_mixed M a0 v2 (20 : Int32) ((4 : Int32) * v5)).bind fun v8 =>
  (q_gR 11 0 M a0).bind fun v9 =>
  (q_lI M v9 (1 : Int32)).bind fun v11 =>
  (f_X12_mixed M a0 v8 (100 : Int32) ((4 : Int32) * v11)).bind fun v14 =>
  (q_gR 11 0 M a0).bind fun v15 =>
  (q_lI M v15 (2 : Int32)).bind fun v17 =>
  (f_X12_mixed M a0 v14 (1300 : Int32) ((7 : Int32) * v17)).bind fun v20 =>
  (f_X12_mixed M a0 v20 (13 : Int32) (4 : Int32)).bind fun v22 =>
  (f_X12_mixed M a0 v22 (10 : Int32) (1 : Int32)).bind fun v24 =>
  (q_gR 11 0 M a0).bind fun v25 =>
  (q_lI M v25 (3 : Int32)).bind fun v27 =>
  (f_X12_mixed M a0 v24 (2700 : Int32) ((3 : Int32) * v27)).bind fun v30 =>
  (q_gR 11 0 M a0).bind fun v31 =>
  (q_lI M v31 (4 : Int32)).bind fun v33 =>
  (f_X12_mixed M a0 v30 (2820 : Int32) ((5 : Int32) * v33)).bind fun v36 =>
  f_X12_digest_b113 M a0 q_fuel v36 (0 : Int32))
set_option maxRecDepth 20000 in
theorem v_X12_digest_b169 {kk156 : Int64 → Int32 → Option Int64} {M : q_Mem} {a0 : Nat} {a3 : Int32} (hk156 : ∀ (a1 : Int64) (a3 : Int32), q_V Y_X12_digest none (fun x : Int64 => (some (.long x), M)) 0 0 156 [(0, .ref a0), (1, .long a1), (3, .int a3)] [] M (kk156 a1 a3)) : ∀ (n : Nat) (a1 : Int64) (a4 : Int32), q_V Y_X12_digest none (fun x : Int64 => (some (.long x), M)) 0 0 169 [(0, .ref a0), (1, .long a1), (3, .int a3), (4, .int a4)] [] M (f_X12_digest_b169 kk156 M a0 a3 n a1 a4) := by
  intro n
  induction n with
  | zero => intro a1 a4; exact q_none
  | succ n ih =>
    intro a1 a4
    rw [f_X12_digest_b169.eq_2]
    refine q_iload 3 dX12_digest_169 rfl ?_
    refine q_iconst (x := (5 : Int32)) dX12_digest_171 rfl ?_
    refine q_icmp_ge (tgt := 196) dX12_digest_172 (by decide) (fun c51 => ?_) (fun c51 => ?_)
    · refine q_ldc2 (x := (31 : Int64)) qw_1692 dX12_digest_175 ?_
      refine q_lload_n 1 dX12_digest_178 rfl ?_
      refine q_lmul dX12_digest_179 ?_
      refine q_aload_n 0 dX12_digest_180 rfl ?_
      refine q_iload_n 2 dX12_digest_181 rfl ?_
      refine q_iload 3 dX12_digest_182 rfl ?_
      refine q_cVI (Y2 := Y_X12_motionOf) (As := [.int a3, .int a4]) (b := a0) (st := [.long ((31 : Int64) * a1)]) cl_X12 mv_X12_motionOf qw_1495 dX12_digest_184 ⟨Nat.le_of_ble_eq_true rfl, Nat.le_of_ble_eq_true rfl⟩ rfl (fun _ _ => rfl) (Nat.le_of_ble_eq_true rfl) ⟨Nat.le_of_ble_eq_true rfl, Nat.le_of_ble_eq_true rfl⟩ (fun v50 h49 => q_ob_is h49) (fun v50 h49 => m_X12_motionOf h49) (fun v50 h49 => ?_)
      refine q_i2l dX12_digest_187 ?_
      refine q_ladd dX12_digest_188 ?_
      refine q_lstore_n (ls' := [(1, .long (((31 : Int64) * a1) + v50.toInt64)), (0, .ref a0), (3, .int a3), (4, .int a4)]) dX12_digest_189 (by decide) rfl ?_
      refine q_iinc 3 (y := (a4 + (1 : Int32))) (ls' := [(4, .int (a4 + (1 : Int32))), (1, .long (((31 : Int64) * a1) + v50.toInt64)), (0, .ref a0), (3, .int a3)]) dX12_digest_190 rfl rfl (by decide) rfl ?_
      refine q_goto (tgt := 169) dX12_digest_193 (by decide) ?_
      refine q_sub (ls' := [(0, .ref a0), (1, .long (((31 : Int64) * a1) + v50.toInt64)), (3, .int a3), (4, .int (a4 + (1 : Int32)))]) [2, 1, 3, 0] rfl ?_
      exact ih _ _
    · refine q_iinc 2 (y := (a3 + (1 : Int32))) (ls' := [(3, .int (a3 + (1 : Int32))), (0, .ref a0), (1, .long a1), (4, .int a4)]) dX12_digest_196 rfl rfl (by decide) rfl ?_
      refine q_goto (tgt := 156) dX12_digest_199 (by decide) ?_
      refine q_sub (ls' := [(0, .ref a0), (1, .long a1), (3, .int (a3 + (1 : Int32)))]) [1, 2, 0] rfl ?_
      exact hk156 _ _
set_option maxRecDepth 20000 in
theorem v_X12_digest_b156 {M : q_Mem} {a0 : Nat}  : ∀ (n : Nat) (a1 : Int64) (a3 : Int32), q_V Y_X12_digest none (fun x : Int64 => (some (.long x), M)) 0 0 156 [(0, .ref a0), (1, .long a1), (3, .int a3)] [] M (f_X12_digest_b156 M a0 n a1 a3) := by
  intro n
  induction n with
  | zero => intro a1 a3; exact q_none
  | succ n ih =>
    intro a1 a3
    rw [f_X12_digest_b156.eq_2]
    refine q_iload_n 2 dX12_digest_156 rfl ?_
    refine q_aload_n 0 dX12_digest_157 rfl ?_
    refine q_getR (f := 0) cl_X12 (by decide) qw_1117 rfl dX12_digest_158 (fun _ _ _ => rfl) (fun v44 h45 => ?_)
    refine q_iconst (x := (5 : Int32)) dX12_digest_161 rfl ?_
    refine q_iald dX12_digest_162 (fun v46 h47 => ?_)
    refine q_icmp_ge (tgt := 202) dX12_digest_163 (by decide) (fun c48 => ?_) (fun c48 => ?_)
    · refine q_iconst (x := (0 : Int32)) dX12_digest_166 rfl ?_
      refine q_istore (ls' := [(4, .int (0 : Int32)), (0, .ref a0), (1, .long a1), (3, .int a3)]) dX12_digest_167 (by decide) rfl ?_
      refine q_sub (ls' := [(0, .ref a0), (1, .long a1), (3, .int a3), (4, .int (0 : Int32))]) [1, 2, 3, 0] rfl ?_
      exact v_X12_digest_b169 (ih) _ _ _
    · refine q_lload_n 1 dX12_digest_202 rfl ?_
      exact q_lret dX12_digest_203 rfl rfl (Nat.le_of_ble_eq_true rfl) rfl
set_option maxRecDepth 20000 in
theorem v_X12_digest_b113 {M : q_Mem} {a0 : Nat}  : ∀ (n : Nat) (a1 : Int64) (a3 : Int32), q_V Y_X12_digest none (fun x : Int64 => (some (.long x), M)) 0 0 113 [(0, .ref a0), (1, .long a1), (3, .int a3)] [] M (f_X12_digest_b113 M a0 n a1 a3) := by
  intro n
  induction n with
  | zero => intro a1 a3; exact q_none
  | succ n ih =>
    intro a1 a3
    rw [f_X12_digest_b113.eq_2]
    refine q_iload_n 2 dX12_digest_113 rfl ?_
    refine q_bipush (x := (6 : Int32)) dX12_digest_114 rfl ?_
    refine q_icmp_ge (tgt := 154) dX12_digest_116 (by decide) (fun c43 => ?_) (fun c43 => ?_)
    · refine q_aload_n 0 dX12_digest_119 rfl ?_
      refine q_lload_n 1 dX12_digest_120 rfl ?_
      refine q_sipush (x := (3320 : Int32)) dX12_digest_121 rfl ?_
      refine q_bipush (x := (61 : Int32)) dX12_digest_124 rfl ?_
      refine q_iload_n 2 dX12_digest_126 rfl ?_
      refine q_imul dX12_digest_127 ?_
      refine q_iadd dX12_digest_128 ?_
      refine q_iconst (x := (1 : Int32)) dX12_digest_129 rfl ?_
      refine q_aload_n 0 dX12_digest_130 rfl ?_
      refine q_getR (f := 0) cl_X12 (by decide) qw_1117 rfl dX12_digest_131 (fun _ _ _ => rfl) (fun v37 h38 => ?_)
      refine q_sipush (x := (3320 : Int32)) dX12_digest_134 rfl ?_
      refine q_bipush (x := (61 : Int32)) dX12_digest_137 rfl ?_
      refine q_iload_n 2 dX12_digest_139 rfl ?_
      refine q_imul dX12_digest_140 ?_
      refine q_iadd dX12_digest_141 ?_
      refine q_iald dX12_digest_142 (fun v39 h40 => ?_)
      refine q_iadd dX12_digest_143 ?_
      refine q_cVJ (Y2 := Y_X12_mixed) (As := [.long a1, .int ((3320 : Int32) + ((61 : Int32) * a3)), .int ((1 : Int32) + v39)]) (b := a0) (st := []) cl_X12 mv_X12_mixed qw_1688 dX12_digest_144 ⟨Nat.le_of_ble_eq_true rfl, Nat.le_of_ble_eq_true rfl⟩ rfl (fun _ _ => rfl) (Nat.le_of_ble_eq_true rfl) ⟨Nat.le_of_ble_eq_true rfl, Nat.le_of_ble_eq_true rfl⟩ (fun v42 h41 => q_ob_is h41) (fun v42 h41 => m_X12_mixed h41) (fun v42 h41 => ?_)
      refine q_lstore_n (ls' := [(1, .long v42), (0, .ref a0), (3, .int a3)]) dX12_digest_147 (by decide) rfl ?_
      refine q_iinc 2 (y := (a3 + (1 : Int32))) (ls' := [(3, .int (a3 + (1 : Int32))), (1, .long v42), (0, .ref a0)]) dX12_digest_148 rfl rfl (by decide) rfl ?_
      refine q_goto (tgt := 113) dX12_digest_151 (by decide) ?_
      refine q_sub (ls' := [(0, .ref a0), (1, .long v42), (3, .int (a3 + (1 : Int32)))]) [2, 1, 0] rfl ?_
      exact ih _ _
    · refine q_iconst (x := (0 : Int32)) dX12_digest_154 rfl ?_
      refine q_istore_n (ls' := [(3, .int (0 : Int32)), (0, .ref a0), (1, .long a1)]) dX12_digest_155 (by decide) rfl ?_
      refine q_sub (ls' := [(0, .ref a0), (1, .long a1), (3, .int (0 : Int32))]) [1, 2, 0] rfl ?_
      exact v_X12_digest_b156 _ _ _
set_option maxRecDepth 20000 in
theorem m_X12_digest {M : q_Mem} {a0 : Nat} {x : Int64} (h : f_X12_digest M a0 = some x) : q_C Y_X12_digest [.ref a0] M (some (.long x)) M := by
  refine q_met (φ := (fun x : Int64 => (some (.long x), M))) (r := f_X12_digest M a0) (by decide +kernel) (Nat.le_of_ble_eq_true rfl) ?_ h (fun _ _ => rfl)
  show q_V Y_X12_digest none (fun x : Int64 => (some (.long x), M)) 0 0 0 [(0, .ref a0)] [] M (f_X12_digest M a0)
  unfold f_X12_digest
  refine q_obV ?_
  refine q_aload_n 0 dX12_digest_0 rfl ?_
  refine q_ldc2 (x := (281 : Int64)) qw_1687 dX12_digest_1 ?_
  refine q_iconst (x := (0 : Int32)) dX12_digest_4 rfl ?_
  refine q_bipush (x := (10 : Int32)) dX12_digest_5 rfl ?_
  refine q_cVJ (Y2 := Y_X12_mixed) (As := [.long (281 : Int64), .int (0 : Int32), .int (10 : Int32)]) (b := a0) (st := []) cl_X12 mv_X12_mixed qw_1688 dX12_digest_7 ⟨Nat.le_of_ble_eq_true rfl, Nat.le_of_ble_eq_true rfl⟩ rfl (fun _ _ => rfl) (Nat.le_of_ble_eq_true rfl) ⟨Nat.le_of_ble_eq_true rfl, Nat.le_of_ble_eq_true rfl⟩ (fun v2 h1 => q_ob_is h1) (fun v2 h1 => m_X12_mixed h1) (fun v2 h1 => ?_)
  refine q_lstore_n (ls' := [(1, .long v2), (0, .ref a0)]) dX12_digest_10 (by decide) rfl ?_
  refine q_aload_n 1 dX12_digest_11 rfl ?_
  refine q_lload_n 0 dX12_digest_12 rfl ?_
  refine q_bipush (x := (20 : Int32)) dX12_digest_13 rfl ?_
  refine q_iconst (x := (4 : Int32)) dX12_digest_15 rfl ?_
  refine q_aload_n 1 dX12_digest_16 rfl ?_
  refine q_getR (f := 0) cl_X12 (by decide) qw_1117 rfl dX12_digest_17 (fun _ _ _ => rfl) (fun v3 h4 => ?_)
  refine q_iconst (x := (0 : Int32)) dX12_digest_20 rfl ?_
  refine q_iald dX12_digest_21 (fun v5 h6 => ?_)
  refine q_imul dX12_digest_22 ?_
  refine q_cVJ (Y2 := Y_X12_mixed) (As := [.long v2, .int (20 : Int32), .int ((4 : Int32) * v5)]) (b := a0) (st := []) cl_X12 mv_X12_mixed qw_1688 dX12_digest_23 ⟨Nat.le_of_ble_eq_true rfl, Nat.le_of_ble_eq_true rfl⟩ rfl (fun _ _ => rfl) (Nat.le_of_ble_eq_true rfl) ⟨Nat.le_of_ble_eq_true rfl, Nat.le_of_ble_eq_true rfl⟩ (fun v8 h7 => q_ob_is h7) (fun v8 h7 => m_X12_mixed h7) (fun v8 h7 => ?_)
  refine q_lstore_n (ls' := [(1, .long v8), (0, .ref a0)]) dX12_digest_26 (by decide) rfl ?_
  refine q_aload_n 1 dX12_digest_27 rfl ?_
  refine q_lload_n 0 dX12_digest_28 rfl ?_
  refine q_bipush (x := (100 : Int32)) dX12_digest_29 rfl ?_
  refine q_iconst (x := (4 : Int32)) dX12_digest_31 rfl ?_
  refine q_aload_n 1 dX12_digest_32 rfl ?_
  refine q_getR (f := 0) cl_X12 (by decide) qw_1117 rfl dX12_digest_33 (fun _ _ _ => rfl) (fun v9 h10 => ?_)
  refine q_iconst (x := (1 : Int32)) dX12_digest_36 rfl ?_
  refine q_iald dX12_digest_37 (fun v11 h12 => ?_)
  refine q_imul dX12_digest_38 ?_
  refine q_cVJ (Y2 := Y_X12_mixed) (As := [.long v8, .int (100 : Int32), .int ((4 : Int32) * v11)]) (b := a0) (st := []) cl_X12 mv_X12_mixed qw_1688 dX12_digest_39 ⟨Nat.le_of_ble_eq_true rfl, Nat.le_of_ble_eq_true rfl⟩ rfl (fun _ _ => rfl) (Nat.le_of_ble_eq_true rfl) ⟨Nat.le_of_ble_eq_true rfl, Nat.le_of_ble_eq_true rfl⟩ (fun v14 h13 => q_ob_is h13) (fun v14 h13 => m_X12_mixed h13) (fun v14 h13 => ?_)
  refine q_lstore_n (ls' := [(1, .long v14), (0, .ref a0)]) dX12_digest_42 (by decide) rfl ?_
  refine q_aload_n 1 dX12_digest_43 rfl ?_
  refine q_lload_n 0 dX12_digest_44 rfl ?_
  refine q_sipush (x := (1300 : Int32)) dX12_digest_45 rfl ?_
  refine q_bipush (x := (7 : Int32)) dX12_digest_48 rfl ?_
  refine q_aload_n 1 dX12_digest_50 rfl ?_
  refine q_getR (f := 0) cl_X12 (by decide) qw_1117 rfl dX12_digest_51 (fun _ _ _ => rfl) (fun v15 h16 => ?_)
  refine q_iconst (x := (2 : Int32)) dX12_digest_54 rfl ?_
  refine q_iald dX12_digest_55 (fun v17 h18 => ?_)
  refine q_imul dX12_digest_56 ?_
  refine q_cVJ (Y2 := Y_X12_mixed) (As := [.long v14, .int (1300 : Int32), .int ((7 : Int32) * v17)]) (b := a0) (st := []) cl_X12 mv_X12_mixed qw_1688 dX12_digest_57 ⟨Nat.le_of_ble_eq_true rfl, Nat.le_of_ble_eq_true rfl⟩ rfl (fun _ _ => rfl) (Nat.le_of_ble_eq_true rfl) ⟨Nat.le_of_ble_eq_true rfl, Nat.le_of_ble_eq_true rfl⟩ (fun v20 h19 => q_ob_is h19) (fun v20 h19 => m_X12_mixed h19) (fun v20 h19 => ?_)
  refine q_lstore_n (ls' := [(1, .long v20), (0, .ref a0)]) dX12_digest_60 (by decide) rfl ?_
  refine q_aload_n 1 dX12_digest_61 rfl ?_
  refine q_aload_n 1 dX12_digest_62 rfl ?_
  refine q_lload_n 0 dX12_digest_63 rfl ?_
  refine q_bipush (x := (13 : Int32)) dX12_digest_64 rfl ?_
  refine q_iconst (x := (4 : Int32)) dX12_digest_66 rfl ?_
  refine q_cVJ (Y2 := Y_X12_mixed) (As := [.long v20, .int (13 : Int32), .int (4 : Int32)]) (b := a0) (st := [.ref a0]) cl_X12 mv_X12_mixed qw_1688 dX12_digest_67 ⟨Nat.le_of_ble_eq_true rfl, Nat.le_of_ble_eq_true rfl⟩ rfl (fun _ _ => rfl) (Nat.le_of_ble_eq_true rfl) ⟨Nat.le_of_ble_eq_true rfl, Nat.le_of_ble_eq_true rfl⟩ (fun v22 h21 => q_ob_is h21) (fun v22 h21 => m_X12_mixed h21) (fun v22 h21 => ?_)
  refine q_bipush (x := (10 : Int32)) dX12_digest_70 rfl ?_
  refine q_iconst (x := (1 : Int32)) dX12_digest_72 rfl ?_
  refine q_cVJ (Y2 := Y_X12_mixed) (As := [.long v22, .int (10 : Int32), .int (1 : Int32)]) (b := a0) (st := []) cl_X12 mv_X12_mixed qw_1688 dX12_digest_73 ⟨Nat.le_of_ble_eq_true rfl, Nat.le_of_ble_eq_true rfl⟩ rfl (fun _ _ => rfl) (Nat.le_of_ble_eq_true rfl) ⟨Nat.le_of_ble_eq_true rfl, Nat.le_of_ble_eq_true rfl⟩ (fun v24 h23 => q_ob_is h23) (fun v24 h23 => m_X12_mixed h23) (fun v24 h23 => ?_)
  refine q_lstore_n (ls' := [(1, .long v24), (0, .ref a0)]) dX12_digest_76 (by decide) rfl ?_
  refine q_aload_n 1 dX12_digest_77 rfl ?_
  refine q_lload_n 0 dX12_digest_78 rfl ?_
  refine q_sipush (x := (2700 : Int32)) dX12_digest_79 rfl ?_
  refine q_iconst (x := (3 : Int32)) dX12_digest_82 rfl ?_
  refine q_aload_n 1 dX12_digest_83 rfl ?_
  refine q_getR (f := 0) cl_X12 (by decide) qw_1117 rfl dX12_digest_84 (fun _ _ _ => rfl) (fun v25 h26 => ?_)
  refine q_iconst (x := (3 : Int32)) dX12_digest_87 rfl ?_
  refine q_iald dX12_digest_88 (fun v27 h28 => ?_)
  refine q_imul dX12_digest_89 ?_
  refine q_cVJ (Y2 := Y_X12_mixed) (As := [.long v24, .int (2700 : Int32), .int ((3 : Int32) * v27)]) (b := a0) (st := []) cl_X12 mv_X12_mixed qw_1688 dX12_digest_90 ⟨Nat.le_of_ble_eq_true rfl, Nat.le_of_ble_eq_true rfl⟩ rfl (fun _ _ => rfl) (Nat.le_of_ble_eq_true rfl) ⟨Nat.le_of_ble_eq_true rfl, Nat.le_of_ble_eq_true rfl⟩ (fun v30 h29 => q_ob_is h29) (fun v30 h29 => m_X12_mixed h29) (fun v30 h29 => ?_)
  refine q_lstore_n (ls' := [(1, .long v30), (0, .ref a0)]) dX12_digest_93 (by decide) rfl ?_
  refine q_aload_n 1 dX12_digest_94 rfl ?_
  refine q_lload_n 0 dX12_digest_95 rfl ?_
  refine q_sipush (x := (2820 : Int32)) dX12_digest_96 rfl ?_
  refine q_iconst (x := (5 : Int32)) dX12_digest_99 rfl ?_
  refine q_aload_n 1 dX12_digest_100 rfl ?_
  refine q_getR (f := 0) cl_X12 (by decide) qw_1117 rfl dX12_digest_101 (fun _ _ _ => rfl) (fun v31 h32 => ?_)
  refine q_iconst (x := (4 : Int32)) dX12_digest_104 rfl ?_
  refine q_iald dX12_digest_105 (fun v33 h34 => ?_)
  refine q_imul dX12_digest_106 ?_
  refine q_cVJ (Y2 := Y_X12_mixed) (As := [.long v30, .int (2820 : Int32), .int ((5 : Int32) * v33)]) (b := a0) (st := []) cl_X12 mv_X12_mixed qw_1688 dX12_digest_107 ⟨Nat.le_of_ble_eq_true rfl, Nat.le_of_ble_eq_true rfl⟩ rfl (fun _ _ => rfl) (Nat.le_of_ble_eq_true rfl) ⟨Nat.le_of_ble_eq_true rfl, Nat.le_of_ble_eq_true rfl⟩ (fun v36 h35 => q_ob_is h35) (fun v36 h35 => m_X12_mixed h35) (fun v36 h35 => ?_)
  refine q_lstore_n (ls' := [(1, .long v36), (0, .ref a0)]) dX12_digest_110 (by decide) rfl ?_
  refine q_iconst (x := (0 : Int32)) dX12_digest_111 rfl ?_
  refine q_istore_n (ls' := [(3, .int (0 : Int32)), (1, .long v36), (0, .ref a0)]) dX12_digest_112 (by decide) rfl ?_
  refine q_sub (ls' := [(0, .ref a0), (1, .long v36), (3, .int (0 : Int32))]) [2, 1, 0] rfl ?_
  exact v_X12_digest_b113 _ _ _
