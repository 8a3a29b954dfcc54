theorem dX12_weighs_0 : decode cX12_weighs 0 = .ok (.iconst 0, 1) := by decide +kernel
theorem dX12_weighs_1 : decode cX12_weighs 1 = .ok (.istore_n 3, 1) := by decide +kernel
theorem dX12_weighs_2 : decode cX12_weighs 2 = .ok (.iconst 0, 1) := by decide +kernel
theorem dX12_weighs_3 : decode cX12_weighs 3 = .ok (.istore 4, 2) := by decide +kernel
theorem dX12_weighs_5 : decode cX12_weighs 5 = .ok (.iload 4, 2) := by decide +kernel
theorem dX12_weighs_7 : decode cX12_weighs 7 = .ok (.bipush 10, 2) := by decide +kernel
theorem dX12_weighs_9 : decode cX12_weighs 9 = .ok (.if_icmp .ge 17, 3) := by decide +kernel
theorem dX12_weighs_12 : decode cX12_weighs 12 = .ok (.aload_n 0, 1) := by decide +kernel
theorem dX12_weighs_13 : decode cX12_weighs 13 = .ok (.getfield 75, 3) := by decide +kernel
theorem dX12_weighs_16 : decode cX12_weighs 16 = .ok (.iload 4, 2) := by decide +kernel
theorem dX12_weighs_18 : decode cX12_weighs 18 = .ok (.iconst 0, 1) := by decide +kernel
theorem dX12_weighs_19 : decode cX12_weighs 19 = .ok (.iastore, 1) := by decide +kernel
theorem dX12_weighs_20 : decode cX12_weighs 20 = .ok (.iinc 4 1, 3) := by decide +kernel
theorem dX12_weighs_23 : decode cX12_weighs 23 = .ok (.goto (-18), 3) := by decide +kernel
theorem dX12_weighs_26 : decode cX12_weighs 26 = .ok (.iconst 0, 1) := by decide +kernel
theorem dX12_weighs_27 : decode cX12_weighs 27 = .ok (.istore 4, 2) := by decide +kernel
theorem dX12_weighs_29 : decode cX12_weighs 29 = .ok (.iload 4, 2) := by decide +kernel
theorem dX12_weighs_31 : decode cX12_weighs 31 = .ok (.iload_n 1, 1) := by decide +kernel
theorem dX12_weighs_32 : decode cX12_weighs 32 = .ok (.if_icmp .ge 55, 3) := by decide +kernel
theorem dX12_weighs_35 : decode cX12_weighs 35 = .ok (.aload_n 0, 1) := by decide +kernel
theorem dX12_weighs_36 : decode cX12_weighs 36 = .ok (.getfield 75, 3) := by decide +kernel
theorem dX12_weighs_39 : decode cX12_weighs 39 = .ok (.aload_n 0, 1) := by decide +kernel
theorem dX12_weighs_40 : decode cX12_weighs 40 = .ok (.getfield 66, 3) := by decide +kernel
theorem dX12_weighs_43 : decode cX12_weighs 43 = .ok (.iload 4, 2) := by decide +kernel
theorem dX12_weighs_45 : decode cX12_weighs 45 = .ok (.iaload, 1) := by decide +kernel
theorem dX12_weighs_46 : decode cX12_weighs 46 = .ok (.dup2, 1) := by decide +kernel
theorem dX12_weighs_47 : decode cX12_weighs 47 = .ok (.iaload, 1) := by decide +kernel
theorem dX12_weighs_48 : decode cX12_weighs 48 = .ok (.iconst 1, 1) := by decide +kernel
theorem dX12_weighs_49 : decode cX12_weighs 49 = .ok (.iload 4, 2) := by decide +kernel
theorem dX12_weighs_51 : decode cX12_weighs 51 = .ok (.ishl, 1) := by decide +kernel
theorem dX12_weighs_52 : decode cX12_weighs 52 = .ok (.ior, 1) := by decide +kernel
theorem dX12_weighs_53 : decode cX12_weighs 53 = .ok (.iastore, 1) := by decide +kernel
theorem dX12_weighs_54 : decode cX12_weighs 54 = .ok (.aload_n 0, 1) := by decide +kernel
theorem dX12_weighs_55 : decode cX12_weighs 55 = .ok (.getfield 66, 3) := by decide +kernel
theorem dX12_weighs_58 : decode cX12_weighs 58 = .ok (.iload 4, 2) := by decide +kernel
theorem dX12_weighs_60 : decode cX12_weighs 60 = .ok (.iaload, 1) := by decide +kernel
theorem dX12_weighs_61 : decode cX12_weighs 61 = .ok (.iconst 1, 1) := by decide +kernel
theorem dX12_weighs_62 : decode cX12_weighs 62 = .ok (.iadd, 1) := by decide +kernel
theorem dX12_weighs_63 : decode cX12_weighs 63 = .ok (.iload_n 3, 1) := by decide +kernel
theorem dX12_weighs_64 : decode cX12_weighs 64 = .ok (.if_icmp .le 15, 3) := by decide +kernel
theorem dX12_weighs_67 : decode cX12_weighs 67 = .ok (.aload_n 0, 1) := by decide +kernel
theorem dX12_weighs_68 : decode cX12_weighs 68 = .ok (.getfield 66, 3) := by decide +kernel
theorem dX12_weighs_71 : decode cX12_weighs 71 = .ok (.iload 4, 2) := by decide +kernel
theorem dX12_weighs_73 : decode cX12_weighs 73 = .ok (.iaload, 1) := by decide +kernel
theorem dX12_weighs_74 : decode cX12_weighs 74 = .ok (.iconst 1, 1) := by decide +kernel
theorem dX12_weighs_75 : decode cX12_weighs 75 = .ok (.iadd, 1) := by decide +kernel
theorem dX12_weighs_76 : decode cX12_weighs 76 = .ok (.goto 4, 3) := by decide +kernel
theorem dX12_weighs_79 : decode cX12_weighs 79 = .ok (.iload_n 3, 1) := by decide +kernel
theorem dX12_weighs_80 : decode cX12_weighs 80 = .ok (.istore_n 3, 1) := by decide +kernel
theorem dX12_weighs_81 : decode cX12_weighs 81 = .ok (.iinc 4 1, 3) := by decide +kernel
theorem dX12_weighs_84 : decode cX12_weighs 84 = .ok (.goto (-55), 3) := by decide +kernel
theorem dX12_weighs_87 : decode cX12_weighs 87 = .ok (.lconst 0, 1) := by decide +kernel
theorem dX12_weighs_88 : decode cX12_weighs 88 = .ok (.lstore 4, 2) := by decide +kernel
theorem dX12_weighs_90 : decode cX12_weighs 90 = .ok (.iconst 1, 1) := by decide +kernel
theorem dX12_weighs_91 : decode cX12_weighs 91 = .ok (.istore 6, 2) := by decide +kernel
theorem dX12_weighs_93 : decode cX12_weighs 93 = .ok (.iconst 0, 1) := by decide +kernel
theorem dX12_weighs_94 : decode cX12_weighs 94 = .ok (.istore 7, 2) := by decide +kernel
theorem dX12_weighs_96 : decode cX12_weighs 96 = .ok (.iload 7, 2) := by decide +kernel
theorem dX12_weighs_98 : decode cX12_weighs 98 = .ok (.iload_n 3, 1) := by decide +kernel
theorem dX12_weighs_99 : decode cX12_weighs 99 = .ok (.if_icmp .ge 52, 3) := by decide +kernel
theorem dX12_weighs_102 : decode cX12_weighs 102 = .ok (.lload 4, 2) := by decide +kernel
theorem dX12_weighs_104 : decode cX12_weighs 104 = .ok (.aload_n 0, 1) := by decide +kernel
theorem dX12_weighs_105 : decode cX12_weighs 105 = .ok (.getfield 63, 3) := by decide +kernel
theorem dX12_weighs_108 : decode cX12_weighs 108 = .ok (.aload_n 0, 1) := by decide +kernel
theorem dX12_weighs_109 : decode cX12_weighs 109 = .ok (.getfield 75, 3) := by decide +kernel
theorem dX12_weighs_112 : decode cX12_weighs 112 = .ok (.iload 7, 2) := by decide +kernel
theorem dX12_weighs_114 : decode cX12_weighs 114 = .ok (.iaload, 1) := by decide +kernel
theorem dX12_weighs_115 : decode cX12_weighs 115 = .ok (.laload, 1) := by decide +kernel
theorem dX12_weighs_116 : decode cX12_weighs 116 = .ok (.ladd, 1) := by decide +kernel
theorem dX12_weighs_117 : decode cX12_weighs 117 = .ok (.lstore 4, 2) := by decide +kernel
theorem dX12_weighs_119 : decode cX12_weighs 119 = .ok (.iload 6, 2) := by decide +kernel
theorem dX12_weighs_121 : decode cX12_weighs 121 = .ok (.ifCond .eq 21, 3) := by decide +kernel
theorem dX12_weighs_124 : decode cX12_weighs 124 = .ok (.aload_n 0, 1) := by decide +kernel
theorem dX12_weighs_125 : decode cX12_weighs 125 = .ok (.getfield 75, 3) := by decide +kernel
theorem dX12_weighs_128 : decode cX12_weighs 128 = .ok (.iload 7, 2) := by decide +kernel
theorem dX12_weighs_130 : decode cX12_weighs 130 = .ok (.iaload, 1) := by decide +kernel
theorem dX12_weighs_131 : decode cX12_weighs 131 = .ok (.invokestatic 293, 3) := by decide +kernel
theorem dX12_weighs_134 : decode cX12_weighs 134 = .ok (.iload_n 2, 1) := by decide +kernel
theorem dX12_weighs_135 : decode cX12_weighs 135 = .ok (.if_icmp .gt 7, 3) := by decide +kernel
theorem dX12_weighs_138 : decode cX12_weighs 138 = .ok (.iconst 1, 1) := by decide +kernel
theorem dX12_weighs_139 : decode cX12_weighs 139 = .ok (.goto 4, 3) := by decide +kernel
theorem dX12_weighs_142 : decode cX12_weighs 142 = .ok (.iconst 0, 1) := by decide +kernel
theorem dX12_weighs_143 : decode cX12_weighs 143 = .ok (.istore 6, 2) := by decide +kernel
theorem dX12_weighs_145 : decode cX12_weighs 145 = .ok (.iinc 7 1, 3) := by decide +kernel
theorem dX12_weighs_148 : decode cX12_weighs 148 = .ok (.goto (-52), 3) := by decide +kernel
theorem dX12_weighs_151 : decode cX12_weighs 151 = .ok (.iload 6, 2) := by decide +kernel
theorem dX12_weighs_153 : decode cX12_weighs 153 = .ok (.ifCond .ne 4, 3) := by decide +kernel
theorem dX12_weighs_156 : decode cX12_weighs 156 = .ok (.return_, 1) := by decide +kernel
theorem dX12_weighs_157 : decode cX12_weighs 157 = .ok (.aload_n 0, 1) := by decide +kernel
theorem dX12_weighs_158 : decode cX12_weighs 158 = .ok (.getfield 308, 3) := by decide +kernel
theorem dX12_weighs_161 : decode cX12_weighs 161 = .ok (.lconst 0, 1) := by decide +kernel
theorem dX12_weighs_162 : decode cX12_weighs 162 = .ok (.lcmp, 1) := by decide +kernel
theorem dX12_weighs_163 : decode cX12_weighs 163 = .ok (.ifCond .lt 31, 3) := by decide +kernel
theorem dX12_weighs_166 : decode cX12_weighs 166 = .ok (.lload 4, 2) := by decide +kernel
theorem dX12_weighs_168 : decode cX12_weighs 168 = .ok (.aload_n 0, 1) := by decide +kernel
theorem dX12_weighs_169 : decode cX12_weighs 169 = .ok (.getfield 308, 3) := by decide +kernel
theorem dX12_weighs_172 : decode cX12_weighs 172 = .ok (.lcmp, 1) := by decide +kernel
theorem dX12_weighs_173 : decode cX12_weighs 173 = .ok (.ifCond .lt 21, 3) := by decide +kernel
theorem dX12_weighs_176 : decode cX12_weighs 176 = .ok (.lload 4, 2) := by decide +kernel
theorem dX12_weighs_178 : decode cX12_weighs 178 = .ok (.aload_n 0, 1) := by decide +kernel
theorem dX12_weighs_179 : decode cX12_weighs 179 = .ok (.getfield 308, 3) := by decide +kernel
theorem dX12_weighs_182 : decode cX12_weighs 182 = .ok (.lcmp, 1) := by decide +kernel
theorem dX12_weighs_183 : decode cX12_weighs 183 = .ok (.ifCond .ne 51, 3) := by decide +kernel
theorem dX12_weighs_186 : decode cX12_weighs 186 = .ok (.iload_n 3, 1) := by decide +kernel
theorem dX12_weighs_187 : decode cX12_weighs 187 = .ok (.aload_n 0, 1) := by decide +kernel
theorem dX12_weighs_188 : decode cX12_weighs 188 = .ok (.getfield 312, 3) := by decide +kernel
theorem dX12_weighs_191 : decode cX12_weighs 191 = .ok (.if_icmp .ge 43, 3) := by decide +kernel
theorem dX12_weighs_194 : decode cX12_weighs 194 = .ok (.aload_n 0, 1) := by decide +kernel
theorem dX12_weighs_195 : decode cX12_weighs 195 = .ok (.lload 4, 2) := by decide +kernel
theorem dX12_weighs_197 : decode cX12_weighs 197 = .ok (.putfield 308, 3) := by decide +kernel
theorem dX12_weighs_200 : decode cX12_weighs 200 = .ok (.aload_n 0, 1) := by decide +kernel
theorem dX12_weighs_201 : decode cX12_weighs 201 = .ok (.iload_n 3, 1) := by decide +kernel
theorem dX12_weighs_202 : decode cX12_weighs 202 = .ok (.putfield 312, 3) := by decide +kernel
theorem dX12_weighs_205 : decode cX12_weighs 205 = .ok (.iconst 0, 1) := by decide +kernel
theorem dX12_weighs_206 : decode cX12_weighs 206 = .ok (.istore 7, 2) := by decide +kernel
theorem dX12_weighs_208 : decode cX12_weighs 208 = .ok (.iload 7, 2) := by decide +kernel
theorem dX12_weighs_210 : decode cX12_weighs 210 = .ok (.iload_n 1, 1) := by decide +kernel
theorem dX12_weighs_211 : decode cX12_weighs 211 = .ok (.if_icmp .ge 23, 3) := by decide +kernel
theorem dX12_weighs_214 : decode cX12_weighs 214 = .ok (.aload_n 0, 1) := by decide +kernel
theorem dX12_weighs_215 : decode cX12_weighs 215 = .ok (.getfield 72, 3) := by decide +kernel
theorem dX12_weighs_218 : decode cX12_weighs 218 = .ok (.iload 7, 2) := by decide +kernel
theorem dX12_weighs_220 : decode cX12_weighs 220 = .ok (.aload_n 0, 1) := by decide +kernel
theorem dX12_weighs_221 : decode cX12_weighs 221 = .ok (.getfield 66, 3) := by decide +kernel
theorem dX12_weighs_224 : decode cX12_weighs 224 = .ok (.iload 7, 2) := by decide +kernel
theorem dX12_weighs_226 : decode cX12_weighs 226 = .ok (.iaload, 1) := by decide +kernel
theorem dX12_weighs_227 : decode cX12_weighs 227 = .ok (.iastore, 1) := by decide +kernel
theorem dX12_weighs_228 : decode cX12_weighs 228 = .ok (.iinc 7 1, 3) := by decide +kernel
theorem dX12_weighs_231 : decode cX12_weighs 231 = .ok (.goto (-23), 3) := by decide +kernel
theorem dX12_weighs_234 : decode cX12_weighs 234 = .ok (.return_, 1) := by decide +kernel
def f_X12_weighs_b208 (a0 : Nat) (a1 : Int32) : Nat → Int32 → q_Mem → Option q_Mem
  | 0, _, _ => none
  | n + 1, a7, M =>
    (if a7 < a1 then
      (q_gR 11 27 M a0).bind fun v60 =>
      (q_gR 11 25 M a0).bind fun v62 =>
      (q_lI M v62 a7).bind fun v64 =>
      (q_tI M v60 a7 v64).bind fun M66 =>
      f_X12_weighs_b208 a0 a1 n (a7 + (1 : Int32)) M66
    else
      some M)
def f_X12_weighs_b194 (M : q_Mem) (a0 : Nat) (a1 : Int32) (a3 : Int32) (a4 : Int64) : Option q_Mem :=
  (q_pJ 11 29 M a0 a4).bind fun M56 =>
  (q_pI 11 30 M56 a0 a3).bind fun M58 =>
  f_X12_weighs_b208 a0 a1 q_fuel (0 : Int32) M58
def f_X12_weighs_b151 (M : q_Mem) (a0 : Nat) (a1 : Int32) (a3 : Int32) (a4 : Int64) (a6 : Int32) : Option q_Mem :=
  (if a6 = 0 then
    some M
  else
    (q_gJ 11 29 M a0).bind fun v43 =>
    (if v43 < (0 : Int64) then
      f_X12_weighs_b194 M a0 a1 a3 a4
    else
      (q_gJ 11 29 M a0).bind fun v45 =>
      (if a4 < v45 then
        f_X12_weighs_b194 M a0 a1 a3 a4
      else
        (q_gJ 11 29 M a0).bind fun v47 =>
        (if a4 = v47 then
          (q_gI 11 30 M a0).bind fun v49 =>
          (if a3 < v49 then
            f_X12_weighs_b194 M a0 a1 a3 a4
          else
            some M)
        else
          some M))))
def f_X12_weighs_b96 (M : q_Mem) (a0 : Nat) (a1 : Int32) (a2 : Int32) (a3 : Int32) : Nat → Int64 → Int32 → Int32 → Option q_Mem
  | 0, _, _, _ => none
  | n + 1, a4, a6, a7 =>
    (if a7 < a3 then
      (q_gR 11 24 M a0).bind fun v26 =>
      (q_gR 11 28 M a0).bind fun v28 =>
      (q_lI M v28 a7).bind fun v30 =>
      (q_lJ M v26 v30).bind fun v32 =>
      (if a6 = 0 then
        f_X12_weighs_b96 M a0 a1 a2 a3 n (a4 + v32) (0 : Int32) (a7 + (1 : Int32))
      else
        (q_gR 11 28 M a0).bind fun v34 =>
        (q_lI M v34 a7).bind fun v36 =>
        (f_X12_sizeOf M v36).bind fun v39 =>
        (if a2 < v39 then
          f_X12_weighs_b96 M a0 a1 a2 a3 n (a4 + v32) (0 : Int32) (a7 + (1 : Int32))
        else
          f_X12_weighs_b96 M a0 a1 a2 a3 n (a4 + v32) (1 : Int32) (a7 + (1 : Int32))))
    else
      f_X12_weighs_b151 M a0 a1 a3 a4 a6)
def f_X12_weighs_b87 (M : q_Mem) (a0 : Nat) (a1 : Int32) (a2 : Int32) (a3 : Int32) : Option q_Mem :=
  f_X12_weighs_b96 M a0 a1 a2 a3 q_fuel (0 : Int64) (1 : Int32) (0 : Int32)
def f_X12_weighs_b29 (a0 : Nat) (a1 : Int32) (a2 : Int32) : Nat → Int32 → Int32 → q_Mem → Option q_Mem
  | 0, _, _, _ => none
  | n + 1, a3, a4, M =>
    (if a4 < a1 then
      (q_gR 11 28 M a0).bind fun v6 =>
      (q_gR 11 25 M a0).bind fun v8 =>
      (q_lI M v8 a4).bind fun v10 =>
      (q_lI M v6 v10).bind fun v12 =>
      (q_tI M v6 v10 (v12 ||| ((1 : Int32) <<< (a4 &&& 31)))).bind fun M14 =>
      (q_gR 11 25 M14 a0).bind fun v16 =>
      (q_lI M14 v16 a4).bind fun v18 =>
      (if a3 < (v18 + (1 : Int32)) then
        (q_gR 11 25 M14 a0).bind fun v20 =>
        (q_lI M14 v20 a4).bind fun v22 =>
        f_X12_weighs_b29 a0 a1 a2 n (v22 + (1 : Int32)) (a4 + (1 : Int32)) M14
      else
        f_X12_weighs_b29 a0 a1 a2 n a3 (a4 + (1 : Int32)) M14)
    else
      f_X12_weighs_b87 M a0 a1 a2 a3)
def f_X12_weighs_b5 (a0 : Nat) (a1 : Int32) (a2 : Int32) (a3 : Int32) : Nat → Int32 → q_Mem → Option q_Mem
  | 0, _, _ => none
  | n + 1, a4, M =>
    (if a4 < (10 : Int32) then
      (q_gR 11 28 M a0).bind fun v1 =>
      (q_tI M v1 a4 (0 : Int32)).bind fun M3 =>
      f_X12_weighs_b5 a0 a1 a2 a3 n (a4 + (1 : Int32)) M3
    else
      f_X12_weighs_b29 a0 a1 a2 q_fuel a3 (0 : Int32) M)
def f_X12_weighs (M : q_Mem) (a0 : Nat) (a1 : Int32) (a2 : Int32) : Option q_Mem :=
  q_ob 11 M a0 (f_X12_weighs_b5 a0 a1 a2 (0 : Int32) q_fuel (0 : Int32) M)
set_option maxRecDepth 20000 in
theorem v_X12_weighs_b208 {a0 : Nat} {a1 : Int32}  : ∀ (n : Nat) (a7 : Int32) (M : q_Mem), q_V Y_X12_weighs none (fun x : q_Mem => (none, x)) 0 0 208 [(0, .ref a0), (1, .int a1), (7, .int a7)] [] M (f_X12_weighs_b208 a0 a1 n a7 M) := by
  intro n
  induction n with
  | zero => intro a7 M; exact q_none
  | succ n ih =>
    intro a7 M
    rw [f_X12_weighs_b208.eq_2]
    refine q_iload 2 dX12_weighs_208 rfl ?_
    refine q_iload_n 1 dX12_weighs_210 rfl ?_
    refine q_icmp_ge (tgt := 234) dX12_weighs_211 (by decide) (fun c68 => ?_) (fun c68 => ?_)
    · refine q_aload_n 0 dX12_weighs_214 rfl ?_
      refine q_getR (f := 27) cl_X12 (by decide) qw_1143 rfl dX12_weighs_215 (fun _ _ _ => rfl) (fun v60 h61 => ?_)
      refine q_iload 2 dX12_weighs_218 rfl ?_
      refine q_aload_n 0 dX12_weighs_220 rfl ?_
      refine q_getR (f := 25) cl_X12 (by decide) qw_1141 rfl dX12_weighs_221 (fun _ _ _ => rfl) (fun v62 h63 => ?_)
      refine q_iload 2 dX12_weighs_224 rfl ?_
      refine q_iald dX12_weighs_226 (fun v64 h65 => ?_)
      refine q_iast dX12_weighs_227 (fun M66 h67 => ?_)
      refine q_iinc 2 (y := (a7 + (1 : Int32))) (ls' := [(7, .int (a7 + (1 : Int32))), (0, .ref a0), (1, .int a1)]) dX12_weighs_228 rfl rfl (by decide) rfl ?_
      refine q_goto (tgt := 208) dX12_weighs_231 (by decide) ?_
      refine q_sub (ls' := [(0, .ref a0), (1, .int a1), (7, .int (a7 + (1 : Int32)))]) [1, 2, 0] rfl ?_
      exact ih _ _
    · exact q_vret dX12_weighs_234 rfl rfl (Nat.le_of_ble_eq_true rfl) rfl
set_option maxRecDepth 20000 in
theorem v_X12_weighs_b194 {M : q_Mem} {a0 : Nat} {a1 : Int32} {a3 : Int32} {a4 : Int64}  : q_V Y_X12_weighs none (fun x : q_Mem => (none, x)) 0 0 194 [(0, .ref a0), (1, .int a1), (3, .int a3), (4, .long a4)] [] M (f_X12_weighs_b194 M a0 a1 a3 a4 ) := by
  unfold f_X12_weighs_b194
  refine q_aload_n 0 dX12_weighs_194 rfl ?_
  refine q_lload 3 dX12_weighs_195 rfl ?_
  refine q_putJ (f := 29) cl_X12 (by decide) qw_1145 rfl (Or.inl rfl) dX12_weighs_197 rfl (fun M56 h57 => ?_)
  refine q_aload_n 0 dX12_weighs_200 rfl ?_
  refine q_iload_n 2 dX12_weighs_201 rfl ?_
  refine q_putI (f := 30) cl_X12 (by decide) qw_1146 rfl (Or.inl rfl) dX12_weighs_202 rfl (fun M58 h59 => ?_)
  refine q_iconst (x := (0 : Int32)) dX12_weighs_205 rfl ?_
  refine q_istore (ls' := [(7, .int (0 : Int32)), (0, .ref a0), (1, .int a1), (3, .int a3), (4, .long a4)]) dX12_weighs_206 (by decide) rfl ?_
  refine q_sub (ls' := [(0, .ref a0), (1, .int a1), (7, .int (0 : Int32))]) [1, 2, 0] rfl ?_
  exact v_X12_weighs_b208 _ _ _
set_option maxRecDepth 20000 in
theorem v_X12_weighs_b151 {M : q_Mem} {a0 : Nat} {a1 : Int32} {a3 : Int32} {a4 : Int64} {a6 : Int32}  : q_V Y_X12_weighs none (fun x : q_Mem => (none, x)) 0 0 151 [(0, .ref a0), (1, .int a1), (3, .int a3), (4, .long a4), (6, .int a6)] [] M (f_X12_weighs_b151 M a0 a1 a3 a4 a6 ) := by
  unfold f_X12_weighs_b151
  refine q_iload 4 dX12_weighs_151 rfl ?_
  refine q_if_ne (tgt := 157) dX12_weighs_153 (by decide) (fun c55 => ?_) (fun c55 => ?_)
  · exact q_vret dX12_weighs_156 rfl rfl (Nat.le_of_ble_eq_true rfl) rfl
  · refine q_aload_n 0 dX12_weighs_157 rfl ?_
    refine q_getJ (f := 29) cl_X12 (by decide) qw_1145 rfl dX12_weighs_158 rfl (fun v43 h44 => ?_)
    refine q_lconst (x := (0 : Int64)) dX12_weighs_161 rfl ?_
    refine q_lcmp_lt (tgt := 194) dX12_weighs_162 dX12_weighs_163 (by decide) (fun c54 => ?_) (fun c54 => ?_)
    · refine q_sub (ls' := [(0, .ref a0), (1, .int a1), (3, .int a3), (4, .long a4)]) [0, 1, 2, 3] rfl ?_
      exact v_X12_weighs_b194
    · refine q_lload 3 dX12_weighs_166 rfl ?_
      refine q_aload_n 0 dX12_weighs_168 rfl ?_
      refine q_getJ (f := 29) cl_X12 (by decide) qw_1145 rfl dX12_weighs_169 rfl (fun v45 h46 => ?_)
      refine q_lcmp_lt (tgt := 194) dX12_weighs_172 dX12_weighs_173 (by decide) (fun c53 => ?_) (fun c53 => ?_)
      · refine q_sub (ls' := [(0, .ref a0), (1, .int a1), (3, .int a3), (4, .long a4)]) [0, 1, 2, 3] rfl ?_
        exact v_X12_weighs_b194
      · refine q_lload 3 dX12_weighs_176 rfl ?_
        refine q_aload_n 0 dX12_weighs_178 rfl ?_
        refine q_getJ (f := 29) cl_X12 (by decide) qw_1145 rfl dX12_weighs_179 rfl (fun v47 h48 => ?_)
        refine q_lcmp_ne (tgt := 234) dX12_weighs_182 dX12_weighs_183 (by decide) (fun c52 => ?_) (fun c52 => ?_)
        · refine q_iload_n 2 dX12_weighs_186 rfl ?_
          refine q_aload_n 0 dX12_weighs_187 rfl ?_
          refine q_getI (f := 30) cl_X12 (by decide) qw_1146 rfl dX12_weighs_188 (Or.inl rfl) (fun v49 h50 => ?_)
          refine q_icmp_ge (tgt := 234) dX12_weighs_191 (by decide) (fun c51 => ?_) (fun c51 => ?_)
          · refine q_sub (ls' := [(0, .ref a0), (1, .int a1), (3, .int a3), (4, .long a4)]) [0, 1, 2, 3] rfl ?_
            exact v_X12_weighs_b194
          · exact q_vret dX12_weighs_234 rfl rfl (Nat.le_of_ble_eq_true rfl) rfl
        · exact q_vret dX12_weighs_234 rfl rfl (Nat.le_of_ble_eq_true rfl) rfl
set_option maxRecDepth 20000 in
theorem v_X12_weighs_b96 {M : q_Mem} {a0 : Nat} {a1 : Int32} {a2 : Int32} {a3 : Int32}  : ∀ (n : Nat) (a4 : Int64) (a6 : Int32) (a7 : Int32), q_V Y_X12_weighs none (fun x : q_Mem => (none, x)) 0 0 96 [(0, .ref a0), (1, .int a1), (2, .int a2), (3, .int a3), (4, .long a4), (6, .int a6), (7, .int a7)] [] M (f_X12_weighs_b96 M a0 a1 a2 a3 n a4 a6 a7) := by
  intro n
  induction n with
  | zero => intro a4 a6 a7; exact q_none
  | succ n ih =>
    intro a4 a6 a7
    rw [f_X12_weighs_b96.eq_2]
    refine q_iload 6 dX12_weighs_96 rfl ?_
    refine q_iload_n 3 dX12_weighs_98 rfl ?_
    refine q_icmp_ge (tgt := 151) dX12_weighs_99 (by decide) (fun c42 => ?_) (fun c42 => ?_)
    · refine q_lload 4 dX12_weighs_102 rfl ?_
      refine q_aload_n 0 dX12_weighs_104 rfl ?_
      refine q_getR (f := 24) cl_X12 (by decide) qw_1140 rfl dX12_weighs_105 (fun _ _ _ => rfl) (fun v26 h27 => ?_)
      refine q_aload_n 0 dX12_weighs_108 rfl ?_
      refine q_getR (f := 28) cl_X12 (by decide) qw_1144 rfl dX12_weighs_109 (fun _ _ _ => rfl) (fun v28 h29 => ?_)
      refine q_iload 6 dX12_weighs_112 rfl ?_
      refine q_iald dX12_weighs_114 (fun v30 h31 => ?_)
      refine q_lald dX12_weighs_115 (fun v32 h33 => ?_)
      refine q_ladd dX12_weighs_116 ?_
      refine q_lstore (ls' := [(4, .long (a4 + v32)), (0, .ref a0), (1, .int a1), (2, .int a2), (3, .int a3), (6, .int a6), (7, .int a7)]) dX12_weighs_117 (by decide) rfl ?_
      refine q_iload 5 dX12_weighs_119 rfl ?_
      refine q_if_eq (tgt := 142) dX12_weighs_121 (by decide) (fun c41 => ?_) (fun c41 => ?_)
      · refine q_iconst (x := (0 : Int32)) dX12_weighs_142 rfl ?_
        refine q_istore (ls' := [(6, .int (0 : Int32)), (4, .long (a4 + v32)), (0, .ref a0), (1, .int a1), (2, .int a2), (3, .int a3), (7, .int a7)]) dX12_weighs_143 (by decide) rfl ?_
        refine q_iinc 6 (y := (a7 + (1 : Int32))) (ls' := [(7, .int (a7 + (1 : Int32))), (6, .int (0 : Int32)), (4, .long (a4 + v32)), (0, .ref a0), (1, .int a1), (2, .int a2), (3, .int a3)]) dX12_weighs_145 rfl rfl (by decide) rfl ?_
        refine q_goto (tgt := 96) dX12_weighs_148 (by decide) ?_
        refine q_sub (ls' := [(0, .ref a0), (1, .int a1), (2, .int a2), (3, .int a3), (4, .long (a4 + v32)), (6, .int (0 : Int32)), (7, .int (a7 + (1 : Int32)))]) [3, 4, 5, 6, 2, 1, 0] rfl ?_
        exact ih _ _ _
      · refine q_aload_n 1 dX12_weighs_124 rfl ?_
        refine q_getR (f := 28) cl_X12 (by decide) qw_1144 rfl dX12_weighs_125 (fun _ _ _ => rfl) (fun v34 h35 => ?_)
        refine q_iload 6 dX12_weighs_128 rfl ?_
        refine q_iald dX12_weighs_130 (fun v36 h37 => ?_)
        refine q_cSI (Y2 := Y_X12_sizeOf) (As := [.int v36]) (st := []) ms_X12_sizeOf qw_1552 dX12_weighs_131 ⟨Nat.le_of_ble_eq_true rfl, Nat.le_of_ble_eq_true rfl⟩ rfl (fun _ _ => rfl) (Nat.le_of_ble_eq_true rfl) ⟨Nat.le_of_ble_eq_true rfl, Nat.le_of_ble_eq_true rfl⟩ (fun v39 h38 => m_X12_sizeOf h38) (fun v39 h38 => ?_)
        refine q_iload_n 3 dX12_weighs_134 rfl ?_
        refine q_icmp_gt (tgt := 142) dX12_weighs_135 (by decide) (fun c40 => ?_) (fun c40 => ?_)
        · refine q_iconst (x := (0 : Int32)) dX12_weighs_142 rfl ?_
          refine q_istore (ls' := [(6, .int (0 : Int32)), (4, .long (a4 + v32)), (0, .ref a0), (1, .int a1), (2, .int a2), (3, .int a3), (7, .int a7)]) dX12_weighs_143 (by decide) rfl ?_
          refine q_iinc 6 (y := (a7 + (1 : Int32))) (ls' := [(7, .int (a7 + (1 : Int32))), (6, .int (0 : Int32)), (4, .long (a4 + v32)), (0, .ref a0), (1, .int a1), (2, .int a2), (3, .int a3)]) dX12_weighs_145 rfl rfl (by decide) rfl ?_
          refine q_goto (tgt := 96) dX12_weighs_148 (by decide) ?_
          refine q_sub (ls' := [(0, .ref a0), (1, .int a1), (2, .int a2), (3, .int a3), (4, .long (a4 + v32)), (6, .int (0 : Int32)), (7, .int (a7 + (1 : Int32)))]) [3, 4, 5, 6, 2, 1, 0] rfl ?_
          exact ih _ _ _
        · refine q_iconst (x := (1 : Int32)) dX12_weighs_138 rfl ?_
          refine q_goto (tgt := 143) dX12_weighs_139 (by decide) ?_
          refine q_istore (ls' := [(6, .int (1 : Int32)), (4, .long (a4 + v32)), (0, .ref a0), (1, .int a1), (2, .int a2), (3, .int a3), (7, .int a7)]) dX12_weighs_143 (by decide) rfl ?_
          refine q_iinc 6 (y := (a7 + (1 : Int32))) (ls' := [(7, .int (a7 + (1 : Int32))), (6, .int (1 : Int32)), (4, .long (a4 + v32)), (0, .ref a0), (1, .int a1), (2, .int a2), (3, .int a3)]) dX12_weighs_145 rfl rfl (by decide) rfl ?_
          refine q_goto (tgt := 96) dX12_weighs_148 (by decide) ?_
          refine q_sub (ls' := [(0, .ref a0), (1, .int a1), (2, .int a2), (3, .int a3), (4, .long (a4 + v32)), (6, .int (1 : Int32)), (7, .int (a7 + (1 : Int32)))]) [3, 4, 5, 6, 2, 1, 0] rfl ?_
          exact ih _ _ _
    · refine q_sub (ls' := [(0, .ref a0), (1, .int a1), (3, .int a3), (4, .long a4), (6, .int a6)]) [0, 1, 3, 4, 5] rfl ?_
      exact v_X12_weighs_b151
set_option maxRecDepth 20000 in
theorem v_X12_weighs_b87 {M : q_Mem} {a0 : Nat} {a1 : Int32} {a2 : Int32} {a3 : Int32}  : q_V Y_X12_weighs none (fun x : q_Mem => (none, x)) 0 0 87 [(0, .ref a0), (1, .int a1), (2, .int a2), (3, .int a3)] [] M (f_X12_weighs_b87 M a0 a1 a2 a3 ) := by
  unfold f_X12_weighs_b87
  refine q_lconst (x := (0 : Int64)) dX12_weighs_87 rfl ?_
  refine q_lstore (ls' := [(4, .long (0 : Int64)), (0, .ref a0), (1, .int a1), (2, .int a2), (3, .int a3)]) dX12_weighs_88 (by decide) rfl ?_
  refine q_iconst (x := (1 : Int32)) dX12_weighs_90 rfl ?_
  refine q_istore (ls' := [(6, .int (1 : Int32)), (4, .long (0 : Int64)), (0, .ref a0), (1, .int a1), (2, .int a2), (3, .int a3)]) dX12_weighs_91 (by decide) rfl ?_
  refine q_iconst (x := (0 : Int32)) dX12_weighs_93 rfl ?_
  refine q_istore (ls' := [(7, .int (0 : Int32)), (6, .int (1 : Int32)), (4, .long (0 : Int64)), (0, .ref a0), (1, .int a1), (2, .int a2), (3, .int a3)]) dX12_weighs_94 (by decide) rfl ?_
  refine q_sub (ls' := [(0, .ref a0), (1, .int a1), (2, .int a2), (3, .int a3), (4, .long (0 : Int64)), (6, .int (1 : Int32)), (7, .int (0 : Int32))]) [3, 4, 5, 6, 2, 1, 0] rfl ?_
  exact v_X12_weighs_b96 _ _ _ _
set_option maxRecDepth 20000 in
theorem v_X12_weighs_b29 {a0 : Nat} {a1 : Int32} {a2 : Int32}  : ∀ (n : Nat) (a3 : Int32) (a4 : Int32) (M : q_Mem), q_V Y_X12_weighs none (fun x : q_Mem => (none, x)) 0 0 29 [(0, .ref a0), (1, .int a1), (2, .int a2), (3, .int a3), (4, .int a4)] [] M (f_X12_weighs_b29 a0 a1 a2 n a3 a4 M) := by
  intro n
  induction n with
  | zero => intro a3 a4 M; exact q_none
  | succ n ih =>
    intro a3 a4 M
    rw [f_X12_weighs_b29.eq_2]
    refine q_iload 4 dX12_weighs_29 rfl ?_
    refine q_iload_n 1 dX12_weighs_31 rfl ?_
    refine q_icmp_ge (tgt := 87) dX12_weighs_32 (by decide) (fun c25 => ?_) (fun c25 => ?_)
    · refine q_aload_n 0 dX12_weighs_35 rfl ?_
      refine q_getR (f := 28) cl_X12 (by decide) qw_1144 rfl dX12_weighs_36 (fun _ _ _ => rfl) (fun v6 h7 => ?_)
      refine q_aload_n 0 dX12_weighs_39 rfl ?_
      refine q_getR (f := 25) cl_X12 (by decide) qw_1141 rfl dX12_weighs_40 (fun _ _ _ => rfl) (fun v8 h9 => ?_)
      refine q_iload 4 dX12_weighs_43 rfl ?_
      refine q_iald dX12_weighs_45 (fun v10 h11 => ?_)
      refine q_dup2 dX12_weighs_46 rfl rfl ?_
      refine q_iald dX12_weighs_47 (fun v12 h13 => ?_)
      refine q_iconst (x := (1 : Int32)) dX12_weighs_48 rfl ?_
      refine q_iload 4 dX12_weighs_49 rfl ?_
      refine q_ishl dX12_weighs_51 ?_
      refine q_ior dX12_weighs_52 ?_
      refine q_iast dX12_weighs_53 (fun M14 h15 => ?_)
      refine q_aload_n 0 dX12_weighs_54 rfl ?_
      refine q_getR (f := 25) cl_X12 (by decide) qw_1141 rfl dX12_weighs_55 (fun _ _ _ => rfl) (fun v16 h17 => ?_)
      refine q_iload 4 dX12_weighs_58 rfl ?_
      refine q_iald dX12_weighs_60 (fun v18 h19 => ?_)
      refine q_iconst (x := (1 : Int32)) dX12_weighs_61 rfl ?_
      refine q_iadd dX12_weighs_62 ?_
      refine q_iload_n 3 dX12_weighs_63 rfl ?_
      refine q_icmp_le (tgt := 79) dX12_weighs_64 (by decide) (fun c24 => ?_) (fun c24 => ?_)
      · refine q_aload_n 0 dX12_weighs_67 rfl ?_
        refine q_getR (f := 25) cl_X12 (by decide) qw_1141 rfl dX12_weighs_68 (fun _ _ _ => rfl) (fun v20 h21 => ?_)
        refine q_iload 4 dX12_weighs_71 rfl ?_
        refine q_iald dX12_weighs_73 (fun v22 h23 => ?_)
        refine q_iconst (x := (1 : Int32)) dX12_weighs_74 rfl ?_
        refine q_iadd dX12_weighs_75 ?_
        refine q_goto (tgt := 80) dX12_weighs_76 (by decide) ?_
        refine q_istore_n (ls' := [(3, .int (v22 + (1 : Int32))), (0, .ref a0), (1, .int a1), (2, .int a2), (4, .int a4)]) dX12_weighs_80 (by decide) rfl ?_
        refine q_iinc 4 (y := (a4 + (1 : Int32))) (ls' := [(4, .int (a4 + (1 : Int32))), (3, .int (v22 + (1 : Int32))), (0, .ref a0), (1, .int a1), (2, .int a2)]) dX12_weighs_81 rfl rfl (by decide) rfl ?_
        refine q_goto (tgt := 29) dX12_weighs_84 (by decide) ?_
        refine q_sub (ls' := [(0, .ref a0), (1, .int a1), (2, .int a2), (3, .int (v22 + (1 : Int32))), (4, .int (a4 + (1 : Int32)))]) [2, 3, 4, 1, 0] rfl ?_
        exact ih _ _ _
      · refine q_iload_n 3 dX12_weighs_79 rfl ?_
        refine q_istore_n (ls' := [(3, .int a3), (0, .ref a0), (1, .int a1), (2, .int a2), (4, .int a4)]) dX12_weighs_80 (by decide) rfl ?_
        refine q_iinc 4 (y := (a4 + (1 : Int32))) (ls' := [(4, .int (a4 + (1 : Int32))), (3, .int a3), (0, .ref a0), (1, .int a1), (2, .int a2)]) dX12_weighs_81 rfl rfl (by decide) rfl ?_
        refine q_goto (tgt := 29) dX12_weighs_84 (by decide) ?_
        refine q_sub (ls' := [(0, .ref a0), (1, .int a1), (2, .int a2), (3, .int a3), (4, .int (a4 + (1 : Int32)))]) [2, 3, 4, 1, 0] rfl ?_
        exact ih _ _ _
    · refine q_sub (ls' := [(0, .ref a0), (1, .int a1), (2, .int a2), (3, .int a3)]) [0, 1, 2, 3] rfl ?_
      exact v_X12_weighs_b87
set_option maxRecDepth 20000 in
theorem v_X12_weighs_b5 {a0 : Nat} {a1 : Int32} {a2 : Int32} {a3 : Int32}  : ∀ (n : Nat) (a4 : Int32) (M : q_Mem), q_V Y_X12_weighs none (fun x : q_Mem => (none, x)) 0 0 5 [(0, .ref a0), (1, .int a1), (2, .int a2), (3, .int a3), (4, .int a4)] [] M (f_X12_weighs_b5 a0 a1 a2 a3 n a4 M) := by
  intro n
  induction n with
  | zero => intro a4 M; exact q_none
  | succ n ih =>
    intro a4 M
    rw [f_X12_weighs_b5.eq_2]
    refine q_iload 4 dX12_weighs_5 rfl ?_
    refine q_bipush (x := (10 : Int32)) dX12_weighs_7 rfl ?_
    refine q_icmp_ge (tgt := 26) dX12_weighs_9 (by decide) (fun c5 => ?_) (fun c5 => ?_)
    · refine q_aload_n 0 dX12_weighs_12 rfl ?_
      refine q_getR (f := 28) cl_X12 (by decide) qw_1144 rfl dX12_weighs_13 (fun _ _ _ => rfl) (fun v1 h2 => ?_)
      refine q_iload 4 dX12_weighs_16 rfl ?_
      refine q_iconst (x := (0 : Int32)) dX12_weighs_18 rfl ?_
      refine q_iast dX12_weighs_19 (fun M3 h4 => ?_)
      refine q_iinc 4 (y := (a4 + (1 : Int32))) (ls' := [(4, .int (a4 + (1 : Int32))), (0, .ref a0), (1, .int a1), (2, .int a2), (3, .int a3)]) dX12_weighs_20 rfl rfl (by decide) rfl ?_
      refine q_goto (tgt := 5) dX12_weighs_23 (by decide) ?_
      refine q_sub (ls' := [(0, .ref a0), (1, .int a1), (2, .int a2), (3, .int a3), (4, .int (a4 + (1 : Int32)))]) [1, 2, 3, 4, 0] rfl ?_
      exact ih _ _
    · refine q_iconst (x := (0 : Int32)) dX12_weighs_26 rfl ?_
      refine q_istore (ls' := [(4, .int (0 : Int32)), (0, .ref a0), (1, .int a1), (2, .int a2), (3, .int a3)]) dX12_weighs_27 (by decide) rfl ?_
      refine q_sub (ls' := [(0, .ref a0), (1, .int a1), (2, .int a2), (3, .int a3), (4, .int (0 : Int32))]) [1, 2, 3, 4, 0] rfl ?_
      exact v_X12_weighs_b29 _ _ _ _
set_option maxRecDepth 20000 in
theorem m_X12_weighs {M : q_Mem} {a0 : Nat} {a1 : Int32} {a2 : Int32} {x : q_Mem} (h : f_X12_weighs M a0 a1 a2 = some x) : q_C Y_X12_weighs [.ref a0, .int a1, .int a2] M none x := by
  refine q_met (φ := (fun x : q_Mem => (none, x))) (r := f_X12_weighs M a0 a1 a2) (by decide +kernel) (Nat.le_of_ble_eq_true rfl) ?_ h (fun _ _ => rfl)
  show q_V Y_X12_weighs none (fun x : q_Mem => (none, x)) 0 0 0 [(0, .ref a0), (1, .int a1), (2, .int a2)] [] M (f_X12_weighs M a0 a1 a2)
  unfold f_X12_weighs
  refine q_obV ?_
  refine q_iconst (x := (0 : Int32)) dX12_weighs_0 rfl ?_
  refine q_istore_n (ls' := [(3, .int (0 : Int32)), (0, .ref a0), (1, .int a1), (2, .int a2)]) dX12_weighs_1 (by decide) rfl ?_
  refine q_iconst (x := (0 : Int32)) dX12_weighs_2 rfl ?_
  refine q_istore (ls' := [(4, .int (0 : Int32)), (3, .int (0 : Int32)), (0, .ref a0), (1, .int a1), (2, .int a2)]) dX12_weighs_3 (by decide) rfl ?_
  refine q_sub (ls' := [(0, .ref a0), (1, .int a1), (2, .int a2), (3, .int (0 : Int32)), (4, .int (0 : Int32))]) [2, 3, 4, 1, 0] rfl ?_
  exact v_X12_weighs_b5 _ _ _
theorem dX12_nextHeaps_0 : decode cX12_nextHeaps 0 = .ok (.iconst 0, 1) := by decide +kernel
theorem dX12_nextHeaps_1 : decode cX12_nextHeaps 1 = .ok (.istore_n 2, 1) := by decide +kernel
theorem dX12_nextHeaps_2 : decode cX12_nextHeaps 2 = .ok (.iconst 0, 1) := by decide +kernel
theorem dX12_nextHeaps_3 : decode cX12_nextHeaps 3 = .ok (.istore_n 3, 1) := by decide +kernel
theorem dX12_nextHeaps_4 : decode cX12_nextHeaps 4 = .ok (.iload_n 3, 1) := by decide +kernel
theorem dX12_nextHeaps_5 : decode cX12_nextHeaps 5 = .ok (.iload_n 1, 1) := by decide +kernel
theorem dX12_nextHeaps_6 : decode cX12_nextHeaps 6 = .ok (.if_icmp .ge 41, 3) := by decide +kernel
theorem dX12_nextHeaps_9 : decode cX12_nextHeaps 9 = .ok (.aload_n 0, 1) := by decide +kernel
theorem dX12_nextHeaps_10 : decode cX12_nextHeaps 10 = .ok (.getfield 69, 3) := by decide +kernel
theorem dX12_nextHeaps_13 : decode cX12_nextHeaps 13 = .ok (.iload_n 3, 1) := by decide +kernel
theorem dX12_nextHeaps_14 : decode cX12_nextHeaps 14 = .ok (.iload_n 2, 1) := by decide +kernel
theorem dX12_nextHeaps_15 : decode cX12_nextHeaps 15 = .ok (.iastore, 1) := by decide +kernel
theorem dX12_nextHeaps_16 : decode cX12_nextHeaps 16 = .ok (.aload_n 0, 1) := by decide +kernel
theorem dX12_nextHeaps_17 : decode cX12_nextHeaps 17 = .ok (.getfield 66, 3) := by decide +kernel
theorem dX12_nextHeaps_20 : decode cX12_nextHeaps 20 = .ok (.iload_n 3, 1) := by decide +kernel
theorem dX12_nextHeaps_21 : decode cX12_nextHeaps 21 = .ok (.iaload, 1) := by decide +kernel
theorem dX12_nextHeaps_22 : decode cX12_nextHeaps 22 = .ok (.iconst 1, 1) := by decide +kernel
theorem dX12_nextHeaps_23 : decode cX12_nextHeaps 23 = .ok (.iadd, 1) := by decide +kernel
theorem dX12_nextHeaps_24 : decode cX12_nextHeaps 24 = .ok (.iload_n 2, 1) := by decide +kernel
theorem dX12_nextHeaps_25 : decode cX12_nextHeaps 25 = .ok (.if_icmp .le 14, 3) := by decide +kernel
theorem dX12_nextHeaps_28 : decode cX12_nextHeaps 28 = .ok (.aload_n 0, 1) := by decide +kernel
theorem dX12_nextHeaps_29 : decode cX12_nextHeaps 29 = .ok (.getfield 66, 3) := by decide +kernel
theorem dX12_nextHeaps_32 : decode cX12_nextHeaps 32 = .ok (.iload_n 3, 1) := by decide +kernel
theorem dX12_nextHeaps_33 : decode cX12_nextHeaps 33 = .ok (.iaload, 1) := by decide +kernel
theorem dX12_nextHeaps_34 : decode cX12_nextHeaps 34 = .ok (.iconst 1, 1) := by decide +kernel
theorem dX12_nextHeaps_35 : decode cX12_nextHeaps 35 = .ok (.iadd, 1) := by decide +kernel
theorem dX12_nextHeaps_36 : decode cX12_nextHeaps 36 = .ok (.goto 4, 3) := by decide +kernel
theorem dX12_nextHeaps_39 : decode cX12_nextHeaps 39 = .ok (.iload_n 2, 1) := by decide +kernel
theorem dX12_nextHeaps_40 : decode cX12_nextHeaps 40 = .ok (.istore_n 2, 1) := by decide +kernel
theorem dX12_nextHeaps_41 : decode cX12_nextHeaps 41 = .ok (.iinc 3 1, 3) := by decide +kernel
theorem dX12_nextHeaps_44 : decode cX12_nextHeaps 44 = .ok (.goto (-40), 3) := by decide +kernel
theorem dX12_nextHeaps_47 : decode cX12_nextHeaps 47 = .ok (.iload_n 1, 1) := by decide +kernel
theorem dX12_nextHeaps_48 : decode cX12_nextHeaps 48 = .ok (.iconst 1, 1) := by decide +kernel
theorem dX12_nextHeaps_49 : decode cX12_nextHeaps 49 = .ok (.isub, 1) := by decide +kernel
theorem dX12_nextHeaps_50 : decode cX12_nextHeaps 50 = .ok (.istore_n 3, 1) := by decide +kernel
theorem dX12_nextHeaps_51 : decode cX12_nextHeaps 51 = .ok (.iload_n 3, 1) := by decide +kernel
theorem dX12_nextHeaps_52 : decode cX12_nextHeaps 52 = .ok (.ifCond .le 61, 3) := by decide +kernel
theorem dX12_nextHeaps_55 : decode cX12_nextHeaps 55 = .ok (.aload_n 0, 1) := by decide +kernel
theorem dX12_nextHeaps_56 : decode cX12_nextHeaps 56 = .ok (.getfield 66, 3) := by decide +kernel
theorem dX12_nextHeaps_59 : decode cX12_nextHeaps 59 = .ok (.iload_n 3, 1) := by decide +kernel
theorem dX12_nextHeaps_60 : decode cX12_nextHeaps 60 = .ok (.iaload, 1) := by decide +kernel
theorem dX12_nextHeaps_61 : decode cX12_nextHeaps 61 = .ok (.aload_n 0, 1) := by decide +kernel
theorem dX12_nextHeaps_62 : decode cX12_nextHeaps 62 = .ok (.getfield 69, 3) := by decide +kernel
theorem dX12_nextHeaps_65 : decode cX12_nextHeaps 65 = .ok (.iload_n 3, 1) := by decide +kernel
theorem dX12_nextHeaps_66 : decode cX12_nextHeaps 66 = .ok (.iaload, 1) := by decide +kernel
theorem dX12_nextHeaps_67 : decode cX12_nextHeaps 67 = .ok (.if_icmp .ge 40, 3) := by decide +kernel
theorem dX12_nextHeaps_70 : decode cX12_nextHeaps 70 = .ok (.aload_n 0, 1) := by decide +kernel
theorem dX12_nextHeaps_71 : decode cX12_nextHeaps 71 = .ok (.getfield 66, 3) := by decide +kernel
theorem dX12_nextHeaps_74 : decode cX12_nextHeaps 74 = .ok (.iload_n 3, 1) := by decide +kernel
theorem dX12_nextHeaps_75 : decode cX12_nextHeaps 75 = .ok (.dup2, 1) := by decide +kernel
theorem dX12_nextHeaps_76 : decode cX12_nextHeaps 76 = .ok (.iaload, 1) := by decide +kernel
theorem dX12_nextHeaps_77 : decode cX12_nextHeaps 77 = .ok (.iconst 1, 1) := by decide +kernel
theorem dX12_nextHeaps_78 : decode cX12_nextHeaps 78 = .ok (.iadd, 1) := by decide +kernel
theorem dX12_nextHeaps_79 : decode cX12_nextHeaps 79 = .ok (.iastore, 1) := by decide +kernel
theorem dX12_nextHeaps_80 : decode cX12_nextHeaps 80 = .ok (.iload_n 3, 1) := by decide +kernel
theorem dX12_nextHeaps_81 : decode cX12_nextHeaps 81 = .ok (.iconst 1, 1) := by decide +kernel
theorem dX12_nextHeaps_82 : decode cX12_nextHeaps 82 = .ok (.iadd, 1) := by decide +kernel
theorem dX12_nextHeaps_83 : decode cX12_nextHeaps 83 = .ok (.istore 4, 2) := by decide +kernel
theorem dX12_nextHeaps_85 : decode cX12_nextHeaps 85 = .ok (.iload 4, 2) := by decide +kernel
theorem dX12_nextHeaps_87 : decode cX12_nextHeaps 87 = .ok (.iload_n 1, 1) := by decide +kernel
theorem dX12_nextHeaps_88 : decode cX12_nextHeaps 88 = .ok (.if_icmp .ge 17, 3) := by decide +kernel
theorem dX12_nextHeaps_91 : decode cX12_nextHeaps 91 = .ok (.aload_n 0, 1) := by decide +kernel
theorem dX12_nextHeaps_92 : decode cX12_nextHeaps 92 = .ok (.getfield 66, 3) := by decide +kernel
theorem dX12_nextHeaps_95 : decode cX12_nextHeaps 95 = .ok (.iload 4, 2) := by decide +kernel
theorem dX12_nextHeaps_97 : decode cX12_nextHeaps 97 = .ok (.iconst 0, 1) := by decide +kernel
theorem dX12_nextHeaps_98 : decode cX12_nextHeaps 98 = .ok (.iastore, 1) := by decide +kernel
theorem dX12_nextHeaps_99 : decode cX12_nextHeaps 99 = .ok (.iinc 4 1, 3) := by decide +kernel
theorem dX12_nextHeaps_102 : decode cX12_nextHeaps 102 = .ok (.goto (-17), 3) := by decide +kernel
theorem dX12_nextHeaps_105 : decode cX12_nextHeaps 105 = .ok (.iconst 1, 1) := by decide +kernel
theorem dX12_nextHeaps_106 : decode cX12_nextHeaps 106 = .ok (.ireturn, 1) := by decide +kernel
theorem dX12_nextHeaps_107 : decode cX12_nextHeaps 107 = .ok (.iinc 3 (-1), 3) := by decide +kernel
theorem dX12_nextHeaps_110 : decode cX12_nextHeaps 110 = .ok (.goto (-59), 3) := by decide +kernel
theorem dX12_nextHeaps_113 : decode cX12_nextHeaps 113 = .ok (.iconst 0, 1) := by decide +kernel
theorem dX12_nextHeaps_114 : decode cX12_nextHeaps 114 = .ok (.ireturn, 1) := by decide +kernel
def f_X12_nextHeaps_b85 (a0 : Nat) (a1 : Int32) : Nat → Int32 → q_Mem → Option (Int32 × q_Mem)
  | 0, _, _ => none
  | n + 1, a4, M =>
    (if a4 < a1 then
      (q_gR 11 25 M a0).bind fun v31 =>
      (q_tI M v31 a4 (0 : Int32)).bind fun M33 =>
      f_X12_nextHeaps_b85 a0 a1 n (a4 + (1 : Int32)) M33
    else
      some ((1 : Int32), M))
def f_X12_nextHeaps_b70 (M : q_Mem) (a0 : Nat) (a1 : Int32) (a3 : Int32) : Option (Int32 × q_Mem) :=
  (q_gR 11 25 M a0).bind fun v25 =>
  (q_lI M v25 a3).bind fun v27 =>
  (q_tI M v25 a3 (v27 + (1 : Int32))).bind fun M29 =>
  f_X12_nextHeaps_b85 a0 a1 q_fuel (a3 + (1 : Int32)) M29
def f_X12_nextHeaps_b51 (M : q_Mem) (a0 : Nat) (a1 : Int32) : Nat → Int32 → Option (Int32 × q_Mem)
  | 0, _ => none
  | n + 1, a3 =>
    (if 0 < a3 then
      (q_gR 11 25 M a0).bind fun v15 =>
      (q_lI M v15 a3).bind fun v17 =>
      (q_gR 11 26 M a0).bind fun v19 =>
      (q_lI M v19 a3).bind fun v21 =>
      (if v17 < v21 then
        f_X12_nextHeaps_b70 M a0 a1 a3
      else
        f_X12_nextHeaps_b51 M a0 a1 n (a3 + (-1 : Int32)))
    else
      some ((0 : Int32), M))
def f_X12_nextHeaps_b4 (a0 : Nat) (a1 : Int32) : Nat → Int32 → Int32 → q_Mem → Option (Int32 × q_Mem)
  | 0, _, _, _ => none
  | n + 1, a2, a3, M =>
    (if a3 < a1 then
      (q_gR 11 26 M a0).bind fun v1 =>
      (q_tI M v1 a3 a2).bind fun M3 =>
      (q_gR 11 25 M3 a0).bind fun v5 =>
      (q_lI M3 v5 a3).bind fun v7 =>
      (if a2 < (v7 + (1 : Int32)) then
        (q_gR 11 25 M3 a0).bind fun v9 =>
        (q_lI M3 v9 a3).bind fun v11 =>
        f_X12_nextHeaps_b4 a0 a1 n (v11 + (1 : Int32)) (a3 + (1 : Int32)) M3
      else
        f_X12_nextHeaps_b4 a0 a1 n a2 (a3 + (1 : Int32)) M3)
    else
      f_X12_nextHeaps_b51 M a0 a1 q_fuel (a1 - (1 : Int32)))
def f_X12_nextHeaps (M : q_Mem) (a0 : Nat) (a1 : Int32) : Option (Int32 × q_Mem) :=
  q_ob 11 M a0 (f_X12_nextHeaps_b4 a0 a1 q_fuel (0 : Int32) (0 : Int32) M)
set_option maxRecDepth 20000 in
theorem v_X12_nextHeaps_b85 {a0 : Nat} {a1 : Int32}  : ∀ (n : Nat) (a4 : Int32) (M : q_Mem), q_V Y_X12_nextHeaps none (fun x : Int32 × q_Mem => (some (.int x.1), x.2)) 0 0 85 [(0, .ref a0), (1, .int a1), (4, .int a4)] [] M (f_X12_nextHeaps_b85 a0 a1 n a4 M) := by
  intro n
  induction n with
  | zero => intro a4 M; exact q_none
  | succ n ih =>
    intro a4 M
    rw [f_X12_nextHeaps_b85.eq_2]
    refine q_iload 2 dX12_nextHeaps_85 rfl ?_
    refine q_iload_n 1 dX12_nextHeaps_87 rfl ?_
    refine q_icmp_ge (tgt := 105) dX12_nextHeaps_88 (by decide) (fun c35 => ?_) (fun c35 => ?_)
    · refine q_aload_n 0 dX12_nextHeaps_91 rfl ?_
      refine q_getR (f := 25) cl_X12 (by decide) qw_1141 rfl dX12_nextHeaps_92 (fun _ _ _ => rfl) (fun v31 h32 => ?_)
      refine q_iload 2 dX12_nextHeaps_95 rfl ?_
      refine q_iconst (x := (0 : Int32)) dX12_nextHeaps_97 rfl ?_
      refine q_iast dX12_nextHeaps_98 (fun M33 h34 => ?_)
      refine q_iinc 2 (y := (a4 + (1 : Int32))) (ls' := [(4, .int (a4 + (1 : Int32))), (0, .ref a0), (1, .int a1)]) dX12_nextHeaps_99 rfl rfl (by decide) rfl ?_
      refine q_goto (tgt := 85) dX12_nextHeaps_102 (by decide) ?_
      refine q_sub (ls' := [(0, .ref a0), (1, .int a1), (4, .int (a4 + (1 : Int32)))]) [1, 2, 0] rfl ?_
      exact ih _ _
    · refine q_iconst (x := (1 : Int32)) dX12_nextHeaps_105 rfl ?_
      exact q_zretL dX12_nextHeaps_106 rfl (Or.inr rfl) rfl (Nat.le_of_ble_eq_true rfl) rfl
set_option maxRecDepth 20000 in
theorem v_X12_nextHeaps_b70 {M : q_Mem} {a0 : Nat} {a1 : Int32} {a3 : Int32}  : q_V Y_X12_nextHeaps none (fun x : Int32 × q_Mem => (some (.int x.1), x.2)) 0 0 70 [(0, .ref a0), (1, .int a1), (3, .int a3)] [] M (f_X12_nextHeaps_b70 M a0 a1 a3 ) := by
  unfold f_X12_nextHeaps_b70
  refine q_aload_n 0 dX12_nextHeaps_70 rfl ?_
  refine q_getR (f := 25) cl_X12 (by decide) qw_1141 rfl dX12_nextHeaps_71 (fun _ _ _ => rfl) (fun v25 h26 => ?_)
  refine q_iload_n 2 dX12_nextHeaps_74 rfl ?_
  refine q_dup2 dX12_nextHeaps_75 rfl rfl ?_
  refine q_iald dX12_nextHeaps_76 (fun v27 h28 => ?_)
  refine q_iconst (x := (1 : Int32)) dX12_nextHeaps_77 rfl ?_
  refine q_iadd dX12_nextHeaps_78 ?_
  refine q_iast dX12_nextHeaps_79 (fun M29 h30 => ?_)
  refine q_iload_n 2 dX12_nextHeaps_80 rfl ?_
  refine q_iconst (x := (1 : Int32)) dX12_nextHeaps_81 rfl ?_
  refine q_iadd dX12_nextHeaps_82 ?_
  refine q_istore (ls' := [(4, .int (a3 + (1 : Int32))), (0, .ref a0), (1, .int a1), (3, .int a3)]) dX12_nextHeaps_83 (by decide) rfl ?_
  refine q_sub (ls' := [(0, .ref a0), (1, .int a1), (4, .int (a3 + (1 : Int32)))]) [1, 2, 0] rfl ?_
  exact v_X12_nextHeaps_b85 _ _ _
set_option maxRecDepth 20000 in
theorem v_X12_nextHeaps_b51 {M : q_Mem} {a0 : Nat} {a1 : Int32}  : ∀ (n : Nat) (a3 : Int32), q_V Y_X12_nextHeaps none (fun x : Int32 × q_Mem => (some (.int x.1), x.2)) 0 0 51 [(0, .ref a0), (1, .int a1), (3, .int a3)] [] M (f_X12_nextHeaps_b51 M a0 a1 n a3) := by
  intro n
  induction n with
  | zero => intro a3; exact q_none
  | succ n ih =>
    intro a3
    rw [f_X12_nextHeaps_b51.eq_2]
    refine q_iload_n 2 dX12_nextHeaps_51 rfl ?_
    refine q_if_le (tgt := 113) dX12_nextHeaps_52 (by decide) (fun c24 => ?_) (fun c24 => ?_)
    · refine q_aload_n 0 dX12_nextHeaps_55 rfl ?_
      refine q_getR (f := 25) cl_X12 (by decide) qw_1141 rfl dX12_nextHeaps_56 (fun _ _ _ => rfl) (fun v15 h16 => ?_)
      refine q_iload_n 2 dX12_nextHeaps_59 rfl ?_
      refine q_iald dX12_nextHeaps_60 (fun v17 h18 => ?_)
      refine q_aload_n 0 dX12_nextHeaps_61 rfl ?_
      refine q_getR (f := 26) cl_X12 (by decide) qw_1142 rfl dX12_nextHeaps_62 (fun _ _ _ => rfl) (fun v19 h20 => ?_)
      refine q_iload_n 2 dX12_nextHeaps_65 rfl ?_
      refine q_iald dX12_nextHeaps_66 (fun v21 h22 => ?_)
      refine q_icmp_ge (tgt := 107) dX12_nextHeaps_67 (by decide) (fun c23 => ?_) (fun c23 => ?_)
      · exact v_X12_nextHeaps_b70
      · refine q_iinc 2 (y := (a3 + (-1 : Int32))) (ls' := [(3, .int (a3 + (-1 : Int32))), (0, .ref a0), (1, .int a1)]) dX12_nextHeaps_107 rfl rfl (by decide) rfl ?_
        refine q_goto (tgt := 51) dX12_nextHeaps_110 (by decide) ?_
        refine q_sub (ls' := [(0, .ref a0), (1, .int a1), (3, .int (a3 + (-1 : Int32)))]) [1, 2, 0] rfl ?_
        exact ih _
    · refine q_iconst (x := (0 : Int32)) dX12_nextHeaps_113 rfl ?_
      exact q_zretL dX12_nextHeaps_114 rfl (Or.inl rfl) rfl (Nat.le_of_ble_eq_true rfl) rfl
set_option maxRecDepth 20000 in
theorem v_X12_nextHeaps_b4 {a0 : Nat} {a1 : Int32}  : ∀ (n : Nat) (a2 : Int32) (a3 : Int32) (M : q_Mem), q_V Y_X12_nextHeaps none (fun x : Int32 × q_Mem => (some (.int x.1), x.2)) 0 0 4 [(0, .ref a0), (1, .int a1), (2, .int a2), (3, .int a3)] [] M (f_X12_nextHeaps_b4 a0 a1 n a2 a3 M) := by
  intro n
  induction n with
  | zero => intro a2 a3 M; exact q_none
  | succ n ih =>
    intro a2 a3 M
    rw [f_X12_nextHeaps_b4.eq_2]
    refine q_iload_n 3 dX12_nextHeaps_4 rfl ?_
    refine q_iload_n 1 dX12_nextHeaps_5 rfl ?_
    refine q_icmp_ge (tgt := 47) dX12_nextHeaps_6 (by decide) (fun c14 => ?_) (fun c14 => ?_)
    · refine q_aload_n 0 dX12_nextHeaps_9 rfl ?_
      refine q_getR (f := 26) cl_X12 (by decide) qw_1142 rfl dX12_nextHeaps_10 (fun _ _ _ => rfl) (fun v1 h2 => ?_)
      refine q_iload_n 3 dX12_nextHeaps_13 rfl ?_
      refine q_iload_n 2 dX12_nextHeaps_14 rfl ?_
      refine q_iast dX12_nextHeaps_15 (fun M3 h4 => ?_)
      refine q_aload_n 0 dX12_nextHeaps_16 rfl ?_
      refine q_getR (f := 25) cl_X12 (by decide) qw_1141 rfl dX12_nextHeaps_17 (fun _ _ _ => rfl) (fun v5 h6 => ?_)
      refine q_iload_n 3 dX12_nextHeaps_20 rfl ?_
      refine q_iald dX12_nextHeaps_21 (fun v7 h8 => ?_)
      refine q_iconst (x := (1 : Int32)) dX12_nextHeaps_22 rfl ?_
      refine q_iadd dX12_nextHeaps_23 ?_
      refine q_iload_n 2 dX12_nextHeaps_24 rfl ?_
      refine q_icmp_le (tgt := 39) dX12_nextHeaps_25 (by decide) (fun c13 => ?_) (fun c13 => ?_)
      · refine q_aload_n 0 dX12_nextHeaps_28 rfl ?_
        refine q_getR (f := 25) cl_X12 (by decide) qw_1141 rfl dX12_nextHeaps_29 (fun _ _ _ => rfl) (fun v9 h10 => ?_)
        refine q_iload_n 3 dX12_nextHeaps_32 rfl ?_
        refine q_iald dX12_nextHeaps_33 (fun v11 h12 => ?_)
        refine q_iconst (x := (1 : Int32)) dX12_nextHeaps_34 rfl ?_
        refine q_iadd dX12_nextHeaps_35 ?_
        refine q_goto (tgt := 40) dX12_nextHeaps_36 (by decide) ?_
        refine q_istore_n (ls' := [(2, .int (v11 + (1 : Int32))), (0, .ref a0), (1, .int a1), (3, .int a3)]) dX12_nextHeaps_40 (by decide) rfl ?_
        refine q_iinc 3 (y := (a3 + (1 : Int32))) (ls' := [(3, .int (a3 + (1 : Int32))), (2, .int (v11 + (1 : Int32))), (0, .ref a0), (1, .int a1)]) dX12_nextHeaps_41 rfl rfl (by decide) rfl ?_
        refine q_goto (tgt := 4) dX12_nextHeaps_44 (by decide) ?_
        refine q_sub (ls' := [(0, .ref a0), (1, .int a1), (2, .int (v11 + (1 : Int32))), (3, .int (a3 + (1 : Int32)))]) [2, 3, 1, 0] rfl ?_
        exact ih _ _ _
      · refine q_iload_n 2 dX12_nextHeaps_39 rfl ?_
        refine q_istore_n (ls' := [(2, .int a2), (0, .ref a0), (1, .int a1), (3, .int a3)]) dX12_nextHeaps_40 (by decide) rfl ?_
        refine q_iinc 3 (y := (a3 + (1 : Int32))) (ls' := [(3, .int (a3 + (1 : Int32))), (2, .int a2), (0, .ref a0), (1, .int a1)]) dX12_nextHeaps_41 rfl rfl (by decide) rfl ?_
        refine q_goto (tgt := 4) dX12_nextHeaps_44 (by decide) ?_
        refine q_sub (ls' := [(0, .ref a0), (1, .int a1), (2, .int a2), (3, .int (a3 + (1 : Int32)))]) [2, 3, 1, 0] rfl ?_
        exact ih _ _ _
    · refine q_iload_n 1 dX12_nextHeaps_47 rfl ?_
      refine q_iconst (x := (1 : Int32)) dX12_nextHeaps_48 rfl ?_
      refine q_isub dX12_nextHeaps_49 ?_
      refine q_istore_n (ls' := [(3, .int (a1 - (1 : Int32))), (0, .ref a0), (1, .int a1), (2, .int a2)]) dX12_nextHeaps_50 (by decide) rfl ?_
      refine q_sub (ls' := [(0, .ref a0), (1, .int a1), (3, .int (a1 - (1 : Int32)))]) [1, 2, 0] rfl ?_
      exact v_X12_nextHeaps_b51 _ _
set_option maxRecDepth 20000 in
theorem m_X12_nextHeaps {M : q_Mem} {a0 : Nat} {a1 : Int32} {x : (Int32 × q_Mem)} (h : f_X12_nextHeaps M a0 a1 = some x) : q_C Y_X12_nextHeaps [.ref a0, .int a1] M (some (.int x.1)) x.2 := by
  refine q_met (φ := (fun x : Int32 × q_Mem => (some (.int x.1), x.2))) (r := f_X12_nextHeaps M a0 a1) (by decide +kernel) (Nat.le_of_ble_eq_true rfl) ?_ h (fun _ _ => rfl)
  show q_V Y_X12_nextHeaps none (fun x : Int32 × q_Mem => (some (.int x.1), x.2)) 0 0 0 [(0, .ref a0), (1, .int a1)] [] M (f_X12_nextHeaps M a0 a1)
  unfold f_X12_nextHeaps
  refine q_obV ?_
  refine q_iconst (x := (0 : Int32)) dX12_nextHeaps_0 rfl ?_
  refine q_istore_n (ls' := [(2, .int (0 : Int32)), (0, .ref a0), (1, .int a1)]) dX12_nextHeaps_1 (by decide) rfl ?_
  refine q_iconst (x := (0 : Int32)) dX12_nextHeaps_2 rfl ?_
  refine q_istore_n (ls' := [(3, .int (0 : Int32)), (2, .int (0 : Int32)), (0, .ref a0), (1, .int a1)]) dX12_nextHeaps_3 (by decide) rfl ?_
  refine q_sub (ls' := [(0, .ref a0), (1, .int a1), (2, .int (0 : Int32)), (3, .int (0 : Int32))]) [2, 3, 1, 0] rfl ?_
  exact v_X12_nextHeaps_b4 _ _ _ _
theorem dX12_findHeaps_0 : decode cX12_findHeaps 0 = .ok (.aload_n 0, 1) := by decide +kernel
theorem dX12_findHeaps_1 : decode cX12_findHeaps 1 = .ok (.getfield 7, 3) := by decide +kernel
theorem dX12_findHeaps_4 : decode cX12_findHeaps 4 = .ok (.bipush 6, 2) := by decide +kernel
theorem dX12_findHeaps_6 : decode cX12_findHeaps 6 = .ok (.iaload, 1) := by decide +kernel
theorem dX12_findHeaps_7 : decode cX12_findHeaps 7 = .ok (.istore_n 2, 1) := by decide +kernel
theorem dX12_findHeaps_8 : decode cX12_findHeaps 8 = .ok (.iconst 1, 1) := by decide +kernel
theorem dX12_findHeaps_9 : decode cX12_findHeaps 9 = .ok (.istore_n 3, 1) := by decide +kernel
theorem dX12_findHeaps_10 : decode cX12_findHeaps 10 = .ok (.iload_n 3, 1) := by decide +kernel
theorem dX12_findHeaps_11 : decode cX12_findHeaps 11 = .ok (.iconst 1, 1) := by decide +kernel
theorem dX12_findHeaps_12 : decode cX12_findHeaps 12 = .ok (.iload_n 2, 1) := by decide +kernel
theorem dX12_findHeaps_13 : decode cX12_findHeaps 13 = .ok (.ishl, 1) := by decide +kernel
theorem dX12_findHeaps_14 : decode cX12_findHeaps 14 = .ok (.if_icmp .ge 20, 3) := by decide +kernel
theorem dX12_findHeaps_17 : decode cX12_findHeaps 17 = .ok (.aload_n 0, 1) := by decide +kernel
theorem dX12_findHeaps_18 : decode cX12_findHeaps 18 = .ok (.getfield 63, 3) := by decide +kernel
theorem dX12_findHeaps_21 : decode cX12_findHeaps 21 = .ok (.iload_n 3, 1) := by decide +kernel
theorem dX12_findHeaps_22 : decode cX12_findHeaps 22 = .ok (.aload_n 0, 1) := by decide +kernel
theorem dX12_findHeaps_23 : decode cX12_findHeaps 23 = .ok (.iload_n 3, 1) := by decide +kernel
theorem dX12_findHeaps_24 : decode cX12_findHeaps 24 = .ok (.invokevirtual 303, 3) := by decide +kernel
theorem dX12_findHeaps_27 : decode cX12_findHeaps 27 = .ok (.lastore, 1) := by decide +kernel
theorem dX12_findHeaps_28 : decode cX12_findHeaps 28 = .ok (.iinc 3 1, 3) := by decide +kernel
theorem dX12_findHeaps_31 : decode cX12_findHeaps 31 = .ok (.goto (-21), 3) := by decide +kernel
theorem dX12_findHeaps_34 : decode cX12_findHeaps 34 = .ok (.aload_n 0, 1) := by decide +kernel
theorem dX12_findHeaps_35 : decode cX12_findHeaps 35 = .ok (.ldc2_w 306, 3) := by decide +kernel
theorem dX12_findHeaps_38 : decode cX12_findHeaps 38 = .ok (.putfield 308, 3) := by decide +kernel
theorem dX12_findHeaps_41 : decode cX12_findHeaps 41 = .ok (.aload_n 0, 1) := by decide +kernel
theorem dX12_findHeaps_42 : decode cX12_findHeaps 42 = .ok (.iconst 0, 1) := by decide +kernel
theorem dX12_findHeaps_43 : decode cX12_findHeaps 43 = .ok (.putfield 312, 3) := by decide +kernel
theorem dX12_findHeaps_46 : decode cX12_findHeaps 46 = .ok (.iconst 0, 1) := by decide +kernel
theorem dX12_findHeaps_47 : decode cX12_findHeaps 47 = .ok (.istore_n 3, 1) := by decide +kernel
theorem dX12_findHeaps_48 : decode cX12_findHeaps 48 = .ok (.iload_n 3, 1) := by decide +kernel
theorem dX12_findHeaps_49 : decode cX12_findHeaps 49 = .ok (.iload_n 2, 1) := by decide +kernel
theorem dX12_findHeaps_50 : decode cX12_findHeaps 50 = .ok (.if_icmp .ge 16, 3) := by decide +kernel
theorem dX12_findHeaps_53 : decode cX12_findHeaps 53 = .ok (.aload_n 0, 1) := by decide +kernel
theorem dX12_findHeaps_54 : decode cX12_findHeaps 54 = .ok (.getfield 66, 3) := by decide +kernel
theorem dX12_findHeaps_57 : decode cX12_findHeaps 57 = .ok (.iload_n 3, 1) := by decide +kernel
theorem dX12_findHeaps_58 : decode cX12_findHeaps 58 = .ok (.iconst 0, 1) := by decide +kernel
theorem dX12_findHeaps_59 : decode cX12_findHeaps 59 = .ok (.iastore, 1) := by decide +kernel
theorem dX12_findHeaps_60 : decode cX12_findHeaps 60 = .ok (.iinc 3 1, 3) := by decide +kernel
theorem dX12_findHeaps_63 : decode cX12_findHeaps 63 = .ok (.goto (-15), 3) := by decide +kernel
theorem dX12_findHeaps_66 : decode cX12_findHeaps 66 = .ok (.iload_n 2, 1) := by decide +kernel
theorem dX12_findHeaps_67 : decode cX12_findHeaps 67 = .ok (.ifCond .le 7, 3) := by decide +kernel
theorem dX12_findHeaps_70 : decode cX12_findHeaps 70 = .ok (.iconst 1, 1) := by decide +kernel
theorem dX12_findHeaps_71 : decode cX12_findHeaps 71 = .ok (.goto 4, 3) := by decide +kernel
theorem dX12_findHeaps_74 : decode cX12_findHeaps 74 = .ok (.iconst 0, 1) := by decide +kernel
theorem dX12_findHeaps_75 : decode cX12_findHeaps 75 = .ok (.istore_n 3, 1) := by decide +kernel
theorem dX12_findHeaps_76 : decode cX12_findHeaps 76 = .ok (.iload_n 3, 1) := by decide +kernel
theorem dX12_findHeaps_77 : decode cX12_findHeaps 77 = .ok (.ifCond .eq 18, 3) := by decide +kernel
theorem dX12_findHeaps_80 : decode cX12_findHeaps 80 = .ok (.aload_n 0, 1) := by decide +kernel
theorem dX12_findHeaps_81 : decode cX12_findHeaps 81 = .ok (.iload_n 2, 1) := by decide +kernel
theorem dX12_findHeaps_82 : decode cX12_findHeaps 82 = .ok (.iload_n 1, 1) := by decide +kernel
theorem dX12_findHeaps_83 : decode cX12_findHeaps 83 = .ok (.invokevirtual 315, 3) := by decide +kernel
theorem dX12_findHeaps_86 : decode cX12_findHeaps 86 = .ok (.aload_n 0, 1) := by decide +kernel
theorem dX12_findHeaps_87 : decode cX12_findHeaps 87 = .ok (.iload_n 2, 1) := by decide +kernel
theorem dX12_findHeaps_88 : decode cX12_findHeaps 88 = .ok (.invokevirtual 318, 3) := by decide +kernel
theorem dX12_findHeaps_91 : decode cX12_findHeaps 91 = .ok (.istore_n 3, 1) := by decide +kernel
theorem dX12_findHeaps_92 : decode cX12_findHeaps 92 = .ok (.goto (-16), 3) := by decide +kernel
theorem dX12_findHeaps_95 : decode cX12_findHeaps 95 = .ok (.return_, 1) := by decide +kernel
def f_X12_findHeaps_b76 (a0 : Nat) (a1 : Int32) (a2 : Int32) : Nat → Int32 → q_Mem → Option q_Mem
  | 0, _, _ => none
  | n + 1, a3, M =>
    (if a3 = 0 then
      some M
    else
      (f_X12_weighs M a0 a2 a1).bind fun M24 =>
      (f_X12_nextHeaps M24 a0 a2).bind fun r26 =>
      f_X12_findHeaps_b76 a0 a1 a2 n r26.1 r26.2)
def f_X12_findHeaps_b66 (M : q_Mem) (a0 : Nat) (a1 : Int32) (a2 : Int32) : Option q_Mem :=
  (if 0 < a2 then
    f_X12_findHeaps_b76 a0 a1 a2 q_fuel (1 : Int32) M
  else
    f_X12_findHeaps_b76 a0 a1 a2 q_fuel (0 : Int32) M)
def f_X12_findHeaps_b48 (a0 : Nat) (a1 : Int32) (a2 : Int32) : Nat → Int32 → q_Mem → Option q_Mem
  | 0, _, _ => none
  | n + 1, a3, M =>
    (if a3 < a2 then
      (q_gR 11 25 M a0).bind fun v16 =>
      (q_tI M v16 a3 (0 : Int32)).bind fun M18 =>
      f_X12_findHeaps_b48 a0 a1 a2 n (a3 + (1 : Int32)) M18
    else
      f_X12_findHeaps_b66 M a0 a1 a2)
def f_X12_findHeaps_b34 (M : q_Mem) (a0 : Nat) (a1 : Int32) (a2 : Int32) : Option q_Mem :=
  (q_pJ 11 29 M a0 (-1 : Int64)).bind fun M12 =>
  (q_pI 11 30 M12 a0 (0 : Int32)).bind fun M14 =>
  f_X12_findHeaps_b48 a0 a1 a2 q_fuel (0 : Int32) M14
def f_X12_findHeaps_b10 (a0 : Nat) (a1 : Int32) (a2 : Int32) : Nat → Int32 → q_Mem → Option q_Mem
  | 0, _, _ => none
  | n + 1, a3, M =>
    (if a3 < ((1 : Int32) <<< (a2 &&& 31)) then
      (q_gR 11 24 M a0).bind fun v5 =>
      (f_X12_lossOfHeap M a0 a3).bind fun v8 =>
      (q_tJ M v5 a3 v8).bind fun M9 =>
      f_X12_findHeaps_b10 a0 a1 a2 n (a3 + (1 : Int32)) M9
    else
      f_X12_findHeaps_b34 M a0 a1 a2)
def f_X12_findHeaps (M : q_Mem) (a0 : Nat) (a1 : Int32) : Option q_Mem :=
  q_ob 11 M a0 ((q_gR 11 0 M a0).bind fun v1 =>
  (q_lI M v1 (6 : Int32)).bind fun v3 =>
  f_X12_findHeaps_b10 a0 a1 v3 q_fuel (1 : Int32) M)
set_option maxRecDepth 20000 in
theorem v_X12_findHeaps_b76 {a0 : Nat} {a1 : Int32} {a2 : Int32}  : ∀ (n : Nat) (a3 : Int32) (M : q_Mem), q_V Y_X12_findHeaps none (fun x : q_Mem => (none, x)) 0 0 76 [(0, .ref a0), (1, .int a1), (2, .int a2), (3, .int a3)] [] M (f_X12_findHeaps_b76 a0 a1 a2 n a3 M) := by
  intro n
  induction n with
  | zero => intro a3 M; exact q_none
  | succ n ih =>
    intro a3 M
    rw [f_X12_findHeaps_b76.eq_2]
    refine q_iload_n 3 dX12_findHeaps_76 rfl ?_
    refine q_if_eq (tgt := 95) dX12_findHeaps_77 (by decide) (fun c27 => ?_) (fun c27 => ?_)
    · exact q_vret dX12_findHeaps_95 rfl rfl (Nat.le_of_ble_eq_true rfl) rfl
    · refine q_aload_n 0 dX12_findHeaps_80 rfl ?_
      refine q_iload_n 2 dX12_findHeaps_81 rfl ?_
      refine q_iload_n 1 dX12_findHeaps_82 rfl ?_
      refine q_cVM (Y2 := Y_X12_weighs) (As := [.int a2, .int a1]) (b := a0) (st := []) cl_X12 mv_X12_weighs qw_1599 dX12_findHeaps_83 ⟨Nat.le_of_ble_eq_true rfl, Nat.le_of_ble_eq_true rfl⟩ rfl (fun _ _ => rfl) (Nat.le_of_ble_eq_true rfl) ⟨Nat.le_of_ble_eq_true rfl, Nat.le_of_ble_eq_true rfl⟩ (fun M24 h22 => q_ob_is h22) (fun M24 h22 => m_X12_weighs h22) (fun M24 h22 => ?_)
      refine q_aload_n 0 dX12_findHeaps_86 rfl ?_
      refine q_iload_n 2 dX12_findHeaps_87 rfl ?_
      refine q_cVMI (Y2 := Y_X12_nextHeaps) (As := [.int a2]) (b := a0) (st := []) cl_X12 mv_X12_nextHeaps qw_1603 dX12_findHeaps_88 ⟨Nat.le_of_ble_eq_true rfl, Nat.le_of_ble_eq_true rfl⟩ rfl (fun _ _ => rfl) (Nat.le_of_ble_eq_true rfl) ⟨Nat.le_of_ble_eq_true rfl, Nat.le_of_ble_eq_true rfl⟩ (fun r26 h25 => q_ob_is h25) (fun r26 h25 => m_X12_nextHeaps h25) (fun r26 h25 => ?_)
      refine q_istore_n (ls' := [(3, .int r26.1), (0, .ref a0), (1, .int a1), (2, .int a2)]) dX12_findHeaps_91 (by decide) rfl ?_
      refine q_goto (tgt := 76) dX12_findHeaps_92 (by decide) ?_
      refine q_sub (ls' := [(0, .ref a0), (1, .int a1), (2, .int a2), (3, .int r26.1)]) [1, 2, 3, 0] rfl ?_
      exact ih _ _
set_option maxRecDepth 20000 in
theorem v_X12_findHeaps_b66 {M : q_Mem} {a0 : Nat} {a1 : Int32} {a2 : Int32}  : q_V Y_X12_findHeaps none (fun x : q_Mem => (none, x)) 0 0 66 [(0, .ref a0), (1, .int a1), (2, .int a2)] [] M (f_X12_findHeaps_b66 M a0 a1 a2 ) := by
  unfold f_X12_findHeaps_b66
  refine q_iload_n 2 dX12_findHeaps_66 rfl ?_
  refine q_if_le (tgt := 74) dX12_findHeaps_67 (by decide) (fun c21 => ?_) (fun c21 => ?_)
  · refine q_iconst (x := (1 : Int32)) dX12_findHeaps_70 rfl ?_
    refine q_goto (tgt := 75) dX12_findHeaps_71 (by decide) ?_
    refine q_istore_n (ls' := [(3, .int (1 : Int32)), (0, .ref a0), (1, .int a1), (2, .int a2)]) dX12_findHeaps_75 (by decide) rfl ?_
    refine q_sub (ls' := [(0, .ref a0), (1, .int a1), (2, .int a2), (3, .int (1 : Int32))]) [1, 2, 3, 0] rfl ?_
    exact v_X12_findHeaps_b76 _ _ _
  · refine q_iconst (x := (0 : Int32)) dX12_findHeaps_74 rfl ?_
    refine q_istore_n (ls' := [(3, .int (0 : Int32)), (0, .ref a0), (1, .int a1), (2, .int a2)]) dX12_findHeaps_75 (by decide) rfl ?_
    refine q_sub (ls' := [(0, .ref a0), (1, .int a1), (2, .int a2), (3, .int (0 : Int32))]) [1, 2, 3, 0] rfl ?_
    exact v_X12_findHeaps_b76 _ _ _
set_option maxRecDepth 20000 in
theorem v_X12_findHeaps_b48 {a0 : Nat} {a1 : Int32} {a2 : Int32}  : ∀ (n : Nat) (a3 : Int32) (M : q_Mem), q_V Y_X12_findHeaps none (fun x : q_Mem => (none, x)) 0 0 48 [(0, .ref a0), (1, .int a1), (2, .int a2), (3, .int a3)] [] M (f_X12_findHeaps_b48 a0 a1 a2 n a3 M) := by
  intro n
  induction n with
  | zero => intro a3 M; exact q_none
  | succ n ih =>
    intro a3 M
    rw [f_X12_findHeaps_b48.eq_2]
    refine q_iload_n 3 dX12_findHeaps_48 rfl ?_
    refine q_iload_n 2 dX12_findHeaps_49 rfl ?_
    refine q_icmp_ge (tgt := 66) dX12_findHeaps_50 (by decide) (fun c20 => ?_) (fun c20 => ?_)
    · refine q_aload_n 0 dX12_findHeaps_53 rfl ?_
      refine q_getR (f := 25) cl_X12 (by decide) qw_1141 rfl dX12_findHeaps_54 (fun _ _ _ => rfl) (fun v16 h17 => ?_)
      refine q_iload_n 3 dX12_findHeaps_57 rfl ?_
      refine q_iconst (x := (0 : Int32)) dX12_findHeaps_58 rfl ?_
      refine q_iast dX12_findHeaps_59 (fun M18 h19 => ?_)
      refine q_iinc 3 (y := (a3 + (1 : Int32))) (ls' := [(3, .int (a3 + (1 : Int32))), (0, .ref a0), (1, .int a1), (2, .int a2)]) dX12_findHeaps_60 rfl rfl (by decide) rfl ?_
      refine q_goto (tgt := 48) dX12_findHeaps_63 (by decide) ?_
      refine q_sub (ls' := [(0, .ref a0), (1, .int a1), (2, .int a2), (3, .int (a3 + (1 : Int32)))]) [1, 2, 3, 0] rfl ?_
      exact ih _ _
    · refine q_sub (ls' := [(0, .ref a0), (1, .int a1), (2, .int a2)]) [0, 1, 2] rfl ?_
      exact v_X12_findHeaps_b66
set_option maxRecDepth 20000 in
theorem v_X12_findHeaps_b34 {M : q_Mem} {a0 : Nat} {a1 : Int32} {a2 : Int32}  : q_V Y_X12_findHeaps none (fun x : q_Mem => (none, x)) 0 0 34 [(0, .ref a0), (1, .int a1), (2, .int a2)] [] M (f_X12_findHeaps_b34 M a0 a1 a2 ) := by
  unfold f_X12_findHeaps_b34
  refine q_aload_n 0 dX12_findHeaps_34 rfl ?_
  refine q_ldc2 (x := (-1 : Int64)) qw_1598 dX12_findHeaps_35 ?_
  refine q_putJ (f := 29) cl_X12 (by decide) qw_1145 rfl (Or.inl rfl) dX12_findHeaps_38 rfl (fun M12 h13 => ?_)
  refine q_aload_n 0 dX12_findHeaps_41 rfl ?_
  refine q_iconst (x := (0 : Int32)) dX12_findHeaps_42 rfl ?_
  refine q_putI (f := 30) cl_X12 (by decide) qw_1146 rfl (Or.inl rfl) dX12_findHeaps_43 rfl (fun M14 h15 => ?_)
  refine q_iconst (x := (0 : Int32)) dX12_findHeaps_46 rfl ?_
  refine q_istore_n (ls' := [(3, .int (0 : Int32)), (0, .ref a0), (1, .int a1), (2, .int a2)]) dX12_findHeaps_47 (by decide) rfl ?_
  refine q_sub (ls' := [(0, .ref a0), (1, .int a1), (2, .int a2), (3, .int (0 : Int32))]) [1, 2, 3, 0] rfl ?_
  exact v_X12_findHeaps_b48 _ _ _
set_option maxRecDepth 20000 in
theorem v_X12_findHeaps_b10 {a0 : Nat} {a1 : Int32} {a2 : Int32}  : ∀ (n : Nat) (a3 : Int32) (M : q_Mem), q_V Y_X12_findHeaps none (fun x : q_Mem => (none, x)) 0 0 10 [(0, .ref a0), (1, .int a1), (2, .int a2), (3, .int a3)] [] M (f_X12_findHeaps_b10 a0 a1 a2 n a3 M) := by
  intro n
  induction n with
  | zero => intro a3 M; exact q_none
  | succ n ih =>
    intro a3 M
    rw [f_X12_findHeaps_b10.eq_2]
    refine q_iload_n 3 dX12_findHeaps_10 rfl ?_
    refine q_iconst (x := (1 : Int32)) dX12_findHeaps_11 rfl ?_
    refine q_iload_n 2 dX12_findHeaps_12 rfl ?_
    refine q_ishl dX12_findHeaps_13 ?_
    refine q_icmp_ge (tgt := 34) dX12_findHeaps_14 (by decide) (fun c11 => ?_) (fun c11 => ?_)
    · refine q_aload_n 0 dX12_findHeaps_17 rfl ?_
      refine q_getR (f := 24) cl_X12 (by decide) qw_1140 rfl dX12_findHeaps_18 (fun _ _ _ => rfl) (fun v5 h6 => ?_)
      refine q_iload_n 3 dX12_findHeaps_21 rfl ?_
      refine q_aload_n 0 dX12_findHeaps_22 rfl ?_
      refine q_iload_n 3 dX12_findHeaps_23 rfl ?_
      refine q_cVJ (Y2 := Y_X12_lossOfHeap) (As := [.int a3]) (b := a0) (st := [.int a3, .ref v5]) cl_X12 mv_X12_lossOfHeap qw_1594 dX12_findHeaps_24 ⟨Nat.le_of_ble_eq_true rfl, Nat.le_of_ble_eq_true rfl⟩ rfl (fun _ _ => rfl) (Nat.le_of_ble_eq_true rfl) ⟨Nat.le_of_ble_eq_true rfl, Nat.le_of_ble_eq_true rfl⟩ (fun v8 h7 => q_ob_is h7) (fun v8 h7 => m_X12_lossOfHeap h7) (fun v8 h7 => ?_)
      refine q_last dX12_findHeaps_27 (fun M9 h10 => ?_)
      refine q_iinc 3 (y := (a3 + (1 : Int32))) (ls' := [(3, .int (a3 + (1 : Int32))), (0, .ref a0), (1, .int a1), (2, .int a2)]) dX12_findHeaps_28 rfl rfl (by decide) rfl ?_
      refine q_goto (tgt := 10) dX12_findHeaps_31 (by decide) ?_
      refine q_sub (ls' := [(0, .ref a0), (1, .int a1), (2, .int a2), (3, .int (a3 + (1 : Int32)))]) [1, 2, 3, 0] rfl ?_
      exact ih _ _
    · refine q_sub (ls' := [(0, .ref a0), (1, .int a1), (2, .int a2)]) [0, 1, 2] rfl ?_
      exact v_X12_findHeaps_b34
set_option maxRecDepth 20000 in
theorem m_X12_findHeaps {M : q_Mem} {a0 : Nat} {a1 : Int32} {x : q_Mem} (h : f_X12_findHeaps M a0 a1 = some x) : q_C Y_X12_findHeaps [.ref a0, .int a1] M none x := by
  refine q_met (φ := (fun x : q_Mem => (none, x))) (r := f_X12_findHeaps M a0 a1) (by decide +kernel) (Nat.le_of_ble_eq_true rfl) ?_ h (fun _ _ => rfl)
  show q_V Y_X12_findHeaps none (fun x : q_Mem => (none, x)) 0 0 0 [(0, .ref a0), (1, .int a1)] [] M (f_X12_findHeaps M a0 a1)
  unfold f_X12_findHeaps
  refine q_obV ?_
  refine q_aload_n 0 dX12_findHeaps_0 rfl ?_
  refine q_getR (f := 0) cl_X12 (by decide) qw_1117 rfl dX12_findHeaps_1 (fun _ _ _ => rfl) (fun v1 h2 => ?_)
  refine q_bipush (x := (6 : Int32)) dX12_findHeaps_4 rfl ?_
  refine q_iald dX12_findHeaps_6 (fun v3 h4 => ?_)
  refine q_istore_n (ls' := [(2, .int v3), (0, .ref a0), (1, .int a1)]) dX12_findHeaps_7 (by decide) rfl ?_
  refine q_iconst (x := (1 : Int32)) dX12_findHeaps_8 rfl ?_
  refine q_istore_n (ls' := [(3, .int (1 : Int32)), (2, .int v3), (0, .ref a0), (1, .int a1)]) dX12_findHeaps_9 (by decide) rfl ?_
  refine q_sub (ls' := [(0, .ref a0), (1, .int a1), (2, .int v3), (3, .int (1 : Int32))]) [2, 3, 1, 0] rfl ?_
  exact v_X12_findHeaps_b10 _ _ _
theorem dX12_together_0 : decode cX12_together 0 = .ok (.iload_n 1, 1) := by decide +kernel
theorem dX12_together_1 : decode cX12_together 1 = .ok (.iconst 1, 1) := by decide +kernel
theorem dX12_together_2 : decode cX12_together 2 = .ok (.iconst 5, 1) := by decide +kernel
theorem dX12_together_3 : decode cX12_together 3 = .ok (.invokestatic 78, 3) := by decide +kernel
theorem dX12_together_6 : decode cX12_together 6 = .ok (.ifCond .ne 7, 3) := by decide +kernel
theorem dX12_together_9 : decode cX12_together 9 = .ok (.ldc2_w 123, 3) := by decide +kernel
theorem dX12_together_12 : decode cX12_together 12 = .ok (.lreturn, 1) := by decide +kernel
theorem dX12_together_13 : decode cX12_together 13 = .ok (.aload_n 0, 1) := by decide +kernel
theorem dX12_together_14 : decode cX12_together 14 = .ok (.iload_n 1, 1) := by decide +kernel
theorem dX12_together_15 : decode cX12_together 15 = .ok (.invokevirtual 321, 3) := by decide +kernel
theorem dX12_together_18 : decode cX12_together 18 = .ok (.aload_n 0, 1) := by decide +kernel
theorem dX12_together_19 : decode cX12_together 19 = .ok (.getfield 308, 3) := by decide +kernel
theorem dX12_together_22 : decode cX12_together 22 = .ok (.lconst 0, 1) := by decide +kernel
theorem dX12_together_23 : decode cX12_together 23 = .ok (.lcmp, 1) := by decide +kernel
theorem dX12_together_24 : decode cX12_together 24 = .ok (.ifCond .ge 7, 3) := by decide +kernel
theorem dX12_together_27 : decode cX12_together 27 = .ok (.lconst 0, 1) := by decide +kernel
theorem dX12_together_28 : decode cX12_together 28 = .ok (.goto 7, 3) := by decide +kernel
theorem dX12_together_31 : decode cX12_together 31 = .ok (.aload_n 0, 1) := by decide +kernel
theorem dX12_together_32 : decode cX12_together 32 = .ok (.getfield 308, 3) := by decide +kernel
theorem dX12_together_35 : decode cX12_together 35 = .ok (.lreturn, 1) := by decide +kernel
def f_X12_together (M : q_Mem) (a0 : Nat) (a1 : Int32) : Option (Int64 × q_Mem) :=
  q_ob 11 M a0 ((f_X12_in M a1 (1 : Int32) (5 : Int32)).bind fun v2 =>
  (if v2 = 0 then
    some ((-2 : Int64), M)
  else
    (f_X12_findHeaps M a0 a1).bind fun M5 =>
    (q_gJ 11 29 M5 a0).bind fun v6 =>
    (if v6 < (0 : Int64) then
      some ((0 : Int64), M5)
    else
      (q_gJ 11 29 M5 a0).bind fun v8 =>
      some (v8, M5))))
set_option maxRecDepth 20000 in
theorem m_X12_together {M : q_Mem} {a0 : Nat} {a1 : Int32} {x : (Int64 × q_Mem)} (h : f_X12_together M a0 a1 = some x) : q_C Y_X12_together [.ref a0, .int a1] M (some (.long x.1)) x.2 := by
  refine q_met (φ := (fun x : Int64 × q_Mem => (some (.long x.1), x.2))) (r := f_X12_together M a0 a1) (by decide +kernel) (Nat.le_of_ble_eq_true rfl) ?_ h (fun _ _ => rfl)
  show q_V Y_X12_together none (fun x : Int64 × q_Mem => (some (.long x.1), x.2)) 0 0 0 [(0, .ref a0), (1, .int a1)] [] M (f_X12_together M a0 a1)
  unfold f_X12_together
  refine q_obV ?_
  refine q_iload_n 1 dX12_together_0 rfl ?_
  refine q_iconst (x := (1 : Int32)) dX12_together_1 rfl ?_
  refine q_iconst (x := (5 : Int32)) dX12_together_2 rfl ?_
  refine q_cSI (Y2 := Y_X12_in) (As := [.int a1, .int (1 : Int32), .int (5 : Int32)]) (st := []) ms_X12_in qw_1214 dX12_together_3 ⟨Nat.le_of_ble_eq_true rfl, Nat.le_of_ble_eq_true rfl⟩ rfl (fun _ _ => rfl) (Nat.le_of_ble_eq_true rfl) ⟨Nat.le_of_ble_eq_true rfl, Nat.le_of_ble_eq_true rfl⟩ (fun v2 h1 => m_X12_in h1) (fun v2 h1 => ?_)
  refine q_if_ne (tgt := 13) dX12_together_6 (by decide) (fun c11 => ?_) (fun c11 => ?_)
  · refine q_ldc2 (x := (-2 : Int64)) qw_1299 dX12_together_9 ?_
    exact q_lret dX12_together_12 rfl rfl (Nat.le_of_ble_eq_true rfl) rfl
  · refine q_aload_n 0 dX12_together_13 rfl ?_
    refine q_iload_n 1 dX12_together_14 rfl ?_
    refine q_cVM (Y2 := Y_X12_findHeaps) (As := [.int a1]) (b := a0) (st := []) cl_X12 mv_X12_findHeaps qw_1590 dX12_together_15 ⟨Nat.le_of_ble_eq_true rfl, Nat.le_of_ble_eq_true rfl⟩ rfl (fun _ _ => rfl) (Nat.le_of_ble_eq_true rfl) ⟨Nat.le_of_ble_eq_true rfl, Nat.le_of_ble_eq_true rfl⟩ (fun M5 h3 => q_ob_is h3) (fun M5 h3 => m_X12_findHeaps h3) (fun M5 h3 => ?_)
    refine q_aload_n 0 dX12_together_18 rfl ?_
    refine q_getJ (f := 29) cl_X12 (by decide) qw_1145 rfl dX12_together_19 rfl (fun v6 h7 => ?_)
    refine q_lconst (x := (0 : Int64)) dX12_together_22 rfl ?_
    refine q_lcmp_ge (tgt := 31) dX12_together_23 dX12_together_24 (by decide) (fun c10 => ?_) (fun c10 => ?_)
    · refine q_lconst (x := (0 : Int64)) dX12_together_27 rfl ?_
      refine q_goto (tgt := 35) dX12_together_28 (by decide) ?_
      exact q_lret dX12_together_35 rfl rfl (Nat.le_of_ble_eq_true rfl) rfl
    · refine q_aload_n 0 dX12_together_31 rfl ?_
      refine q_getJ (f := 29) cl_X12 (by decide) qw_1145 rfl dX12_together_32 rfl (fun v8 h9 => ?_)
      exact q_lret dX12_together_35 rfl rfl (Nat.le_of_ble_eq_true rfl) rfl
theorem dX12_heap_0 : decode cX12_heap 0 = .ok (.iload_n 1, 1) := by decide +kernel
theorem dX12_heap_1 : decode cX12_heap 1 = .ok (.iconst 1, 1) := by decide +kernel
theorem dX12_heap_2 : decode cX12_heap 2 = .ok (.iconst 5, 1) := by decide +kernel
theorem dX12_heap_3 : decode cX12_heap 3 = .ok (.invokestatic 78, 3) := by decide +kernel
theorem dX12_heap_6 : decode cX12_heap 6 = .ok (.ifCond .eq 13, 3) := by decide +kernel
theorem dX12_heap_9 : decode cX12_heap 9 = .ok (.aload_n 0, 1) := by decide +kernel
theorem dX12_heap_10 : decode cX12_heap 10 = .ok (.bipush 6, 2) := by decide +kernel
theorem dX12_heap_12 : decode cX12_heap 12 = .ok (.iload_n 2, 1) := by decide +kernel
theorem dX12_heap_13 : decode cX12_heap 13 = .ok (.invokevirtual 86, 3) := by decide +kernel
theorem dX12_heap_16 : decode cX12_heap 16 = .ok (.ifCond .ne 6, 3) := by decide +kernel
theorem dX12_heap_19 : decode cX12_heap 19 = .ok (.bipush (-2), 2) := by decide +kernel
theorem dX12_heap_21 : decode cX12_heap 21 = .ok (.ireturn, 1) := by decide +kernel
theorem dX12_heap_22 : decode cX12_heap 22 = .ok (.aload_n 0, 1) := by decide +kernel
theorem dX12_heap_23 : decode cX12_heap 23 = .ok (.iload_n 1, 1) := by decide +kernel
theorem dX12_heap_24 : decode cX12_heap 24 = .ok (.invokevirtual 321, 3) := by decide +kernel
theorem dX12_heap_27 : decode cX12_heap 27 = .ok (.iconst 0, 1) := by decide +kernel
theorem dX12_heap_28 : decode cX12_heap 28 = .ok (.istore_n 3, 1) := by decide +kernel
theorem dX12_heap_29 : decode cX12_heap 29 = .ok (.aload_n 0, 1) := by decide +kernel
theorem dX12_heap_30 : decode cX12_heap 30 = .ok (.getfield 72, 3) := by decide +kernel
theorem dX12_heap_33 : decode cX12_heap 33 = .ok (.iload_n 3, 1) := by decide +kernel
theorem dX12_heap_34 : decode cX12_heap 34 = .ok (.iaload, 1) := by decide +kernel
theorem dX12_heap_35 : decode cX12_heap 35 = .ok (.aload_n 0, 1) := by decide +kernel
theorem dX12_heap_36 : decode cX12_heap 36 = .ok (.getfield 72, 3) := by decide +kernel
theorem dX12_heap_39 : decode cX12_heap 39 = .ok (.iload_n 2, 1) := by decide +kernel
theorem dX12_heap_40 : decode cX12_heap 40 = .ok (.iaload, 1) := by decide +kernel
theorem dX12_heap_41 : decode cX12_heap 41 = .ok (.if_icmp .eq 9, 3) := by decide +kernel
theorem dX12_heap_44 : decode cX12_heap 44 = .ok (.iinc 3 1, 3) := by decide +kernel
theorem dX12_heap_47 : decode cX12_heap 47 = .ok (.goto (-18), 3) := by decide +kernel
theorem dX12_heap_50 : decode cX12_heap 50 = .ok (.iload_n 3, 1) := by decide +kernel
theorem dX12_heap_51 : decode cX12_heap 51 = .ok (.ireturn, 1) := by decide +kernel
def f_X12_heap_b29 (M : q_Mem) (a0 : Nat) (a2 : Int32) : Nat → Int32 → Option (Int32 × q_Mem)
  | 0, _ => none
  | n + 1, a3 =>
    (q_gR 11 27 M a0).bind fun v10 =>
    (q_lI M v10 a3).bind fun v12 =>
    (q_gR 11 27 M a0).bind fun v14 =>
    (q_lI M v14 a2).bind fun v16 =>
    (if v12 = v16 then
      some (a3, M)
    else
      f_X12_heap_b29 M a0 a2 n (a3 + (1 : Int32)))
def f_X12_heap (M : q_Mem) (a0 : Nat) (a1 : Int32) (a2 : Int32) : Option (Int32 × q_Mem) :=
  q_ob 11 M a0 ((f_X12_in M a1 (1 : Int32) (5 : Int32)).bind fun v2 =>
  (if v2 = 0 then
    some ((-2 : Int32), M)
  else
    (f_X12_is M a0 (6 : Int32) a2).bind fun v4 =>
    (if v4 = 0 then
      some ((-2 : Int32), M)
    else
      (f_X12_findHeaps M a0 a1).bind fun M7 =>
      f_X12_heap_b29 M7 a0 a2 q_fuel (0 : Int32))))
set_option maxRecDepth 20000 in
theorem v_X12_heap_b29 {M : q_Mem} {a0 : Nat} {a2 : Int32}  : ∀ (n : Nat) (a3 : Int32), q_V Y_X12_heap none (fun x : Int32 × q_Mem => (some (.int x.1), x.2)) 0 0 29 [(0, .ref a0), (2, .int a2), (3, .int a3)] [] M (f_X12_heap_b29 M a0 a2 n a3) := by
  intro n
  induction n with
  | zero => intro a3; exact q_none
  | succ n ih =>
    intro a3
    rw [f_X12_heap_b29.eq_2]
    refine q_aload_n 0 dX12_heap_29 rfl ?_
    refine q_getR (f := 27) cl_X12 (by decide) qw_1143 rfl dX12_heap_30 (fun _ _ _ => rfl) (fun v10 h11 => ?_)
    refine q_iload_n 2 dX12_heap_33 rfl ?_
    refine q_iald dX12_heap_34 (fun v12 h13 => ?_)
    refine q_aload_n 0 dX12_heap_35 rfl ?_
    refine q_getR (f := 27) cl_X12 (by decide) qw_1143 rfl dX12_heap_36 (fun _ _ _ => rfl) (fun v14 h15 => ?_)
    refine q_iload_n 1 dX12_heap_39 rfl ?_
    refine q_iald dX12_heap_40 (fun v16 h17 => ?_)
    refine q_icmp_eq (tgt := 50) dX12_heap_41 (by decide) (fun c18 => ?_) (fun c18 => ?_)
    · refine q_iload_n 2 dX12_heap_50 rfl ?_
      exact q_iret dX12_heap_51 rfl rfl (Nat.le_of_ble_eq_true rfl) rfl
    · refine q_iinc 2 (y := (a3 + (1 : Int32))) (ls' := [(3, .int (a3 + (1 : Int32))), (0, .ref a0), (2, .int a2)]) dX12_heap_44 rfl rfl (by decide) rfl ?_
      refine q_goto (tgt := 29) dX12_heap_47 (by decide) ?_
      refine q_sub (ls' := [(0, .ref a0), (2, .int a2), (3, .int (a3 + (1 : Int32)))]) [1, 2, 0] rfl ?_
      exact ih _
set_option maxRecDepth 20000 in
theorem m_X12_heap {M : q_Mem} {a0 : Nat} {a1 : Int32} {a2 : Int32} {x : (Int32 × q_Mem)} (h : f_X12_heap M a0 a1 a2 = some x) : q_C Y_X12_heap [.ref a0, .int a1, .int a2] M (some (.int x.1)) x.2 := by
  refine q_met (φ := (fun x : Int32 × q_Mem => (some (.int x.1), x.2))) (r := f_X12_heap M a0 a1 a2) (by decide +kernel) (Nat.le_of_ble_eq_true rfl) ?_ h (fun _ _ => rfl)
  show q_V Y_X12_heap none (fun x : Int32 × q_Mem => (some (.int x.1), x.2)) 0 0 0 [(0, .ref a0), (1, .int a1), (2, .int a2)] [] M (f_X12_heap M a0 a1 a2)
  unfold f_X12_heap
  refine q_obV ?_
  refine q_iload_n 1 dX12_heap_0 rfl ?_
  refine q_iconst (x := (1 : Int32)) dX12_heap_1 rfl ?_
  refine q_iconst (x := (5 : Int32)) dX12_heap_2 rfl ?_
  refine q_cSI (Y2 := Y_X12_in) (As := [.int a1, .int (1 : Int32), .int (5 : Int32)]) (st := []) ms_X12_in qw_1214 dX12_heap_3 ⟨Nat.le_of_ble_eq_true rfl, Nat.le_of_ble_eq_true rfl⟩ rfl (fun _ _ => rfl) (Nat.le_of_ble_eq_true rfl) ⟨Nat.le_of_ble_eq_true rfl, Nat.le_of_ble_eq_true rfl⟩ (fun v2 h1 => m_X12_in h1) (fun v2 h1 => ?_)
  refine q_if_eq (tgt := 19) dX12_heap_6 (by decide) (fun c9 => ?_) (fun c9 => ?_)
  · refine q_bipush (x := (-2 : Int32)) dX12_heap_19 rfl ?_
    exact q_iret dX12_heap_21 rfl rfl (Nat.le_of_ble_eq_true rfl) rfl
  · refine q_aload_n 0 dX12_heap_9 rfl ?_
    refine q_bipush (x := (6 : Int32)) dX12_heap_10 rfl ?_
    refine q_iload_n 2 dX12_heap_12 rfl ?_
    refine q_cVI (Y2 := Y_X12_is) (As := [.int (6 : Int32), .int a2]) (b := a0) (st := []) cl_X12 mv_X12_is qw_1225 dX12_heap_13 ⟨Nat.le_of_ble_eq_true rfl, Nat.le_of_ble_eq_true rfl⟩ rfl (fun _ _ => rfl) (Nat.le_of_ble_eq_true rfl) ⟨Nat.le_of_ble_eq_true rfl, Nat.le_of_ble_eq_true rfl⟩ (fun v4 h3 => q_ob_is h3) (fun v4 h3 => m_X12_is h3) (fun v4 h3 => ?_)
    refine q_if_ne (tgt := 22) dX12_heap_16 (by decide) (fun c8 => ?_) (fun c8 => ?_)
    · refine q_bipush (x := (-2 : Int32)) dX12_heap_19 rfl ?_
      exact q_iret dX12_heap_21 rfl rfl (Nat.le_of_ble_eq_true rfl) rfl
    · refine q_aload_n 0 dX12_heap_22 rfl ?_
      refine q_iload_n 1 dX12_heap_23 rfl ?_
      refine q_cVM (Y2 := Y_X12_findHeaps) (As := [.int a1]) (b := a0) (st := []) cl_X12 mv_X12_findHeaps qw_1590 dX12_heap_24 ⟨Nat.le_of_ble_eq_true rfl, Nat.le_of_ble_eq_true rfl⟩ rfl (fun _ _ => rfl) (Nat.le_of_ble_eq_true rfl) ⟨Nat.le_of_ble_eq_true rfl, Nat.le_of_ble_eq_true rfl⟩ (fun M7 h5 => q_ob_is h5) (fun M7 h5 => m_X12_findHeaps h5) (fun M7 h5 => ?_)
      refine q_iconst (x := (0 : Int32)) dX12_heap_27 rfl ?_
      refine q_istore_n (ls' := [(3, .int (0 : Int32)), (0, .ref a0), (1, .int a1), (2, .int a2)]) dX12_heap_28 (by decide) rfl ?_
      refine q_sub (ls' := [(0, .ref a0), (2, .int a2), (3, .int (0 : Int32))]) [1, 3, 0] rfl ?_
      exact v_X12_heap_b29 _ _
theorem dX12_gives_0 : decode cX12_gives 0 = .ok (.iload_n 1, 1) := by decide +kernel
theorem dX12_gives_1 : decode cX12_gives 1 = .ok (.iconst 0, 1) := by decide +kernel
theorem dX12_gives_2 : decode cX12_gives 2 = .ok (.bipush 51, 2) := by decide +kernel
theorem dX12_gives_4 : decode cX12_gives 4 = .ok (.invokestatic 78, 3) := by decide +kernel
theorem dX12_gives_7 : decode cX12_gives 7 = .ok (.ifCond .eq 14, 3) := by decide +kernel
theorem dX12_gives_10 : decode cX12_gives 10 = .ok (.iload_n 2, 1) := by decide +kernel
theorem dX12_gives_11 : decode cX12_gives 11 = .ok (.iconst 0, 1) := by decide +kernel
theorem dX12_gives_12 : decode cX12_gives 12 = .ok (.sipush 500, 3) := by decide +kernel
theorem dX12_gives_15 : decode cX12_gives 15 = .ok (.invokestatic 78, 3) := by decide +kernel
theorem dX12_gives_18 : decode cX12_gives 18 = .ok (.ifCond .ne 6, 3) := by decide +kernel
theorem dX12_gives_21 : decode cX12_gives 21 = .ok (.bipush (-2), 2) := by decide +kernel
theorem dX12_gives_23 : decode cX12_gives 23 = .ok (.ireturn, 1) := by decide +kernel
theorem dX12_gives_24 : decode cX12_gives 24 = .ok (.aload_n 0, 1) := by decide +kernel
theorem dX12_gives_25 : decode cX12_gives 25 = .ok (.getfield 7, 3) := by decide +kernel
theorem dX12_gives_28 : decode cX12_gives 28 = .ok (.sipush 4556, 3) := by decide +kernel
theorem dX12_gives_31 : decode cX12_gives 31 = .ok (.iload_n 1, 1) := by decide +kernel
theorem dX12_gives_32 : decode cX12_gives 32 = .ok (.iadd, 1) := by decide +kernel
theorem dX12_gives_33 : decode cX12_gives 33 = .ok (.iaload, 1) := by decide +kernel
theorem dX12_gives_34 : decode cX12_gives 34 = .ok (.istore_n 3, 1) := by decide +kernel
theorem dX12_gives_35 : decode cX12_gives 35 = .ok (.aload_n 0, 1) := by decide +kernel
theorem dX12_gives_36 : decode cX12_gives 36 = .ok (.getfield 7, 3) := by decide +kernel
theorem dX12_gives_39 : decode cX12_gives 39 = .ok (.sipush 4556, 3) := by decide +kernel
theorem dX12_gives_42 : decode cX12_gives 42 = .ok (.iload_n 1, 1) := by decide +kernel
theorem dX12_gives_43 : decode cX12_gives 43 = .ok (.iadd, 1) := by decide +kernel
theorem dX12_gives_44 : decode cX12_gives 44 = .ok (.iload_n 2, 1) := by decide +kernel
theorem dX12_gives_45 : decode cX12_gives 45 = .ok (.iastore, 1) := by decide +kernel
theorem dX12_gives_46 : decode cX12_gives 46 = .ok (.iload_n 3, 1) := by decide +kernel
theorem dX12_gives_47 : decode cX12_gives 47 = .ok (.ireturn, 1) := by decide +kernel
def f_X12_gives (M : q_Mem) (a0 : Nat) (a1 : Int32) (a2 : Int32) : Option (Int32 × q_Mem) :=
  q_ob 11 M a0 ((f_X12_in M a1 (0 : Int32) (51 : Int32)).bind fun v2 =>
  (if v2 = 0 then
    some ((-2 : Int32), M)
  else
    (f_X12_in M a2 (0 : Int32) (500 : Int32)).bind fun v4 =>
    (if v4 = 0 then
      some ((-2 : Int32), M)
    else
      (q_gR 11 0 M a0).bind fun v5 =>
      (q_lI M v5 ((4556 : Int32) + a1)).bind fun v7 =>
      (q_gR 11 0 M a0).bind fun v9 =>
      (q_tI M v9 ((4556 : Int32) + a1) a2).bind fun M11 =>
      some (v7, M11))))
set_option maxRecDepth 20000 in
theorem m_X12_gives {M : q_Mem} {a0 : Nat} {a1 : Int32} {a2 : Int32} {x : (Int32 × q_Mem)} (h : f_X12_gives M a0 a1 a2 = some x) : q_C Y_X12_gives [.ref a0, .int a1, .int a2] M (some (.int x.1)) x.2 := by
  refine q_met (φ := (fun x : Int32 × q_Mem => (some (.int x.1), x.2))) (r := f_X12_gives M a0 a1 a2) (by decide +kernel) (Nat.le_of_ble_eq_true rfl) ?_ h (fun _ _ => rfl)
  show q_V Y_X12_gives none (fun x : Int32 × q_Mem => (some (.int x.1), x.2)) 0 0 0 [(0, .ref a0), (1, .int a1), (2, .int a2)] [] M (f_X12_gives M a0 a1 a2)
  unfold f_X12_gives
  refine q_obV ?_
  refine q_iload_n 1 dX12_gives_0 rfl ?_
  refine q_iconst (x := (0 : Int32)) dX12_gives_1 rfl ?_
  refine q_bipush (x := (51 : Int32)) dX12_gives_2 rfl ?_
  refine q_cSI (Y2 := Y_X12_in) (As := [.int a1, .int (0 : Int32), .int (51 : Int32)]) (st := []) ms_X12_in qw_1214 dX12_gives_4 ⟨Nat.le_of_ble_eq_true rfl, Nat.le_of_ble_eq_true rfl⟩ rfl (fun _ _ => rfl) (Nat.le_of_ble_eq_true rfl) ⟨Nat.le_of_ble_eq_true rfl, Nat.le_of_ble_eq_true rfl⟩ (fun v2 h1 => m_X12_in h1) (fun v2 h1 => ?_)
  refine q_if_eq (tgt := 21) dX12_gives_7 (by decide) (fun c14 => ?_) (fun c14 => ?_)
  · refine q_bipush (x := (-2 : Int32)) dX12_gives_21 rfl ?_
    exact q_iret dX12_gives_23 rfl rfl (Nat.le_of_ble_eq_true rfl) rfl
  · refine q_iload_n 2 dX12_gives_10 rfl ?_
    refine q_iconst (x := (0 : Int32)) dX12_gives_11 rfl ?_
    refine q_sipush (x := (500 : Int32)) dX12_gives_12 rfl ?_
    refine q_cSI (Y2 := Y_X12_in) (As := [.int a2, .int (0 : Int32), .int (500 : Int32)]) (st := []) ms_X12_in qw_1214 dX12_gives_15 ⟨Nat.le_of_ble_eq_true rfl, Nat.le_of_ble_eq_true rfl⟩ rfl (fun _ _ => rfl) (Nat.le_of_ble_eq_true rfl) ⟨Nat.le_of_ble_eq_true rfl, Nat.le_of_ble_eq_true rfl⟩ (fun v4 h3 => m_X12_in h3) (fun v4 h3 => ?_)
    refine q_if_ne (tgt := 24) dX12_gives_18 (by decide) (fun c13 => ?_) (fun c13 => ?_)
    · refine q_bipush (x := (-2 : Int32)) dX12_gives_21 rfl ?_
      exact q_iret dX12_gives_23 rfl rfl (Nat.le_of_ble_eq_true rfl) rfl
    · refine q_aload_n 0 dX12_gives_24 rfl ?_
      refine q_getR (f := 0) cl_X12 (by decide) qw_1117 rfl dX12_gives_25 (fun _ _ _ => rfl) (fun v5 h6 => ?_)
      refine q_sipush (x := (4556 : Int32)) dX12_gives_28 rfl ?_
      refine q_iload_n 1 dX12_gives_31 rfl ?_
      refine q_iadd dX12_gives_32 ?_
      refine q_iald dX12_gives_33 (fun v7 h8 => ?_)
      refine q_istore_n (ls' := [(3, .int v7), (0, .ref a0), (1, .int a1), (2, .int a2)]) dX12_gives_34 (by decide) rfl ?_
      refine q_aload_n 1 dX12_gives_35 rfl ?_
      refine q_getR (f := 0) cl_X12 (by decide) qw_1117 rfl dX12_gives_36 (fun _ _ _ => rfl) (fun v9 h10 => ?_)
      refine q_sipush (x := (4556 : Int32)) dX12_gives_39 rfl ?_
      refine q_iload_n 2 dX12_gives_42 rfl ?_
      refine q_iadd dX12_gives_43 ?_
      refine q_iload_n 3 dX12_gives_44 rfl ?_
      refine q_iast dX12_gives_45 (fun M11 h12 => ?_)
      refine q_iload_n 0 dX12_gives_46 rfl ?_
      exact q_iret dX12_gives_47 rfl rfl (Nat.le_of_ble_eq_true rfl) rfl
theorem dX12_calved_0 : decode cX12_calved 0 = .ok (.aload_n 0, 1) := by decide +kernel
theorem dX12_calved_1 : decode cX12_calved 1 = .ok (.iconst 0, 1) := by decide +kernel
theorem dX12_calved_2 : decode cX12_calved 2 = .ok (.iload_n 1, 1) := by decide +kernel
theorem dX12_calved_3 : decode cX12_calved 3 = .ok (.invokevirtual 86, 3) := by decide +kernel
theorem dX12_calved_6 : decode cX12_calved 6 = .ok (.ifCond .eq 24, 3) := by decide +kernel
theorem dX12_calved_9 : decode cX12_calved 9 = .ok (.iload_n 2, 1) := by decide +kernel
theorem dX12_calved_10 : decode cX12_calved 10 = .ok (.bipush (-51), 2) := by decide +kernel
theorem dX12_calved_12 : decode cX12_calved 12 = .ok (.bipush 27, 2) := by decide +kernel
theorem dX12_calved_14 : decode cX12_calved 14 = .ok (.invokestatic 78, 3) := by decide +kernel
theorem dX12_calved_17 : decode cX12_calved 17 = .ok (.ifCond .eq 13, 3) := by decide +kernel
theorem dX12_calved_20 : decode cX12_calved 20 = .ok (.iload_n 3, 1) := by decide +kernel
theorem dX12_calved_21 : decode cX12_calved 21 = .ok (.iconst 1, 1) := by decide +kernel
theorem dX12_calved_22 : decode cX12_calved 22 = .ok (.bipush 60, 2) := by decide +kernel
theorem dX12_calved_24 : decode cX12_calved 24 = .ok (.invokestatic 78, 3) := by decide +kernel
theorem dX12_calved_27 : decode cX12_calved 27 = .ok (.ifCond .ne 6, 3) := by decide +kernel
theorem dX12_calved_30 : decode cX12_calved 30 = .ok (.bipush (-2), 2) := by decide +kernel
theorem dX12_calved_32 : decode cX12_calved 32 = .ok (.ireturn, 1) := by decide +kernel
theorem dX12_calved_33 : decode cX12_calved 33 = .ok (.aload_n 0, 1) := by decide +kernel
theorem dX12_calved_34 : decode cX12_calved 34 = .ok (.getfield 7, 3) := by decide +kernel
theorem dX12_calved_37 : decode cX12_calved 37 = .ok (.bipush 7, 2) := by decide +kernel
theorem dX12_calved_39 : decode cX12_calved 39 = .ok (.iaload, 1) := by decide +kernel
theorem dX12_calved_40 : decode cX12_calved 40 = .ok (.bipush 40, 2) := by decide +kernel
theorem dX12_calved_42 : decode cX12_calved 42 = .ok (.if_icmp .ne 6, 3) := by decide +kernel
theorem dX12_calved_45 : decode cX12_calved 45 = .ok (.bipush (-4), 2) := by decide +kernel
theorem dX12_calved_47 : decode cX12_calved 47 = .ok (.ireturn, 1) := by decide +kernel
theorem dX12_calved_48 : decode cX12_calved 48 = .ok (.sipush 4608, 3) := by decide +kernel
theorem dX12_calved_51 : decode cX12_calved 51 = .ok (.iconst 3, 1) := by decide +kernel
theorem dX12_calved_52 : decode cX12_calved 52 = .ok (.aload_n 0, 1) := by decide +kernel
theorem dX12_calved_53 : decode cX12_calved 53 = .ok (.getfield 7, 3) := by decide +kernel
theorem dX12_calved_56 : decode cX12_calved 56 = .ok (.bipush 7, 2) := by decide +kernel
theorem dX12_calved_58 : decode cX12_calved 58 = .ok (.iaload, 1) := by decide +kernel
theorem dX12_calved_59 : decode cX12_calved 59 = .ok (.imul, 1) := by decide +kernel
theorem dX12_calved_60 : decode cX12_calved 60 = .ok (.iadd, 1) := by decide +kernel
theorem dX12_calved_61 : decode cX12_calved 61 = .ok (.istore 4, 2) := by decide +kernel
theorem dX12_calved_63 : decode cX12_calved 63 = .ok (.aload_n 0, 1) := by decide +kernel
theorem dX12_calved_64 : decode cX12_calved 64 = .ok (.getfield 7, 3) := by decide +kernel
theorem dX12_calved_67 : decode cX12_calved 67 = .ok (.iload 4, 2) := by decide +kernel
theorem dX12_calved_69 : decode cX12_calved 69 = .ok (.iload_n 1, 1) := by decide +kernel
theorem dX12_calved_70 : decode cX12_calved 70 = .ok (.iastore, 1) := by decide +kernel
theorem dX12_calved_71 : decode cX12_calved 71 = .ok (.aload_n 0, 1) := by decide +kernel
theorem dX12_calved_72 : decode cX12_calved 72 = .ok (.getfield 7, 3) := by decide +kernel
theorem dX12_calved_75 : decode cX12_calved 75 = .ok (.iload 4, 2) := by decide +kernel
theorem dX12_calved_77 : decode cX12_calved 77 = .ok (.iconst 1, 1) := by decide +kernel
theorem dX12_calved_78 : decode cX12_calved 78 = .ok (.iadd, 1) := by decide +kernel
theorem dX12_calved_79 : decode cX12_calved 79 = .ok (.iload_n 2, 1) := by decide +kernel
theorem dX12_calved_80 : decode cX12_calved 80 = .ok (.iastore, 1) := by decide +kernel
theorem dX12_calved_81 : decode cX12_calved 81 = .ok (.aload_n 0, 1) := by decide +kernel
theorem dX12_calved_82 : decode cX12_calved 82 = .ok (.getfield 7, 3) := by decide +kernel
theorem dX12_calved_85 : decode cX12_calved 85 = .ok (.iload 4, 2) := by decide +kernel
theorem dX12_calved_87 : decode cX12_calved 87 = .ok (.iconst 2, 1) := by decide +kernel
theorem dX12_calved_88 : decode cX12_calved 88 = .ok (.iadd, 1) := by decide +kernel
theorem dX12_calved_89 : decode cX12_calved 89 = .ok (.iload_n 3, 1) := by decide +kernel
theorem dX12_calved_90 : decode cX12_calved 90 = .ok (.iastore, 1) := by decide +kernel
theorem dX12_calved_91 : decode cX12_calved 91 = .ok (.aload_n 0, 1) := by decide +kernel
theorem dX12_calved_92 : decode cX12_calved 92 = .ok (.bipush 7, 2) := by decide +kernel
theorem dX12_calved_94 : decode cX12_calved 94 = .ok (.invokevirtual 82, 3) := by decide +kernel
theorem dX12_calved_97 : decode cX12_calved 97 = .ok (.iconst 1, 1) := by decide +kernel
theorem dX12_calved_98 : decode cX12_calved 98 = .ok (.iadd, 1) := by decide +kernel
theorem dX12_calved_99 : decode cX12_calved 99 = .ok (.ireturn, 1) := by decide +kernel
def f_X12_calved (M : q_Mem) (a0 : Nat) (a1 : Int32) (a2 : Int32) (a3 : Int32) : Option (Int32 × q_Mem) :=
  q_ob 11 M a0 ((f_X12_is M a0 (0 : Int32) a1).bind fun v2 =>
  (if v2 = 0 then
    some ((-2 : Int32), M)
  else
    (f_X12_in M a2 (-51 : Int32) (27 : Int32)).bind fun v4 =>
    (if v4 = 0 then
      some ((-2 : Int32), M)
    else
      (f_X12_in M a3 (1 : Int32) (60 : Int32)).bind fun v6 =>
      (if v6 = 0 then
        some ((-2 : Int32), M)
      else
        (q_gR 11 0 M a0).bind fun v7 =>
        (q_lI M v7 (7 : Int32)).bind fun v9 =>
        (if v9 = (40 : Int32) then
          some ((-4 : Int32), M)
        else
          (q_gR 11 0 M a0).bind fun v11 =>
          (q_lI M v11 (7 : Int32)).bind fun v13 =>
          (q_gR 11 0 M a0).bind fun v15 =>
          (q_tI M v15 ((4608 : Int32) + ((3 : Int32) * v13)) a1).bind fun M17 =>
          (q_gR 11 0 M17 a0).bind fun v19 =>
          (q_tI M17 v19 (((4608 : Int32) + ((3 : Int32) * v13)) + (1 : Int32)) a2).bind fun M21 =>
          (q_gR 11 0 M21 a0).bind fun v23 =>
          (q_tI M21 v23 (((4608 : Int32) + ((3 : Int32) * v13)) + (2 : Int32)) a3).bind fun M25 =>
          (f_X12_more M25 a0 (7 : Int32)).bind fun r28 =>
          some ((r28.1 + (1 : Int32)), r28.2))))))
set_option maxRecDepth 20000 in
theorem m_X12_calved {M : q_Mem} {a0 : Nat} {a1 : Int32} {a2 : Int32} {a3 : Int32} {x : (Int32 × q_Mem)} (h : f_X12_calved M a0 a1 a2 a3 = some x) : q_C Y_X12_calved [.ref a0, .int a1, .int a2, .int a3] M (some (.int x.1)) x.2 := by
  refine q_met (φ := (fun x : Int32 × q_Mem => (some (.int x.1), x.2))) (r := f_X12_calved M a0 a1 a2 a3) (by decide +kernel) (Nat.le_of_ble_eq_true rfl) ?_ h (fun _ _ => rfl)
  show q_V Y_X12_calved none (fun x : Int32 × q_Mem => (some (.int x.1), x.2)) 0 0 0 [(0, .ref a0), (1, .int a1), (2, .int a2), (3, .int a3)] [] M (f_X12_calved M a0 a1 a2 a3)
  unfold f_X12_calved
  refine q_obV ?_
  refine q_aload_n 0 dX12_calved_0 rfl ?_
  refine q_iconst (x := (0 : Int32)) dX12_calved_1 rfl ?_
  refine q_iload_n 1 dX12_calved_2 rfl ?_
  refine q_cVI (Y2 := Y_X12_is) (As := [.int (0 : Int32), .int a1]) (b := a0) (st := []) cl_X12 mv_X12_is qw_1225 dX12_calved_3 ⟨Nat.le_of_ble_eq_true rfl, Nat.le_of_ble_eq_true rfl⟩ rfl (fun _ _ => rfl) (Nat.le_of_ble_eq_true rfl) ⟨Nat.le_of_ble_eq_true rfl, Nat.le_of_ble_eq_true rfl⟩ (fun v2 h1 => q_ob_is h1) (fun v2 h1 => m_X12_is h1) (fun v2 h1 => ?_)
  refine q_if_eq (tgt := 30) dX12_calved_6 (by decide) (fun c32 => ?_) (fun c32 => ?_)
  · refine q_bipush (x := (-2 : Int32)) dX12_calved_30 rfl ?_
    exact q_iret dX12_calved_32 rfl rfl (Nat.le_of_ble_eq_true rfl) rfl
  · refine q_iload_n 2 dX12_calved_9 rfl ?_
    refine q_bipush (x := (-51 : Int32)) dX12_calved_10 rfl ?_
    refine q_bipush (x := (27 : Int32)) dX12_calved_12 rfl ?_
    refine q_cSI (Y2 := Y_X12_in) (As := [.int a2, .int (-51 : Int32), .int (27 : Int32)]) (st := []) ms_X12_in qw_1214 dX12_calved_14 ⟨Nat.le_of_ble_eq_true rfl, Nat.le_of_ble_eq_true rfl⟩ rfl (fun _ _ => rfl) (Nat.le_of_ble_eq_true rfl) ⟨Nat.le_of_ble_eq_true rfl, Nat.le_of_ble_eq_true rfl⟩ (fun v4 h3 => m_X12_in h3) (fun v4 h3 => ?_)
    refine q_if_eq (tgt := 30) dX12_calved_17 (by decide) (fun c31 => ?_) (fun c31 => ?_)
    · refine q_bipush (x := (-2 : Int32)) dX12_calved_30 rfl ?_
      exact q_iret dX12_calved_32 rfl rfl (Nat.le_of_ble_eq_true rfl) rfl
    · refine q_iload_n 3 dX12_calved_20 rfl ?_
      refine q_iconst (x := (1 : Int32)) dX12_calved_21 rfl ?_
      refine q_bipush (x := (60 : Int32)) dX12_calved_22 rfl ?_
      refine q_cSI (Y2 := Y_X12_in) (As := [.int a3, .int (1 : Int32), .int (60 : Int32)]) (st := []) ms_X12_in qw_1214 dX12_calved_24 ⟨Nat.le_of_ble_eq_true rfl, Nat.le_of_ble_eq_true rfl⟩ rfl (fun _ _ => rfl) (Nat.le_of_ble_eq_true rfl) ⟨Nat.le_of_ble_eq_true rfl, Nat.le_of_ble_eq_true rfl⟩ (fun v6 h5 => m_X12_in h5) (fun v6 h5 => ?_)
      refine q_if_ne (tgt := 33) dX12_calved_27 (by decide) (fun c30 => ?_) (fun c30 => ?_)
      · refine q_bipush (x := (-2 : Int32)) dX12_calved_30 rfl ?_
        exact q_iret dX12_calved_32 rfl rfl (Nat.le_of_ble_eq_true rfl) rfl
      · refine q_aload_n 0 dX12_calved_33 rfl ?_
        refine q_getR (f := 0) cl_X12 (by decide) qw_1117 rfl dX12_calved_34 (fun _ _ _ => rfl) (fun v7 h8 => ?_)
        refine q_bipush (x := (7 : Int32)) dX12_calved_37 rfl ?_
        refine q_iald dX12_calved_39 (fun v9 h10 => ?_)
        refine q_bipush (x := (40 : Int32)) dX12_calved_40 rfl ?_
        refine q_icmp_ne (tgt := 48) dX12_calved_42 (by decide) (fun c29 => ?_) (fun c29 => ?_)
        · refine q_bipush (x := (-4 : Int32)) dX12_calved_45 rfl ?_
          exact q_iret dX12_calved_47 rfl rfl (Nat.le_of_ble_eq_true rfl) rfl
        · refine q_sipush (x := (4608 : Int32)) dX12_calved_48 rfl ?_
          refine q_iconst (x := (3 : Int32)) dX12_calved_51 rfl ?_
          refine q_aload_n 0 dX12_calved_52 rfl ?_
          refine q_getR (f := 0) cl_X12 (by decide) qw_1117 rfl dX12_calved_53 (fun _ _ _ => rfl) (fun v11 h12 => ?_)
          refine q_bipush (x := (7 : Int32)) dX12_calved_56 rfl ?_
          refine q_iald dX12_calved_58 (fun v13 h14 => ?_)
          refine q_imul dX12_calved_59 ?_
          refine q_iadd dX12_calved_60 ?_
          refine q_istore (ls' := [(4, .int ((4608 : Int32) + ((3 : Int32) * v13))), (0, .ref a0), (1, .int a1), (2, .int a2), (3, .int a3)]) dX12_calved_61 (by decide) rfl ?_
          refine q_aload_n 1 dX12_calved_63 rfl ?_
          refine q_getR (f := 0) cl_X12 (by decide) qw_1117 rfl dX12_calved_64 (fun _ _ _ => rfl) (fun v15 h16 => ?_)
          refine q_iload 0 dX12_calved_67 rfl ?_
          refine q_iload_n 2 dX12_calved_69 rfl ?_
          refine q_iast dX12_calved_70 (fun M17 h18 => ?_)
          refine q_aload_n 1 dX12_calved_71 rfl ?_
          refine q_getR (f := 0) cl_X12 (by decide) qw_1117 rfl dX12_calved_72 (fun _ _ _ => rfl) (fun v19 h20 => ?_)
          refine q_iload 0 dX12_calved_75 rfl ?_
          refine q_iconst (x := (1 : Int32)) dX12_calved_77 rfl ?_
          refine q_iadd dX12_calved_78 ?_
          refine q_iload_n 3 dX12_calved_79 rfl ?_
          refine q_iast dX12_calved_80 (fun M21 h22 => ?_)
          refine q_aload_n 1 dX12_calved_81 rfl ?_
          refine q_getR (f := 0) cl_X12 (by decide) qw_1117 rfl dX12_calved_82 (fun _ _ _ => rfl) (fun v23 h24 => ?_)
          refine q_iload 0 dX12_calved_85 rfl ?_
          refine q_iconst (x := (2 : Int32)) dX12_calved_87 rfl ?_
          refine q_iadd dX12_calved_88 ?_
          refine q_iload_n 4 dX12_calved_89 rfl ?_
          refine q_iast dX12_calved_90 (fun M25 h26 => ?_)
          refine q_aload_n 1 dX12_calved_91 rfl ?_
          refine q_bipush (x := (7 : Int32)) dX12_calved_92 rfl ?_
          refine q_cVMI (Y2 := Y_X12_more) (As := [.int (7 : Int32)]) (b := a0) (st := []) cl_X12 mv_X12_more qw_1217 dX12_calved_94 ⟨Nat.le_of_ble_eq_true rfl, Nat.le_of_ble_eq_true rfl⟩ rfl (fun _ _ => rfl) (Nat.le_of_ble_eq_true rfl) ⟨Nat.le_of_ble_eq_true rfl, Nat.le_of_ble_eq_true rfl⟩ (fun r28 h27 => q_ob_is h27) (fun r28 h27 => m_X12_more h27) (fun r28 h27 => ?_)
          refine q_iconst (x := (1 : Int32)) dX12_calved_97 rfl ?_
          refine q_iadd dX12_calved_98 ?_
          exact q_iret dX12_calved_99 rfl rfl (Nat.le_of_ble_eq_true rfl) rfl
theorem dX12_foretold_0 : decode cX12_foretold 0 = .ok (.aload_n 0, 1) := by decide +kernel
theorem dX12_foretold_1 : decode cX12_foretold 1 = .ok (.iconst 0, 1) := by decide +kernel
theorem dX12_foretold_2 : decode cX12_foretold 2 = .ok (.iload_n 1, 1) := by decide +kernel
theorem dX12_foretold_3 : decode cX12_foretold 3 = .ok (.invokevirtual 86, 3) := by decide +kernel
theorem dX12_foretold_6 : decode cX12_foretold 6 = .ok (.ifCond .eq 10, 3) := by decide +kernel
theorem dX12_foretold_9 : decode cX12_foretold 9 = .ok (.iload_n 2, 1) := by decide +kernel
theorem dX12_foretold_10 : decode cX12_foretold 10 = .ok (.invokestatic 120, 3) := by decide +kernel
theorem dX12_foretold_13 : decode cX12_foretold 13 = .ok (.ifCond .ne 6, 3) := by decide +kernel
theorem dX12_foretold_16 : decode cX12_foretold 16 = .ok (.bipush (-2), 2) := by decide +kernel
theorem dX12_foretold_18 : decode cX12_foretold 18 = .ok (.ireturn, 1) := by decide +kernel
theorem dX12_foretold_19 : decode cX12_foretold 19 = .ok (.iconst 0, 1) := by decide +kernel
theorem dX12_foretold_20 : decode cX12_foretold 20 = .ok (.istore_n 3, 1) := by decide +kernel
theorem dX12_foretold_21 : decode cX12_foretold 21 = .ok (.iconst 0, 1) := by decide +kernel
theorem dX12_foretold_22 : decode cX12_foretold 22 = .ok (.istore 4, 2) := by decide +kernel
theorem dX12_foretold_24 : decode cX12_foretold 24 = .ok (.iload 4, 2) := by decide +kernel
theorem dX12_foretold_26 : decode cX12_foretold 26 = .ok (.aload_n 0, 1) := by decide +kernel
theorem dX12_foretold_27 : decode cX12_foretold 27 = .ok (.getfield 7, 3) := by decide +kernel
theorem dX12_foretold_30 : decode cX12_foretold 30 = .ok (.bipush 7, 2) := by decide +kernel
theorem dX12_foretold_32 : decode cX12_foretold 32 = .ok (.iaload, 1) := by decide +kernel
theorem dX12_foretold_33 : decode cX12_foretold 33 = .ok (.if_icmp .ge 82, 3) := by decide +kernel
theorem dX12_foretold_36 : decode cX12_foretold 36 = .ok (.sipush 4608, 3) := by decide +kernel
theorem dX12_foretold_39 : decode cX12_foretold 39 = .ok (.iconst 3, 1) := by decide +kernel
theorem dX12_foretold_40 : decode cX12_foretold 40 = .ok (.iload 4, 2) := by decide +kernel
theorem dX12_foretold_42 : decode cX12_foretold 42 = .ok (.imul, 1) := by decide +kernel
theorem dX12_foretold_43 : decode cX12_foretold 43 = .ok (.iadd, 1) := by decide +kernel
theorem dX12_foretold_44 : decode cX12_foretold 44 = .ok (.istore 5, 2) := by decide +kernel
theorem dX12_foretold_46 : decode cX12_foretold 46 = .ok (.iload_n 2, 1) := by decide +kernel
theorem dX12_foretold_47 : decode cX12_foretold 47 = .ok (.aload_n 0, 1) := by decide +kernel
theorem dX12_foretold_48 : decode cX12_foretold 48 = .ok (.getfield 7, 3) := by decide +kernel
theorem dX12_foretold_51 : decode cX12_foretold 51 = .ok (.iload 5, 2) := by decide +kernel
theorem dX12_foretold_53 : decode cX12_foretold 53 = .ok (.iconst 1, 1) := by decide +kernel
theorem dX12_foretold_54 : decode cX12_foretold 54 = .ok (.iadd, 1) := by decide +kernel
theorem dX12_foretold_55 : decode cX12_foretold 55 = .ok (.iaload, 1) := by decide +kernel
theorem dX12_foretold_56 : decode cX12_foretold 56 = .ok (.isub, 1) := by decide +kernel
theorem dX12_foretold_57 : decode cX12_foretold 57 = .ok (.istore 6, 2) := by decide +kernel
theorem dX12_foretold_59 : decode cX12_foretold 59 = .ok (.iload_n 3, 1) := by decide +kernel
theorem dX12_foretold_60 : decode cX12_foretold 60 = .ok (.aload_n 0, 1) := by decide +kernel
theorem dX12_foretold_61 : decode cX12_foretold 61 = .ok (.getfield 7, 3) := by decide +kernel
theorem dX12_foretold_64 : decode cX12_foretold 64 = .ok (.iload 5, 2) := by decide +kernel
theorem dX12_foretold_66 : decode cX12_foretold 66 = .ok (.iaload, 1) := by decide +kernel
theorem dX12_foretold_67 : decode cX12_foretold 67 = .ok (.iload_n 1, 1) := by decide +kernel
theorem dX12_foretold_68 : decode cX12_foretold 68 = .ok (.if_icmp .ne 38, 3) := by decide +kernel
theorem dX12_foretold_71 : decode cX12_foretold 71 = .ok (.iload 6, 2) := by decide +kernel
theorem dX12_foretold_73 : decode cX12_foretold 73 = .ok (.iconst 0, 1) := by decide +kernel
theorem dX12_foretold_74 : decode cX12_foretold 74 = .ok (.bipush 51, 2) := by decide +kernel
theorem dX12_foretold_76 : decode cX12_foretold 76 = .ok (.invokestatic 78, 3) := by decide +kernel
theorem dX12_foretold_79 : decode cX12_foretold 79 = .ok (.ifCond .eq 27, 3) := by decide +kernel
theorem dX12_foretold_82 : decode cX12_foretold 82 = .ok (.aload_n 0, 1) := by decide +kernel
theorem dX12_foretold_83 : decode cX12_foretold 83 = .ok (.getfield 7, 3) := by decide +kernel
theorem dX12_foretold_86 : decode cX12_foretold 86 = .ok (.iload 5, 2) := by decide +kernel
theorem dX12_foretold_88 : decode cX12_foretold 88 = .ok (.iconst 2, 1) := by decide +kernel
theorem dX12_foretold_89 : decode cX12_foretold 89 = .ok (.iadd, 1) := by decide +kernel
theorem dX12_foretold_90 : decode cX12_foretold 90 = .ok (.iaload, 1) := by decide +kernel
theorem dX12_foretold_91 : decode cX12_foretold 91 = .ok (.aload_n 0, 1) := by decide +kernel
theorem dX12_foretold_92 : decode cX12_foretold 92 = .ok (.getfield 7, 3) := by decide +kernel
theorem dX12_foretold_95 : decode cX12_foretold 95 = .ok (.sipush 4556, 3) := by decide +kernel
theorem dX12_foretold_98 : decode cX12_foretold 98 = .ok (.iload 6, 2) := by decide +kernel
theorem dX12_foretold_100 : decode cX12_foretold 100 = .ok (.iadd, 1) := by decide +kernel
theorem dX12_foretold_101 : decode cX12_foretold 101 = .ok (.iaload, 1) := by decide +kernel
theorem dX12_foretold_102 : decode cX12_foretold 102 = .ok (.imul, 1) := by decide +kernel
theorem dX12_foretold_103 : decode cX12_foretold 103 = .ok (.goto 4, 3) := by decide +kernel
theorem dX12_foretold_106 : decode cX12_foretold 106 = .ok (.iconst 0, 1) := by decide +kernel
theorem dX12_foretold_107 : decode cX12_foretold 107 = .ok (.iadd, 1) := by decide +kernel
theorem dX12_foretold_108 : decode cX12_foretold 108 = .ok (.istore_n 3, 1) := by decide +kernel
theorem dX12_foretold_109 : decode cX12_foretold 109 = .ok (.iinc 4 1, 3) := by decide +kernel
theorem dX12_foretold_112 : decode cX12_foretold 112 = .ok (.goto (-88), 3) := by decide +kernel
theorem dX12_foretold_115 : decode cX12_foretold 115 = .ok (.iload_n 3, 1) := by decide +kernel
theorem dX12_foretold_116 : decode cX12_foretold 116 = .ok (.ireturn, 1) := by decide +kernel
def f_X12_foretold_b106 (kk24 : Int32 → Int32 → Option Int32) (M : q_Mem) (a0 : Nat) (a1 : Int32) (a2 : Int32) (a4 : Int32) (s0 : Int32) : Option Int32 :=
  kk24 (s0 + (0 : Int32)) (a4 + (1 : Int32))
def f_X12_foretold_b24 (M : q_Mem) (a0 : Nat) (a1 : Int32) (a2 : Int32) : Nat → Int32 → Int32 → Option Int32
  | 0, _, _ => none
  | n + 1, a3, a4 =>
    (q_gR 11 0 M a0).bind fun v7 =>
    (q_lI M v7 (7 : Int32)).bind fun v9 =>
    (if a4 < v9 then
      (q_gR 11 0 M a0).bind fun v11 =>
      (q_lI M v11 (((4608 : Int32) + ((3 : Int32) * a4)) + (1 : Int32))).bind fun v13 =>
      (q_gR 11 0 M a0).bind fun v15 =>
      (q_lI M v15 ((4608 : Int32) + ((3 : Int32) * a4))).bind fun v17 =>
      (if v17 = a1 then
        (f_X12_in M (a2 - v13) (0 : Int32) (51 : Int32)).bind fun v20 =>
        (if v20 = 0 then
          f_X12_foretold_b106 (f_X12_foretold_b24 M a0 a1 a2 n) M a0 a1 a2 a4 a3
        else
          (q_gR 11 0 M a0).bind fun v21 =>
          (q_lI M v21 (((4608 : Int32) + ((3 : Int32) * a4)) + (2 : Int32))).bind fun v23 =>
          (q_gR 11 0 M a0).bind fun v25 =>
          (q_lI M v25 ((4556 : Int32) + (a2 - v13))).bind fun v27 =>
          f_X12_foretold_b24 M a0 a1 a2 n (a3 + (v23 * v27)) (a4 + (1 : Int32)))
      else
        f_X12_foretold_b106 (f_X12_foretold_b24 M a0 a1 a2 n) M a0 a1 a2 a4 a3)
    else
      some a3)
def f_X12_foretold (M : q_Mem) (a0 : Nat) (a1 : Int32) (a2 : Int32) : Option Int32 :=
  q_ob 11 M a0 ((f_X12_is M a0 (0 : Int32) a1).bind fun v2 =>
  (if v2 = 0 then
    some (-2 : Int32)
  else
    (f_X12_isWeek M a2).bind fun v4 =>
    (if v4 = 0 then
      some (-2 : Int32)
    else
      f_X12_foretold_b24 M a0 a1 a2 q_fuel (0 : Int32) (0 : Int32))))
set_option maxRecDepth 20000 in
theorem v_X12_foretold_b106 {kk24 : Int32 → Int32 → Option Int32} {M : q_Mem} {a0 : Nat} {a1 : Int32} {a2 : Int32} {a4 : Int32} {s0 : Int32}  (hk24 : ∀ (a3 : Int32) (a4 : Int32), q_V Y_X12_foretold none (fun x : Int32 => (some (.int x), M)) 0 0 24 [(0, .ref a0), (1, .int a1), (2, .int a2), (3, .int a3), (4, .int a4)] [] M (kk24 a3 a4)): q_V Y_X12_foretold none (fun x : Int32 => (some (.int x), M)) 0 0 106 [(0, .ref a0), (1, .int a1), (2, .int a2), (4, .int a4)] [.int s0] M (f_X12_foretold_b106 kk24 M a0 a1 a2 a4 s0) := by
  unfold f_X12_foretold_b106
  refine q_iconst (x := (0 : Int32)) dX12_foretold_106 rfl ?_
  refine q_iadd dX12_foretold_107 ?_
  refine q_istore_n (ls' := [(3, .int (s0 + (0 : Int32))), (0, .ref a0), (1, .int a1), (2, .int a2), (4, .int a4)]) dX12_foretold_108 (by decide) rfl ?_
  refine q_iinc 4 (y := (a4 + (1 : Int32))) (ls' := [(4, .int (a4 + (1 : Int32))), (3, .int (s0 + (0 : Int32))), (0, .ref a0), (1, .int a1), (2, .int a2)]) dX12_foretold_109 rfl rfl (by decide) rfl ?_
  refine q_goto (tgt := 24) dX12_foretold_112 (by decide) ?_
  refine q_sub (ls' := [(0, .ref a0), (1, .int a1), (2, .int a2), (3, .int (s0 + (0 : Int32))), (4, .int (a4 + (1 : Int32)))]) [2, 3, 4, 1, 0] rfl ?_
  exact hk24 _ _
set_option maxRecDepth 20000 in
theorem v_X12_foretold_b24 {M : q_Mem} {a0 : Nat} {a1 : Int32} {a2 : Int32}  : ∀ (n : Nat) (a3 : Int32) (a4 : Int32), q_V Y_X12_foretold none (fun x : Int32 => (some (.int x), M)) 0 0 24 [(0, .ref a0), (1, .int a1), (2, .int a2), (3, .int a3), (4, .int a4)] [] M (f_X12_foretold_b24 M a0 a1 a2 n a3 a4) := by
  intro n
  induction n with
  | zero => intro a3 a4; exact q_none
  | succ n ih =>
    intro a3 a4
    rw [f_X12_foretold_b24.eq_2]
    refine q_iload 4 dX12_foretold_24 rfl ?_
    refine q_aload_n 0 dX12_foretold_26 rfl ?_
    refine q_getR (f := 0) cl_X12 (by decide) qw_1117 rfl dX12_foretold_27 (fun _ _ _ => rfl) (fun v7 h8 => ?_)
    refine q_bipush (x := (7 : Int32)) dX12_foretold_30 rfl ?_
    refine q_iald dX12_foretold_32 (fun v9 h10 => ?_)
    refine q_icmp_ge (tgt := 115) dX12_foretold_33 (by decide) (fun c31 => ?_) (fun c31 => ?_)
    · refine q_sipush (x := (4608 : Int32)) dX12_foretold_36 rfl ?_
      refine q_iconst (x := (3 : Int32)) dX12_foretold_39 rfl ?_
      refine q_iload 4 dX12_foretold_40 rfl ?_
      refine q_imul dX12_foretold_42 ?_
      refine q_iadd dX12_foretold_43 ?_
      refine q_istore (ls' := [(5, .int ((4608 : Int32) + ((3 : Int32) * a4))), (0, .ref a0), (1, .int a1), (2, .int a2), (3, .int a3), (4, .int a4)]) dX12_foretold_44 (by decide) rfl ?_
      refine q_iload_n 3 dX12_foretold_46 rfl ?_
      refine q_aload_n 1 dX12_foretold_47 rfl ?_
      refine q_getR (f := 0) cl_X12 (by decide) qw_1117 rfl dX12_foretold_48 (fun _ _ _ => rfl) (fun v11 h12 => ?_)
      refine q_iload 0 dX12_foretold_51 rfl ?_
      refine q_iconst (x := (1 : Int32)) dX12_foretold_53 rfl ?_
      refine q_iadd dX12_foretold_54 ?_
      refine q_iald dX12_foretold_55 (fun v13 h14 => ?_)
      refine q_isub dX12_foretold_56 ?_
      refine q_istore (ls' := [(6, .int (a2 - v13)), (5, .int ((4608 : Int32) + ((3 : Int32) * a4))), (0, .ref a0), (1, .int a1), (2, .int a2), (3, .int a3), (4, .int a4)]) dX12_foretold_57 (by decide) rfl ?_
      refine q_iload_n 5 dX12_foretold_59 rfl ?_
      refine q_aload_n 2 dX12_foretold_60 rfl ?_
      refine q_getR (f := 0) cl_X12 (by decide) qw_1117 rfl dX12_foretold_61 (fun _ _ _ => rfl) (fun v15 h16 => ?_)
      refine q_iload 1 dX12_foretold_64 rfl ?_
      refine q_iald dX12_foretold_66 (fun v17 h18 => ?_)
      refine q_iload_n 3 dX12_foretold_67 rfl ?_
      refine q_icmp_ne (tgt := 106) dX12_foretold_68 (by decide) (fun c30 => ?_) (fun c30 => ?_)
      · refine q_iload 0 dX12_foretold_71 rfl ?_
        refine q_iconst (x := (0 : Int32)) dX12_foretold_73 rfl ?_
        refine q_bipush (x := (51 : Int32)) dX12_foretold_74 rfl ?_
        refine q_cSI (Y2 := Y_X12_in) (As := [.int (a2 - v13), .int (0 : Int32), .int (51 : Int32)]) (st := [.int a3]) ms_X12_in qw_1214 dX12_foretold_76 ⟨Nat.le_of_ble_eq_true rfl, Nat.le_of_ble_eq_true rfl⟩ rfl (fun _ _ => rfl) (Nat.le_of_ble_eq_true rfl) ⟨Nat.le_of_ble_eq_true rfl, Nat.le_of_ble_eq_true rfl⟩ (fun v20 h19 => m_X12_in h19) (fun v20 h19 => ?_)
        refine q_if_eq (tgt := 106) dX12_foretold_79 (by decide) (fun c29 => ?_) (fun c29 => ?_)
        · refine q_sub (ls' := [(0, .ref a0), (1, .int a1), (2, .int a2), (4, .int a4)]) [2, 3, 4, 6] rfl ?_
          exact v_X12_foretold_b106 (ih)
        · refine q_aload_n 2 dX12_foretold_82 rfl ?_
          refine q_getR (f := 0) cl_X12 (by decide) qw_1117 rfl dX12_foretold_83 (fun _ _ _ => rfl) (fun v21 h22 => ?_)
          refine q_iload 1 dX12_foretold_86 rfl ?_
          refine q_iconst (x := (2 : Int32)) dX12_foretold_88 rfl ?_
          refine q_iadd dX12_foretold_89 ?_
          refine q_iald dX12_foretold_90 (fun v23 h24 => ?_)
          refine q_aload_n 2 dX12_foretold_91 rfl ?_
          refine q_getR (f := 0) cl_X12 (by decide) qw_1117 rfl dX12_foretold_92 (fun _ _ _ => rfl) (fun v25 h26 => ?_)
          refine q_sipush (x := (4556 : Int32)) dX12_foretold_95 rfl ?_
          refine q_iload 0 dX12_foretold_98 rfl ?_
          refine q_iadd dX12_foretold_100 ?_
          refine q_iald dX12_foretold_101 (fun v27 h28 => ?_)
          refine q_imul dX12_foretold_102 ?_
          refine q_goto (tgt := 107) dX12_foretold_103 (by decide) ?_
          refine q_iadd dX12_foretold_107 ?_
          refine q_istore_n (ls' := [(3, .int (a3 + (v23 * v27))), (6, .int (a2 - v13)), (5, .int ((4608 : Int32) + ((3 : Int32) * a4))), (0, .ref a0), (1, .int a1), (2, .int a2), (4, .int a4)]) dX12_foretold_108 (by decide) rfl ?_
          refine q_iinc 6 (y := (a4 + (1 : Int32))) (ls' := [(4, .int (a4 + (1 : Int32))), (3, .int (a3 + (v23 * v27))), (6, .int (a2 - v13)), (5, .int ((4608 : Int32) + ((3 : Int32) * a4))), (0, .ref a0), (1, .int a1), (2, .int a2)]) dX12_foretold_109 rfl rfl (by decide) rfl ?_
          refine q_goto (tgt := 24) dX12_foretold_112 (by decide) ?_
          refine q_sub (ls' := [(0, .ref a0), (1, .int a1), (2, .int a2), (3, .int (a3 + (v23 * v27))), (4, .int (a4 + (1 : Int32)))]) [4, 5, 6, 1, 0] rfl ?_
          exact ih _ _
      · refine q_sub (ls' := [(0, .ref a0), (1, .int a1), (2, .int a2), (4, .int a4)]) [2, 3, 4, 6] rfl ?_
        exact v_X12_foretold_b106 (ih)
    · refine q_iload_n 3 dX12_foretold_115 rfl ?_
      exact q_iret dX12_foretold_116 rfl rfl (Nat.le_of_ble_eq_true rfl) rfl
set_option maxRecDepth 20000 in
theorem m_X12_foretold {M : q_Mem} {a0 : Nat} {a1 : Int32} {a2 : Int32} {x : Int32} (h : f_X12_foretold M a0 a1 a2 = some x) : q_C Y_X12_foretold [.ref a0, .int a1, .int a2] M (some (.int x)) M := by
  refine q_met (φ := (fun x : Int32 => (some (.int x), M))) (r := f_X12_foretold M a0 a1 a2) (by decide +kernel) (Nat.le_of_ble_eq_true rfl) ?_ h (fun _ _ => rfl)
  show q_V Y_X12_foretold none (fun x : Int32 => (some (.int x), M)) 0 0 0 [(0, .ref a0), (1, .int a1), (2, .int a2)] [] M (f_X12_foretold M a0 a1 a2)
  unfold f_X12_foretold
  refine q_obV ?_
  refine q_aload_n 0 dX12_foretold_0 rfl ?_
  refine q_iconst (x := (0 : Int32)) dX12_foretold_1 rfl ?_
  refine q_iload_n 1 dX12_foretold_2 rfl ?_
  refine q_cVI (Y2 := Y_X12_is) (As := [.int (0 : Int32), .int a1]) (b := a0) (st := []) cl_X12 mv_X12_is qw_1225 dX12_foretold_3 ⟨Nat.le_of_ble_eq_true rfl, Nat.le_of_ble_eq_true rfl⟩ rfl (fun _ _ => rfl) (Nat.le_of_ble_eq_true rfl) ⟨Nat.le_of_ble_eq_true rfl, Nat.le_of_ble_eq_true rfl⟩ (fun v2 h1 => q_ob_is h1) (fun v2 h1 => m_X12_is h1) (fun v2 h1 => ?_)
  refine q_if_eq (tgt := 16) dX12_foretold_6 (by decide) (fun c6 => ?_) (fun c6 => ?_)
  · refine q_bipush (x := (-2 : Int32)) dX12_foretold_16 rfl ?_
    exact q_iret dX12_foretold_18 rfl rfl (Nat.le_of_ble_eq_true rfl) rfl
  · refine q_iload_n 2 dX12_foretold_9 rfl ?_
    refine q_cSI (Y2 := Y_X12_isWeek) (As := [.int a2]) (st := []) ms_X12_isWeek qw_1296 dX12_foretold_10 ⟨Nat.le_of_ble_eq_true rfl, Nat.le_of_ble_eq_true rfl⟩ rfl (fun _ _ => rfl) (Nat.le_of_ble_eq_true rfl) ⟨Nat.le_of_ble_eq_true rfl, Nat.le_of_ble_eq_true rfl⟩ (fun v4 h3 => m_X12_isWeek h3) (fun v4 h3 => ?_)
    refine q_if_ne (tgt := 19) dX12_foretold_13 (by decide) (fun c5 => ?_) (fun c5 => ?_)
    · refine q_bipush (x := (-2 : Int32)) dX12_foretold_16 rfl ?_
      exact q_iret dX12_foretold_18 rfl rfl (Nat.le_of_ble_eq_true rfl) rfl
    · refine q_iconst (x := (0 : Int32)) dX12_foretold_19 rfl ?_
      refine q_istore_n (ls' := [(3, .int (0 : Int32)), (0, .ref a0), (1, .int a1), (2, .int a2)]) dX12_foretold_20 (by decide) rfl ?_
      refine q_iconst (x := (0 : Int32)) dX12_foretold_21 rfl ?_
      refine q_istore (ls' := [(4, .int (0 : Int32)), (3, .int (0 : Int32)), (0, .ref a0), (1, .int a1), (2, .int a2)]) dX12_foretold_22 (by decide) rfl ?_
      refine q_sub (ls' := [(0, .ref a0), (1, .int a1), (2, .int a2), (3, .int (0 : Int32)), (4, .int (0 : Int32))]) [2, 3, 4, 1, 0] rfl ?_
      exact v_X12_foretold_b24 _ _ _
theorem dX12_site_0 : decode cX12_site 0 = .ok (.iload_n 1, 1) := by decide +kernel
theorem dX12_site_1 : decode cX12_site 1 = .ok (.iconst 0, 1) := by decide +kernel
theorem dX12_site_2 : decode cX12_site 2 = .ok (.sipush 200, 3) := by decide +kernel
theorem dX12_site_5 : decode cX12_site 5 = .ok (.invokestatic 78, 3) := by decide +kernel
theorem dX12_site_8 : decode cX12_site 8 = .ok (.ifCond .eq 24, 3) := by decide +kernel
theorem dX12_site_11 : decode cX12_site 11 = .ok (.iload_n 2, 1) := by decide +kernel
theorem dX12_site_12 : decode cX12_site 12 = .ok (.iconst 0, 1) := by decide +kernel
theorem dX12_site_13 : decode cX12_site 13 = .ok (.sipush 200, 3) := by decide +kernel
theorem dX12_site_16 : decode cX12_site 16 = .ok (.invokestatic 78, 3) := by decide +kernel
theorem dX12_site_19 : decode cX12_site 19 = .ok (.ifCond .eq 13, 3) := by decide +kernel
theorem dX12_site_22 : decode cX12_site 22 = .ok (.iload_n 3, 1) := by decide +kernel
theorem dX12_site_23 : decode cX12_site 23 = .ok (.iconst 0, 1) := by decide +kernel
theorem dX12_site_24 : decode cX12_site 24 = .ok (.ldc 159, 2) := by decide +kernel
theorem dX12_site_26 : decode cX12_site 26 = .ok (.invokestatic 78, 3) := by decide +kernel
theorem dX12_site_29 : decode cX12_site 29 = .ok (.ifCond .ne 6, 3) := by decide +kernel
theorem dX12_site_32 : decode cX12_site 32 = .ok (.bipush (-2), 2) := by decide +kernel
theorem dX12_site_34 : decode cX12_site 34 = .ok (.ireturn, 1) := by decide +kernel
theorem dX12_site_35 : decode cX12_site 35 = .ok (.aload_n 0, 1) := by decide +kernel
theorem dX12_site_36 : decode cX12_site 36 = .ok (.getfield 7, 3) := by decide +kernel
theorem dX12_site_39 : decode cX12_site 39 = .ok (.bipush 8, 2) := by decide +kernel
theorem dX12_site_41 : decode cX12_site 41 = .ok (.iaload, 1) := by decide +kernel
theorem dX12_site_42 : decode cX12_site 42 = .ok (.bipush 6, 2) := by decide +kernel
theorem dX12_site_44 : decode cX12_site 44 = .ok (.if_icmp .ne 6, 3) := by decide +kernel
theorem dX12_site_47 : decode cX12_site 47 = .ok (.bipush (-4), 2) := by decide +kernel
theorem dX12_site_49 : decode cX12_site 49 = .ok (.ireturn, 1) := by decide +kernel
theorem dX12_site_50 : decode cX12_site 50 = .ok (.sipush 4728, 3) := by decide +kernel
theorem dX12_site_53 : decode cX12_site 53 = .ok (.iconst 3, 1) := by decide +kernel
theorem dX12_site_54 : decode cX12_site 54 = .ok (.aload_n 0, 1) := by decide +kernel
theorem dX12_site_55 : decode cX12_site 55 = .ok (.getfield 7, 3) := by decide +kernel
theorem dX12_site_58 : decode cX12_site 58 = .ok (.bipush 8, 2) := by decide +kernel
theorem dX12_site_60 : decode cX12_site 60 = .ok (.iaload, 1) := by decide +kernel
theorem dX12_site_61 : decode cX12_site 61 = .ok (.imul, 1) := by decide +kernel
theorem dX12_site_62 : decode cX12_site 62 = .ok (.iadd, 1) := by decide +kernel
theorem dX12_site_63 : decode cX12_site 63 = .ok (.istore 4, 2) := by decide +kernel
theorem dX12_site_65 : decode cX12_site 65 = .ok (.aload_n 0, 1) := by decide +kernel
theorem dX12_site_66 : decode cX12_site 66 = .ok (.getfield 7, 3) := by decide +kernel
theorem dX12_site_69 : decode cX12_site 69 = .ok (.iload 4, 2) := by decide +kernel
theorem dX12_site_71 : decode cX12_site 71 = .ok (.iload_n 1, 1) := by decide +kernel
theorem dX12_site_72 : decode cX12_site 72 = .ok (.iastore, 1) := by decide +kernel
theorem dX12_site_73 : decode cX12_site 73 = .ok (.aload_n 0, 1) := by decide +kernel
theorem dX12_site_74 : decode cX12_site 74 = .ok (.getfield 7, 3) := by decide +kernel
theorem dX12_site_77 : decode cX12_site 77 = .ok (.iload 4, 2) := by decide +kernel
theorem dX12_site_79 : decode cX12_site 79 = .ok (.iconst 1, 1) := by decide +kernel
theorem dX12_site_80 : decode cX12_site 80 = .ok (.iadd, 1) := by decide +kernel
theorem dX12_site_81 : decode cX12_site 81 = .ok (.iload_n 2, 1) := by decide +kernel
theorem dX12_site_82 : decode cX12_site 82 = .ok (.iastore, 1) := by decide +kernel
theorem dX12_site_83 : decode cX12_site 83 = .ok (.aload_n 0, 1) := by decide +kernel
theorem dX12_site_84 : decode cX12_site 84 = .ok (.getfield 7, 3) := by decide +kernel
theorem dX12_site_87 : decode cX12_site 87 = .ok (.iload 4, 2) := by decide +kernel
theorem dX12_site_89 : decode cX12_site 89 = .ok (.iconst 2, 1) := by decide +kernel
theorem dX12_site_90 : decode cX12_site 90 = .ok (.iadd, 1) := by decide +kernel
theorem dX12_site_91 : decode cX12_site 91 = .ok (.iload_n 3, 1) := by decide +kernel
theorem dX12_site_92 : decode cX12_site 92 = .ok (.iastore, 1) := by decide +kernel
theorem dX12_site_93 : decode cX12_site 93 = .ok (.aload_n 0, 1) := by decide +kernel
theorem dX12_site_94 : decode cX12_site 94 = .ok (.bipush 8, 2) := by decide +kernel
theorem dX12_site_96 : decode cX12_site 96 = .ok (.invokevirtual 82, 3) := by decide +kernel
theorem dX12_site_99 : decode cX12_site 99 = .ok (.ireturn, 1) := by decide +kernel
def f_X12_site (M : q_Mem) (a0 : Nat) (a1 : Int32) (a2 : Int32) (a3 : Int32) : Option (Int32 × q_Mem) :=
  q_ob 11 M a0 ((f_X12_in M a1 (0 : Int32) (200 : Int32)).bind fun v2 =>
  (if v2 = 0 then
    some ((-2 : Int32), M)
  else
    (f_X12_in M a2 (0 : Int32) (200 : Int32)).bind fun v4 =>
    (if v4 = 0 then
      some ((-2 : Int32), M)
    else
      (f_X12_in M a3 (0 : Int32) (1000000 : Int32)).bind fun v6 =>
      (if v6 = 0 then
        some ((-2 : Int32), M)
      else
        (q_gR 11 0 M a0).bind fun v7 =>
        (q_lI M v7 (8 : Int32)).bind fun v9 =>
        (if v9 = (6 : Int32) then
          some ((-4 : Int32), M)
        else
          (q_gR 11 0 M a0).bind fun v11 =>
          (q_lI M v11 (8 : Int32)).bind fun v13 =>
          (q_gR 11 0 M a0).bind fun v15 =>
          (q_tI M v15 ((4728 : Int32) + ((3 : Int32) * v13)) a1).bind fun M17 =>
          (q_gR 11 0 M17 a0).bind fun v19 =>
          (q_tI M17 v19 (((4728 : Int32) + ((3 : Int32) * v13)) + (1 : Int32)) a2).bind fun M21 =>
          (q_gR 11 0 M21 a0).bind fun v23 =>
          (q_tI M21 v23 (((4728 : Int32) + ((3 : Int32) * v13)) + (2 : Int32)) a3).bind fun M25 =>
          (f_X12_more M25 a0 (8 : Int32)).bind fun r28 =>
          some (r28.1, r28.2))))))
set_option maxRecDepth 20000 in
theorem m_X12_site {M : q_Mem} {a0 : Nat} {a1 : Int32} {a2 : Int32} {a3 : Int32} {x : (Int32 × q_Mem)} (h : f_X12_site M a0 a1 a2 a3 = some x) : q_C Y_X12_site [.ref a0, .int a1, .int a2, .int a3] M (some (.int x.1)) x.2 := by
  refine q_met (φ := (fun x : Int32 × q_Mem => (some (.int x.1), x.2))) (r := f_X12_site M a0 a1 a2 a3) (by decide +kernel) (Nat.le_of_ble_eq_true rfl) ?_ h (fun _ _ => rfl)
  show q_V Y_X12_site none (fun x : Int32 × q_Mem => (some (.int x.1), x.2)) 0 0 0 [(0, .ref a0), (1, .int a1), (2, .int a2), (3, .int a3)] [] M (f_X12_site M a0 a1 a2 a3)
  unfold f_X12_site
  refine q_obV ?_
  refine q_iload_n 1 dX12_site_0 rfl ?_
  refine q_iconst (x := (0 : Int32)) dX12_site_1 rfl ?_
  refine q_sipush (x := (200 : Int32)) dX12_site_2 rfl ?_
  refine q_cSI (Y2 := Y_X12_in) (As := [.int a1, .int (0 : Int32), .int (200 : Int32)]) (st := []) ms_X12_in qw_1214 dX12_site_5 ⟨Nat.le_of_ble_eq_true rfl, Nat.le_of_ble_eq_true rfl⟩ rfl (fun _ _ => rfl) (Nat.le_of_ble_eq_true rfl) ⟨Nat.le_of_ble_eq_true rfl, Nat.le_of_ble_eq_true rfl⟩ (fun v2 h1 => m_X12_in h1) (fun v2 h1 => ?_)
  refine q_if_eq (tgt := 32) dX12_site_8 (by decide) (fun c32 => ?_) (fun c32 => ?_)
  · refine q_bipush (x := (-2 : Int32)) dX12_site_32 rfl ?_
    exact q_iret dX12_site_34 rfl rfl (Nat.le_of_ble_eq_true rfl) rfl
  · refine q_iload_n 2 dX12_site_11 rfl ?_
    refine q_iconst (x := (0 : Int32)) dX12_site_12 rfl ?_
    refine q_sipush (x := (200 : Int32)) dX12_site_13 rfl ?_
    refine q_cSI (Y2 := Y_X12_in) (As := [.int a2, .int (0 : Int32), .int (200 : Int32)]) (st := []) ms_X12_in qw_1214 dX12_site_16 ⟨Nat.le_of_ble_eq_true rfl, Nat.le_of_ble_eq_true rfl⟩ rfl (fun _ _ => rfl) (Nat.le_of_ble_eq_true rfl) ⟨Nat.le_of_ble_eq_true rfl, Nat.le_of_ble_eq_true rfl⟩ (fun v4 h3 => m_X12_in h3) (fun v4 h3 => ?_)
    refine q_if_eq (tgt := 32) dX12_site_19 (by decide) (fun c31 => ?_) (fun c31 => ?_)
    · refine q_bipush (x := (-2 : Int32)) dX12_site_32 rfl ?_
      exact q_iret dX12_site_34 rfl rfl (Nat.le_of_ble_eq_true rfl) rfl
    · refine q_iload_n 3 dX12_site_22 rfl ?_
      refine q_iconst (x := (0 : Int32)) dX12_site_23 rfl ?_
      refine q_ldc (x := (1000000 : Int32)) qw_1362 dX12_site_24 ?_
      refine q_cSI (Y2 := Y_X12_in) (As := [.int a3, .int (0 : Int32), .int (1000000 : Int32)]) (st := []) ms_X12_in qw_1214 dX12_site_26 ⟨Nat.le_of_ble_eq_true rfl, Nat.le_of_ble_eq_true rfl⟩ rfl (fun _ _ => rfl) (Nat.le_of_ble_eq_true rfl) ⟨Nat.le_of_ble_eq_true rfl, Nat.le_of_ble_eq_true rfl⟩ (fun v6 h5 => m_X12_in h5) (fun v6 h5 => ?_)
      refine q_if_ne (tgt := 35) dX12_site_29 (by decide) (fun c30 => ?_) (fun c30 => ?_)
      · refine q_bipush (x := (-2 : Int32)) dX12_site_32 rfl ?_
        exact q_iret dX12_site_34 rfl rfl (Nat.le_of_ble_eq_true rfl) rfl
      · refine q_aload_n 0 dX12_site_35 rfl ?_
        refine q_getR (f := 0) cl_X12 (by decide) qw_1117 rfl dX12_site_36 (fun _ _ _ => rfl) (fun v7 h8 => ?_)
        refine q_bipush (x := (8 : Int32)) dX12_site_39 rfl ?_
        refine q_iald dX12_site_41 (fun v9 h10 => ?_)
        refine q_bipush (x := (6 : Int32)) dX12_site_42 rfl ?_
        refine q_icmp_ne (tgt := 50) dX12_site_44 (by decide) (fun c29 => ?_) (fun c29 => ?_)
        · refine q_bipush (x := (-4 : Int32)) dX12_site_47 rfl ?_
          exact q_iret dX12_site_49 rfl rfl (Nat.le_of_ble_eq_true rfl) rfl
        · refine q_sipush (x := (4728 : Int32)) dX12_site_50 rfl ?_
          refine q_iconst (x := (3 : Int32)) dX12_site_53 rfl ?_
          refine q_aload_n 0 dX12_site_54 rfl ?_
          refine q_getR (f := 0) cl_X12 (by decide) qw_1117 rfl dX12_site_55 (fun _ _ _ => rfl) (fun v11 h12 => ?_)
          refine q_bipush (x := (8 : Int32)) dX12_site_58 rfl ?_
          refine q_iald dX12_site_60 (fun v13 h14 => ?_)
          refine q_imul dX12_site_61 ?_
          refine q_iadd dX12_site_62 ?_
          refine q_istore (ls' := [(4, .int ((4728 : Int32) + ((3 : Int32) * v13))), (0, .ref a0), (1, .int a1), (2, .int a2), (3, .int a3)]) dX12_site_63 (by decide) rfl ?_
          refine q_aload_n 1 dX12_site_65 rfl ?_
          refine q_getR (f := 0) cl_X12 (by decide) qw_1117 rfl dX12_site_66 (fun _ _ _ => rfl) (fun v15 h16 => ?_)
          refine q_iload 0 dX12_site_69 rfl ?_
          refine q_iload_n 2 dX12_site_71 rfl ?_
          refine q_iast dX12_site_72 (fun M17 h18 => ?_)
          refine q_aload_n 1 dX12_site_73 rfl ?_
          refine q_getR (f := 0) cl_X12 (by decide) qw_1117 rfl dX12_site_74 (fun _ _ _ => rfl) (fun v19 h20 => ?_)
          refine q_iload 0 dX12_site_77 rfl ?_
          refine q_iconst (x := (1 : Int32)) dX12_site_79 rfl ?_
          refine q_iadd dX12_site_80 ?_
          refine q_iload_n 3 dX12_site_81 rfl ?_
          refine q_iast dX12_site_82 (fun M21 h22 => ?_)
          refine q_aload_n 1 dX12_site_83 rfl ?_
          refine q_getR (f := 0) cl_X12 (by decide) qw_1117 rfl dX12_site_84 (fun _ _ _ => rfl) (fun v23 h24 => ?_)
          refine q_iload 0 dX12_site_87 rfl ?_
          refine q_iconst (x := (2 : Int32)) dX12_site_89 rfl ?_
          refine q_iadd dX12_site_90 ?_
          refine q_iload_n 4 dX12_site_91 rfl ?_
          refine q_iast dX12_site_92 (fun M25 h26 => ?_)
          refine q_aload_n 1 dX12_site_93 rfl ?_
          refine q_bipush (x := (8 : Int32)) dX12_site_94 rfl ?_
          refine q_cVMI (Y2 := Y_X12_more) (As := [.int (8 : Int32)]) (b := a0) (st := []) cl_X12 mv_X12_more qw_1217 dX12_site_96 ⟨Nat.le_of_ble_eq_true rfl, Nat.le_of_ble_eq_true rfl⟩ rfl (fun _ _ => rfl) (Nat.le_of_ble_eq_true rfl) ⟨Nat.le_of_ble_eq_true rfl, Nat.le_of_ble_eq_true rfl⟩ (fun r28 h27 => q_ob_is h27) (fun r28 h27 => m_X12_more h27) (fun r28 h27 => ?_)
          exact q_iret dX12_site_99 rfl rfl (Nat.le_of_ble_eq_true rfl) rfl
theorem dX12_freight_0 : decode cX12_freight 0 = .ok (.iload_n 1, 1) := by decide +kernel
theorem dX12_freight_1 : decode cX12_freight 1 = .ok (.iconst 0, 1) := by decide +kernel
theorem dX12_freight_2 : decode cX12_freight 2 = .ok (.bipush 100, 2) := by decide +kernel
theorem dX12_freight_4 : decode cX12_freight 4 = .ok (.invokestatic 78, 3) := by decide +kernel
theorem dX12_freight_7 : decode cX12_freight 7 = .ok (.ifCond .ne 6, 3) := by decide +kernel
theorem dX12_freight_10 : decode cX12_freight 10 = .ok (.bipush (-2), 2) := by decide +kernel
theorem dX12_freight_12 : decode cX12_freight 12 = .ok (.ireturn, 1) := by decide +kernel
theorem dX12_freight_13 : decode cX12_freight 13 = .ok (.aload_n 0, 1) := by decide +kernel
theorem dX12_freight_14 : decode cX12_freight 14 = .ok (.getfield 7, 3) := by decide +kernel
theorem dX12_freight_17 : decode cX12_freight 17 = .ok (.bipush 12, 2) := by decide +kernel
theorem dX12_freight_19 : decode cX12_freight 19 = .ok (.iaload, 1) := by decide +kernel
theorem dX12_freight_20 : decode cX12_freight 20 = .ok (.istore_n 2, 1) := by decide +kernel
theorem dX12_freight_21 : decode cX12_freight 21 = .ok (.aload_n 0, 1) := by decide +kernel
theorem dX12_freight_22 : decode cX12_freight 22 = .ok (.getfield 7, 3) := by decide +kernel
theorem dX12_freight_25 : decode cX12_freight 25 = .ok (.bipush 12, 2) := by decide +kernel
theorem dX12_freight_27 : decode cX12_freight 27 = .ok (.iload_n 1, 1) := by decide +kernel
theorem dX12_freight_28 : decode cX12_freight 28 = .ok (.iastore, 1) := by decide +kernel
theorem dX12_freight_29 : decode cX12_freight 29 = .ok (.iload_n 2, 1) := by decide +kernel
theorem dX12_freight_30 : decode cX12_freight 30 = .ok (.ireturn, 1) := by decide +kernel
def f_X12_freight (M : q_Mem) (a0 : Nat) (a1 : Int32) : Option (Int32 × q_Mem) :=
  q_ob 11 M a0 ((f_X12_in M a1 (0 : Int32) (100 : Int32)).bind fun v2 =>
  (if v2 = 0 then
    some ((-2 : Int32), M)
  else
    (q_gR 11 0 M a0).bind fun v3 =>
    (q_lI M v3 (12 : Int32)).bind fun v5 =>
    (q_gR 11 0 M a0).bind fun v7 =>
    (q_tI M v7 (12 : Int32) a1).bind fun M9 =>
    some (v5, M9)))
set_option maxRecDepth 20000 in
theorem m_X12_freight {M : q_Mem} {a0 : Nat} {a1 : Int32} {x : (Int32 × q_Mem)} (h : f_X12_freight M a0 a1 = some x) : q_C Y_X12_freight [.ref a0, .int a1] M (some (.int x.1)) x.2 := by
  refine q_met (φ := (fun x : Int32 × q_Mem => (some (.int x.1), x.2))) (r := f_X12_freight M a0 a1) (by decide +kernel) (Nat.le_of_ble_eq_true rfl) ?_ h (fun _ _ => rfl)
  show q_V Y_X12_freight none (fun x : Int32 × q_Mem => (some (.int x.1), x.2)) 0 0 0 [(0, .ref a0), (1, .int a1)] [] M (f_X12_freight M a0 a1)
  unfold f_X12_freight
  refine q_obV ?_
  refine q_iload_n 1 dX12_freight_0 rfl ?_
  refine q_iconst (x := (0 : Int32)) dX12_freight_1 rfl ?_
  refine q_bipush (x := (100 : Int32)) dX12_freight_2 rfl ?_
  refine q_cSI (Y2 := Y_X12_in) (As := [.int a1, .int (0 : Int32), .int (100 : Int32)]) (st := []) ms_X12_in qw_1214 dX12_freight_4 ⟨Nat.le_of_ble_eq_true rfl, Nat.le_of_ble_eq_true rfl⟩ rfl (fun _ _ => rfl) (Nat.le_of_ble_eq_true rfl) ⟨Nat.le_of_ble_eq_true rfl, Nat.le_of_ble_eq_true rfl⟩ (fun v2 h1 => m_X12_in h1) (fun v2 h1 => ?_)
  refine q_if_ne (tgt := 13) dX12_freight_7 (by decide) (fun c11 => ?_) (fun c11 => ?_)
  · refine q_bipush (x := (-2 : Int32)) dX12_freight_10 rfl ?_
    exact q_iret dX12_freight_12 rfl rfl (Nat.le_of_ble_eq_true rfl) rfl
  · refine q_aload_n 0 dX12_freight_13 rfl ?_
    refine q_getR (f := 0) cl_X12 (by decide) qw_1117 rfl dX12_freight_14 (fun _ _ _ => rfl) (fun v3 h4 => ?_)
    refine q_bipush (x := (12 : Int32)) dX12_freight_17 rfl ?_
    refine q_iald dX12_freight_19 (fun v5 h6 => ?_)
    refine q_istore_n (ls' := [(2, .int v5), (0, .ref a0), (1, .int a1)]) dX12_freight_20 (by decide) rfl ?_
    refine q_aload_n 1 dX12_freight_21 rfl ?_
    refine q_getR (f := 0) cl_X12 (by decide) qw_1117 rfl dX12_freight_22 (fun _ _ _ => rfl) (fun v7 h8 => ?_)
    refine q_bipush (x := (12 : Int32)) dX12_freight_25 rfl ?_
    refine q_iload_n 2 dX12_freight_27 rfl ?_
    refine q_iast dX12_freight_28 (fun M9 h10 => ?_)
    refine q_iload_n 0 dX12_freight_29 rfl ?_
    exact q_iret dX12_freight_30 rfl rfl (Nat.le_of_ble_eq_true rfl) rfl
theorem dX12_toSite_0 : decode cX12_toSite 0 = .ok (.aload_n 0, 1) := by decide +kernel
theorem dX12_toSite_1 : decode cX12_toSite 1 = .ok (.iload_n 1, 1) := by decide +kernel
theorem dX12_toSite_2 : decode cX12_toSite 2 = .ok (.aload_n 0, 1) := by decide +kernel
theorem dX12_toSite_3 : decode cX12_toSite 3 = .ok (.getfield 7, 3) := by decide +kernel
theorem dX12_toSite_6 : decode cX12_toSite 6 = .ok (.sipush 4728, 3) := by decide +kernel
theorem dX12_toSite_9 : decode cX12_toSite 9 = .ok (.iconst 3, 1) := by decide +kernel
theorem dX12_toSite_10 : decode cX12_toSite 10 = .ok (.iload_n 2, 1) := by decide +kernel
theorem dX12_toSite_11 : decode cX12_toSite 11 = .ok (.imul, 1) := by decide +kernel
theorem dX12_toSite_12 : decode cX12_toSite 12 = .ok (.iadd, 1) := by decide +kernel
theorem dX12_toSite_13 : decode cX12_toSite 13 = .ok (.iaload, 1) := by decide +kernel
theorem dX12_toSite_14 : decode cX12_toSite 14 = .ok (.aload_n 0, 1) := by decide +kernel
theorem dX12_toSite_15 : decode cX12_toSite 15 = .ok (.getfield 7, 3) := by decide +kernel
theorem dX12_toSite_18 : decode cX12_toSite 18 = .ok (.sipush 4728, 3) := by decide +kernel
theorem dX12_toSite_21 : decode cX12_toSite 21 = .ok (.iconst 3, 1) := by decide +kernel
theorem dX12_toSite_22 : decode cX12_toSite 22 = .ok (.iload_n 2, 1) := by decide +kernel
theorem dX12_toSite_23 : decode cX12_toSite 23 = .ok (.imul, 1) := by decide +kernel
theorem dX12_toSite_24 : decode cX12_toSite 24 = .ok (.iadd, 1) := by decide +kernel
theorem dX12_toSite_25 : decode cX12_toSite 25 = .ok (.iconst 1, 1) := by decide +kernel
theorem dX12_toSite_26 : decode cX12_toSite 26 = .ok (.iadd, 1) := by decide +kernel
theorem dX12_toSite_27 : decode cX12_toSite 27 = .ok (.iaload, 1) := by decide +kernel
theorem dX12_toSite_28 : decode cX12_toSite 28 = .ok (.invokevirtual 280, 3) := by decide +kernel
theorem dX12_toSite_31 : decode cX12_toSite 31 = .ok (.ireturn, 1) := by decide +kernel
def f_X12_toSite (M : q_Mem) (a0 : Nat) (a1 : Int32) (a2 : Int32) : Option Int32 :=
  q_ob 11 M a0 ((q_gR 11 0 M a0).bind fun v1 =>
  (q_lI M v1 ((4728 : Int32) + ((3 : Int32) * a2))).bind fun v3 =>
  (q_gR 11 0 M a0).bind fun v5 =>
  (q_lI M v5 (((4728 : Int32) + ((3 : Int32) * a2)) + (1 : Int32))).bind fun v7 =>
  (f_X12_farmMiles M a0 a1 v3 v7).bind fun v10 =>
  some v10)
set_option maxRecDepth 20000 in
theorem m_X12_toSite {M : q_Mem} {a0 : Nat} {a1 : Int32} {a2 : Int32} {x : Int32} (h : f_X12_toSite M a0 a1 a2 = some x) : q_C Y_X12_toSite [.ref a0, .int a1, .int a2] M (some (.int x)) M := by
  refine q_met (φ := (fun x : Int32 => (some (.int x), M))) (r := f_X12_toSite M a0 a1 a2) (by decide +kernel) (Nat.le_of_ble_eq_true rfl) ?_ h (fun _ _ => rfl)
  show q_V Y_X12_toSite none (fun x : Int32 => (some (.int x), M)) 0 0 0 [(0, .ref a0), (1, .int a1), (2, .int a2)] [] M (f_X12_toSite M a0 a1 a2)
  unfold f_X12_toSite
  refine q_obV ?_
  refine q_aload_n 0 dX12_toSite_0 rfl ?_
  refine q_iload_n 1 dX12_toSite_1 rfl ?_
  refine q_aload_n 0 dX12_toSite_2 rfl ?_
  refine q_getR (f := 0) cl_X12 (by decide) qw_1117 rfl dX12_toSite_3 (fun _ _ _ => rfl) (fun v1 h2 => ?_)
  refine q_sipush (x := (4728 : Int32)) dX12_toSite_6 rfl ?_
  refine q_iconst (x := (3 : Int32)) dX12_toSite_9 rfl ?_
  refine q_iload_n 2 dX12_toSite_10 rfl ?_
  refine q_imul dX12_toSite_11 ?_
  refine q_iadd dX12_toSite_12 ?_
  refine q_iald dX12_toSite_13 (fun v3 h4 => ?_)
  refine q_aload_n 0 dX12_toSite_14 rfl ?_
  refine q_getR (f := 0) cl_X12 (by decide) qw_1117 rfl dX12_toSite_15 (fun _ _ _ => rfl) (fun v5 h6 => ?_)
  refine q_sipush (x := (4728 : Int32)) dX12_toSite_18 rfl ?_
  refine q_iconst (x := (3 : Int32)) dX12_toSite_21 rfl ?_
  refine q_iload_n 2 dX12_toSite_22 rfl ?_
  refine q_imul dX12_toSite_23 ?_
  refine q_iadd dX12_toSite_24 ?_
  refine q_iconst (x := (1 : Int32)) dX12_toSite_25 rfl ?_
  refine q_iadd dX12_toSite_26 ?_
  refine q_iald dX12_toSite_27 (fun v7 h8 => ?_)
  refine q_cVI (Y2 := Y_X12_farmMiles) (As := [.int a1, .int v3, .int v7]) (b := a0) (st := []) cl_X12 mv_X12_farmMiles qw_1563 dX12_toSite_28 ⟨Nat.le_of_ble_eq_true rfl, Nat.le_of_ble_eq_true rfl⟩ rfl (fun _ _ => rfl) (Nat.le_of_ble_eq_true rfl) ⟨Nat.le_of_ble_eq_true rfl, Nat.le_of_ble_eq_true rfl⟩ (fun v10 h9 => q_ob_is h9) (fun v10 h9 => m_X12_farmMiles h9) (fun v10 h9 => ?_)
  exact q_iret dX12_toSite_31 rfl rfl (Nat.le_of_ble_eq_true rfl) rfl
theorem dX12_nearestOf_0 : decode cX12_nearestOf 0 = .ok (.iconst (-1), 1) := by decide +kernel
theorem dX12_nearestOf_1 : decode cX12_nearestOf 1 = .ok (.istore_n 3, 1) := by decide +kernel
theorem dX12_nearestOf_2 : decode cX12_nearestOf 2 = .ok (.iconst 0, 1) := by decide +kernel
theorem dX12_nearestOf_3 : decode cX12_nearestOf 3 = .ok (.istore 4, 2) := by decide +kernel
theorem dX12_nearestOf_5 : decode cX12_nearestOf 5 = .ok (.iload 4, 2) := by decide +kernel
theorem dX12_nearestOf_7 : decode cX12_nearestOf 7 = .ok (.aload_n 0, 1) := by decide +kernel
theorem dX12_nearestOf_8 : decode cX12_nearestOf 8 = .ok (.getfield 7, 3) := by decide +kernel
theorem dX12_nearestOf_11 : decode cX12_nearestOf 11 = .ok (.bipush 8, 2) := by decide +kernel
theorem dX12_nearestOf_13 : decode cX12_nearestOf 13 = .ok (.iaload, 1) := by decide +kernel
theorem dX12_nearestOf_14 : decode cX12_nearestOf 14 = .ok (.if_icmp .ge 47, 3) := by decide +kernel
theorem dX12_nearestOf_17 : decode cX12_nearestOf 17 = .ok (.iload_n 2, 1) := by decide +kernel
theorem dX12_nearestOf_18 : decode cX12_nearestOf 18 = .ok (.iload 4, 2) := by decide +kernel
theorem dX12_nearestOf_20 : decode cX12_nearestOf 20 = .ok (.ishr, 1) := by decide +kernel
theorem dX12_nearestOf_21 : decode cX12_nearestOf 21 = .ok (.iconst 1, 1) := by decide +kernel
theorem dX12_nearestOf_22 : decode cX12_nearestOf 22 = .ok (.iand, 1) := by decide +kernel
theorem dX12_nearestOf_23 : decode cX12_nearestOf 23 = .ok (.iconst 1, 1) := by decide +kernel
theorem dX12_nearestOf_24 : decode cX12_nearestOf 24 = .ok (.if_icmp .ne 29, 3) := by decide +kernel
theorem dX12_nearestOf_27 : decode cX12_nearestOf 27 = .ok (.iload_n 3, 1) := by decide +kernel
theorem dX12_nearestOf_28 : decode cX12_nearestOf 28 = .ok (.iconst (-1), 1) := by decide +kernel
theorem dX12_nearestOf_29 : decode cX12_nearestOf 29 = .ok (.if_icmp .eq 19, 3) := by decide +kernel
theorem dX12_nearestOf_32 : decode cX12_nearestOf 32 = .ok (.aload_n 0, 1) := by decide +kernel
theorem dX12_nearestOf_33 : decode cX12_nearestOf 33 = .ok (.iload_n 1, 1) := by decide +kernel
theorem dX12_nearestOf_34 : decode cX12_nearestOf 34 = .ok (.iload 4, 2) := by decide +kernel
theorem dX12_nearestOf_36 : decode cX12_nearestOf 36 = .ok (.invokevirtual 324, 3) := by decide +kernel
theorem dX12_nearestOf_39 : decode cX12_nearestOf 39 = .ok (.aload_n 0, 1) := by decide +kernel
theorem dX12_nearestOf_40 : decode cX12_nearestOf 40 = .ok (.iload_n 1, 1) := by decide +kernel
theorem dX12_nearestOf_41 : decode cX12_nearestOf 41 = .ok (.iload_n 3, 1) := by decide +kernel
theorem dX12_nearestOf_42 : decode cX12_nearestOf 42 = .ok (.invokevirtual 324, 3) := by decide +kernel
theorem dX12_nearestOf_45 : decode cX12_nearestOf 45 = .ok (.if_icmp .ge 8, 3) := by decide +kernel
theorem dX12_nearestOf_48 : decode cX12_nearestOf 48 = .ok (.iload 4, 2) := by decide +kernel
theorem dX12_nearestOf_50 : decode cX12_nearestOf 50 = .ok (.goto 4, 3) := by decide +kernel
theorem dX12_nearestOf_53 : decode cX12_nearestOf 53 = .ok (.iload_n 3, 1) := by decide +kernel
theorem dX12_nearestOf_54 : decode cX12_nearestOf 54 = .ok (.istore_n 3, 1) := by decide +kernel
theorem dX12_nearestOf_55 : decode cX12_nearestOf 55 = .ok (.iinc 4 1, 3) := by decide +kernel
theorem dX12_nearestOf_58 : decode cX12_nearestOf 58 = .ok (.goto (-53), 3) := by decide +kernel
theorem dX12_nearestOf_61 : decode cX12_nearestOf 61 = .ok (.iload_n 3, 1) := by decide +kernel
theorem dX12_nearestOf_62 : decode cX12_nearestOf 62 = .ok (.ireturn, 1) := by decide +kernel
def f_X12_nearestOf_b48 (kk5 : Int32 → Int32 → Option Int32) (M : q_Mem) (a0 : Nat) (a1 : Int32) (a2 : Int32) (a4 : Int32) : Option Int32 :=
  kk5 a4 (a4 + (1 : Int32))
def f_X12_nearestOf_b5 (M : q_Mem) (a0 : Nat) (a1 : Int32) (a2 : Int32) : Nat → Int32 → Int32 → Option Int32
  | 0, _, _ => none
  | n + 1, a3, a4 =>
    (q_gR 11 0 M a0).bind fun v1 =>
    (q_lI M v1 (8 : Int32)).bind fun v3 =>
    (if a4 < v3 then
      (if ((a2 >>> (a4 &&& 31)) &&& (1 : Int32)) = (1 : Int32) then
        (if a3 = (-1 : Int32) then
          f_X12_nearestOf_b48 (f_X12_nearestOf_b5 M a0 a1 a2 n) M a0 a1 a2 a4
        else
          (f_X12_toSite M a0 a1 a4).bind fun v6 =>
          (f_X12_toSite M a0 a1 a3).bind fun v8 =>
          (if v6 < v8 then
            f_X12_nearestOf_b48 (f_X12_nearestOf_b5 M a0 a1 a2 n) M a0 a1 a2 a4
          else
            f_X12_nearestOf_b5 M a0 a1 a2 n a3 (a4 + (1 : Int32))))
      else
        f_X12_nearestOf_b5 M a0 a1 a2 n a3 (a4 + (1 : Int32)))
    else
      some a3)
def f_X12_nearestOf (M : q_Mem) (a0 : Nat) (a1 : Int32) (a2 : Int32) : Option Int32 :=
  q_ob 11 M a0 (f_X12_nearestOf_b5 M a0 a1 a2 q_fuel (-1 : Int32) (0 : Int32))
set_option maxRecDepth 20000 in
theorem v_X12_nearestOf_b48 {kk5 : Int32 → Int32 → Option Int32} {M : q_Mem} {a0 : Nat} {a1 : Int32} {a2 : Int32} {a4 : Int32}  (hk5 : ∀ (a3 : Int32) (a4 : Int32), q_V Y_X12_nearestOf none (fun x : Int32 => (some (.int x), M)) 0 0 5 [(0, .ref a0), (1, .int a1), (2, .int a2), (3, .int a3), (4, .int a4)] [] M (kk5 a3 a4)): q_V Y_X12_nearestOf none (fun x : Int32 => (some (.int x), M)) 0 0 48 [(0, .ref a0), (1, .int a1), (2, .int a2), (4, .int a4)] [] M (f_X12_nearestOf_b48 kk5 M a0 a1 a2 a4 ) := by
  unfold f_X12_nearestOf_b48
  refine q_iload 3 dX12_nearestOf_48 rfl ?_
  refine q_goto (tgt := 54) dX12_nearestOf_50 (by decide) ?_
  refine q_istore_n (ls' := [(3, .int a4), (0, .ref a0), (1, .int a1), (2, .int a2), (4, .int a4)]) dX12_nearestOf_54 (by decide) rfl ?_
  refine q_iinc 4 (y := (a4 + (1 : Int32))) (ls' := [(4, .int (a4 + (1 : Int32))), (3, .int a4), (0, .ref a0), (1, .int a1), (2, .int a2)]) dX12_nearestOf_55 rfl rfl (by decide) rfl ?_
  refine q_goto (tgt := 5) dX12_nearestOf_58 (by decide) ?_
  refine q_sub (ls' := [(0, .ref a0), (1, .int a1), (2, .int a2), (3, .int a4), (4, .int (a4 + (1 : Int32)))]) [2, 3, 4, 1, 0] rfl ?_
  exact hk5 _ _
set_option maxRecDepth 20000 in
theorem v_X12_nearestOf_b5 {M : q_Mem} {a0 : Nat} {a1 : Int32} {a2 : Int32}  : ∀ (n : Nat) (a3 : Int32) (a4 : Int32), q_V Y_X12_nearestOf none (fun x : Int32 => (some (.int x), M)) 0 0 5 [(0, .ref a0), (1, .int a1), (2, .int a2), (3, .int a3), (4, .int a4)] [] M (f_X12_nearestOf_b5 M a0 a1 a2 n a3 a4) := by
  intro n
  induction n with
  | zero => intro a3 a4; exact q_none
  | succ n ih =>
    intro a3 a4
    rw [f_X12_nearestOf_b5.eq_2]
    refine q_iload 4 dX12_nearestOf_5 rfl ?_
    refine q_aload_n 0 dX12_nearestOf_7 rfl ?_
    refine q_getR (f := 0) cl_X12 (by decide) qw_1117 rfl dX12_nearestOf_8 (fun _ _ _ => rfl) (fun v1 h2 => ?_)
    refine q_bipush (x := (8 : Int32)) dX12_nearestOf_11 rfl ?_
    refine q_iald dX12_nearestOf_13 (fun v3 h4 => ?_)
    refine q_icmp_ge (tgt := 61) dX12_nearestOf_14 (by decide) (fun c12 => ?_) (fun c12 => ?_)
    · refine q_iload_n 2 dX12_nearestOf_17 rfl ?_
      refine q_iload 4 dX12_nearestOf_18 rfl ?_
      refine q_ishr dX12_nearestOf_20 ?_
      refine q_iconst (x := (1 : Int32)) dX12_nearestOf_21 rfl ?_
      refine q_iand dX12_nearestOf_22 ?_
      refine q_iconst (x := (1 : Int32)) dX12_nearestOf_23 rfl ?_
      refine q_icmp_ne (tgt := 53) dX12_nearestOf_24 (by decide) (fun c11 => ?_) (fun c11 => ?_)
      · refine q_iload_n 3 dX12_nearestOf_27 rfl ?_
        refine q_iconst (x := (-1 : Int32)) dX12_nearestOf_28 rfl ?_
        refine q_icmp_eq (tgt := 48) dX12_nearestOf_29 (by decide) (fun c10 => ?_) (fun c10 => ?_)
        · refine q_sub (ls' := [(0, .ref a0), (1, .int a1), (2, .int a2), (4, .int a4)]) [0, 1, 2, 4] rfl ?_
          exact v_X12_nearestOf_b48 (ih)
        · refine q_aload_n 0 dX12_nearestOf_32 rfl ?_
          refine q_iload_n 1 dX12_nearestOf_33 rfl ?_
          refine q_iload 4 dX12_nearestOf_34 rfl ?_
          refine q_cVI (Y2 := Y_X12_toSite) (As := [.int a1, .int a4]) (b := a0) (st := []) cl_X12 mv_X12_toSite qw_1644 dX12_nearestOf_36 ⟨Nat.le_of_ble_eq_true rfl, Nat.le_of_ble_eq_true rfl⟩ rfl (fun _ _ => rfl) (Nat.le_of_ble_eq_true rfl) ⟨Nat.le_of_ble_eq_true rfl, Nat.le_of_ble_eq_true rfl⟩ (fun v6 h5 => q_ob_is h5) (fun v6 h5 => m_X12_toSite h5) (fun v6 h5 => ?_)
          refine q_aload_n 0 dX12_nearestOf_39 rfl ?_
          refine q_iload_n 1 dX12_nearestOf_40 rfl ?_
          refine q_iload_n 3 dX12_nearestOf_41 rfl ?_
          refine q_cVI (Y2 := Y_X12_toSite) (As := [.int a1, .int a3]) (b := a0) (st := [.int v6]) cl_X12 mv_X12_toSite qw_1644 dX12_nearestOf_42 ⟨Nat.le_of_ble_eq_true rfl, Nat.le_of_ble_eq_true rfl⟩ rfl (fun _ _ => rfl) (Nat.le_of_ble_eq_true rfl) ⟨Nat.le_of_ble_eq_true rfl, Nat.le_of_ble_eq_true rfl⟩ (fun v8 h7 => q_ob_is h7) (fun v8 h7 => m_X12_toSite h7) (fun v8 h7 => ?_)
          refine q_icmp_ge (tgt := 53) dX12_nearestOf_45 (by decide) (fun c9 => ?_) (fun c9 => ?_)
          · refine q_sub (ls' := [(0, .ref a0), (1, .int a1), (2, .int a2), (4, .int a4)]) [0, 1, 2, 4] rfl ?_
            exact v_X12_nearestOf_b48 (ih)
          · refine q_iload_n 3 dX12_nearestOf_53 rfl ?_
            refine q_istore_n (ls' := [(3, .int a3), (0, .ref a0), (1, .int a1), (2, .int a2), (4, .int a4)]) dX12_nearestOf_54 (by decide) rfl ?_
            refine q_iinc 4 (y := (a4 + (1 : Int32))) (ls' := [(4, .int (a4 + (1 : Int32))), (3, .int a3), (0, .ref a0), (1, .int a1), (2, .int a2)]) dX12_nearestOf_55 rfl rfl (by decide) rfl ?_
            refine q_goto (tgt := 5) dX12_nearestOf_58 (by decide) ?_
            refine q_sub (ls' := [(0, .ref a0), (1, .int a1), (2, .int a2), (3, .int a3), (4, .int (a4 + (1 : Int32)))]) [2, 3, 4, 1, 0] rfl ?_
            exact ih _ _
      · refine q_iload_n 3 dX12_nearestOf_53 rfl ?_
        refine q_istore_n (ls' := [(3, .int a3), (0, .ref a0), (1, .int a1), (2, .int a2), (4, .int a4)]) dX12_nearestOf_54 (by decide) rfl ?_
        refine q_iinc 4 (y := (a4 + (1 : Int32))) (ls' := [(4, .int (a4 + (1 : Int32))), (3, .int a3), (0, .ref a0), (1, .int a1), (2, .int a2)]) dX12_nearestOf_55 rfl rfl (by decide) rfl ?_
        refine q_goto (tgt := 5) dX12_nearestOf_58 (by decide) ?_
        refine q_sub (ls' := [(0, .ref a0), (1, .int a1), (2, .int a2), (3, .int a3), (4, .int (a4 + (1 : Int32)))]) [2, 3, 4, 1, 0] rfl ?_
        exact ih _ _
    · refine q_iload_n 3 dX12_nearestOf_61 rfl ?_
      exact q_iret dX12_nearestOf_62 rfl rfl (Nat.le_of_ble_eq_true rfl) rfl
set_option maxRecDepth 20000 in
theorem m_X12_nearestOf {M : q_Mem} {a0 : Nat} {a1 : Int32} {a2 : Int32} {x : Int32} (h : f_X12_nearestOf M a0 a1 a2 = some x) : q_C Y_X12_nearestOf [.ref a0, .int a1, .int a2] M (some (.int x)) M := by
  refine q_met (φ := (fun x : Int32 => (some (.int x), M))) (r := f_X12_nearestOf M a0 a1 a2) (by decide +kernel) (Nat.le_of_ble_eq_true rfl) ?_ h (fun _ _ => rfl)
  show q_V Y_X12_nearestOf none (fun x : Int32 => (some (.int x), M)) 0 0 0 [(0, .ref a0), (1, .int a1), (2, .int a2)] [] M (f_X12_nearestOf M a0 a1 a2)
  unfold f_X12_nearestOf
  refine q_obV ?_
  refine q_iconst (x := (-1 : Int32)) dX12_nearestOf_0 rfl ?_
  refine q_istore_n (ls' := [(3, .int (-1 : Int32)), (0, .ref a0), (1, .int a1), (2, .int a2)]) dX12_nearestOf_1 (by decide) rfl ?_
  refine q_iconst (x := (0 : Int32)) dX12_nearestOf_2 rfl ?_
  refine q_istore (ls' := [(4, .int (0 : Int32)), (3, .int (-1 : Int32)), (0, .ref a0), (1, .int a1), (2, .int a2)]) dX12_nearestOf_3 (by decide) rfl ?_
  refine q_sub (ls' := [(0, .ref a0), (1, .int a1), (2, .int a2), (3, .int (-1 : Int32)), (4, .int (0 : Int32))]) [2, 3, 4, 1, 0] rfl ?_
  exact v_X12_nearestOf_b5 _ _ _
theorem dX12_costOf_0 : decode cX12_costOf 0 = .ok (.lconst 0, 1) := by decide +kernel
theorem dX12_costOf_1 : decode cX12_costOf 1 = .ok (.lstore_n 2, 1) := by decide +kernel
theorem dX12_costOf_2 : decode cX12_costOf 2 = .ok (.iconst 0, 1) := by decide +kernel
theorem dX12_costOf_3 : decode cX12_costOf 3 = .ok (.istore 4, 2) := by decide +kernel
theorem dX12_costOf_5 : decode cX12_costOf 5 = .ok (.iload 4, 2) := by decide +kernel
theorem dX12_costOf_7 : decode cX12_costOf 7 = .ok (.aload_n 0, 1) := by decide +kernel
theorem dX12_costOf_8 : decode cX12_costOf 8 = .ok (.getfield 7, 3) := by decide +kernel
theorem dX12_costOf_11 : decode cX12_costOf 11 = .ok (.bipush 8, 2) := by decide +kernel
theorem dX12_costOf_13 : decode cX12_costOf 13 = .ok (.iaload, 1) := by decide +kernel
theorem dX12_costOf_14 : decode cX12_costOf 14 = .ok (.if_icmp .ge 42, 3) := by decide +kernel
theorem dX12_costOf_17 : decode cX12_costOf 17 = .ok (.lload_n 2, 1) := by decide +kernel
theorem dX12_costOf_18 : decode cX12_costOf 18 = .ok (.iload_n 1, 1) := by decide +kernel
theorem dX12_costOf_19 : decode cX12_costOf 19 = .ok (.iload 4, 2) := by decide +kernel
theorem dX12_costOf_21 : decode cX12_costOf 21 = .ok (.ishr, 1) := by decide +kernel
theorem dX12_costOf_22 : decode cX12_costOf 22 = .ok (.iconst 1, 1) := by decide +kernel
theorem dX12_costOf_23 : decode cX12_costOf 23 = .ok (.iand, 1) := by decide +kernel
theorem dX12_costOf_24 : decode cX12_costOf 24 = .ok (.iconst 1, 1) := by decide +kernel
theorem dX12_costOf_25 : decode cX12_costOf 25 = .ok (.if_icmp .ne 22, 3) := by decide +kernel
theorem dX12_costOf_28 : decode cX12_costOf 28 = .ok (.aload_n 0, 1) := by decide +kernel
theorem dX12_costOf_29 : decode cX12_costOf 29 = .ok (.getfield 7, 3) := by decide +kernel
theorem dX12_costOf_32 : decode cX12_costOf 32 = .ok (.sipush 4728, 3) := by decide +kernel
theorem dX12_costOf_35 : decode cX12_costOf 35 = .ok (.iconst 3, 1) := by decide +kernel
theorem dX12_costOf_36 : decode cX12_costOf 36 = .ok (.iload 4, 2) := by decide +kernel
theorem dX12_costOf_38 : decode cX12_costOf 38 = .ok (.imul, 1) := by decide +kernel
theorem dX12_costOf_39 : decode cX12_costOf 39 = .ok (.iadd, 1) := by decide +kernel
theorem dX12_costOf_40 : decode cX12_costOf 40 = .ok (.iconst 2, 1) := by decide +kernel
theorem dX12_costOf_41 : decode cX12_costOf 41 = .ok (.iadd, 1) := by decide +kernel
theorem dX12_costOf_42 : decode cX12_costOf 42 = .ok (.iaload, 1) := by decide +kernel
theorem dX12_costOf_43 : decode cX12_costOf 43 = .ok (.i2l, 1) := by decide +kernel
theorem dX12_costOf_44 : decode cX12_costOf 44 = .ok (.goto 4, 3) := by decide +kernel
theorem dX12_costOf_47 : decode cX12_costOf 47 = .ok (.lconst 0, 1) := by decide +kernel
theorem dX12_costOf_48 : decode cX12_costOf 48 = .ok (.ladd, 1) := by decide +kernel
theorem dX12_costOf_49 : decode cX12_costOf 49 = .ok (.lstore_n 2, 1) := by decide +kernel
theorem dX12_costOf_50 : decode cX12_costOf 50 = .ok (.iinc 4 1, 3) := by decide +kernel
theorem dX12_costOf_53 : decode cX12_costOf 53 = .ok (.goto (-48), 3) := by decide +kernel
theorem dX12_costOf_56 : decode cX12_costOf 56 = .ok (.iconst 0, 1) := by decide +kernel
theorem dX12_costOf_57 : decode cX12_costOf 57 = .ok (.istore 4, 2) := by decide +kernel
theorem dX12_costOf_59 : decode cX12_costOf 59 = .ok (.iload 4, 2) := by decide +kernel
theorem dX12_costOf_61 : decode cX12_costOf 61 = .ok (.aload_n 0, 1) := by decide +kernel
theorem dX12_costOf_62 : decode cX12_costOf 62 = .ok (.getfield 7, 3) := by decide +kernel
theorem dX12_costOf_65 : decode cX12_costOf 65 = .ok (.iconst 0, 1) := by decide +kernel
theorem dX12_costOf_66 : decode cX12_costOf 66 = .ok (.iaload, 1) := by decide +kernel
theorem dX12_costOf_67 : decode cX12_costOf 67 = .ok (.if_icmp .ge 43, 3) := by decide +kernel
theorem dX12_costOf_70 : decode cX12_costOf 70 = .ok (.lload_n 2, 1) := by decide +kernel
theorem dX12_costOf_71 : decode cX12_costOf 71 = .ok (.aload_n 0, 1) := by decide +kernel
theorem dX12_costOf_72 : decode cX12_costOf 72 = .ok (.getfield 7, 3) := by decide +kernel
theorem dX12_costOf_75 : decode cX12_costOf 75 = .ok (.bipush 12, 2) := by decide +kernel
theorem dX12_costOf_77 : decode cX12_costOf 77 = .ok (.iaload, 1) := by decide +kernel
theorem dX12_costOf_78 : decode cX12_costOf 78 = .ok (.i2l, 1) := by decide +kernel
theorem dX12_costOf_79 : decode cX12_costOf 79 = .ok (.aload_n 0, 1) := by decide +kernel
theorem dX12_costOf_80 : decode cX12_costOf 80 = .ok (.iload 4, 2) := by decide +kernel
theorem dX12_costOf_82 : decode cX12_costOf 82 = .ok (.invokevirtual 210, 3) := by decide +kernel
theorem dX12_costOf_85 : decode cX12_costOf 85 = .ok (.i2l, 1) := by decide +kernel
theorem dX12_costOf_86 : decode cX12_costOf 86 = .ok (.lmul, 1) := by decide +kernel
theorem dX12_costOf_87 : decode cX12_costOf 87 = .ok (.aload_n 0, 1) := by decide +kernel
theorem dX12_costOf_88 : decode cX12_costOf 88 = .ok (.iload 4, 2) := by decide +kernel
theorem dX12_costOf_90 : decode cX12_costOf 90 = .ok (.aload_n 0, 1) := by decide +kernel
theorem dX12_costOf_91 : decode cX12_costOf 91 = .ok (.iload 4, 2) := by decide +kernel
theorem dX12_costOf_93 : decode cX12_costOf 93 = .ok (.iload_n 1, 1) := by decide +kernel
theorem dX12_costOf_94 : decode cX12_costOf 94 = .ok (.invokevirtual 327, 3) := by decide +kernel
theorem dX12_costOf_97 : decode cX12_costOf 97 = .ok (.invokevirtual 324, 3) := by decide +kernel
theorem dX12_costOf_100 : decode cX12_costOf 100 = .ok (.i2l, 1) := by decide +kernel
theorem dX12_costOf_101 : decode cX12_costOf 101 = .ok (.lmul, 1) := by decide +kernel
theorem dX12_costOf_102 : decode cX12_costOf 102 = .ok (.ladd, 1) := by decide +kernel
theorem dX12_costOf_103 : decode cX12_costOf 103 = .ok (.lstore_n 2, 1) := by decide +kernel
theorem dX12_costOf_104 : decode cX12_costOf 104 = .ok (.iinc 4 1, 3) := by decide +kernel
theorem dX12_costOf_107 : decode cX12_costOf 107 = .ok (.goto (-48), 3) := by decide +kernel
theorem dX12_costOf_110 : decode cX12_costOf 110 = .ok (.lload_n 2, 1) := by decide +kernel
theorem dX12_costOf_111 : decode cX12_costOf 111 = .ok (.lreturn, 1) := by decide +kernel
def f_X12_costOf_b59 (M : q_Mem) (a0 : Nat) (a1 : Int32) : Nat → Int64 → Int32 → Option Int64
  | 0, _, _ => none
  | n + 1, a2, a4 =>
    (q_gR 11 0 M a0).bind fun v11 =>
    (q_lI M v11 (0 : Int32)).bind fun v13 =>
    (if a4 < v13 then
      (q_gR 11 0 M a0).bind fun v15 =>
      (q_lI M v15 (12 : Int32)).bind fun v17 =>
      (f_X12_cows M a0 a4).bind fun v20 =>
      (f_X12_nearestOf M a0 a4 a1).bind fun v22 =>
      (f_X12_toSite M a0 a4 v22).bind fun v24 =>
      f_X12_costOf_b59 M a0 a1 n (a2 + ((v17.toInt64 * v20.toInt64) * v24.toInt64)) (a4 + (1 : Int32))
    else
      some a2)
def f_X12_costOf_b5 (M : q_Mem) (a0 : Nat) (a1 : Int32) : Nat → Int64 → Int32 → Option Int64
  | 0, _, _ => none
  | n + 1, a2, a4 =>
    (q_gR 11 0 M a0).bind fun v1 =>
    (q_lI M v1 (8 : Int32)).bind fun v3 =>
    (if a4 < v3 then
      (if ((a1 >>> (a4 &&& 31)) &&& (1 : Int32)) = (1 : Int32) then
        (q_gR 11 0 M a0).bind fun v5 =>
        (q_lI M v5 (((4728 : Int32) + ((3 : Int32) * a4)) + (2 : Int32))).bind fun v7 =>
        f_X12_costOf_b5 M a0 a1 n (a2 + v7.toInt64) (a4 + (1 : Int32))
      else
        f_X12_costOf_b5 M a0 a1 n (a2 + (0 : Int64)) (a4 + (1 : Int32)))
    else
      f_X12_costOf_b59 M a0 a1 q_fuel a2 (0 : Int32))
def f_X12_costOf (M : q_Mem) (a0 : Nat) (a1 : Int32) : Option Int64 :=
  q_ob 11 M a0 (f_X12_costOf_b5 M a0 a1 q_fuel (0 : Int64) (0 : Int32))
set_option maxRecDepth 20000 in
theorem v_X12_costOf_b59 {M : q_Mem} {a0 : Nat} {a1 : Int32}  : ∀ (n : Nat) (a2 : Int64) (a4 : Int32), q_V Y_X12_costOf none (fun x : Int64 => (some (.long x), M)) 0 0 59 [(0, .ref a0), (1, .int a1), (2, .long a2), (4, .int a4)] [] M (f_X12_costOf_b59 M a0 a1 n a2 a4) := by
  intro n
  induction n with
  | zero => intro a2 a4; exact q_none
  | succ n ih =>
    intro a2 a4
    rw [f_X12_costOf_b59.eq_2]
    refine q_iload 3 dX12_costOf_59 rfl ?_
    refine q_aload_n 0 dX12_costOf_61 rfl ?_
    refine q_getR (f := 0) cl_X12 (by decide) qw_1117 rfl dX12_costOf_62 (fun _ _ _ => rfl) (fun v11 h12 => ?_)
    refine q_iconst (x := (0 : Int32)) dX12_costOf_65 rfl ?_
    refine q_iald dX12_costOf_66 (fun v13 h14 => ?_)
    refine q_icmp_ge (tgt := 110) dX12_costOf_67 (by decide) (fun c25 => ?_) (fun c25 => ?_)
    · refine q_lload_n 2 dX12_costOf_70 rfl ?_
      refine q_aload_n 0 dX12_costOf_71 rfl ?_
      refine q_getR (f := 0) cl_X12 (by decide) qw_1117 rfl dX12_costOf_72 (fun _ _ _ => rfl) (fun v15 h16 => ?_)
      refine q_bipush (x := (12 : Int32)) dX12_costOf_75 rfl ?_
      refine q_iald dX12_costOf_77 (fun v17 h18 => ?_)
      refine q_i2l dX12_costOf_78 ?_
      refine q_aload_n 0 dX12_costOf_79 rfl ?_
      refine q_iload 3 dX12_costOf_80 rfl ?_
      refine q_cVI (Y2 := Y_X12_cows) (As := [.int a4]) (b := a0) (st := [.long v17.toInt64, .long a2]) cl_X12 mv_X12_cows qw_1451 dX12_costOf_82 ⟨Nat.le_of_ble_eq_true rfl, Nat.le_of_ble_eq_true rfl⟩ rfl (fun _ _ => rfl) (Nat.le_of_ble_eq_true rfl) ⟨Nat.le_of_ble_eq_true rfl, Nat.le_of_ble_eq_true rfl⟩ (fun v20 h19 => q_ob_is h19) (fun v20 h19 => m_X12_cows h19) (fun v20 h19 => ?_)
      refine q_i2l dX12_costOf_85 ?_
      refine q_lmul dX12_costOf_86 ?_
      refine q_aload_n 0 dX12_costOf_87 rfl ?_
      refine q_iload 3 dX12_costOf_88 rfl ?_
      refine q_aload_n 0 dX12_costOf_90 rfl ?_
      refine q_iload 3 dX12_costOf_91 rfl ?_
      refine q_iload_n 1 dX12_costOf_93 rfl ?_
      refine q_cVI (Y2 := Y_X12_nearestOf) (As := [.int a4, .int a1]) (b := a0) (st := [.int a4, .ref a0, .long (v17.toInt64 * v20.toInt64), .long a2]) cl_X12 mv_X12_nearestOf qw_1640 dX12_costOf_94 ⟨Nat.le_of_ble_eq_true rfl, Nat.le_of_ble_eq_true rfl⟩ rfl (fun _ _ => rfl) (Nat.le_of_ble_eq_true rfl) ⟨Nat.le_of_ble_eq_true rfl, Nat.le_of_ble_eq_true rfl⟩ (fun v22 h21 => q_ob_is h21) (fun v22 h21 => m_X12_nearestOf h21) (fun v22 h21 => ?_)
      refine q_cVI (Y2 := Y_X12_toSite) (As := [.int a4, .int v22]) (b := a0) (st := [.long (v17.toInt64 * v20.toInt64), .long a2]) cl_X12 mv_X12_toSite qw_1644 dX12_costOf_97 ⟨Nat.le_of_ble_eq_true rfl, Nat.le_of_ble_eq_true rfl⟩ rfl (fun _ _ => rfl) (Nat.le_of_ble_eq_true rfl) ⟨Nat.le_of_ble_eq_true rfl, Nat.le_of_ble_eq_true rfl⟩ (fun v24 h23 => q_ob_is h23) (fun v24 h23 => m_X12_toSite h23) (fun v24 h23 => ?_)
      refine q_i2l dX12_costOf_100 ?_
      refine q_lmul dX12_costOf_101 ?_
      refine q_ladd dX12_costOf_102 ?_
      refine q_lstore_n (ls' := [(2, .long (a2 + ((v17.toInt64 * v20.toInt64) * v24.toInt64))), (0, .ref a0), (1, .int a1), (4, .int a4)]) dX12_costOf_103 (by decide) rfl ?_
      refine q_iinc 3 (y := (a4 + (1 : Int32))) (ls' := [(4, .int (a4 + (1 : Int32))), (2, .long (a2 + ((v17.toInt64 * v20.toInt64) * v24.toInt64))), (0, .ref a0), (1, .int a1)]) dX12_costOf_104 rfl rfl (by decide) rfl ?_
      refine q_goto (tgt := 59) dX12_costOf_107 (by decide) ?_
      refine q_sub (ls' := [(0, .ref a0), (1, .int a1), (2, .long (a2 + ((v17.toInt64 * v20.toInt64) * v24.toInt64))), (4, .int (a4 + (1 : Int32)))]) [2, 3, 1, 0] rfl ?_
      exact ih _ _
    · refine q_lload_n 2 dX12_costOf_110 rfl ?_
      exact q_lret dX12_costOf_111 rfl rfl (Nat.le_of_ble_eq_true rfl) rfl
set_option maxRecDepth 20000 in
theorem v_X12_costOf_b5 {M : q_Mem} {a0 : Nat} {a1 : Int32}  : ∀ (n : Nat) (a2 : Int64) (a4 : Int32), q_V Y_X12_costOf none (fun x : Int64 => (some (.long x), M)) 0 0 5 [(0, .ref a0), (1, .int a1), (2, .long a2), (4, .int a4)] [] M (f_X12_costOf_b5 M a0 a1 n a2 a4) := by
  intro n
  induction n with
  | zero => intro a2 a4; exact q_none
  | succ n ih =>
    intro a2 a4
    rw [f_X12_costOf_b5.eq_2]
    refine q_iload 3 dX12_costOf_5 rfl ?_
    refine q_aload_n 0 dX12_costOf_7 rfl ?_
    refine q_getR (f := 0) cl_X12 (by decide) qw_1117 rfl dX12_costOf_8 (fun _ _ _ => rfl) (fun v1 h2 => ?_)
    refine q_bipush (x := (8 : Int32)) dX12_costOf_11 rfl ?_
    refine q_iald dX12_costOf_13 (fun v3 h4 => ?_)
    refine q_icmp_ge (tgt := 56) dX12_costOf_14 (by decide) (fun c10 => ?_) (fun c10 => ?_)
    · refine q_lload_n 2 dX12_costOf_17 rfl ?_
      refine q_iload_n 1 dX12_costOf_18 rfl ?_
      refine q_iload 3 dX12_costOf_19 rfl ?_
      refine q_ishr dX12_costOf_21 ?_
      refine q_iconst (x := (1 : Int32)) dX12_costOf_22 rfl ?_
      refine q_iand dX12_costOf_23 ?_
      refine q_iconst (x := (1 : Int32)) dX12_costOf_24 rfl ?_
      refine q_icmp_ne (tgt := 47) dX12_costOf_25 (by decide) (fun c9 => ?_) (fun c9 => ?_)
      · refine q_aload_n 0 dX12_costOf_28 rfl ?_
        refine q_getR (f := 0) cl_X12 (by decide) qw_1117 rfl dX12_costOf_29 (fun _ _ _ => rfl) (fun v5 h6 => ?_)
        refine q_sipush (x := (4728 : Int32)) dX12_costOf_32 rfl ?_
        refine q_iconst (x := (3 : Int32)) dX12_costOf_35 rfl ?_
        refine q_iload 3 dX12_costOf_36 rfl ?_
        refine q_imul dX12_costOf_38 ?_
        refine q_iadd dX12_costOf_39 ?_
        refine q_iconst (x := (2 : Int32)) dX12_costOf_40 rfl ?_
        refine q_iadd dX12_costOf_41 ?_
        refine q_iald dX12_costOf_42 (fun v7 h8 => ?_)
        refine q_i2l dX12_costOf_43 ?_
        refine q_goto (tgt := 48) dX12_costOf_44 (by decide) ?_
        refine q_ladd dX12_costOf_48 ?_
        refine q_lstore_n (ls' := [(2, .long (a2 + v7.toInt64)), (0, .ref a0), (1, .int a1), (4, .int a4)]) dX12_costOf_49 (by decide) rfl ?_
        refine q_iinc 3 (y := (a4 + (1 : Int32))) (ls' := [(4, .int (a4 + (1 : Int32))), (2, .long (a2 + v7.toInt64)), (0, .ref a0), (1, .int a1)]) dX12_costOf_50 rfl rfl (by decide) rfl ?_
        refine q_goto (tgt := 5) dX12_costOf_53 (by decide) ?_
        refine q_sub (ls' := [(0, .ref a0), (1, .int a1), (2, .long (a2 + v7.toInt64)), (4, .int (a4 + (1 : Int32)))]) [2, 3, 1, 0] rfl ?_
        exact ih _ _
      · refine q_lconst (x := (0 : Int64)) dX12_costOf_47 rfl ?_
        refine q_ladd dX12_costOf_48 ?_
        refine q_lstore_n (ls' := [(2, .long (a2 + (0 : Int64))), (0, .ref a0), (1, .int a1), (4, .int a4)]) dX12_costOf_49 (by decide) rfl ?_
        refine q_iinc 3 (y := (a4 + (1 : Int32))) (ls' := [(4, .int (a4 + (1 : Int32))), (2, .long (a2 + (0 : Int64))), (0, .ref a0), (1, .int a1)]) dX12_costOf_50 rfl rfl (by decide) rfl ?_
        refine q_goto (tgt := 5) dX12_costOf_53 (by decide) ?_
        refine q_sub (ls' := [(0, .ref a0), (1, .int a1), (2, .long (a2 + (0 : Int64))), (4, .int (a4 + (1 : Int32)))]) [2, 3, 1, 0] rfl ?_
        exact ih _ _
    · refine q_iconst (x := (0 : Int32)) dX12_costOf_56 rfl ?_
      refine q_istore (ls' := [(4, .int (0 : Int32)), (0, .ref a0), (1, .int a1), (2, .long a2)]) dX12_costOf_57 (by decide) rfl ?_
      refine q_sub (ls' := [(0, .ref a0), (1, .int a1), (2, .long a2), (4, .int (0 : Int32))]) [1, 2, 3, 0] rfl ?_
      exact v_X12_costOf_b59 _ _ _
set_option maxRecDepth 20000 in
theorem m_X12_costOf {M : q_Mem} {a0 : Nat} {a1 : Int32} {x : Int64} (h : f_X12_costOf M a0 a1 = some x) : q_C Y_X12_costOf [.ref a0, .int a1] M (some (.long x)) M := by
  refine q_met (φ := (fun x : Int64 => (some (.long x), M))) (r := f_X12_costOf M a0 a1) (by decide +kernel) (Nat.le_of_ble_eq_true rfl) ?_ h (fun _ _ => rfl)
  show q_V Y_X12_costOf none (fun x : Int64 => (some (.long x), M)) 0 0 0 [(0, .ref a0), (1, .int a1)] [] M (f_X12_costOf M a0 a1)
  unfold f_X12_costOf
  refine q_obV ?_
  refine q_lconst (x := (0 : Int64)) dX12_costOf_0 rfl ?_
  refine q_lstore_n (ls' := [(2, .long (0 : Int64)), (0, .ref a0), (1, .int a1)]) dX12_costOf_1 (by decide) rfl ?_
  refine q_iconst (x := (0 : Int32)) dX12_costOf_2 rfl ?_
  refine q_istore (ls' := [(4, .int (0 : Int32)), (2, .long (0 : Int64)), (0, .ref a0), (1, .int a1)]) dX12_costOf_3 (by decide) rfl ?_
  refine q_sub (ls' := [(0, .ref a0), (1, .int a1), (2, .long (0 : Int64)), (4, .int (0 : Int32))]) [2, 3, 1, 0] rfl ?_
  exact v_X12_costOf_b5 _ _ _
theorem dX12_open_0 : decode cX12_open 0 = .ok (.iload_n 1, 1) := by decide +kernel
theorem dX12_open_1 : decode cX12_open 1 = .ok (.iconst 0, 1) := by decide +kernel
theorem dX12_open_2 : decode cX12_open 2 = .ok (.iconst 1, 1) := by decide +kernel
theorem dX12_open_3 : decode cX12_open 3 = .ok (.invokestatic 78, 3) := by decide +kernel
theorem dX12_open_6 : decode cX12_open 6 = .ok (.ifCond .ne 7, 3) := by decide +kernel
theorem dX12_open_9 : decode cX12_open 9 = .ok (.ldc2_w 123, 3) := by decide +kernel
theorem dX12_open_12 : decode cX12_open 12 = .ok (.lreturn, 1) := by decide +kernel
theorem dX12_open_13 : decode cX12_open 13 = .ok (.aload_n 0, 1) := by decide +kernel
theorem dX12_open_14 : decode cX12_open 14 = .ok (.getfield 7, 3) := by decide +kernel
theorem dX12_open_17 : decode cX12_open 17 = .ok (.bipush 8, 2) := by decide +kernel
theorem dX12_open_19 : decode cX12_open 19 = .ok (.iaload, 1) := by decide +kernel
theorem dX12_open_20 : decode cX12_open 20 = .ok (.ifCond .ne 7, 3) := by decide +kernel
theorem dX12_open_23 : decode cX12_open 23 = .ok (.ldc2_w 330, 3) := by decide +kernel
theorem dX12_open_26 : decode cX12_open 26 = .ok (.lreturn, 1) := by decide +kernel
theorem dX12_open_27 : decode cX12_open 27 = .ok (.iconst 1, 1) := by decide +kernel
theorem dX12_open_28 : decode cX12_open 28 = .ok (.istore_n 2, 1) := by decide +kernel
theorem dX12_open_29 : decode cX12_open 29 = .ok (.iconst 2, 1) := by decide +kernel
theorem dX12_open_30 : decode cX12_open 30 = .ok (.istore_n 3, 1) := by decide +kernel
theorem dX12_open_31 : decode cX12_open 31 = .ok (.iload_n 3, 1) := by decide +kernel
theorem dX12_open_32 : decode cX12_open 32 = .ok (.iconst 1, 1) := by decide +kernel
theorem dX12_open_33 : decode cX12_open 33 = .ok (.aload_n 0, 1) := by decide +kernel
theorem dX12_open_34 : decode cX12_open 34 = .ok (.getfield 7, 3) := by decide +kernel
theorem dX12_open_37 : decode cX12_open 37 = .ok (.bipush 8, 2) := by decide +kernel
theorem dX12_open_39 : decode cX12_open 39 = .ok (.iaload, 1) := by decide +kernel
theorem dX12_open_40 : decode cX12_open 40 = .ok (.ishl, 1) := by decide +kernel
theorem dX12_open_41 : decode cX12_open 41 = .ok (.if_icmp .ge 29, 3) := by decide +kernel
theorem dX12_open_44 : decode cX12_open 44 = .ok (.aload_n 0, 1) := by decide +kernel
theorem dX12_open_45 : decode cX12_open 45 = .ok (.iload_n 3, 1) := by decide +kernel
theorem dX12_open_46 : decode cX12_open 46 = .ok (.invokevirtual 332, 3) := by decide +kernel
theorem dX12_open_49 : decode cX12_open 49 = .ok (.aload_n 0, 1) := by decide +kernel
theorem dX12_open_50 : decode cX12_open 50 = .ok (.iload_n 2, 1) := by decide +kernel
theorem dX12_open_51 : decode cX12_open 51 = .ok (.invokevirtual 332, 3) := by decide +kernel
theorem dX12_open_54 : decode cX12_open 54 = .ok (.lcmp, 1) := by decide +kernel
theorem dX12_open_55 : decode cX12_open 55 = .ok (.ifCond .ge 7, 3) := by decide +kernel
theorem dX12_open_58 : decode cX12_open 58 = .ok (.iload_n 3, 1) := by decide +kernel
theorem dX12_open_59 : decode cX12_open 59 = .ok (.goto 4, 3) := by decide +kernel
theorem dX12_open_62 : decode cX12_open 62 = .ok (.iload_n 2, 1) := by decide +kernel
theorem dX12_open_63 : decode cX12_open 63 = .ok (.istore_n 2, 1) := by decide +kernel
theorem dX12_open_64 : decode cX12_open 64 = .ok (.iinc 3 1, 3) := by decide +kernel
theorem dX12_open_67 : decode cX12_open 67 = .ok (.goto (-36), 3) := by decide +kernel
theorem dX12_open_70 : decode cX12_open 70 = .ok (.iload_n 1, 1) := by decide +kernel
theorem dX12_open_71 : decode cX12_open 71 = .ok (.ifCond .ne 8, 3) := by decide +kernel
theorem dX12_open_74 : decode cX12_open 74 = .ok (.iload_n 2, 1) := by decide +kernel
theorem dX12_open_75 : decode cX12_open 75 = .ok (.i2l, 1) := by decide +kernel
theorem dX12_open_76 : decode cX12_open 76 = .ok (.goto 8, 3) := by decide +kernel
theorem dX12_open_79 : decode cX12_open 79 = .ok (.aload_n 0, 1) := by decide +kernel
theorem dX12_open_80 : decode cX12_open 80 = .ok (.iload_n 2, 1) := by decide +kernel
theorem dX12_open_81 : decode cX12_open 81 = .ok (.invokevirtual 332, 3) := by decide +kernel
theorem dX12_open_84 : decode cX12_open 84 = .ok (.lreturn, 1) := by decide +kernel
def f_X12_open_b70 (M : q_Mem) (a0 : Nat) (a1 : Int32) (a2 : Int32) : Option Int64 :=
  (if a1 = 0 then
    some a2.toInt64
  else
    (f_X12_costOf M a0 a2).bind fun v20 =>
    some v20)
def f_X12_open_b31 (M : q_Mem) (a0 : Nat) (a1 : Int32) : Nat → Int32 → Int32 → Option Int64
  | 0, _, _ => none
  | n + 1, a2, a3 =>
    (q_gR 11 0 M a0).bind fun v9 =>
    (q_lI M v9 (8 : Int32)).bind fun v11 =>
    (if a3 < ((1 : Int32) <<< (v11 &&& 31)) then
      (f_X12_costOf M a0 a3).bind fun v14 =>
      (f_X12_costOf M a0 a2).bind fun v16 =>
      (if v14 < v16 then
        f_X12_open_b31 M a0 a1 n a3 (a3 + (1 : Int32))
      else
        f_X12_open_b31 M a0 a1 n a2 (a3 + (1 : Int32)))
    else
      f_X12_open_b70 M a0 a1 a2)
def f_X12_open (M : q_Mem) (a0 : Nat) (a1 : Int32) : Option Int64 :=
  q_ob 11 M a0 ((f_X12_in M a1 (0 : Int32) (1 : Int32)).bind fun v2 =>
  (if v2 = 0 then
    some (-2 : Int64)
  else
    (q_gR 11 0 M a0).bind fun v3 =>
    (q_lI M v3 (8 : Int32)).bind fun v5 =>
    (if v5 = 0 then
      some (-3 : Int64)
    else
      f_X12_open_b31 M a0 a1 q_fuel (1 : Int32) (2 : Int32))))
set_option maxRecDepth 20000 in
theorem v_X12_open_b70 {M : q_Mem} {a0 : Nat} {a1 : Int32} {a2 : Int32}  : q_V Y_X12_open none (fun x : Int64 => (some (.long x), M)) 0 0 70 [(0, .ref a0), (1, .int a1), (2, .int a2)] [] M (f_X12_open_b70 M a0 a1 a2 ) := by
  unfold f_X12_open_b70
  refine q_iload_n 1 dX12_open_70 rfl ?_
  refine q_if_ne (tgt := 79) dX12_open_71 (by decide) (fun c21 => ?_) (fun c21 => ?_)
  · refine q_iload_n 2 dX12_open_74 rfl ?_
    refine q_i2l dX12_open_75 ?_
    refine q_goto (tgt := 84) dX12_open_76 (by decide) ?_
    exact q_lret dX12_open_84 rfl rfl (Nat.le_of_ble_eq_true rfl) rfl
  · refine q_aload_n 0 dX12_open_79 rfl ?_
    refine q_iload_n 2 dX12_open_80 rfl ?_
    refine q_cVJ (Y2 := Y_X12_costOf) (As := [.int a2]) (b := a0) (st := []) cl_X12 mv_X12_costOf qw_1636 dX12_open_81 ⟨Nat.le_of_ble_eq_true rfl, Nat.le_of_ble_eq_true rfl⟩ rfl (fun _ _ => rfl) (Nat.le_of_ble_eq_true rfl) ⟨Nat.le_of_ble_eq_true rfl, Nat.le_of_ble_eq_true rfl⟩ (fun v20 h19 => q_ob_is h19) (fun v20 h19 => m_X12_costOf h19) (fun v20 h19 => ?_)
    exact q_lret dX12_open_84 rfl rfl (Nat.le_of_ble_eq_true rfl) rfl
set_option maxRecDepth 20000 in
theorem v_X12_open_b31 {M : q_Mem} {a0 : Nat} {a1 : Int32}  : ∀ (n : Nat) (a2 : Int32) (a3 : Int32), q_V Y_X12_open none (fun x : Int64 => (some (.long x), M)) 0 0 31 [(0, .ref a0), (1, .int a1), (2, .int a2), (3, .int a3)] [] M (f_X12_open_b31 M a0 a1 n a2 a3) := by
  intro n
  induction n with
  | zero => intro a2 a3; exact q_none
  | succ n ih =>
    intro a2 a3
    rw [f_X12_open_b31.eq_2]
    refine q_iload_n 3 dX12_open_31 rfl ?_
    refine q_iconst (x := (1 : Int32)) dX12_open_32 rfl ?_
    refine q_aload_n 0 dX12_open_33 rfl ?_
    refine q_getR (f := 0) cl_X12 (by decide) qw_1117 rfl dX12_open_34 (fun _ _ _ => rfl) (fun v9 h10 => ?_)
    refine q_bipush (x := (8 : Int32)) dX12_open_37 rfl ?_
    refine q_iald dX12_open_39 (fun v11 h12 => ?_)
    refine q_ishl dX12_open_40 ?_
    refine q_icmp_ge (tgt := 70) dX12_open_41 (by decide) (fun c18 => ?_) (fun c18 => ?_)
    · refine q_aload_n 0 dX12_open_44 rfl ?_
      refine q_iload_n 3 dX12_open_45 rfl ?_
      refine q_cVJ (Y2 := Y_X12_costOf) (As := [.int a3]) (b := a0) (st := []) cl_X12 mv_X12_costOf qw_1636 dX12_open_46 ⟨Nat.le_of_ble_eq_true rfl, Nat.le_of_ble_eq_true rfl⟩ rfl (fun _ _ => rfl) (Nat.le_of_ble_eq_true rfl) ⟨Nat.le_of_ble_eq_true rfl, Nat.le_of_ble_eq_true rfl⟩ (fun v14 h13 => q_ob_is h13) (fun v14 h13 => m_X12_costOf h13) (fun v14 h13 => ?_)
      refine q_aload_n 0 dX12_open_49 rfl ?_
      refine q_iload_n 2 dX12_open_50 rfl ?_
      refine q_cVJ (Y2 := Y_X12_costOf) (As := [.int a2]) (b := a0) (st := [.long v14]) cl_X12 mv_X12_costOf qw_1636 dX12_open_51 ⟨Nat.le_of_ble_eq_true rfl, Nat.le_of_ble_eq_true rfl⟩ rfl (fun _ _ => rfl) (Nat.le_of_ble_eq_true rfl) ⟨Nat.le_of_ble_eq_true rfl, Nat.le_of_ble_eq_true rfl⟩ (fun v16 h15 => q_ob_is h15) (fun v16 h15 => m_X12_costOf h15) (fun v16 h15 => ?_)
      refine q_lcmp_ge (tgt := 62) dX12_open_54 dX12_open_55 (by decide) (fun c17 => ?_) (fun c17 => ?_)
      · refine q_iload_n 3 dX12_open_58 rfl ?_
        refine q_goto (tgt := 63) dX12_open_59 (by decide) ?_
        refine q_istore_n (ls' := [(2, .int a3), (0, .ref a0), (1, .int a1), (3, .int a3)]) dX12_open_63 (by decide) rfl ?_
        refine q_iinc 3 (y := (a3 + (1 : Int32))) (ls' := [(3, .int (a3 + (1 : Int32))), (2, .int a3), (0, .ref a0), (1, .int a1)]) dX12_open_64 rfl rfl (by decide) rfl ?_
        refine q_goto (tgt := 31) dX12_open_67 (by decide) ?_
        refine q_sub (ls' := [(0, .ref a0), (1, .int a1), (2, .int a3), (3, .int (a3 + (1 : Int32)))]) [2, 3, 1, 0] rfl ?_
        exact ih _ _
      · refine q_iload_n 2 dX12_open_62 rfl ?_
        refine q_istore_n (ls' := [(2, .int a2), (0, .ref a0), (1, .int a1), (3, .int a3)]) dX12_open_63 (by decide) rfl ?_
        refine q_iinc 3 (y := (a3 + (1 : Int32))) (ls' := [(3, .int (a3 + (1 : Int32))), (2, .int a2), (0, .ref a0), (1, .int a1)]) dX12_open_64 rfl rfl (by decide) rfl ?_
        refine q_goto (tgt := 31) dX12_open_67 (by decide) ?_
        refine q_sub (ls' := [(0, .ref a0), (1, .int a1), (2, .int a2), (3, .int (a3 + (1 : Int32)))]) [2, 3, 1, 0] rfl ?_
        exact ih _ _
    · refine q_sub (ls' := [(0, .ref a0), (1, .int a1), (2, .int a2)]) [0, 1, 2] rfl ?_
      exact v_X12_open_b70
set_option maxRecDepth 20000 in
theorem m_X12_open {M : q_Mem} {a0 : Nat} {a1 : Int32} {x : Int64} (h : f_X12_open M a0 a1 = some x) : q_C Y_X12_open [.ref a0, .int a1] M (some (.long x)) M := by
  refine q_met (φ := (fun x : Int64 => (some (.long x), M))) (r := f_X12_open M a0 a1) (by decide +kernel) (Nat.le_of_ble_eq_true rfl) ?_ h (fun _ _ => rfl)
  show q_V Y_X12_open none (fun x : Int64 => (some (.long x), M)) 0 0 0 [(0, .ref a0), (1, .int a1)] [] M (f_X12_open M a0 a1)
  unfold f_X12_open
  refine q_obV ?_
  refine q_iload_n 1 dX12_open_0 rfl ?_
  refine q_iconst (x := (0 : Int32)) dX12_open_1 rfl ?_
  refine q_iconst (x := (1 : Int32)) dX12_open_2 rfl ?_
  refine q_cSI (Y2 := Y_X12_in) (As := [.int a1, .int (0 : Int32), .int (1 : Int32)]) (st := []) ms_X12_in qw_1214 dX12_open_3 ⟨Nat.le_of_ble_eq_true rfl, Nat.le_of_ble_eq_true rfl⟩ rfl (fun _ _ => rfl) (Nat.le_of_ble_eq_true rfl) ⟨Nat.le_of_ble_eq_true rfl, Nat.le_of_ble_eq_true rfl⟩ (fun v2 h1 => m_X12_in h1) (fun v2 h1 => ?_)
  refine q_if_ne (tgt := 13) dX12_open_6 (by decide) (fun c8 => ?_) (fun c8 => ?_)
  · refine q_ldc2 (x := (-2 : Int64)) qw_1299 dX12_open_9 ?_
    exact q_lret dX12_open_12 rfl rfl (Nat.le_of_ble_eq_true rfl) rfl
  · refine q_aload_n 0 dX12_open_13 rfl ?_
    refine q_getR (f := 0) cl_X12 (by decide) qw_1117 rfl dX12_open_14 (fun _ _ _ => rfl) (fun v3 h4 => ?_)
    refine q_bipush (x := (8 : Int32)) dX12_open_17 rfl ?_
    refine q_iald dX12_open_19 (fun v5 h6 => ?_)
    refine q_if_ne (tgt := 27) dX12_open_20 (by decide) (fun c7 => ?_) (fun c7 => ?_)
    · refine q_ldc2 (x := (-3 : Int64)) qw_1635 dX12_open_23 ?_
      exact q_lret dX12_open_26 rfl rfl (Nat.le_of_ble_eq_true rfl) rfl
    · refine q_iconst (x := (1 : Int32)) dX12_open_27 rfl ?_
      refine q_istore_n (ls' := [(2, .int (1 : Int32)), (0, .ref a0), (1, .int a1)]) dX12_open_28 (by decide) rfl ?_
      refine q_iconst (x := (2 : Int32)) dX12_open_29 rfl ?_
      refine q_istore_n (ls' := [(3, .int (2 : Int32)), (2, .int (1 : Int32)), (0, .ref a0), (1, .int a1)]) dX12_open_30 (by decide) rfl ?_
      refine q_sub (ls' := [(0, .ref a0), (1, .int a1), (2, .int (1 : Int32)), (3, .int (2 : Int32))]) [2, 3, 1, 0] rfl ?_
      exact v_X12_open_b31 _ _ _
theorem dX12_nearest_0 : decode cX12_nearest 0 = .ok (.aload_n 0, 1) := by decide +kernel
theorem dX12_nearest_1 : decode cX12_nearest 1 = .ok (.iconst 0, 1) := by decide +kernel
theorem dX12_nearest_2 : decode cX12_nearest 2 = .ok (.iload_n 1, 1) := by decide +kernel
theorem dX12_nearest_3 : decode cX12_nearest 3 = .ok (.invokevirtual 86, 3) := by decide +kernel
theorem dX12_nearest_6 : decode cX12_nearest 6 = .ok (.ifCond .eq 31, 3) := by decide +kernel
theorem dX12_nearest_9 : decode cX12_nearest 9 = .ok (.iload_n 2, 1) := by decide +kernel
theorem dX12_nearest_10 : decode cX12_nearest 10 = .ok (.iconst 1, 1) := by decide +kernel
theorem dX12_nearest_11 : decode cX12_nearest 11 = .ok (.iconst 1, 1) := by decide +kernel
theorem dX12_nearest_12 : decode cX12_nearest 12 = .ok (.aload_n 0, 1) := by decide +kernel
theorem dX12_nearest_13 : decode cX12_nearest 13 = .ok (.getfield 7, 3) := by decide +kernel
theorem dX12_nearest_16 : decode cX12_nearest 16 = .ok (.bipush 8, 2) := by decide +kernel
theorem dX12_nearest_18 : decode cX12_nearest 18 = .ok (.iaload, 1) := by decide +kernel
theorem dX12_nearest_19 : decode cX12_nearest 19 = .ok (.ishl, 1) := by decide +kernel
theorem dX12_nearest_20 : decode cX12_nearest 20 = .ok (.iconst 1, 1) := by decide +kernel
theorem dX12_nearest_21 : decode cX12_nearest 21 = .ok (.isub, 1) := by decide +kernel
theorem dX12_nearest_22 : decode cX12_nearest 22 = .ok (.invokestatic 78, 3) := by decide +kernel
theorem dX12_nearest_25 : decode cX12_nearest 25 = .ok (.ifCond .eq 12, 3) := by decide +kernel
theorem dX12_nearest_28 : decode cX12_nearest 28 = .ok (.aload_n 0, 1) := by decide +kernel
theorem dX12_nearest_29 : decode cX12_nearest 29 = .ok (.iload_n 1, 1) := by decide +kernel
theorem dX12_nearest_30 : decode cX12_nearest 30 = .ok (.iload_n 2, 1) := by decide +kernel
theorem dX12_nearest_31 : decode cX12_nearest 31 = .ok (.invokevirtual 327, 3) := by decide +kernel
theorem dX12_nearest_34 : decode cX12_nearest 34 = .ok (.goto 5, 3) := by decide +kernel
theorem dX12_nearest_37 : decode cX12_nearest 37 = .ok (.bipush (-2), 2) := by decide +kernel
theorem dX12_nearest_39 : decode cX12_nearest 39 = .ok (.ireturn, 1) := by decide +kernel
def f_X12_nearest (M : q_Mem) (a0 : Nat) (a1 : Int32) (a2 : Int32) : Option Int32 :=
  q_ob 11 M a0 ((f_X12_is M a0 (0 : Int32) a1).bind fun v2 =>
  (if v2 = 0 then
    some (-2 : Int32)
  else
    (q_gR 11 0 M a0).bind fun v3 =>
    (q_lI M v3 (8 : Int32)).bind fun v5 =>
    (f_X12_in M a2 (1 : Int32) (((1 : Int32) <<< (v5 &&& 31)) - (1 : Int32))).bind fun v8 =>
    (if v8 = 0 then
      some (-2 : Int32)
    else
      (f_X12_nearestOf M a0 a1 a2).bind fun v10 =>
      some v10)))
set_option maxRecDepth 20000 in
theorem m_X12_nearest {M : q_Mem} {a0 : Nat} {a1 : Int32} {a2 : Int32} {x : Int32} (h : f_X12_nearest M a0 a1 a2 = some x) : q_C Y_X12_nearest [.ref a0, .int a1, .int a2] M (some (.int x)) M := by
  refine q_met (φ := (fun x : Int32 => (some (.int x), M))) (r := f_X12_nearest M a0 a1 a2) (by decide +kernel) (Nat.le_of_ble_eq_true rfl) ?_ h (fun _ _ => rfl)
  show q_V Y_X12_nearest none (fun x : Int32 => (some (.int x), M)) 0 0 0 [(0, .ref a0), (1, .int a1), (2, .int a2)] [] M (f_X12_nearest M a0 a1 a2)
  unfold f_X12_nearest
  refine q_obV ?_
  refine q_aload_n 0 dX12_nearest_0 rfl ?_
  refine q_iconst (x := (0 : Int32)) dX12_nearest_1 rfl ?_
  refine q_iload_n 1 dX12_nearest_2 rfl ?_
  refine q_cVI (Y2 := Y_X12_is) (As := [.int (0 : Int32), .int a1]) (b := a0) (st := []) cl_X12 mv_X12_is qw_1225 dX12_nearest_3 ⟨Nat.le_of_ble_eq_true rfl, Nat.le_of_ble_eq_true rfl⟩ rfl (fun _ _ => rfl) (Nat.le_of_ble_eq_true rfl) ⟨Nat.le_of_ble_eq_true rfl, Nat.le_of_ble_eq_true rfl⟩ (fun v2 h1 => q_ob_is h1) (fun v2 h1 => m_X12_is h1) (fun v2 h1 => ?_)
  refine q_if_eq (tgt := 37) dX12_nearest_6 (by decide) (fun c12 => ?_) (fun c12 => ?_)
  · refine q_bipush (x := (-2 : Int32)) dX12_nearest_37 rfl ?_
    exact q_iret dX12_nearest_39 rfl rfl (Nat.le_of_ble_eq_true rfl) rfl
  · refine q_iload_n 2 dX12_nearest_9 rfl ?_
    refine q_iconst (x := (1 : Int32)) dX12_nearest_10 rfl ?_
    refine q_iconst (x := (1 : Int32)) dX12_nearest_11 rfl ?_
    refine q_aload_n 0 dX12_nearest_12 rfl ?_
    refine q_getR (f := 0) cl_X12 (by decide) qw_1117 rfl dX12_nearest_13 (fun _ _ _ => rfl) (fun v3 h4 => ?_)
    refine q_bipush (x := (8 : Int32)) dX12_nearest_16 rfl ?_
    refine q_iald dX12_nearest_18 (fun v5 h6 => ?_)
    refine q_ishl dX12_nearest_19 ?_
    refine q_iconst (x := (1 : Int32)) dX12_nearest_20 rfl ?_
    refine q_isub dX12_nearest_21 ?_
    refine q_cSI (Y2 := Y_X12_in) (As := [.int a2, .int (1 : Int32), .int (((1 : Int32) <<< (v5 &&& 31)) - (1 : Int32))]) (st := []) ms_X12_in qw_1214 dX12_nearest_22 ⟨Nat.le_of_ble_eq_true rfl, Nat.le_of_ble_eq_true rfl⟩ rfl (fun _ _ => rfl) (Nat.le_of_ble_eq_true rfl) ⟨Nat.le_of_ble_eq_true rfl, Nat.le_of_ble_eq_true rfl⟩ (fun v8 h7 => m_X12_in h7) (fun v8 h7 => ?_)
    refine q_if_eq (tgt := 37) dX12_nearest_25 (by decide) (fun c11 => ?_) (fun c11 => ?_)
    · refine q_bipush (x := (-2 : Int32)) dX12_nearest_37 rfl ?_
      exact q_iret dX12_nearest_39 rfl rfl (Nat.le_of_ble_eq_true rfl) rfl
    · refine q_aload_n 0 dX12_nearest_28 rfl ?_
      refine q_iload_n 1 dX12_nearest_29 rfl ?_
      refine q_iload_n 2 dX12_nearest_30 rfl ?_
      refine q_cVI (Y2 := Y_X12_nearestOf) (As := [.int a1, .int a2]) (b := a0) (st := []) cl_X12 mv_X12_nearestOf qw_1640 dX12_nearest_31 ⟨Nat.le_of_ble_eq_true rfl, Nat.le_of_ble_eq_true rfl⟩ rfl (fun _ _ => rfl) (Nat.le_of_ble_eq_true rfl) ⟨Nat.le_of_ble_eq_true rfl, Nat.le_of_ble_eq_true rfl⟩ (fun v10 h9 => q_ob_is h9) (fun v10 h9 => m_X12_nearestOf h9) (fun v10 h9 => ?_)
      refine q_goto (tgt := 39) dX12_nearest_34 (by decide) ?_
      exact q_iret dX12_nearest_39 rfl rfl (Nat.le_of_ble_eq_true rfl) rfl
theorem dX12_loan_0 : decode cX12_loan 0 = .ok (.iload_n 1, 1) := by decide +kernel
theorem dX12_loan_1 : decode cX12_loan 1 = .ok (.iconst 1, 1) := by decide +kernel
theorem dX12_loan_2 : decode cX12_loan 2 = .ok (.ldc 159, 2) := by decide +kernel
theorem dX12_loan_4 : decode cX12_loan 4 = .ok (.invokestatic 78, 3) := by decide +kernel
theorem dX12_loan_7 : decode cX12_loan 7 = .ok (.ifCond .eq 24, 3) := by decide +kernel
theorem dX12_loan_10 : decode cX12_loan 10 = .ok (.iload_n 2, 1) := by decide +kernel
theorem dX12_loan_11 : decode cX12_loan 11 = .ok (.iconst 0, 1) := by decide +kernel
theorem dX12_loan_12 : decode cX12_loan 12 = .ok (.bipush 100, 2) := by decide +kernel
theorem dX12_loan_14 : decode cX12_loan 14 = .ok (.invokestatic 78, 3) := by decide +kernel
theorem dX12_loan_17 : decode cX12_loan 17 = .ok (.ifCond .eq 14, 3) := by decide +kernel
theorem dX12_loan_20 : decode cX12_loan 20 = .ok (.iload_n 3, 1) := by decide +kernel
theorem dX12_loan_21 : decode cX12_loan 21 = .ok (.iconst 1, 1) := by decide +kernel
theorem dX12_loan_22 : decode cX12_loan 22 = .ok (.ldc_w 335, 3) := by decide +kernel
theorem dX12_loan_25 : decode cX12_loan 25 = .ok (.invokestatic 78, 3) := by decide +kernel
theorem dX12_loan_28 : decode cX12_loan 28 = .ok (.ifCond .ne 6, 3) := by decide +kernel
theorem dX12_loan_31 : decode cX12_loan 31 = .ok (.bipush (-2), 2) := by decide +kernel
theorem dX12_loan_33 : decode cX12_loan 33 = .ok (.ireturn, 1) := by decide +kernel
theorem dX12_loan_34 : decode cX12_loan 34 = .ok (.aload_n 0, 1) := by decide +kernel
theorem dX12_loan_35 : decode cX12_loan 35 = .ok (.getfield 7, 3) := by decide +kernel
theorem dX12_loan_38 : decode cX12_loan 38 = .ok (.bipush 9, 2) := by decide +kernel
theorem dX12_loan_40 : decode cX12_loan 40 = .ok (.iaload, 1) := by decide +kernel
theorem dX12_loan_41 : decode cX12_loan 41 = .ok (.bipush 6, 2) := by decide +kernel
theorem dX12_loan_43 : decode cX12_loan 43 = .ok (.if_icmp .ne 6, 3) := by decide +kernel
theorem dX12_loan_46 : decode cX12_loan 46 = .ok (.bipush (-4), 2) := by decide +kernel
theorem dX12_loan_48 : decode cX12_loan 48 = .ok (.ireturn, 1) := by decide +kernel
theorem dX12_loan_49 : decode cX12_loan 49 = .ok (.sipush 4746, 3) := by decide +kernel
theorem dX12_loan_52 : decode cX12_loan 52 = .ok (.iconst 3, 1) := by decide +kernel
theorem dX12_loan_53 : decode cX12_loan 53 = .ok (.aload_n 0, 1) := by decide +kernel
theorem dX12_loan_54 : decode cX12_loan 54 = .ok (.getfield 7, 3) := by decide +kernel
theorem dX12_loan_57 : decode cX12_loan 57 = .ok (.bipush 9, 2) := by decide +kernel
theorem dX12_loan_59 : decode cX12_loan 59 = .ok (.iaload, 1) := by decide +kernel
theorem dX12_loan_60 : decode cX12_loan 60 = .ok (.imul, 1) := by decide +kernel
theorem dX12_loan_61 : decode cX12_loan 61 = .ok (.iadd, 1) := by decide +kernel
theorem dX12_loan_62 : decode cX12_loan 62 = .ok (.istore 4, 2) := by decide +kernel
theorem dX12_loan_64 : decode cX12_loan 64 = .ok (.aload_n 0, 1) := by decide +kernel
theorem dX12_loan_65 : decode cX12_loan 65 = .ok (.getfield 7, 3) := by decide +kernel
theorem dX12_loan_68 : decode cX12_loan 68 = .ok (.iload 4, 2) := by decide +kernel
theorem dX12_loan_70 : decode cX12_loan 70 = .ok (.iload_n 1, 1) := by decide +kernel
theorem dX12_loan_71 : decode cX12_loan 71 = .ok (.iastore, 1) := by decide +kernel
theorem dX12_loan_72 : decode cX12_loan 72 = .ok (.aload_n 0, 1) := by decide +kernel
theorem dX12_loan_73 : decode cX12_loan 73 = .ok (.getfield 7, 3) := by decide +kernel
theorem dX12_loan_76 : decode cX12_loan 76 = .ok (.iload 4, 2) := by decide +kernel
theorem dX12_loan_78 : decode cX12_loan 78 = .ok (.iconst 1, 1) := by decide +kernel
theorem dX12_loan_79 : decode cX12_loan 79 = .ok (.iadd, 1) := by decide +kernel
theorem dX12_loan_80 : decode cX12_loan 80 = .ok (.iload_n 2, 1) := by decide +kernel
theorem dX12_loan_81 : decode cX12_loan 81 = .ok (.iastore, 1) := by decide +kernel
theorem dX12_loan_82 : decode cX12_loan 82 = .ok (.aload_n 0, 1) := by decide +kernel
theorem dX12_loan_83 : decode cX12_loan 83 = .ok (.getfield 7, 3) := by decide +kernel
theorem dX12_loan_86 : decode cX12_loan 86 = .ok (.iload 4, 2) := by decide +kernel
theorem dX12_loan_88 : decode cX12_loan 88 = .ok (.iconst 2, 1) := by decide +kernel
theorem dX12_loan_89 : decode cX12_loan 89 = .ok (.iadd, 1) := by decide +kernel
theorem dX12_loan_90 : decode cX12_loan 90 = .ok (.iload_n 3, 1) := by decide +kernel
theorem dX12_loan_91 : decode cX12_loan 91 = .ok (.iastore, 1) := by decide +kernel
theorem dX12_loan_92 : decode cX12_loan 92 = .ok (.aload_n 0, 1) := by decide +kernel
theorem dX12_loan_93 : decode cX12_loan 93 = .ok (.bipush 9, 2) := by decide +kernel
theorem dX12_loan_95 : decode cX12_loan 95 = .ok (.invokevirtual 82, 3) := by decide +kernel
theorem dX12_loan_98 : decode cX12_loan 98 = .ok (.ireturn, 1) := by decide +kernel
def f_X12_loan (M : q_Mem) (a0 : Nat) (a1 : Int32) (a2 : Int32) (a3 : Int32) : Option (Int32 × q_Mem) :=
  q_ob 11 M a0 ((f_X12_in M a1 (1 : Int32) (1000000 : Int32)).bind fun v2 =>
  (if v2 = 0 then
    some ((-2 : Int32), M)
  else
    (f_X12_in M a2 (0 : Int32) (100 : Int32)).bind fun v4 =>
    (if v4 = 0 then
      some ((-2 : Int32), M)
    else
      (f_X12_in M a3 (1 : Int32) (100000 : Int32)).bind fun v6 =>
      (if v6 = 0 then
        some ((-2 : Int32), M)
      else
        (q_gR 11 0 M a0).bind fun v7 =>
        (q_lI M v7 (9 : Int32)).bind fun v9 =>
        (if v9 = (6 : Int32) then
          some ((-4 : Int32), M)
        else
          (q_gR 11 0 M a0).bind fun v11 =>
          (q_lI M v11 (9 : Int32)).bind fun v13 =>
          (q_gR 11 0 M a0).bind fun v15 =>
          (q_tI M v15 ((4746 : Int32) + ((3 : Int32) * v13)) a1).bind fun M17 =>
          (q_gR 11 0 M17 a0).bind fun v19 =>
          (q_tI M17 v19 (((4746 : Int32) + ((3 : Int32) * v13)) + (1 : Int32)) a2).bind fun M21 =>
          (q_gR 11 0 M21 a0).bind fun v23 =>
          (q_tI M21 v23 (((4746 : Int32) + ((3 : Int32) * v13)) + (2 : Int32)) a3).bind fun M25 =>
          (f_X12_more M25 a0 (9 : Int32)).bind fun r28 =>
          some (r28.1, r28.2))))))
set_option maxRecDepth 20000 in
theorem m_X12_loan {M : q_Mem} {a0 : Nat} {a1 : Int32} {a2 : Int32} {a3 : Int32} {x : (Int32 × q_Mem)} (h : f_X12_loan M a0 a1 a2 a3 = some x) : q_C Y_X12_loan [.ref a0, .int a1, .int a2, .int a3] M (some (.int x.1)) x.2 := by
  refine q_met (φ := (fun x : Int32 × q_Mem => (some (.int x.1), x.2))) (r := f_X12_loan M a0 a1 a2 a3) (by decide +kernel) (Nat.le_of_ble_eq_true rfl) ?_ h (fun _ _ => rfl)
  show q_V Y_X12_loan none (fun x : Int32 × q_Mem => (some (.int x.1), x.2)) 0 0 0 [(0, .ref a0), (1, .int a1), (2, .int a2), (3, .int a3)] [] M (f_X12_loan M a0 a1 a2 a3)
  unfold f_X12_loan
  refine q_obV ?_
  refine q_iload_n 1 dX12_loan_0 rfl ?_
  refine q_iconst (x := (1 : Int32)) dX12_loan_1 rfl ?_
  refine q_ldc (x := (1000000 : Int32)) qw_1362 dX12_loan_2 ?_
  refine q_cSI (Y2 := Y_X12_in) (As := [.int a1, .int (1 : Int32), .int (1000000 : Int32)]) (st := []) ms_X12_in qw_1214 dX12_loan_4 ⟨Nat.le_of_ble_eq_true rfl, Nat.le_of_ble_eq_true rfl⟩ rfl (fun _ _ => rfl) (Nat.le_of_ble_eq_true rfl) ⟨Nat.le_of_ble_eq_true rfl, Nat.le_of_ble_eq_true rfl⟩ (fun v2 h1 => m_X12_in h1) (fun v2 h1 => ?_)
  refine q_if_eq (tgt := 31) dX12_loan_7 (by decide) (fun c32 => ?_) (fun c32 => ?_)
  · refine q_bipush (x := (-2 : Int32)) dX12_loan_31 rfl ?_
    exact q_iret dX12_loan_33 rfl rfl (Nat.le_of_ble_eq_true rfl) rfl
  · refine q_iload_n 2 dX12_loan_10 rfl ?_
    refine q_iconst (x := (0 : Int32)) dX12_loan_11 rfl ?_
    refine q_bipush (x := (100 : Int32)) dX12_loan_12 rfl ?_
    refine q_cSI (Y2 := Y_X12_in) (As := [.int a2, .int (0 : Int32), .int (100 : Int32)]) (st := []) ms_X12_in qw_1214 dX12_loan_14 ⟨Nat.le_of_ble_eq_true rfl, Nat.le_of_ble_eq_true rfl⟩ rfl (fun _ _ => rfl) (Nat.le_of_ble_eq_true rfl) ⟨Nat.le_of_ble_eq_true rfl, Nat.le_of_ble_eq_true rfl⟩ (fun v4 h3 => m_X12_in h3) (fun v4 h3 => ?_)
    refine q_if_eq (tgt := 31) dX12_loan_17 (by decide) (fun c31 => ?_) (fun c31 => ?_)
    · refine q_bipush (x := (-2 : Int32)) dX12_loan_31 rfl ?_
      exact q_iret dX12_loan_33 rfl rfl (Nat.le_of_ble_eq_true rfl) rfl
    · refine q_iload_n 3 dX12_loan_20 rfl ?_
      refine q_iconst (x := (1 : Int32)) dX12_loan_21 rfl ?_
      refine q_ldcw (x := (100000 : Int32)) qw_1656 dX12_loan_22 ?_
      refine q_cSI (Y2 := Y_X12_in) (As := [.int a3, .int (1 : Int32), .int (100000 : Int32)]) (st := []) ms_X12_in qw_1214 dX12_loan_25 ⟨Nat.le_of_ble_eq_true rfl, Nat.le_of_ble_eq_true rfl⟩ rfl (fun _ _ => rfl) (Nat.le_of_ble_eq_true rfl) ⟨Nat.le_of_ble_eq_true rfl, Nat.le_of_ble_eq_true rfl⟩ (fun v6 h5 => m_X12_in h5) (fun v6 h5 => ?_)
      refine q_if_ne (tgt := 34) dX12_loan_28 (by decide) (fun c30 => ?_) (fun c30 => ?_)
      · refine q_bipush (x := (-2 : Int32)) dX12_loan_31 rfl ?_
        exact q_iret dX12_loan_33 rfl rfl (Nat.le_of_ble_eq_true rfl) rfl
      · refine q_aload_n 0 dX12_loan_34 rfl ?_
        refine q_getR (f := 0) cl_X12 (by decide) qw_1117 rfl dX12_loan_35 (fun _ _ _ => rfl) (fun v7 h8 => ?_)
        refine q_bipush (x := (9 : Int32)) dX12_loan_38 rfl ?_
        refine q_iald dX12_loan_40 (fun v9 h10 => ?_)
        refine q_bipush (x := (6 : Int32)) dX12_loan_41 rfl ?_
        refine q_icmp_ne (tgt := 49) dX12_loan_43 (by decide) (fun c29 => ?_) (fun c29 => ?_)
        · refine q_bipush (x := (-4 : Int32)) dX12_loan_46 rfl ?_
          exact q_iret dX12_loan_48 rfl rfl (Nat.le_of_ble_eq_true rfl) rfl
        · refine q_sipush (x := (4746 : Int32)) dX12_loan_49 rfl ?_
          refine q_iconst (x := (3 : Int32)) dX12_loan_52 rfl ?_
          refine q_aload_n 0 dX12_loan_53 rfl ?_
          refine q_getR (f := 0) cl_X12 (by decide) qw_1117 rfl dX12_loan_54 (fun _ _ _ => rfl) (fun v11 h12 => ?_)
          refine q_bipush (x := (9 : Int32)) dX12_loan_57 rfl ?_
          refine q_iald dX12_loan_59 (fun v13 h14 => ?_)
          refine q_imul dX12_loan_60 ?_
          refine q_iadd dX12_loan_61 ?_
          refine q_istore (ls' := [(4, .int ((4746 : Int32) + ((3 : Int32) * v13))), (0, .ref a0), (1, .int a1), (2, .int a2), (3, .int a3)]) dX12_loan_62 (by decide) rfl ?_
          refine q_aload_n 1 dX12_loan_64 rfl ?_
          refine q_getR (f := 0) cl_X12 (by decide) qw_1117 rfl dX12_loan_65 (fun _ _ _ => rfl) (fun v15 h16 => ?_)
          refine q_iload 0 dX12_loan_68 rfl ?_
          refine q_iload_n 2 dX12_loan_70 rfl ?_
          refine q_iast dX12_loan_71 (fun M17 h18 => ?_)
          refine q_aload_n 1 dX12_loan_72 rfl ?_
          refine q_getR (f := 0) cl_X12 (by decide) qw_1117 rfl dX12_loan_73 (fun _ _ _ => rfl) (fun v19 h20 => ?_)
          refine q_iload 0 dX12_loan_76 rfl ?_
          refine q_iconst (x := (1 : Int32)) dX12_loan_78 rfl ?_
          refine q_iadd dX12_loan_79 ?_
          refine q_iload_n 3 dX12_loan_80 rfl ?_
          refine q_iast dX12_loan_81 (fun M21 h22 => ?_)
          refine q_aload_n 1 dX12_loan_82 rfl ?_
          refine q_getR (f := 0) cl_X12 (by decide) qw_1117 rfl dX12_loan_83 (fun _ _ _ => rfl) (fun v23 h24 => ?_)
          refine q_iload 0 dX12_loan_86 rfl ?_
          refine q_iconst (x := (2 : Int32)) dX12_loan_88 rfl ?_
          refine q_iadd dX12_loan_89 ?_
          refine q_iload_n 4 dX12_loan_90 rfl ?_
          refine q_iast dX12_loan_91 (fun M25 h26 => ?_)
          refine q_aload_n 1 dX12_loan_92 rfl ?_
          refine q_bipush (x := (9 : Int32)) dX12_loan_93 rfl ?_
          refine q_cVMI (Y2 := Y_X12_more) (As := [.int (9 : Int32)]) (b := a0) (st := []) cl_X12 mv_X12_more qw_1217 dX12_loan_95 ⟨Nat.le_of_ble_eq_true rfl, Nat.le_of_ble_eq_true rfl⟩ rfl (fun _ _ => rfl) (Nat.le_of_ble_eq_true rfl) ⟨Nat.le_of_ble_eq_true rfl, Nat.le_of_ble_eq_true rfl⟩ (fun r28 h27 => q_ob_is h27) (fun r28 h27 => m_X12_more h27) (fun r28 h27 => ?_)
          exact q_iret dX12_loan_98 rfl rfl (Nat.le_of_ble_eq_true rfl) rfl
theorem dX12_weekOn_0 : decode cX12_weekOn 0 = .ok (.sipush 4746, 3) := by decide +kernel
theorem dX12_weekOn_3 : decode cX12_weekOn 3 = .ok (.iconst 3, 1) := by decide +kernel
theorem dX12_weekOn_4 : decode cX12_weekOn 4 = .ok (.iload_n 1, 1) := by decide +kernel
theorem dX12_weekOn_5 : decode cX12_weekOn 5 = .ok (.imul, 1) := by decide +kernel
theorem dX12_weekOn_6 : decode cX12_weekOn 6 = .ok (.iadd, 1) := by decide +kernel
theorem dX12_weekOn_7 : decode cX12_weekOn 7 = .ok (.istore 4, 2) := by decide +kernel
theorem dX12_weekOn_9 : decode cX12_weekOn 9 = .ok (.lload_n 2, 1) := by decide +kernel
theorem dX12_weekOn_10 : decode cX12_weekOn 10 = .ok (.lload_n 2, 1) := by decide +kernel
theorem dX12_weekOn_11 : decode cX12_weekOn 11 = .ok (.aload_n 0, 1) := by decide +kernel
theorem dX12_weekOn_12 : decode cX12_weekOn 12 = .ok (.getfield 7, 3) := by decide +kernel
theorem dX12_weekOn_15 : decode cX12_weekOn 15 = .ok (.iload 4, 2) := by decide +kernel
theorem dX12_weekOn_17 : decode cX12_weekOn 17 = .ok (.iconst 1, 1) := by decide +kernel
theorem dX12_weekOn_18 : decode cX12_weekOn 18 = .ok (.iadd, 1) := by decide +kernel
theorem dX12_weekOn_19 : decode cX12_weekOn 19 = .ok (.iaload, 1) := by decide +kernel
theorem dX12_weekOn_20 : decode cX12_weekOn 20 = .ok (.i2l, 1) := by decide +kernel
theorem dX12_weekOn_21 : decode cX12_weekOn 21 = .ok (.lmul, 1) := by decide +kernel
theorem dX12_weekOn_22 : decode cX12_weekOn 22 = .ok (.ldc2_w 336, 3) := by decide +kernel
theorem dX12_weekOn_25 : decode cX12_weekOn 25 = .ok (.ladd, 1) := by decide +kernel
theorem dX12_weekOn_26 : decode cX12_weekOn 26 = .ok (.ldc2_w 139, 3) := by decide +kernel
theorem dX12_weekOn_29 : decode cX12_weekOn 29 = .ok (.ldiv, 1) := by decide +kernel
theorem dX12_weekOn_30 : decode cX12_weekOn 30 = .ok (.ladd, 1) := by decide +kernel
theorem dX12_weekOn_31 : decode cX12_weekOn 31 = .ok (.lstore 5, 2) := by decide +kernel
theorem dX12_weekOn_33 : decode cX12_weekOn 33 = .ok (.lload 5, 2) := by decide +kernel
theorem dX12_weekOn_35 : decode cX12_weekOn 35 = .ok (.ldc2_w 338, 3) := by decide +kernel
theorem dX12_weekOn_38 : decode cX12_weekOn 38 = .ok (.lcmp, 1) := by decide +kernel
theorem dX12_weekOn_39 : decode cX12_weekOn 39 = .ok (.ifCond .le 9, 3) := by decide +kernel
theorem dX12_weekOn_42 : decode cX12_weekOn 42 = .ok (.ldc2_w 338, 3) := by decide +kernel
theorem dX12_weekOn_45 : decode cX12_weekOn 45 = .ok (.goto 5, 3) := by decide +kernel
theorem dX12_weekOn_48 : decode cX12_weekOn 48 = .ok (.lload 5, 2) := by decide +kernel
theorem dX12_weekOn_50 : decode cX12_weekOn 50 = .ok (.lstore 5, 2) := by decide +kernel
theorem dX12_weekOn_52 : decode cX12_weekOn 52 = .ok (.lload 5, 2) := by decide +kernel
theorem dX12_weekOn_54 : decode cX12_weekOn 54 = .ok (.aload_n 0, 1) := by decide +kernel
theorem dX12_weekOn_55 : decode cX12_weekOn 55 = .ok (.getfield 7, 3) := by decide +kernel
theorem dX12_weekOn_58 : decode cX12_weekOn 58 = .ok (.iload 4, 2) := by decide +kernel
theorem dX12_weekOn_60 : decode cX12_weekOn 60 = .ok (.iconst 2, 1) := by decide +kernel
theorem dX12_weekOn_61 : decode cX12_weekOn 61 = .ok (.iadd, 1) := by decide +kernel
theorem dX12_weekOn_62 : decode cX12_weekOn 62 = .ok (.iaload, 1) := by decide +kernel
theorem dX12_weekOn_63 : decode cX12_weekOn 63 = .ok (.i2l, 1) := by decide +kernel
theorem dX12_weekOn_64 : decode cX12_weekOn 64 = .ok (.lcmp, 1) := by decide +kernel
theorem dX12_weekOn_65 : decode cX12_weekOn 65 = .ok (.ifCond .le 19, 3) := by decide +kernel
theorem dX12_weekOn_68 : decode cX12_weekOn 68 = .ok (.lload 5, 2) := by decide +kernel
theorem dX12_weekOn_70 : decode cX12_weekOn 70 = .ok (.aload_n 0, 1) := by decide +kernel
theorem dX12_weekOn_71 : decode cX12_weekOn 71 = .ok (.getfield 7, 3) := by decide +kernel
theorem dX12_weekOn_74 : decode cX12_weekOn 74 = .ok (.iload 4, 2) := by decide +kernel
theorem dX12_weekOn_76 : decode cX12_weekOn 76 = .ok (.iconst 2, 1) := by decide +kernel
theorem dX12_weekOn_77 : decode cX12_weekOn 77 = .ok (.iadd, 1) := by decide +kernel
theorem dX12_weekOn_78 : decode cX12_weekOn 78 = .ok (.iaload, 1) := by decide +kernel
theorem dX12_weekOn_79 : decode cX12_weekOn 79 = .ok (.i2l, 1) := by decide +kernel
theorem dX12_weekOn_80 : decode cX12_weekOn 80 = .ok (.lsub, 1) := by decide +kernel
theorem dX12_weekOn_81 : decode cX12_weekOn 81 = .ok (.goto 4, 3) := by decide +kernel
theorem dX12_weekOn_84 : decode cX12_weekOn 84 = .ok (.lconst 0, 1) := by decide +kernel
theorem dX12_weekOn_85 : decode cX12_weekOn 85 = .ok (.lreturn, 1) := by decide +kernel
def f_X12_weekOn_b50 (M : q_Mem) (a0 : Nat) (a4 : Int32) (s0 : Int64) : Option Int64 :=
  (q_gR 11 0 M a0).bind fun v8 =>
  (q_lI M v8 (a4 + (2 : Int32))).bind fun v10 =>
  (if v10.toInt64 < s0 then
    (q_gR 11 0 M a0).bind fun v12 =>
    (q_lI M v12 (a4 + (2 : Int32))).bind fun v14 =>
    some (s0 - v14.toInt64)
  else
    some (0 : Int64))
def f_X12_weekOn (M : q_Mem) (a0 : Nat) (a1 : Int32) (a2 : Int64) : Option Int64 :=
  q_ob 11 M a0 ((q_gR 11 0 M a0).bind fun v1 =>
  (q_lI M v1 (((4746 : Int32) + ((3 : Int32) * a1)) + (1 : Int32))).bind fun v3 =>
  (q_ldv ((a2 * v3.toInt64) + (999 : Int64)) (1000 : Int64)).bind fun v5 =>
  (if (1000000000000 : Int64) < (a2 + v5) then
    f_X12_weekOn_b50 M a0 ((4746 : Int32) + ((3 : Int32) * a1)) (1000000000000 : Int64)
  else
    f_X12_weekOn_b50 M a0 ((4746 : Int32) + ((3 : Int32) * a1)) (a2 + v5)))
set_option maxRecDepth 20000 in
theorem v_X12_weekOn_b50 {M : q_Mem} {a0 : Nat} {a4 : Int32} {s0 : Int64}  : q_V Y_X12_weekOn none (fun x : Int64 => (some (.long x), M)) 0 0 50 [(0, .ref a0), (4, .int a4)] [.long s0] M (f_X12_weekOn_b50 M a0 a4 s0) := by
  unfold f_X12_weekOn_b50
  refine q_lstore (ls' := [(5, .long s0), (0, .ref a0), (4, .int a4)]) dX12_weekOn_50 (by decide) rfl ?_
  refine q_lload 0 dX12_weekOn_52 rfl ?_
  refine q_aload_n 1 dX12_weekOn_54 rfl ?_
  refine q_getR (f := 0) cl_X12 (by decide) qw_1117 rfl dX12_weekOn_55 (fun _ _ _ => rfl) (fun v8 h9 => ?_)
  refine q_iload 2 dX12_weekOn_58 rfl ?_
  refine q_iconst (x := (2 : Int32)) dX12_weekOn_60 rfl ?_
  refine q_iadd dX12_weekOn_61 ?_
  refine q_iald dX12_weekOn_62 (fun v10 h11 => ?_)
  refine q_i2l dX12_weekOn_63 ?_
  refine q_lcmp_le (tgt := 84) dX12_weekOn_64 dX12_weekOn_65 (by decide) (fun c16 => ?_) (fun c16 => ?_)
  · refine q_lload 0 dX12_weekOn_68 rfl ?_
    refine q_aload_n 1 dX12_weekOn_70 rfl ?_
    refine q_getR (f := 0) cl_X12 (by decide) qw_1117 rfl dX12_weekOn_71 (fun _ _ _ => rfl) (fun v12 h13 => ?_)
    refine q_iload 2 dX12_weekOn_74 rfl ?_
    refine q_iconst (x := (2 : Int32)) dX12_weekOn_76 rfl ?_
    refine q_iadd dX12_weekOn_77 ?_
    refine q_iald dX12_weekOn_78 (fun v14 h15 => ?_)
    refine q_i2l dX12_weekOn_79 ?_
    refine q_lsub dX12_weekOn_80 ?_
    refine q_goto (tgt := 85) dX12_weekOn_81 (by decide) ?_
    exact q_lret dX12_weekOn_85 rfl rfl (Nat.le_of_ble_eq_true rfl) rfl
  · refine q_lconst (x := (0 : Int64)) dX12_weekOn_84 rfl ?_
    exact q_lret dX12_weekOn_85 rfl rfl (Nat.le_of_ble_eq_true rfl) rfl
set_option maxRecDepth 20000 in
theorem m_X12_weekOn {M : q_Mem} {a0 : Nat} {a1 : Int32} {a2 : Int64} {x : Int64} (h : f_X12_weekOn M a0 a1 a2 = some x) : q_C Y_X12_weekOn [.ref a0, .int a1, .long a2] M (some (.long x)) M := by
  refine q_met (φ := (fun x : Int64 => (some (.long x), M))) (r := f_X12_weekOn M a0 a1 a2) (by decide +kernel) (Nat.le_of_ble_eq_true rfl) ?_ h (fun _ _ => rfl)
  show q_V Y_X12_weekOn none (fun x : Int64 => (some (.long x), M)) 0 0 0 [(0, .ref a0), (1, .int a1), (2, .long a2)] [] M (f_X12_weekOn M a0 a1 a2)
  unfold f_X12_weekOn
  refine q_obV ?_
  refine q_sipush (x := (4746 : Int32)) dX12_weekOn_0 rfl ?_
  refine q_iconst (x := (3 : Int32)) dX12_weekOn_3 rfl ?_
  refine q_iload_n 1 dX12_weekOn_4 rfl ?_
  refine q_imul dX12_weekOn_5 ?_
  refine q_iadd dX12_weekOn_6 ?_
  refine q_istore (ls' := [(4, .int ((4746 : Int32) + ((3 : Int32) * a1))), (0, .ref a0), (1, .int a1), (2, .long a2)]) dX12_weekOn_7 (by decide) rfl ?_
  refine q_lload_n 3 dX12_weekOn_9 rfl ?_
  refine q_lload_n 3 dX12_weekOn_10 rfl ?_
  refine q_aload_n 1 dX12_weekOn_11 rfl ?_
  refine q_getR (f := 0) cl_X12 (by decide) qw_1117 rfl dX12_weekOn_12 (fun _ _ _ => rfl) (fun v1 h2 => ?_)
  refine q_iload 0 dX12_weekOn_15 rfl ?_
  refine q_iconst (x := (1 : Int32)) dX12_weekOn_17 rfl ?_
  refine q_iadd dX12_weekOn_18 ?_
  refine q_iald dX12_weekOn_19 (fun v3 h4 => ?_)
  refine q_i2l dX12_weekOn_20 ?_
  refine q_lmul dX12_weekOn_21 ?_
  refine q_ldc2 (x := (999 : Int64)) qw_1665 dX12_weekOn_22 ?_
  refine q_ladd dX12_weekOn_25 ?_
  refine q_ldc2 (x := (1000 : Int64)) qw_1335 dX12_weekOn_26 ?_
  refine q_ldiv dX12_weekOn_29 (fun v5 h6 => ?_)
  refine q_ladd dX12_weekOn_30 ?_
  refine q_lstore (ls' := [(5, .long (a2 + v5)), (4, .int ((4746 : Int32) + ((3 : Int32) * a1))), (0, .ref a0), (1, .int a1), (2, .long a2)]) dX12_weekOn_31 (by decide) rfl ?_
  refine q_lload 0 dX12_weekOn_33 rfl ?_
  refine q_ldc2 (x := (1000000000000 : Int64)) qw_1666 dX12_weekOn_35 ?_
  refine q_lcmp_le (tgt := 48) dX12_weekOn_38 dX12_weekOn_39 (by decide) (fun c7 => ?_) (fun c7 => ?_)
  · refine q_ldc2 (x := (1000000000000 : Int64)) qw_1666 dX12_weekOn_42 ?_
    refine q_goto (tgt := 50) dX12_weekOn_45 (by decide) ?_
    refine q_sub (ls' := [(0, .ref a0), (4, .int ((4746 : Int32) + ((3 : Int32) * a1)))]) [2, 1] rfl ?_
    exact v_X12_weekOn_b50
  · refine q_lload 0 dX12_weekOn_48 rfl ?_
    refine q_sub (ls' := [(0, .ref a0), (4, .int ((4746 : Int32) + ((3 : Int32) * a1)))]) [2, 1] rfl ?_
    exact v_X12_weekOn_b50
theorem dX12_owed_0 : decode cX12_owed 0 = .ok (.aload_n 0, 1) := by decide +kernel
theorem dX12_owed_1 : decode cX12_owed 1 = .ok (.bipush 9, 2) := by decide +kernel
theorem dX12_owed_3 : decode cX12_owed 3 = .ok (.iload_n 1, 1) := by decide +kernel
theorem dX12_owed_4 : decode cX12_owed 4 = .ok (.invokevirtual 86, 3) := by decide +kernel
theorem dX12_owed_7 : decode cX12_owed 7 = .ok (.ifCond .eq 14, 3) := by decide +kernel
theorem dX12_owed_10 : decode cX12_owed 10 = .ok (.iload_n 2, 1) := by decide +kernel
theorem dX12_owed_11 : decode cX12_owed 11 = .ok (.iconst 0, 1) := by decide +kernel
theorem dX12_owed_12 : decode cX12_owed 12 = .ok (.sipush 1000, 3) := by decide +kernel
theorem dX12_owed_15 : decode cX12_owed 15 = .ok (.invokestatic 78, 3) := by decide +kernel
theorem dX12_owed_18 : decode cX12_owed 18 = .ok (.ifCond .ne 7, 3) := by decide +kernel
theorem dX12_owed_21 : decode cX12_owed 21 = .ok (.ldc2_w 123, 3) := by decide +kernel
theorem dX12_owed_24 : decode cX12_owed 24 = .ok (.lreturn, 1) := by decide +kernel
theorem dX12_owed_25 : decode cX12_owed 25 = .ok (.aload_n 0, 1) := by decide +kernel
theorem dX12_owed_26 : decode cX12_owed 26 = .ok (.getfield 7, 3) := by decide +kernel
theorem dX12_owed_29 : decode cX12_owed 29 = .ok (.sipush 4746, 3) := by decide +kernel
theorem dX12_owed_32 : decode cX12_owed 32 = .ok (.iconst 3, 1) := by decide +kernel
theorem dX12_owed_33 : decode cX12_owed 33 = .ok (.iload_n 1, 1) := by decide +kernel
theorem dX12_owed_34 : decode cX12_owed 34 = .ok (.imul, 1) := by decide +kernel
theorem dX12_owed_35 : decode cX12_owed 35 = .ok (.iadd, 1) := by decide +kernel
theorem dX12_owed_36 : decode cX12_owed 36 = .ok (.iaload, 1) := by decide +kernel
theorem dX12_owed_37 : decode cX12_owed 37 = .ok (.i2l, 1) := by decide +kernel
theorem dX12_owed_38 : decode cX12_owed 38 = .ok (.lstore_n 3, 1) := by decide +kernel
theorem dX12_owed_39 : decode cX12_owed 39 = .ok (.iconst 0, 1) := by decide +kernel
theorem dX12_owed_40 : decode cX12_owed 40 = .ok (.istore 5, 2) := by decide +kernel
theorem dX12_owed_42 : decode cX12_owed 42 = .ok (.iload 5, 2) := by decide +kernel
theorem dX12_owed_44 : decode cX12_owed 44 = .ok (.iload_n 2, 1) := by decide +kernel
theorem dX12_owed_45 : decode cX12_owed 45 = .ok (.if_icmp .ge 16, 3) := by decide +kernel
theorem dX12_owed_48 : decode cX12_owed 48 = .ok (.aload_n 0, 1) := by decide +kernel
theorem dX12_owed_49 : decode cX12_owed 49 = .ok (.iload_n 1, 1) := by decide +kernel
theorem dX12_owed_50 : decode cX12_owed 50 = .ok (.lload_n 3, 1) := by decide +kernel
theorem dX12_owed_51 : decode cX12_owed 51 = .ok (.invokevirtual 340, 3) := by decide +kernel
theorem dX12_owed_54 : decode cX12_owed 54 = .ok (.lstore_n 3, 1) := by decide +kernel
theorem dX12_owed_55 : decode cX12_owed 55 = .ok (.iinc 5 1, 3) := by decide +kernel
theorem dX12_owed_58 : decode cX12_owed 58 = .ok (.goto (-16), 3) := by decide +kernel
theorem dX12_owed_61 : decode cX12_owed 61 = .ok (.lload_n 3, 1) := by decide +kernel
theorem dX12_owed_62 : decode cX12_owed 62 = .ok (.lreturn, 1) := by decide +kernel
def f_X12_owed_b42 (M : q_Mem) (a0 : Nat) (a1 : Int32) (a2 : Int32) : Nat → Int64 → Int32 → Option Int64
  | 0, _, _ => none
  | n + 1, a3, a5 =>
    (if a5 < a2 then
      (f_X12_weekOn M a0 a1 a3).bind fun v12 =>
      f_X12_owed_b42 M a0 a1 a2 n v12 (a5 + (1 : Int32))
    else
      some a3)
def f_X12_owed (M : q_Mem) (a0 : Nat) (a1 : Int32) (a2 : Int32) : Option Int64 :=
  q_ob 11 M a0 ((f_X12_is M a0 (9 : Int32) a1).bind fun v2 =>
  (if v2 = 0 then
    some (-2 : Int64)
  else
    (f_X12_in M a2 (0 : Int32) (1000 : Int32)).bind fun v4 =>
    (if v4 = 0 then
      some (-2 : Int64)
    else
      (q_gR 11 0 M a0).bind fun v5 =>
      (q_lI M v5 ((4746 : Int32) + ((3 : Int32) * a1))).bind fun v7 =>
      f_X12_owed_b42 M a0 a1 a2 q_fuel v7.toInt64 (0 : Int32))))
set_option maxRecDepth 20000 in
theorem v_X12_owed_b42 {M : q_Mem} {a0 : Nat} {a1 : Int32} {a2 : Int32}  : ∀ (n : Nat) (a3 : Int64) (a5 : Int32), q_V Y_X12_owed none (fun x : Int64 => (some (.long x), M)) 0 0 42 [(0, .ref a0), (1, .int a1), (2, .int a2), (3, .long a3), (5, .int a5)] [] M (f_X12_owed_b42 M a0 a1 a2 n a3 a5) := by
  intro n
  induction n with
  | zero => intro a3 a5; exact q_none
  | succ n ih =>
    intro a3 a5
    rw [f_X12_owed_b42.eq_2]
    refine q_iload 4 dX12_owed_42 rfl ?_
    refine q_iload_n 2 dX12_owed_44 rfl ?_
    refine q_icmp_ge (tgt := 61) dX12_owed_45 (by decide) (fun c13 => ?_) (fun c13 => ?_)
    · refine q_aload_n 0 dX12_owed_48 rfl ?_
      refine q_iload_n 1 dX12_owed_49 rfl ?_
      refine q_lload_n 3 dX12_owed_50 rfl ?_
      refine q_cVJ (Y2 := Y_X12_weekOn) (As := [.int a1, .long a3]) (b := a0) (st := []) cl_X12 mv_X12_weekOn qw_1661 dX12_owed_51 ⟨Nat.le_of_ble_eq_true rfl, Nat.le_of_ble_eq_true rfl⟩ rfl (fun _ _ => rfl) (Nat.le_of_ble_eq_true rfl) ⟨Nat.le_of_ble_eq_true rfl, Nat.le_of_ble_eq_true rfl⟩ (fun v12 h11 => q_ob_is h11) (fun v12 h11 => m_X12_weekOn h11) (fun v12 h11 => ?_)
      refine q_lstore_n (ls' := [(3, .long v12), (0, .ref a0), (1, .int a1), (2, .int a2), (5, .int a5)]) dX12_owed_54 (by decide) rfl ?_
      refine q_iinc 4 (y := (a5 + (1 : Int32))) (ls' := [(5, .int (a5 + (1 : Int32))), (3, .long v12), (0, .ref a0), (1, .int a1), (2, .int a2)]) dX12_owed_55 rfl rfl (by decide) rfl ?_
      refine q_goto (tgt := 42) dX12_owed_58 (by decide) ?_
      refine q_sub (ls' := [(0, .ref a0), (1, .int a1), (2, .int a2), (3, .long v12), (5, .int (a5 + (1 : Int32)))]) [2, 3, 4, 1, 0] rfl ?_
      exact ih _ _
    · refine q_lload_n 3 dX12_owed_61 rfl ?_
      exact q_lret dX12_owed_62 rfl rfl (Nat.le_of_ble_eq_true rfl) rfl
set_option maxRecDepth 20000 in
theorem m_X12_owed {M : q_Mem} {a0 : Nat} {a1 : Int32} {a2 : Int32} {x : Int64} (h : f_X12_owed M a0 a1 a2 = some x) : q_C Y_X12_owed [.ref a0, .int a1, .int a2] M (some (.long x)) M := by
  refine q_met (φ := (fun x : Int64 => (some (.long x), M))) (r := f_X12_owed M a0 a1 a2) (by decide +kernel) (Nat.le_of_ble_eq_true rfl) ?_ h (fun _ _ => rfl)
  show q_V Y_X12_owed none (fun x : Int64 => (some (.long x), M)) 0 0 0 [(0, .ref a0), (1, .int a1), (2, .int a2)] [] M (f_X12_owed M a0 a1 a2)
  unfold f_X12_owed
  refine q_obV ?_
  refine q_aload_n 0 dX12_owed_0 rfl ?_
  refine q_bipush (x := (9 : Int32)) dX12_owed_1 rfl ?_
  refine q_iload_n 1 dX12_owed_3 rfl ?_
  refine q_cVI (Y2 := Y_X12_is) (As := [.int (9 : Int32), .int a1]) (b := a0) (st := []) cl_X12 mv_X12_is qw_1225 dX12_owed_4 ⟨Nat.le_of_ble_eq_true rfl, Nat.le_of_ble_eq_true rfl⟩ rfl (fun _ _ => rfl) (Nat.le_of_ble_eq_true rfl) ⟨Nat.le_of_ble_eq_true rfl, Nat.le_of_ble_eq_true rfl⟩ (fun v2 h1 => q_ob_is h1) (fun v2 h1 => m_X12_is h1) (fun v2 h1 => ?_)
  refine q_if_eq (tgt := 21) dX12_owed_7 (by decide) (fun c10 => ?_) (fun c10 => ?_)
  · refine q_ldc2 (x := (-2 : Int64)) qw_1299 dX12_owed_21 ?_
    exact q_lret dX12_owed_24 rfl rfl (Nat.le_of_ble_eq_true rfl) rfl
  · refine q_iload_n 2 dX12_owed_10 rfl ?_
    refine q_iconst (x := (0 : Int32)) dX12_owed_11 rfl ?_
    refine q_sipush (x := (1000 : Int32)) dX12_owed_12 rfl ?_
    refine q_cSI (Y2 := Y_X12_in) (As := [.int a2, .int (0 : Int32), .int (1000 : Int32)]) (st := []) ms_X12_in qw_1214 dX12_owed_15 ⟨Nat.le_of_ble_eq_true rfl, Nat.le_of_ble_eq_true rfl⟩ rfl (fun _ _ => rfl) (Nat.le_of_ble_eq_true rfl) ⟨Nat.le_of_ble_eq_true rfl, Nat.le_of_ble_eq_true rfl⟩ (fun v4 h3 => m_X12_in h3) (fun v4 h3 => ?_)
    refine q_if_ne (tgt := 25) dX12_owed_18 (by decide) (fun c9 => ?_) (fun c9 => ?_)
    · refine q_ldc2 (x := (-2 : Int64)) qw_1299 dX12_owed_21 ?_
      exact q_lret dX12_owed_24 rfl rfl (Nat.le_of_ble_eq_true rfl) rfl
    · refine q_aload_n 0 dX12_owed_25 rfl ?_
      refine q_getR (f := 0) cl_X12 (by decide) qw_1117 rfl dX12_owed_26 (fun _ _ _ => rfl) (fun v5 h6 => ?_)
      refine q_sipush (x := (4746 : Int32)) dX12_owed_29 rfl ?_
      refine q_iconst (x := (3 : Int32)) dX12_owed_32 rfl ?_
      refine q_iload_n 1 dX12_owed_33 rfl ?_
      refine q_imul dX12_owed_34 ?_
      refine q_iadd dX12_owed_35 ?_
      refine q_iald dX12_owed_36 (fun v7 h8 => ?_)
      refine q_i2l dX12_owed_37 ?_
      refine q_lstore_n (ls' := [(3, .long v7.toInt64), (0, .ref a0), (1, .int a1), (2, .int a2)]) dX12_owed_38 (by decide) rfl ?_
      refine q_iconst (x := (0 : Int32)) dX12_owed_39 rfl ?_
      refine q_istore (ls' := [(5, .int (0 : Int32)), (3, .long v7.toInt64), (0, .ref a0), (1, .int a1), (2, .int a2)]) dX12_owed_40 (by decide) rfl ?_
      refine q_sub (ls' := [(0, .ref a0), (1, .int a1), (2, .int a2), (3, .long v7.toInt64), (5, .int (0 : Int32))]) [2, 3, 4, 1, 0] rfl ?_
      exact v_X12_owed_b42 _ _ _
theorem dX12_ends_0 : decode cX12_ends 0 = .ok (.aload_n 0, 1) := by decide +kernel
theorem dX12_ends_1 : decode cX12_ends 1 = .ok (.bipush 9, 2) := by decide +kernel
theorem dX12_ends_3 : decode cX12_ends 3 = .ok (.iload_n 1, 1) := by decide +kernel
theorem dX12_ends_4 : decode cX12_ends 4 = .ok (.invokevirtual 86, 3) := by decide +kernel
theorem dX12_ends_7 : decode cX12_ends 7 = .ok (.ifCond .ne 6, 3) := by decide +kernel
theorem dX12_ends_10 : decode cX12_ends 10 = .ok (.bipush (-2), 2) := by decide +kernel
theorem dX12_ends_12 : decode cX12_ends 12 = .ok (.ireturn, 1) := by decide +kernel
theorem dX12_ends_13 : decode cX12_ends 13 = .ok (.aload_n 0, 1) := by decide +kernel
theorem dX12_ends_14 : decode cX12_ends 14 = .ok (.getfield 7, 3) := by decide +kernel
theorem dX12_ends_17 : decode cX12_ends 17 = .ok (.sipush 4746, 3) := by decide +kernel
theorem dX12_ends_20 : decode cX12_ends 20 = .ok (.iconst 3, 1) := by decide +kernel
theorem dX12_ends_21 : decode cX12_ends 21 = .ok (.iload_n 1, 1) := by decide +kernel
theorem dX12_ends_22 : decode cX12_ends 22 = .ok (.imul, 1) := by decide +kernel
theorem dX12_ends_23 : decode cX12_ends 23 = .ok (.iadd, 1) := by decide +kernel
theorem dX12_ends_24 : decode cX12_ends 24 = .ok (.iaload, 1) := by decide +kernel
theorem dX12_ends_25 : decode cX12_ends 25 = .ok (.i2l, 1) := by decide +kernel
theorem dX12_ends_26 : decode cX12_ends 26 = .ok (.lstore_n 2, 1) := by decide +kernel
theorem dX12_ends_27 : decode cX12_ends 27 = .ok (.iconst 1, 1) := by decide +kernel
theorem dX12_ends_28 : decode cX12_ends 28 = .ok (.istore 4, 2) := by decide +kernel
theorem dX12_ends_30 : decode cX12_ends 30 = .ok (.iload 4, 2) := by decide +kernel
theorem dX12_ends_32 : decode cX12_ends 32 = .ok (.sipush 1000, 3) := by decide +kernel
theorem dX12_ends_35 : decode cX12_ends 35 = .ok (.if_icmp .gt 25, 3) := by decide +kernel
theorem dX12_ends_38 : decode cX12_ends 38 = .ok (.aload_n 0, 1) := by decide +kernel
theorem dX12_ends_39 : decode cX12_ends 39 = .ok (.iload_n 1, 1) := by decide +kernel
theorem dX12_ends_40 : decode cX12_ends 40 = .ok (.lload_n 2, 1) := by decide +kernel
theorem dX12_ends_41 : decode cX12_ends 41 = .ok (.invokevirtual 340, 3) := by decide +kernel
theorem dX12_ends_44 : decode cX12_ends 44 = .ok (.lstore_n 2, 1) := by decide +kernel
theorem dX12_ends_45 : decode cX12_ends 45 = .ok (.lload_n 2, 1) := by decide +kernel
theorem dX12_ends_46 : decode cX12_ends 46 = .ok (.lconst 0, 1) := by decide +kernel
theorem dX12_ends_47 : decode cX12_ends 47 = .ok (.lcmp, 1) := by decide +kernel
theorem dX12_ends_48 : decode cX12_ends 48 = .ok (.ifCond .ne 6, 3) := by decide +kernel
theorem dX12_ends_51 : decode cX12_ends 51 = .ok (.iload 4, 2) := by decide +kernel
theorem dX12_ends_53 : decode cX12_ends 53 = .ok (.ireturn, 1) := by decide +kernel
theorem dX12_ends_54 : decode cX12_ends 54 = .ok (.iinc 4 1, 3) := by decide +kernel
theorem dX12_ends_57 : decode cX12_ends 57 = .ok (.goto (-27), 3) := by decide +kernel
theorem dX12_ends_60 : decode cX12_ends 60 = .ok (.iconst (-1), 1) := by decide +kernel
theorem dX12_ends_61 : decode cX12_ends 61 = .ok (.ireturn, 1) := by decide +kernel
def f_X12_ends_b30 (M : q_Mem) (a0 : Nat) (a1 : Int32) : Nat → Int64 → Int32 → Option Int32
  | 0, _, _ => none
  | n + 1, a2, a4 =>
    (if (1000 : Int32) < a4 then
      some (-1 : Int32)
    else
      (f_X12_weekOn M a0 a1 a2).bind fun v9 =>
      (if v9 = (0 : Int64) then
        some a4
      else
        f_X12_ends_b30 M a0 a1 n v9 (a4 + (1 : Int32))))
def f_X12_ends (M : q_Mem) (a0 : Nat) (a1 : Int32) : Option Int32 :=
  q_ob 11 M a0 ((f_X12_is M a0 (9 : Int32) a1).bind fun v2 =>
  (if v2 = 0 then
    some (-2 : Int32)
  else
    (q_gR 11 0 M a0).bind fun v3 =>
    (q_lI M v3 ((4746 : Int32) + ((3 : Int32) * a1))).bind fun v5 =>
    f_X12_ends_b30 M a0 a1 q_fuel v5.toInt64 (1 : Int32)))
set_option maxRecDepth 20000 in
theorem v_X12_ends_b30 {M : q_Mem} {a0 : Nat} {a1 : Int32}  : ∀ (n : Nat) (a2 : Int64) (a4 : Int32), q_V Y_X12_ends none (fun x : Int32 => (some (.int x), M)) 0 0 30 [(0, .ref a0), (1, .int a1), (2, .long a2), (4, .int a4)] [] M (f_X12_ends_b30 M a0 a1 n a2 a4) := by
  intro n
  induction n with
  | zero => intro a2 a4; exact q_none
  | succ n ih =>
    intro a2 a4
    rw [f_X12_ends_b30.eq_2]
    refine q_iload 3 dX12_ends_30 rfl ?_
    refine q_sipush (x := (1000 : Int32)) dX12_ends_32 rfl ?_
    refine q_icmp_gt (tgt := 60) dX12_ends_35 (by decide) (fun c11 => ?_) (fun c11 => ?_)
    · refine q_iconst (x := (-1 : Int32)) dX12_ends_60 rfl ?_
      exact q_iret dX12_ends_61 rfl rfl (Nat.le_of_ble_eq_true rfl) rfl
    · refine q_aload_n 0 dX12_ends_38 rfl ?_
      refine q_iload_n 1 dX12_ends_39 rfl ?_
      refine q_lload_n 2 dX12_ends_40 rfl ?_
      refine q_cVJ (Y2 := Y_X12_weekOn) (As := [.int a1, .long a2]) (b := a0) (st := []) cl_X12 mv_X12_weekOn qw_1661 dX12_ends_41 ⟨Nat.le_of_ble_eq_true rfl, Nat.le_of_ble_eq_true rfl⟩ rfl (fun _ _ => rfl) (Nat.le_of_ble_eq_true rfl) ⟨Nat.le_of_ble_eq_true rfl, Nat.le_of_ble_eq_true rfl⟩ (fun v9 h8 => q_ob_is h8) (fun v9 h8 => m_X12_weekOn h8) (fun v9 h8 => ?_)
      refine q_lstore_n (ls' := [(2, .long v9), (0, .ref a0), (1, .int a1), (4, .int a4)]) dX12_ends_44 (by decide) rfl ?_
      refine q_lload_n 0 dX12_ends_45 rfl ?_
      refine q_lconst (x := (0 : Int64)) dX12_ends_46 rfl ?_
      refine q_lcmp_ne (tgt := 54) dX12_ends_47 dX12_ends_48 (by decide) (fun c10 => ?_) (fun c10 => ?_)
      · refine q_iload 3 dX12_ends_51 rfl ?_
        exact q_iret dX12_ends_53 rfl rfl (Nat.le_of_ble_eq_true rfl) rfl
      · refine q_iinc 3 (y := (a4 + (1 : Int32))) (ls' := [(4, .int (a4 + (1 : Int32))), (2, .long v9), (0, .ref a0), (1, .int a1)]) dX12_ends_54 rfl rfl (by decide) rfl ?_
        refine q_goto (tgt := 30) dX12_ends_57 (by decide) ?_
        refine q_sub (ls' := [(0, .ref a0), (1, .int a1), (2, .long v9), (4, .int (a4 + (1 : Int32)))]) [2, 3, 1, 0] rfl ?_
        exact ih _ _
set_option maxRecDepth 20000 in
theorem m_X12_ends {M : q_Mem} {a0 : Nat} {a1 : Int32} {x : Int32} (h : f_X12_ends M a0 a1 = some x) : q_C Y_X12_ends [.ref a0, .int a1] M (some (.int x)) M := by
  refine q_met (φ := (fun x : Int32 => (some (.int x), M))) (r := f_X12_ends M a0 a1) (by decide +kernel) (Nat.le_of_ble_eq_true rfl) ?_ h (fun _ _ => rfl)
  show q_V Y_X12_ends none (fun x : Int32 => (some (.int x), M)) 0 0 0 [(0, .ref a0), (1, .int a1)] [] M (f_X12_ends M a0 a1)
  unfold f_X12_ends
  refine q_obV ?_
  refine q_aload_n 0 dX12_ends_0 rfl ?_
  refine q_bipush (x := (9 : Int32)) dX12_ends_1 rfl ?_
  refine q_iload_n 1 dX12_ends_3 rfl ?_
  refine q_cVI (Y2 := Y_X12_is) (As := [.int (9 : Int32), .int a1]) (b := a0) (st := []) cl_X12 mv_X12_is qw_1225 dX12_ends_4 ⟨Nat.le_of_ble_eq_true rfl, Nat.le_of_ble_eq_true rfl⟩ rfl (fun _ _ => rfl) (Nat.le_of_ble_eq_true rfl) ⟨Nat.le_of_ble_eq_true rfl, Nat.le_of_ble_eq_true rfl⟩ (fun v2 h1 => q_ob_is h1) (fun v2 h1 => m_X12_is h1) (fun v2 h1 => ?_)
  refine q_if_ne (tgt := 13) dX12_ends_7 (by decide) (fun c7 => ?_) (fun c7 => ?_)
  · refine q_bipush (x := (-2 : Int32)) dX12_ends_10 rfl ?_
    exact q_iret dX12_ends_12 rfl rfl (Nat.le_of_ble_eq_true rfl) rfl
  · refine q_aload_n 0 dX12_ends_13 rfl ?_
    refine q_getR (f := 0) cl_X12 (by decide) qw_1117 rfl dX12_ends_14 (fun _ _ _ => rfl) (fun v3 h4 => ?_)
    refine q_sipush (x := (4746 : Int32)) dX12_ends_17 rfl ?_
    refine q_iconst (x := (3 : Int32)) dX12_ends_20 rfl ?_
    refine q_iload_n 1 dX12_ends_21 rfl ?_
    refine q_imul dX12_ends_22 ?_
    refine q_iadd dX12_ends_23 ?_
    refine q_iald dX12_ends_24 (fun v5 h6 => ?_)
    refine q_i2l dX12_ends_25 ?_
    refine q_lstore_n (ls' := [(2, .long v5.toInt64), (0, .ref a0), (1, .int a1)]) dX12_ends_26 (by decide) rfl ?_
    refine q_iconst (x := (1 : Int32)) dX12_ends_27 rfl ?_
    refine q_istore (ls' := [(4, .int (1 : Int32)), (2, .long v5.toInt64), (0, .ref a0), (1, .int a1)]) dX12_ends_28 (by decide) rfl ?_
    refine q_sub (ls' := [(0, .ref a0), (1, .int a1), (2, .long v5.toInt64), (4, .int (1 : Int32))]) [2, 3, 1, 0] rfl ?_
    exact v_X12_ends_b30 _ _ _
theorem dX12_image_0 : decode cX12_image 0 = .ok (.iload_n 1, 1) := by decide +kernel
theorem dX12_image_1 : decode cX12_image 1 = .ok (.iconst 0, 1) := by decide +kernel
theorem dX12_image_2 : decode cX12_image 2 = .ok (.iconst 1, 1) := by decide +kernel
theorem dX12_image_3 : decode cX12_image 3 = .ok (.invokestatic 78, 3) := by decide +kernel
theorem dX12_image_6 : decode cX12_image 6 = .ok (.ifCond .ne 6, 3) := by decide +kernel
theorem dX12_image_9 : decode cX12_image 9 = .ok (.bipush (-2), 2) := by decide +kernel
theorem dX12_image_11 : decode cX12_image 11 = .ok (.ireturn, 1) := by decide +kernel
theorem dX12_image_12 : decode cX12_image 12 = .ok (.aload_n 0, 1) := by decide +kernel
theorem dX12_image_13 : decode cX12_image 13 = .ok (.getfield 16, 3) := by decide +kernel
theorem dX12_image_16 : decode cX12_image 16 = .ok (.iload_n 1, 1) := by decide +kernel
theorem dX12_image_17 : decode cX12_image 17 = .ok (.iconst 1, 1) := by decide +kernel
theorem dX12_image_18 : decode cX12_image 18 = .ok (.bastore, 1) := by decide +kernel
theorem dX12_image_19 : decode cX12_image 19 = .ok (.iconst 0, 1) := by decide +kernel
theorem dX12_image_20 : decode cX12_image 20 = .ok (.istore_n 2, 1) := by decide +kernel
theorem dX12_image_21 : decode cX12_image 21 = .ok (.iload_n 2, 1) := by decide +kernel
theorem dX12_image_22 : decode cX12_image 22 = .ok (.sipush 4764, 3) := by decide +kernel
theorem dX12_image_25 : decode cX12_image 25 = .ok (.if_icmp .ge 27, 3) := by decide +kernel
theorem dX12_image_28 : decode cX12_image 28 = .ok (.aload_n 0, 1) := by decide +kernel
theorem dX12_image_29 : decode cX12_image 29 = .ok (.getfield 13, 3) := by decide +kernel
theorem dX12_image_32 : decode cX12_image 32 = .ok (.sipush 4764, 3) := by decide +kernel
theorem dX12_image_35 : decode cX12_image 35 = .ok (.iload_n 1, 1) := by decide +kernel
theorem dX12_image_36 : decode cX12_image 36 = .ok (.imul, 1) := by decide +kernel
theorem dX12_image_37 : decode cX12_image 37 = .ok (.iload_n 2, 1) := by decide +kernel
theorem dX12_image_38 : decode cX12_image 38 = .ok (.iadd, 1) := by decide +kernel
theorem dX12_image_39 : decode cX12_image 39 = .ok (.aload_n 0, 1) := by decide +kernel
theorem dX12_image_40 : decode cX12_image 40 = .ok (.getfield 7, 3) := by decide +kernel
theorem dX12_image_43 : decode cX12_image 43 = .ok (.iload_n 2, 1) := by decide +kernel
theorem dX12_image_44 : decode cX12_image 44 = .ok (.iaload, 1) := by decide +kernel
theorem dX12_image_45 : decode cX12_image 45 = .ok (.iastore, 1) := by decide +kernel
theorem dX12_image_46 : decode cX12_image 46 = .ok (.iinc 2 1, 3) := by decide +kernel
theorem dX12_image_49 : decode cX12_image 49 = .ok (.goto (-28), 3) := by decide +kernel
theorem dX12_image_52 : decode cX12_image 52 = .ok (.iconst 1, 1) := by decide +kernel
theorem dX12_image_53 : decode cX12_image 53 = .ok (.ireturn, 1) := by decide +kernel
def f_X12_image_b21 (a0 : Nat) (a1 : Int32) : Nat → Int32 → q_Mem → Option (Int32 × q_Mem)
  | 0, _, _ => none
  | n + 1, a2, M =>
    (if a2 < (4764 : Int32) then
      (q_gR 11 1 M a0).bind fun v8 =>
      (q_gR 11 0 M a0).bind fun v10 =>
      (q_lI M v10 a2).bind fun v12 =>
      (q_tI M v8 (((4764 : Int32) * a1) + a2) v12).bind fun M14 =>
      f_X12_image_b21 a0 a1 n (a2 + (1 : Int32)) M14
    else
      some ((1 : Int32), M))
def f_X12_image (M : q_Mem) (a0 : Nat) (a1 : Int32) : Option (Int32 × q_Mem) :=
  q_ob 11 M a0 ((f_X12_in M a1 (0 : Int32) (1 : Int32)).bind fun v2 =>
  (if v2 = 0 then
    some ((-2 : Int32), M)
  else
    (q_gR 11 2 M a0).bind fun v3 =>
    (q_tZ M v3 a1 (1 : Int32)).bind fun M5 =>
    f_X12_image_b21 a0 a1 q_fuel (0 : Int32) M5))
set_option maxRecDepth 20000 in
theorem v_X12_image_b21 {a0 : Nat} {a1 : Int32}  : ∀ (n : Nat) (a2 : Int32) (M : q_Mem), q_V Y_X12_image none (fun x : Int32 × q_Mem => (some (.int x.1), x.2)) 0 0 21 [(0, .ref a0), (1, .int a1), (2, .int a2)] [] M (f_X12_image_b21 a0 a1 n a2 M) := by
  intro n
  induction n with
  | zero => intro a2 M; exact q_none
  | succ n ih =>
    intro a2 M
    rw [f_X12_image_b21.eq_2]
    refine q_iload_n 2 dX12_image_21 rfl ?_
    refine q_sipush (x := (4764 : Int32)) dX12_image_22 rfl ?_
    refine q_icmp_ge (tgt := 52) dX12_image_25 (by decide) (fun c16 => ?_) (fun c16 => ?_)
    · refine q_aload_n 0 dX12_image_28 rfl ?_
      refine q_getR (f := 1) cl_X12 (by decide) qw_1118 rfl dX12_image_29 (fun _ _ _ => rfl) (fun v8 h9 => ?_)
      refine q_sipush (x := (4764 : Int32)) dX12_image_32 rfl ?_
      refine q_iload_n 1 dX12_image_35 rfl ?_
      refine q_imul dX12_image_36 ?_
      refine q_iload_n 2 dX12_image_37 rfl ?_
      refine q_iadd dX12_image_38 ?_
      refine q_aload_n 0 dX12_image_39 rfl ?_
      refine q_getR (f := 0) cl_X12 (by decide) qw_1117 rfl dX12_image_40 (fun _ _ _ => rfl) (fun v10 h11 => ?_)
      refine q_iload_n 2 dX12_image_43 rfl ?_
      refine q_iald dX12_image_44 (fun v12 h13 => ?_)
      refine q_iast dX12_image_45 (fun M14 h15 => ?_)
      refine q_iinc 2 (y := (a2 + (1 : Int32))) (ls' := [(2, .int (a2 + (1 : Int32))), (0, .ref a0), (1, .int a1)]) dX12_image_46 rfl rfl (by decide) rfl ?_
      refine q_goto (tgt := 21) dX12_image_49 (by decide) ?_
      refine q_sub (ls' := [(0, .ref a0), (1, .int a1), (2, .int (a2 + (1 : Int32)))]) [1, 2, 0] rfl ?_
      exact ih _ _
    · refine q_iconst (x := (1 : Int32)) dX12_image_52 rfl ?_
      exact q_iret dX12_image_53 rfl rfl (Nat.le_of_ble_eq_true rfl) rfl
set_option maxRecDepth 20000 in
theorem m_X12_image {M : q_Mem} {a0 : Nat} {a1 : Int32} {x : (Int32 × q_Mem)} (h : f_X12_image M a0 a1 = some x) : q_C Y_X12_image [.ref a0, .int a1] M (some (.int x.1)) x.2 := by
  refine q_met (φ := (fun x : Int32 × q_Mem => (some (.int x.1), x.2))) (r := f_X12_image M a0 a1) (by decide +kernel) (Nat.le_of_ble_eq_true rfl) ?_ h (fun _ _ => rfl)
  show q_V Y_X12_image none (fun x : Int32 × q_Mem => (some (.int x.1), x.2)) 0 0 0 [(0, .ref a0), (1, .int a1)] [] M (f_X12_image M a0 a1)
  unfold f_X12_image
  refine q_obV ?_
  refine q_iload_n 1 dX12_image_0 rfl ?_
  refine q_iconst (x := (0 : Int32)) dX12_image_1 rfl ?_
  refine q_iconst (x := (1 : Int32)) dX12_image_2 rfl ?_
  refine q_cSI (Y2 := Y_X12_in) (As := [.int a1, .int (0 : Int32), .int (1 : Int32)]) (st := []) ms_X12_in qw_1214 dX12_image_3 ⟨Nat.le_of_ble_eq_true rfl, Nat.le_of_ble_eq_true rfl⟩ rfl (fun _ _ => rfl) (Nat.le_of_ble_eq_true rfl) ⟨Nat.le_of_ble_eq_true rfl, Nat.le_of_ble_eq_true rfl⟩ (fun v2 h1 => m_X12_in h1) (fun v2 h1 => ?_)
  refine q_if_ne (tgt := 12) dX12_image_6 (by decide) (fun c7 => ?_) (fun c7 => ?_)
  · refine q_bipush (x := (-2 : Int32)) dX12_image_9 rfl ?_
    exact q_iret dX12_image_11 rfl rfl (Nat.le_of_ble_eq_true rfl) rfl
  · refine q_aload_n 0 dX12_image_12 rfl ?_
    refine q_getR (f := 2) cl_X12 (by decide) qw_1119 rfl dX12_image_13 (fun _ _ _ => rfl) (fun v3 h4 => ?_)
    refine q_iload_n 1 dX12_image_16 rfl ?_
    refine q_iconst (x := (1 : Int32)) dX12_image_17 rfl ?_
    refine q_zast dX12_image_18 (fun M5 h6 => ?_)
    refine q_iconst (x := (0 : Int32)) dX12_image_19 rfl ?_
    refine q_istore_n (ls' := [(2, .int (0 : Int32)), (0, .ref a0), (1, .int a1)]) dX12_image_20 (by decide) rfl ?_
    refine q_sub (ls' := [(0, .ref a0), (1, .int a1), (2, .int (0 : Int32))]) [1, 2, 0] rfl ?_
    exact v_X12_image_b21 _ _ _
theorem dX12_from_0 : decode cX12_from 0 = .ok (.iload_n 1, 1) := by decide +kernel
theorem dX12_from_1 : decode cX12_from 1 = .ok (.iconst 0, 1) := by decide +kernel
theorem dX12_from_2 : decode cX12_from 2 = .ok (.iconst 1, 1) := by decide +kernel
theorem dX12_from_3 : decode cX12_from 3 = .ok (.invokestatic 78, 3) := by decide +kernel
theorem dX12_from_6 : decode cX12_from 6 = .ok (.ifCond .ne 6, 3) := by decide +kernel
theorem dX12_from_9 : decode cX12_from 9 = .ok (.bipush (-2), 2) := by decide +kernel
theorem dX12_from_11 : decode cX12_from 11 = .ok (.ireturn, 1) := by decide +kernel
theorem dX12_from_12 : decode cX12_from 12 = .ok (.aload_n 0, 1) := by decide +kernel
theorem dX12_from_13 : decode cX12_from 13 = .ok (.getfield 16, 3) := by decide +kernel
theorem dX12_from_16 : decode cX12_from 16 = .ok (.iload_n 1, 1) := by decide +kernel
theorem dX12_from_17 : decode cX12_from 17 = .ok (.baload, 1) := by decide +kernel
theorem dX12_from_18 : decode cX12_from 18 = .ok (.ifCond .ne 6, 3) := by decide +kernel
theorem dX12_from_21 : decode cX12_from 21 = .ok (.bipush (-3), 2) := by decide +kernel
theorem dX12_from_23 : decode cX12_from 23 = .ok (.ireturn, 1) := by decide +kernel
theorem dX12_from_24 : decode cX12_from 24 = .ok (.iconst 0, 1) := by decide +kernel
theorem dX12_from_25 : decode cX12_from 25 = .ok (.istore_n 2, 1) := by decide +kernel
theorem dX12_from_26 : decode cX12_from 26 = .ok (.iload_n 2, 1) := by decide +kernel
theorem dX12_from_27 : decode cX12_from 27 = .ok (.sipush 4764, 3) := by decide +kernel
theorem dX12_from_30 : decode cX12_from 30 = .ok (.if_icmp .ge 27, 3) := by decide +kernel
theorem dX12_from_33 : decode cX12_from 33 = .ok (.aload_n 0, 1) := by decide +kernel
theorem dX12_from_34 : decode cX12_from 34 = .ok (.getfield 7, 3) := by decide +kernel
theorem dX12_from_37 : decode cX12_from 37 = .ok (.iload_n 2, 1) := by decide +kernel
theorem dX12_from_38 : decode cX12_from 38 = .ok (.aload_n 0, 1) := by decide +kernel
theorem dX12_from_39 : decode cX12_from 39 = .ok (.getfield 13, 3) := by decide +kernel
theorem dX12_from_42 : decode cX12_from 42 = .ok (.sipush 4764, 3) := by decide +kernel
theorem dX12_from_45 : decode cX12_from 45 = .ok (.iload_n 1, 1) := by decide +kernel
theorem dX12_from_46 : decode cX12_from 46 = .ok (.imul, 1) := by decide +kernel
theorem dX12_from_47 : decode cX12_from 47 = .ok (.iload_n 2, 1) := by decide +kernel
theorem dX12_from_48 : decode cX12_from 48 = .ok (.iadd, 1) := by decide +kernel
theorem dX12_from_49 : decode cX12_from 49 = .ok (.iaload, 1) := by decide +kernel
theorem dX12_from_50 : decode cX12_from 50 = .ok (.iastore, 1) := by decide +kernel
theorem dX12_from_51 : decode cX12_from 51 = .ok (.iinc 2 1, 3) := by decide +kernel
theorem dX12_from_54 : decode cX12_from 54 = .ok (.goto (-28), 3) := by decide +kernel
theorem dX12_from_57 : decode cX12_from 57 = .ok (.iconst 1, 1) := by decide +kernel
theorem dX12_from_58 : decode cX12_from 58 = .ok (.ireturn, 1) := by decide +kernel
def f_X12_from_b26 (a0 : Nat) (a1 : Int32) : Nat → Int32 → q_Mem → Option (Int32 × q_Mem)
  | 0, _, _ => none
  | n + 1, a2, M =>
    (if a2 < (4764 : Int32) then
      (q_gR 11 0 M a0).bind fun v9 =>
      (q_gR 11 1 M a0).bind fun v11 =>
      (q_lI M v11 (((4764 : Int32) * a1) + a2)).bind fun v13 =>
      (q_tI M v9 a2 v13).bind fun M15 =>
      f_X12_from_b26 a0 a1 n (a2 + (1 : Int32)) M15
    else
      some ((1 : Int32), M))
def f_X12_from (M : q_Mem) (a0 : Nat) (a1 : Int32) : Option (Int32 × q_Mem) :=
  q_ob 11 M a0 ((f_X12_in M a1 (0 : Int32) (1 : Int32)).bind fun v2 =>
  (if v2 = 0 then
    some ((-2 : Int32), M)
  else
    (q_gR 11 2 M a0).bind fun v3 =>
    (q_lZ M v3 a1).bind fun v5 =>
    (if v5 = 0 then
      some ((-3 : Int32), M)
    else
      f_X12_from_b26 a0 a1 q_fuel (0 : Int32) M)))
set_option maxRecDepth 20000 in
theorem v_X12_from_b26 {a0 : Nat} {a1 : Int32}  : ∀ (n : Nat) (a2 : Int32) (M : q_Mem), q_V Y_X12_from none (fun x : Int32 × q_Mem => (some (.int x.1), x.2)) 0 0 26 [(0, .ref a0), (1, .int a1), (2, .int a2)] [] M (f_X12_from_b26 a0 a1 n a2 M) := by
  intro n
  induction n with
  | zero => intro a2 M; exact q_none
  | succ n ih =>
    intro a2 M
    rw [f_X12_from_b26.eq_2]
    refine q_iload_n 2 dX12_from_26 rfl ?_
    refine q_sipush (x := (4764 : Int32)) dX12_from_27 rfl ?_
    refine q_icmp_ge (tgt := 57) dX12_from_30 (by decide) (fun c17 => ?_) (fun c17 => ?_)
    · refine q_aload_n 0 dX12_from_33 rfl ?_
      refine q_getR (f := 0) cl_X12 (by decide) qw_1117 rfl dX12_from_34 (fun _ _ _ => rfl) (fun v9 h10 => ?_)
      refine q_iload_n 2 dX12_from_37 rfl ?_
      refine q_aload_n 0 dX12_from_38 rfl ?_
      refine q_getR (f := 1) cl_X12 (by decide) qw_1118 rfl dX12_from_39 (fun _ _ _ => rfl) (fun v11 h12 => ?_)
      refine q_sipush (x := (4764 : Int32)) dX12_from_42 rfl ?_
      refine q_iload_n 1 dX12_from_45 rfl ?_
      refine q_imul dX12_from_46 ?_
      refine q_iload_n 2 dX12_from_47 rfl ?_
      refine q_iadd dX12_from_48 ?_
      refine q_iald dX12_from_49 (fun v13 h14 => ?_)
      refine q_iast dX12_from_50 (fun M15 h16 => ?_)
      refine q_iinc 2 (y := (a2 + (1 : Int32))) (ls' := [(2, .int (a2 + (1 : Int32))), (0, .ref a0), (1, .int a1)]) dX12_from_51 rfl rfl (by decide) rfl ?_
      refine q_goto (tgt := 26) dX12_from_54 (by decide) ?_
      refine q_sub (ls' := [(0, .ref a0), (1, .int a1), (2, .int (a2 + (1 : Int32)))]) [1, 2, 0] rfl ?_
      exact ih _ _
    · refine q_iconst (x := (1 : Int32)) dX12_from_57 rfl ?_
      exact q_iret dX12_from_58 rfl rfl (Nat.le_of_ble_eq_true rfl) rfl
set_option maxRecDepth 20000 in
theorem m_X12_from {M : q_Mem} {a0 : Nat} {a1 : Int32} {x : (Int32 × q_Mem)} (h : f_X12_from M a0 a1 = some x) : q_C Y_X12_from [.ref a0, .int a1] M (some (.int x.1)) x.2 := by
  refine q_met (φ := (fun x : Int32 × q_Mem => (some (.int x.1), x.2))) (r := f_X12_from M a0 a1) (by decide +kernel) (Nat.le_of_ble_eq_true rfl) ?_ h (fun _ _ => rfl)
  show q_V Y_X12_from none (fun x : Int32 × q_Mem => (some (.int x.1), x.2)) 0 0 0 [(0, .ref a0), (1, .int a1)] [] M (f_X12_from M a0 a1)
  unfold f_X12_from
  refine q_obV ?_
  refine q_iload_n 1 dX12_from_0 rfl ?_
  refine q_iconst (x := (0 : Int32)) dX12_from_1 rfl ?_
  refine q_iconst (x := (1 : Int32)) dX12_from_2 rfl ?_
  refine q_cSI (Y2 := Y_X12_in) (As := [.int a1, .int (0 : Int32), .int (1 : Int32)]) (st := []) ms_X12_in qw_1214 dX12_from_3 ⟨Nat.le_of_ble_eq_true rfl, Nat.le_of_ble_eq_true rfl⟩ rfl (fun _ _ => rfl) (Nat.le_of_ble_eq_true rfl) ⟨Nat.le_of_ble_eq_true rfl, Nat.le_of_ble_eq_true rfl⟩ (fun v2 h1 => m_X12_in h1) (fun v2 h1 => ?_)
  refine q_if_ne (tgt := 12) dX12_from_6 (by decide) (fun c8 => ?_) (fun c8 => ?_)
  · refine q_bipush (x := (-2 : Int32)) dX12_from_9 rfl ?_
    exact q_iret dX12_from_11 rfl rfl (Nat.le_of_ble_eq_true rfl) rfl
  · refine q_aload_n 0 dX12_from_12 rfl ?_
    refine q_getR (f := 2) cl_X12 (by decide) qw_1119 rfl dX12_from_13 (fun _ _ _ => rfl) (fun v3 h4 => ?_)
    refine q_iload_n 1 dX12_from_16 rfl ?_
    refine q_zald dX12_from_17 (fun v5 h6 => ?_)
    refine q_if_ne (tgt := 24) dX12_from_18 (by decide) (fun c7 => ?_) (fun c7 => ?_)
    · refine q_bipush (x := (-3 : Int32)) dX12_from_21 rfl ?_
      exact q_iret dX12_from_23 rfl rfl (Nat.le_of_ble_eq_true rfl) rfl
    · refine q_iconst (x := (0 : Int32)) dX12_from_24 rfl ?_
      refine q_istore_n (ls' := [(2, .int (0 : Int32)), (0, .ref a0), (1, .int a1)]) dX12_from_25 (by decide) rfl ?_
      refine q_sub (ls' := [(0, .ref a0), (1, .int a1), (2, .int (0 : Int32))]) [1, 2, 0] rfl ?_
      exact v_X12_from_b26 _ _ _
theorem dX12_count_0 : decode cX12_count 0 = .ok (.iload_n 1, 1) := by decide +kernel
theorem dX12_count_1 : decode cX12_count 1 = .ok (.iconst 0, 1) := by decide +kernel
theorem dX12_count_2 : decode cX12_count 2 = .ok (.bipush 9, 2) := by decide +kernel
theorem dX12_count_4 : decode cX12_count 4 = .ok (.invokestatic 78, 3) := by decide +kernel
theorem dX12_count_7 : decode cX12_count 7 = .ok (.ifCond .eq 12, 3) := by decide +kernel
theorem dX12_count_10 : decode cX12_count 10 = .ok (.aload_n 0, 1) := by decide +kernel
theorem dX12_count_11 : decode cX12_count 11 = .ok (.getfield 7, 3) := by decide +kernel
theorem dX12_count_14 : decode cX12_count 14 = .ok (.iload_n 1, 1) := by decide +kernel
theorem dX12_count_15 : decode cX12_count 15 = .ok (.iaload, 1) := by decide +kernel
theorem dX12_count_16 : decode cX12_count 16 = .ok (.goto 5, 3) := by decide +kernel
theorem dX12_count_19 : decode cX12_count 19 = .ok (.bipush (-2), 2) := by decide +kernel
theorem dX12_count_21 : decode cX12_count 21 = .ok (.ireturn, 1) := by decide +kernel
def f_X12_count (M : q_Mem) (a0 : Nat) (a1 : Int32) : Option Int32 :=
  q_ob 11 M a0 ((f_X12_in M a1 (0 : Int32) (9 : Int32)).bind fun v2 =>
  (if v2 = 0 then
    some (-2 : Int32)
  else
    (q_gR 11 0 M a0).bind fun v3 =>
    (q_lI M v3 a1).bind fun v5 =>
    some v5))
set_option maxRecDepth 20000 in
theorem m_X12_count {M : q_Mem} {a0 : Nat} {a1 : Int32} {x : Int32} (h : f_X12_count M a0 a1 = some x) : q_C Y_X12_count [.ref a0, .int a1] M (some (.int x)) M := by
  refine q_met (φ := (fun x : Int32 => (some (.int x), M))) (r := f_X12_count M a0 a1) (by decide +kernel) (Nat.le_of_ble_eq_true rfl) ?_ h (fun _ _ => rfl)
  show q_V Y_X12_count none (fun x : Int32 => (some (.int x), M)) 0 0 0 [(0, .ref a0), (1, .int a1)] [] M (f_X12_count M a0 a1)
  unfold f_X12_count
  refine q_obV ?_
  refine q_iload_n 1 dX12_count_0 rfl ?_
  refine q_iconst (x := (0 : Int32)) dX12_count_1 rfl ?_
  refine q_bipush (x := (9 : Int32)) dX12_count_2 rfl ?_
  refine q_cSI (Y2 := Y_X12_in) (As := [.int a1, .int (0 : Int32), .int (9 : Int32)]) (st := []) ms_X12_in qw_1214 dX12_count_4 ⟨Nat.le_of_ble_eq_true rfl, Nat.le_of_ble_eq_true rfl⟩ rfl (fun _ _ => rfl) (Nat.le_of_ble_eq_true rfl) ⟨Nat.le_of_ble_eq_true rfl, Nat.le_of_ble_eq_true rfl⟩ (fun v2 h1 => m_X12_in h1) (fun v2 h1 => ?_)
  refine q_if_eq (tgt := 19) dX12_count_7 (by decide) (fun c7 => ?_) (fun c7 => ?_)
  · refine q_bipush (x := (-2 : Int32)) dX12_count_19 rfl ?_
    exact q_iret dX12_count_21 rfl rfl (Nat.le_of_ble_eq_true rfl) rfl
  · refine q_aload_n 0 dX12_count_10 rfl ?_
    refine q_getR (f := 0) cl_X12 (by decide) qw_1117 rfl dX12_count_11 (fun _ _ _ => rfl) (fun v3 h4 => ?_)
    refine q_iload_n 1 dX12_count_14 rfl ?_
    refine q_iald dX12_count_15 (fun v5 h6 => ?_)
    refine q_goto (tgt := 21) dX12_count_16 (by decide) ?_
    exact q_iret dX12_count_21 rfl rfl (Nat.le_of_ble_eq_true rfl) rfl
theorem dX12_mixed_0 : decode cX12_mixed 0 = .ok (.lload_n 1, 1) := by decide +kernel
theorem dX12_mixed_1 : decode cX12_mixed 1 = .ok (.lstore 5, 2) := by decide +kernel
theorem dX12_mixed_3 : decode cX12_mixed 3 = .ok (.iconst 0, 1) := by decide +kernel
theorem dX12_mixed_4 : decode cX12_mixed 4 = .ok (.istore 7, 2) := by decide +kernel
theorem dX12_mixed_6 : decode cX12_mixed 6 = .ok (.iload 7, 2) := by decide +kernel
theorem dX12_mixed_8 : decode cX12_mixed 8 = .ok (.iload 4, 2) := by decide +kernel
theorem dX12_mixed_10 : decode cX12_mixed 10 = .ok (.if_icmp .ge 28, 3) := by decide +kernel
theorem dX12_mixed_13 : decode cX12_mixed 13 = .ok (.ldc2_w 344, 3) := by decide +kernel
theorem dX12_mixed_16 : decode cX12_mixed 16 = .ok (.lload 5, 2) := by decide +kernel
theorem dX12_mixed_18 : decode cX12_mixed 18 = .ok (.lmul, 1) := by decide +kernel
theorem dX12_mixed_19 : decode cX12_mixed 19 = .ok (.aload_n 0, 1) := by decide +kernel
theorem dX12_mixed_20 : decode cX12_mixed 20 = .ok (.getfield 7, 3) := by decide +kernel
theorem dX12_mixed_23 : decode cX12_mixed 23 = .ok (.iload_n 3, 1) := by decide +kernel
theorem dX12_mixed_24 : decode cX12_mixed 24 = .ok (.iload 7, 2) := by decide +kernel
theorem dX12_mixed_26 : decode cX12_mixed 26 = .ok (.iadd, 1) := by decide +kernel
theorem dX12_mixed_27 : decode cX12_mixed 27 = .ok (.iaload, 1) := by decide +kernel
theorem dX12_mixed_28 : decode cX12_mixed 28 = .ok (.i2l, 1) := by decide +kernel
theorem dX12_mixed_29 : decode cX12_mixed 29 = .ok (.ladd, 1) := by decide +kernel
theorem dX12_mixed_30 : decode cX12_mixed 30 = .ok (.lstore 5, 2) := by decide +kernel
theorem dX12_mixed_32 : decode cX12_mixed 32 = .ok (.iinc 7 1, 3) := by decide +kernel
theorem dX12_mixed_35 : decode cX12_mixed 35 = .ok (.goto (-29), 3) := by decide +kernel
theorem dX12_mixed_38 : decode cX12_mixed 38 = .ok (.lload 5, 2) := by decide +kernel
theorem dX12_mixed_40 : decode cX12_mixed 40 = .ok (.lreturn, 1) := by decide +kernel
def f_X12_mixed_b6 (M : q_Mem) (a0 : Nat) (a3 : Int32) (a4 : Int32) : Nat → Int64 → Int32 → Option Int64
  | 0, _, _ => none
  | n + 1, a5, a7 =>
    (if a7 < a4 then
      (q_gR 11 0 M a0).bind fun v1 =>
      (q_lI M v1 (a3 + a7)).bind fun v3 =>
      f_X12_mixed_b6 M a0 a3 a4 n (((31 : Int64) * a5) + v3.toInt64) (a7 + (1 : Int32))
    else
      some a5)
def f_X12_mixed (M : q_Mem) (a0 : Nat) (a1 : Int64) (a3 : Int32) (a4 : Int32) : Option Int64 :=
  q_ob 11 M a0 (f_X12_mixed_b6 M a0 a3 a4 q_fuel a1 (0 : Int32))
set_option maxRecDepth 20000 in
theorem v_X12_mixed_b6 {M : q_Mem} {a0 : Nat} {a3 : Int32} {a4 : Int32}  : ∀ (n : Nat) (a5 : Int64) (a7 : Int32), q_V Y_X12_mixed none (fun x : Int64 => (some (.long x), M)) 0 0 6 [(0, .ref a0), (3, .int a3), (4, .int a4), (5, .long a5), (7, .int a7)] [] M (f_X12_mixed_b6 M a0 a3 a4 n a5 a7) := by
  intro n
  induction n with
  | zero => intro a5 a7; exact q_none
  | succ n ih =>
    intro a5 a7
    rw [f_X12_mixed_b6.eq_2]
    refine q_iload 4 dX12_mixed_6 rfl ?_
    refine q_iload 2 dX12_mixed_8 rfl ?_
    refine q_icmp_ge (tgt := 38) dX12_mixed_10 (by decide) (fun c5 => ?_) (fun c5 => ?_)
    · refine q_ldc2 (x := (31 : Int64)) qw_1692 dX12_mixed_13 ?_
      refine q_lload 3 dX12_mixed_16 rfl ?_
      refine q_lmul dX12_mixed_18 ?_
      refine q_aload_n 0 dX12_mixed_19 rfl ?_
      refine q_getR (f := 0) cl_X12 (by decide) qw_1117 rfl dX12_mixed_20 (fun _ _ _ => rfl) (fun v1 h2 => ?_)
      refine q_iload_n 1 dX12_mixed_23 rfl ?_
      refine q_iload 4 dX12_mixed_24 rfl ?_
      refine q_iadd dX12_mixed_26 ?_
      refine q_iald dX12_mixed_27 (fun v3 h4 => ?_)
      refine q_i2l dX12_mixed_28 ?_
      refine q_ladd dX12_mixed_29 ?_
      refine q_lstore (ls' := [(5, .long (((31 : Int64) * a5) + v3.toInt64)), (0, .ref a0), (3, .int a3), (4, .int a4), (7, .int a7)]) dX12_mixed_30 (by decide) rfl ?_
      refine q_iinc 4 (y := (a7 + (1 : Int32))) (ls' := [(7, .int (a7 + (1 : Int32))), (5, .long (((31 : Int64) * a5) + v3.toInt64)), (0, .ref a0), (3, .int a3), (4, .int a4)]) dX12_mixed_32 rfl rfl (by decide) rfl ?_
      refine q_goto (tgt := 6) dX12_mixed_35 (by decide) ?_
      refine q_sub (ls' := [(0, .ref a0), (3, .int a3), (4, .int a4), (5, .long (((31 : Int64) * a5) + v3.toInt64)), (7, .int (a7 + (1 : Int32)))]) [2, 3, 4, 1, 0] rfl ?_
      exact ih _ _
    · refine q_lload 3 dX12_mixed_38 rfl ?_
      exact q_lret dX12_mixed_40 rfl rfl (Nat.le_of_ble_eq_true rfl) rfl
set_option maxRecDepth 20000 in
theorem m_X12_mixed {M : q_Mem} {a0 : Nat} {a1 : Int64} {a3 : Int32} {a4 : Int32} {x : Int64} (h : f_X12_mixed M a0 a1 a3 a4 = some x) : q_C Y_X12_mixed [.ref a0, .long a1, .int a3, .int a4] M (some (.long x)) M := by
  refine q_met (φ := (fun x : Int64 => (some (.long x), M))) (r := f_X12_mixed M a0 a1 a3 a4) (by decide +kernel) (Nat.le_of_ble_eq_true rfl) ?_ h (fun _ _ => rfl)
  show q_V Y_X12_mixed none (fun x : Int64 => (some (.long x), M)) 0 0 0 [(0, .ref a0), (1, .long a1), (3, .int a3), (4, .int a4)] [] M (f_X12_mixed M a0 a1 a3 a4)
  unfold f_X12_mixed
  refine q_obV ?_
  refine q_lload_n 1 dX12_mixed_0 rfl ?_
  refine q_lstore (ls' := [(5, .long a1), (0, .ref a0), (1, .long a1), (3, .int a3), (4, .int a4)]) dX12_mixed_1 (by decide) rfl ?_
  refine q_iconst (x := (0 : Int32)) dX12_mixed_3 rfl ?_
  refine q_istore (ls' := [(7, .int (0 : Int32)), (5, .long a1), (0, .ref a0), (1, .long a1), (3, .int a3), (4, .int a4)]) dX12_mixed_4 (by decide) rfl ?_
  refine q_sub (ls' := [(0, .ref a0), (3, .int a3), (4, .int a4), (5, .long a1), (7, .int (0 : Int32))]) [2, 4, 5, 1, 0] rfl ?_
  exact v_X12_mixed_b6 _ _ _
