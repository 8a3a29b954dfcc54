/-! ===== the two constructors: what stands behind them ===== -/
def z_ck (M : q_Mem) : Bool :=
  decide (M.1 = 131) && (List.range 131).all (fun a => decide (q_K M a = z_KK a)) && (List.range 131).all (fun a => (List.range 32).all (fun i => decide (q_G M a i = z_GG a i)))
def z_ck2 (M : q_Mem) : Bool :=
  (List.range 11).all (fun t => [1, 27, 52].all (fun hb => decide (q_I M (hb + 1 + 2 * t) 0 = nI (z_tm t)) && decide (q_I M (hb + 1 + 2 * t) 1 = nI (z_tw t)))) &&
  (List.range 11).all (fun t => decide (q_I M (2 + 2 * t) 3 = if t = 5 then 6 else 0)) &&
  (List.range 6).all (fun i => decide (q_I M 13 (61 * i) = 0)) &&
  (List.range 4).all (fun j => decide (q_I M 24 j = 0)) && (List.range 52).all (fun j => decide (q_I M 25 j = 0)) &&
  decide (q_I M 1 13 = 7) && decide (q_I M 1 14 = 300) && decide (q_I M 1 15 = 1) && decide (q_I M 77 0 = 0) && decide (q_I M 77 1 = 0)
def z_ini : Option q_Mem := (f_X11_init (q_nw q_M0 10 0) q_M0.1).bind fun M2 => f_X12_init (q_nw M2 11 0) M2.1
set_option maxRecDepth 100000 in
theorem z_ini1 : ((f_X11_init (q_nw q_M0 10 0) q_M0.1).map fun M => M.1) = some 108 := by decide +kernel
set_option maxRecDepth 100000 in
theorem z_ini2 : (z_ini.map fun M => M.1) = some 131 := by decide +kernel
set_option maxRecDepth 100000 in
theorem z_ini3 : (z_ini.map fun M => (List.range 131).all (fun a => decide (q_K M a = z_KK a))) = some true := by decide +kernel
set_option maxRecDepth 100000 in
theorem z_ini4 : (z_ini.map z_ck2) = some true := by decide +kernel
def z_ck3 (M : q_Mem) : Bool :=
  (List.range 10).all (fun j => decide (q_I M 109 j = 0)) && (List.range 4).all (fun j => decide (q_I M 109 (13 + j) = 0)) && (List.range 52).all (fun j => decide (q_I M 109 (4556 + j) = 0)) && (List.range 6).all (fun i => decide (q_I M 109 (3320 + 61 * i) = 0)) &&
  decide (q_I M 109 10 = 7) && decide (q_I M 109 11 = 300) && decide (q_I M 109 12 = 1) && decide (q_I M 111 0 = 0) && decide (q_I M 111 1 = 0)
set_option maxRecDepth 100000 in
theorem z_ini5 : (z_ini.map z_ck3) = some true := by decide +kernel
set_option maxRecDepth 100000 in
theorem z_ini6 : (z_ini.map fun M => (List.range 131).all (fun a => (List.range 32).all (fun i => decide (q_G M a i = z_GG a i)))) = some true := by decide +kernel
set_option maxRecDepth 100000 in
theorem z_ini7 : (z_ini.map fun M => decide (q_I M 104 0 = 0 ∧ q_J M 103 0 = 0 ∧ q_J M 105 0 = 0 ∧ q_J M 106 0 = 0)) = some true := by decide +kernel
