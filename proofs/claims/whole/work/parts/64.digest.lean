/-! ===== digest ===== -/
def z_mix (f : Nat → Int32) : Nat → Int64 → Int64
  | 0, h => h
  | n + 1, h => (31 : Int64) * z_mix f n h + (f n).toInt64
theorem z_mix_add (f : Nat → Int32) (n m : Nat) (h : Int64) : z_mix f (n + m) h = z_mix (fun k => f (n + k)) m (z_mix f n h) := by
  induction m with
  | zero => rfl
  | succ m ih =>
    show (31 : Int64) * z_mix f (n + m) h + (f (n + m)).toInt64 = _
    rw [ih]; rfl
theorem z_mix_cong {f g : Nat → Int32} {n : Nat} (h : ∀ k, k < n → f k = g k) (x : Int64) : z_mix f n x = z_mix g n x := by
  induction n with
  | zero => rfl
  | succ n ih =>
    show (31 : Int64) * z_mix f n x + (f n).toInt64 = (31 : Int64) * z_mix g n x + (g n).toInt64
    rw [ih (fun k hk => h k (by omega)), h n (by omega)]
theorem zq_mixed {M : q_Mem} (hL : z_Lay M) (o n : Nat) (h : Int64) (ho : o + n ≤ 4764) : ∀ (d k fu : Nat), k + d = n → d < fu → f_X12_mixed_b6 M 108 (nI o) (nI n) fu (z_mix (fun j => q_I M 109 (o + j)) k h) (nI k) = some (z_mix (fun j => q_I M 109 (o + j)) n h) := by
  intro d
  induction d with
  | zero =>
    intro k fu hd hf
    obtain ⟨g, rfl⟩ : ∃ g, fu = g + 1 := ⟨fu - 1, by omega⟩
    obtain rfl : k = n := by omega
    have hn : (nI k < nI k) = False := eq_false (nI_nlt (Nat.le_refl _) (by omega))
    simp only [f_X12_mixed_b6.eq_2, hn, if_false]
  | succ d ih =>
    intro k fu hd hf
    obtain ⟨g, rfl⟩ : ∃ g, fu = g + 1 := ⟨fu - 1, by omega⟩
    have hn : (nI k < nI n) = True := eq_true (nI_lt (by omega) (by omega))
    have ih2 := ih (k + 1) g (by omega) (by omega)
    have hs : z_mix (fun j => q_I M 109 (o + j)) (k + 1) h = (31 : Int64) * z_mix (fun j => q_I M 109 (o + j)) k h + (q_I M 109 (o + k)).toInt64 := rfl
    rw [hs] at ih2
    simp only [f_X12_mixed_b6.eq_2, hn, if_true, zo_108 hL, Option.bind_some, nI_add, z_st_lit hL (show o + k < 4764 by omega), ← nI_succ]
    exact ih2
theorem zs_mixed {M : q_Mem} (hL : z_Lay M) (o n : Nat) (h : Int64) (ho : o + n ≤ 4764) : f_X12_mixed M 108 h (nI o) (nI n) = some (z_mix (fun j => q_I M 109 (o + j)) n h) := by
  unfold f_X12_mixed
  rw [zob_108 hL]
  exact zq_mixed hL o n h ho n 0 q_fuel (by omega) (by unfold q_fuel; omega)
theorem zs_mixedR {M : q_Mem} (hL : z_Lay M) (o w n : Nat) (h : Int64) (ho : o + w * n ≤ 4764) : f_X12_mixed M 108 h (nI o) (nI w * nI n) = some (z_mix (fun j => q_I M 109 (o + j)) (w * n) h) := by
  rw [pk_mul]; exact zs_mixed hL o _ h ho
theorem zq_dgC {M : q_Mem} {r c w mx m : Nat} (R : z_R M r c w mx) (h3 : q_I M r 3 = nI m) (hm : m ≤ mx) (kk : Int64 → Int32 → Option Int64) (h : Int64) {i : Nat} (hi : i < m) : ∀ (d k fu : Nat), k + d = w → d < fu → f_X9_digestOn_b17 kk M r (nI i) fu (z_mix (q_I M c) (w * i + k) h) (nI k) = kk (z_mix (q_I M c) (w * i + w) h) (nI (i + 1)) := by
  have hw := z_w_le R (by omega)
  have g2 : q_gI 8 1 M r = some (nI w) := by unfold q_gI; rw [if_pos R.1, R.2.2.2.2.2.1]
  intro d
  induction d with
  | zero =>
    intro k fu hd hf
    obtain ⟨g, rfl⟩ : ∃ g, fu = g + 1 := ⟨fu - 1, by omega⟩
    obtain rfl : k = w := by omega
    have hn : (nI k < nI k) = False := eq_false (nI_nlt (Nat.le_refl _) (by omega))
    simp only [f_X9_digestOn_b17.eq_2, g2, Option.bind_some, hn, if_false, ← nI_succ]
  | succ d ih =>
    intro k fu hd hf
    obtain ⟨g, rfl⟩ : ∃ g, fu = g + 1 := ⟨fu - 1, by omega⟩
    have hn : (nI k < nI w) = True := eq_true (nI_lt (by omega) (by omega))
    have ih2 := ih (k + 1) g (by omega) (by omega)
    have hs : z_mix (q_I M c) (w * i + (k + 1)) h = (31 : Int64) * z_mix (q_I M c) (w * i + k) h + (q_I M c (w * i + k)).toInt64 := rfl
    rw [hs] at ih2
    simp only [f_X9_digestOn_b17.eq_2, g2, hn, if_true, Option.bind_some, z_at_in R h3 hm hi (show k < w by omega), ← nI_succ]
    exact ih2
theorem zq_dgR {M : q_Mem} {r c w mx m : Nat} (R : z_R M r c w mx) (h3 : q_I M r 3 = nI m) (hm : m ≤ mx) (h : Int64) (hw2 : w < q_fuel) : ∀ (d i fu : Nat), i + d = m → d < fu → f_X9_digestOn_b5 M r fu (z_mix (q_I M c) (w * i) h) (nI i) = some (z_mix (q_I M c) (w * m) h) := by
  have hmx := z_mx_le R
  have g1 : q_gI 8 3 M r = some (nI m) := by unfold q_gI; rw [if_pos R.1, h3]
  intro d
  induction d with
  | zero =>
    intro i fu hd hf
    obtain ⟨g, rfl⟩ : ∃ g, fu = g + 1 := ⟨fu - 1, by omega⟩
    obtain rfl : i = m := by omega
    have hn : (nI i < nI i) = False := eq_false (nI_nlt (Nat.le_refl _) (by omega))
    simp only [f_X9_digestOn_b5.eq_2, g1, Option.bind_some, hn, if_false]
  | succ d ih =>
    intro i fu hd hf
    obtain ⟨g, rfl⟩ : ∃ g, fu = g + 1 := ⟨fu - 1, by omega⟩
    have hn : (nI i < nI m) = True := eq_true (nI_lt (by omega) (by omega))
    have ih2 := ih (i + 1) g (by omega) (by omega)
    have e : f_X9_digestOn_b17 (f_X9_digestOn_b5 M r g) M r (nI i) q_fuel (z_mix (q_I M c) (w * i) h) (0 : Int32) = _ := zq_dgC R h3 hm (f_X9_digestOn_b5 M r g) h (show i < m by omega) w 0 q_fuel (by omega) hw2
    simp only [f_X9_digestOn_b5.eq_2, g1, hn, if_true, Option.bind_some, e]
    rw [Nat.mul_add, Nat.mul_one] at ih2
    exact ih2
theorem zs_dg {M : q_Mem} {r c w mx m : Nat} (R : z_R M r c w mx) (h3 : q_I M r 3 = nI m) (hm : m ≤ mx) (h : Int64) (hw2 : w < q_fuel) (hm2 : m < q_fuel) : f_X9_digestOn M r h = some (z_mix (q_I M c) (w * m) h) := by
  have e := zq_dgR R h3 hm h hw2 m 0 q_fuel (by omega) hm2
  unfold f_X9_digestOn q_ob
  rw [if_pos R.1]
  exact e
/-- a table is the same numbers on both sides, one behind another -/
theorem z_dgT {M : q_Mem} (hi : z_Inv M) {t : Nat} (ht : t < 5) (h : Int64) : z_mix (q_I M (3 + 2 * t)) (z_tw t * z_m (q_I M 109) t) h = z_mix (fun j => q_I M 109 (z_to t + j)) (z_tw t * z_m (q_I M 109) t) h := by
  refine z_mix_cong (fun k hk => ?_) h
  have hw : 0 < z_tw t := by
    have : ∀ t, t < 5 → 0 < z_tw t := by decide
    exact this t ht
  have h1 : k / z_tw t < z_m (q_I M 109) t := Nat.div_lt_of_lt_mul hk
  have h2 : k % z_tw t < z_tw t := Nat.mod_lt _ hw
  have e := (hi.2.2.2.2.1.1 t (by omega)).2.2.2 (k / z_tw t) (k % z_tw t) h1 h2 ⟨fun z => by omega, fun z => by omega⟩
  have e3 : z_tw t * (k / z_tw t) + k % z_tw t = k := Nat.div_add_mod _ _
  have e4 : z_pm t (k % z_tw t) = k % z_tw t := by unfold z_pm; rw [if_neg (by omega)]
  rw [e4, e3, show 1 + 2 + 2 * t = 3 + 2 * t by omega, Nat.add_assoc, e3] at e
  exact e
theorem zs_count {M : q_Mem} (hi : z_Inv M) {k : Nat} (hk : k < 10) : f_X11_count M 0 (nI k) = some (q_I M 109 k) := by
  have hL := hi.1
  obtain ⟨r, r1, r2, _⟩ := Z_count_ok M (nI k) hi
  have g : (0 : Int32).toInt ≤ (nI k).toInt ∧ (nI k).toInt ≤ (9 : Int32).toInt := by
    have e0 : (0 : Int32).toInt = 0 := rfl
    have e9 : (9 : Int32).toInt = 9 := rfl
    rw [nI_toInt (by omega), e0, e9]; omega
  simp only [f_X12_count, zob_108 hL, zo_108 hL, z_m_in, Option.bind_some, z_b0, g, and_self, if_true, z_st_lit hL (show k < 4764 by omega)] at r2
  rw [r1]; exact r2.symm
theorem zq_dg6 {M : q_Mem} (hi : z_Inv M) : ∀ (d k fu : Nat), k + d = 10 → d < fu → f_X11_digest_b6 M 0 fu (z_mix (fun j => q_I M 109 (0 + j)) k 281) (nI k) = f_X11_digest_b31 M 0 (z_mix (fun j => q_I M 109 (0 + j)) 10 281) := by
  intro d
  induction d with
  | zero =>
    intro k fu hd hf
    obtain ⟨g, rfl⟩ : ∃ g, fu = g + 1 := ⟨fu - 1, by omega⟩
    obtain rfl : k = 10 := by omega
    simp only [f_X11_digest_b6.eq_2, show ((9 : Int32) < nI 10) = True by decide, if_true]
  | succ d ih =>
    intro k fu hd hf
    obtain ⟨g, rfl⟩ : ∃ g, fu = g + 1 := ⟨fu - 1, by omega⟩
    have hn : ((9 : Int32) < nI k) = False := eq_false (nI_nlt (a := 9) (b := k) (by omega) (by omega))
    have ih2 := ih (k + 1) g (by omega) (by omega)
    have hs : z_mix (fun j => q_I M 109 (0 + j)) (k + 1) 281 = (31 : Int64) * z_mix (fun j => q_I M 109 (0 + j)) k 281 + (q_I M 109 (0 + k)).toInt64 := rfl
    rw [hs, Nat.zero_add] at ih2
    simp only [f_X11_digest_b6.eq_2, hn, if_false, zs_count hi (show k < 10 by omega), Option.bind_some, ← nI_succ]
    exact ih2
theorem zq_dg69 {M : q_Mem} (hi : z_Inv M) (h : Int64) : ∀ (d k fu : Nat), k + d = 4 → d < fu → f_X11_digest_b69 M 0 fu (z_mix (fun j => q_I M 109 (13 + j)) k h) (nI k) = f_X11_digest_b104 M 0 (z_mix (fun j => q_I M 109 (13 + j)) 4 h) := by
  have hL := hi.1
  intro d
  induction d with
  | zero =>
    intro k fu hd hf
    obtain ⟨g, rfl⟩ : ∃ g, fu = g + 1 := ⟨fu - 1, by omega⟩
    obtain rfl : k = 4 := by omega
    simp only [f_X11_digest_b69.eq_2, zo_0 hL, zo_1 hL, za_24 hL, Option.bind_some, show (nI 4 < nI 4) = False by decide, if_false]
  | succ d ih =>
    intro k fu hd hf
    obtain ⟨g, rfl⟩ : ∃ g, fu = g + 1 := ⟨fu - 1, by omega⟩
    have hn : (nI k < nI 4) = True := eq_true (nI_lt (by omega) (by omega))
    have ih2 := ih (k + 1) g (by omega) (by omega)
    have hs : z_mix (fun j => q_I M 109 (13 + j)) (k + 1) h = (31 : Int64) * z_mix (fun j => q_I M 109 (13 + j)) k h + (q_I M 109 (13 + k)).toInt64 := rfl
    have eb : q_I M 24 k = q_I M 109 (13 + k) := (hi.2.2.2.2.1.2.1.1 k (by omega)).1
    rw [hs, ← eb] at ih2
    simp only [f_X11_digest_b69.eq_2, zo_0 hL, zo_1 hL, (za_24 hL).1, (za_24 hL).2.1 k (show k < 4 by omega), Option.bind_some, hn, if_true, ← nI_succ]
    exact ih2
theorem zq_dgt {M : q_Mem} (hi : z_Inv M) (kk : Int64 → Int32 → Option Int64) (h : Int64) {i n : Nat} (hi6 : i < 6) (hn6 : n ≤ 60) (hl : q_I M 109 (3320 + 61 * i) = nI n) : ∀ (d k fu : Nat), k + d = n + 1 → d < fu → f_X11_digestOfTexts_b38 kk M 0 (nI i) (nI n) fu (z_mix (fun j => q_I M 109 (3320 + 61 * i + j)) k h) (nI k) = kk (z_mix (fun j => q_I M 109 (3320 + 61 * i + j)) (n + 1) h) (nI (i + 1)) := by
  have hL := hi.1
  intro d
  induction d with
  | zero =>
    intro k fu hd hf
    obtain ⟨g, rfl⟩ : ∃ g, fu = g + 1 := ⟨fu - 1, by omega⟩
    obtain rfl : k = n + 1 := by omega
    have hn : (nI n < nI (n + 1)) = True := eq_true (nI_lt (by omega) (by omega))
    simp only [f_X11_digestOfTexts_b38.eq_2, hn, if_true, ← nI_succ]
  | succ d ih =>
    intro k fu hd hf
    obtain ⟨g, rfl⟩ : ∃ g, fu = g + 1 := ⟨fu - 1, by omega⟩
    have hn : (nI n < nI k) = False := eq_false (nI_nlt (by omega) (by omega))
    have ih2 := ih (k + 1) g (by omega) (by omega)
    have hs : z_mix (fun j => q_I M 109 (3320 + 61 * i + j)) (k + 1) h = (31 : Int64) * z_mix (fun j => q_I M 109 (3320 + 61 * i + j)) k h + (q_I M 109 (3320 + 61 * i + k)).toInt64 := rfl
    rw [hs] at ih2
    have er : f_X9_at M 12 (nI i) ((0 : Int32) + nI k) = some (q_I M 109 (3320 + 61 * i + k)) := by
      rw [Int32.zero_add]; exact z_ra_5 hi hi6 (by rw [hl, nI_clamp (by omega)]; omega)
    simp only [f_X11_digestOfTexts_b38.eq_2, zo_0 hL, zo_1 hL, hn, if_false, er, Option.bind_some, ← nI_succ]
    exact ih2
/-- the texts, and what is mixed behind them -/
theorem zq_dgT {M : q_Mem} (hi : z_Inv M) : ∀ (d i fu : Nat) (h : Int64), i + d = 6 → d < fu → ∃ r, f_X11_digestOfTexts_b5 M 0 fu h (nI i) = some r ∧ f_X12_digest_b113 M 108 fu h (nI i) = f_X12_digest_b156 M 108 q_fuel r (0 : Int32) := by
  have hL := hi.1
  obtain ⟨R, h3⟩ := zt_5 hi
  intro d
  induction d with
  | zero =>
    intro i fu h hd hf
    obtain ⟨g, rfl⟩ : ∃ g, fu = g + 1 := ⟨fu - 1, by omega⟩
    obtain rfl : i = 6 := by omega
    simp only [f_X11_digestOfTexts_b5.eq_2, f_X12_digest_b113.eq_2, zo_0 hL, zo_1 hL, zo_12 hL, h3, Option.bind_some, show (nI 6 < nI 6) = False by decide, show (nI 6 < (6 : Int32)) = False by decide, if_false]
    exact ⟨h, rfl, rfl⟩
  | succ d ih =>
    intro i fu h hd hf
    obtain ⟨g, rfl⟩ : ∃ g, fu = g + 1 := ⟨fu - 1, by omega⟩
    have hi6 : i < 6 := by omega
    have hn : (nI i < nI 6) = True := eq_true (nI_lt (by omega) (by omega))
    have hn' : (nI i < (6 : Int32)) = True := hn
    obtain ⟨n, hn6, e0, e3⟩ := z_txlen (z_tx hi hi6)
    have e2 : f_X9_at M 12 (nI i) (0 : Int32) = some (nI n) := by
      rw [← e0]; exact z_ra_5 (j := 0) hi hi6 (Nat.zero_le _)
    have e : f_X11_digestOfTexts_b38 (f_X11_digestOfTexts_b5 M 0 g) M 0 (nI i) (nI n) q_fuel h (0 : Int32) = _ := zq_dgt hi (f_X11_digestOfTexts_b5 M 0 g) h hi6 hn6 e0 (n + 1) 0 q_fuel (by omega) (by unfold q_fuel; omega)
    have e4 : f_X12_mixed M 108 h ((3320 : Int32) + (61 : Int32) * nI i) ((1 : Int32) + nI n) = some (z_mix (fun j => q_I M 109 (3320 + 61 * i + j)) (n + 1) h) := by
      rw [z_ix0_5, show (1 : Int32) + nI n = nI (1 + n) from nI_add 1 n, Nat.add_comm 1 n]
      exact zs_mixed hL _ _ h (by omega)
    simp only [f_X11_digestOfTexts_b5.eq_2, f_X12_digest_b113.eq_2, zo_0 hL, zo_1 hL, zo_12 hL, zo_108 hL, h3, Option.bind_some, hn, hn', if_true, e2, e, zg_5 hL hi6, e0, e4, ← nI_succ]
    exact ih (i + 1) g _ (by omega) (by omega)
theorem zq_dgm {M : q_Mem} (hi : z_Inv M) (kC kM : Int64 → Int32 → Option Int64) {i : Nat} (hj : i < z_m (q_I M 109) 6) : ∀ (d k fu : Nat) (h : Int64), k + d = 5 → d < fu → ∃ r, f_X11_digest_b168 kC M 0 (nI i) fu h (nI k) = kC r (nI (i + 1)) ∧ f_X12_digest_b169 kM M 108 (nI i) fu h (nI k) = kM r (nI (i + 1)) := by
  have hL := hi.1
  intro d
  induction d with
  | zero =>
    intro k fu h hd hf
    obtain ⟨g, rfl⟩ : ∃ g, fu = g + 1 := ⟨fu - 1, by omega⟩
    obtain rfl : k = 5 := by omega
    simp only [f_X11_digest_b168.eq_2, f_X12_digest_b169.eq_2, show ((4 : Int32) < nI 5) = True by decide, show (nI 5 < (5 : Int32)) = False by decide, if_true, if_false, ← nI_succ]
    exact ⟨h, rfl, rfl⟩
  | succ d ih =>
    intro k fu h hd hf
    obtain ⟨g, rfl⟩ : ∃ g, fu = g + 1 := ⟨fu - 1, by omega⟩
    have hn : ((4 : Int32) < nI k) = False := eq_false (nI_nlt (a := 4) (b := k) (by omega) (by omega))
    have hn' : (nI k < (5 : Int32)) = True := eq_true (nI_lt (b := 5) (by omega) (by omega))
    have hv : (0 : Int32).toInt ≤ (nI k).toInt ∧ (nI k).toInt ≤ (4 : Int32).toInt := by
      have e0 : (0 : Int32).toInt = 0 := rfl
      have e9 : (4 : Int32).toInt = 4 := rfl
      rw [nI_toInt (by omega), e0, e9]; omega
    obtain ⟨v, v1, v2⟩ := zs_tellOf hi hL rfl hj hv
    simp only [f_X11_digest_b168.eq_2, f_X12_digest_b169.eq_2, zo_0 hL, Option.bind_some, hn, hn', if_true, if_false, v1, v2, ← nI_succ]
    exact ih (k + 1) g _ (by omega) (by omega)
theorem zq_dgM {M : q_Mem} (hi : z_Inv M) : ∀ (d i fu : Nat) (h : Int64), i + d = z_m (q_I M 109) 6 → d < fu → ∃ r, f_X11_digest_b151 M 0 fu h (nI i) = some r ∧ f_X12_digest_b156 M 108 fu h (nI i) = some r := by
  have hL := hi.1
  obtain ⟨R, h3, hm, hcn⟩ := zt_6 hi
  intro d
  induction d with
  | zero =>
    intro i fu h hd hf
    obtain ⟨g, rfl⟩ : ∃ g, fu = g + 1 := ⟨fu - 1, by omega⟩
    obtain rfl : i = z_m (q_I M 109) 6 := by omega
    have hn : (nI (z_m (q_I M 109) 6) < nI (z_m (q_I M 109) 6)) = False := eq_false (nI_nlt (Nat.le_refl _) (by omega))
    simp only [f_X11_digest_b151.eq_2, f_X12_digest_b156.eq_2, zo_0 hL, zo_1 hL, zo_14 hL, h3, zo_108 hL, zl_ hL, hcn, Option.bind_some, hn, if_false]
    exact ⟨h, rfl, rfl⟩
  | succ d ih =>
    intro i fu h hd hf
    obtain ⟨g, rfl⟩ : ∃ g, fu = g + 1 := ⟨fu - 1, by omega⟩
    have hj : i < z_m (q_I M 109) 6 := by omega
    have hn : (nI i < nI (z_m (q_I M 109) 6)) = True := eq_true (nI_lt hj (by omega))
    obtain ⟨r, r1, r2⟩ := zq_dgm hi (f_X11_digest_b151 M 0 g) (f_X12_digest_b156 M 108 g) hj 5 0 q_fuel h (by omega) (by unfold q_fuel; omega)
    have r1' : f_X11_digest_b168 (f_X11_digest_b151 M 0 g) M 0 (nI i) q_fuel h (0 : Int32) = _ := r1
    have r2' : f_X12_digest_b169 (f_X12_digest_b156 M 108 g) M 108 (nI i) q_fuel h (0 : Int32) = _ := r2
    simp only [f_X11_digest_b151.eq_2, f_X12_digest_b156.eq_2, zo_0 hL, zo_1 hL, zo_14 hL, h3, zo_108 hL, zl_ hL, hcn, Option.bind_some, hn, if_true, r1', r2']
    exact ih (i + 1) g _ (by omega) (by omega)
theorem Z_digest_ok : Z_digest := by
  intro M hi
  have hL := hi.1
  obtain ⟨R0, h30, hm0, hcn0⟩ := zt_0 hi
  obtain ⟨R1, h31, hm1, hcn1⟩ := zt_1 hi
  obtain ⟨R2, h32, hm2, hcn2⟩ := zt_2 hi
  obtain ⟨R3, h33, hm3, hcn3⟩ := zt_3 hi
  obtain ⟨R4, h34, hm4, hcn4⟩ := zt_4 hi
  obtain ⟨R6, h36, hm6, hcn6⟩ := zt_6 hi
  have F : ∀ n, n ≤ 300 → n < q_fuel := fun n h => z_fu h
  have d0 : ∀ h, f_X9_digestOn M 2 h = some (z_mix (fun j => q_I M 109 (20 + j)) (4 * z_m (q_I M 109) 0) h) := fun h => (zs_dg R0 h30 hm0 h (F _ (by omega)) (F _ (by omega))).trans (congrArg some (z_dgT hi (t := 0) (by decide) h))
  have d1 : ∀ h, f_X9_digestOn M 4 h = some (z_mix (fun j => q_I M 109 (100 + j)) (4 * z_m (q_I M 109) 1) h) := fun h => (zs_dg R1 h31 hm1 h (F _ (by omega)) (F _ (by omega))).trans (congrArg some (z_dgT hi (t := 1) (by decide) h))
  have d2 : ∀ h, f_X9_digestOn M 6 h = some (z_mix (fun j => q_I M 109 (1300 + j)) (7 * z_m (q_I M 109) 2) h) := fun h => (zs_dg R2 h32 hm2 h (F _ (by omega)) (F _ (by omega))).trans (congrArg some (z_dgT hi (t := 2) (by decide) h))
  have d3 : ∀ h, f_X9_digestOn M 8 h = some (z_mix (fun j => q_I M 109 (2700 + j)) (3 * z_m (q_I M 109) 3) h) := fun h => (zs_dg R3 h33 hm3 h (F _ (by omega)) (F _ (by omega))).trans (congrArg some (z_dgT hi (t := 3) (by decide) h))
  have d4 : ∀ h, f_X9_digestOn M 10 h = some (z_mix (fun j => q_I M 109 (2820 + j)) (5 * z_m (q_I M 109) 4) h) := fun h => (zs_dg R4 h34 hm4 h (F _ (by omega)) (F _ (by omega))).trans (congrArg some (z_dgT hi (t := 4) (by decide) h))
  have m0 : ∀ h, f_X12_mixed M 108 h (20 : Int32) ((4 : Int32) * nI (z_m (q_I M 109) 0)) = some (z_mix (fun j => q_I M 109 (20 + j)) (4 * z_m (q_I M 109) 0) h) := fun h => zs_mixedR hL 20 4 _ h (by omega)
  have m1 : ∀ h, f_X12_mixed M 108 h (100 : Int32) ((4 : Int32) * nI (z_m (q_I M 109) 1)) = some (z_mix (fun j => q_I M 109 (100 + j)) (4 * z_m (q_I M 109) 1) h) := fun h => zs_mixedR hL 100 4 _ h (by omega)
  have m2 : ∀ h, f_X12_mixed M 108 h (1300 : Int32) ((7 : Int32) * nI (z_m (q_I M 109) 2)) = some (z_mix (fun j => q_I M 109 (1300 + j)) (7 * z_m (q_I M 109) 2) h) := fun h => zs_mixedR hL 1300 7 _ h (by omega)
  have m3 : ∀ h, f_X12_mixed M 108 h (2700 : Int32) ((3 : Int32) * nI (z_m (q_I M 109) 3)) = some (z_mix (fun j => q_I M 109 (2700 + j)) (3 * z_m (q_I M 109) 3) h) := fun h => zs_mixedR hL 2700 3 _ h (by omega)
  have m4 : ∀ h, f_X12_mixed M 108 h (2820 : Int32) ((5 : Int32) * nI (z_m (q_I M 109) 4)) = some (z_mix (fun j => q_I M 109 (2820 + j)) (5 * z_m (q_I M 109) 4) h) := fun h => zs_mixedR hL 2820 5 _ h (by omega)
  have mA : ∀ h, f_X12_mixed M 108 h (0 : Int32) (10 : Int32) = some (z_mix (fun j => q_I M 109 (0 + j)) 10 h) := fun h => zs_mixed hL 0 10 h (by omega)
  have mB : ∀ h, f_X12_mixed M 108 h (13 : Int32) (4 : Int32) = some (z_mix (fun j => q_I M 109 (13 + j)) 4 h) := fun h => zs_mixed hL 13 4 h (by omega)
  have mC : ∀ h, f_X12_mixed M 108 h (10 : Int32) (1 : Int32) = some ((31 : Int64) * h + (q_I M 109 10).toInt64) := fun h => zs_mixed hL 10 1 h (by omega)
  have eP : q_I M 1 13 = q_I M 109 10 := hi.2.2.2.2.1.2.1.2.1.1
  have c6 : f_X11_digest_b6 M 0 q_fuel (281 : Int64) (0 : Int32) = _ := zq_dg6 hi 10 0 q_fuel (by omega) (by unfold q_fuel; omega)
  have c69 : ∀ h, f_X11_digest_b69 M 0 q_fuel h (0 : Int32) = f_X11_digest_b104 M 0 (z_mix (fun j => q_I M 109 (13 + j)) 4 h) := fun h => zq_dg69 hi h 4 0 q_fuel (by omega) (by unfold q_fuel; omega)
  have cT : ∀ h, ∃ r, f_X11_digestOfTexts M 0 h = some r ∧ f_X12_digest_b113 M 108 q_fuel h (0 : Int32) = f_X12_digest_b156 M 108 q_fuel r (0 : Int32) := fun h => by
    obtain ⟨r, r1, r2⟩ := zq_dgT hi 6 0 q_fuel h (by omega) (by unfold q_fuel; omega)
    refine ⟨r, ?_, r2⟩
    unfold f_X11_digestOfTexts
    rw [zob_0 hL]; exact r1
  simp only [f_X11_digest, f_X12_digest, zob_0 hL, zob_108 hL, c6, f_X11_digest_b31, f_X11_digest_b104, zo_0 hL, zo_1 hL, zo_108 hL, zl_ hL, hcn0, hcn1, hcn2, hcn3, hcn4, Option.bind_some, d0, d1, d2, d3, d4, m0, m1, m2, m3, m4, mA, mB, mC, c69, eP]
  obtain ⟨r, r1, r2⟩ := cT (z_mix (fun j => q_I M 109 (2820 + j)) (5 * z_m (q_I M 109) 4) (z_mix (fun j => q_I M 109 (2700 + j)) (3 * z_m (q_I M 109) 3) ((31 : Int64) * z_mix (fun j => q_I M 109 (13 + j)) 4 (z_mix (fun j => q_I M 109 (1300 + j)) (7 * z_m (q_I M 109) 2) (z_mix (fun j => q_I M 109 (100 + j)) (4 * z_m (q_I M 109) 1) (z_mix (fun j => q_I M 109 (20 + j)) (4 * z_m (q_I M 109) 0) (z_mix (fun j => q_I M 109 (0 + j)) 10 281)))) + (q_I M 109 10).toInt64)))
  simp only [r1, r2, Option.bind_some]
  obtain ⟨v, v1, v2⟩ := zq_dgM hi (z_m (q_I M 109) 6) 0 q_fuel r (by omega) (F _ (by omega))
  exact ⟨v, v1, v2, hi⟩
