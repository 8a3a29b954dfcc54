/-! ===== the reader reads ===== -/
def z_M9 : q_Mem := (0, fun _ => (0, 0), fun _ _ => none, fun _ _ => 0, fun _ _ => 0)
theorem z_nm9 : ∀ x, x < 128 → f_X8_nameOf z_M9 (nI x) = some (if z_nmOf x < 8 then nI (z_nmOf x) else -1) := by decide +kernel
theorem zk_nameOf {M : q_Mem} {x : Nat} (h : x < 128) : f_X8_nameOf M (nI x) = some (if z_nmOf x < 8 then nI (z_nmOf x) else -1) := z_nm9 x h
theorem z_dg9 : ∀ x, x < 128 → f_X8_isDigit z_M9 (nI x) = some (q_b (48 ≤ x ∧ x ≤ 57)) := by decide +kernel
theorem zk_isDigit {M : q_Mem} {x : Nat} (h : x < 128) : f_X8_isDigit M (nI x) = some (q_b (48 ≤ x ∧ x ≤ 57)) := z_dg9 x h
def z_kp (Mb M0 : q_Mem) : Prop := z_FR Mb M0 ∧ (∀ a, a ≠ 81 → q_I M0 a = q_I Mb a) ∧ (∀ f, f ≠ 8 → f ≠ 10 → f ≠ 11 → ¬ z_rf f → q_I M0 81 f = q_I Mb 81 f) ∧ q_J M0 = q_J Mb
theorem z_kp.set {Mb M0 : q_Mem} {f : Nat} {v : Int32} (h : z_kp Mb M0) (hf : f = 8 ∨ f = 10 ∨ f = 11) : z_kp Mb (q_sI M0 81 f v) := by
  refine ⟨⟨h.1.1, h.1.2.1, h.1.2.2⟩, fun a ha => by rw [q_sI_ne ha]; exact h.2.1 a ha, fun g h1 h2 h3 h4 => ?_, h.2.2.2⟩
  rw [z_I_sI, if_neg (by omega)]
  exact h.2.2.1 g h1 h2 h3 h4
/-- the reader has a text before it: len signs c, names ν -/
def z_tx0 (ν : Nat → Int64) (Mb : q_Mem) (len : Nat) (c : Nat → Nat) : Prop := z_Lay Mb ∧ len ≤ 60 ∧ q_I Mb 81 1 = nI len ∧ (∀ j, j < len → q_I Mb 82 j = nI (c j) ∧ c j < 128) ∧ ∀ k, k < 8 → q_J Mb 83 k = ν k
section ZT
variable {ν : Nat → Int64} {Mb M0 M : q_Mem} {len : Nat} {c : Nat → Nat} {vs : List Int64} {ms : List (Int32 × Int32)} {nn : Nat} {no : Int32}
theorem zk_len (hT : z_tx0 ν Mb len c) (hk : z_kp Mb M0) (h : z_RS M0 M vs ms nn no) : q_I M 81 1 = nI len := by
  rw [h.2.2.1 1 (by unfold z_rf; omega), hk.2.2.1 1 (by decide) (by decide) (by decide) (by unfold z_rf; omega)]
  exact hT.2.2.1
theorem zk_signAt (hT : z_tx0 ν Mb len c) (hk : z_kp Mb M0) (h : z_RS M0 M vs ms nn no) {i : Nat} (hi : i < len) : f_X8_signAt M 81 (nI i) = some (nI (c i)) := by
  have hM := h.lay (hk.1.lay hT.1)
  have h60 := hT.2.1
  have e82 : q_I M 82 i = nI (c i) := by
    rw [h.2.1 82 (by decide) (by decide) (by decide), hk.2.1 82 (by decide)]
    exact (hT.2.2.2.1 i hi).1
  have c0 : (nI i < 0) = False := eq_false (nI_pos (by omega))
  have c1 : (nI i < nI len) = True := eq_true (nI_lt hi (by omega))
  have c2 : (nI i < nI 60) = True := eq_true (nI_lt (by omega) (by omega))
  simp only [f_X8_signAt, zob_81 hM, zo_81 hM, c0, if_false, zk_len hT hk h, Option.bind_some, c1, if_true, (za_82 hM).1, c2, (za_82 hM).2.1 i (by omega), e82]
theorem zk_name (hT : z_tx0 ν Mb len c) (hk : z_kp Mb M0) (h : z_RS M0 M vs ms nn no) {k : Nat} (hi : k < 8) : q_lJ M 83 (nI k) = some (ν k) := by
  have hM := h.lay (hk.1.lay hT.1)
  rw [(za_83 hM).2.1 k hi, h.2.2.2.1 83 (by decide), hk.2.2.2, hT.2.2.2.2 k hi]
/-- where reading ends with a fault -/
theorem zk_stop {i k : Nat} (hL : z_Lay M0) (h : z_RS M0 M vs ms nn no) : f_X8_stop M 81 (nI i) (nI k) = some (q_sI M 81 11 (nI (10 * i + k))) := by
  have hM := h.lay hL
  have e : (10 : Int32) * nI i + nI k = nI (10 * i + k) := by rw [show (10 : Int32) = nI 10 from rfl, pk_mul, nI_add]
  simp only [f_X8_stop, zob_81 hM, zo_81 hM, Option.bind_some, e]
def z_fin (Mb M' : q_Mem) : Prop := z_FR Mb M' ∧ (∀ a, a ≠ 81 → a ≠ 85 → a ≠ 86 → q_I M' a = q_I Mb a) ∧ q_I M' 81 1 = q_I Mb 81 1 ∧ ∀ a, a ≠ 81 → a ≠ 84 → q_J M' a = q_J Mb a
theorem z_fin_of (hk : z_kp Mb M0) (h : z_RS M0 M vs ms nn no) : z_fin Mb M := by
  refine ⟨hk.1.tr h.1, fun a h1 h2 h3 => (h.2.1 a h1 h2 h3).trans (hk.2.1 a h1), ?_, fun a h1 h2 => ?_⟩
  · rw [h.2.2.1 1 (by unfold z_rf; omega), hk.2.2.1 1 (by decide) (by decide) (by decide) (by unfold z_rf; omega)]
  · rw [h.2.2.2.1 a h2, hk.2.2.2]
theorem zk_done {v nx i : Int32} {fu : Nat} (hL : z_Lay M) (hv : q_I M 81 11 = v) (hn : v ≠ -1) : f_X8_read_b44 81 (fu + 1) nx i M = some (v, M) := by
  have n : (v = -1) = False := eq_false hn
  simp only [f_X8_read_b44.eq_2, f_X8_read_b172, zo_81 hL, Option.bind_some, hv, n, if_false, ite_self]
theorem z_nI_ne {k : Nat} (h : k < 1000000) : nI k ≠ (-1 : Int32) := fun z => by
  have z2 := congrArg Int32.toInt z
  rw [nI_toInt (by omega)] at z2
  have e1 : (-1 : Int32).toInt = -1 := rfl
  omega
theorem zk_fault {i k : Nat} {nx j : Int32} {fu : Nat} (hk : z_kp Mb M0) (hb : z_Lay Mb) (h : z_RS M0 M vs ms nn no) (h2 : 10 * i + k < 1000000) : f_X8_read_b44 81 (fu + 1) nx j (q_sI M 81 11 (nI (10 * i + k))) = some (nI (10 * i + k), q_sI M 81 11 (nI (10 * i + k))) ∧ z_fin Mb (q_sI M 81 11 (nI (10 * i + k))) := by
  have hM := h.lay (hk.1.lay hb)
  refine ⟨zk_done (z_L1 hM) (by rw [z_I_sI, if_pos ⟨rfl, rfl⟩]) (z_nI_ne h2), ?_⟩
  exact z_fin_of (hk.set (f := 11) (Or.inr (Or.inr rfl))) (h.fld (f := 11) (by unfold z_rf; omega))
/-- no numbers' signs are read twice -/
theorem zk_skip (hT : z_tx0 ν Mb len c) (hk : z_kp Mb M0) (h : z_RS M0 M vs ms nn no) (hf : q_I M0 81 11 = -1) {e : Nat} (he : e ≤ len) : ∀ (d i fu : Nat), i + d = e → d < fu → f_X8_read_b44 81 fu (nI e) (nI i) M = f_X8_read_b44 81 (fu - d) (nI e) (nI e) M := by
  have hM := h.lay (hk.1.lay hT.1)
  have h60 := hT.2.1
  have f11 : q_I M 81 11 = -1 := by rw [h.2.2.1 11 (by unfold z_rf; omega)]; exact hf
  intro d
  induction d with
  | zero =>
    intro i fu hd hfu
    obtain rfl : i = e := by omega
    rfl
  | succ d ih =>
    intro i fu hd hfu
    obtain ⟨g, rfl⟩ : ∃ g, fu = g + 1 := ⟨fu - 1, by omega⟩
    have c1 : (nI i < nI len) = True := eq_true (nI_lt (by omega) (by omega))
    have c2 : (nI i < nI e) = True := eq_true (nI_lt (by omega) (by omega))
    simp only [f_X8_read_b44.eq_2, zo_81 hM, zk_len hT hk h, Option.bind_some, c1, if_true, f11, zk_signAt hT hk h (show i < len by omega), c2, ← nI_succ]
    rw [ih (i + 1) g (by omega) (by omega), show g + 1 - (d + 1) = g - d by omega]
theorem z_nd_le (len : Nat) (c : Nat → Nat) : ∀ (n i v : Nat), i ≤ len → i ≤ (z_nd c len n i v).1 ∧ (z_nd c len n i v).1 ≤ len
  | 0, i, v, h => ⟨Nat.le_refl _, h⟩
  | n + 1, i, v, h => by
    unfold z_nd
    split
    · have := z_nd_le len c n (i + 1) (10 * v + (c i - 48)) (by omega)
      omega
    · exact ⟨Nat.le_refl _, h⟩
theorem z_nd_lt {len : Nat} {c : Nat → Nat} {n i v : Nat} (h : i < len) (hc : 48 ≤ c i ∧ c i ≤ 57) : i < (z_nd c len (n + 1) i v).1 := by
  unfold z_nd
  rw [if_pos ⟨h, hc⟩]
  exact (z_nd_le len c n (i + 1) _ (by omega)).1
theorem z_i64 {v x : Nat} (hx : x < 200) (h : 48 ≤ x) : ((10 : Int64) * Int64.ofNat v + (nI x).toInt64) - (48 : Int64) = Int64.ofNat (10 * v + (x - 48)) := by
  have e1 : (nI x).toInt64 = Int64.ofNat x := by
    apply Int64.toInt_inj.mp
    rw [Int32.toInt_toInt64, nI_toInt (by omega), Int64.toInt_ofNat_of_lt (by omega)]
  rw [e1, show (10 : Int64) = Int64.ofNat 10 from rfl, ← Int64.ofNat_mul, ← Int64.ofNat_add]
  rw [show 10 * v + x = (10 * v + (x - 48)) + 48 by omega, Int64.ofNat_add, show (48 : Int64) = Int64.ofNat 48 from rfl, Int64.add_sub_cancel]
theorem zk_number (hT : z_tx0 ν Mb len c) (hk : z_kp Mb M0) (h : z_RS M0 M vs ms nn no) (i : Nat) : ∀ (n j v fu : Nat), j ≤ len → len ≤ j + n → n < fu → f_X8_readNumber_b8 M 81 (nI i) fu (Int64.ofNat v) (nI j) (nI j) = f_X8_readNumber_b59 M 81 (nI i) (Int64.ofNat (z_nd c len n j v).2) (nI (z_nd c len n j v).1) := by
  have hM := h.lay (hk.1.lay hT.1)
  have h60 := hT.2.1
  intro n
  induction n with
  | zero =>
    intro j v fu hjl hj hf
    obtain ⟨g, rfl⟩ : ∃ g, fu = g + 1 := ⟨fu - 1, by omega⟩
    have c1 : (nI j < nI len) = False := eq_false (nI_nlt (by omega) (by omega))
    simp only [f_X8_readNumber_b8.eq_2, zo_81 hM, zk_len hT hk h, Option.bind_some, c1, if_false]
    rfl
  | succ n ih =>
    intro j v fu hjl hj hf
    obtain ⟨g, rfl⟩ : ∃ g, fu = g + 1 := ⟨fu - 1, by omega⟩
    by_cases c1 : j < len
    · have c2 : (nI j < nI len) = True := eq_true (nI_lt c1 (by omega))
      have hc := (hT.2.2.2.1 j c1).2
      by_cases c3 : 48 ≤ c j ∧ c j ≤ 57
      · have e : z_nd c len (n + 1) j v = z_nd c len n (j + 1) (10 * v + (c j - 48)) := if_pos ⟨c1, c3⟩
        rw [e, ← ih (j + 1) (10 * v + (c j - 48)) g (by omega) (by omega) (by omega)]
        have q : (q_b (48 ≤ c j ∧ c j ≤ 57) = 0) = False := eq_false (fun z => (q_b0.mp z) c3)
        simp only [f_X8_readNumber_b8.eq_2, zo_81 hM, zk_len hT hk h, Option.bind_some, c2, if_true, zk_signAt hT hk h c1, zk_isDigit hc, q, if_false, z_i64 (show c j < 200 by omega) c3.1, ← nI_succ]
      · have e : z_nd c len (n + 1) j v = (j, v) := if_neg (fun z => c3 z.2)
        rw [e]
        have q : (q_b (48 ≤ c j ∧ c j ≤ 57) = 0) = True := eq_true (q_b0.mpr c3)
        simp only [f_X8_readNumber_b8.eq_2, zo_81 hM, zk_len hT hk h, Option.bind_some, c2, if_true, zk_signAt hT hk h c1, zk_isDigit hc, q]
    · have c2 : (nI j < nI len) = False := eq_false (nI_nlt (by omega) (by omega))
      have e : z_nd c len (n + 1) j v = (j, v) := if_neg (fun z => c1 z.1)
      rw [e]
      simp only [f_X8_readNumber_b8.eq_2, zo_81 hM, zk_len hT hk h, Option.bind_some, c2, if_false]
end ZT
theorem z_subN {a b : Nat} (h : a ≤ b) (hb : b < 1000) : nI b - nI a = nI (b - a) := by
  apply Int32.toInt_inj.mp
  rw [Int32.toInt_sub, nI_toInt (by omega), nI_toInt (by omega), nI_toInt (by omega), Int.bmod_eq_of_le_mul_two] <;> omega
theorem z_CU_of {ν : Nat → Int64} {M0 M : q_Mem} {fr : List z_Fr} {s : z_Sem} (hs : (s ν).2 = false) (h : z_CR ν M0 M fr) : z_CU ν M0 M fr s := by
  unfold z_CU
  rw [hs, ite_self, Bool.or_false]
  exact h
section ZV
variable {ν : Nat → Int64} {Mb M0 M : q_Mem} {len : Nat} {c : Nat → Nat} {fr : List z_Fr} {s : z_Sem}
theorem z_flen {vs : List Int64} {nn : Nat} {no : Int32} (h : z_RS M0 M vs (z_ms ν fr) nn no) : fr.length ≤ 60 := by
  have := h.2.2.2.2.2.2.2.2.1
  rw [z_ms_len] at this
  exact this
/-- a mark without a value -/
theorem zs_mark {k : Nat} (hL : z_Lay M0) (hk : k = 33 ∨ k = 128 ∨ k = 40) (h : z_CR ν M0 M fr) (hl : fr.length < 60) : ∃ M', f_X8_pushMark M 81 (nI k) (0 : Int32) = some M' ∧ z_CR ν M0 M' ((k, z_no2, z_no2) :: fr) := by
  obtain ⟨M', p, h'⟩ := zk_pushMark (nI k) 0 hL h (by rw [z_ms_len]; exact hl) (Or.inl rfl)
  obtain ⟨u1, u2, u3, u4⟩ := z_nz_un (ν := ν) (f := (k, z_no2, z_no2)) (t := fr) hk rfl
  refine ⟨M', p, ?_⟩
  unfold z_CR
  rw [u1, u2, u3, show z_ms ν ((k, z_no2, z_no2) :: fr) = (nI k, z_bi (z_zd ν (k, z_no2, z_no2))) :: z_ms ν fr from rfl, u4]
  rw [if_pos rfl, Nat.zero_add] at h'
  exact h'
theorem zs_join {k : Nat} (hL : z_Lay M0) (hk : 0 < z_rk k) (h : z_CT ν M0 M fr s) (hl : fr.length < 60) : ∃ M', f_X8_readJoin_b52 M 81 (nI k) = some (q_sI M' 81 10 1) ∧ z_CR ν (q_sI M0 81 10 1) (q_sI M' 81 10 1) ((k, s, z_no2) :: fr) := by
  have hM := h.lay hL
  have h63 : k ≠ 63 := fun z => by rw [z] at hk; exact absurd hk (by decide)
  have h58 : k ≠ 58 := fun z => by rw [z] at hk; exact absurd hk (by decide)
  obtain ⟨M', p, h'⟩ := zk_pushMark (nI k) (z_bi (z_dc k (s ν).1)) hL h (by rw [z_ms_len]; exact hl) (z_bi01 _)
  have hM' := h'.lay hL
  have tv : f_X8_topValue M 81 = some (s ν).1 := zk_topValue hL h
  have ek : k < 200 := by
    rcases z_rk_pos hk with z | z | z | z | z | z | z | z | z <;> omega
  have q124 : (nI k = (124 : Int32)) = (k = 124) := z_nI_in (b := 124) ek (by decide)
  have q38 : (nI k = (38 : Int32)) = (k = 38) := z_nI_in (b := 38) ek (by decide)
  refine ⟨M', ?_, ?_⟩
  · have e87 : f_X8_readJoin_b87 M 81 (nI k) (z_bi (z_dc k (s ν).1)) = some (q_sI M' 81 10 1) := by
      simp only [f_X8_readJoin_b87, p, Option.bind_some, zo_81 hM', or_true, if_true]
    by_cases c1 : k = 124
    · by_cases c2 : (s ν).1 = 0
      · have ed : z_dc k (s ν).1 = false := by unfold z_dc; rw [if_pos c1, if_pos c2]
        rw [ed] at e87
        have c3 : (k = 38) = False := eq_false (by omega)
        simp only [f_X8_readJoin_b52, f_X8_readJoin_b67, q124, q38, c1, if_true, tv, Option.bind_some, c2, show ((124 : Nat) = 38) = False by decide, if_false] at e87 ⊢
        exact e87
      · have ed : z_dc k (s ν).1 = true := by unfold z_dc; rw [if_pos c1, if_neg c2]
        rw [ed] at e87
        simp only [f_X8_readJoin_b52, q124, c1, if_true, tv, Option.bind_some, c2, if_false] at e87 ⊢
        exact e87
    · by_cases c2 : k = 38
      · by_cases c3 : (s ν).1 = 0
        · have ed : z_dc k (s ν).1 = true := by unfold z_dc; rw [if_neg c1, if_pos c2, if_pos c3]
          rw [ed] at e87
          simp only [f_X8_readJoin_b52, f_X8_readJoin_b67, q124, q38, c2, show ((38 : Nat) = 124) = False by decide, if_true, if_false, tv, Option.bind_some, c3] at e87 ⊢
          exact e87
        · have ed : z_dc k (s ν).1 = false := by unfold z_dc; rw [if_neg c1, if_pos c2, if_neg c3]
          rw [ed] at e87
          simp only [f_X8_readJoin_b52, f_X8_readJoin_b67, q124, q38, c2, show ((38 : Nat) = 124) = False by decide, if_true, if_false, tv, Option.bind_some, c3] at e87 ⊢
          exact e87
      · have ed : z_dc k (s ν).1 = false := by unfold z_dc; rw [if_neg c1, if_neg c2]
        rw [ed] at e87
        simp only [f_X8_readJoin_b52, f_X8_readJoin_b67, q124, q38, c1, c2, if_false]
        exact e87
  · have key : z_CR ν M0 M' ((k, s, z_no2) :: fr) := by
      have e1 : z_vs ν ((k, s, z_no2) :: fr) = (s ν).1 :: z_vs ν fr := by
        show z_fv ν (k, s, z_no2) ++ z_vs ν fr = _
        unfold z_fv
        rw [if_pos hk]; rfl
      have e2 : z_zd ν (k, s, z_no2) = z_dc k (s ν).1 := by unfold z_zd; rw [if_neg h63, if_neg h58]
      have e3 : z_fn ν (k, s, z_no2) = (s ν).2 := by unfold z_fn; rw [if_neg h58, Bool.or_false]
      unfold z_CR
      rw [e1, show z_ms ν ((k, s, z_no2) :: fr) = (nI k, z_bi (z_zd ν (k, s, z_no2))) :: z_ms ν fr from rfl, show z_nn ν ((k, s, z_no2) :: fr) = (if z_bi (z_zd ν (k, s, z_no2)) = 0 then 0 else 1) + z_nn ν fr from rfl, show z_nz ν ((k, s, z_no2) :: fr) = (z_nz ν fr || (if z_nn ν fr = 0 then z_fn ν (k, s, z_no2) else false)) from rfl, e2, e3]
      exact h'
    exact key.fld (f := 10) (v := 1) (by unfold z_rf; omega)
theorem zs_question (hL : z_Lay M0) (hk : z_kk fr) (h : z_CT ν M0 M fr s) (hl : z_wt fr < 60) : ∃ M', f_X8_readQuestion M 81 = some M' ∧ z_CR ν (q_sI M0 81 10 1) M' ((63, (z_gS 1 fr s).2, z_no2) :: (z_gS 1 fr s).1) := by
  have hM := h.lay hL
  obtain ⟨M1, p1, h1⟩ := zs_settle hL (r := 1) (by decide) (by decide) hk h
  have p1' : f_X8_settle M 81 (1 : Int32) = some M1 := p1
  obtain ⟨M2, p2, h2⟩ := zk_popValue hL h1
  have hl1 : (z_gS 1 fr s).1.length < 60 := by
    have h3 := z_gS_wt 1 fr s
    have h4 := z_room ν (z_gS 1 fr s).1
    omega
  generalize (z_gS 1 fr s).1 = f1 at *
  generalize (z_gS 1 fr s).2 = s1 at *
  obtain ⟨M3, p3, h3⟩ := zk_pushMark (63 : Int32) (z_bi (if (s1 ν).1 = 0 then true else false)) hL h2 (by rw [z_ms_len]; exact hl1) (z_bi01 _)
  have hM3 := h3.lay hL
  refine ⟨q_sI M3 81 10 1, ?_, ?_⟩
  · by_cases c : (s1 ν).1 = 0
    · rw [if_pos c] at p3
      have p3' : f_X8_pushMark M2 81 63 1 = some M3 := p3
      simp only [f_X8_readQuestion, zob_81 hM, p1', Option.bind_some, p2, c, if_true, p3', zo_81 hM3, or_true]
    · rw [if_neg c] at p3
      have p3' : f_X8_pushMark M2 81 63 0 = some M3 := p3
      simp only [f_X8_readQuestion, zob_81 hM, p1', Option.bind_some, p2, c, if_false, p3', zo_81 hM3, or_true, if_true]
  · have key : z_CR ν M0 M3 ((63, s1, z_no2) :: f1) := by
      have e3 : z_fn ν (63, s1, z_no2) = (s1 ν).2 := by
        show ((s1 ν).2 || false) = _
        rw [Bool.or_false]
      unfold z_CR
      rw [show z_vs ν ((63, s1, z_no2) :: f1) = z_vs ν f1 from rfl, show z_ms ν ((63, s1, z_no2) :: f1) = (nI 63, z_bi (if (s1 ν).1 = 0 then true else false)) :: z_ms ν f1 from rfl, show z_nn ν ((63, s1, z_no2) :: f1) = (if z_bi (if (s1 ν).1 = 0 then true else false) = 0 then 0 else 1) + z_nn ν f1 from rfl, show z_nz ν ((63, s1, z_no2) :: f1) = (z_nz ν f1 || (if z_nn ν f1 = 0 then z_fn ν (63, s1, z_no2) else false)) from rfl, e3]
      exact h3
    exact key.fld (f := 10) (v := 1) (by unfold z_rf; omega)
theorem z_tk_ne {fr : List z_Fr} {k : Nat} (h : z_tk fr = k) (hk : k ≠ 0) : ∃ a b t, fr = (k, a, b) :: t := by
  match fr, h with
  | [], h => exact absurd h.symm hk
  | (k', a, b) :: t, h => exact ⟨a, b, t, by rw [show k' = k from h]⟩
theorem zk_topT {vs : List Int64} {nn : Nat} {no : Int32} (hL : z_Lay M0) (h : z_RS M0 M vs (z_ms ν fr) nn no) : f_X8_topMark M 81 = some (nI (z_tk fr)) := by
  match fr, h with
  | [], h => exact zk_topMark0 hL h
  | f :: t, h => exact zk_topMark hL h
theorem z_kk_tk {fr : List z_Fr} (h : z_kk fr) : z_tk fr < 129 := by
  match fr, h with
  | [], _ => exact Nat.zero_lt_succ _
  | f :: t, h => exact h.1.1
theorem zs_else {i : Nat} (hL : z_Lay M0) (hk : z_kk fr) (h : z_CT ν M0 M fr s) (hl : z_wt fr < 60) :
    (z_tk (z_gE fr s).1 = 63 → ∃ M', f_X8_readElse M 81 (nI i) = some M' ∧ z_CR ν (q_sI M0 81 10 1) M' ((58, ((z_gE fr s).1.headD (0, z_no2, z_no2)).2.1, (z_gE fr s).2) :: (z_gE fr s).1.tail)) ∧
    (¬ z_tk (z_gE fr s).1 = 63 → ∃ M1, z_CT ν M0 M1 (z_gE fr s).1 (z_gE fr s).2 ∧ f_X8_readElse M 81 (nI i) = some (q_sI M1 81 11 (nI (10 * i + 1)))) := by
  have hM := h.lay hL
  obtain ⟨M1, p1, h1⟩ := zs_endChoices hL hk h
  have hkE := z_kk_gE fr s hk
  have hw := z_gE_wt fr s
  generalize (z_gE fr s).1 = f1 at *
  generalize (z_gE fr s).2 = s1 at *
  have tm := zk_topT hL h1
  have q63 : (nI (z_tk f1) = (63 : Int32)) = (z_tk f1 = 63) := z_nI_in (b := 63) (by have := z_kk_tk hkE; omega) (by decide)
  constructor
  · intro ht
    obtain ⟨a, b, t, rfl⟩ := z_tk_ne ht (by decide)
    obtain ⟨M2, p2, h2⟩ := zk_popMark hL h1 (z_bi01 _)
    have hlt : t.length < 60 := by
      have h4 := z_room ν ((63, a, b) :: t)
      rw [List.length_cons] at h4
      omega
    have ez : z_zd ν (63, a, b) = (if (a ν).1 = 0 then true else false) := rfl
    have nz : (z_nz ν ((63, a, b) :: t) || (if z_nn ν ((63, a, b) :: t) = 0 then (s1 ν).2 else false)) = z_nz ν ((58, a, s1) :: t) := by
      show ((z_nz ν t || (if z_nn ν t = 0 then ((a ν).2 || false) else false)) || (if (if z_bi (if (a ν).1 = 0 then true else false) = 0 then 0 else 1) + z_nn ν t = 0 then (s1 ν).2 else false)) = (z_nz ν t || (if z_nn ν t = 0 then ((a ν).2 || (if (a ν).1 = 0 then false else (s1 ν).2)) else false))
      generalize (a ν).2 = a2
      generalize (s1 ν).2 = s2
      generalize z_nz ν t = n
      by_cases c : z_nn ν t = 0
      · rw [c]
        by_cases c1 : (a ν).1 = 0
        · simp only [c1, if_true]
          cases a2 <;> cases s2 <;> cases n <;> decide
        · simp only [c1, if_true, if_false]
          cases a2 <;> cases s2 <;> cases n <;> decide
      · have c3 : ∀ m, (m + z_nn ν t = 0) = False := fun m => eq_false (by omega)
        simp only [c, c3, if_false, Bool.or_false]
    rw [nz] at h2
    have evs : z_vs ν ((63, a, b) :: t) = z_vs ν t := rfl
    rw [evs] at h2
    have q1 : (nI (z_tk ((63, a, b) :: t)) = (63 : Int32)) = True := by rw [q63]; exact eq_true ht
    by_cases d : (a ν).1 = 0
    · have ed : z_bi (z_zd ν (63, a, b)) = 1 := by rw [ez, if_pos d]; rfl
      obtain ⟨M3, p3, h3⟩ := zk_popValue hL h2
      obtain ⟨M4, p4, h4⟩ := zk_pushMark (58 : Int32) 0 hL h3 (by rw [z_ms_len]; exact hlt) (Or.inl rfl)
      have hM4 := h4.lay hL
      refine ⟨q_sI M4 81 10 1, ?_, ?_⟩
      · simp only [f_X8_readElse, f_X8_readElse_b34, zob_81 hM, p1, Option.bind_some, tm, q1, if_true, p2, ed, show ((1 : Int32) = 0) = False by decide, if_false, p3, p4, zo_81 hM4, or_true]
      · have key : z_CR ν M0 M4 ((58, a, s1) :: t) := by
          have e1 : z_vs ν ((58, a, s1) :: t) = z_vs ν t := by
            show z_fv ν (58, a, s1) ++ z_vs ν t = _
            have : z_fv ν (58, a, s1) = [] := by
              show (if (a ν).1 = 0 then [] else _) = _
              rw [if_pos d]
            rw [this]; rfl
          have e2 : z_zd ν (58, a, s1) = false := by
            show (if (a ν).1 = 0 then false else true) = _
            rw [if_pos d]
          unfold z_CR
          rw [e1, show z_ms ν ((58, a, s1) :: t) = (nI 58, z_bi (z_zd ν (58, a, s1))) :: z_ms ν t from rfl, show z_nn ν ((58, a, s1) :: t) = (if z_bi (z_zd ν (58, a, s1)) = 0 then 0 else 1) + z_nn ν t from rfl, e2]
          exact h4
        exact key.fld (f := 10) (v := 1) (by unfold z_rf; omega)
    · have ed : z_bi (z_zd ν (63, a, b)) = 0 := by rw [ez, if_neg d]; rfl
      obtain ⟨M4, p4, h4⟩ := zk_pushMark (58 : Int32) 1 hL h2 (by rw [z_ms_len]; exact hlt) (Or.inr rfl)
      have hM4 := h4.lay hL
      refine ⟨q_sI M4 81 10 1, ?_, ?_⟩
      · simp only [f_X8_readElse, f_X8_readElse_b34, zob_81 hM, p1, Option.bind_some, tm, q1, if_true, p2, ed, p4, zo_81 hM4, or_true]
      · have key : z_CR ν M0 M4 ((58, a, s1) :: t) := by
          have e1 : z_vs ν ((58, a, s1) :: t) = (s1 ν).1 :: z_vs ν t := by
            show z_fv ν (58, a, s1) ++ z_vs ν t = _
            have : z_fv ν (58, a, s1) = [(s1 ν).1] := by
              show (if (a ν).1 = 0 then [] else _) = _
              rw [if_neg d]
            rw [this]; rfl
          have e2 : z_zd ν (58, a, s1) = true := by
            show (if (a ν).1 = 0 then false else true) = _
            rw [if_neg d]
          unfold z_CR
          rw [e1, show z_ms ν ((58, a, s1) :: t) = (nI 58, z_bi (z_zd ν (58, a, s1))) :: z_ms ν t from rfl, show z_nn ν ((58, a, s1) :: t) = (if z_bi (z_zd ν (58, a, s1)) = 0 then 0 else 1) + z_nn ν t from rfl, e2]
          exact h4
        exact key.fld (f := 10) (v := 1) (by unfold z_rf; omega)
  · intro ht
    have q1 : (nI (z_tk f1) = (63 : Int32)) = False := by rw [q63]; exact eq_false ht
    refine ⟨M1, h1, ?_⟩
    have st : f_X8_stop M1 81 (nI i) (1 : Int32) = some (q_sI M1 81 11 (nI (10 * i + 1))) := zk_stop (k := 1) hL h1
    simp only [f_X8_readElse, zob_81 hM, p1, Option.bind_some, tm, q1, if_false, st]
theorem zs_close {i : Nat} (hL : z_Lay M0) (hk : z_kk fr) (h : z_CT ν M0 M fr s) (hl : z_wt fr < 60) (ho : q_I M0 81 8 = nI (z_opn fr)) (hoE : z_opn (z_gE fr s).1 = z_opn fr) :
    (z_tk (z_gE fr s).1 = 40 → ∃ M', f_X8_readClose M 81 (nI i) = some M' ∧ z_CT ν (q_sI (q_sI M0 81 8 (nI (z_opn (z_gE fr s).1.tail))) 81 10 0) M' (z_gU (z_gE fr s).1.tail (z_gE fr s).2).1 (z_gU (z_gE fr s).1.tail (z_gE fr s).2).2) ∧
    (¬ z_tk (z_gE fr s).1 = 40 → ∃ M1, z_CT ν M0 M1 (z_gE fr s).1 (z_gE fr s).2 ∧ f_X8_readClose M 81 (nI i) = some (q_sI M1 81 11 (nI (10 * i + 1)))) := by
  have hM := h.lay hL
  obtain ⟨M1, p1, h1⟩ := zs_endChoices hL hk h
  have hkE := z_kk_gE fr s hk
  have hw := z_gE_wt fr s
  generalize (z_gE fr s).1 = f1 at *
  generalize (z_gE fr s).2 = s1 at *
  have tm := zk_topT hL h1
  have q40 : (nI (z_tk f1) = (40 : Int32)) = (z_tk f1 = 40) := z_nI_in (b := 40) (by have := z_kk_tk hkE; omega) (by decide)
  constructor
  · intro ht
    obtain ⟨a, b, t, rfl⟩ := z_tk_ne ht (by decide)
    have ha : a = z_no2 := hkE.1.2.2 rfl (show (40 : Nat) ≠ 58 by decide) (show (40 : Nat) ≠ 63 by decide)
    obtain ⟨u1, u2, u3, u4⟩ := z_nz_un (ν := ν) (f := (40, a, b)) (t := t) (Or.inr (Or.inr rfl)) ha
    obtain ⟨M2, p2, h2⟩ := zk_popMark hL h1 (z_bi01 _)
    have hM2 := h2.lay hL
    have ho2 : q_I M2 81 8 = nI (z_opn t + 1) := by
      rw [h2.2.2.1 8 (by unfold z_rf; omega), ho, ← hoE]
      show nI (1 + z_opn t) = _
      rw [Nat.add_comm]
    have h3 := h2.fld (f := 8) (v := nI (z_opn t)) (by unfold z_rf; omega)
    obtain ⟨M4, p4, h4⟩ := zk_popValue (z_L1 hL) h3
    rw [u1, u2, u3] at h4
    have hv : (z_vs ν t).length < 60 := by
      have h5 := z_room ν ((40, a, b) :: t)
      rw [List.length_cons, u3] at h5
      omega
    obtain ⟨M5, p5, h5⟩ := zs_endUnit (z_L1 hL) hkE.2 h4 hv
    have q1 : (nI (z_tk ((40, a, b) :: t)) = (40 : Int32)) = True := by rw [q40]; exact eq_true ht
    refine ⟨M5, ?_, h5⟩
    simp only [f_X8_readClose, zob_81 hM, p1, Option.bind_some, tm, q1, if_true, p2, zo_81 hM2, ho2, nI_pred, p4, p5]
  · intro ht
    have q1 : (nI (z_tk f1) = (40 : Int32)) = False := by rw [q40]; exact eq_false ht
    refine ⟨M1, h1, ?_⟩
    have st : f_X8_stop M1 81 (nI i) (1 : Int32) = some (q_sI M1 81 11 (nI (10 * i + 1))) := zk_stop (k := 1) hL h1
    simp only [f_X8_readClose, zob_81 hM, p1, Option.bind_some, tm, q1, if_false, st]
theorem z_opn_gS (r : Nat) (hr : 0 < r) : ∀ (fr : List z_Fr) (s : z_Sem), z_opn (z_gS r fr s).1 = z_opn fr
  | [], s => rfl
  | f :: t, s => by
    unfold z_gS
    by_cases hc : z_rk f.1 < r
    · rw [if_pos hc]
    · rw [if_neg hc, z_opn_gS r hr t]
      show z_opn t = (if f.1 = 40 then 1 else 0) + z_opn t
      rw [if_neg, Nat.zero_add]
      intro z
      have : z_rk f.1 = 0 := by rw [z]; decide
      omega
theorem z_opn_gC : ∀ (fr : List z_Fr) (s : z_Sem), z_opn (z_gC fr s).1 = z_opn fr
  | [], s => rfl
  | f :: t, s => by
    unfold z_gC
    split
    · rw [z_opn_gC t]
      show z_opn t = (if f.1 = 40 then 1 else 0) + z_opn t
      rw [if_neg (by omega), Nat.zero_add]
    · rfl
theorem z_opn_gE (fr : List z_Fr) (s : z_Sem) : z_opn (z_gE fr s).1 = z_opn fr := (z_opn_gC _ _).trans (z_opn_gS 1 (by decide) _ _)
theorem z_opn_gU : ∀ (fr : List z_Fr) (s : z_Sem), z_opn (z_gU fr s).1 = z_opn fr
  | [], s => rfl
  | f :: t, s => by
    unfold z_gU
    split
    · rw [z_opn_gU t]
      show z_opn t = (if f.1 = 40 then 1 else 0) + z_opn t
      rw [if_neg (by omega), Nat.zero_add]
    · split
      · rw [z_opn_gU t]
        show z_opn t = (if f.1 = 40 then 1 else 0) + z_opn t
        rw [if_neg (by omega), Nat.zero_add]
      · rfl
end ZV
