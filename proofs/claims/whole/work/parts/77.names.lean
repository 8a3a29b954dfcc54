/-! ===== what texts may name: weights, fat and the rest, of all farms ===== -/
def z_rt (M : q_Mem) (dd : Int32) (k : Nat) : Int32 := (f_X12_rateOf M 108 (nI k) dd).getD 0
theorem zs_rt {M M1 : q_Mem} (hi : z_Inv M) (hL1 : z_Lay M1) (e9 : q_I M1 109 = q_I M 109) {k : Nat} (hk : k < z_m (q_I M 109) 2) (dd : Int32) : f_X12_rateOf M1 108 (nI k) dd = some (z_rt M dd k) ∧ f_X6_rateAsKnown M 78 (nI k) dd = some (z_rt M dd k) := by
  obtain ⟨r, r1, r2⟩ := zs_rate hi hL1 e9 hk dd
  obtain ⟨r', r1', r2'⟩ := zs_rate hi hi.1 rfl hk dd
  have e : r = r' := Option.some.inj (r1.symm.trans r1')
  have e2 : z_rt M dd k = r' := by unfold z_rt; rw [r2']; rfl
  rw [e2, ← e]
  exact ⟨r2, r1⟩
theorem zs_rtC {M M1 : q_Mem} (hi : z_Inv M) (hi1 : z_Inv M1) (e9 : q_I M1 109 = q_I M 109) {k : Nat} (hk : k < z_m (q_I M 109) 2) (dd : Int32) : f_X6_rateAsKnown M1 78 (nI k) dd = some (z_rt M dd k) := by
  obtain ⟨r, r1, r2⟩ := zs_rate hi1 hi.1 e9.symm (by rw [e9]; exact hk) dd
  rw [(zs_rt hi hi.1 rfl hk dd).1] at r2
  rw [r1, ← r2]
theorem zq_learn2 {M : q_Mem} (hi : z_Inv M) (dd : Int32) : ∀ (d i fu : Nat) (M1 : q_Mem), i + d = z_m (q_I M 109) 2 → d < fu → z_FR M M1 → (∀ a, a ≠ 79 → q_I M1 a = q_I M a) → q_J M1 = q_J M → (∀ k, k < i → q_I M1 79 k = z_rt M dd k) → ∃ M2, f_X6_learn_b2 78 dd fu (nI i) M1 = some M2 ∧ z_FR M M2 ∧ (∀ a, a ≠ 79 → q_I M2 a = q_I M a) ∧ q_J M2 = q_J M ∧ (∀ k, k < z_m (q_I M 109) 2 → q_I M2 79 k = z_rt M dd k) := by
  obtain ⟨R, h3, hm, hcn⟩ := zt_2 hi
  intro d
  induction d with
  | zero =>
    intro i fu M1 hd hf hF hI hJ hk
    obtain ⟨g, rfl⟩ : ∃ g, fu = g + 1 := ⟨fu - 1, by omega⟩
    obtain rfl : i = z_m (q_I M 109) 2 := by omega
    have hn : (nI (z_m (q_I M 109) 2) < nI (z_m (q_I M 109) 2)) = False := eq_false (nI_nlt (Nat.le_refl _) (by omega))
    have hL1 := hF.lay hi.1
    have h31 : q_I M1 6 3 = nI (z_m (q_I M 109) 2) := by rw [hI 6 (by decide)]; exact h3
    simp only [f_X6_learn_b2.eq_2, zo_78 hL1, zo_6 hL1, h31, Option.bind_some, hn, if_false]
    exact ⟨_, rfl, hF, hI, hJ, hk⟩
  | succ d ih =>
    intro i fu M1 hd hf hF hI hJ hk
    obtain ⟨g, rfl⟩ : ∃ g, fu = g + 1 := ⟨fu - 1, by omega⟩
    have hj : i < z_m (q_I M 109) 2 := by omega
    have hn : (nI i < nI (z_m (q_I M 109) 2)) = True := eq_true (nI_lt hj (by omega))
    have hn2 : (nI i < nI 200) = True := eq_true (nI_lt (by omega) (by decide))
    have hL1 := hF.lay hi.1
    have h31 : q_I M1 6 3 = nI (z_m (q_I M 109) 2) := by rw [hI 6 (by decide)]; exact h3
    have hs : z_sm M M1 := ⟨hF, fun a ha => hI a (fun z => by rw [z] at ha; exact z_nc79 ha)⟩
    have r1 := zs_rtC hi (hi.sm hs) (z_inv9 hs) hj dd
    simp only [f_X6_learn_b2.eq_2, zo_78 hL1, zo_6 hL1, h31, Option.bind_some, hn, hn2, if_true, za_79 hL1, r1, (za_79 hL1).2.2 i _ (show i < 200 by omega), ← nI_succ]
    refine ih _ _ _ (by omega) (by omega) (hF.tr ⟨rfl, rfl, rfl⟩) (fun a ha => by rw [q_sI_ne ha]; exact hI a ha) hJ (fun k hk2 => ?_)
    rw [z_I_sI]
    by_cases e : k = i
    · subst e
      rw [if_pos ⟨rfl, rfl⟩]
    · rw [if_neg (fun z => e z.2)]; exact hk k (by omega)
theorem zs_learn2 {M : q_Mem} (hi : z_Inv M) (dd : Int32) : ∃ M2, f_X6_learn M 78 dd = some M2 ∧ z_FR M M2 ∧ (∀ a, a ≠ 79 → q_I M2 a = q_I M a) ∧ q_J M2 = q_J M ∧ (∀ k, k < z_m (q_I M 109) 2 → q_I M2 79 k = z_rt M dd k) := by
  obtain ⟨R, h3, hm, hcn⟩ := zt_2 hi
  obtain ⟨M1, h1, h2⟩ := zq_learn2 hi dd (z_m (q_I M 109) 2) 0 q_fuel M (by omega) (by unfold q_fuel; omega) z_FR.rf (fun _ _ => rfl) rfl (fun k hk => absurd hk (by omega))
  refine ⟨M1, ?_, h2⟩
  unfold f_X6_learn
  rw [zob_78 hi.1]
  exact h1
theorem zq_find2 {M M0 : q_Mem} (hi : z_Inv M) (hL0 : z_Lay M0) (e9 : q_I M0 109 = q_I M 109) (dd : Int32) : ∀ (d i fu : Nat) (M1 : q_Mem), i + d = z_m (q_I M 109) 2 → d < fu → z_FR M0 M1 → (∀ a, a ≠ 112 → q_I M1 a = q_I M0 a) → q_J M1 = q_J M0 → (∀ k, k < i → q_I M1 112 k = z_rt M dd k) → ∃ M2, f_X12_findRates_b2 108 dd fu (nI i) M1 = some M2 ∧ z_FR M0 M2 ∧ (∀ a, a ≠ 112 → q_I M2 a = q_I M0 a) ∧ q_J M2 = q_J M0 ∧ (∀ k, k < z_m (q_I M 109) 2 → q_I M2 112 k = z_rt M dd k) := by
  obtain ⟨R, h3, hm, hcn⟩ := zt_2 hi
  intro d
  induction d with
  | zero =>
    intro i fu M1 hd hf hF hI hJ hk
    obtain ⟨g, rfl⟩ : ∃ g, fu = g + 1 := ⟨fu - 1, by omega⟩
    obtain rfl : i = z_m (q_I M 109) 2 := by omega
    have hn : (nI (z_m (q_I M 109) 2) < nI (z_m (q_I M 109) 2)) = False := eq_false (nI_nlt (Nat.le_refl _) (by omega))
    have hL1 := hF.lay hL0
    have e9' : q_I M1 109 = q_I M 109 := (hI 109 (by decide)).trans e9
    simp only [f_X12_findRates_b2.eq_2, zo_108 hL1, zl_ hL1, e9', hcn, Option.bind_some, hn, if_false]
    exact ⟨_, rfl, hF, hI, hJ, hk⟩
  | succ d ih =>
    intro i fu M1 hd hf hF hI hJ hk
    obtain ⟨g, rfl⟩ : ∃ g, fu = g + 1 := ⟨fu - 1, by omega⟩
    have hj : i < z_m (q_I M 109) 2 := by omega
    have hn : (nI i < nI (z_m (q_I M 109) 2)) = True := eq_true (nI_lt hj (by omega))
    have hL1 := hF.lay hL0
    have e9' : q_I M1 109 = q_I M 109 := (hI 109 (by decide)).trans e9
    have r2 := (zs_rt hi hL1 e9' hj dd).1
    simp only [f_X12_findRates_b2.eq_2, zo_108 hL1, zl_ hL1, e9', hcn, Option.bind_some, hn, if_true, r2, (za_112 hL1).2.2 i _ (show i < 200 by omega), ← nI_succ]
    refine ih _ _ _ (by omega) (by omega) (hF.tr ⟨rfl, rfl, rfl⟩) (fun a ha => by rw [q_sI_ne ha]; exact hI a ha) hJ (fun k hk2 => ?_)
    rw [z_I_sI]
    by_cases e : k = i
    · subst e
      rw [if_pos ⟨rfl, rfl⟩]
    · rw [if_neg (fun z => e z.2)]; exact hk k (by omega)
theorem zs_find2 {M M0 : q_Mem} (hi : z_Inv M) (hL0 : z_Lay M0) (e9 : q_I M0 109 = q_I M 109) (dd : Int32) : ∃ M2, f_X12_findRates M0 108 dd = some M2 ∧ z_FR M0 M2 ∧ (∀ a, a ≠ 112 → q_I M2 a = q_I M0 a) ∧ q_J M2 = q_J M0 ∧ (∀ k, k < z_m (q_I M 109) 2 → q_I M2 112 k = z_rt M dd k) := by
  obtain ⟨R, h3, hm, hcn⟩ := zt_2 hi
  obtain ⟨M1, h1, h2⟩ := zq_find2 hi hL0 e9 dd (z_m (q_I M 109) 2) 0 q_fuel M0 (by omega) (by unfold q_fuel; omega) z_FR.rf (fun _ _ => rfl) rfl (fun k hk => absurd hk (by omega))
  refine ⟨M1, ?_, h2⟩
  unfold f_X12_findRates
  rw [zob_108 hL0]
  exact h1
/-- what is gathered where c says so -/
def z_fl {α : Type} (add : α → α → α) (z : α) (c : Nat → Bool) (v : Nat → α) : Nat → α
  | 0 => z
  | k + 1 => if c k = true then add (z_fl add z c v k) (v k) else z_fl add z c v k
def z_ci (st : Nat → Int32) (wk : Int32) (f c : Nat) : Bool := if st (100 + 4 * c) = nI f then (if st (100 + 4 * c + 3) = -1 then false else (if st (2700 + 3 * (st (100 + 4 * c + 3)).toNatClampNeg) / 7 = wk then true else false)) else false
def z_ti (st : Nat → Int32) (rt : Nat → Int32) (wk : Int32) (f t : Nat) : Bool := if st (1300 + 7 * t) = nI f then (if rt t = -1 then false else (if st (1300 + 7 * t + 1) / 7 = wk then true else false)) else false
def z_gW (st : Nat → Int32) (wk : Int32) (f k : Nat) : Int32 := z_fl (· + ·) 0 (z_ci st wk f) (fun c => st (100 + 4 * c + 2)) k
def z_gF (st : Nat → Int32) (fk : Nat → Int64) (wk : Int32) (f k : Nat) : Int64 := z_fl (· + ·) 0 (z_ci st wk f) fk k
def z_gN (st : Nat → Int32) (wk : Int32) (f k : Nat) : Int32 := z_fl (· + ·) 0 (z_ci st wk f) (fun _ => 1) k
def z_gO (st : Nat → Int32) (wk : Int32) (f k : Nat) : Int32 := z_fl (· + ·) 0 (z_ci st wk f) (fun c => st (2700 + 3 * (st (100 + 4 * c + 3)).toNatClampNeg) - st (100 + 4 * c + 1)) k
def z_gT (st : Nat → Int32) (rt : Nat → Int32) (wk : Int32) (f k : Nat) : Int32 := z_fl (· + ·) 0 (z_ti st rt wk f) (fun _ => 1) k
theorem zq_fill {a : Nat} (hA : ∀ M, z_Lay M → q_ln M a = some (nI 20) ∧ ∀ j v, j < 20 → q_tI M a (nI j) v = some (q_sI M a j v)) {M : q_Mem} (hL : z_Lay M) (x : Int32) : ∀ (d k fu : Nat) (M1 : q_Mem), k + d = 20 → d < fu → z_FR M M1 → (∀ b, b ≠ a → q_I M1 b = q_I M b) → q_J M1 = q_J M → (∀ j, j < k → q_I M1 a j = x) → ∃ M2, f_J7_fill_53178_b5 a x (nI 20) fu (nI k) M1 = some M2 ∧ z_FR M M2 ∧ (∀ b, b ≠ a → q_I M2 b = q_I M b) ∧ q_J M2 = q_J M ∧ (∀ j, j < 20 → q_I M2 a j = x) := by
  intro d
  induction d with
  | zero =>
    intro k fu M1 hd hf hF hI hJ hk
    obtain ⟨g, rfl⟩ : ∃ g, fu = g + 1 := ⟨fu - 1, by omega⟩
    obtain rfl : k = 20 := by omega
    simp only [f_J7_fill_53178_b5.eq_2, show (nI 20 < nI 20) = False by decide, if_false]
    exact ⟨M1, rfl, hF, hI, hJ, hk⟩
  | succ d ih =>
    intro k fu M1 hd hf hF hI hJ hk
    obtain ⟨g, rfl⟩ : ∃ g, fu = g + 1 := ⟨fu - 1, by omega⟩
    have hn : (nI k < nI 20) = True := eq_true (nI_lt (by omega) (by decide))
    simp only [f_J7_fill_53178_b5.eq_2, hn, if_true, (hA M1 (hF.lay hL)).2 k x (by omega), Option.bind_some, ← nI_succ]
    have ha4 : a ≠ 104 := fun e => by
      have h1 := (hA M hL).1
      rw [e, (za_104 hL).1] at h1
      exact absurd (Option.some.inj h1) (by decide)
    refine ih _ _ _ (by omega) (by omega) (hF.tr (z_FR.sI ha4)) (fun b hb => by rw [q_sI_ne hb]; exact hI b hb) hJ (fun j hj => ?_)
    rw [z_I_sI]
    by_cases e : j = k
    · rw [if_pos ⟨rfl, e⟩]
    · rw [if_neg (fun z => e z.2)]; exact hk j (by omega)
theorem zs_fill {a : Nat} (hA : ∀ M, z_Lay M → q_ln M a = some (nI 20) ∧ ∀ j v, j < 20 → q_tI M a (nI j) v = some (q_sI M a j v)) {M : q_Mem} (hL : z_Lay M) (x : Int32) : ∃ M2, f_J7_fill_53178 M a x = some M2 ∧ z_FR M M2 ∧ (∀ b, b ≠ a → q_I M2 b = q_I M b) ∧ q_J M2 = q_J M ∧ (∀ j, j < 20 → q_I M2 a j = x) := by
  obtain ⟨M2, r, rest⟩ := zq_fill hA hL x 20 0 q_fuel M (by omega) (by unfold q_fuel; omega) z_FR.rf (fun _ _ => rfl) rfl (fun j hj => absurd hj (Nat.not_lt_zero _))
  refine ⟨M2, ?_, rest⟩
  simp only [f_J7_fill_53178, (hA M hL).1, Option.bind_some]
  exact r
theorem zq_fillJ {M : q_Mem} (hL : z_Lay M) : ∀ (d k fu : Nat) (M1 : q_Mem), k + d = 20 → d < fu → z_FR M M1 → q_I M1 = q_I M → (∀ b, b ≠ 90 → q_J M1 b = q_J M b) → (∀ j, j < k → q_J M1 90 j = 0) → ∃ M2, f_J7_fill_d0a16_b6 90 (0 : Int64) (nI 20) fu (nI k) M1 = some M2 ∧ z_FR M M2 ∧ q_I M2 = q_I M ∧ (∀ b, b ≠ 90 → q_J M2 b = q_J M b) ∧ (∀ j, j < 20 → q_J M2 90 j = 0) := by
  intro d
  induction d with
  | zero =>
    intro k fu M1 hd hf hF hI hJ hk
    obtain ⟨g, rfl⟩ : ∃ g, fu = g + 1 := ⟨fu - 1, by omega⟩
    obtain rfl : k = 20 := by omega
    simp only [f_J7_fill_d0a16_b6.eq_2, show (nI 20 < nI 20) = False by decide, if_false]
    exact ⟨M1, rfl, hF, hI, hJ, hk⟩
  | succ d ih =>
    intro k fu M1 hd hf hF hI hJ hk
    obtain ⟨g, rfl⟩ : ∃ g, fu = g + 1 := ⟨fu - 1, by omega⟩
    have hn : (nI k < nI 20) = True := eq_true (nI_lt (by omega) (by decide))
    simp only [f_J7_fill_d0a16_b6.eq_2, hn, if_true, (za_90 (hF.lay hL)).2.2 k _ (show k < 20 by omega), Option.bind_some, ← nI_succ]
    refine ih _ _ _ (by omega) (by omega) (hF.tr ⟨rfl, rfl, rfl⟩) hI (fun b hb => ?_) (fun j hj => ?_)
    · funext x
      show (if b = 90 ∧ x = k then 0 else q_J M1 b x) = _
      rw [if_neg (fun z => hb z.1), hJ b hb]
    · show (if 90 = 90 ∧ j = k then 0 else q_J M1 90 j) = 0
      by_cases e : j = k
      · rw [if_pos ⟨rfl, e⟩]
      · rw [if_neg (fun z => e z.2)]; exact hk j (by omega)
theorem zs_fillJ {M : q_Mem} (hL : z_Lay M) : ∃ M2, f_J7_fill_d0a16 M 90 (0 : Int64) = some M2 ∧ z_FR M M2 ∧ q_I M2 = q_I M ∧ (∀ b, b ≠ 90 → q_J M2 b = q_J M b) ∧ (∀ j, j < 20 → q_J M2 90 j = 0) := by
  obtain ⟨M2, r, rest⟩ := zq_fillJ hL 20 0 q_fuel M (by omega) (by unfold q_fuel; omega) z_FR.rf rfl (fun _ _ => rfl) (fun j hj => absurd hj (Nat.not_lt_zero _))
  refine ⟨M2, ?_, rest⟩
  simp only [f_J7_fill_d0a16, (za_90 hL).1, Option.bind_some]
  exact r
def z_ga (a : Nat) : Prop := a = 89 ∨ a = 91 ∨ a = 92 ∨ a = 93
/-- gathered, of the cans before k -/
def z_PG (Mb M : q_Mem) (fk : Nat → Int64) (wk : Int32) (k : Nat) : Prop := z_FR Mb M ∧ (∀ a, ¬ z_ga a → q_I M a = q_I Mb a) ∧ (∀ a, a ≠ 90 → q_J M a = q_J Mb a) ∧ (∀ f, f < 20 → q_I M 89 f = z_gW (q_I Mb 109) wk f k ∧ q_J M 90 f = z_gF (q_I Mb 109) fk wk f k ∧ q_I M 91 f = z_gN (q_I Mb 109) wk f k ∧ q_I M 92 f = z_gO (q_I Mb 109) wk f k) ∧ ∀ f, f < 20 → q_I M 93 f = 0
theorem z_PG.sm {Mb M : q_Mem} {fk : Nat → Int64} {wk : Int32} {k : Nat} (h : z_PG Mb M fk wk k) : z_sm Mb M := ⟨h.1, fun a ha => h.2.1 a (fun z => by unfold z_ga at z; unfold z_core at ha; omega)⟩
theorem zs_gatherCan {Mb M : q_Mem} {fk : Nat → Int64} {wk : Int32} {k : Nat} (hi : z_Inv Mb) (hfat : ∀ M', z_sm Mb M' → q_I M' 79 = q_I Mb 79 → ∀ c, c < z_m (q_I Mb 109) 1 → f_X6_fatOfCan M' 78 (nI c) = some (fk c)) (hk : k < z_m (q_I Mb 109) 1) (h : z_PG Mb M fk wk k) : ∃ M', f_X7_gatherCan M 88 (nI k) wk = some M' ∧ z_PG Mb M' fk wk (k + 1) := by
  have hs := h.sm
  have hiM := hi.sm hs
  have hM := hiM.1
  have e9 := z_inv9 hs
  have hkM : k < z_m (q_I M 109) 1 := by rw [e9]; exact hk
  have ov := hi.2.2.2.2.1.2.2.2 1 (by decide) k hk
  obtain ⟨R0, h30, hm0, _⟩ := zt_0 hi
  obtain ⟨R1, h31, hm1, _⟩ := zt_1 hi
  obtain ⟨R3, h33, hm3, _⟩ := zt_3 hi
  obtain ⟨fa, hfa, efa⟩ : z_id (q_I Mb 109 (100 + 4 * k)) (z_m (q_I Mb 109) 0) := ov.1
  have hch : q_I Mb 109 (100 + 4 * k + 3) = -1 ∨ z_id (q_I Mb 109 (100 + 4 * k + 3)) (z_m (q_I Mb 109) 3) := ov.2.2.2
  have h20 : fa < 20 := by omega
  have c0 : (nI fa < 0) = False := eq_false (nI_pos (by omega))
  have c20 : (nI fa < (20 : Int32)) = True := eq_true (nI_lt (b := 20) h20 (by decide))
  have r1 := zr_1 hiM hkM
  simp only [e9, efa] at r1
  obtain ⟨a1, a2, a3, a4, a5⟩ := h
  -- nothing is added
  have stay : (∀ f, f < 20 → z_ci (q_I Mb 109) wk f k = false) → z_PG Mb M fk wk (k + 1) := fun hn => by
    refine ⟨a1, a2, a3, fun f hf => ?_, a5⟩
    obtain ⟨b1, b2, b3, b4⟩ := a4 f hf
    have hn' := hn f hf
    refine ⟨b1.trans ?_, b2.trans ?_, b3.trans ?_, b4.trans ?_⟩
    · show _ = (if z_ci (q_I Mb 109) wk f k = true then _ else _); rw [hn', if_neg (by decide)]; rfl
    · show _ = (if z_ci (q_I Mb 109) wk f k = true then _ else _); rw [hn', if_neg (by decide)]; rfl
    · show _ = (if z_ci (q_I Mb 109) wk f k = true then _ else _); rw [hn', if_neg (by decide)]; rfl
    · show _ = (if z_ci (q_I Mb 109) wk f k = true then _ else _); rw [hn', if_neg (by decide)]; rfl
  rcases hch with hn | ⟨ch, hc, ec⟩
  · refine ⟨M, ?_, stay (fun f _ => ?_)⟩
    · simp only [f_X7_gatherCan, zob_88 hM, zo_88 hM, zo_1 hM, Option.bind_some, r1, c0, c20, if_false, if_true, hn]
    · unfold z_ci
      rw [hn, if_pos rfl, ite_self]
  · have ech : (q_I Mb 109 (100 + 4 * k + 3)).toNatClampNeg = ch := by rw [ec, nI_clamp (by omega)]
    have n1 : (nI ch = (-1 : Int32)) = False := z_nI_n1 (by omega)
    have hcM : ch < z_m (q_I M 109) 3 := by rw [e9]; exact hc
    have r3 := zr_3 hiM hcM
    simp only [e9] at r3
    by_cases cw : q_I Mb 109 (2700 + 3 * ch) / 7 = wk
    · -- it is added to its farm
      have ci : ∀ f, f < 20 → z_ci (q_I Mb 109) wk f k = if fa = f then true else false := fun f hf => by
        unfold z_ci
        rw [efa, ec, if_neg (z_nI_ne (by omega)), nI_clamp (by omega), if_pos cw]
        have e : (nI fa = nI f) = (fa = f) := z_nI_in (by omega) (by omega)
        by_cases z : fa = f
        · rw [if_pos z, if_pos (by rw [e]; exact z)]
        · rw [if_neg z, if_neg (by rw [e]; exact z)]
      obtain ⟨b1, b2, b3, b4⟩ := a4 fa h20
      have L1 : z_Lay (q_sI M 89 fa (q_I M 89 fa + q_I Mb 109 (100 + 4 * k + 2))) := z_L1 hM
      have sm1 : z_sm Mb (q_sI M 89 fa (q_I M 89 fa + q_I Mb 109 (100 + 4 * k + 2))) := hs.tr (z_sm.sI (by unfold z_core; omega))
      have fat := hfat _ sm1 (by rw [q_sI_ne (by decide)]; exact a2 79 (by unfold z_ga; omega)) k hk
      have L2 : z_Lay (q_sJ (q_sI M 89 fa (q_I M 89 fa + q_I Mb 109 (100 + 4 * k + 2))) 90 fa (q_J M 90 fa + fk k)) := z_L2 L1
      have rJ : q_lJ (q_sI M 89 fa (q_I M 89 fa + q_I Mb 109 (100 + 4 * k + 2))) 90 (nI fa) = some (q_J M 90 fa) := (za_90 L1).2.1 fa h20
      have r91 : q_lI (q_sJ (q_sI M 89 fa (q_I M 89 fa + q_I Mb 109 (100 + 4 * k + 2))) 90 fa (q_J M 90 fa + fk k)) 91 (nI fa) = some (q_I M 91 fa) := by
        rw [(za_91 L2).2.1 fa h20, z_I_sJ, z_I_sI, if_neg (by omega)]
      have L3 : z_Lay (q_sI (q_sJ (q_sI M 89 fa (q_I M 89 fa + q_I Mb 109 (100 + 4 * k + 2))) 90 fa (q_J M 90 fa + fk k)) 91 fa (q_I M 91 fa + 1)) := z_L1 L2
      have r92 : q_lI (q_sI (q_sJ (q_sI M 89 fa (q_I M 89 fa + q_I Mb 109 (100 + 4 * k + 2))) 90 fa (q_J M 90 fa + fk k)) 91 fa (q_I M 91 fa + 1)) 92 (nI fa) = some (q_I M 92 fa) := by
        rw [(za_92 L3).2.1 fa h20, z_I_sI, if_neg (by omega), z_I_sJ, z_I_sI, if_neg (by omega)]
      have sm3 : z_sm Mb (q_sI (q_sJ (q_sI M 89 fa (q_I M 89 fa + q_I Mb 109 (100 + 4 * k + 2))) 90 fa (q_J M 90 fa + fk k)) 91 fa (q_I M 91 fa + 1)) := sm1.tr ((z_sm.sJ (by decide)).tr (z_sm.sI (by unfold z_core; omega)))
      have hi3 := hi.sm sm3
      have e93 := z_inv9 sm3
      have r13 := zr_1 hi3 (i := k) (by rw [e93]; exact hk)
      simp only [e93] at r13
      refine ⟨q_sI (q_sI (q_sJ (q_sI M 89 fa (q_I M 89 fa + q_I Mb 109 (100 + 4 * k + 2))) 90 fa (q_J M 90 fa + fk k)) 91 fa (q_I M 91 fa + 1)) 92 fa (q_I M 92 fa + (q_I Mb 109 (2700 + 3 * ch) - q_I Mb 109 (100 + 4 * k + 1))), ?_, ?_⟩
      · simp only [f_X7_gatherCan, zob_88 hM, zo_88 hM, zo_1 hM, Option.bind_some, r1, c0, c20, if_false, if_true, ec, n1, r3, z_dv0 (show (7 : Int32) ≠ 0 by decide), cw, (za_89 hM).2.1 fa h20, (za_89 hM).2.2 fa _ h20, zo_88 L1, rJ, fat, (za_90 L1).2.2 fa _ h20, zo_88 L2, r91, (za_91 L2).2.2 fa _ h20, zo_88 L3, r92, zo_1 L3, r13, (za_92 L3).2.2 fa _ h20]
      · refine ⟨a1.tr ⟨rfl, rfl, rfl⟩, fun a ha => ?_, fun a ha => ?_, fun f hf => ?_, fun f hf => ?_⟩
        · unfold z_ga at ha
          rw [q_sI_ne (by omega), q_sI_ne (by omega)]
          show q_I (q_sI M 89 fa _) a = _
          rw [q_sI_ne (by omega)]
          exact a2 a (by unfold z_ga; omega)
        · rw [← a3 a ha]
          funext x
          show (if a = 90 ∧ x = fa then _ else q_J M a x) = _
          rw [if_neg (fun z => ha z.1)]
        · obtain ⟨d1, d2, d3, d4⟩ := a4 f hf
          have cif := ci f hf
          by_cases z : fa = f
          · subst z
            rw [if_pos rfl] at cif
            refine ⟨?_, ?_, ?_, ?_⟩
            · rw [z_I_sI, if_neg (by omega), z_I_sI, if_neg (by omega), z_I_sJ, z_I_sI, if_pos ⟨rfl, rfl⟩, b1]
              show _ = (if z_ci (q_I Mb 109) wk fa k = true then _ else _)
              rw [cif, if_pos rfl]; rfl
            · show (if 90 = 90 ∧ fa = fa then _ else _) = _
              rw [if_pos ⟨rfl, rfl⟩, b2]
              show _ = (if z_ci (q_I Mb 109) wk fa k = true then _ else _)
              rw [cif, if_pos rfl]; rfl
            · rw [z_I_sI, if_neg (by omega), z_I_sI, if_pos ⟨rfl, rfl⟩, b3]
              show _ = (if z_ci (q_I Mb 109) wk fa k = true then _ else _)
              rw [cif, if_pos rfl]; rfl
            · rw [z_I_sI, if_pos ⟨rfl, rfl⟩, b4]
              show _ = (if z_ci (q_I Mb 109) wk fa k = true then _ else _)
              rw [cif, if_pos rfl]
              show _ = z_gO (q_I Mb 109) wk fa k + (q_I Mb 109 (2700 + 3 * (q_I Mb 109 (100 + 4 * k + 3)).toNatClampNeg) - q_I Mb 109 (100 + 4 * k + 1))
              rw [ech]
          · rw [if_neg z] at cif
            refine ⟨?_, ?_, ?_, ?_⟩
            · rw [z_I_sI, if_neg (by omega), z_I_sI, if_neg (by omega), z_I_sJ, z_I_sI, if_neg (by omega), d1]
              show _ = (if z_ci (q_I Mb 109) wk f k = true then _ else _)
              rw [cif, if_neg (by decide)]; rfl
            · show (if 90 = 90 ∧ f = fa then _ else q_J M 90 f) = _
              rw [if_neg (by omega), d2]
              show _ = (if z_ci (q_I Mb 109) wk f k = true then _ else _)
              rw [cif, if_neg (by decide)]; rfl
            · rw [z_I_sI, if_neg (by omega), z_I_sI, if_neg (by omega), z_I_sJ, z_I_sI, if_neg (by omega), d3]
              show _ = (if z_ci (q_I Mb 109) wk f k = true then _ else _)
              rw [cif, if_neg (by decide)]; rfl
            · rw [z_I_sI, if_neg (by omega), z_I_sI, if_neg (by omega), z_I_sJ, z_I_sI, if_neg (by omega), d4]
              show _ = (if z_ci (q_I Mb 109) wk f k = true then _ else _)
              rw [cif, if_neg (by decide)]; rfl
        · rw [z_I_sI, if_neg (by omega), z_I_sI, if_neg (by omega), z_I_sJ, z_I_sI, if_neg (by omega)]
          exact a5 f hf
    · refine ⟨M, ?_, stay (fun f _ => ?_)⟩
      · simp only [f_X7_gatherCan, zob_88 hM, zo_88 hM, zo_1 hM, Option.bind_some, r1, c0, c20, if_false, if_true, ec, n1, r3, z_dv0 (show (7 : Int32) ≠ 0 by decide), cw]
      · unfold z_ci
        rw [ech, if_neg cw, ite_self, ite_self]
