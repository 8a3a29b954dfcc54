/-! ===== shares ===== -/
theorem zs_nameForO {M Mg : q_Mem} (hi : z_Inv M) {fk : Nat → Int64} {rt : Nat → Int32} {wk : Int32} (hG : z_G M Mg fk rt wk) {f : Nat} (hf : z_m (q_I M 109) 0 ≤ f) (h20 : f < 20) {Mx : q_Mem} (hs : z_sm M Mx) (hx : ∀ a, z_ga a → q_I Mx a = q_I Mg a) (hxJ : q_J Mx 90 = q_J Mg 90) : ∃ M', f_X7_nameFor Mx 88 (nI f) = some M' ∧ z_FR Mx M' ∧ q_I M' = q_I Mx ∧ (∀ a, a ≠ 83 → q_J M' a = q_J Mx a) := by
  have hiX := hi.sm hs
  have hX := hiX.1
  have e9 := z_inv9 hs
  obtain ⟨R0, h30, hm0, _⟩ := zt_0 hi
  obtain ⟨S0, k30, km0, _⟩ := zt_0 hiX
  rw [e9] at k30
  have c0 : (nI f < 0) = False := eq_false (nI_pos (by omega))
  have c20 : (nI f < (20 : Int32)) = True := eq_true (nI_lt (b := 20) h20 (by decide))
  obtain ⟨b1, b2, b3, b4, b5⟩ := hG.2.2.2.2 f h20
  have x89 : ∀ g, g < 20 → q_I Mx 89 g = z_gW (q_I M 109) wk g (z_m (q_I M 109) 1) := fun g hg => by
    rw [hx 89 (Or.inl rfl)]; exact (hG.2.2.2.2 g hg).1
  have x90 : q_J Mx 90 f = z_gF (q_I M 109) fk wk f (z_m (q_I M 109) 1) := by rw [hxJ]; exact b2
  have x91 : q_I Mx 91 f = z_gN (q_I M 109) wk f (z_m (q_I M 109) 1) := by rw [hx 91 (by unfold z_ga; omega)]; exact b3
  have x92 : q_I Mx 92 f = z_gO (q_I M 109) wk f (z_m (q_I M 109) 1) := by rw [hx 92 (by unfold z_ga; omega)]; exact b4
  have x93 : q_I Mx 93 f = z_gT (q_I M 109) rt wk f (z_m (q_I M 109) 2) := by rw [hx 93 (by unfold z_ga; omega)]; exact b5
  -- a memory that differs from Mx in 83's numbers alone
  have T : ∀ k, k < 8 → ∀ Y, z_Lay Y → ∀ v, f_X8_tellName Y 81 (nI k) v = some (q_sJ Y 83 k v) := fun k hk Y hY v => zk_tell hY hk v
  obtain ⟨Y1, hY1⟩ : ∃ Y, Y = q_sJ Mx 83 0 (q_I Mx 89 f).toInt64 := ⟨_, rfl⟩
  obtain ⟨Y2, hY2⟩ : ∃ Y, Y = q_sJ Y1 83 1 (q_J Mx 90 f / 100) := ⟨_, rfl⟩
  obtain ⟨Y3, hY3⟩ : ∃ Y, Y = q_sJ Y2 83 2 (q_I Mx 91 f).toInt64 := ⟨_, rfl⟩
  obtain ⟨Y4, hY4⟩ : ∃ Y, Y = q_sJ Y3 83 3 (q_I Mx 92 f).toInt64 := ⟨_, rfl⟩
  obtain ⟨Y5, hY5⟩ : ∃ Y, Y = q_sJ Y4 83 4 (q_I Mx 93 f).toInt64 := ⟨_, rfl⟩
  obtain ⟨Y6, hY6⟩ : ∃ Y, Y = q_sJ Y5 83 5 (-1 : Int32).toInt64 := ⟨_, rfl⟩
  obtain ⟨Y7, hY7⟩ : ∃ Y, Y = q_sJ Y6 83 6 (-1 : Int32).toInt64 := ⟨_, rfl⟩
  have F1 : z_sm Mx Y1 ∧ q_I Y1 = q_I Mx := by rw [hY1]; exact ⟨z_sm.sJ, rfl⟩
  have F2 : z_sm Mx Y2 ∧ q_I Y2 = q_I Mx := by rw [hY2]; exact ⟨F1.1.tr z_sm.sJ, F1.2⟩
  have F3 : z_sm Mx Y3 ∧ q_I Y3 = q_I Mx := by rw [hY3]; exact ⟨F2.1.tr z_sm.sJ, F2.2⟩
  have F4 : z_sm Mx Y4 ∧ q_I Y4 = q_I Mx := by rw [hY4]; exact ⟨F3.1.tr z_sm.sJ, F3.2⟩
  have F5 : z_sm Mx Y5 ∧ q_I Y5 = q_I Mx := by rw [hY5]; exact ⟨F4.1.tr z_sm.sJ, F4.2⟩
  have F6 : z_sm Mx Y6 ∧ q_I Y6 = q_I Mx := by rw [hY6]; exact ⟨F5.1.tr z_sm.sJ, F5.2⟩
  have F7 : z_sm Mx Y7 ∧ q_I Y7 = q_I Mx := by rw [hY7]; exact ⟨F6.1.tr z_sm.sJ, F6.2⟩
  have L1 := F1.1.1.lay hX
  have L2 := F2.1.1.lay hX
  have L3 := F3.1.1.lay hX
  have L4 := F4.1.1.lay hX
  have L5 := F5.1.1.lay hX
  have L6 := F6.1.1.lay hX
  have L7 := F7.1.1.lay hX
  have i5 := hiX.sm F5.1
  have i6 := hiX.sm F6.1
  have e95 : q_I Y5 109 = q_I M 109 := by rw [F5.2]; exact e9
  have e96 : q_I Y6 109 = q_I M 109 := by rw [F6.2]; exact e9
  obtain ⟨T5, u35, um5, _⟩ := zt_0 i5
  obtain ⟨T6, u36, um6, _⟩ := zt_0 i6
  rw [e95] at u35
  rw [e96] at u36
  have no : ¬ nI f < nI (z_m (q_I M 109) 0) := nI_nlt hf (by omega)
  have r5 : f_X9_at Y5 2 (nI f) (3 : Int32) = some (-1) := z_at_out T5 u35 (Or.inr no)
  have r6 : f_X9_at Y6 2 (nI f) (2 : Int32) = some (-1) := z_at_out T6 u36 (Or.inr no)
  have y90 : q_J Y1 90 = q_J Mx 90 := by
    rw [hY1]
    exact z_sJ_ne (by decide)
  have rk : f_X7_rankOfWeight Y7 88 (q_I Mx 89 f) = some (z_gR (q_I M 109) wk (z_gW (q_I M 109) wk f (z_m (q_I M 109) 1)) (z_m (q_I M 109) 1) (z_m (q_I M 109) 0)) := by
    have q := zq_rank hi (wk := wk) L7 (by rw [F7.2]; exact k30) (fun g hg => by rw [F7.2]; exact x89 g hg) (q_I Mx 89 f) (z_m (q_I M 109) 0) 0 q_fuel (by omega) (z_fu (by omega))
    unfold f_X7_rankOfWeight
    rw [zob_88 L7, ← x89 f h20]
    exact q
  refine ⟨q_sJ Y7 83 7 (z_gR (q_I M 109) wk (z_gW (q_I M 109) wk f (z_m (q_I M 109) 1)) (z_m (q_I M 109) 1) (z_m (q_I M 109) 0)).toInt64, ?_, F7.1.1.tr ⟨rfl, rfl, rfl⟩, F7.2, fun a ha => ?_⟩
  · have t0 : ∀ Y, z_Lay Y → ∀ v, f_X8_tellName Y 81 (0 : Int32) v = some (q_sJ Y 83 0 v) := T 0 (by decide)
    have t1 : ∀ Y, z_Lay Y → ∀ v, f_X8_tellName Y 81 (1 : Int32) v = some (q_sJ Y 83 1 v) := T 1 (by decide)
    have t2 : ∀ Y, z_Lay Y → ∀ v, f_X8_tellName Y 81 (2 : Int32) v = some (q_sJ Y 83 2 v) := T 2 (by decide)
    have t3 : ∀ Y, z_Lay Y → ∀ v, f_X8_tellName Y 81 (3 : Int32) v = some (q_sJ Y 83 3 v) := T 3 (by decide)
    have t4 : ∀ Y, z_Lay Y → ∀ v, f_X8_tellName Y 81 (4 : Int32) v = some (q_sJ Y 83 4 v) := T 4 (by decide)
    have t5 : ∀ Y, z_Lay Y → ∀ v, f_X8_tellName Y 81 (5 : Int32) v = some (q_sJ Y 83 5 v) := T 5 (by decide)
    have t6 : ∀ Y, z_Lay Y → ∀ v, f_X8_tellName Y 81 (6 : Int32) v = some (q_sJ Y 83 6 v) := T 6 (by decide)
    have t7 : ∀ Y, z_Lay Y → ∀ v, f_X8_tellName Y 81 (7 : Int32) v = some (q_sJ Y 83 7 v) := T 7 (by decide)
    simp only [f_X7_nameFor, zob_88 hX, c0, c20, if_true, if_false, zo_88 hX, (za_89 hX).2.1 f h20, Option.bind_some, t0 _ hX, ← hY1, zo_88 L1, (za_90 L1).2.1 f h20, y90, z_ldv0 (show (100 : Int64) ≠ 0 by decide), t1 _ L1, ← hY2, zo_88 L2, (za_91 L2).2.1 f h20, F2.2, t2 _ L2, ← hY3, zo_88 L3, (za_92 L3).2.1 f h20, F3.2, t3 _ L3, ← hY4, zo_88 L4, (za_93 L4).2.1 f h20, F4.2, t4 _ L4, ← hY5, zo_88 L5, zo_1 L5, r5, t5 _ L5, ← hY6, zo_88 L6, zo_1 L6, r6, t6 _ L6, ← hY7, zo_88 L7, (za_89 L7).2.1 f h20, F7.2, rk, t7 _ L7]
  · funext j
    rw [hY7, hY6, hY5, hY4, hY3, hY2, hY1]
    show (if a = 83 ∧ j = 7 then _ else if a = 83 ∧ j = 6 then _ else if a = 83 ∧ j = 5 then _ else if a = 83 ∧ j = 4 then _ else if a = 83 ∧ j = 3 then _ else if a = 83 ∧ j = 2 then _ else if a = 83 ∧ j = 1 then _ else if a = 83 ∧ j = 0 then _ else q_J Mx a j) = _
    rw [if_neg (fun z => ha z.1), if_neg (fun z => ha z.1), if_neg (fun z => ha z.1), if_neg (fun z => ha z.1), if_neg (fun z => ha z.1), if_neg (fun z => ha z.1), if_neg (fun z => ha z.1), if_neg (fun z => ha z.1)]
theorem z_gN0 {M : q_Mem} (hi : z_Inv M) (wk : Int32) {f : Nat} (hf : z_m (q_I M 109) 0 ≤ f) (h20 : f < 20) : ∀ k, k ≤ z_m (q_I M 109) 1 → z_gN (q_I M 109) wk f k = 0
  | 0, _ => rfl
  | k + 1, hk => by
    obtain ⟨R0, h30, hm0, _⟩ := zt_0 hi
    obtain ⟨fa, hfa, efa⟩ : z_id (q_I M 109 (100 + 4 * k)) (z_m (q_I M 109) 0) := (hi.2.2.2.2.1.2.2.2 1 (by decide) k (by omega)).1
    have c : z_ci (q_I M 109) wk f k = false := by
      unfold z_ci
      rw [efa, if_neg (fun z => by
        have := (nI_eq (a := fa) (b := f) (by omega) (by omega)).mp z
        omega)]
    show (if z_ci (q_I M 109) wk f k = true then _ else _) = _
    rw [c, if_neg (by decide)]
    exact z_gN0 hi wk hf h20 k (by omega)
/-- what is told of a farm, before it is cut to a share -/
def z_told (sem : z_Sem) (nv : Nat → Int64) (t : Int64) : Prop := ∀ ν : Nat → Int64, (∀ k, k < 8 → ν k = nv k) → t = (if (sem ν).2 = true then 0 else (sem ν).1)
def z_cut0 (n : Int32) (t : Int64) : Int64 := if n = 0 then 0 else q_mxJ (0 : Int64) (q_miJ (1000000000 : Int64) t)
/-- the text that tells: none (the fat), or a motion's -/
def z_T0 (sem : Option z_Sem) (nv : Nat → Int64) (t : Int64) : Prop := match sem with
  | none => t = nv 1
  | some s => z_told s nv t
theorem z_T0.uniq {sem : Option z_Sem} {nv : Nat → Int64} {t t' : Int64} (h : z_T0 sem nv t) (h' : z_T0 sem nv t') : t = t' := by
  cases sem with
  | none => exact h.trans h'.symm
  | some s => exact (h nv (fun _ _ => rfl)).trans (h' nv (fun _ _ => rfl)).symm
theorem z_cutR (n : Int32) (t : Int64) : 0 ≤ (z_cut0 n t).toInt ∧ (z_cut0 n t).toInt ≤ 1000000000 := by
  have e0 : (0 : Int64).toInt = 0 := rfl
  have e9 : (1000000000 : Int64).toInt = 1000000000 := rfl
  unfold z_cut0
  by_cases c : n = 0
  · rw [if_pos c, e0]; omega
  · rw [if_neg c]
    have h1 : (q_miJ (1000000000 : Int64) t).toInt ≤ 1000000000 := by
      unfold q_miJ
      by_cases c1 : t < 1000000000
      · rw [if_pos c1]
        have := Int64.lt_iff_toInt_lt.mp c1
        omega
      · rw [if_neg c1, e9]; omega
    generalize q_miJ (1000000000 : Int64) t = y at h1
    unfold q_mxJ
    by_cases c2 : y < 0
    · rw [if_pos c2, e0]; omega
    · rw [if_neg c2]
      have : ¬ y.toInt < (0 : Int64).toInt := fun z => c2 (Int64.lt_iff_toInt_lt.mpr z)
      omega
/-- the class' shares, of the farms before k -/
def z_PS (M Ml Mx : q_Mem) (fk : Nat → Int64) (rt : Nat → Int32) (wk : Int32) (sem : Option z_Sem) (k : Nat) : Prop :=
  z_FR Ml Mx ∧ (∀ a, a ≠ 81 → a ≠ 85 → a ≠ 86 → q_I Mx a = q_I Ml a) ∧ q_I Mx 81 1 = q_I Ml 81 1 ∧ (∀ a, a ≠ 81 → a ≠ 83 → a ≠ 84 → a ≠ 94 → q_J Mx a = q_J Ml a) ∧
  ∀ f, f < k → (f < z_m (q_I M 109) 0 → ∃ t, z_T0 sem (z_nv (q_I M 109) fk rt wk f) t ∧ q_J Mx 94 f = z_cut0 (z_gN (q_I M 109) wk f (z_m (q_I M 109) 1)) t) ∧ (z_m (q_I M 109) 0 ≤ f → q_J Mx 94 f = 0)
theorem z_fin_PS {M Ml Mx My : q_Mem} {fk : Nat → Int64} {rt : Nat → Int32} {wk : Int32} {sem : Option z_Sem} {k : Nat} (h : z_PS M Ml Mx fk rt wk sem k) (hF : z_FR Mx My) (hI : ∀ a, a ≠ 81 → a ≠ 85 → a ≠ 86 → q_I My a = q_I Mx a) (h1 : q_I My 81 1 = q_I Mx 81 1) (hJ : ∀ a, a ≠ 81 → a ≠ 83 → a ≠ 84 → q_J My a = q_J Mx a) : z_PS M Ml My fk rt wk sem k :=
  ⟨h.1.tr hF, fun a a1 a2 a3 => (hI a a1 a2 a3).trans (h.2.1 a a1 a2 a3), h1.trans h.2.2.1, fun a a1 a2 a3 a4 => (hJ a a1 a2 a3).trans (h.2.2.2.1 a a1 a2 a3 a4), fun f hf => by rw [hJ 94 (by decide) (by decide) (by decide)]; exact h.2.2.2.2 f hf⟩
theorem z_PS.put {M Ml Mx : q_Mem} {fk : Nat → Int64} {rt : Nat → Int32} {wk : Int32} {sem : Option z_Sem} {k : Nat} {v : Int64} (h : z_PS M Ml Mx fk rt wk sem k) (hv : (k < z_m (q_I M 109) 0 → ∃ t, z_T0 sem (z_nv (q_I M 109) fk rt wk k) t ∧ v = z_cut0 (z_gN (q_I M 109) wk k (z_m (q_I M 109) 1)) t) ∧ (z_m (q_I M 109) 0 ≤ k → v = 0)) : z_PS M Ml (q_sJ Mx 94 k v) fk rt wk sem (k + 1) := by
  refine ⟨h.1.tr ⟨rfl, rfl, rfl⟩, h.2.1, h.2.2.1, fun a a1 a2 a3 a4 => by rw [z_sJ_ne a4]; exact h.2.2.2.1 a a1 a2 a3 a4, fun f hf => ?_⟩
  rw [z_J_eq]
  by_cases e : f = k
  · subst e
    rw [if_pos rfl]; exact hv
  · rw [if_neg e]; exact h.2.2.2.2 f (by omega)
theorem zk_put94 {M Mx : q_Mem} {k : Nat} {n : Int32} {t : Int64} (kk : Int32 → q_Mem → Option q_Mem) (hX : z_Lay Mx) (hk : k < 20) (r : Int32) (h91 : q_I Mx 91 k = n) : f_X7_findShares_b94 kk Mx 88 r (nI k) t = kk (nI (k + 1)) (q_sJ Mx 94 k (z_cut0 n t)) := by
  unfold z_cut0
  by_cases c : n = 0
  · rw [if_pos c]
    simp only [f_X7_findShares_b94, zo_88 hX, (za_91 hX).2.1 k hk, h91, Option.bind_some, c, if_true, (za_94 hX).2.2 k _ hk, ← nI_succ]
  · rw [if_neg c]
    simp only [f_X7_findShares_b94, zo_88 hX, (za_91 hX).2.1 k hk, h91, Option.bind_some, c, if_false, (za_94 hX).2.2 k _ hk, ← nI_succ]
theorem zq_shares {M Mg Ml : q_Mem} (hi : z_Inv M) {fk : Nat → Int64} {rt : Nat → Int32} {wk : Int32} (hG : z_G M Mg fk rt wk) (hF : z_FR Mg Ml) (hI : ∀ a, a ≠ 81 → a ≠ 82 → q_I Ml a = q_I Mg a) (hJ : q_J Ml = q_J Mg) {r : Int32} {n : Nat} {c : Nat → Nat} {sem : Option z_Sem}
    (hr : (r = -1 ∧ sem = none) ∨ (¬ r = -1 ∧ n ≤ 60 ∧ q_I Ml 81 1 = nI n ∧ (∀ j, j < n → q_I Ml 82 j = nI (c j) ∧ c j < 128) ∧ (z_gP n c (n + 1) 0 [] none).1 = -1 ∧ sem = some (z_gP n c (n + 1) 0 [] none).2)) : ∀ (d k fu : Nat) (Mx : q_Mem), k + d = 20 → d < fu → z_PS M Ml Mx fk rt wk sem k → ∃ My, f_X7_findShares_b35 88 r fu (nI k) Mx = some My ∧ z_PS M Ml My fk rt wk sem 20 := by
  have hGs := z_G_sm hG
  obtain ⟨R0, h30, hm0, _⟩ := zt_0 hi
  intro d
  induction d with
  | zero =>
    intro k fu Mx hd hf h
    obtain ⟨g, rfl⟩ : ∃ g, fu = g + 1 := ⟨fu - 1, by omega⟩
    obtain rfl : k = 20 := by omega
    simp only [f_X7_findShares_b35.eq_2, show (nI 20 < (20 : Int32)) = False by decide, if_false]
    exact ⟨Mx, rfl, h⟩
  | succ d ih =>
    intro k fu Mx hd hf h
    obtain ⟨g, rfl⟩ : ∃ g, fu = g + 1 := ⟨fu - 1, by omega⟩
    have h20 : k < 20 := by omega
    have hn : (nI k < (20 : Int32)) = True := eq_true (nI_lt (b := 20) h20 (by decide))
    have sX : z_sm M Mx := hGs.tr ⟨hF.tr h.1, fun a ha => by
      rw [h.2.1 a (fun z => by rw [z] at ha; unfold z_core at ha; omega) (fun z => by rw [z] at ha; unfold z_core at ha; omega) (fun z => by rw [z] at ha; unfold z_core at ha; omega)]
      exact hI a (fun z => by rw [z] at ha; unfold z_core at ha; omega) (fun z => by rw [z] at ha; unfold z_core at ha; omega)⟩
    have hX := sX.1.lay hi.1
    have gx : ∀ a, z_ga a → q_I Mx a = q_I Mg a := fun a ha => by
      unfold z_ga at ha
      rw [h.2.1 a (by omega) (by omega) (by omega), hI a (by omega) (by omega)]
    have gJ : q_J Mx 90 = q_J Mg 90 := by rw [h.2.2.2.1 90 (by decide) (by decide) (by decide) (by decide), hJ]
    obtain ⟨b1, b2, b3, b4, b5⟩ := hG.2.2.2.2 k h20
    have x91 : q_I Mx 91 k = z_gN (q_I M 109) wk k (z_m (q_I M 109) 1) := by rw [gx 91 (by unfold z_ga; omega)]; exact b3
    have x90 : q_J Mx 90 k = z_gF (q_I M 109) fk wk k (z_m (q_I M 109) 1) := by rw [gJ]; exact b2
    rcases hr with ⟨hr1, hsem⟩ | ⟨hr1, hn60, hl81, hl82, hok, hsem⟩
    · -- by the fat
      subst hr1
      have p1 := zk_put94 (M := M) (t := z_gF (q_I M 109) fk wk k (z_m (q_I M 109) 1) / 100) (f_X7_findShares_b35 88 (-1 : Int32) g) hX h20 (-1 : Int32) x91
      simp only [f_X7_findShares_b35.eq_2, hn, if_true, zo_88 hX, Option.bind_some, (za_90 hX).2.1 k h20, x90, z_ldv0 (show (100 : Int64) ≠ 0 by decide), p1]
      refine ih (k + 1) g _ (by omega) (by omega) (h.put ⟨fun hk => ⟨_, ?_, rfl⟩, fun hk => ?_⟩)
      · rw [hsem]
        exact rfl
      · rw [z_gN0 hi wk hk h20 _ (Nat.le_refl _)]; rfl
    · have hr1' := eq_false hr1
      -- by a motion's text
      have key : ∃ Mn, f_X7_nameFor Mx 88 (nI k) = some Mn ∧ z_FR Mx Mn ∧ q_I Mn = q_I Mx ∧ (∀ a, a ≠ 83 → q_J Mn a = q_J Mx a) ∧ (k < z_m (q_I M 109) 0 → ∀ j, j < 8 → q_J Mn 83 j = z_nv (q_I M 109) fk rt wk k j) := by
        by_cases hk : k < z_m (q_I M 109) 0
        · obtain ⟨Mn, q1, q2, q3, q4, q5⟩ := zs_nameFor hi hG hk (Mx := Mx) sX gx gJ
          exact ⟨Mn, q1, q2, q3, q4, fun _ => q5⟩
        · obtain ⟨Mn, q1, q2, q3, q4⟩ := zs_nameForO hi hG (by omega) h20 (Mx := Mx) sX gx gJ
          exact ⟨Mn, q1, q2, q3, q4, fun z => absurd z hk⟩
      obtain ⟨Mn, pn, Fn, In, Jn, kn⟩ := key
      have Ln := Fn.lay hX
      have a81 : q_I Mn 81 1 = nI n := by rw [In, h.2.2.1]; exact hl81
      have a82 : ∀ j, j < n → q_I Mn 82 j = nI (c j) ∧ c j < 128 := fun j hj => by
        rw [In, h.2.1 82 (by decide) (by decide) (by decide)]; exact hl82 j hj
      have hT : ∀ ν : Nat → Int64, (∀ j, j < 8 → q_J Mn 83 j = ν j) → z_tx0 ν Mn n c := fun ν hh => ⟨Ln, hn60, a81, a82, hh⟩
      obtain ⟨Mc, r1, r2⟩ := zs_read (hT (q_J Mn 83) (fun _ _ => rfl))
      have rAll : ∀ ν : Nat → Int64, (∀ j, j < 8 → q_J Mn 83 j = ν j) → q_I Mc 81 12 = z_bi ((z_gP n c (n + 1) 0 [] none).2 ν).2 ∧ q_J Mc 81 13 = ((z_gP n c (n + 1) 0 [] none).2 ν).1 := fun ν hh => by
        obtain ⟨Mc2, t1, t2⟩ := zs_read (hT ν hh)
        rw [r1] at t1
        obtain rfl : Mc = Mc2 := (Prod.mk.inj (Option.some.inj t1)).2
        exact t2.2 hok
      have ff := r2.1
      have Lc := ff.1.lay Ln
      have c91 : q_I Mc 91 k = z_gN (q_I M 109) wk k (z_m (q_I M 109) 1) := by rw [ff.2.1 91 (by decide) (by decide) (by decide), In]; exact x91
      have hPc : z_PS M Ml Mc fk rt wk sem k := z_fin_PS h (Fn.tr ff.1) (fun a a1 a2 a3 => by rw [ff.2.1 a a1 a2 a3, In]) (by rw [ff.2.2.1, In]) (fun a a1 a2 a3 => by rw [ff.2.2.2 a a1 a3, Jn a a2])
      obtain ⟨v12, v13⟩ := rAll (q_J Mn 83) (fun _ _ => rfl)
      have fin : ∀ t : Int64, (∀ ν : Nat → Int64, (∀ j, j < 8 → q_J Mn 83 j = ν j) → t = (if ((z_gP n c (n + 1) 0 [] none).2 ν).2 = true then 0 else ((z_gP n c (n + 1) 0 [] none).2 ν).1)) → ∃ My, f_X7_findShares_b94 (f_X7_findShares_b35 88 r g) Mc 88 r (nI k) t = some My ∧ z_PS M Ml My fk rt wk sem 20 := by
        intro t ht
        rw [zk_put94 (M := M) (t := t) (f_X7_findShares_b35 88 r g) Lc h20 r c91]
        refine ih (k + 1) g _ (by omega) (by omega) (hPc.put ⟨fun hk => ⟨t, ?_, rfl⟩, fun hk => ?_⟩)
        · rw [hsem]
          exact fun ν hν => ht ν (fun j hj => by rw [kn hk j hj, hν j hj])
        · rw [z_gN0 hi wk hk h20 _ (Nat.le_refl _)]; rfl
      cases hnone : ((z_gP n c (n + 1) 0 [] none).2 (q_J Mn 83)).2 with
      | true =>
        rw [hnone] at v12
        obtain ⟨My, m1, m2⟩ := fin 0 (fun ν hh => by
          have q := (rAll ν hh).1
          rw [v12] at q
          cases hz : ((z_gP n c (n + 1) 0 [] none).2 ν).2 with
          | true => rfl
          | false => rw [hz] at q; exact absurd q (by decide))
        refine ⟨My, ?_, m2⟩
        simp only [f_X7_findShares_b35.eq_2, hn, if_true, zo_88 hX, Option.bind_some, (za_90 hX).2.1 k h20, z_ldv0 (show (100 : Int64) ≠ 0 by decide), hr1', if_false, pn, zo_88 Ln, r1, zo_88 Lc, zo_81 Lc, v12, show (z_bi true = 0) = False by decide, m1]
      | false =>
        rw [hnone] at v12
        obtain ⟨My, m1, m2⟩ := fin (((z_gP n c (n + 1) 0 [] none).2 (q_J Mn 83)).1) (fun ν hh => by
          obtain ⟨q, q'⟩ := rAll ν hh
          rw [v12] at q
          cases hz : ((z_gP n c (n + 1) 0 [] none).2 ν).2 with
          | true => rw [hz] at q; exact absurd q (by decide)
          | false => rw [if_neg (by decide), ← q', v13])
        refine ⟨My, ?_, m2⟩
        simp only [f_X7_findShares_b35.eq_2, hn, if_true, zo_88 hX, Option.bind_some, (za_90 hX).2.1 k h20, z_ldv0 (show (100 : Int64) ≠ 0 by decide), hr1', if_false, pn, zo_88 Ln, r1, zo_88 Lc, zo_81 Lc, v12, show (z_bi false = 0) = True by decide, v13, m1]
