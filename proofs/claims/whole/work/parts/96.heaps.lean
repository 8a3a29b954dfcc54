/-! ===== the model's heaps: pure ===== -/
/-- most heaps of the first c, by a function -/
def h_mxf (f : Nat → Nat) : Nat → Nat
  | 0 => 0
  | c + 1 => h_up1 (h_mxf f c) (f c)
theorem h_mx_take (p : List Nat) : ∀ c, c ≤ p.length → h_mx (p.take c) = h_mxf (fun c => p.getD c 0) c
  | 0, _ => by rw [List.take_zero]; rfl
  | c + 1, h => by
    rw [List.take_succ_eq_append_getElem (by omega), h_mx_snoc, h_mx_take p c (by omega), ← r_getD (by omega)]
    rfl
theorem h_mx_f (p : List Nat) : h_mx p = h_mxf (fun c => p.getD c 0) p.length := by
  have := h_mx_take p p.length (Nat.le_refl _)
  rwa [List.take_length] at this
theorem h_mx_pre (pre q : List Nat) : h_mxf (fun c => (pre ++ q).getD c 0) pre.length = h_mx pre := by
  have := h_mx_take (pre ++ q) pre.length (by rw [List.length_append]; omega)
  rw [List.take_left] at this
  exact this.symm
theorem h_rg_le {p : List Nat} (h : h_rg p) : ∀ m c, c ≤ m → c < p.length → p.getD c 0 ≤ c := by
  intro m
  induction m with
  | zero =>
    intro c hc hl
    rcases Nat.eq_zero_or_pos (p.getD c 0) with z | z
    · omega
    · obtain ⟨c', h1, h2⟩ := h c hl z
      omega
  | succ m ih =>
    intro c hc hl
    rcases Nat.eq_zero_or_pos (p.getD c 0) with z | z
    · omega
    · obtain ⟨c', h1, h2⟩ := h c hl z
      have := ih c' (by omega) (by omega)
      omega
theorem h_mx_n {p : List Nat} (h : h_rg p) : h_mx p ≤ p.length := by
  rcases Nat.lt_or_ge p.length (h_mx p) with z | z
  · obtain ⟨c, h1, h2⟩ := h_mx_ex z
    have := h_rg_le h c c (Nat.le_refl _) h1
    omega
  · exact z
theorem h_up_len : ∀ d m, (h_up d m).length = d
  | 0, _ => rfl
  | d + 1, m => by show (h_up d (m + 1)).length + 1 = d + 1; rw [h_up_len d]
theorem h_up_get : ∀ d m j, j < d → (h_up d m).getD j 0 = m + j
  | 0, _, _, h => absurd h (Nat.not_lt_zero _)
  | d + 1, m, j, h => by
    cases j with
    | zero => rfl
    | succ j =>
      have := h_up_get d (m + 1) j (by omega)
      show (h_up d (m + 1)).getD j 0 = m + (j + 1)
      omega
theorem h_orI : ∀ c, c < 10 → ∀ a, a < 2 ^ c → (nI a ||| ((1 : Int32) <<< (nI c &&& 31))) = nI (a + 2 ^ c) := by decide +kernel
/-! ===== the model's heaps: cells ===== -/
/-- scratch of the model's heaps alone is written: inHeap stays -/
def z_hI (x : Nat) (Mx My : q_Mem) : Prop := z_F1 x Mx My
theorem z_F1.smN {M Mx My : q_Mem} {x : Nat} (h : z_sm M Mx) (f : z_F1 x Mx My) (hx : 112 ≤ x) : z_sm M My := f.sm h (by unfold z_core; omega)
def z_HP (Mx : q_Mem) (p : List Nat) : Prop := ∀ c, c < p.length → q_I Mx 127 c = nI (p.getD c 0)
/-- heapSet is emptied -/
theorem zh_clr {k n : Int32} (a3 : Int32) : ∀ (d h fu : Nat) (Mx : q_Mem), h + d = 10 → d < fu → z_Lay Mx →
    ∃ My, f_X12_weighs_b5 108 n k a3 fu (nI h) Mx = f_X12_weighs_b29 108 n k q_fuel a3 (0 : Int32) My ∧ z_F1 130 Mx My ∧ (∀ j, h ≤ j → j < 10 → q_I My 130 j = 0) ∧ ∀ j, j < h → q_I My 130 j = q_I Mx 130 j := by
  intro d
  induction d with
  | zero =>
    intro h fu Mx hd hf hX
    obtain ⟨g, rfl⟩ : ∃ g, fu = g + 1 := ⟨fu - 1, by omega⟩
    have q : (nI h < (10 : Int32)) = False := eq_false (nI_nlt (b := 10) (by omega) (by omega))
    exact ⟨Mx, by simp only [f_X12_weighs_b5.eq_2, q, if_false], z_F1.rf, fun j h1 h2 => by omega, fun _ _ => rfl⟩
  | succ d ih =>
    intro h fu Mx hd hf hX
    obtain ⟨g, rfl⟩ : ∃ g, fu = g + 1 := ⟨fu - 1, by omega⟩
    have q : (nI h < (10 : Int32)) = True := eq_true (nI_lt (b := 10) (by omega) (by decide))
    have X1 : z_Lay (q_sI Mx 130 h 0) := hX
    obtain ⟨My, r1, r2, r3, r4⟩ := ih (h + 1) g (q_sI Mx 130 h 0) (by omega) (by omega) X1
    refine ⟨My, ?_, (z_F1.sI (by decide)).tr r2, fun j h1 h2 => ?_, fun j hj => ?_⟩
    · simp only [f_X12_weighs_b5.eq_2, q, if_true, zo_108 hX, (za_130 hX).2.2 h _ (show h < 10 by omega), Option.bind_some, nI_1]
      exact r1
    · rcases Nat.lt_or_ge h j with z | z
      · exact r3 j (by omega) h2
      · obtain rfl : h = j := by omega
        rw [r4 h (by omega), z_I_sI, if_pos ⟨rfl, rfl⟩]
    · rw [r4 j (by omega), z_I_sI, if_neg (by omega)]
/-- heapSet is filled -/
theorem zh_fill {k : Int32} {p : List Nat} (hr : h_rg p) (h10 : p.length ≤ 10) : ∀ (d c fu : Nat) (Mx : q_Mem), c + d = p.length → d < fu → z_Lay Mx → z_HP Mx p → (∀ h, h < 10 → q_I Mx 130 h = nI (h_mk (fun c => decide (p.getD c 0 = h)) c)) →
    ∃ My, f_X12_weighs_b29 108 (nI p.length) k fu (nI (h_mxf (fun c => p.getD c 0) c)) (nI c) Mx = f_X12_weighs_b87 My 108 (nI p.length) k (nI (h_mx p)) ∧ z_F1 130 Mx My ∧ ∀ h, h < 10 → q_I My 130 h = nI (h_M p h) := by
  intro d
  induction d with
  | zero =>
    intro c fu Mx hd hf hX hP hH
    obtain ⟨g, rfl⟩ : ∃ g, fu = g + 1 := ⟨fu - 1, by omega⟩
    obtain rfl : c = p.length := by omega
    have q : (nI p.length < nI p.length) = False := eq_false (nI_nlt (Nat.le_refl _) (by omega))
    exact ⟨Mx, by simp only [f_X12_weighs_b29.eq_2, q, if_false, ← h_mx_f], z_F1.rf, hH⟩
  | succ d ih =>
    intro c fu Mx hd hf hX hP hH
    obtain ⟨g, rfl⟩ : ∃ g, fu = g + 1 := ⟨fu - 1, by omega⟩
    have hc : c < p.length := by omega
    have q : (nI c < nI p.length) = True := eq_true (nI_lt hc (by omega))
    have hv := h_rg_le hr c c (Nat.le_refl _) hc
    have hm := h_mk_lt (fun c' => decide (p.getD c' 0 = p.getD c 0)) c
    have ho := h_orI c (by omega) _ hm
    obtain ⟨v, hvv⟩ : ∃ v, v = p.getD c 0 := ⟨_, rfl⟩
    have X1 : z_Lay (q_sI Mx 130 v (nI (h_mk (fun c' => decide (p.getD c' 0 = v)) c + 2 ^ c))) := hX
    have F1 : z_F1 130 Mx (q_sI Mx 130 v (nI (h_mk (fun c' => decide (p.getD c' 0 = v)) c + 2 ^ c))) := z_F1.sI (by decide)
    have hmx : h_mxf (fun c => p.getD c 0) c ≤ 10 := by
      rw [← h_mx_take p c (by omega)]
      rcases Nat.lt_or_ge 10 (h_mx (p.take c)) with z | z
      · obtain ⟨c', h1, h2⟩ := h_mx_ex z
        rw [List.length_take] at h1
        have e : (p.take c).getD c' 0 = p.getD c' 0 := by rw [List.getD_eq_getElem?_getD, List.getD_eq_getElem?_getD, List.getElem?_take_of_lt (by omega)]
        rw [e] at h2
        have := h_rg_le hr c' c' (Nat.le_refl _) (by omega)
        omega
      · exact z
    rw [← hvv] at hv ho
    have c127 : q_I Mx 127 c = nI v := by rw [hP c hc, hvv]
    have n127 : q_I (q_sI Mx 130 v (nI (h_mk (fun c' => decide (p.getD c' 0 = v)) c + 2 ^ c))) 127 c = nI v := by rw [q_sI_ne (by decide)]; exact c127
    have emx : h_mxf (fun c => p.getD c 0) (c + 1) = h_up1 (h_mxf (fun c => p.getD c 0) c) v := by rw [hvv]; rfl
    obtain ⟨My, r1, r2, r3⟩ := ih (c + 1) g (q_sI Mx 130 v (nI (h_mk (fun c' => decide (p.getD c' 0 = v)) c + 2 ^ c))) (by omega) (by omega) X1 (fun c' hc' => by rw [q_sI_ne (by decide)]; exact hP c' hc') (fun h hh => by
      rw [z_I_sI]
      show _ = nI (h_mk (fun c => decide (p.getD c 0 = h)) c + (if decide (p.getD c 0 = h) = true then 2 ^ c else 0))
      rw [← hvv]
      by_cases e : h = v
      · rw [if_pos ⟨rfl, e⟩, if_pos (decide_eq_true e.symm), e]
      · rw [if_neg (fun z => e z.2), if_neg (by rw [decide_eq_true_eq]; exact fun z => e z.symm), hH h hh]
        rfl)
    refine ⟨My, ?_, F1.tr r2, r3⟩
    rw [emx] at r1
    have rd := (za_130 hX).2.1 v (by omega)
    rw [hH v (by omega)] at rd
    unfold h_up1 at r1
    by_cases y : h_mxf (fun c => p.getD c 0) c < v + 1
    · rw [if_pos y] at r1
      have y2 : (nI (h_mxf (fun c => p.getD c 0) c) < nI (v + 1)) = True := eq_true (nI_lt y (by omega))
      simp only [f_X12_weighs_b29.eq_2, q, if_true, zo_108 hX, zo_108 X1, (za_127 hX).2.1 c (by omega), (za_127 X1).2.1 c (by omega), c127, n127, rd, ho, (za_130 hX).2.2 v _ (show v < 10 by omega), Option.bind_some, nI_1, y2]
      exact r1
    · rw [if_neg y] at r1
      have y2 : (nI (h_mxf (fun c => p.getD c 0) c) < nI (v + 1)) = False := eq_false (nI_nlt (by omega) (by omega))
      simp only [f_X12_weighs_b29.eq_2, q, if_true, zo_108 hX, zo_108 X1, (za_127 hX).2.1 c (by omega), (za_127 X1).2.1 c (by omega), c127, n127, rd, ho, (za_130 hX).2.2 v _ (show v < 10 by omega), Option.bind_some, nI_1, y2, if_false]
      exact r1
/-- losses are summed, sizes looked at -/
theorem zh_sum {Mx : q_Mem} (hX : z_Lay Mx) {F : Nat → Nat} {k : Nat} (k5 : k ≤ 5) {p : List Nat} (hr : h_rg p) (h10 : p.length ≤ 10) (hH : ∀ h, h < 10 → q_I Mx 130 h = nI (h_M p h)) (hF : ∀ s, 0 < s → s < 2 ^ p.length → q_J Mx 126 s = lN (F s)) : ∀ (d h fu : Nat), h + d = h_mx p → d < fu →
    f_X12_weighs_b96 Mx 108 (nI p.length) (nI k) (nI (h_mx p)) fu (lN (h_su (fun h => F (h_M p h)) (fun _ => true) h)) (if h_fb k p h = true then 1 else 0) (nI h) = f_X12_weighs_b151 Mx 108 (nI p.length) (nI (h_mx p)) (lN (h_su (fun h => F (h_M p h)) (fun _ => true) (h_mx p))) (if h_fb k p (h_mx p) = true then 1 else 0) := by
  have hmn := h_mx_n hr
  have h1024 : 2 ^ p.length ≤ 1024 := Nat.pow_le_pow_right (n := 2) (by decide) h10
  intro d
  induction d with
  | zero =>
    intro h fu hd hf
    obtain ⟨g, rfl⟩ : ∃ g, fu = g + 1 := ⟨fu - 1, by omega⟩
    obtain rfl : h = h_mx p := by omega
    have q : (nI (h_mx p) < nI (h_mx p)) = False := eq_false (nI_nlt (Nat.le_refl _) (by omega))
    simp only [f_X12_weighs_b96.eq_2, q, if_false]
  | succ d ih =>
    intro h fu hd hf
    obtain ⟨g, rfl⟩ : ∃ g, fu = g + 1 := ⟨fu - 1, by omega⟩
    have q : (nI h < nI (h_mx p)) = True := eq_true (nI_lt (by omega) (by omega))
    obtain ⟨a1, a2, a3, a4, a5, a6⟩ := h_dec (F := F) hr h10 (show h < h_mx p by omega)
    have m0 : 0 < h_M p h := by
      rcases Nat.eq_zero_or_pos (h_M p h) with z | z
      · rw [z, Nat.zero_testBit] at a4
        cases a4
      · exact z
    have m1 : h_M p h < 2 ^ p.length := h_mk_lt _ _
    have r1 := (za_130 hX).2.1 h (by omega)
    rw [hH h (by omega)] at r1
    have r2 := (za_126 hX).2.1 (h_M p h) (by omega)
    rw [hF _ m0 m1] at r2
    have sz : f_X12_sizeOf Mx (nI (h_M p h)) = some (nI (r_pc 20 (h_M p h))) := by
      have := z_sizeOf (M := Mx) 20 q_fuel 0 (h_M p h) (by omega) (by omega) (by unfold q_fuel; omega)
      rw [Nat.zero_add] at this
      exact this
    have pcl := h_pc20 (h_M p h)
    have ih1 := ih (h + 1) g (by omega) (by omega)
    have es : h_su (fun h => F (h_M p h)) (fun _ => true) (h + 1) = h_su (fun h => F (h_M p h)) (fun _ => true) h + F (h_M p h) := rfl
    have ef : h_fb k p (h + 1) = (h_fb k p h && decide (r_pc 20 (h_M p h) ≤ k)) := rfl
    rw [es, ef] at ih1
    cases e : h_fb k p h with
    | false =>
      rw [e, Bool.false_and] at ih1
      have z1 : (if false = true then (1 : Int32) else 0) = 0 := if_neg (by decide)
      rw [z1] at ih1 ⊢
      simp only [f_X12_weighs_b96.eq_2, q, if_true, zo_108 hX, r1, r2, Option.bind_some, lN_add, nI_1]
      exact ih1
    | true =>
      rw [e, Bool.true_and] at ih1
      have z1 : (if true = true then (1 : Int32) else 0) = 1 := if_pos rfl
      have z2 : ((1 : Int32) = 0) = False := by decide
      rw [z1]
      by_cases y : r_pc 20 (h_M p h) ≤ k
      · have y2 : (nI k < nI (r_pc 20 (h_M p h))) = False := eq_false (nI_nlt y (by omega))
        rw [decide_eq_true y, z1] at ih1
        simp only [f_X12_weighs_b96.eq_2, q, if_true, zo_108 hX, r1, r2, Option.bind_some, z2, if_false, sz, y2, lN_add, nI_1]
        exact ih1
      · have y2 : (nI k < nI (r_pc 20 (h_M p h))) = True := eq_true (nI_lt (by omega) (by omega))
        rw [decide_eq_false y, if_neg (show ¬ false = true by decide)] at ih1
        simp only [f_X12_weighs_b96.eq_2, q, if_true, zo_108 hX, r1, r2, Option.bind_some, z2, if_false, sz, y2, lN_add, nI_1]
        exact ih1
/-- the best so far as the model's cells have it -/
def z_BH (F : Nat → Nat) (n : Nat) (b : Option (List Nat)) (Mx : q_Mem) : Prop := match b with
  | none => q_J Mx 108 29 = -1
  | some w => q_J Mx 108 29 = lN (h_val F w).1 ∧ q_I Mx 108 30 = nI (h_val F w).2.1 ∧ (h_val F w).1 < 4294967296 ∧ (h_val F w).2.1 < 100 ∧ ∀ c, c < n → q_I Mx 129 c = nI (w.getD c 0)
theorem z_BH.cong {F : Nat → Nat} {n : Nat} {b : Option (List Nat)} {Mx My : q_Mem} (h : z_BH F n b Mx) (h1 : q_I My 108 = q_I Mx 108) (h2 : q_I My 129 = q_I Mx 129) (h3 : q_J My 108 = q_J Mx 108) : z_BH F n b My := by
  cases b with
  | none => show q_J My 108 29 = -1; rw [h3]; exact h
  | some w => exact ⟨by rw [h3]; exact h.1, by rw [h1]; exact h.2.1, h.2.2.1, h.2.2.2.1, fun c hc => by rw [h2]; exact h.2.2.2.2 c hc⟩
theorem zh_cp {n : Nat} (h10 : n ≤ 10) : ∀ (d c fu : Nat) (Mx : q_Mem), c + d = n → d < fu → z_Lay Mx → ∃ My, f_X12_weighs_b208 108 (nI n) fu (nI c) Mx = some My ∧ z_F1 129 Mx My ∧ (∀ j, j < c → q_I My 129 j = q_I Mx 129 j) ∧ ∀ j, c ≤ j → j < n → q_I My 129 j = q_I Mx 127 j := by
  intro d
  induction d with
  | zero =>
    intro c fu Mx hd hf hX
    obtain ⟨g, rfl⟩ : ∃ g, fu = g + 1 := ⟨fu - 1, by omega⟩
    have q : (nI c < nI n) = False := eq_false (nI_nlt (by omega) (by omega))
    exact ⟨Mx, by simp only [f_X12_weighs_b208.eq_2, q, if_false], z_F1.rf, fun _ _ => rfl, fun j h1 h2 => by omega⟩
  | succ d ih =>
    intro c fu Mx hd hf hX
    obtain ⟨g, rfl⟩ : ∃ g, fu = g + 1 := ⟨fu - 1, by omega⟩
    have q : (nI c < nI n) = True := eq_true (nI_lt (by omega) (by omega))
    have X1 : z_Lay (q_sI Mx 129 c (q_I Mx 127 c)) := hX
    obtain ⟨My, r1, r2, r3, r4⟩ := ih (c + 1) g (q_sI Mx 129 c (q_I Mx 127 c)) (by omega) (by omega) X1
    refine ⟨My, ?_, (z_F1.sI (by decide)).tr r2, fun j hj => ?_, fun j h1 h2 => ?_⟩
    · simp only [f_X12_weighs_b208.eq_2, q, if_true, zo_108 hX, (za_127 hX).2.1 c (by omega), (za_129 hX).2.2 c _ (show c < 10 by omega), Option.bind_some, nI_1]
      exact r1
    · rw [r3 j (by omega), z_I_sI, if_neg (by omega)]
    · by_cases e : j = c
      · rw [r3 j (by omega), z_I_sI, if_pos ⟨rfl, e⟩, e]
      · rw [r4 j (by omega) h2, q_sI_ne (by decide)]
/-- one row of heaps is weighed -/
theorem zh_weighs {M Mx : q_Mem} (hi : z_Inv M) (hS : z_sm M Mx) {F : Nat → Nat} (hFb : ∀ s, F s ≤ 10000000) {k : Nat} (k5 : k ≤ 5) {p : List Nat} (hr : h_rg p) (h10 : p.length ≤ 10) (hP : z_HP Mx p) (hF : ∀ s, 0 < s → s < 2 ^ p.length → q_J Mx 126 s = lN (F s)) {b : Option (List Nat)} (hB : z_BH F p.length b Mx) :
    ∃ My, f_X12_weighs Mx 108 (nI p.length) (nI k) = some My ∧ z_sm M My ∧ z_HP My p ∧ (∀ s, 0 < s → s < 2 ^ p.length → q_J My 126 s = lN (F s)) ∧ z_BH F p.length (h_stp F k b p) My := by
  have hX := (hi.sm hS).1
  have hmn := h_mx_n hr
  obtain ⟨M1, a1, a2, a3, -⟩ := zh_clr (k := nI k) (n := nI p.length) (0 : Int32) 10 0 q_fuel Mx rfl (z_fu (by decide)) hX
  have a1 : f_X12_weighs_b5 108 (nI p.length) (nI k) (0 : Int32) q_fuel (0 : Int32) Mx = _ := a1
  have X1 : z_Lay M1 := a2.1.lay hX
  obtain ⟨M2, b1, b2, b3⟩ := zh_fill (k := nI k) hr h10 p.length 0 q_fuel M1 (by omega) (z_fu (by omega)) X1 (fun c hc => by rw [a2.2.1 127 (by decide)]; exact hP c hc) (fun h hh => by rw [a3 h (Nat.zero_le _) hh]; rfl)
  have b1 : f_X12_weighs_b29 108 (nI p.length) (nI k) q_fuel (0 : Int32) (0 : Int32) M1 = _ := b1
  have F12 : z_F1 130 Mx M2 := a2.tr b2
  have X2 : z_Lay M2 := b2.1.lay X1
  have S2 : z_sm M M2 := z_F1.smN hS F12 (by decide)
  have P2 : z_HP M2 p := fun c hc => by rw [F12.2.1 127 (by decide)]; exact hP c hc
  have hF2 : ∀ s, 0 < s → s < 2 ^ p.length → q_J M2 126 s = lN (F s) := fun s h1 h2 => by rw [F12.2.2]; exact hF s h1 h2
  have B2 : z_BH F p.length b M2 := hB.cong (F12.2.1 108 (by decide)) (F12.2.1 129 (by decide)) (by rw [F12.2.2])
  have sm := zh_sum X2 k5 hr h10 b3 hF2 (h_mx p) 0 q_fuel (by omega) (z_fu (by omega))
  have sm : f_X12_weighs_b96 M2 108 (nI p.length) (nI k) (nI (h_mx p)) q_fuel (0 : Int64) (1 : Int32) (0 : Int32) = _ := sm
  have pre : f_X12_weighs Mx 108 (nI p.length) (nI k) = f_X12_weighs_b151 M2 108 (nI p.length) (nI (h_mx p)) (lN (h_su (fun h => F (h_M p h)) (fun _ => true) (h_mx p))) (if h_fb k p (h_mx p) = true then 1 else 0) := by
    unfold f_X12_weighs
    rw [zob_108 hX, a1, b1]
    unfold f_X12_weighs_b87
    exact sm
  have ub : ∀ m, h_su (fun h => F (h_M p h)) (fun _ => true) m ≤ 10000000 * m := by
    intro m
    induction m with
    | zero => exact Nat.zero_le _
    | succ m ih =>
      have := hFb (h_M p m)
      show h_su (fun h => F (h_M p h)) (fun _ => true) m + F (h_M p m) ≤ _
      omega
  have ubp := ub (h_mx p)
  have e1 : h_su (fun h => F (h_M p h)) (fun _ => true) (h_mx p) = (h_val F p).1 := rfl
  have e2 : (h_val F p).2.1 = h_mx p := rfl
  rw [e1] at pre ubp
  -- the row is put down as the best
  have put : ∃ My, f_X12_weighs_b194 M2 108 (nI p.length) (nI (h_mx p)) (lN (h_val F p).1) = some My ∧ z_sm M My ∧ z_HP My p ∧ (∀ s, 0 < s → s < 2 ^ p.length → q_J My 126 s = lN (F s)) ∧ z_BH F p.length (some p) My := by
    have X3 : z_Lay (q_sJ M2 108 29 (lN (h_val F p).1)) := X2
    have X4 : z_Lay (q_sI (q_sJ M2 108 29 (lN (h_val F p).1)) 108 30 (nI (h_mx p))) := X2
    obtain ⟨My, c1, c2, c3, c4⟩ := zh_cp h10 p.length 0 q_fuel (q_sI (q_sJ M2 108 29 (lN (h_val F p).1)) 108 30 (nI (h_mx p))) (by omega) (z_fu (by omega)) X4
    have c1 : f_X12_weighs_b208 108 (nI p.length) q_fuel (0 : Int32) (q_sI (q_sJ M2 108 29 (lN (h_val F p).1)) 108 30 (nI (h_mx p))) = _ := c1
    have S4 : z_sm M (q_sI (q_sJ M2 108 29 (lN (h_val F p).1)) 108 30 (nI (h_mx p))) := (S2.tr (z_sm.sJ (by decide))).tr (z_sm.sI (by unfold z_core; omega))
    refine ⟨My, ?_, z_F1.smN S4 c2 (by decide), fun c hc => ?_, fun s h1 h2 => ?_, ?_, ?_, by omega, by omega, fun c hc => ?_⟩
    · simp only [f_X12_weighs_b194, zo_108 X2, zo_108 X3, Option.bind_some, c1]
    · rw [c2.2.1 127 (by decide), q_sI_ne (by decide), z_I_sJ]
      exact P2 c hc
    · rw [c2.2.2]
      show q_J (q_sJ M2 108 29 (lN (h_val F p).1)) 126 s = _
      rw [q_sJ_ne (by decide)]
      exact hF2 s h1 h2
    · rw [c2.2.2]
      show q_J (q_sJ M2 108 29 (lN (h_val F p).1)) 108 29 = _
      rw [z_J_sJ, if_pos ⟨rfl, rfl⟩]
    · rw [c2.2.1 108 (by decide), z_I_sI, if_pos ⟨rfl, rfl⟩, e2]
    · rw [c4 c (Nat.zero_le _) hc, q_sI_ne (by decide), z_I_sJ]
      exact P2 c hc
  rw [pre]
  unfold h_stp
  cases e : h_fb k p (h_mx p) with
  | false =>
    have z1 : (if false = true then (1 : Int32) else 0) = 0 := if_neg (by decide)
    rw [z1, if_neg (show ¬ false = true by decide)]
    exact ⟨M2, by simp only [f_X12_weighs_b151, if_true], S2, P2, hF2, B2⟩
  | true =>
    have z1 : (if true = true then (1 : Int32) else 0) = 1 := if_pos rfl
    have z2 : ((1 : Int32) = 0) = False := by decide
    rw [z1, if_pos rfl]
    cases b with
    | none =>
      have B2 : q_J M2 108 29 = -1 := B2
      have n1 : ((-1 : Int64) < 0) = True := by decide
      obtain ⟨My, r1, r2⟩ := put
      refine ⟨My, ?_, r2⟩
      simp only [f_X12_weighs_b151, z2, if_false, zo_108 X2, B2, Option.bind_some, n1, if_true, r1]
    | some w =>
      obtain ⟨w1, w2, w3, w4, w5⟩ := B2
      have n1 : (lN (h_val F w).1 < (0 : Int64)) = False := eq_false (fun z => by
        have := (pk_lLT (a := (h_val F w).1) (b := 0) (by omega) (by decide)).mp z
        omega)
      have l1 : (lN (h_val F p).1 < lN (h_val F w).1) = ((h_val F p).1 < (h_val F w).1) := propext (pk_lLT (by omega) (by omega))
      have l2 : (lN (h_val F p).1 = lN (h_val F w).1) = ((h_val F p).1 = (h_val F w).1) := propext (pk_lEQ (by omega) (by omega))
      have l3 : (nI (h_mx p) < nI (h_val F w).2.1) = (h_mx p < (h_val F w).2.1) := propext (nI_ltI (by omega) (by omega))
      have stp : f_X12_weighs_b151 M2 108 (nI p.length) (nI (h_mx p)) (lN (h_val F p).1) (1 : Int32) = if (h_val F p).1 < (h_val F w).1 then f_X12_weighs_b194 M2 108 (nI p.length) (nI (h_mx p)) (lN (h_val F p).1) else if (h_val F p).1 = (h_val F w).1 then (if h_mx p < (h_val F w).2.1 then f_X12_weighs_b194 M2 108 (nI p.length) (nI (h_mx p)) (lN (h_val F p).1) else some M2) else some M2 := by
        simp only [f_X12_weighs_b151, z2, if_false, zo_108 X2, w1, w2, Option.bind_some, n1, l1, l2, l3]
      rw [stp]
      have stay : ∃ My, some M2 = some My ∧ z_sm M My ∧ z_HP My p ∧ (∀ s, 0 < s → s < 2 ^ p.length → q_J My 126 s = lN (F s)) ∧ z_BH F p.length (some w) My := ⟨M2, rfl, S2, P2, hF2, w1, w2, w3, w4, w5⟩
      dsimp only
      rw [e2]
      by_cases y1 : (h_val F p).1 < (h_val F w).1
      · rw [if_pos y1]
        rw [if_pos (show (h_val F p).1 < (h_val F w).1 ∨ ((h_val F p).1 = (h_val F w).1 ∧ h_mx p < (h_val F w).2.1) from Or.inl y1)]
        exact put
      · rw [if_neg y1]
        by_cases y2 : (h_val F p).1 = (h_val F w).1
        · rw [if_pos y2]
          by_cases y3 : h_mx p < (h_val F w).2.1
          · rw [if_pos y3]
            rw [if_pos (show (h_val F p).1 < (h_val F w).1 ∨ ((h_val F p).1 = (h_val F w).1 ∧ h_mx p < (h_val F w).2.1) from Or.inr ⟨y2, y3⟩)]
            exact put
          · rw [if_neg y3]
            rw [if_neg (show ¬ ((h_val F p).1 < (h_val F w).1 ∨ ((h_val F p).1 = (h_val F w).1 ∧ h_mx p < (h_val F w).2.1)) from fun z => z.elim y1 (fun z => y3 z.2))]
            exact stay
        · rw [if_neg y2]
          rw [if_neg (show ¬ ((h_val F p).1 < (h_val F w).1 ∨ ((h_val F p).1 = (h_val F w).1 ∧ h_mx p < (h_val F w).2.1)) from fun z => z.elim y1 (fun z => y2 z.1))]
          exact stay
