/-! ===== the model's heaps: the next row ===== -/
theorem h_mxf_le {f : Nat → Nat} {n : Nat} (h : ∀ c, c < n → f c ≤ c) : ∀ c, c ≤ n → h_mxf f c ≤ c
  | 0, _ => Nat.le_refl _
  | c + 1, hc => h_up1_le (by have := h_mxf_le h c (by omega); omega) (by have := h c (by omega); omega)
theorem zh_tops {f : Nat → Nat} {n : Nat} (h10 : n ≤ 10) (hf : ∀ c, c < n → f c ≤ c) : ∀ (d c fu : Nat) (Mx : q_Mem), c + d = n → d < fu → z_Lay Mx → (∀ j, j < n → q_I Mx 127 j = nI (f j)) → (∀ j, j < c → q_I Mx 128 j = nI (h_mxf f j)) →
    ∃ My, f_X12_nextHeaps_b4 108 (nI n) fu (nI (h_mxf f c)) (nI c) Mx = f_X12_nextHeaps_b51 My 108 (nI n) q_fuel (nI n - (1 : Int32)) ∧ z_F1 128 Mx My ∧ ∀ j, j < n → q_I My 128 j = nI (h_mxf f j) := by
  intro d
  induction d with
  | zero =>
    intro c fu Mx hd hf' hX hP hH
    obtain ⟨g, rfl⟩ : ∃ g, fu = g + 1 := ⟨fu - 1, by omega⟩
    have q : (nI c < nI n) = False := eq_false (nI_nlt (by omega) (by omega))
    exact ⟨Mx, by simp only [f_X12_nextHeaps_b4.eq_2, q, if_false], z_F1.rf, fun j hj => hH j (by omega)⟩
  | succ d ih =>
    intro c fu Mx hd hf' hX hP hH
    obtain ⟨g, rfl⟩ : ∃ g, fu = g + 1 := ⟨fu - 1, by omega⟩
    have hc : c < n := by omega
    have q : (nI c < nI n) = True := eq_true (nI_lt hc (by omega))
    have b1 := hf c hc
    have b2 := h_mxf_le hf c (by omega)
    have X1 : z_Lay (q_sI Mx 128 c (nI (h_mxf f c))) := hX
    have F1 : z_F1 128 Mx (q_sI Mx 128 c (nI (h_mxf f c))) := z_F1.sI (by decide)
    have r127 : q_I (q_sI Mx 128 c (nI (h_mxf f c))) 127 c = nI (f c) := by rw [q_sI_ne (by decide)]; exact hP c hc
    obtain ⟨My, r1, r2, r3⟩ := ih (c + 1) g (q_sI Mx 128 c (nI (h_mxf f c))) (by omega) (by omega) X1 (fun j hj => by rw [q_sI_ne (by decide)]; exact hP j hj) (fun j hj => by
      rw [z_I_sI]
      by_cases e : j = c
      · rw [if_pos ⟨rfl, e⟩, e]
      · rw [if_neg (fun z => e z.2)]
        exact hH j (by omega))
    refine ⟨My, ?_, F1.tr r2, r3⟩
    have em : h_mxf f (c + 1) = h_up1 (h_mxf f c) (f c) := rfl
    rw [em] at r1
    unfold h_up1 at r1
    by_cases y : h_mxf f c < f c + 1
    · rw [if_pos y] at r1
      have y2 : (nI (h_mxf f c) < nI (f c + 1)) = True := eq_true (nI_lt y (by omega))
      simp only [f_X12_nextHeaps_b4.eq_2, q, if_true, zo_108 hX, zo_108 X1, (za_128 hX).2.2 c _ (show c < 10 by omega), (za_127 X1).2.1 c (by omega), r127, Option.bind_some, nI_1, y2]
      exact r1
    · rw [if_neg y] at r1
      have y2 : (nI (h_mxf f c) < nI (f c + 1)) = False := eq_false (nI_nlt (by omega) (by omega))
      simp only [f_X12_nextHeaps_b4.eq_2, q, if_true, zo_108 hX, zo_108 X1, (za_128 hX).2.2 c _ (show c < 10 by omega), (za_127 X1).2.1 c (by omega), r127, Option.bind_some, nI_1, y2, if_false]
      exact r1
/-- down over those that can't grow -/
theorem zh_down {f : Nat → Nat} {n : Nat} (h10 : n ≤ 10) (hf : ∀ c, c < n → f c ≤ c) {My : q_Mem} (hX : z_Lay My) (hP : ∀ j, j < n → q_I My 127 j = nI (f j)) (hH : ∀ j, j < n → q_I My 128 j = nI (h_mxf f j)) (c0 : Nat) : ∀ (d fu : Nat), c0 + d < n → d < fu → (∀ j, c0 < j → j ≤ c0 + d → ¬ f j < h_mxf f j) → ∃ g, f_X12_nextHeaps_b51 My 108 (nI n) fu (nI (c0 + d)) = f_X12_nextHeaps_b51 My 108 (nI n) (g + 1) (nI c0) := by
  intro d
  induction d with
  | zero =>
    intro fu hd hf' _
    exact ⟨fu - 1, by rw [show fu - 1 + 1 = fu by omega]; rfl⟩
  | succ d ih =>
    intro fu hd hf' hj
    obtain ⟨g, rfl⟩ : ∃ g, fu = g + 1 := ⟨fu - 1, by omega⟩
    have b1 := hf (c0 + (d + 1)) (by omega)
    have b2 := h_mxf_le hf (c0 + (d + 1)) (by omega)
    have q : ((0 : Int32) < nI (c0 + (d + 1))) = True := eq_true (nI_lt (a := 0) (by omega) (by omega))
    have y : (nI (f (c0 + (d + 1))) < nI (h_mxf f (c0 + (d + 1)))) = False := eq_false (nI_nlt (by have := hj (c0 + (d + 1)) (by omega) (Nat.le_refl _); omega) (by omega))
    obtain ⟨g', hg⟩ := ih g (by omega) (by omega) (fun j h1 h2 => hj j h1 (by omega))
    refine ⟨g', ?_⟩
    rw [← hg]
    simp only [f_X12_nextHeaps_b51.eq_2, q, if_true, zo_108 hX, (za_127 hX).2.1 (c0 + (d + 1)) (by omega), (za_128 hX).2.1 (c0 + (d + 1)) (by omega), hP _ hd, hH _ hd, Option.bind_some, y, if_false]
    rw [show c0 + (d + 1) = (c0 + d) + 1 by omega, pk_m1]
theorem zh_zero {n : Nat} (h10 : n ≤ 10) : ∀ (d c fu : Nat) (Mx : q_Mem), c + d = n → d < fu → z_Lay Mx → ∃ My, f_X12_nextHeaps_b85 108 (nI n) fu (nI c) Mx = some ((1 : Int32), My) ∧ z_F1 127 Mx My ∧ (∀ j, j < c → q_I My 127 j = q_I Mx 127 j) ∧ ∀ j, c ≤ j → j < n → q_I My 127 j = 0 := by
  intro d
  induction d with
  | zero =>
    intro c fu Mx hd hf hX
    obtain ⟨g, rfl⟩ : ∃ g, fu = g + 1 := ⟨fu - 1, by omega⟩
    have q : (nI c < nI n) = False := eq_false (nI_nlt (by omega) (by omega))
    exact ⟨Mx, by simp only [f_X12_nextHeaps_b85.eq_2, q, if_false], z_F1.rf, fun _ _ => rfl, fun j h1 h2 => by omega⟩
  | succ d ih =>
    intro c fu Mx hd hf hX
    obtain ⟨g, rfl⟩ : ∃ g, fu = g + 1 := ⟨fu - 1, by omega⟩
    have q : (nI c < nI n) = True := eq_true (nI_lt (by omega) (by omega))
    have X1 : z_Lay (q_sI Mx 127 c 0) := hX
    obtain ⟨My, r1, r2, r3, r4⟩ := ih (c + 1) g (q_sI Mx 127 c 0) (by omega) (by omega) X1
    refine ⟨My, ?_, (z_F1.sI (by decide)).tr r2, fun j hj => ?_, fun j h1 h2 => ?_⟩
    · simp only [f_X12_nextHeaps_b85.eq_2, q, if_true, zo_108 hX, (za_127 hX).2.2 c _ (show c < 10 by omega), Option.bind_some, nI_1]
      exact r1
    · rw [r3 j (by omega), z_I_sI, if_neg (by omega)]
    · by_cases e : j = c
      · rw [r3 j (by omega), z_I_sI, if_pos ⟨rfl, e⟩]
      · exact r4 j (by omega) h2
/-- only the rows' cells are written -/
def z_h2 (Mx My : q_Mem) : Prop := z_FR Mx My ∧ (∀ a, a ≠ 127 → a ≠ 128 → q_I My a = q_I Mx a) ∧ q_J My = q_J Mx
theorem z_h2.sm {M Mx My : q_Mem} (h : z_sm M Mx) (f : z_h2 Mx My) : z_sm M My := h.tr ⟨f.1, fun a ha => f.2.1 a (fun z => by rw [z] at ha; unfold z_core at ha; omega) (fun z => by rw [z] at ha; unfold z_core at ha; omega)⟩
theorem zh_next {Mx : q_Mem} (hX : z_Lay Mx) {p p' : List Nat} (hN : h_Nx p p') (hr : h_rg p) (h10 : p.length ≤ 10) (hP : z_HP Mx p) : ∃ My, f_X12_nextHeaps Mx 108 (nI p.length) = some ((1 : Int32), My) ∧ z_h2 Mx My ∧ z_HP My p' := by
  have hf : ∀ c, c < p.length → (fun c => p.getD c 0) c ≤ c := fun c hc => h_rg_le hr c c (Nat.le_refl _) hc
  obtain ⟨M1, a1, a2, a3⟩ := zh_tops (f := fun c => p.getD c 0) h10 hf p.length 0 q_fuel Mx (by omega) (z_fu (by omega)) hX hP (fun j hj => absurd hj (Nat.not_lt_zero _))
  have a1 : f_X12_nextHeaps_b4 108 (nI p.length) q_fuel (0 : Int32) (0 : Int32) Mx = _ := a1
  have X1 : z_Lay M1 := a2.1.lay hX
  have P1 : ∀ j, j < p.length → q_I M1 127 j = nI ((fun c => p.getD c 0) j) := fun j hj => by rw [a2.2.1 127 (by decide)]; exact hP j hj
  obtain ⟨pre, x, d, e1, e2, hx, -⟩ := hN
  have hl : p.length = pre.length + (d + 1) := by rw [e1, List.length_append, List.length_cons, h_up_len]
  have hl' : p'.length = pre.length + (d + 1) := by rw [e2, List.length_append, List.length_cons, List.length_replicate]
  have m0 : h_mxf (fun c => p.getD c 0) pre.length = h_mx pre := by rw [e1]; exact h_mx_pre pre _
  have c0 : 0 < pre.length := by
    rcases Nat.eq_zero_or_pos pre.length with z | z
    · rw [List.length_eq_zero_iff.mp z] at hx
      exact absurd hx (Nat.not_lt_zero _)
    · exact z
  have px : p.getD pre.length 0 = x := by rw [e1, r_app2 (Nat.le_refl _), Nat.sub_self]; rfl
  have pj : ∀ j, j < d → p.getD (pre.length + 1 + j) 0 = h_mx pre + j := fun j hj => by
    rw [e1, r_app2 (by omega), show pre.length + 1 + j - pre.length = j + 1 by omega]
    exact h_up_get d (h_mx pre) j hj
  have mj : ∀ j, j ≤ d → h_mxf (fun c => p.getD c 0) (pre.length + 1 + j) = h_mx pre + j := by
    intro j
    induction j with
    | zero =>
      intro _
      show h_up1 (h_mxf (fun c => p.getD c 0) pre.length) (p.getD pre.length 0) = _
      rw [m0, px]
      exact if_neg (by omega)
    | succ j ih =>
      intro hj
      show h_up1 (h_mxf (fun c => p.getD c 0) (pre.length + 1 + j)) (p.getD (pre.length + 1 + j) 0) = _
      rw [ih (by omega), pj j (by omega)]
      exact if_pos (by omega)
  obtain ⟨g, dn⟩ := zh_down h10 hf X1 P1 a3 pre.length d q_fuel (by omega) (z_fu (by omega)) (fun j h1 h2 => by
    obtain ⟨j', rfl⟩ : ∃ j', j = pre.length + 1 + j' := ⟨j - pre.length - 1, by omega⟩
    rw [mj j' (by omega)]
    show ¬ p.getD (pre.length + 1 + j') 0 < _
    rw [pj j' (by omega)]
    omega)
  have en : nI p.length - (1 : Int32) = nI (pre.length + d) := by rw [hl, show pre.length + (d + 1) = (pre.length + d) + 1 by omega]; exact nI_pred _
  have mxl := h_mxf_le hf pre.length (by omega)
  rw [m0] at mxl
  have q : ((0 : Int32) < nI pre.length) = True := eq_true (nI_lt (a := 0) c0 (by omega))
  have y : (nI x < nI (h_mx pre)) = True := eq_true (nI_lt hx (by omega))
  have c127 : q_I M1 127 pre.length = nI x := by rw [P1 _ (by omega)]; show nI (p.getD pre.length 0) = _; rw [px]
  have c128 : q_I M1 128 pre.length = nI (h_mx pre) := by rw [a3 _ (by omega), m0]
  have X2 : z_Lay (q_sI M1 127 pre.length (nI (x + 1))) := X1
  obtain ⟨My, b1, b2, b3, b4⟩ := zh_zero (n := p.length) h10 d (pre.length + 1) q_fuel (q_sI M1 127 pre.length (nI (x + 1))) (by omega) (z_fu (by omega)) X2
  refine ⟨My, ?_, ⟨(a2.1.tr (z_FR.sI (by decide))).tr b2.1, fun a h1 h2 => ?_, ?_⟩, fun c hc => ?_⟩
  · unfold f_X12_nextHeaps
    rw [zob_108 hX, a1, en, dn]
    simp only [f_X12_nextHeaps_b51.eq_2, f_X12_nextHeaps_b70, q, if_true, zo_108 X1, (za_127 X1).2.1 pre.length (by omega), (za_128 X1).2.1 pre.length (by omega), c127, c128, Option.bind_some, y, (za_127 X1).2.2 pre.length _ (show pre.length < 10 by omega), nI_1]
    exact b1
  · rw [b2.2.1 a h1, q_sI_ne h1, a2.2.1 a h2]
  · rw [b2.2.2]
    show q_J M1 = _
    rw [a2.2.2]
  · rw [hl'] at hc
    rcases Nat.lt_trichotomy c pre.length with z | z | z
    · rw [b3 c (by omega), z_I_sI, if_neg (by omega), a2.2.1 127 (by decide), hP c (by omega), e1, e2, r_app1 z, r_app1 z]
    · subst z
      rw [b3 _ (by omega), z_I_sI, if_pos ⟨rfl, rfl⟩, e2, r_app2 (Nat.le_refl _), Nat.sub_self]
      rfl
    · rw [b4 c (by omega) (by omega), e2, r_app2 (by omega)]
      obtain ⟨j, hj⟩ : ∃ j, c - pre.length = j + 1 := ⟨c - pre.length - 1, by omega⟩
      rw [hj]
      show _ = nI ((List.replicate d 0).getD j 0)
      have : (List.replicate d 0).getD j 0 = 0 := by
        rw [List.getD_eq_getElem?_getD, List.getElem?_replicate]
        split <;> rfl
      rw [this]
      rfl
theorem zh_last {Mx : q_Mem} (hX : z_Lay Mx) {n : Nat} (n0 : 0 < n) (h10 : n ≤ 10) (hP : z_HP Mx (h_up n 0)) : ∃ My, f_X12_nextHeaps Mx 108 (nI n) = some ((0 : Int32), My) ∧ z_h2 Mx My := by
  have hl := h_up_len n 0
  have hf : ∀ c, c < n → (fun c => c) c ≤ c := fun c hc => Nat.le_refl _
  have hP' : ∀ j, j < n → q_I Mx 127 j = nI ((fun c => c) j) := fun j hj => by
    rw [hP j (by omega), h_up_get n 0 j hj, Nat.zero_add]
  obtain ⟨M1, a1, a2, a3⟩ := zh_tops (f := fun c => c) h10 hf n 0 q_fuel Mx (by omega) (z_fu (by omega)) hX hP' (fun j hj => absurd hj (Nat.not_lt_zero _))
  have a1 : f_X12_nextHeaps_b4 108 (nI n) q_fuel (0 : Int32) (0 : Int32) Mx = _ := a1
  have X1 : z_Lay M1 := a2.1.lay hX
  have P1 : ∀ j, j < n → q_I M1 127 j = nI ((fun c => c) j) := fun j hj => by rw [a2.2.1 127 (by decide)]; exact hP' j hj
  obtain ⟨g, dn⟩ := zh_down h10 hf X1 P1 a3 0 (n - 1) q_fuel (by omega) (z_fu (by omega)) (fun j h1 h2 => by
    have := h_mxf_le hf j (by omega)
    show ¬ j < _
    omega)
  have en : nI n - (1 : Int32) = nI (0 + (n - 1)) := by rw [show 0 + (n - 1) = n - 1 by omega]; exact pk_sub (b := 1) n0
  refine ⟨M1, ?_, ⟨a2.1, fun a _ h2 => a2.2.1 a h2, a2.2.2⟩⟩
  unfold f_X12_nextHeaps
  rw [zob_108 hX, a1, en, dn, f_X12_nextHeaps_b51.eq_2, if_neg (show ¬ (0 : Int32) < nI 0 from nI_nlt (a := 0) (b := 0) (Nat.le_refl _) (by decide))]
/-- all rows -/
theorem zh_rows {M : q_Mem} (hi : z_Inv M) {F : Nat → Nat} (hFb : ∀ s, F s ≤ 10000000) {k n : Nat} (k5 : k ≤ 5) (n0 : 0 < n) (h10 : n ≤ 10) : ∀ (P : List (List Nat)) (a : List Nat) (b : Option (List Nat)) (fu : Nat) (Mx : q_Mem), h_ok P a (h_up n 0) → (∀ p ∈ P, p.length = n ∧ h_rg p) → P.length < fu → z_sm M Mx → z_HP Mx a → (∀ s, 0 < s → s < 2 ^ n → q_J Mx 126 s = lN (F s)) → z_BH F n b Mx →
    ∃ My, f_X12_findHeaps_b76 108 (nI k) (nI n) fu (1 : Int32) Mx = some My ∧ z_sm M My ∧ z_BH F n (P.foldl (h_stp F k) b) My := by
  have n10 : ¬ ((1 : Int32) = 0) := by decide
  intro P
  induction P with
  | nil => intro a b fu Mx h; exact absurd h (fun x => x)
  | cons p P ih =>
    intro a b fu Mx hok hP hf hS hA hF hB
    obtain ⟨g, rfl⟩ : ∃ g, fu = g + 1 := ⟨fu - 1, by omega⟩
    obtain ⟨k1, k2⟩ := hP p List.mem_cons_self
    obtain ⟨rfl, h2⟩ := hok
    subst k1
    obtain ⟨M1, r1, r2, r3, r4, r5⟩ := zh_weighs hi hS hFb k5 k2 h10 hA hF hB
    have X1 := (hi.sm r2).1
    rw [List.foldl_cons]
    rcases h2 with ⟨rfl, e⟩ | ⟨b', h3, h4⟩
    · have hz : z_HP M1 (h_up p.length 0) := by rw [← e]; exact r3
      obtain ⟨My, s1, s2⟩ := zh_last X1 n0 h10 hz
      obtain ⟨g', rfl⟩ : ∃ g', g = g' + 1 := ⟨g - 1, by simp only [List.length_cons, List.length_nil] at hf; omega⟩
      refine ⟨My, ?_, z_h2.sm r2 s2, r5.cong (s2.2.1 108 (by decide) (by decide)) (s2.2.1 129 (by decide) (by decide)) (by rw [s2.2.2])⟩
      rw [f_X12_findHeaps_b76.eq_2, if_neg n10, r1, Option.bind_some, s1, Option.bind_some, f_X12_findHeaps_b76.eq_2, if_pos rfl]
    · obtain ⟨My, s1, s2, s3⟩ := zh_next X1 h3 k2 h10 r3
      obtain ⟨Mz, t1, t2⟩ := ih b' _ g My h4 (fun q hq => hP q (List.mem_cons_of_mem _ hq)) (by simp only [List.length_cons] at hf; omega) (z_h2.sm r2 s2) s3 (fun s h1 h2 => by rw [s2.2.2]; exact r4 s h1 h2) (r5.cong (s2.2.1 108 (by decide) (by decide)) (s2.2.1 129 (by decide) (by decide)) (by rw [s2.2.2]))
      refine ⟨Mz, ?_, t2⟩
      rw [f_X12_findHeaps_b76.eq_2, if_neg n10, r1, Option.bind_some, s1, Option.bind_some]
      exact t1
/-! ===== the model's heaps: all of it ===== -/
theorem z_full11 : ∀ m, m < 11 → (1 : Int32) <<< (nI m &&& 31) = nI (2 ^ m) := by decide +kernel
theorem zh_all {M : q_Mem} (hi : z_Inv M) {k : Int32} : ∀ (d s fu : Nat) (Mx : q_Mem), s + d = 2 ^ z_m (q_I M 109) 7 → d < fu → 0 < s → z_sm M Mx → (∀ t, 0 < t → t < s → q_J Mx 126 t = lN (h_F (q_I M 109) (z_m (q_I M 109) 7) t)) →
    ∃ My, f_X12_findHeaps_b10 108 k (nI (z_m (q_I M 109) 7)) fu (nI s) Mx = f_X12_findHeaps_b34 My 108 k (nI (z_m (q_I M 109) 7)) ∧ z_sm M My ∧ ∀ t, 0 < t → t < 2 ^ z_m (q_I M 109) 7 → q_J My 126 t = lN (h_F (q_I M 109) (z_m (q_I M 109) 7) t) := by
  have h10 := (zt_7 hi).2.2.1
  have h1024 : 2 ^ z_m (q_I M 109) 7 ≤ 1024 := Nat.pow_le_pow_right (n := 2) (by decide) h10
  have ef := z_full11 _ (show z_m (q_I M 109) 7 < 11 by omega)
  intro d
  induction d with
  | zero =>
    intro s fu Mx hd hf s0 hS hF
    obtain ⟨g, rfl⟩ : ∃ g, fu = g + 1 := ⟨fu - 1, by omega⟩
    have q : (nI s < nI (2 ^ z_m (q_I M 109) 7)) = False := eq_false (nI_nlt (by omega) (by omega))
    exact ⟨Mx, by simp only [f_X12_findHeaps_b10.eq_2, ef, q, if_false], hS, fun t h1 h2 => hF t h1 (by omega)⟩
  | succ d ih =>
    intro s fu Mx hd hf s0 hS hF
    obtain ⟨g, rfl⟩ : ∃ g, fu = g + 1 := ⟨fu - 1, by omega⟩
    have hX := (hi.sm hS).1
    have q : (nI s < nI (2 ^ z_m (q_I M 109) 7)) = True := eq_true (nI_lt (by omega) (by omega))
    obtain ⟨o1, o2, o3⟩ := h_lo_all s (by omega) s0
    have z7 : h_lo 10 s < z_m (q_I M 109) 7 := by
      rcases Nat.lt_or_ge (h_lo 10 s) (z_m (q_I M 109) 7) with z | z
      · exact z
      · rw [h_bit_big (n := z_m (q_I M 109) 7) (by omega) z] at o1
        cases o1
    have ls := zh_loss hi hX (z_inv9 hS) (s := s) (by omega) o1 z7
    obtain ⟨My, r1, r2⟩ := ih (s + 1) g (q_sJ Mx 126 s (lN (h_F (q_I M 109) (z_m (q_I M 109) 7) s))) (by omega) (by omega) (by omega) (hS.tr (z_sm.sJ (by decide))) (fun t h1 h2 => by
      rw [z_J_sJ]
      by_cases e : t = s
      · rw [if_pos ⟨rfl, e⟩, e]
      · rw [if_neg (fun z => e z.2)]
        exact hF t h1 (by omega))
    refine ⟨My, ?_, r2⟩
    have tt := (za_126 hX).2.2 s (lN (h_F (q_I M 109) (z_m (q_I M 109) 7) s)) (by omega)
    have g24 : q_gR 11 24 Mx 108 = some 126 := by simp only [zo_108 hX]
    rw [f_X12_findHeaps_b10.eq_2, ef, if_pos (by rw [q]; trivial), g24, Option.bind_some, ls, Option.bind_some, tt, Option.bind_some, nI_1]
    exact r1
theorem zh_first {n : Nat} (h10 : n ≤ 10) {k : Int32} : ∀ (d c fu : Nat) (Mx : q_Mem), c + d = n → d < fu → z_Lay Mx → ∃ My, f_X12_findHeaps_b48 108 k (nI n) fu (nI c) Mx = f_X12_findHeaps_b66 My 108 k (nI n) ∧ z_F1 127 Mx My ∧ (∀ j, j < c → q_I My 127 j = q_I Mx 127 j) ∧ ∀ j, c ≤ j → j < n → q_I My 127 j = 0 := by
  intro d
  induction d with
  | zero =>
    intro c fu Mx hd hf hX
    obtain ⟨g, rfl⟩ : ∃ g, fu = g + 1 := ⟨fu - 1, by omega⟩
    have q : (nI c < nI n) = False := eq_false (nI_nlt (by omega) (by omega))
    exact ⟨Mx, by simp only [f_X12_findHeaps_b48.eq_2, q, if_false], z_F1.rf, fun _ _ => rfl, fun j h1 h2 => by omega⟩
  | succ d ih =>
    intro c fu Mx hd hf hX
    obtain ⟨g, rfl⟩ : ∃ g, fu = g + 1 := ⟨fu - 1, by omega⟩
    have q : (nI c < nI n) = True := eq_true (nI_lt (by omega) (by omega))
    have X1 : z_Lay (q_sI Mx 127 c 0) := hX
    obtain ⟨My, r1, r2, r3, r4⟩ := ih (c + 1) g (q_sI Mx 127 c 0) (by omega) (by omega) X1
    refine ⟨My, ?_, (z_F1.sI (by decide)).tr r2, fun j hj => ?_, fun j h1 h2 => ?_⟩
    · simp only [f_X12_findHeaps_b48.eq_2, q, if_true, zo_108 hX, (za_127 hX).2.2 c _ (show c < 10 by omega), Option.bind_some, nI_1]
      exact r1
    · rw [r3 j (by omega), z_I_sI, if_neg (by omega)]
    · by_cases e : j = c
      · rw [r3 j (by omega), z_I_sI, if_pos ⟨rfl, e⟩]
      · exact r4 j (by omega) h2
theorem zh_find {M Mx : q_Mem} (hi : z_Inv M) (hS : z_sm M Mx) {k : Nat} (k5 : k ≤ 5) : ∃ My, f_X12_findHeaps Mx 108 (nI k) = some My ∧ z_sm M My ∧ (z_m (q_I M 109) 7 = 0 → q_J My 108 29 = -1) ∧ (0 < z_m (q_I M 109) 7 → z_BH (h_F (q_I M 109) (z_m (q_I M 109) 7)) (z_m (q_I M 109) 7) ((h_P (z_m (q_I M 109) 7) 0).foldl (h_stp (h_F (q_I M 109) (z_m (q_I M 109) 7)) k) none) My) := by
  have hX := (hi.sm hS).1
  have e9 := z_inv9 hS
  obtain ⟨R, h3, h10, hcn⟩ := zt_7 hi
  have h1024 : 2 ^ z_m (q_I M 109) 7 ≤ 1024 := Nat.pow_le_pow_right (n := 2) (by decide) h10
  have hpos : 0 < 2 ^ z_m (q_I M 109) 7 := Nat.pow_pos (by decide)
  obtain ⟨M1, a1, a2, a3⟩ := zh_all hi (k := nI k) (2 ^ z_m (q_I M 109) 7 - 1) 1 q_fuel Mx (by omega) (by unfold q_fuel; omega) (by decide) hS (fun t h1 h2 => absurd h1 (by omega))
  have a1 : f_X12_findHeaps_b10 108 (nI k) (nI (z_m (q_I M 109) 7)) q_fuel (1 : Int32) Mx = _ := a1
  have X1 := (hi.sm a2).1
  have X2 : z_Lay (q_sJ M1 108 29 (-1)) := X1
  have X3 : z_Lay (q_sI (q_sJ M1 108 29 (-1)) 108 30 0) := X1
  have S3 : z_sm M (q_sI (q_sJ M1 108 29 (-1)) 108 30 0) := (a2.tr (z_sm.sJ (by decide))).tr (z_sm.sI (by unfold z_core; omega))
  obtain ⟨M4, b1, b2, -, b3⟩ := zh_first h10 (k := nI k) (z_m (q_I M 109) 7) 0 q_fuel (q_sI (q_sJ M1 108 29 (-1)) 108 30 0) (by omega) (z_fu (by omega)) X3
  have b1 : f_X12_findHeaps_b48 108 (nI k) (nI (z_m (q_I M 109) 7)) q_fuel (0 : Int32) (q_sI (q_sJ M1 108 29 (-1)) 108 30 0) = _ := b1
  have S4 : z_sm M M4 := z_F1.smN S3 b2 (by decide)
  have J4 : q_J M4 108 29 = -1 := by
    rw [b2.2.2]
    show q_J (q_sJ M1 108 29 (-1)) 108 29 = -1
    rw [z_J_sJ, if_pos ⟨rfl, rfl⟩]
  have F4 : ∀ t, 0 < t → t < 2 ^ z_m (q_I M 109) 7 → q_J M4 126 t = lN (h_F (q_I M 109) (z_m (q_I M 109) 7) t) := fun t h1 h2 => by
    rw [b2.2.2]
    show q_J (q_sJ M1 108 29 (-1)) 126 t = _
    rw [q_sJ_ne (by decide)]
    exact a3 t h1 h2
  have pre : f_X12_findHeaps Mx 108 (nI k) = f_X12_findHeaps_b66 M4 108 (nI k) (nI (z_m (q_I M 109) 7)) := by
    simp only [f_X12_findHeaps, zob_108 hX, zo_108 hX, zl_ hX, e9, hcn, Option.bind_some, a1, f_X12_findHeaps_b34, zo_108 X1, zo_108 X2, b1]
  rw [pre]
  unfold f_X12_findHeaps_b66
  rcases Nat.eq_zero_or_pos (z_m (q_I M 109) 7) with z | z
  · have q : ¬ ((0 : Int32) < nI (z_m (q_I M 109) 7)) := nI_nlt (a := 0) (by omega) (by decide)
    rw [if_neg q]
    obtain ⟨g, hg⟩ : ∃ g, q_fuel = g + 1 := ⟨q_fuel - 1, by have := z_fu (n := 0) (by decide); omega⟩
    refine ⟨M4, ?_, S4, fun _ => J4, fun h => absurd h (by omega)⟩
    rw [hg, f_X12_findHeaps_b76.eq_2, if_pos rfl]
  · have q : (0 : Int32) < nI (z_m (q_I M 109) 7) := nI_lt (a := 0) z (by omega)
    rw [if_pos q]
    have pm : ∀ p ∈ h_P (z_m (q_I M 109) 7) 0, p.length = z_m (q_I M 109) 7 ∧ h_rg p := fun p hp => h_P_mem _ [] h_rg_nil p hp
    obtain ⟨My, r1, r2, r3⟩ := zh_rows hi (fun s => h_F_le hi s) k5 z h10 (h_P (z_m (q_I M 109) 7) 0) (List.replicate (z_m (q_I M 109) 7) 0) none q_fuel M4 (h_all _) pm (by
      rw [h_P_len]
      have := h_n_le (z_m (q_I M 109) 7) (by omega)
      unfold q_fuel
      omega) S4 (fun c hc => by
      rw [List.length_replicate] at hc
      rw [b3 c (Nat.zero_le _) hc]
      have : (List.replicate (z_m (q_I M 109) 7) 0).getD c 0 = 0 := by
        rw [List.getD_eq_getElem?_getD, List.getElem?_replicate]
        split <;> rfl
      rw [this]
      rfl) F4 J4
    exact ⟨My, r1, r2, fun h => absurd h (by omega), fun _ => r3⟩
