/-! ===== the next order of the stops, in the model's cells ===== -/
theorem zo_no7 {M : q_Mem} (hL : z_Lay M) {i g : Nat} (hi : i + 1 < 8) : f_X12_nextOrder_b7 M 108 (g + 1) (nI i) = if q_I M 124 (i + 1) < q_I M 124 i then f_X12_nextOrder_b7 M 108 g (nI i + (-1 : Int32)) else f_X12_nextOrder_b34 M 108 (nI i) := by
  have c0 : (nI i < 0) = False := eq_false (nI_pos (by omega))
  simp only [f_X12_nextOrder_b7.eq_2, c0, if_false, zo_108 hL, Option.bind_some, ← nI_succ, (za_124 hL).2.1 i (by omega), (za_124 hL).2.1 (i + 1) hi]
theorem zo_down {M : q_Mem} (hL : z_Lay M) {k0 : Nat} (h0 : ¬ q_I M 124 (k0 + 1) < q_I M 124 k0) : ∀ (d fu : Nat), k0 + d + 1 < 8 → d < fu → (∀ i, k0 < i → i ≤ k0 + d → q_I M 124 (i + 1) < q_I M 124 i) → f_X12_nextOrder_b7 M 108 fu (nI (k0 + d)) = f_X12_nextOrder_b34 M 108 (nI k0) := by
  intro d
  induction d with
  | zero =>
    intro fu hd hf h
    obtain ⟨g, rfl⟩ : ∃ g, fu = g + 1 := ⟨fu - 1, by omega⟩
    show f_X12_nextOrder_b7 M 108 (g + 1) (nI k0) = _
    rw [zo_no7 hL (i := k0) (by omega), if_neg h0]
  | succ d ih =>
    intro fu hd hf h
    obtain ⟨g, rfl⟩ : ∃ g, fu = g + 1 := ⟨fu - 1, by omega⟩
    rw [zo_no7 hL (by omega), if_pos (h _ (by omega) (Nat.le_refl _)), show k0 + (d + 1) = (k0 + d) + 1 by omega, pk_m1]
    exact ih g (by omega) (by omega) (fun i h1 h2 => h i h1 (by omega))
theorem zo_downL {M : q_Mem} (hL : z_Lay M) : ∀ (d fu : Nat), d + 1 < 8 → d + 1 < fu → (∀ i, i ≤ d → q_I M 124 (i + 1) < q_I M 124 i) → f_X12_nextOrder_b7 M 108 fu (nI d) = some ((0 : Int32), M) := by
  intro d
  induction d with
  | zero =>
    intro fu hd hf h
    obtain ⟨g, rfl⟩ : ∃ g, fu = (g + 1) + 1 := ⟨fu - 2, by omega⟩
    rw [zo_no7 hL (by omega), if_pos (h _ (Nat.le_refl _))]
    have e : nI 0 + (-1 : Int32) = -1 := by decide
    have c : ((-1 : Int32) < 0) = True := by decide
    rw [e]
    simp only [f_X12_nextOrder_b7.eq_2, f_X12_nextOrder_b34, c, if_true]
  | succ d ih =>
    intro fu hd hf h
    obtain ⟨g, rfl⟩ : ∃ g, fu = g + 1 := ⟨fu - 1, by omega⟩
    rw [zo_no7 hL (by omega), if_pos (h _ (Nat.le_refl _)), pk_m1]
    exact ih g (by omega) (by omega) (fun i h1 => h i (by omega))
theorem zo_up {M : q_Mem} (hL : z_Lay M) {k0 ky : Nat} (hk0 : k0 < 8) (hky : ¬ q_I M 124 ky < q_I M 124 k0) : ∀ (d fu : Nat), ky + d < 8 → d < fu → (∀ j, ky < j → j ≤ ky + d → q_I M 124 j < q_I M 124 k0) → f_X12_nextOrder_b47 M 108 (nI k0) fu (nI (ky + d)) = f_X12_nextOrder_b68 M 108 (nI k0) (nI ky) := by
  intro d
  induction d with
  | zero =>
    intro fu hd hf h
    obtain ⟨g, rfl⟩ : ∃ g, fu = g + 1 := ⟨fu - 1, by omega⟩
    simp only [f_X12_nextOrder_b47.eq_2, Nat.add_zero, zo_108 hL, Option.bind_some, (za_124 hL).2.1 k0 hk0, (za_124 hL).2.1 ky hd, hky, if_false]
  | succ d ih =>
    intro fu hd hf h
    obtain ⟨g, rfl⟩ : ∃ g, fu = g + 1 := ⟨fu - 1, by omega⟩
    have c := eq_true (h (ky + (d + 1)) (by omega) (Nat.le_refl _))
    simp only [f_X12_nextOrder_b47.eq_2, zo_108 hL, Option.bind_some, (za_124 hL).2.1 k0 hk0, (za_124 hL).2.1 (ky + (d + 1)) hd, c, if_true]
    rw [show ky + (d + 1) = (ky + d) + 1 by omega, pk_m1]
    exact ih g (by omega) (by omega) (fun j h1 h2 => h j h1 (by omega))
/-- the memory but for one cell -/
def z_F1 (x : Nat) (Ms Mx : q_Mem) : Prop := z_FR Ms Mx ∧ (∀ y, y ≠ x → q_I Mx y = q_I Ms y) ∧ q_J Mx = q_J Ms
theorem z_F1.rf {x : Nat} {M : q_Mem} : z_F1 x M M := ⟨z_FR.rf, fun _ _ => rfl, rfl⟩
theorem z_F1.tr {x : Nat} {M M1 M2 : q_Mem} (h : z_F1 x M M1) (h2 : z_F1 x M1 M2) : z_F1 x M M2 := ⟨h.1.tr h2.1, fun y hy => (h2.2.1 y hy).trans (h.2.1 y hy), h2.2.2.trans h.2.2⟩
theorem z_F1.sI {x k : Nat} {v : Int32} {M : q_Mem} (h : x ≠ 104) : z_F1 x M (q_sI M x k v) := ⟨z_FR.sI h, fun _ hy => q_sI_ne hy, rfl⟩
theorem zo_rev {Ms : q_Mem} {n k0 : Nat} (hn : n ≤ 8) : ∀ (D a b fu : Nat) (Mx : q_Mem), z_Lay Mx → a + b = n + k0 → k0 < a → b < n → a ≤ b + 1 → b ≤ a + D → D < fu → z_F1 124 Ms Mx → (∀ j, q_I Mx 124 j = if (k0 < j ∧ j < a) ∨ (b < j ∧ j < n) then q_I Ms 124 (n + k0 - j) else q_I Ms 124 j) →
    ∃ My, f_X12_nextOrder_b107 108 fu (nI b) (nI a) Mx = some ((1 : Int32), My) ∧ z_F1 124 Ms My ∧ ∀ j, q_I My 124 j = if k0 < j ∧ j < n then q_I Ms 124 (n + k0 - j) else q_I Ms 124 j := by
  intro D
  induction D with
  | zero =>
    intro a b fu Mx hX hab ha hb hba hD hf hF hj
    obtain ⟨g, rfl⟩ : ∃ g, fu = g + 1 := ⟨fu - 1, by omega⟩
    have c : (nI a < nI b) = False := eq_false (nI_nlt (by omega) (by omega))
    refine ⟨Mx, by simp only [f_X12_nextOrder_b107.eq_2, c, if_false], hF, fun j => ?_⟩
    rw [hj j]
    by_cases c1 : (k0 < j ∧ j < a) ∨ (b < j ∧ j < n)
    · rw [if_pos c1, if_pos (by omega)]
    · rw [if_neg c1]
      by_cases c2 : k0 < j ∧ j < n
      · rw [if_pos c2, show n + k0 - j = j by omega]
      · rw [if_neg c2]
  | succ D ih =>
    intro a b fu Mx hX hab ha hb hba hD hf hF hj
    obtain ⟨g, rfl⟩ : ∃ g, fu = g + 1 := ⟨fu - 1, by omega⟩
    by_cases c0 : a < b
    · have c : (nI a < nI b) = True := eq_true (nI_lt c0 (by omega))
      have X1 : z_Lay (q_sI Mx 124 a (q_I Mx 124 b)) := hX
      have X2 : z_Lay (q_sI (q_sI Mx 124 a (q_I Mx 124 b)) 124 b (q_I Mx 124 a)) := hX
      obtain ⟨My, r1, r2, r3⟩ := ih (a + 1) (b - 1) g (q_sI (q_sI Mx 124 a (q_I Mx 124 b)) 124 b (q_I Mx 124 a)) X2 (by omega) (by omega) (by omega) (by omega) (by omega) (by omega) ((hF.tr (z_F1.sI (by decide))).tr (z_F1.sI (by decide))) (fun j => by
        rw [z_I_sI, z_I_sI]
        by_cases e1 : j = b
        · rw [if_pos ⟨rfl, e1⟩, if_pos (by omega), hj a, if_neg (by omega), show n + k0 - j = a by omega]
        · rw [if_neg (fun z => e1 z.2)]
          by_cases e2 : j = a
          · rw [if_pos ⟨rfl, e2⟩, if_pos (by omega), hj b, if_neg (by omega), show n + k0 - j = b by omega]
          · rw [if_neg (fun z => e2 z.2), hj j]
            by_cases e3 : (k0 < j ∧ j < a) ∨ (b < j ∧ j < n)
            · rw [if_pos e3, if_pos (by omega)]
            · rw [if_neg e3, if_neg (by omega)])
      refine ⟨My, ?_, r2, r3⟩
      obtain ⟨b', rfl⟩ : ∃ b', b = b' + 1 := ⟨b - 1, by omega⟩
      rw [show b' + 1 - 1 = b' by omega] at r1
      simp only [f_X12_nextOrder_b107.eq_2, c, if_true, zo_108 hX, zo_108 X1, Option.bind_some, (za_124 hX).2.1 a (by omega), (za_124 hX).2.1 (b' + 1) (by omega), (za_124 hX).2.2 a _ (by omega), (za_124 X1).2.2 (b' + 1) _ (by omega), pk_m1, nI_1]
      exact r1
    · have c : (nI a < nI b) = False := eq_false (nI_nlt (by omega) (by omega))
      refine ⟨Mx, by simp only [f_X12_nextOrder_b107.eq_2, c, if_false], hF, fun j => ?_⟩
      rw [hj j]
      by_cases c1 : (k0 < j ∧ j < a) ∨ (b < j ∧ j < n)
      · rw [if_pos c1, if_pos (by omega)]
      · rw [if_neg c1]
        by_cases c2 : k0 < j ∧ j < n
        · rw [if_pos c2, show n + k0 - j = j by omega]
        · rw [if_neg c2]
theorem zo_next {M : q_Mem} (hL : z_Lay M) {n k0 ky : Nat} (hn : n ≤ 8) (h20 : q_I M 108 20 = nI n) (h1 : k0 < ky) (h2 : ky < n) (a1 : ∀ i, k0 < i → i + 1 < n → q_I M 124 (i + 1) < q_I M 124 i) (a2 : ¬ q_I M 124 (k0 + 1) < q_I M 124 k0) (a3 : ¬ q_I M 124 ky < q_I M 124 k0) (a4 : ∀ j, ky < j → j < n → q_I M 124 j < q_I M 124 k0) :
    ∃ My, f_X12_nextOrder M 108 = some ((1 : Int32), My) ∧ z_F1 124 M My ∧ ∀ j, q_I My 124 j = if k0 < j ∧ j < n then (if n + k0 - j = ky then q_I M 124 k0 else q_I M 124 (n + k0 - j)) else if j = k0 then q_I M 124 ky else q_I M 124 j := by
  obtain ⟨d, rfl⟩ : ∃ d, n = k0 + d + 2 := ⟨n - k0 - 2, by omega⟩
  obtain ⟨e, he⟩ : ∃ e, k0 + d + 1 = ky + e := ⟨k0 + d + 1 - ky, by omega⟩
  have p1 := zo_down hL a2 d q_fuel (by omega) (by unfold q_fuel; omega) (fun i x y => a1 i x (by omega))
  have p2 := zo_up hL (k0 := k0) (by omega) a3 e q_fuel (by omega) (by unfold q_fuel; omega) (fun j x y => a4 j x (by omega))
  have c0 : (nI k0 < 0) = False := eq_false (nI_pos (by omega))
  have X1 : z_Lay (q_sI M 124 k0 (q_I M 124 ky)) := hL
  have X2 : z_Lay (q_sI (q_sI M 124 k0 (q_I M 124 ky)) 124 ky (q_I M 124 k0)) := hL
  obtain ⟨Ms, hMs⟩ : ∃ Ms, Ms = q_sI (q_sI M 124 k0 (q_I M 124 ky)) 124 ky (q_I M 124 k0) := ⟨_, rfl⟩
  have F2 : z_F1 124 M Ms := by rw [hMs]; exact (z_F1.sI (by decide)).tr (z_F1.sI (by decide))
  have h20' : q_I Ms 108 20 = nI (k0 + d + 2) := by rw [F2.2.1 108 (by decide)]; exact h20
  have Xs : z_Lay Ms := by rw [hMs]; exact X2
  obtain ⟨My, r1, r2, r3⟩ := zo_rev (Ms := Ms) (n := k0 + d + 2) (k0 := k0) hn d (k0 + 1) (k0 + d + 1) q_fuel Ms Xs (by omega) (by omega) (by omega) (by omega) (by omega) (by unfold q_fuel; omega) z_F1.rf (fun j => by rw [if_neg (by omega)])
  refine ⟨My, ?_, F2.tr r2, fun j => ?_⟩
  · have e2 : nI (k0 + d + 2) - (2 : Int32) = nI (k0 + d) := pk_sub (b := 2) (by omega)
    have e1 : nI (k0 + d + 2) - (1 : Int32) = nI (k0 + d + 1) := pk_sub (b := 1) (by omega)
    simp only [f_X12_nextOrder, zob_108 hL, zo_108 hL, Option.bind_some, h20, e2, p1, f_X12_nextOrder_b34, c0, if_false, e1]
    rw [he, p2]
    simp only [f_X12_nextOrder_b68, zo_108 hL, zo_108 X1, zo_108 X2, Option.bind_some, (za_124 hL).2.1 k0 (by omega), (za_124 hL).2.1 ky (by omega), (za_124 hL).2.2 k0 _ (by omega), (za_124 X1).2.2 ky _ (by omega), ← hMs, h20', zo_108 Xs, e1, nI_1]
    exact r1
  · have hs : ∀ j, q_I Ms 124 j = if j = ky then q_I M 124 k0 else if j = k0 then q_I M 124 ky else q_I M 124 j := fun j => by
      rw [hMs, z_I_sI, z_I_sI]
      by_cases e1 : j = ky
      · rw [if_pos ⟨rfl, e1⟩, if_pos e1]
      · rw [if_neg (fun z => e1 z.2), if_neg e1]
        by_cases e2 : j = k0
        · rw [if_pos ⟨rfl, e2⟩, if_pos e2]
        · rw [if_neg (fun z => e2 z.2), if_neg e2]
    rw [r3 j]
    by_cases c1 : k0 < j ∧ j < k0 + d + 2
    · rw [if_pos c1, if_pos c1, hs]
      by_cases c2 : k0 + d + 2 + k0 - j = ky
      · rw [if_pos c2, if_pos c2]
      · rw [if_neg c2, if_neg c2, if_neg (by omega)]
    · rw [if_neg c1, if_neg c1, hs, if_neg (show ¬ j = ky by omega)]
/-- the model's stops stand in this order -/
def z_SA (M : q_Mem) (p : List Nat) : Prop := q_I M 108 20 = nI p.length ∧ ∀ k, k < p.length → q_I M 124 k = nI (p.getD k 0)
theorem r_getD {D : List Nat} {j : Nat} (hj : j < D.length) : D.getD j 0 = D[j] := by
  rw [List.getD_eq_getElem?_getD, List.getElem?_eq_getElem hj]
  rfl
theorem r_pw {D : List Nat} (h : D.Pairwise (· > ·)) {i j : Nat} (hij : i < j) (hj : j < D.length) : D.getD j 0 < D.getD i 0 := by
  rw [r_getD hj, r_getD (show i < D.length by omega)]
  exact List.pairwise_iff_getElem.mp h i j (by omega) hj hij
theorem r_app1 {A B : List Nat} {k : Nat} (h : k < A.length) : (A ++ B).getD k 0 = A.getD k 0 := by
  rw [List.getD_eq_getElem?_getD, List.getD_eq_getElem?_getD, List.getElem?_append_left h]
theorem r_app2 {A B : List Nat} {k : Nat} (h : A.length ≤ k) : (A ++ B).getD k 0 = B.getD (k - A.length) 0 := by
  rw [List.getD_eq_getElem?_getD, List.getD_eq_getElem?_getD, List.getElem?_append_right h]
theorem r_rev {A : List Nat} {k : Nat} (h : k < A.length) : A.reverse.getD k 0 = A.getD (A.length - 1 - k) 0 := by
  rw [List.getD_eq_getElem?_getD, List.getD_eq_getElem?_getD, List.getElem?_reverse h]
theorem r_mem {A : List Nat} {k : Nat} (h : k < A.length) : A.getD k 0 ∈ A := by
  rw [r_getD h]
  exact List.getElem_mem h
theorem zo_nextL {M : q_Mem} (hL : z_Lay M) {p p' : List Nat} (hN : r_Nx p p') (hn : p.length ≤ 8) (hS : z_SA M p) (hb : ∀ x ∈ p, x < 200) : ∃ My, f_X12_nextOrder M 108 = some ((1 : Int32), My) ∧ z_F1 124 M My ∧ z_SA My p' := by
  obtain ⟨pre, x, Br, y, Ar, rfl, rfl, hd, hxy, ha⟩ := hN
  obtain ⟨h20, hc⟩ := hS
  obtain ⟨P, hP⟩ : ∃ P, P = pre ++ x :: (Br ++ y :: Ar) := ⟨_, rfl⟩
  rw [← hP] at hb hn h20 hc
  have hl : P.length = pre.length + (Br.length + Ar.length + 2) := by
    rw [hP]; simp only [List.length_append, List.length_cons]; omega
  have hb' : ∀ k, k < P.length → P.getD k 0 < 200 := fun k hk => hb _ (r_mem hk)
  have gx : P.getD pre.length 0 = x := by rw [hP, r_app2 (Nat.le_refl _), Nat.sub_self]; rfl
  have gD : ∀ k, pre.length < k → P.getD k 0 = (Br ++ y :: Ar).getD (k - pre.length - 1) 0 := fun k hk => by
    rw [hP, r_app2 (by omega)]
    obtain ⟨m, hm⟩ : ∃ m, k - pre.length = m + 1 := ⟨k - pre.length - 1, by omega⟩
    rw [hm, show m + 1 - 1 = m by omega]; rfl
  have gy : P.getD (pre.length + 1 + Br.length) 0 = y := by
    rw [gD _ (by omega), r_app2 (by omega), show pre.length + 1 + Br.length - pre.length - 1 - Br.length = 0 by omega]; rfl
  have hDl : (Br ++ y :: Ar).length = Br.length + Ar.length + 1 := by simp only [List.length_append, List.length_cons]; omega
  have lt : ∀ i j, i < P.length → j < P.length → P.getD i 0 < P.getD j 0 → q_I M 124 i < q_I M 124 j := fun i j h1 h2 h3 => by
    rw [hc i h1, hc j h2]
    exact nI_lt h3 (by have := hb' j h2; omega)
  have nlt : ∀ i j, i < P.length → j < P.length → P.getD j 0 < P.getD i 0 → ¬ q_I M 124 i < q_I M 124 j := fun i j h1 h2 h3 => by
    rw [hc i h1, hc j h2]
    exact nI_nlt (by omega) (by have := hb' i h1; omega)
  have hfirst : x < P.getD (pre.length + 1) 0 := by
    rw [gD _ (by omega), show pre.length + 1 - pre.length - 1 = 0 by omega]
    rcases Nat.eq_zero_or_pos Br.length with z | z
    · obtain rfl : Br = [] := List.length_eq_zero_iff.mp z
      exact hxy
    · have := r_pw hd (i := 0) (j := Br.length) z (by omega)
      rw [r_app2 (Nat.le_refl _), Nat.sub_self] at this
      exact Nat.lt_trans hxy this
  obtain ⟨My, r1, r2, r3⟩ := zo_next hL (n := P.length) (k0 := pre.length) (ky := pre.length + 1 + Br.length) hn h20 (by omega) (by omega)
    (fun i h1 h2 => lt _ _ h2 (by omega) (by
      rw [gD _ (by omega), gD _ h1]
      exact r_pw hd (by omega) (by omega)))
    (nlt _ _ (by omega) (by omega) (by rw [gx]; exact hfirst))
    (nlt _ _ (by omega) (by omega) (by rw [gx, gy]; exact hxy))
    (fun j h1 h2 => lt _ _ h2 (by omega) (by
      rw [gx, gD _ (by omega), r_app2 (by omega)]
      obtain ⟨m, hm⟩ : ∃ m, j - pre.length - 1 - Br.length = m + 1 := ⟨j - pre.length - 1 - Br.length - 1, by omega⟩
      rw [hm]
      exact ha _ (r_mem (by omega))))
  refine ⟨My, r1, r2, ?_, fun j hj => ?_⟩
  · rw [r2.2.1 108 (by decide), h20, hl]
    simp only [List.length_append, List.length_cons, List.length_reverse]
    rw [show pre.length + (Br.length + Ar.length + 2) = pre.length + (Ar.length + (Br.length + 1) + 1) by omega]
  · have hj' : j < P.length := by
      simp only [List.length_append, List.length_cons, List.length_reverse] at hj
      omega
    rw [r3 j]
    by_cases c1 : pre.length < j
    · rw [if_pos ⟨c1, hj'⟩]
      have eL : (pre ++ y :: (Ar.reverse ++ x :: Br.reverse)).getD j 0 = (Br ++ x :: Ar).getD (P.length - 1 - j) 0 := by
        rw [r_app2 (by omega)]
        obtain ⟨m, hm⟩ : ∃ m, j - pre.length = m + 1 := ⟨j - pre.length - 1, by omega⟩
        have e : Ar.reverse ++ x :: Br.reverse = (Br ++ x :: Ar).reverse := by simp only [List.reverse_append, List.reverse_cons, List.append_assoc, List.singleton_append]
        rw [hm, e]
        show (Br ++ x :: Ar).reverse.getD m 0 = _
        have l2 : (Br ++ x :: Ar).length = Br.length + Ar.length + 1 := by simp only [List.length_append, List.length_cons]; omega
        rw [r_rev (by omega), l2, show Br.length + Ar.length + 1 - 1 - m = P.length - 1 - j by omega]
      rw [eL]
      by_cases c2 : P.length + pre.length - j = pre.length + 1 + Br.length
      · rw [if_pos c2, hc _ (by omega), gx, r_app2 (by omega), show P.length - 1 - j - Br.length = 0 by omega]; rfl
      · rw [if_neg c2, hc _ (by omega), gD _ (by omega), show P.length + pre.length - j - pre.length - 1 = P.length - 1 - j by omega]
        rcases Nat.lt_or_ge (P.length - 1 - j) Br.length with z | z
        · rw [r_app1 z, r_app1 z]
        · rw [r_app2 z, r_app2 z]
          obtain ⟨m, hm⟩ : ∃ m, P.length - 1 - j - Br.length = m + 1 := ⟨P.length - 1 - j - Br.length - 1, by omega⟩
          rw [hm]; rfl
    · rw [if_neg (fun z => c1 z.1)]
      by_cases c2 : j = pre.length
      · rw [if_pos c2, hc _ (by omega), gy, r_app2 (by omega), show j - pre.length = 0 by omega]; rfl
      · rw [if_neg c2, hc _ hj', r_app1 (by omega), hP, r_app1 (by omega)]
theorem zo_lastL {M : q_Mem} (hL : z_Lay M) {p : List Nat} (hd : p.Pairwise (· > ·)) (h0 : 0 < p.length) (hn : p.length ≤ 8) (hS : z_SA M p) (hb : ∀ x ∈ p, x < 200) : f_X12_nextOrder M 108 = some ((0 : Int32), M) := by
  obtain ⟨h20, hc⟩ := hS
  rcases Nat.lt_or_ge p.length 2 with z | z
  · have e1 : p.length = 1 := by omega
    rw [e1] at h20
    have e : nI 1 - (2 : Int32) = -1 := by decide
    have c : ((-1 : Int32) < 0) = True := by decide
    simp only [f_X12_nextOrder, zob_108 hL, zo_108 hL, Option.bind_some, h20, e]
    rw [show q_fuel = 4194303 + 1 from rfl, f_X12_nextOrder_b7.eq_2]
    simp only [f_X12_nextOrder_b34, c, if_true]
  · obtain ⟨d, hd2⟩ : ∃ d, p.length = d + 2 := ⟨p.length - 2, by omega⟩
    have k := zo_downL hL d q_fuel (by omega) (by unfold q_fuel; omega) (fun i hi => by
      rw [hc _ (by omega), hc _ (by omega)]
      exact nI_lt (r_pw hd (by omega) (by omega)) (by have := hb _ (r_mem (A := p) (k := i) (by omega)); omega))
    have e2 : nI (d + 2) - (2 : Int32) = nI d := pk_sub (b := 2) (by omega)
    simp only [f_X12_nextOrder, zob_108 hL, zo_108 hL, Option.bind_some, h20, hd2, e2]
    exact k
