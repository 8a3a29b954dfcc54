/-! ===== the invariant between the class and the model ===== -/
def z_tm : Nat → Nat := fun t => match t with
  | 0 => 20
  | 1 => 300
  | 2 => 200
  | 3 => 40
  | 4 => 100
  | 5 => 6
  | 6 => 10
  | 7 => 10
  | 8 => 40
  | 9 => 6
  | 10 => 6
  | _ => 0
def z_tw : Nat → Nat := fun t => match t with
  | 0 => 4
  | 1 => 4
  | 2 => 7
  | 3 => 3
  | 4 => 5
  | 5 => 61
  | 6 => 84
  | 7 => 3
  | 8 => 3
  | 9 => 3
  | 10 => 3
  | _ => 0
def z_to : Nat → Nat := fun t => match t with
  | 0 => 20
  | 1 => 100
  | 2 => 1300
  | 3 => 2700
  | 4 => 2820
  | 5 => 3320
  | 6 => 3686
  | 7 => 4526
  | 8 => 4608
  | 9 => 4728
  | 10 => 4746
  | _ => 0
def z_tn : Nat → Nat := fun t => match t with
  | 0 => 0
  | 1 => 1
  | 2 => 2
  | 3 => 3
  | 4 => 4
  | 5 => 99
  | 6 => 5
  | 7 => 6
  | 8 => 7
  | 9 => 8
  | 10 => 9
  | _ => 0
/-- columns of the MOTIONS stand in another order in the model -/
def z_pm (t j : Nat) : Nat := if t = 6 then (if j < 3 then 61 + j else if j < 64 then j - 3 else j) else j
def z_m (st : Nat → Int32) (t : Nat) : Nat := if t = 5 then 6 else (st (z_tn t)).toNatClampNeg
/-- which cells are looked at: of a TEXT its length and its characters -/
def z_lv (st : Nat → Int32) (t i j : Nat) : Prop := (t = 5 → j ≤ (st (3320 + 61 * i)).toNatClampNeg) ∧ (t = 6 → 3 ≤ j → j < 64 → j - 3 ≤ (st (3686 + 84 * i)).toNatClampNeg)
def z_RC (hb : Nat) (I : Nat → Nat → Int32) : Prop := ∀ t, t < 11 → I (hb + 1 + 2 * t) 0 = nI (z_tm t) ∧ I (hb + 1 + 2 * t) 1 = nI (z_tw t)
def z_H (hb : Nat) (I : Nat → Nat → Int32) (st : Nat → Int32) : Prop :=
  (∀ t, t < 11 → I (hb + 1 + 2 * t) 3 = nI (z_m st t)) ∧ (∀ t i j, t < 11 → i < z_m st t → j < z_tw t → z_lv st t i j → I (hb + 2 + 2 * t) (z_tw t * i + j) = st (z_to t + z_tw t * i + z_pm t j)) ∧
  (∀ j, j < 4 → I (hb + 23) j = st (13 + j)) ∧ (∀ j, j < 52 → I (hb + 24) j = st (4556 + j)) ∧ I hb 13 = st 10 ∧ I hb 14 = st 11 ∧ I hb 15 = st 12
def z_Cn (st : Nat → Int32) : Prop := ∀ t, t < 11 → t ≠ 5 → st (z_tn t) = nI (z_m st t) ∧ z_m st t ≤ z_tm t
/-- v lies between -/
def z_bt (v : Int32) (a b : Int) : Prop := a ≤ v.toInt ∧ v.toInt ≤ b
def z_id (v : Int32) (n : Nat) : Prop := ∃ i, i < n ∧ v = nI i
def z_Tx (st : Nat → Int32) (o : Nat) : Prop := (∃ n, n ≤ 60 ∧ st o = nI n) ∧ ∀ j, j < (st o).toNatClampNeg → z_bt (st (o + 1 + j)) 0 127
/-- the numbers are as told -/
def z_Vl (st : Nat → Int32) : Prop :=
  (∀ i, i < z_m st 0 → z_bt (st (20 + 4 * i)) 0 200 ∧ z_bt (st (20 + 4 * i + 1)) 0 200 ∧ z_bt (st (20 + 4 * i + 2)) 0 60 ∧ z_bt (st (20 + 4 * i + 3)) 0 1) ∧
  (∀ i, i < z_m st 1 → z_id (st (100 + 4 * i)) (z_m st 0) ∧ z_bt (st (100 + 4 * i + 1)) 0 195 ∧ z_bt (st (100 + 4 * i + 2)) 1 1000 ∧ (st (100 + 4 * i + 3) = -1 ∨ z_id (st (100 + 4 * i + 3)) (z_m st 3))) ∧
  (∀ i, i < z_m st 2 → z_id (st (1300 + 7 * i)) (z_m st 0) ∧ z_bt (st (1300 + 7 * i + 1)) 0 195 ∧ z_bt (st (1300 + 7 * i + 2)) 0 3 ∧ (st (1300 + 7 * i + 3) = -7 ∨ z_bt (st (1300 + 7 * i + 3)) 0 1000) ∧ z_bt (st (1300 + 7 * i + 4)) 0 195 ∧ ((st (1300 + 7 * i + 5) = -1 ∧ st (1300 + 7 * i + 6) = -1) ∨ (z_bt (st (1300 + 7 * i + 5)) 0 1000 ∧ z_bt (st (1300 + 7 * i + 6)) 0 195))) ∧
  (∀ i, i < z_m st 3 → z_bt (st (2700 + 3 * i)) 0 195 ∧ z_bt (st (2700 + 3 * i + 1)) 40 80 ∧ z_bt (st (2700 + 3 * i + 2)) (-1) 300000000) ∧
  (∀ i, i < z_m st 4 → z_id (st (2820 + 5 * i)) (z_m st 3) ∧ ((st (2820 + 5 * i + 1) = -1 ∧ st (2820 + 5 * i + 2) = -1) ∨ (z_bt (st (2820 + 5 * i + 1)) 0 1000000 ∧ z_bt (st (2820 + 5 * i + 2)) 0 195)) ∧ z_bt (st (2820 + 5 * i + 3)) (-1) 100 ∧ z_bt (st (2820 + 5 * i + 4)) (-1) 100) ∧
  (∀ i, i < 6 → z_Tx st (3320 + 61 * i)) ∧
  (∀ i, i < z_m st 6 → z_Tx st (3686 + 84 * i) ∧ z_bt (st (3686 + 84 * i + 61)) 0 195 ∧ z_bt (st (3686 + 84 * i + 62)) 0 1 ∧ z_bt (st (3686 + 84 * i + 63)) 0 1 ∧ ∀ f, f < 20 → z_bt (st (3686 + 84 * i + 64 + f)) (-1) 1) ∧
  (∀ i, i < z_m st 7 → z_bt (st (4526 + 3 * i)) 1 1000000 ∧ z_bt (st (4526 + 3 * i + 1)) 40 80 ∧ z_bt (st (4526 + 3 * i + 2)) 0 9) ∧
  (∀ i, i < z_m st 8 → z_id (st (4608 + 3 * i)) (z_m st 0) ∧ z_bt (st (4608 + 3 * i + 1)) (-51) 27 ∧ z_bt (st (4608 + 3 * i + 2)) 1 60) ∧
  (∀ i, i < z_m st 9 → z_bt (st (4728 + 3 * i)) 0 200 ∧ z_bt (st (4728 + 3 * i + 1)) 0 200 ∧ z_bt (st (4728 + 3 * i + 2)) 0 1000000) ∧
  (∀ i, i < z_m st 10 → z_bt (st (4746 + 3 * i)) 1 1000000 ∧ z_bt (st (4746 + 3 * i + 1)) 0 100 ∧ z_bt (st (4746 + 3 * i + 2)) 1 100000) ∧
  (∀ j, j < 4 → z_bt (st (13 + j)) (-50) 50) ∧ (∀ j, j < 52 → z_bt (st (4556 + j)) 0 500) ∧ z_bt (st 10) 1 28 ∧ z_bt (st 11) 1 2000 ∧ z_bt (st 12) 0 100
def z_img (M : q_Mem) (e : Nat) : Nat → Int32 := fun k => q_I M 110 (4764 * e + k)
/-- a class' house stands as the numbers st say -/
def z_hs (hb : Nat) (I : Nat → Nat → Int32) (st : Nat → Int32) : Prop := z_H hb I st ∧ z_Cn st ∧ z_Vl st
def z_Inv (M : q_Mem) : Prop := z_Lay M ∧ z_RC 1 (q_I M) ∧ z_RC 27 (q_I M) ∧ z_RC 52 (q_I M) ∧ z_hs 1 (q_I M) (q_I M 109) ∧
  (∀ e, e < 2 → q_I M 77 e = q_I M 111 e ∧ (q_I M 77 e = 0 ∨ (q_I M 77 e = 1 ∧ z_hs (27 + 25 * e) (q_I M) (z_img M e))))
/-- what stays where nothing but scratch is written -/
def z_core (a : Nat) : Prop := (1 ≤ a ∧ a < 78) ∨ a = 109 ∨ a = 110 ∨ a = 111
def z_sm (M M' : q_Mem) : Prop := z_FR M M' ∧ ∀ a, z_core a → q_I M' a = q_I M a
theorem z_sm.rf {M : q_Mem} : z_sm M M := ⟨z_FR.rf, fun _ _ => rfl⟩
theorem z_sm.tr {M M1 M2 : q_Mem} (h : z_sm M M1) (h2 : z_sm M1 M2) : z_sm M M2 := ⟨h.1.tr h2.1, fun a ha => (h2.2 a ha).trans (h.2 a ha)⟩
theorem z_sm.sI {M : q_Mem} {a k : Nat} {v : Int32} (h : ¬ z_core a) : z_sm M (q_sI M a k v) := ⟨z_FR.sI, fun b hb => q_sI_ne (fun e => h (e ▸ hb))⟩
theorem z_sm.sJ {M : q_Mem} {a k : Nat} {v : Int64} : z_sm M (q_sJ M a k v) := ⟨⟨rfl, rfl, rfl⟩, fun _ _ => rfl⟩
theorem z_H.cong {hb : Nat} {I I' : Nat → Nat → Int32} {st : Nat → Int32} (h : z_H hb I st) (he : ∀ a, hb ≤ a → a < hb + 25 → I' a = I a) : z_H hb I' st := by
  obtain ⟨h1, h2, h3, h4, h5, h6, h7⟩ := h
  refine ⟨fun t ht => ?_, fun t i j ht hi hj hl => ?_, fun j hj => ?_, fun j hj => ?_, ?_, ?_, ?_⟩
  · rw [he _ (by omega) (by omega)]; exact h1 t ht
  · rw [he _ (by omega) (by omega)]; exact h2 t i j ht hi hj hl
  · rw [he _ (by omega) (by omega)]; exact h3 j hj
  · rw [he _ (by omega) (by omega)]; exact h4 j hj
  · rw [he _ (by omega) (by omega)]; exact h5
  · rw [he _ (by omega) (by omega)]; exact h6
  · rw [he _ (by omega) (by omega)]; exact h7
theorem z_RC.cong {hb : Nat} {I I' : Nat → Nat → Int32} (h : z_RC hb I) (he : ∀ a, hb ≤ a → a < hb + 25 → I' a = I a) : z_RC hb I' := by
  intro t ht
  rw [he _ (by omega) (by omega)]
  exact h t ht
theorem z_Inv.sm {M M' : q_Mem} (h : z_Inv M) (s : z_sm M M') : z_Inv M' := by
  obtain ⟨h1, h2, h3, h4, h5, h6⟩ := h
  have c1 : ∀ a, 1 ≤ a → a < 78 → q_I M' a = q_I M a := fun a h1 h2 => s.2 a (Or.inl ⟨h1, h2⟩)
  have e9 : q_I M' 109 = q_I M 109 := s.2 109 (Or.inr (Or.inl rfl))
  have e10 : q_I M' 110 = q_I M 110 := s.2 110 (Or.inr (Or.inr (Or.inl rfl)))
  have e11 : q_I M' 111 = q_I M 111 := s.2 111 (Or.inr (Or.inr (Or.inr rfl)))
  refine ⟨s.1.lay h1, h2.cong (fun a x y => c1 a (by omega) (by omega)), h3.cong (fun a x y => c1 a (by omega) (by omega)), h4.cong (fun a x y => c1 a (by omega) (by omega)), ?_, fun e he => ?_⟩
  · rw [e9]
    exact ⟨h5.1.cong (fun a x y => c1 a (by omega) (by omega)), h5.2⟩
  · rw [c1 77 (by omega) (by omega), e11]
    obtain ⟨g1, g2⟩ := h6 e he
    refine ⟨g1, g2.imp id (fun g => ⟨g.1, ?_⟩)⟩
    have ei : z_img M' e = z_img M e := by unfold z_img; rw [e10]
    rw [ei]
    exact ⟨g.2.1.cong (fun a x y => c1 a (by omega) (by omega)), g.2.2⟩
theorem z_rows1 {M : q_Mem} (h : z_Lay M) (hc : z_RC 1 (q_I M)) : ∀ t, t < 11 → z_R M (1 + 1 + 2 * t) (1 + 2 + 2 * t) (z_tw t) (z_tm t) := by
  intro t ht
  have k := hc t ht
  match t, ht with
  | 0, _ => exact ⟨z_isb h (by decide) rfl, h.2.2 2 2 (by decide) (by decide), z_isb (a := 3) h (by decide) rfl, by rw [h.2.1 3 (by decide)]; rfl, k.1, k.2, by decide, by decide, by decide⟩
  | 1, _ => exact ⟨z_isb h (by decide) rfl, h.2.2 4 2 (by decide) (by decide), z_isb (a := 5) h (by decide) rfl, by rw [h.2.1 5 (by decide)]; rfl, k.1, k.2, by decide, by decide, by decide⟩
  | 2, _ => exact ⟨z_isb h (by decide) rfl, h.2.2 6 2 (by decide) (by decide), z_isb (a := 7) h (by decide) rfl, by rw [h.2.1 7 (by decide)]; rfl, k.1, k.2, by decide, by decide, by decide⟩
  | 3, _ => exact ⟨z_isb h (by decide) rfl, h.2.2 8 2 (by decide) (by decide), z_isb (a := 9) h (by decide) rfl, by rw [h.2.1 9 (by decide)]; rfl, k.1, k.2, by decide, by decide, by decide⟩
  | 4, _ => exact ⟨z_isb h (by decide) rfl, h.2.2 10 2 (by decide) (by decide), z_isb (a := 11) h (by decide) rfl, by rw [h.2.1 11 (by decide)]; rfl, k.1, k.2, by decide, by decide, by decide⟩
  | 5, _ => exact ⟨z_isb h (by decide) rfl, h.2.2 12 2 (by decide) (by decide), z_isb (a := 13) h (by decide) rfl, by rw [h.2.1 13 (by decide)]; rfl, k.1, k.2, by decide, by decide, by decide⟩
  | 6, _ => exact ⟨z_isb h (by decide) rfl, h.2.2 14 2 (by decide) (by decide), z_isb (a := 15) h (by decide) rfl, by rw [h.2.1 15 (by decide)]; rfl, k.1, k.2, by decide, by decide, by decide⟩
  | 7, _ => exact ⟨z_isb h (by decide) rfl, h.2.2 16 2 (by decide) (by decide), z_isb (a := 17) h (by decide) rfl, by rw [h.2.1 17 (by decide)]; rfl, k.1, k.2, by decide, by decide, by decide⟩
  | 8, _ => exact ⟨z_isb h (by decide) rfl, h.2.2 18 2 (by decide) (by decide), z_isb (a := 19) h (by decide) rfl, by rw [h.2.1 19 (by decide)]; rfl, k.1, k.2, by decide, by decide, by decide⟩
  | 9, _ => exact ⟨z_isb h (by decide) rfl, h.2.2 20 2 (by decide) (by decide), z_isb (a := 21) h (by decide) rfl, by rw [h.2.1 21 (by decide)]; rfl, k.1, k.2, by decide, by decide, by decide⟩
  | 10, _ => exact ⟨z_isb h (by decide) rfl, h.2.2 22 2 (by decide) (by decide), z_isb (a := 23) h (by decide) rfl, by rw [h.2.1 23 (by decide)]; rfl, k.1, k.2, by decide, by decide, by decide⟩
  | t + 11, ht => omega
theorem z_rows27 {M : q_Mem} (h : z_Lay M) (hc : z_RC 27 (q_I M)) : ∀ t, t < 11 → z_R M (27 + 1 + 2 * t) (27 + 2 + 2 * t) (z_tw t) (z_tm t) := by
  intro t ht
  have k := hc t ht
  match t, ht with
  | 0, _ => exact ⟨z_isb h (by decide) rfl, h.2.2 28 2 (by decide) (by decide), z_isb (a := 29) h (by decide) rfl, by rw [h.2.1 29 (by decide)]; rfl, k.1, k.2, by decide, by decide, by decide⟩
  | 1, _ => exact ⟨z_isb h (by decide) rfl, h.2.2 30 2 (by decide) (by decide), z_isb (a := 31) h (by decide) rfl, by rw [h.2.1 31 (by decide)]; rfl, k.1, k.2, by decide, by decide, by decide⟩
  | 2, _ => exact ⟨z_isb h (by decide) rfl, h.2.2 32 2 (by decide) (by decide), z_isb (a := 33) h (by decide) rfl, by rw [h.2.1 33 (by decide)]; rfl, k.1, k.2, by decide, by decide, by decide⟩
  | 3, _ => exact ⟨z_isb h (by decide) rfl, h.2.2 34 2 (by decide) (by decide), z_isb (a := 35) h (by decide) rfl, by rw [h.2.1 35 (by decide)]; rfl, k.1, k.2, by decide, by decide, by decide⟩
  | 4, _ => exact ⟨z_isb h (by decide) rfl, h.2.2 36 2 (by decide) (by decide), z_isb (a := 37) h (by decide) rfl, by rw [h.2.1 37 (by decide)]; rfl, k.1, k.2, by decide, by decide, by decide⟩
  | 5, _ => exact ⟨z_isb h (by decide) rfl, h.2.2 38 2 (by decide) (by decide), z_isb (a := 39) h (by decide) rfl, by rw [h.2.1 39 (by decide)]; rfl, k.1, k.2, by decide, by decide, by decide⟩
  | 6, _ => exact ⟨z_isb h (by decide) rfl, h.2.2 40 2 (by decide) (by decide), z_isb (a := 41) h (by decide) rfl, by rw [h.2.1 41 (by decide)]; rfl, k.1, k.2, by decide, by decide, by decide⟩
  | 7, _ => exact ⟨z_isb h (by decide) rfl, h.2.2 42 2 (by decide) (by decide), z_isb (a := 43) h (by decide) rfl, by rw [h.2.1 43 (by decide)]; rfl, k.1, k.2, by decide, by decide, by decide⟩
  | 8, _ => exact ⟨z_isb h (by decide) rfl, h.2.2 44 2 (by decide) (by decide), z_isb (a := 45) h (by decide) rfl, by rw [h.2.1 45 (by decide)]; rfl, k.1, k.2, by decide, by decide, by decide⟩
  | 9, _ => exact ⟨z_isb h (by decide) rfl, h.2.2 46 2 (by decide) (by decide), z_isb (a := 47) h (by decide) rfl, by rw [h.2.1 47 (by decide)]; rfl, k.1, k.2, by decide, by decide, by decide⟩
  | 10, _ => exact ⟨z_isb h (by decide) rfl, h.2.2 48 2 (by decide) (by decide), z_isb (a := 49) h (by decide) rfl, by rw [h.2.1 49 (by decide)]; rfl, k.1, k.2, by decide, by decide, by decide⟩
  | t + 11, ht => omega
theorem z_rows52 {M : q_Mem} (h : z_Lay M) (hc : z_RC 52 (q_I M)) : ∀ t, t < 11 → z_R M (52 + 1 + 2 * t) (52 + 2 + 2 * t) (z_tw t) (z_tm t) := by
  intro t ht
  have k := hc t ht
  match t, ht with
  | 0, _ => exact ⟨z_isb h (by decide) rfl, h.2.2 53 2 (by decide) (by decide), z_isb (a := 54) h (by decide) rfl, by rw [h.2.1 54 (by decide)]; rfl, k.1, k.2, by decide, by decide, by decide⟩
  | 1, _ => exact ⟨z_isb h (by decide) rfl, h.2.2 55 2 (by decide) (by decide), z_isb (a := 56) h (by decide) rfl, by rw [h.2.1 56 (by decide)]; rfl, k.1, k.2, by decide, by decide, by decide⟩
  | 2, _ => exact ⟨z_isb h (by decide) rfl, h.2.2 57 2 (by decide) (by decide), z_isb (a := 58) h (by decide) rfl, by rw [h.2.1 58 (by decide)]; rfl, k.1, k.2, by decide, by decide, by decide⟩
  | 3, _ => exact ⟨z_isb h (by decide) rfl, h.2.2 59 2 (by decide) (by decide), z_isb (a := 60) h (by decide) rfl, by rw [h.2.1 60 (by decide)]; rfl, k.1, k.2, by decide, by decide, by decide⟩
  | 4, _ => exact ⟨z_isb h (by decide) rfl, h.2.2 61 2 (by decide) (by decide), z_isb (a := 62) h (by decide) rfl, by rw [h.2.1 62 (by decide)]; rfl, k.1, k.2, by decide, by decide, by decide⟩
  | 5, _ => exact ⟨z_isb h (by decide) rfl, h.2.2 63 2 (by decide) (by decide), z_isb (a := 64) h (by decide) rfl, by rw [h.2.1 64 (by decide)]; rfl, k.1, k.2, by decide, by decide, by decide⟩
  | 6, _ => exact ⟨z_isb h (by decide) rfl, h.2.2 65 2 (by decide) (by decide), z_isb (a := 66) h (by decide) rfl, by rw [h.2.1 66 (by decide)]; rfl, k.1, k.2, by decide, by decide, by decide⟩
  | 7, _ => exact ⟨z_isb h (by decide) rfl, h.2.2 67 2 (by decide) (by decide), z_isb (a := 68) h (by decide) rfl, by rw [h.2.1 68 (by decide)]; rfl, k.1, k.2, by decide, by decide, by decide⟩
  | 8, _ => exact ⟨z_isb h (by decide) rfl, h.2.2 69 2 (by decide) (by decide), z_isb (a := 70) h (by decide) rfl, by rw [h.2.1 70 (by decide)]; rfl, k.1, k.2, by decide, by decide, by decide⟩
  | 9, _ => exact ⟨z_isb h (by decide) rfl, h.2.2 71 2 (by decide) (by decide), z_isb (a := 72) h (by decide) rfl, by rw [h.2.1 72 (by decide)]; rfl, k.1, k.2, by decide, by decide, by decide⟩
  | 10, _ => exact ⟨z_isb h (by decide) rfl, h.2.2 73 2 (by decide) (by decide), z_isb (a := 74) h (by decide) rfl, by rw [h.2.1 74 (by decide)]; rfl, k.1, k.2, by decide, by decide, by decide⟩
  | t + 11, ht => omega
