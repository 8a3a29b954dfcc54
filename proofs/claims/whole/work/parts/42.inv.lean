/-! ===== the invariant between the class and the model ===== -/
def z_tm : Nat → Nat := fun t => match t with
  | 0 => 20
  | 1 => 300
  | 2 => 200
  | 3 => 40
  | 4 => 100
  | 5 => 6
  | 6 => 10
  | 7 => 10
  | 8 => 40
  | 9 => 6
  | 10 => 6
  | _ => 0
def z_tw : Nat → Nat := fun t => match t with
  | 0 => 4
  | 1 => 4
  | 2 => 7
  | 3 => 3
  | 4 => 5
  | 5 => 61
  | 6 => 84
  | 7 => 3
  | 8 => 3
  | 9 => 3
  | 10 => 3
  | _ => 0
def z_to : Nat → Nat := fun t => match t with
  | 0 => 20
  | 1 => 100
  | 2 => 1300
  | 3 => 2700
  | 4 => 2820
  | 5 => 3320
  | 6 => 3686
  | 7 => 4526
  | 8 => 4608
  | 9 => 4728
  | 10 => 4746
  | _ => 0
def z_tn : Nat → Nat := fun t => match t with
  | 0 => 0
  | 1 => 1
  | 2 => 2
  | 3 => 3
  | 4 => 4
  | 5 => 19
  | 6 => 5
  | 7 => 6
  | 8 => 7
  | 9 => 8
  | 10 => 9
  | _ => 0
/-- columns of the MOTIONS stand in another order in the model -/
def z_pm (t j : Nat) : Nat := if t = 6 then (if j < 3 then 61 + j else if j < 64 then j - 3 else j) else j
def z_m (st : Nat → Int32) (t : Nat) : Nat := if t = 5 then 6 else (st (z_tn t)).toNatClampNeg
/-- which cells are looked at: of a TEXT its length and its characters -/
def z_lv (st : Nat → Int32) (t i j : Nat) : Prop := (t = 5 → j ≤ (st (3320 + 61 * i)).toNatClampNeg) ∧ (t = 6 → 3 ≤ j → j < 64 → j - 3 ≤ (st (3686 + 84 * i)).toNatClampNeg)
def z_RC (hb : Nat) (I : Nat → Nat → Int32) : Prop := ∀ t, t < 11 → I (hb + 1 + 2 * t) 0 = nI (z_tm t) ∧ I (hb + 1 + 2 * t) 1 = nI (z_tw t)
/-- one of the tables: as many rows, the same numbers -/
def z_T (hb : Nat) (I : Nat → Nat → Int32) (st : Nat → Int32) (t : Nat) : Prop :=
  I (hb + 1 + 2 * t) 3 = nI (z_m st t) ∧ z_m st t ≤ z_tm t ∧ (t ≠ 5 → st (z_tn t) = nI (z_m st t)) ∧ ∀ i j, i < z_m st t → j < z_tw t → z_lv st t i j → I (hb + 2 + 2 * t) (z_tw t * i + j) = st (z_to t + z_tw t * i + z_pm t j)
/-- v lies between -/
def z_bt (v : Int32) (a b : Int) : Prop := a ≤ v.toInt ∧ v.toInt ≤ b
def z_id (v : Int32) (n : Nat) : Prop := ∃ i, i < n ∧ v = nI i
def z_Tx (st : Nat → Int32) (o : Nat) : Prop := (∃ n, n ≤ 60 ∧ st o = nI n) ∧ ∀ j, j < (st o).toNatClampNeg → z_bt (st (o + 1 + j)) 0 127
def z_Lo (hb : Nat) (I : Nat → Nat → Int32) (st : Nat → Int32) : Prop := (∀ j, j < 4 → I (hb + 23) j = st (13 + j) ∧ z_bt (st (13 + j)) (-50) 50) ∧ (I hb 13 = st 10 ∧ z_bt (st 10) 1 28) ∧ (I hb 14 = st 11 ∧ z_bt (st 11) 1 2000) ∧ (I hb 15 = st 12 ∧ z_bt (st 12) 0 100)
def z_Yl (hb : Nat) (I : Nat → Nat → Int32) (st : Nat → Int32) : Prop := ∀ j, j < 52 → I (hb + 24) j = st (4556 + j) ∧ z_bt (st (4556 + j)) 0 500
/-- the numbers of row i of a table are as told -/
def z_VR (st : Nat → Int32) (m0 m3 : Nat) (t i : Nat) : Prop := match t with
  | 0 => z_bt (st (20 + 4 * i)) 0 200 ∧ z_bt (st (20 + 4 * i + 1)) 0 200 ∧ z_bt (st (20 + 4 * i + 2)) 0 60 ∧ z_bt (st (20 + 4 * i + 3)) 0 1
  | 1 => z_id (st (100 + 4 * i)) m0 ∧ z_bt (st (100 + 4 * i + 1)) 0 195 ∧ z_bt (st (100 + 4 * i + 2)) 1 1000 ∧ (st (100 + 4 * i + 3) = -1 ∨ z_id (st (100 + 4 * i + 3)) m3)
  | 2 => z_id (st (1300 + 7 * i)) m0 ∧ z_bt (st (1300 + 7 * i + 1)) 0 195 ∧ z_bt (st (1300 + 7 * i + 2)) 0 3 ∧ (st (1300 + 7 * i + 3) = -7 ∨ z_bt (st (1300 + 7 * i + 3)) 0 1000) ∧ z_bt (st (1300 + 7 * i + 4)) 0 195 ∧ ((st (1300 + 7 * i + 5) = -1 ∧ st (1300 + 7 * i + 6) = -1) ∨ (z_bt (st (1300 + 7 * i + 5)) 0 1000 ∧ z_bt (st (1300 + 7 * i + 6)) 0 195))
  | 3 => z_bt (st (2700 + 3 * i)) 0 195 ∧ z_bt (st (2700 + 3 * i + 1)) 40 80 ∧ z_bt (st (2700 + 3 * i + 2)) (-1) 300000000
  | 4 => z_id (st (2820 + 5 * i)) m3 ∧ ((st (2820 + 5 * i + 1) = -1 ∧ st (2820 + 5 * i + 2) = -1) ∨ (z_bt (st (2820 + 5 * i + 1)) 0 1000000 ∧ z_bt (st (2820 + 5 * i + 2)) 0 195)) ∧ z_bt (st (2820 + 5 * i + 3)) (-1) 100 ∧ z_bt (st (2820 + 5 * i + 4)) (-1) 100
  | 5 => z_Tx st (3320 + 61 * i)
  | 6 => z_Tx st (3686 + 84 * i) ∧ z_bt (st (3686 + 84 * i + 61)) 0 195 ∧ z_bt (st (3686 + 84 * i + 62)) 0 1 ∧ z_bt (st (3686 + 84 * i + 63)) 0 1 ∧ (∀ f, f < 20 → z_bt (st (3686 + 84 * i + 64 + f)) (-1) 1) ∧ z_ff st (3686 + 84 * i)
  | 7 => z_bt (st (4526 + 3 * i)) 1 1000000 ∧ z_bt (st (4526 + 3 * i + 1)) 40 80 ∧ z_bt (st (4526 + 3 * i + 2)) 0 9
  | 8 => z_id (st (4608 + 3 * i)) m0 ∧ z_bt (st (4608 + 3 * i + 1)) (-51) 27 ∧ z_bt (st (4608 + 3 * i + 2)) 1 60
  | 9 => z_bt (st (4728 + 3 * i)) 0 200 ∧ z_bt (st (4728 + 3 * i + 1)) 0 200 ∧ z_bt (st (4728 + 3 * i + 2)) 0 1000000
  | 10 => z_bt (st (4746 + 3 * i)) 1 1000000 ∧ z_bt (st (4746 + 3 * i + 1)) 0 100 ∧ z_bt (st (4746 + 3 * i + 2)) 1 100000
  | _ => True
def z_VT (st : Nat → Int32) (t : Nat) : Prop := ∀ i, i < z_m st t → z_VR st (z_m st 0) (z_m st 3) t i
def z_img (M : q_Mem) (e : Nat) : Nat → Int32 := fun k => q_I M 110 (4764 * e + k)
/-- a class' house stands as the numbers st say -/
def z_hs (hb : Nat) (I : Nat → Nat → Int32) (st : Nat → Int32) : Prop := (∀ t, t < 11 → z_T hb I st t) ∧ z_Lo hb I st ∧ z_Yl hb I st ∧ ∀ t, t < 11 → z_VT st t
/-- the empty set of CREAMS loses nothing, in no heap -/
def z_Zc (M : q_Mem) : Prop := q_I M 104 0 = 0 ∧ q_J M 103 0 = 0 ∧ q_J M 105 0 = 0 ∧ q_J M 106 0 = 0
theorem z_FR.zc {M M' : q_Mem} (h : z_FR M M') (z : z_Zc M) : z_Zc M' := by
  have e := h.2.2
  unfold z_zc at e
  obtain ⟨-, e⟩ := Prod.mk.inj e
  obtain ⟨e1, e⟩ := Prod.mk.inj e
  obtain ⟨e2, e⟩ := Prod.mk.inj e
  obtain ⟨e3, e4⟩ := Prod.mk.inj e
  exact ⟨e1.trans z.1, e2.trans z.2.1, e3.trans z.2.2.1, e4.trans z.2.2.2⟩
def z_Inv (M : q_Mem) : Prop := z_Lay M ∧ z_RC 1 (q_I M) ∧ z_RC 27 (q_I M) ∧ z_RC 52 (q_I M) ∧ z_hs 1 (q_I M) (q_I M 109) ∧
  (∀ e, e < 2 → q_I M 77 e = q_I M 111 e ∧ (q_I M 77 e = 0 ∨ (q_I M 77 e = 1 ∧ z_hs (27 + 25 * e) (q_I M) (z_img M e)))) ∧ z_Zc M
/-- what stays where nothing but scratch is written -/
def z_core (a : Nat) : Prop := (1 ≤ a ∧ a < 78) ∨ a = 109 ∨ a = 110 ∨ a = 111
def z_sm (M M' : q_Mem) : Prop := z_FR M M' ∧ ∀ a, z_core a → q_I M' a = q_I M a
theorem z_sm.rf {M : q_Mem} : z_sm M M := ⟨z_FR.rf, fun _ _ => rfl⟩
theorem z_sm.tr {M M1 M2 : q_Mem} (h : z_sm M M1) (h2 : z_sm M1 M2) : z_sm M M2 := ⟨h.1.tr h2.1, fun a ha => (h2.2 a ha).trans (h.2 a ha)⟩
theorem z_sm.sI {M : q_Mem} {a k : Nat} {v : Int32} (h : ¬ z_core a) (h2 : a ≠ 104 := by first | decide | omega) : z_sm M (q_sI M a k v) := ⟨z_FR.sI h2, fun b hb => q_sI_ne (fun e => h (e ▸ hb))⟩
theorem z_sm.sJ {M : q_Mem} {a k : Nat} {v : Int64} (h : a ≠ 103 ∧ a ≠ 105 ∧ a ≠ 106 := by first | decide | omega) : z_sm M (q_sJ M a k v) := ⟨z_FR.sJ h, fun _ _ => rfl⟩
theorem z_pm_lt {t j : Nat} (hj : j < z_tw t) : z_pm t j < z_tw t := by
  unfold z_pm
  by_cases h : t = 6
  · subst h
    have hj' : j < 84 := hj
    show _ < 84
    rw [if_pos rfl]
    split
    · omega
    · split <;> omega
  · rw [if_neg h]; exact hj
/-- a table is told by its own part of the numbers -/
theorem z_T.cong {hb t : Nat} {I I' : Nat → Nat → Int32} {st st' : Nat → Int32} (h : z_T hb I st t) (h1 : I' (hb + 1 + 2 * t) = I (hb + 1 + 2 * t)) (h2 : I' (hb + 2 + 2 * t) = I (hb + 2 + 2 * t)) (h3 : st' (z_tn t) = st (z_tn t)) (h4 : ∀ k, z_to t ≤ k → k < z_to t + z_tm t * z_tw t → st' k = st k) : z_T hb I' st' t := by
  have hm : z_m st' t = z_m st t := by unfold z_m; rw [h3]
  unfold z_T
  rw [hm, h1, h2, h3]
  refine ⟨h.1, h.2.1, h.2.2.1, fun i j hi hj hl => ?_⟩
  have hpos : ∀ j, j < z_tw t → z_to t ≤ z_to t + z_tw t * i + j ∧ z_to t + z_tw t * i + j < z_to t + z_tm t * z_tw t := fun j hj => by
    have := z_pos hi h.2.1 hj
    constructor <;> omega
  have hp := hpos _ (z_pm_lt hj)
  rw [h4 _ hp.1 hp.2]
  refine h.2.2.2 i j hi hj ⟨fun e => ?_, fun e g1 g2 => ?_⟩
  · subst e
    have h9 : i < 6 := Nat.lt_of_lt_of_le hi h.2.1
    have e5 := h4 (3320 + 61 * i) (by show 3320 ≤ 3320 + 61 * i; omega) (by show 3320 + 61 * i < 3320 + 6 * 61; omega)
    have := hl.1 rfl
    rwa [e5] at this
  · subst e
    have h9 : i < 10 := Nat.lt_of_lt_of_le hi h.2.1
    have e5 := h4 (3686 + 84 * i) (by show 3686 ≤ 3686 + 84 * i; omega) (by show 3686 + 84 * i < 3686 + 10 * 84; omega)
    have := hl.2 rfl g1 g2
    rwa [e5] at this
theorem z_id.mono {v : Int32} {n n' : Nat} (h : z_id v n) (hn : n ≤ n') : z_id v n' := ⟨h.choose, Nat.lt_of_lt_of_le h.choose_spec.1 hn, h.choose_spec.2⟩
theorem z_Tx.cong {st st' : Nat → Int32} {o : Nat} (h : z_Tx st o) (hk : ∀ k, o ≤ k → k < o + 61 → st' k = st k) : z_Tx st' o := by
  obtain ⟨⟨n, h1, h2⟩, h3⟩ := h
  have e0 : st' o = st o := hk o (by omega) (by omega)
  refine ⟨⟨n, h1, e0.trans h2⟩, fun j hj => ?_⟩
  rw [e0] at hj
  have hj2 : j < 60 := by
    rw [h2, nI_clamp (by omega)] at hj
    omega
  rw [hk _ (by omega) (by omega)]
  exact h3 j hj
/-- the numbers of a row are told by the row itself -/
theorem z_VR.cong {st st' : Nat → Int32} {m0 m3 m0' m3' t i : Nat} (h : z_VR st m0 m3 t i) (hk : ∀ j, j < z_tw t → st' (z_to t + z_tw t * i + j) = st (z_to t + z_tw t * i + j)) (h0 : m0 ≤ m0') (h3 : m3 ≤ m3') : z_VR st' m0' m3' t i := by
  match t, h, hk with
  | 0, h, hk =>
    have e : ∀ j, j < 4 → st' (20 + 4 * i + j) = st (20 + 4 * i + j) := by
      intro j hj
      have z1 := hk j hj
      simp only [z_to, z_tw] at z1
      exact z1
    have e0 := e 0 (by decide)
    rw [Nat.add_zero] at e0
    have e1 := e 1 (by decide)
    have e2 := e 2 (by decide)
    have e3 := e 3 (by decide)
    obtain ⟨x0, x1, x2, x3⟩ := h
    exact ⟨by rw [e0]; exact x0, by rw [e1]; exact x1, by rw [e2]; exact x2, by rw [e3]; exact x3⟩
  | 1, h, hk =>
    have e : ∀ j, j < 4 → st' (100 + 4 * i + j) = st (100 + 4 * i + j) := by
      intro j hj
      have z1 := hk j hj
      simp only [z_to, z_tw] at z1
      exact z1
    have e0 := e 0 (by decide)
    rw [Nat.add_zero] at e0
    have e1 := e 1 (by decide)
    have e2 := e 2 (by decide)
    have e3 := e 3 (by decide)
    unfold z_VR at h ⊢

    rw [e0, e1, e2, e3]
    exact ⟨h.1.mono h0, h.2.1, h.2.2.1, h.2.2.2.imp id (fun z => z.mono h3)⟩
  | 2, h, hk =>
    have e : ∀ j, j < 7 → st' (1300 + 7 * i + j) = st (1300 + 7 * i + j) := by
      intro j hj
      have z1 := hk j hj
      simp only [z_to, z_tw] at z1
      exact z1
    have e0 := e 0 (by decide)
    rw [Nat.add_zero] at e0
    have e1 := e 1 (by decide)
    have e2 := e 2 (by decide)
    have e3 := e 3 (by decide)
    have e4 := e 4 (by decide)
    have e5 := e 5 (by decide)
    have e6 := e 6 (by decide)
    unfold z_VR at h ⊢

    rw [e0, e1, e2, e3, e4, e5, e6]
    exact ⟨h.1.mono h0, h.2⟩
  | 3, h, hk =>
    have e : ∀ j, j < 3 → st' (2700 + 3 * i + j) = st (2700 + 3 * i + j) := by
      intro j hj
      have z1 := hk j hj
      simp only [z_to, z_tw] at z1
      exact z1
    have e0 := e 0 (by decide)
    rw [Nat.add_zero] at e0
    have e1 := e 1 (by decide)
    have e2 := e 2 (by decide)
    obtain ⟨x0, x1, x2⟩ := h
    exact ⟨by rw [e0]; exact x0, by rw [e1]; exact x1, by rw [e2]; exact x2⟩
  | 4, h, hk =>
    have e : ∀ j, j < 5 → st' (2820 + 5 * i + j) = st (2820 + 5 * i + j) := by
      intro j hj
      have z1 := hk j hj
      simp only [z_to, z_tw] at z1
      exact z1
    have e0 := e 0 (by decide)
    rw [Nat.add_zero] at e0
    have e1 := e 1 (by decide)
    have e2 := e 2 (by decide)
    have e3 := e 3 (by decide)
    have e4 := e 4 (by decide)
    unfold z_VR at h ⊢

    rw [e0, e1, e2, e3, e4]
    exact ⟨h.1.mono h3, h.2⟩
  | 5, h, hk =>
    have e : ∀ j, j < 61 → st' (3320 + 61 * i + j) = st (3320 + 61 * i + j) := by
      intro j hj
      have z1 := hk j hj
      simp only [z_to, z_tw] at z1
      exact z1
    refine z_Tx.cong h (fun k g1 g2 => ?_)
    have e2 := e (k - (3320 + 61 * i)) (by omega)
    rwa [show 3320 + 61 * i + (k - (3320 + 61 * i)) = k by omega] at e2
  | 6, h, hk =>
    have e : ∀ j, j < 84 → st' (3686 + 84 * i + j) = st (3686 + 84 * i + j) := by
      intro j hj
      have z1 := hk j hj
      simp only [z_to, z_tw] at z1
      exact z1
    obtain ⟨h1, h2, h5, h6, h7⟩ := h
    refine ⟨z_Tx.cong h1 (fun k g1 g2 => ?_), ?_, ?_, ?_, fun f hf => ?_, ?_⟩
    · have e2 := e (k - (3686 + 84 * i)) (by omega)
      rwa [show 3686 + 84 * i + (k - (3686 + 84 * i)) = k by omega] at e2
    · rw [e 61 (by decide)]; exact h2
    · rw [e 62 (by decide)]; exact h5
    · rw [e 63 (by decide)]; exact h6
    · rw [Nat.add_assoc, e (64 + f) (by omega), ← Nat.add_assoc]; exact h7.1 f hf
    · refine h7.2.cong (by have e2 := e 0 (by decide); exact e2) (fun j hj => ?_)
      have hl : j < 60 := by
        obtain ⟨n, hn, e0⟩ := h1.1
        rw [e0, nI_clamp (by omega)] at hj
        omega
      have e2 := e (1 + j) (by omega)
      rw [← Nat.add_assoc] at e2
      exact e2
  | 7, h, hk =>
    have e : ∀ j, j < 3 → st' (4526 + 3 * i + j) = st (4526 + 3 * i + j) := by
      intro j hj
      have z1 := hk j hj
      simp only [z_to, z_tw] at z1
      exact z1
    have e0 := e 0 (by decide)
    rw [Nat.add_zero] at e0
    have e1 := e 1 (by decide)
    have e2 := e 2 (by decide)
    obtain ⟨x0, x1, x2⟩ := h
    exact ⟨by rw [e0]; exact x0, by rw [e1]; exact x1, by rw [e2]; exact x2⟩
  | 8, h, hk =>
    have e : ∀ j, j < 3 → st' (4608 + 3 * i + j) = st (4608 + 3 * i + j) := by
      intro j hj
      have z1 := hk j hj
      simp only [z_to, z_tw] at z1
      exact z1
    have e0 := e 0 (by decide)
    rw [Nat.add_zero] at e0
    have e1 := e 1 (by decide)
    have e2 := e 2 (by decide)
    unfold z_VR at h ⊢

    rw [e0, e1, e2]
    exact ⟨h.1.mono h0, h.2⟩
  | 9, h, hk =>
    have e : ∀ j, j < 3 → st' (4728 + 3 * i + j) = st (4728 + 3 * i + j) := by
      intro j hj
      have z1 := hk j hj
      simp only [z_to, z_tw] at z1
      exact z1
    have e0 := e 0 (by decide)
    rw [Nat.add_zero] at e0
    have e1 := e 1 (by decide)
    have e2 := e 2 (by decide)
    obtain ⟨x0, x1, x2⟩ := h
    exact ⟨by rw [e0]; exact x0, by rw [e1]; exact x1, by rw [e2]; exact x2⟩
  | 10, h, hk =>
    have e : ∀ j, j < 3 → st' (4746 + 3 * i + j) = st (4746 + 3 * i + j) := by
      intro j hj
      have z1 := hk j hj
      simp only [z_to, z_tw] at z1
      exact z1
    have e0 := e 0 (by decide)
    rw [Nat.add_zero] at e0
    have e1 := e 1 (by decide)
    have e2 := e 2 (by decide)
    obtain ⟨x0, x1, x2⟩ := h
    exact ⟨by rw [e0]; exact x0, by rw [e1]; exact x1, by rw [e2]; exact x2⟩
  | t + 11, _, _ => trivial
theorem z_VT.cong {st st' : Nat → Int32} {t : Nat} (h : z_VT st t) (hT : z_m st t ≤ z_tm t) (hn : st' (z_tn t) = st (z_tn t)) (h4 : ∀ k, z_to t ≤ k → k < z_to t + z_tm t * z_tw t → st' k = st k) (h0 : z_m st 0 ≤ z_m st' 0) (h3 : z_m st 3 ≤ z_m st' 3) : z_VT st' t := by
  have hm : z_m st' t = z_m st t := by unfold z_m; rw [hn]
  intro i hi
  rw [hm] at hi
  refine (h i hi).cong (fun j hj => h4 _ (by omega) ?_) h0 h3
  have := z_pos hi hT hj
  omega
theorem z_Lo.cong {hb : Nat} {I I' : Nat → Nat → Int32} {st st' : Nat → Int32} (h : z_Lo hb I st) (h1 : I' hb = I hb) (h2 : I' (hb + 23) = I (hb + 23)) (h3 : ∀ k, 10 ≤ k → k < 17 → st' k = st k) : z_Lo hb I' st' := by
  unfold z_Lo
  rw [h1, h2, h3 10 (by omega) (by omega), h3 11 (by omega) (by omega), h3 12 (by omega) (by omega)]
  exact ⟨fun j hj => by rw [h3 _ (by omega) (by omega)]; exact h.1 j hj, h.2⟩
theorem z_Yl.cong {hb : Nat} {I I' : Nat → Nat → Int32} {st st' : Nat → Int32} (h : z_Yl hb I st) (h2 : I' (hb + 24) = I (hb + 24)) (h3 : ∀ k, 4556 ≤ k → k < 4608 → st' k = st k) : z_Yl hb I' st' := by
  intro j hj
  rw [h2, h3 _ (by omega) (by omega)]
  exact h j hj
theorem z_hs.cong {hb : Nat} {I I' : Nat → Nat → Int32} {st : Nat → Int32} (h : z_hs hb I st) (he : ∀ a, hb ≤ a → a < hb + 25 → I' a = I a) : z_hs hb I' st :=
  ⟨fun t ht => (h.1 t ht).cong (he _ (by omega) (by omega)) (he _ (by omega) (by omega)) rfl (fun _ _ _ => rfl), h.2.1.cong (he _ (by omega) (by omega)) (he _ (by omega) (by omega)) (fun _ _ _ => rfl), h.2.2.1.cong (he _ (by omega) (by omega)) (fun _ _ _ => rfl), h.2.2.2⟩
theorem z_RC.cong {hb : Nat} {I I' : Nat → Nat → Int32} (h : z_RC hb I) (he : ∀ a, hb ≤ a → a < hb + 25 → I' a = I a) : z_RC hb I' := by
  intro t ht
  rw [he _ (by omega) (by omega)]
  exact h t ht
theorem z_Inv.sm {M M' : q_Mem} (h : z_Inv M) (s : z_sm M M') : z_Inv M' := by
  obtain ⟨h1, h2, h3, h4, h5, h6, h7⟩ := h
  have c1 : ∀ a, 1 ≤ a → a < 78 → q_I M' a = q_I M a := fun a h1 h2 => s.2 a (Or.inl ⟨h1, h2⟩)
  have e9 : q_I M' 109 = q_I M 109 := s.2 109 (Or.inr (Or.inl rfl))
  have e10 : q_I M' 110 = q_I M 110 := s.2 110 (Or.inr (Or.inr (Or.inl rfl)))
  have e11 : q_I M' 111 = q_I M 111 := s.2 111 (Or.inr (Or.inr (Or.inr rfl)))
  refine ⟨s.1.lay h1, h2.cong (fun a x y => c1 a (by omega) (by omega)), h3.cong (fun a x y => c1 a (by omega) (by omega)), h4.cong (fun a x y => c1 a (by omega) (by omega)), ?_, fun e he => ?_, s.1.zc h7⟩
  · rw [e9]
    exact h5.cong (fun a x y => c1 a (by omega) (by omega))
  · rw [c1 77 (by omega) (by omega), e11]
    obtain ⟨g1, g2⟩ := h6 e he
    refine ⟨g1, g2.imp id (fun g => ⟨g.1, ?_⟩)⟩
    have ei : z_img M' e = z_img M e := by unfold z_img; rw [e10]
    rw [ei]
    exact g.2.cong (fun a x y => c1 a (by omega) (by omega))
theorem z_rows1 {M : q_Mem} (h : z_Lay M) (hc : z_RC 1 (q_I M)) : ∀ t, t < 11 → z_R M (1 + 1 + 2 * t) (1 + 2 + 2 * t) (z_tw t) (z_tm t) := by
  intro t ht
  have k := hc t ht
  match t, ht with
  | 0, _ => exact ⟨z_isb h (by decide) rfl, h.2.2 2 2 (by decide) (by decide), z_isb (a := 3) h (by decide) rfl, by rw [h.2.1 3 (by decide)]; rfl, k.1, k.2, by decide, by decide, by decide, by decide, by decide⟩
  | 1, _ => exact ⟨z_isb h (by decide) rfl, h.2.2 4 2 (by decide) (by decide), z_isb (a := 5) h (by decide) rfl, by rw [h.2.1 5 (by decide)]; rfl, k.1, k.2, by decide, by decide, by decide, by decide, by decide⟩
  | 2, _ => exact ⟨z_isb h (by decide) rfl, h.2.2 6 2 (by decide) (by decide), z_isb (a := 7) h (by decide) rfl, by rw [h.2.1 7 (by decide)]; rfl, k.1, k.2, by decide, by decide, by decide, by decide, by decide⟩
  | 3, _ => exact ⟨z_isb h (by decide) rfl, h.2.2 8 2 (by decide) (by decide), z_isb (a := 9) h (by decide) rfl, by rw [h.2.1 9 (by decide)]; rfl, k.1, k.2, by decide, by decide, by decide, by decide, by decide⟩
  | 4, _ => exact ⟨z_isb h (by decide) rfl, h.2.2 10 2 (by decide) (by decide), z_isb (a := 11) h (by decide) rfl, by rw [h.2.1 11 (by decide)]; rfl, k.1, k.2, by decide, by decide, by decide, by decide, by decide⟩
  | 5, _ => exact ⟨z_isb h (by decide) rfl, h.2.2 12 2 (by decide) (by decide), z_isb (a := 13) h (by decide) rfl, by rw [h.2.1 13 (by decide)]; rfl, k.1, k.2, by decide, by decide, by decide, by decide, by decide⟩
  | 6, _ => exact ⟨z_isb h (by decide) rfl, h.2.2 14 2 (by decide) (by decide), z_isb (a := 15) h (by decide) rfl, by rw [h.2.1 15 (by decide)]; rfl, k.1, k.2, by decide, by decide, by decide, by decide, by decide⟩
  | 7, _ => exact ⟨z_isb h (by decide) rfl, h.2.2 16 2 (by decide) (by decide), z_isb (a := 17) h (by decide) rfl, by rw [h.2.1 17 (by decide)]; rfl, k.1, k.2, by decide, by decide, by decide, by decide, by decide⟩
  | 8, _ => exact ⟨z_isb h (by decide) rfl, h.2.2 18 2 (by decide) (by decide), z_isb (a := 19) h (by decide) rfl, by rw [h.2.1 19 (by decide)]; rfl, k.1, k.2, by decide, by decide, by decide, by decide, by decide⟩
  | 9, _ => exact ⟨z_isb h (by decide) rfl, h.2.2 20 2 (by decide) (by decide), z_isb (a := 21) h (by decide) rfl, by rw [h.2.1 21 (by decide)]; rfl, k.1, k.2, by decide, by decide, by decide, by decide, by decide⟩
  | 10, _ => exact ⟨z_isb h (by decide) rfl, h.2.2 22 2 (by decide) (by decide), z_isb (a := 23) h (by decide) rfl, by rw [h.2.1 23 (by decide)]; rfl, k.1, k.2, by decide, by decide, by decide, by decide, by decide⟩
  | t + 11, ht => omega
theorem z_rows27 {M : q_Mem} (h : z_Lay M) (hc : z_RC 27 (q_I M)) : ∀ t, t < 11 → z_R M (27 + 1 + 2 * t) (27 + 2 + 2 * t) (z_tw t) (z_tm t) := by
  intro t ht
  have k := hc t ht
  match t, ht with
  | 0, _ => exact ⟨z_isb h (by decide) rfl, h.2.2 28 2 (by decide) (by decide), z_isb (a := 29) h (by decide) rfl, by rw [h.2.1 29 (by decide)]; rfl, k.1, k.2, by decide, by decide, by decide, by decide, by decide⟩
  | 1, _ => exact ⟨z_isb h (by decide) rfl, h.2.2 30 2 (by decide) (by decide), z_isb (a := 31) h (by decide) rfl, by rw [h.2.1 31 (by decide)]; rfl, k.1, k.2, by decide, by decide, by decide, by decide, by decide⟩
  | 2, _ => exact ⟨z_isb h (by decide) rfl, h.2.2 32 2 (by decide) (by decide), z_isb (a := 33) h (by decide) rfl, by rw [h.2.1 33 (by decide)]; rfl, k.1, k.2, by decide, by decide, by decide, by decide, by decide⟩
  | 3, _ => exact ⟨z_isb h (by decide) rfl, h.2.2 34 2 (by decide) (by decide), z_isb (a := 35) h (by decide) rfl, by rw [h.2.1 35 (by decide)]; rfl, k.1, k.2, by decide, by decide, by decide, by decide, by decide⟩
  | 4, _ => exact ⟨z_isb h (by decide) rfl, h.2.2 36 2 (by decide) (by decide), z_isb (a := 37) h (by decide) rfl, by rw [h.2.1 37 (by decide)]; rfl, k.1, k.2, by decide, by decide, by decide, by decide, by decide⟩
  | 5, _ => exact ⟨z_isb h (by decide) rfl, h.2.2 38 2 (by decide) (by decide), z_isb (a := 39) h (by decide) rfl, by rw [h.2.1 39 (by decide)]; rfl, k.1, k.2, by decide, by decide, by decide, by decide, by decide⟩
  | 6, _ => exact ⟨z_isb h (by decide) rfl, h.2.2 40 2 (by decide) (by decide), z_isb (a := 41) h (by decide) rfl, by rw [h.2.1 41 (by decide)]; rfl, k.1, k.2, by decide, by decide, by decide, by decide, by decide⟩
  | 7, _ => exact ⟨z_isb h (by decide) rfl, h.2.2 42 2 (by decide) (by decide), z_isb (a := 43) h (by decide) rfl, by rw [h.2.1 43 (by decide)]; rfl, k.1, k.2, by decide, by decide, by decide, by decide, by decide⟩
  | 8, _ => exact ⟨z_isb h (by decide) rfl, h.2.2 44 2 (by decide) (by decide), z_isb (a := 45) h (by decide) rfl, by rw [h.2.1 45 (by decide)]; rfl, k.1, k.2, by decide, by decide, by decide, by decide, by decide⟩
  | 9, _ => exact ⟨z_isb h (by decide) rfl, h.2.2 46 2 (by decide) (by decide), z_isb (a := 47) h (by decide) rfl, by rw [h.2.1 47 (by decide)]; rfl, k.1, k.2, by decide, by decide, by decide, by decide, by decide⟩
  | 10, _ => exact ⟨z_isb h (by decide) rfl, h.2.2 48 2 (by decide) (by decide), z_isb (a := 49) h (by decide) rfl, by rw [h.2.1 49 (by decide)]; rfl, k.1, k.2, by decide, by decide, by decide, by decide, by decide⟩
  | t + 11, ht => omega
theorem z_rows52 {M : q_Mem} (h : z_Lay M) (hc : z_RC 52 (q_I M)) : ∀ t, t < 11 → z_R M (52 + 1 + 2 * t) (52 + 2 + 2 * t) (z_tw t) (z_tm t) := by
  intro t ht
  have k := hc t ht
  match t, ht with
  | 0, _ => exact ⟨z_isb h (by decide) rfl, h.2.2 53 2 (by decide) (by decide), z_isb (a := 54) h (by decide) rfl, by rw [h.2.1 54 (by decide)]; rfl, k.1, k.2, by decide, by decide, by decide, by decide, by decide⟩
  | 1, _ => exact ⟨z_isb h (by decide) rfl, h.2.2 55 2 (by decide) (by decide), z_isb (a := 56) h (by decide) rfl, by rw [h.2.1 56 (by decide)]; rfl, k.1, k.2, by decide, by decide, by decide, by decide, by decide⟩
  | 2, _ => exact ⟨z_isb h (by decide) rfl, h.2.2 57 2 (by decide) (by decide), z_isb (a := 58) h (by decide) rfl, by rw [h.2.1 58 (by decide)]; rfl, k.1, k.2, by decide, by decide, by decide, by decide, by decide⟩
  | 3, _ => exact ⟨z_isb h (by decide) rfl, h.2.2 59 2 (by decide) (by decide), z_isb (a := 60) h (by decide) rfl, by rw [h.2.1 60 (by decide)]; rfl, k.1, k.2, by decide, by decide, by decide, by decide, by decide⟩
  | 4, _ => exact ⟨z_isb h (by decide) rfl, h.2.2 61 2 (by decide) (by decide), z_isb (a := 62) h (by decide) rfl, by rw [h.2.1 62 (by decide)]; rfl, k.1, k.2, by decide, by decide, by decide, by decide, by decide⟩
  | 5, _ => exact ⟨z_isb h (by decide) rfl, h.2.2 63 2 (by decide) (by decide), z_isb (a := 64) h (by decide) rfl, by rw [h.2.1 64 (by decide)]; rfl, k.1, k.2, by decide, by decide, by decide, by decide, by decide⟩
  | 6, _ => exact ⟨z_isb h (by decide) rfl, h.2.2 65 2 (by decide) (by decide), z_isb (a := 66) h (by decide) rfl, by rw [h.2.1 66 (by decide)]; rfl, k.1, k.2, by decide, by decide, by decide, by decide, by decide⟩
  | 7, _ => exact ⟨z_isb h (by decide) rfl, h.2.2 67 2 (by decide) (by decide), z_isb (a := 68) h (by decide) rfl, by rw [h.2.1 68 (by decide)]; rfl, k.1, k.2, by decide, by decide, by decide, by decide, by decide⟩
  | 8, _ => exact ⟨z_isb h (by decide) rfl, h.2.2 69 2 (by decide) (by decide), z_isb (a := 70) h (by decide) rfl, by rw [h.2.1 70 (by decide)]; rfl, k.1, k.2, by decide, by decide, by decide, by decide, by decide⟩
  | 9, _ => exact ⟨z_isb h (by decide) rfl, h.2.2 71 2 (by decide) (by decide), z_isb (a := 72) h (by decide) rfl, by rw [h.2.1 72 (by decide)]; rfl, k.1, k.2, by decide, by decide, by decide, by decide, by decide⟩
  | 10, _ => exact ⟨z_isb h (by decide) rfl, h.2.2 73 2 (by decide) (by decide), z_isb (a := 74) h (by decide) rfl, by rw [h.2.1 74 (by decide)]; rfl, k.1, k.2, by decide, by decide, by decide, by decide, by decide⟩
  | t + 11, ht => omega
