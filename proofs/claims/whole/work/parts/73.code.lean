/-! ===== the model: a text becomes steps ===== -/
def z_up (f : Nat → Int32) (k : Nat) (v : Int32) : Nat → Int32 := fun j => if j = k then v else f j
theorem z_up_eq {f : Nat → Int32} {k : Nat} {v : Int32} : z_up f k v k = v := if_pos rfl
theorem z_up_ne {f : Nat → Int32} {k j : Nat} {v : Int32} (h : j ≠ k) : z_up f k v j = f j := if_neg h
theorem z_sI_up {M : q_Mem} {a k : Nat} {v : Int32} : q_I (q_sI M a k v) a = z_up (q_I M a) k v := by
  funext j
  show (if a = a ∧ j = k then v else q_I M a j) = (if j = k then v else q_I M a j)
  by_cases h : j = k
  · rw [if_pos ⟨rfl, h⟩, if_pos h]
  · rw [if_neg (fun z => h z.2), if_neg h]
def z_wk (k : Nat) : Nat := if k = 128 then 126 else k
def z_hd (k : Nat) : Nat := if k = 33 then 7 else if k = 126 then 7 else if 0 < z_rk k then z_rk k + 1 else 0
theorem z_hd9 : ∀ x, x < 128 → f_X12_holds z_M9 (nI x) = some (nI (z_hd x)) := by decide +kernel
theorem zm_holds {M : q_Mem} {x : Nat} (h : x < 128) : f_X12_holds M (nI x) = some (nI (z_hd x)) := z_hd9 x h
theorem z_nm10 : ∀ x, x < 128 → f_X12_nameOf z_M9 (nI x) = some (if z_nmOf x < 8 then nI (z_nmOf x) else -1) := by decide +kernel
theorem zm_nameOf {M : q_Mem} {x : Nat} (h : x < 128) : f_X12_nameOf M (nI x) = some (if z_nmOf x < 8 then nI (z_nmOf x) else -1) := z_nm10 x h
def z_cd (sp wi ot w0 w1 w2 : Nat → Int32) : List z_Fr → Nat → Prop
  | [], q => q = 0
  | f :: t, q => w0 t.length = nI (z_wk f.1) ∧
      (if f.1 = 33 ∨ f.1 = 128 ∨ f.1 = 40 then z_cd sp wi ot w0 w1 w2 t q
       else if f.1 = 38 ∨ f.1 = 124 then ∃ p m, z_cd sp wi ot w0 w1 w2 t p ∧ z_Run sp wi ot p m f.2.1 ∧ q = m + 1 ∧ sp m = (if f.1 = 38 then nI 12 else nI 13) ∧ w1 t.length = nI m
       else if f.1 = 63 then ∃ p m, z_cd sp wi ot w0 w1 w2 t p ∧ z_Run sp wi ot p m f.2.1 ∧ q = m + 1 ∧ sp m = 14 ∧ w1 t.length = nI m
       else if f.1 = 58 then ∃ p m n, z_cd sp wi ot w0 w1 w2 t p ∧ z_Run sp wi ot p m f.2.1 ∧ sp m = 14 ∧ wi m = nI (n + 1) ∧ z_Run sp wi ot (m + 1) n f.2.2 ∧ sp n = 15 ∧ q = n + 1 ∧ w1 t.length = nI n ∧ w2 t.length = nI m
       else ∃ p, z_cd sp wi ot w0 w1 w2 t p ∧ z_Run sp wi ot p q f.2.1)
theorem z_cd.cong {sp wi ot w0 w1 w2 sp' wi' ot' w0' w1' w2' : Nat → Int32} : ∀ (fr : List z_Fr) (q : Nat), z_cd sp wi ot w0 w1 w2 fr q → (∀ j, j < q → sp' j = sp j ∧ wi' j = wi j ∧ ot' j = ot j) → (∀ j, j < fr.length → w0' j = w0 j ∧ w1' j = w1 j ∧ w2' j = w2 j) → z_cd sp' wi' ot' w0' w1' w2' fr q
  | [], q, h, _, _ => h
  | f :: t, q, h, hc, hw => by
    have hw0 := hw t.length (by rw [List.length_cons]; omega)
    have hwt : ∀ j, j < t.length → w0' j = w0 j ∧ w1' j = w1 j ∧ w2' j = w2 j := fun j hj => hw j (by rw [List.length_cons]; omega)
    unfold z_cd at h ⊢
    refine ⟨hw0.1.trans h.1, ?_⟩
    have h2 := h.2
    split at h2
    · rw [if_pos (by assumption)]
      exact z_cd.cong t q h2 hc hwt
    · rw [if_neg (by assumption)]
      split at h2
      · rw [if_pos (by assumption)]
        obtain ⟨p, m, a1, a2, a3, a4, a5⟩ := h2
        have hpm := a2.1
        exact ⟨p, m, z_cd.cong t p a1 (fun j hj => hc j (by omega)) hwt, a2.cong (fun j x y => hc j (by omega)), a3, (hc m (by omega)).1.trans a4, hw0.2.1.trans a5⟩
      · rw [if_neg (by assumption)]
        split at h2
        · rw [if_pos (by assumption)]
          obtain ⟨p, m, a1, a2, a3, a4, a5⟩ := h2
          have hpm := a2.1
          exact ⟨p, m, z_cd.cong t p a1 (fun j hj => hc j (by omega)) hwt, a2.cong (fun j x y => hc j (by omega)), a3, (hc m (by omega)).1.trans a4, hw0.2.1.trans a5⟩
        · rw [if_neg (by assumption)]
          split at h2
          · rw [if_pos (by assumption)]
            obtain ⟨p, m, n, a1, a2, a3, a4, a5, a6, a7, a8, a9⟩ := h2
            have hpm := a2.1
            have hmn := a5.1
            exact ⟨p, m, n, z_cd.cong t p a1 (fun j hj => hc j (by omega)) hwt, a2.cong (fun j x y => hc j (by omega)), (hc m (by omega)).1.trans a3, (hc m (by omega)).2.1.trans a4, a5.cong (fun j x y => hc j (by omega)), (hc n (by omega)).1.trans a6, a7, hw0.2.1.trans a8, hw0.2.2.trans a9⟩
          · rw [if_neg (by assumption)]
            obtain ⟨p, a1, a2⟩ := h2
            have hpm := a2.1
            exact ⟨p, z_cd.cong t p a1 (fun j hj => hc j (by omega)) hwt, a2.cong (fun j x y => hc j (by omega))⟩
def z_ma (a : Nat) : Prop := a = 108 ∨ (113 ≤ a ∧ a ≤ 118)
/-- the model reading: its arrays, steps, marks that wait, what is opened -/
def z_MP (Mb M : q_Mem) (sp wi ot w0 w1 w2 : Nat → Int32) (S L o : Nat) : Prop :=
  z_FR Mb M ∧ (∀ a, ¬ z_ma a → q_I M a = q_I Mb a) ∧ (∀ f, f ≠ 4 → f ≠ 8 → f ≠ 12 → q_I M 108 f = q_I Mb 108 f) ∧ q_J M = q_J Mb ∧
  q_I M 113 = sp ∧ q_I M 114 = wi ∧ q_I M 115 = ot ∧ q_I M 116 = w0 ∧ q_I M 117 = w1 ∧ q_I M 118 = w2 ∧ q_I M 108 4 = nI S ∧ q_I M 108 8 = nI L ∧ q_I M 108 12 = nI o
section ZA
variable {Mb M : q_Mem} {sp wi ot w0 w1 w2 : Nat → Int32} {S L o : Nat}
theorem z_MP.lay (h : z_MP Mb M sp wi ot w0 w1 w2 S L o) (hL : z_Lay Mb) : z_Lay M := h.1.lay hL
theorem z_MP.f (h : z_MP Mb M sp wi ot w0 w1 w2 S L o) (L' o' : Nat) : z_MP Mb (q_sI M 108 8 (nI L')) sp wi ot w0 w1 w2 S L' o ∧ z_MP Mb (q_sI M 108 12 (nI o')) sp wi ot w0 w1 w2 S L o' := by
  obtain ⟨a1, a2, a3, a4, a5, a6, a7, a8, a9, b1, b2, b3, b4⟩ := h
  have ne : ∀ {k v} a, a ≠ 108 → q_I (q_sI M 108 k v) a = q_I M a := fun a h => q_sI_ne h
  constructor
  · refine ⟨⟨a1.1, a1.2.1, a1.2.2⟩, fun a ha => ?_, fun g h1 h2 h3 => ?_, a4, (ne 113 (by decide)).trans a5, (ne 114 (by decide)).trans a6, (ne 115 (by decide)).trans a7, (ne 116 (by decide)).trans a8, (ne 117 (by decide)).trans a9, (ne 118 (by decide)).trans b1, ?_, ?_, ?_⟩
    · rw [q_sI_ne (fun z => ha (Or.inl z))]; exact a2 a ha
    · rw [z_I_sI, if_neg (by omega)]; exact a3 g h1 h2 h3
    · rw [z_I_sI, if_neg (by omega)]; exact b2
    · rw [z_I_sI, if_pos ⟨rfl, rfl⟩]
    · rw [z_I_sI, if_neg (by omega)]; exact b4
  · refine ⟨⟨a1.1, a1.2.1, a1.2.2⟩, fun a ha => ?_, fun g h1 h2 h3 => ?_, a4, (ne 113 (by decide)).trans a5, (ne 114 (by decide)).trans a6, (ne 115 (by decide)).trans a7, (ne 116 (by decide)).trans a8, (ne 117 (by decide)).trans a9, (ne 118 (by decide)).trans b1, ?_, ?_, ?_⟩
    · rw [q_sI_ne (fun z => ha (Or.inl z))]; exact a2 a ha
    · rw [z_I_sI, if_neg (by omega)]; exact a3 g h1 h2 h3
    · rw [z_I_sI, if_neg (by omega)]; exact b2
    · rw [z_I_sI, if_neg (by omega)]; exact b3
    · rw [z_I_sI, if_pos ⟨rfl, rfl⟩]
theorem z_MP.pwi (h : z_MP Mb M sp wi ot w0 w1 w2 S L o) (k : Nat) (v : Int32) : z_MP Mb (q_sI M 114 k v) sp (z_up wi k v) ot w0 w1 w2 S L o := by
  obtain ⟨a1, a2, a3, a4, a5, a6, a7, a8, a9, b1, b2, b3, b4⟩ := h
  refine ⟨⟨a1.1, a1.2.1, a1.2.2⟩, fun a ha => ?_, fun g h1 h2 h3 => ?_, a4, (q_sI_ne (by decide)).trans a5, ?_, (q_sI_ne (by decide)).trans a7, (q_sI_ne (by decide)).trans a8, (q_sI_ne (by decide)).trans a9, (q_sI_ne (by decide)).trans b1, ?_, ?_, ?_⟩
  · rw [q_sI_ne (fun z => ha (by unfold z_ma; omega))]; exact a2 a ha
  · rw [z_I_sI, if_neg (by omega)]; exact a3 g h1 h2 h3
  · rw [z_sI_up, a6]
  · rw [z_I_sI, if_neg (by omega)]; exact b2
  · rw [z_I_sI, if_neg (by omega)]; exact b3
  · rw [z_I_sI, if_neg (by omega)]; exact b4
theorem z_MP.pot (h : z_MP Mb M sp wi ot w0 w1 w2 S L o) (k : Nat) (v : Int32) : z_MP Mb (q_sI M 115 k v) sp wi (z_up ot k v) w0 w1 w2 S L o := by
  obtain ⟨a1, a2, a3, a4, a5, a6, a7, a8, a9, b1, b2, b3, b4⟩ := h
  refine ⟨⟨a1.1, a1.2.1, a1.2.2⟩, fun a ha => ?_, fun g h1 h2 h3 => ?_, a4, (q_sI_ne (by decide)).trans a5, (q_sI_ne (by decide)).trans a6, ?_, (q_sI_ne (by decide)).trans a8, (q_sI_ne (by decide)).trans a9, (q_sI_ne (by decide)).trans b1, ?_, ?_, ?_⟩
  · rw [q_sI_ne (fun z => ha (by unfold z_ma; omega))]; exact a2 a ha
  · rw [z_I_sI, if_neg (by omega)]; exact a3 g h1 h2 h3
  · rw [z_sI_up, a7]
  · rw [z_I_sI, if_neg (by omega)]; exact b2
  · rw [z_I_sI, if_neg (by omega)]; exact b3
  · rw [z_I_sI, if_neg (by omega)]; exact b4
theorem z_MP.psp (h : z_MP Mb M sp wi ot w0 w1 w2 S L o) (k : Nat) (v : Int32) : z_MP Mb (q_sI M 113 k v) (z_up sp k v) wi ot w0 w1 w2 S L o := by
  obtain ⟨a1, a2, a3, a4, a5, a6, a7, a8, a9, b1, b2, b3, b4⟩ := h
  refine ⟨⟨a1.1, a1.2.1, a1.2.2⟩, fun a ha => ?_, fun g h1 h2 h3 => ?_, a4, ?_, (q_sI_ne (by decide)).trans a6, (q_sI_ne (by decide)).trans a7, (q_sI_ne (by decide)).trans a8, (q_sI_ne (by decide)).trans a9, (q_sI_ne (by decide)).trans b1, ?_, ?_, ?_⟩
  · rw [q_sI_ne (fun z => ha (by unfold z_ma; omega))]; exact a2 a ha
  · rw [z_I_sI, if_neg (by omega)]; exact a3 g h1 h2 h3
  · rw [z_sI_up, a5]
  · rw [z_I_sI, if_neg (by omega)]; exact b2
  · rw [z_I_sI, if_neg (by omega)]; exact b3
  · rw [z_I_sI, if_neg (by omega)]; exact b4
theorem z_MP.f4 (h : z_MP Mb M sp wi ot w0 w1 w2 S L o) (S' : Nat) : z_MP Mb (q_sI M 108 4 (nI S')) sp wi ot w0 w1 w2 S' L o := by
  obtain ⟨a1, a2, a3, a4, a5, a6, a7, a8, a9, b1, b2, b3, b4⟩ := h
  refine ⟨⟨a1.1, a1.2.1, a1.2.2⟩, fun a ha => ?_, fun g h1 h2 h3 => ?_, a4, (q_sI_ne (by decide)).trans a5, (q_sI_ne (by decide)).trans a6, (q_sI_ne (by decide)).trans a7, (q_sI_ne (by decide)).trans a8, (q_sI_ne (by decide)).trans a9, (q_sI_ne (by decide)).trans b1, ?_, ?_, ?_⟩
  · rw [q_sI_ne (fun z => ha (Or.inl z))]; exact a2 a ha
  · rw [z_I_sI, if_neg (by omega)]; exact a3 g h1 h2 h3
  · rw [z_I_sI, if_pos ⟨rfl, rfl⟩]
  · rw [z_I_sI, if_neg (by omega)]; exact b3
  · rw [z_I_sI, if_neg (by omega)]; exact b4
theorem z_MP.wa (h : z_MP Mb M sp wi ot w0 w1 w2 S L o) (k : Nat) (v : Int32) : z_MP Mb (q_sI M 116 k v) sp wi ot (z_up w0 k v) w1 w2 S L o := by
  obtain ⟨a1, a2, a3, a4, a5, a6, a7, a8, a9, b1, b2, b3, b4⟩ := h
  refine ⟨⟨a1.1, a1.2.1, a1.2.2⟩, fun a ha => ?_, fun g h1 h2 h3 => ?_, a4, (q_sI_ne (by decide)).trans a5, (q_sI_ne (by decide)).trans a6, (q_sI_ne (by decide)).trans a7, ?_, (q_sI_ne (by decide)).trans a9, (q_sI_ne (by decide)).trans b1, ?_, ?_, ?_⟩
  · rw [q_sI_ne (fun z => ha (by unfold z_ma; omega))]; exact a2 a ha
  · rw [z_I_sI, if_neg (by omega)]; exact a3 g h1 h2 h3
  · rw [z_sI_up, a8]
  · rw [z_I_sI, if_neg (by omega)]; exact b2
  · rw [z_I_sI, if_neg (by omega)]; exact b3
  · rw [z_I_sI, if_neg (by omega)]; exact b4
theorem z_MP.wb (h : z_MP Mb M sp wi ot w0 w1 w2 S L o) (k : Nat) (v : Int32) : z_MP Mb (q_sI M 117 k v) sp wi ot w0 (z_up w1 k v) w2 S L o := by
  obtain ⟨a1, a2, a3, a4, a5, a6, a7, a8, a9, b1, b2, b3, b4⟩ := h
  refine ⟨⟨a1.1, a1.2.1, a1.2.2⟩, fun a ha => ?_, fun g h1 h2 h3 => ?_, a4, (q_sI_ne (by decide)).trans a5, (q_sI_ne (by decide)).trans a6, (q_sI_ne (by decide)).trans a7, (q_sI_ne (by decide)).trans a8, ?_, (q_sI_ne (by decide)).trans b1, ?_, ?_, ?_⟩
  · rw [q_sI_ne (fun z => ha (by unfold z_ma; omega))]; exact a2 a ha
  · rw [z_I_sI, if_neg (by omega)]; exact a3 g h1 h2 h3
  · rw [z_sI_up, a9]
  · rw [z_I_sI, if_neg (by omega)]; exact b2
  · rw [z_I_sI, if_neg (by omega)]; exact b3
  · rw [z_I_sI, if_neg (by omega)]; exact b4
theorem z_MP.wc (h : z_MP Mb M sp wi ot w0 w1 w2 S L o) (k : Nat) (v : Int32) : z_MP Mb (q_sI M 118 k v) sp wi ot w0 w1 (z_up w2 k v) S L o := by
  obtain ⟨a1, a2, a3, a4, a5, a6, a7, a8, a9, b1, b2, b3, b4⟩ := h
  refine ⟨⟨a1.1, a1.2.1, a1.2.2⟩, fun a ha => ?_, fun g h1 h2 h3 => ?_, a4, (q_sI_ne (by decide)).trans a5, (q_sI_ne (by decide)).trans a6, (q_sI_ne (by decide)).trans a7, (q_sI_ne (by decide)).trans a8, (q_sI_ne (by decide)).trans a9, ?_, ?_, ?_, ?_⟩
  · rw [q_sI_ne (fun z => ha (by unfold z_ma; omega))]; exact a2 a ha
  · rw [z_I_sI, if_neg (by omega)]; exact a3 g h1 h2 h3
  · rw [z_sI_up, b1]
  · rw [z_I_sI, if_neg (by omega)]; exact b2
  · rw [z_I_sI, if_neg (by omega)]; exact b3
  · rw [z_I_sI, if_neg (by omega)]; exact b4
theorem zm_emits (a v : Int32) (hL : z_Lay Mb) (h : z_MP Mb M sp wi ot w0 w1 w2 S L o) (hS : S < 200) : ∃ M', f_X12_emits M 108 a v = some (nI S, M') ∧ z_MP Mb M' (z_up sp S a) (z_up wi S v) (z_up ot S 0) w0 w1 w2 (S + 1) L o := by
  have h1 := h.psp S a
  have h2 := h1.pwi S v
  have h3 := h2.pot S 0
  have h4 := h3.f4 (S + 1)
  have L0 := h.lay hL
  have L1 := h1.lay hL
  have L2 := h2.lay hL
  have L3 := h3.lay hL
  have L4 := h4.lay hL
  have e0 : q_I M 108 4 = nI S := h.2.2.2.2.2.2.2.2.2.2.1
  have e1 : q_I (q_sI M 113 S a) 108 4 = nI S := h1.2.2.2.2.2.2.2.2.2.2.1
  have e2 : q_I (q_sI (q_sI M 113 S a) 114 S v) 108 4 = nI S := h2.2.2.2.2.2.2.2.2.2.2.1
  have e3 : q_I (q_sI (q_sI (q_sI M 113 S a) 114 S v) 115 S 0) 108 4 = nI S := h3.2.2.2.2.2.2.2.2.2.2.1
  have e4 : q_I (q_sI (q_sI (q_sI (q_sI M 113 S a) 114 S v) 115 S 0) 108 4 (nI (S + 1))) 108 4 = nI (S + 1) := h4.2.2.2.2.2.2.2.2.2.2.1
  refine ⟨_, ?_, h4⟩
  simp only [f_X12_emits, zob_108 L0, zo_108 L0, e0, Option.bind_some, (za_113 L0).2.2 S a hS, zo_108 L1, e1, (za_114 L1).2.2 S v hS, zo_108 L2, e2, (za_115 L2).2.2 S 0 hS, zo_108 L3, e3, ← nI_succ, zo_108 L4, e4, nI_pred]
theorem zm_waits (a b c : Int32) (hL : z_Lay Mb) (h : z_MP Mb M sp wi ot w0 w1 w2 S L o) (hS : L < 130) : ∃ M', f_X12_waitsWith M 108 a b c = some M' ∧ z_MP Mb M' sp wi ot (z_up w0 L a) (z_up w1 L b) (z_up w2 L c) S (L + 1) o := by
  have h1 := h.wa L a
  have h2 := h1.wb L b
  have h3 := h2.wc L c
  have h4 := (h3.f (L + 1) 0).1
  have L0 := h.lay hL
  have L1 := h1.lay hL
  have L2 := h2.lay hL
  have L3 := h3.lay hL
  have e0 : q_I M 108 8 = nI L := h.2.2.2.2.2.2.2.2.2.2.2.1
  have e1 : q_I (q_sI M 116 L a) 108 8 = nI L := h1.2.2.2.2.2.2.2.2.2.2.2.1
  have e2 : q_I (q_sI (q_sI M 116 L a) 117 L b) 108 8 = nI L := h2.2.2.2.2.2.2.2.2.2.2.2.1
  have e3 : q_I (q_sI (q_sI (q_sI M 116 L a) 117 L b) 118 L c) 108 8 = nI L := h3.2.2.2.2.2.2.2.2.2.2.2.1
  refine ⟨_, ?_, h4⟩
  simp only [f_X12_waitsWith, zob_108 L0, zo_108 L0, e0, Option.bind_some, (za_116 L0).2.2 L a hS, zo_108 L1, e1, (za_117 L1).2.2 L b hS, zo_108 L2, e2, (za_118 L2).2.2 L c hS, zo_108 L3, e3, ← nI_succ]
end ZA
def z_MT (Mb M : q_Mem) (fr : List z_Fr) (s : z_Sem) (o B : Nat) : Prop := ∃ sp wi ot w0 w1 w2 p S, z_MP Mb M sp wi ot w0 w1 w2 S fr.length o ∧ z_cd sp wi ot w0 w1 w2 fr p ∧ z_Run sp wi ot p S s ∧ S + fr.length ≤ B
def z_MN (Mb M : q_Mem) (fr : List z_Fr) (o B : Nat) : Prop := ∃ sp wi ot w0 w1 w2 S, z_MP Mb M sp wi ot w0 w1 w2 S fr.length o ∧ z_cd sp wi ot w0 w1 w2 fr S ∧ S + fr.length ≤ B
theorem z_MT.mono {Mb M : q_Mem} {fr : List z_Fr} {s : z_Sem} {o B B' : Nat} (h : z_MT Mb M fr s o B) (hB : B ≤ B') : z_MT Mb M fr s o B' := by
  obtain ⟨sp, wi, ot, w0, w1, w2, p, S, h1, h2, h3, h4⟩ := h
  exact ⟨sp, wi, ot, w0, w1, w2, p, S, h1, h2, h3, by omega⟩
theorem z_MN.mono {Mb M : q_Mem} {fr : List z_Fr} {o B B' : Nat} (h : z_MN Mb M fr o B) (hB : B ≤ B') : z_MN Mb M fr o B' := by
  obtain ⟨sp, wi, ot, w0, w1, w2, S, h1, h2, h4⟩ := h
  exact ⟨sp, wi, ot, w0, w1, w2, S, h1, h2, by omega⟩
/-- no ! or - waits right under an operation -/
def z_wf : List z_Fr → Prop
  | [] => True
  | f :: t => (f.1 = 33 ∨ f.1 = 128 ∨ f.1 = 40 ∨ (z_tk t ≠ 33 ∧ z_tk t ≠ 128)) ∧ z_wf t
def z_nu (fr : List z_Fr) : Prop := z_tk fr ≠ 33 ∧ z_tk fr ≠ 128
theorem z_wf_gS (r : Nat) (hr : 0 < r) : ∀ (fr : List z_Fr) (s : z_Sem), z_wf fr → z_nu fr → z_wf (z_gS r fr s).1 ∧ z_nu (z_gS r fr s).1
  | [], s, h, h2 => ⟨h, h2⟩
  | f :: t, s, h, h2 => by
    unfold z_gS
    by_cases c : z_rk f.1 < r
    · rw [if_pos c]; exact ⟨h, h2⟩
    · rw [if_neg c]
      refine z_wf_gS r hr t _ h.2 ?_
      have hp : 0 < z_rk f.1 := by omega
      rcases h.1 with z | z | z | z
      · rw [z] at hp; exact absurd hp (by decide)
      · rw [z] at hp; exact absurd hp (by decide)
      · rw [z] at hp; exact absurd hp (by decide)
      · exact z
theorem z_wf_gC : ∀ (fr : List z_Fr) (s : z_Sem), z_wf fr → z_nu fr → z_wf (z_gC fr s).1 ∧ z_nu (z_gC fr s).1
  | [], s, h, h2 => ⟨h, h2⟩
  | f :: t, s, h, h2 => by
    unfold z_gC
    by_cases c : f.1 = 58
    · rw [if_pos c]
      refine z_wf_gC t _ h.2 ?_
      rcases h.1 with z | z | z | z
      · omega
      · omega
      · omega
      · exact z
    · rw [if_neg c]; exact ⟨h, h2⟩
theorem z_wf_gE (fr : List z_Fr) (s : z_Sem) (h : z_wf fr) (h2 : z_nu fr) : z_wf (z_gE fr s).1 ∧ z_nu (z_gE fr s).1 := by
  obtain ⟨a, b⟩ := z_wf_gS 1 (by decide) fr s h h2
  exact z_wf_gC _ _ a b
theorem z_wf_gU : ∀ (fr : List z_Fr) (s : z_Sem), z_wf fr → z_wf (z_gU fr s).1 ∧ z_nu (z_gU fr s).1
  | [], s, h => ⟨h, (by decide : (0 : Nat) ≠ 33), (by decide : (0 : Nat) ≠ 128)⟩
  | f :: t, s, h => by
    unfold z_gU
    by_cases c : f.1 = 33
    · rw [if_pos c]; exact z_wf_gU t _ h.2
    · rw [if_neg c]
      by_cases c2 : f.1 = 128
      · rw [if_pos c2]; exact z_wf_gU t _ h.2
      · rw [if_neg c2]; exact ⟨h, c, c2⟩
def z_kxH (k : Nat) : Prop := k = 33 ∨ k = 128 ∨ k = 40 ∨ k = 63 ∨ k = 58 ∨ 0 < z_rk k
def z_kx : List z_Fr → Prop
  | [] => True
  | f :: t => z_kxH f.1 ∧ z_kx t
theorem z_kx_gS (r : Nat) : ∀ (fr : List z_Fr) (s : z_Sem), z_kx fr → z_kx (z_gS r fr s).1
  | [], s, h => h
  | f :: t, s, h => by
    unfold z_gS
    split
    · exact h
    · exact z_kx_gS r t _ h.2
theorem z_kx_gC : ∀ (fr : List z_Fr) (s : z_Sem), z_kx fr → z_kx (z_gC fr s).1
  | [], s, h => h
  | f :: t, s, h => by
    unfold z_gC
    split
    · exact z_kx_gC t _ h.2
    · exact h
theorem z_kx_gE (fr : List z_Fr) (s : z_Sem) (h : z_kx fr) : z_kx (z_gE fr s).1 := z_kx_gC _ _ (z_kx_gS 1 fr s h)
theorem z_kx_gU : ∀ (fr : List z_Fr) (s : z_Sem), z_kx fr → z_kx (z_gU fr s).1
  | [], s, h => h
  | f :: t, s, h => by
    unfold z_gU
    split
    · exact z_kx_gU t _ h.2
    · split
      · exact z_kx_gU t _ h.2
      · exact h
theorem z_kx_lt {k : Nat} (h : z_kxH k) : k < 129 ∧ k ≠ 126 ∧ k ≠ 0 := by
  rcases h with z | z | z | z | z | z
  · omega
  · omega
  · omega
  · omega
  · omega
  · rcases z_rk_pos z with y | y | y | y | y | y | y | y | y <;> omega
theorem z_wk_lt {k : Nat} (h : z_kxH k) : z_wk k < 128 := by
  have := z_kx_lt h
  unfold z_wk
  split <;> omega
theorem z_so9 : ∀ x, x < 128 → f_X12_stepOf z_M9 (nI x) = some (nI (if x = 33 then 2 else if x = 126 then 3 else z_hw x)) := by decide +kernel
theorem zm_stepOf {M : q_Mem} {x : Nat} (h : x < 128) : f_X12_stepOf M (nI x) = some (nI (if x = 33 then 2 else if x = 126 then 3 else z_hw x)) := z_so9 x h
section ZB
variable {Mb : q_Mem} {o B : Nat}
/-- the mark that waits on top -/
theorem zm_wtop {M : q_Mem} {sp wi ot w0 w1 w2 : Nat → Int32} {S p : Nat} {f : z_Fr} {t : List z_Fr} (hL : z_Lay Mb) (h : z_MP Mb M sp wi ot w0 w1 w2 S (f :: t).length o) (hc : z_cd sp wi ot w0 w1 w2 (f :: t) p) (hB : t.length < 130) : q_lI M 116 (nI t.length) = some (nI (z_wk f.1)) := by
  rw [(za_116 (h.lay hL)).2.1 t.length hB, h.2.2.2.2.2.2.2.1]
  exact congrArg some hc.1
theorem zq_settles (hL : z_Lay Mb) (hB : B ≤ 125) {r : Nat} (hr : 0 < r) (hr2 : r < 6) : ∀ (fr : List z_Fr) (s : z_Sem) (M : q_Mem) (fu : Nat), z_kx fr → z_wf fr → z_nu fr → z_MT Mb M fr s o B → fr.length < fu → ∃ M', f_X12_settles_b0 108 (nI (r + 1)) fu M = some M' ∧ z_MT Mb M' (z_gS r fr s).1 (z_gS r fr s).2 o B
  | [], s, M, fu, hk, hwf, hnu, h, hf => by
    obtain ⟨g, rfl⟩ : ∃ g, fu = g + 1 := ⟨fu - 1, by omega⟩
    refine ⟨M, ?_, h⟩
    obtain ⟨sp, wi, ot, w0, w1, w2, p, S, h1, h2, h3, h4⟩ := h
    have e8 : q_I M 108 8 = nI 0 := h1.2.2.2.2.2.2.2.2.2.2.2.1
    simp only [f_X12_settles_b0.eq_2, zo_108 (h1.lay hL), e8, Option.bind_some, show ((0 : Int32) < nI 0) = False by decide, if_false]
  | f :: t, s, M, fu, hk, hwf, hnu, h, hf => by
    obtain ⟨g, rfl⟩ : ∃ g, fu = g + 1 := ⟨fu - 1, by omega⟩
    have h' := h
    obtain ⟨sp, wi, ot, w0, w1, w2, p, S, h1, h2, h3, h4⟩ := h
    have hlen : t.length + 1 + S ≤ B := by rw [List.length_cons] at h4; omega
    have hM := h1.lay hL
    have e8 : q_I M 108 8 = nI (t.length + 1) := h1.2.2.2.2.2.2.2.2.2.2.2.1
    have c1 : ((0 : Int32) < nI (t.length + 1)) = True := eq_true (nI_lt (a := 0) (by omega) (by omega))
    have wt := zm_wtop hL h1 h2 (by omega)
    have hnu' : f.1 ≠ 33 ∧ f.1 ≠ 128 := hnu
    have hkl := z_kx_lt hk.1
    have ewk : z_wk f.1 = f.1 := by unfold z_wk; rw [if_neg hnu'.2]
    rw [ewk] at wt
    have ehd : z_hd f.1 = if 0 < z_rk f.1 then z_rk f.1 + 1 else 0 := by
      unfold z_hd
      rw [if_neg hnu'.1, if_neg hkl.2.1]
    have hld : f_X12_holds M (nI f.1) = some (nI (z_hd f.1)) := zm_holds (by omega)
    have hrk : z_rk f.1 < 10 := by
      unfold z_rk
      repeat' split
      all_goals omega
    by_cases c : z_rk f.1 < r
    · have e : z_gS r (f :: t) s = (f :: t, s) := if_pos c
      rw [e]
      refine ⟨M, ?_, h'⟩
      have c2 : (nI (z_hd f.1) < nI (r + 1)) = True := eq_true (nI_lt (by rw [ehd]; split <;> omega) (by omega))
      simp only [f_X12_settles_b0.eq_2, zo_108 hM, e8, Option.bind_some, c1, if_true, nI_pred, wt, hld, c2]
    · have e : z_gS r (f :: t) s = z_gS r t (z_sBin f.1 f.2.1 s) := if_neg c
      have hpos : 0 < z_rk f.1 := by omega
      have c2 : (nI (z_hd f.1) < nI (r + 1)) = False := eq_false (nI_nlt (by rw [ehd, if_pos hpos]; omega) (by rw [ehd, if_pos hpos]; omega))
      have n58 : ¬ f.1 = 58 := fun z => by rw [z] at hpos; exact absurd hpos (by decide)
      have n63 : ¬ f.1 = 63 := fun z => by rw [z] at hpos; exact absurd hpos (by decide)
      have n40 : ¬ f.1 = 40 := fun z => by rw [z] at hpos; exact absurd hpos (by decide)
      have hp1 := (h1.f t.length 0).1
      have hM1 := hp1.lay hL
      have f8 : q_I (q_sI M 108 8 (nI t.length)) 108 8 = nI t.length := by rw [z_I_sI, if_pos ⟨rfl, rfl⟩]
      have wt1 : q_lI (q_sI M 108 8 (nI t.length)) 116 (nI t.length) = some (nI f.1) := by
        rw [(za_116 hM1).2.1 t.length (by omega), hp1.2.2.2.2.2.2.2.1]
        have := h2.1
        rw [ewk] at this
        exact congrArg some this
      have h2' := h2.2
      rw [if_neg (by omega)] at h2'
      have hnut : z_nu t := by
        rcases hwf.1 with z | z | z | z
        · exact absurd z hnu'.1
        · exact absurd z hnu'.2
        · exact absurd z n40
        · exact z
      have main : ∃ M5, (∀ x, x = f_X12_settles_b0 108 (nI (r + 1)) (g + 1) M → x = f_X12_settles_b0 108 (nI (r + 1)) g M5) ∧ z_MT Mb M5 t (z_sBin f.1 f.2.1 s) o B := by
        have q38 : (nI f.1 = (38 : Int32)) = (f.1 = 38) := z_nI_in (b := 38) (by omega) (by decide)
        have q124 : (nI f.1 = (124 : Int32)) = (f.1 = 124) := z_nI_in (b := 124) (by omega) (by decide)
        by_cases cl : f.1 = 38 ∨ f.1 = 124
        · rw [if_pos cl] at h2'
          obtain ⟨p0, m, a1, a2, a3, a4, a5⟩ := h2'
          have hpm := a2.1
          have hmS := h3.1
          obtain ⟨M2, p2, u2⟩ := zm_emits (11 : Int32) 0 hL hp1 (by omega)
          have hM2 := u2.lay hL
          have g8 : q_I M2 108 8 = nI t.length := u2.2.2.2.2.2.2.2.2.2.2.2.1
          have g4 : q_I M2 108 4 = nI (S + 1) := u2.2.2.2.2.2.2.2.2.2.2.1
          have gw : q_lI M2 117 (nI t.length) = some (nI m) := by
            rw [(za_117 hM2).2.1 t.length (by omega), u2.2.2.2.2.2.2.2.2.1]
            exact congrArg some a5
          have u3 := u2.pwi m (nI (S + 1))
          have st : f_X12_settles_b57 (f_X12_settles_b0 108 (nI (r + 1)) g) (q_sI M 108 8 (nI t.length)) 108 (nI (r + 1)) = f_X12_settles_b0 108 (nI (r + 1)) g (q_sI M2 114 m (nI (S + 1))) := by
            simp only [f_X12_settles_b57, p2, Option.bind_some, zo_108 hM2, g8, gw, g4, (za_114 hM2).2.2 m (nI (S + 1)) (by omega)]
          refine ⟨q_sI M2 114 m (nI (S + 1)), fun x hx => ?_, ⟨_, _, _, _, _, _, p0, S + 1, u3, ?_, ?_, by omega⟩⟩
          · rw [hx]
            rcases cl with z | z
            · have z1 : (nI f.1 = (38 : Int32)) = True := by rw [q38]; exact eq_true z
              simp only [f_X12_settles_b0.eq_2, zo_108 hM, e8, Option.bind_some, c1, if_true, nI_pred, wt, hld, c2, if_false, zo_108 hM1, f8, wt1, z1, st]
            · have z1 : (nI f.1 = (38 : Int32)) = False := by rw [q38]; exact eq_false (by omega)
              have z2 : (nI f.1 = (124 : Int32)) = True := by rw [q124]; exact eq_true z
              simp only [f_X12_settles_b0.eq_2, zo_108 hM, e8, Option.bind_some, c1, if_true, nI_pred, wt, hld, c2, if_false, zo_108 hM1, f8, wt1, z1, z2, st]
          · exact a1.cong _ _ (fun j hj => ⟨z_up_ne (by omega), by rw [z_up_ne (by omega), z_up_ne (by omega)], z_up_ne (by omega)⟩) (fun j hj => ⟨rfl, rfl, rfl⟩)
          · refine z_Run.logic (k := f.1) (how := if f.1 = 38 then 12 else 13) (m := m) (q := S) ?_ (a2.cong (fun j x y => ⟨z_up_ne (by omega), by rw [z_up_ne (by omega), z_up_ne (by omega)], z_up_ne (by omega)⟩)) ?_ z_up_eq (z_Run.cong (by rw [← a3]; exact h3) (fun j x y => ⟨z_up_ne (by omega), by rw [z_up_ne (by omega), z_up_ne (by omega)], z_up_ne (by omega)⟩)) z_up_eq
            · rcases cl with z | z
              · exact Or.inl ⟨z, if_pos z⟩
              · exact Or.inr ⟨z, if_neg (by omega)⟩
            · rw [z_up_ne (by omega), a4]
              split <;> rfl
        · rw [if_neg cl, if_neg n63, if_neg n58] at h2'
          obtain ⟨p0, a1, a2⟩ := h2'
          have hpm := a2.1
          have hmS := h3.1
          have so : f_X12_stepOf (q_sI M 108 8 (nI t.length)) (nI f.1) = some (nI (z_hw f.1)) := by
            rw [zm_stepOf (by omega), if_neg hnu'.1, if_neg hkl.2.1]
          obtain ⟨M2, p2, u2⟩ := zm_emits (nI (z_hw f.1)) 0 hL hp1 (by omega)
          have z1 : (nI f.1 = (38 : Int32)) = False := by rw [q38]; exact eq_false (by omega)
          have z2 : (nI f.1 = (124 : Int32)) = False := by rw [q124]; exact eq_false (by omega)
          refine ⟨M2, fun x hx => ?_, ⟨_, _, _, _, _, _, p0, S + 1, u2, ?_, ?_, by omega⟩⟩
          · rw [hx]
            simp only [f_X12_settles_b0.eq_2, zo_108 hM, e8, Option.bind_some, c1, if_true, nI_pred, wt, hld, c2, if_false, zo_108 hM1, f8, wt1, z1, z2, so, p2]
          · exact a1.cong _ _ (fun j hj => ⟨z_up_ne (by omega), z_up_ne (by omega), z_up_ne (by omega)⟩) (fun j hj => ⟨rfl, rfl, rfl⟩)
          · refine z_Run.bin (k := f.1) (m := p) (q := S) ?_ (a2.cong (fun j x y => ⟨z_up_ne (by omega), z_up_ne (by omega), z_up_ne (by omega)⟩)) (h3.cong (fun j x y => ⟨z_up_ne (by omega), z_up_ne (by omega), z_up_ne (by omega)⟩)) z_up_eq
            rcases z_rk_pos hpos with z | z | z | z | z | z | z | z | z <;> omega
      obtain ⟨M5, q5, h5⟩ := main
      obtain ⟨M', r1, r2⟩ := zq_settles hL hB hr hr2 t (z_sBin f.1 f.2.1 s) M5 g hk.2 hwf.2 hnut h5 (by rw [List.length_cons] at hf; omega)
      rw [e]
      exact ⟨M', (q5 _ rfl).trans r1, r2⟩
theorem z_MT_len {M : q_Mem} {fr : List z_Fr} {s : z_Sem} (h : z_MT Mb M fr s o B) : fr.length ≤ B := by
  obtain ⟨sp, wi, ot, w0, w1, w2, p, S, h1, h2, h3, h4⟩ := h
  omega
theorem z_MT_lay {M : q_Mem} {fr : List z_Fr} {s : z_Sem} (hL : z_Lay Mb) (h : z_MT Mb M fr s o B) : z_Lay M := by
  obtain ⟨sp, wi, ot, w0, w1, w2, p, S, h1, h2, h3, h4⟩ := h
  exact h1.lay hL
theorem zs_settlesM (hL : z_Lay Mb) (hB : B ≤ 125) {r : Nat} (hr : 0 < r) (hr2 : r < 6) {fr : List z_Fr} {s : z_Sem} {M : q_Mem} (hk : z_kx fr) (hwf : z_wf fr) (hnu : z_nu fr) (h : z_MT Mb M fr s o B) : ∃ M', f_X12_settles M 108 (nI (r + 1)) = some M' ∧ z_MT Mb M' (z_gS r fr s).1 (z_gS r fr s).2 o B := by
  have hlen := z_MT_len h
  obtain ⟨M', r1, r2⟩ := zq_settles hL hB hr hr2 fr s M q_fuel hk hwf hnu h (z_fu (by omega))
  refine ⟨M', ?_, r2⟩
  simp only [f_X12_settles, zob_108 (z_MT_lay hL h), r1]
theorem zq_settlesU (hL : z_Lay Mb) (hB : B ≤ 125) : ∀ (fr : List z_Fr) (s : z_Sem) (M : q_Mem) (fu : Nat), z_kx fr → z_MT Mb M fr s o B → fr.length < fu → ∃ M', f_X12_settles_b0 108 (7 : Int32) fu M = some M' ∧ z_MT Mb M' (z_gU fr s).1 (z_gU fr s).2 o B
  | [], s, M, fu, hk, h, hf => by
    obtain ⟨g, rfl⟩ : ∃ g, fu = g + 1 := ⟨fu - 1, by omega⟩
    refine ⟨M, ?_, h⟩
    obtain ⟨sp, wi, ot, w0, w1, w2, p, S, h1, h2, h3, h4⟩ := h
    have e8 : q_I M 108 8 = nI 0 := h1.2.2.2.2.2.2.2.2.2.2.2.1
    simp only [f_X12_settles_b0.eq_2, zo_108 (h1.lay hL), e8, Option.bind_some, show ((0 : Int32) < nI 0) = False by decide, if_false]
  | f :: t, s, M, fu, hk, h, hf => by
    obtain ⟨g, rfl⟩ : ∃ g, fu = g + 1 := ⟨fu - 1, by omega⟩
    have h' := h
    obtain ⟨sp, wi, ot, w0, w1, w2, p, S, h1, h2, h3, h4⟩ := h
    have hlen : t.length + 1 + S ≤ B := by rw [List.length_cons] at h4; omega
    have hM := h1.lay hL
    have e8 : q_I M 108 8 = nI (t.length + 1) := h1.2.2.2.2.2.2.2.2.2.2.2.1
    have c1 : ((0 : Int32) < nI (t.length + 1)) = True := eq_true (nI_lt (a := 0) (by omega) (by omega))
    have wt := zm_wtop hL h1 h2 (by omega)
    have hkl := z_kx_lt hk.1
    have hwl := z_wk_lt hk.1
    have hld : f_X12_holds M (nI (z_wk f.1)) = some (nI (z_hd (z_wk f.1))) := zm_holds hwl
    by_cases cu : f.1 = 33 ∨ f.1 = 128
    · have h7 : z_hd (z_wk f.1) = 7 := by rcases cu with z | z <;> rw [z] <;> rfl
      rw [h7] at hld
      have hp1 := (h1.f t.length 0).1
      have hM1 := hp1.lay hL
      have f8 : q_I (q_sI M 108 8 (nI t.length)) 108 8 = nI t.length := by rw [z_I_sI, if_pos ⟨rfl, rfl⟩]
      have wt1 : q_lI (q_sI M 108 8 (nI t.length)) 116 (nI t.length) = some (nI (z_wk f.1)) := by
        rw [(za_116 hM1).2.1 t.length (by omega), hp1.2.2.2.2.2.2.2.1]
        exact congrArg some h2.1
      have h2' := h2.2
      rw [if_pos (by omega)] at h2'
      have hmS := h3.1
      have so : f_X12_stepOf (q_sI M 108 8 (nI t.length)) (nI (z_wk f.1)) = some (nI (if f.1 = 128 then 3 else 2)) := by
        rw [zm_stepOf hwl]
        rcases cu with z | z <;> rw [z] <;> rfl
      have z1 : (nI (z_wk f.1) = (38 : Int32)) = False := by rcases cu with z | z <;> rw [z] <;> decide
      have z2 : (nI (z_wk f.1) = (124 : Int32)) = False := by rcases cu with z | z <;> rw [z] <;> decide
      obtain ⟨M2, p2, u2⟩ := zm_emits (nI (if f.1 = 128 then 3 else 2)) 0 hL hp1 (by omega)
      have rn := z_Run.un (how := if f.1 = 128 then 3 else 2) (q := S) (h3.cong (sp' := z_up sp S (nI (if f.1 = 128 then 3 else 2))) (wi' := z_up wi S 0) (ot' := z_up ot S 0) (fun j x y => ⟨z_up_ne (by omega), z_up_ne (by omega), z_up_ne (by omega)⟩)) (by split <;> omega) z_up_eq
      have eU : z_gU (f :: t) s = z_gU t (if (if f.1 = 128 then 3 else 2) = 3 then z_sNeg s else z_sNot s) := by
        show (if f.1 = 33 then z_gU t (z_sNot s) else if f.1 = 128 then z_gU t (z_sNeg s) else (f :: t, s)) = _
        rcases cu with z | z <;> rw [z] <;> rfl
      have h5 : z_MT Mb M2 t (if (if f.1 = 128 then 3 else 2) = 3 then z_sNeg s else z_sNot s) o B := ⟨_, _, _, _, _, _, p, S + 1, u2, h2'.cong _ _ (fun j hj => ⟨z_up_ne (by omega), z_up_ne (by omega), z_up_ne (by omega)⟩) (fun j hj => ⟨rfl, rfl, rfl⟩), rn, by omega⟩
      obtain ⟨M', r1, r2⟩ := zq_settlesU hL hB t _ M2 g hk.2 h5 (by rw [List.length_cons] at hf; omega)
      rw [eU]
      refine ⟨M', ?_, r2⟩
      simp only [f_X12_settles_b0.eq_2, zo_108 hM, e8, Option.bind_some, c1, if_true, nI_pred, wt, hld, show (nI 7 < (7 : Int32)) = False by decide, if_false, zo_108 hM1, f8, wt1, z1, z2, so, p2, r1]
    · have h7 : z_hd (z_wk f.1) < 7 := by
        have e : z_wk f.1 = f.1 := by unfold z_wk; rw [if_neg (by omega)]
        rw [e]
        unfold z_hd
        rw [if_neg (by omega), if_neg (by omega)]
        unfold z_rk
        repeat' split
        all_goals omega
      have c2 : (nI (z_hd (z_wk f.1)) < (7 : Int32)) = True := eq_true (nI_lt (b := 7) h7 (by decide))
      have eU : z_gU (f :: t) s = (f :: t, s) := by
        show (if f.1 = 33 then z_gU t (z_sNot s) else if f.1 = 128 then z_gU t (z_sNeg s) else (f :: t, s)) = _
        rw [if_neg (by omega), if_neg (by omega)]
      rw [eU]
      refine ⟨M, ?_, h'⟩
      simp only [f_X12_settles_b0.eq_2, zo_108 hM, e8, Option.bind_some, c1, if_true, nI_pred, wt, hld, c2]
theorem zs_settlesU (hL : z_Lay Mb) (hB : B ≤ 125) {fr : List z_Fr} {s : z_Sem} {M : q_Mem} (hk : z_kx fr) (h : z_MT Mb M fr s o B) : ∃ M', f_X12_settles M 108 (7 : Int32) = some M' ∧ z_MT Mb M' (z_gU fr s).1 (z_gU fr s).2 o B := by
  have hlen := z_MT_len h
  obtain ⟨M', r1, r2⟩ := zq_settlesU hL hB fr s M q_fuel hk h (z_fu (by omega))
  refine ⟨M', ?_, r2⟩
  simp only [f_X12_settles, zob_108 (z_MT_lay hL h), r1]
theorem zq_chosen (hL : z_Lay Mb) (hB : B ≤ 125) : ∀ (fr : List z_Fr) (s : z_Sem) (M : q_Mem) (fu : Nat), z_kx fr → z_MT Mb M fr s o B → fr.length < fu → ∃ M', f_X12_settlesChosen_b5 108 fu M = some M' ∧ z_MT Mb M' (z_gC fr s).1 (z_gC fr s).2 o B
  | [], s, M, fu, hk, h, hf => by
    obtain ⟨g, rfl⟩ : ∃ g, fu = g + 1 := ⟨fu - 1, by omega⟩
    refine ⟨M, ?_, h⟩
    obtain ⟨sp, wi, ot, w0, w1, w2, p, S, h1, h2, h3, h4⟩ := h
    have e8 : q_I M 108 8 = nI 0 := h1.2.2.2.2.2.2.2.2.2.2.2.1
    simp only [f_X12_settlesChosen_b5.eq_2, zo_108 (h1.lay hL), e8, Option.bind_some, show ((0 : Int32) < nI 0) = False by decide, if_false]
  | f :: t, s, M, fu, hk, h, hf => by
    obtain ⟨g, rfl⟩ : ∃ g, fu = g + 1 := ⟨fu - 1, by omega⟩
    have h' := h
    obtain ⟨sp, wi, ot, w0, w1, w2, p, S, h1, h2, h3, h4⟩ := h
    have hlen : t.length + 1 + S ≤ B := by rw [List.length_cons] at h4; omega
    have hM := h1.lay hL
    have e8 : q_I M 108 8 = nI (t.length + 1) := h1.2.2.2.2.2.2.2.2.2.2.2.1
    have c1 : ((0 : Int32) < nI (t.length + 1)) = True := eq_true (nI_lt (a := 0) (by omega) (by omega))
    have wt := zm_wtop hL h1 h2 (by omega)
    have hwl := z_wk_lt hk.1
    have hkl := z_kx_lt hk.1
    have q58 : (nI (z_wk f.1) = (58 : Int32)) = (f.1 = 58) := by
      rw [show (58 : Int32) = nI 58 from rfl, z_nI_in (by omega) (by decide)]
      unfold z_wk
      by_cases z : f.1 = 128
      · rw [if_pos z]; exact propext ⟨fun y => by omega, fun y => by omega⟩
      · rw [if_neg z]
    by_cases c : f.1 = 58
    · have q1 : (nI (z_wk f.1) = (58 : Int32)) = True := by rw [q58]; exact eq_true c
      have h2' := h2.2
      rw [if_neg (by omega), if_neg (by omega), if_neg (by omega), if_pos c] at h2'
      obtain ⟨p0, m, n, a1, a2, a3, a4, a5, a6, a7, a8, a9⟩ := h2'
      have hpm := a2.1
      have hmn := a5.1
      have hnS := h3.1
      have hp1 := (h1.f t.length 0).1
      have hM1 := hp1.lay hL
      have f8 : q_I (q_sI M 108 8 (nI t.length)) 108 8 = nI t.length := by rw [z_I_sI, if_pos ⟨rfl, rfl⟩]
      have f4 : q_I (q_sI M 108 8 (nI t.length)) 108 4 = nI S := hp1.2.2.2.2.2.2.2.2.2.2.1
      have gw : q_lI (q_sI M 108 8 (nI t.length)) 117 (nI t.length) = some (nI n) := by
        rw [(za_117 hM1).2.1 t.length (by omega), hp1.2.2.2.2.2.2.2.2.1]
        exact congrArg some a8
      have hp2 := hp1.pwi n (nI S)
      have hM2 := hp2.lay hL
      have g8 : q_I (q_sI (q_sI M 108 8 (nI t.length)) 114 n (nI S)) 108 8 = nI t.length := hp2.2.2.2.2.2.2.2.2.2.2.2.1
      have g4 : q_I (q_sI (q_sI M 108 8 (nI t.length)) 114 n (nI S)) 108 4 = nI S := hp2.2.2.2.2.2.2.2.2.2.2.1
      have gw2 : q_lI (q_sI (q_sI M 108 8 (nI t.length)) 114 n (nI S)) 118 (nI t.length) = some (nI m) := by
        rw [(za_118 hM2).2.1 t.length (by omega), hp2.2.2.2.2.2.2.2.2.2.1]
        exact congrArg some a9
      have hp3 := hp2.pot m (nI S)
      have rc : z_Run sp (z_up wi n (nI S)) (z_up ot m (nI S)) p0 S (z_sIf f.2.1 f.2.2 s) :=
        z_Run.cond (m := m) (n' := n) (q := S) (a2.cong (fun j x y => ⟨rfl, z_up_ne (by omega), z_up_ne (by omega)⟩)) a3 (by rw [z_up_ne (by omega)]; exact a4) z_up_eq (a5.cong (fun j x y => ⟨rfl, z_up_ne (by omega), z_up_ne (by omega)⟩)) a6 z_up_eq (z_Run.cong (by rw [← a7]; exact h3) (fun j x y => ⟨rfl, z_up_ne (by omega), z_up_ne (by omega)⟩))
      have h5 : z_MT Mb (q_sI (q_sI (q_sI M 108 8 (nI t.length)) 114 n (nI S)) 115 m (nI S)) t (z_sIf f.2.1 f.2.2 s) o B := ⟨_, _, _, _, _, _, p0, S, hp3, a1.cong _ _ (fun j hj => ⟨rfl, z_up_ne (by omega), z_up_ne (by omega)⟩) (fun j hj => ⟨rfl, rfl, rfl⟩), rc, by omega⟩
      obtain ⟨M', r1, r2⟩ := zq_chosen hL hB t _ _ g hk.2 h5 (by rw [List.length_cons] at hf; omega)
      have eC : z_gC (f :: t) s = z_gC t (z_sIf f.2.1 f.2.2 s) := if_pos c
      rw [eC]
      refine ⟨M', ?_, r2⟩
      simp only [f_X12_settlesChosen_b5.eq_2, zo_108 hM, e8, Option.bind_some, c1, if_true, nI_pred, wt, q1, zo_108 hM1, f8, gw, f4, (za_114 hM1).2.2 n (nI S) (by omega), zo_108 hM2, g8, gw2, g4, (za_115 hM2).2.2 m (nI S) (by omega), r1]
    · have q1 : (nI (z_wk f.1) = (58 : Int32)) = False := by rw [q58]; exact eq_false c
      have eC : z_gC (f :: t) s = (f :: t, s) := if_neg c
      rw [eC]
      refine ⟨M, ?_, h'⟩
      simp only [f_X12_settlesChosen_b5.eq_2, zo_108 hM, e8, Option.bind_some, c1, if_true, nI_pred, wt, q1, if_false]
theorem zs_chosen (hL : z_Lay Mb) (hB : B ≤ 125) {fr : List z_Fr} {s : z_Sem} {M : q_Mem} (hk : z_kx fr) (hwf : z_wf fr) (hnu : z_nu fr) (h : z_MT Mb M fr s o B) : ∃ M', f_X12_settlesChosen M 108 = some M' ∧ z_MT Mb M' (z_gE fr s).1 (z_gE fr s).2 o B := by
  obtain ⟨M1, p1, h1⟩ := zs_settlesM hL hB (r := 1) (by decide) (by decide) hk hwf hnu h
  have p1' : f_X12_settles M 108 (2 : Int32) = some M1 := p1
  have hlen := z_MT_len h1
  obtain ⟨M', r1, r2⟩ := zq_chosen hL hB _ _ M1 q_fuel (z_kx_gS 1 fr s hk) h1 (z_fu (by omega))
  refine ⟨M', ?_, r2⟩
  simp only [f_X12_settlesChosen, zob_108 (z_MT_lay hL h), p1', Option.bind_some, r1]
/-- the mark on top, as top() tells it -/
theorem zs_top (hL : z_Lay Mb) (hB : B ≤ 125) {fr : List z_Fr} {s : z_Sem} {M : q_Mem} (hk : z_kx fr) (h : z_MT Mb M fr s o B) : f_X12_top M 108 = some (nI (z_wk (z_tk fr))) := by
  have hM := z_MT_lay hL h
  obtain ⟨sp, wi, ot, w0, w1, w2, p, S, h1, h2, h3, h4⟩ := h
  match fr, h1, h2, h4 with
  | [], h1, h2, h4 =>
    have e8 : q_I M 108 8 = nI 0 := h1.2.2.2.2.2.2.2.2.2.2.2.1
    simp only [f_X12_top, zob_108 hM, zo_108 hM, e8, Option.bind_some, show (nI 0 = (0 : Int32)) = True by decide, if_true]
    rfl
  | f :: t, h1, h2, h4 =>
    have hlen : t.length + 1 + S ≤ B := by rw [List.length_cons] at h4; omega
    have e8 : q_I M 108 8 = nI (t.length + 1) := h1.2.2.2.2.2.2.2.2.2.2.2.1
    have wt := zm_wtop hL h1 h2 (by omega)
    have c0 : (nI (t.length + 1) = (0 : Int32)) = False := eq_false (fun z => by
      have := (nI_eq (a := t.length + 1) (b := 0) (by omega) (by decide)).mp z
      omega)
    simp only [f_X12_top, zob_108 hM, zo_108 hM, e8, Option.bind_some, c0, if_false, nI_pred, wt]
    rfl
end ZB
