/-! ===== W_main out of 54 cases ===== -/
def Z_farm : Prop := ∀ (M : q_Mem) (p1 : Int32) (p2 : Int32) (p3 : Int32) (p4 : Int32), (p4 = 0 ∨ p4 = 1) → z_Inv M → ∃ (r : Int32) (M1 : q_Mem) (M2 : q_Mem), f_X11_farm M 0 p1 p2 p3 p4 = some (r, M1) ∧ f_X12_farm M1 108 p1 p2 p3 p4 = some (r, M2) ∧ z_Inv M2
def Z_change : Prop := ∀ (M : q_Mem) (p1 : Int32) (p2 : Int32) (p3 : Int32), (p3 = 0 ∨ p3 = 1) → z_Inv M → ∃ (r : Int32) (M1 : q_Mem) (M2 : q_Mem), f_X11_change M 0 p1 p2 p3 = some (r, M1) ∧ f_X12_change M1 108 p1 p2 p3 = some (r, M2) ∧ z_Inv M2
def Z_can : Prop := ∀ (M : q_Mem) (p1 : Int32) (p2 : Int32) (p3 : Int32), z_Inv M → ∃ (r : Int32) (M1 : q_Mem) (M2 : q_Mem), f_X11_can M 0 p1 p2 p3 = some (r, M1) ∧ f_X12_can M1 108 p1 p2 p3 = some (r, M2) ∧ z_Inv M2
def Z_test : Prop := ∀ (M : q_Mem) (p1 : Int32) (p2 : Int32) (p3 : Int32) (p4 : Int32) (p5 : Int32), z_Inv M → ∃ (r : Int32) (M1 : q_Mem) (M2 : q_Mem), f_X11_test M 0 p1 p2 p3 p4 p5 = some (r, M1) ∧ f_X12_test M1 108 p1 p2 p3 p4 p5 = some (r, M2) ∧ z_Inv M2
def Z_right : Prop := ∀ (M : q_Mem) (p1 : Int32) (p2 : Int32) (p3 : Int32), z_Inv M → ∃ (r : Int32) (M1 : q_Mem) (M2 : q_Mem), f_X11_right M 0 p1 p2 p3 = some (r, M1) ∧ f_X12_right M1 108 p1 p2 p3 = some (r, M2) ∧ z_Inv M2
def Z_bias : Prop := ∀ (M : q_Mem) (p1 : Int32) (p2 : Int32), z_Inv M → ∃ (r : Int32) (M1 : q_Mem) (M2 : q_Mem), f_X11_bias M 0 p1 p2 = some (r, M1) ∧ f_X12_bias M1 108 p1 p2 = some (r, M2) ∧ z_Inv M2
def Z_period : Prop := ∀ (M : q_Mem) (p1 : Int32), z_Inv M → ∃ (r : Int32) (M1 : q_Mem) (M2 : q_Mem), f_X11_period M 0 p1 = some (r, M1) ∧ f_X12_period M1 108 p1 = some (r, M2) ∧ z_Inv M2
def Z_rate : Prop := ∀ (M : q_Mem) (p1 : Int32) (p2 : Int32), z_Inv M → ∃ (r : Int32), f_X11_rate M 0 p1 p2 = some r ∧ f_X12_rate M 108 p1 p2 = some r ∧ z_Inv M
def Z_canRate : Prop := ∀ (M : q_Mem) (p1 : Int32) (p2 : Int32), z_Inv M → ∃ (r : Int32) (M1 : q_Mem) (M2 : q_Mem), f_X11_canRate M 0 p1 p2 = some (r, M1) ∧ f_X12_canRate M1 108 p1 p2 = some (r, M2) ∧ z_Inv M2
def Z_fat : Prop := ∀ (M : q_Mem) (p1 : Int32) (p2 : Int32) (p3 : Int32), z_Inv M → ∃ (r : Int64) (M1 : q_Mem) (M2 : q_Mem), f_X11_fat M 0 p1 p2 p3 = some (r, M1) ∧ f_X12_fat M1 108 p1 p2 p3 = some (r, M2) ∧ z_Inv M2
def Z_churn : Prop := ∀ (M : q_Mem) (p1 : Int32) (p2 : Int32), z_Inv M → ∃ (r : Int32) (M1 : q_Mem) (M2 : q_Mem), f_X11_churn M 0 p1 p2 = some (r, M1) ∧ f_X12_churn M1 108 p1 p2 = some (r, M2) ∧ z_Inv M2
def Z_fill : Prop := ∀ (M : q_Mem) (p1 : Int32) (p2 : Int32), z_Inv M → ∃ (r : Int32) (M1 : q_Mem) (M2 : q_Mem), f_X11_fill M 0 p1 p2 = some (r, M1) ∧ f_X12_fill M1 108 p1 p2 = some (r, M2) ∧ z_Inv M2
def Z_about : Prop := ∀ (M : q_Mem) (p1 : Int32) (p2 : Int32) (p3 : Int32), z_Inv M → ∃ (r : Int64) (M1 : q_Mem) (M2 : q_Mem), f_X11_about M 0 p1 p2 p3 = some (r, M1) ∧ f_X12_about M1 108 p1 p2 p3 = some (r, M2) ∧ z_Inv M2
def Z_out : Prop := ∀ (M : q_Mem) (p1 : Int32) (p2 : Int32), z_Inv M → ∃ (r : Int32) (M1 : q_Mem) (M2 : q_Mem), f_X11_out M 0 p1 p2 = some (r, M1) ∧ f_X12_out M1 108 p1 p2 = some (r, M2) ∧ z_Inv M2
def Z_box : Prop := ∀ (M : q_Mem) (p1 : Int32), z_Inv M → ∃ (r : Int32) (M1 : q_Mem) (M2 : q_Mem), f_X11_box M 0 p1 = some (r, M1) ∧ f_X12_box M1 108 p1 = some (r, M2) ∧ z_Inv M2
def Z_sell : Prop := ∀ (M : q_Mem) (p1 : Int32) (p2 : Int32) (p3 : Int32), z_Inv M → ∃ (r : Int32) (M1 : q_Mem) (M2 : q_Mem), f_X11_sell M 0 p1 p2 p3 = some (r, M1) ∧ f_X12_sell M1 108 p1 p2 p3 = some (r, M2) ∧ z_Inv M2
def Z_grade : Prop := ∀ (M : q_Mem) (p1 : Int32) (p2 : Int32) (p3 : Int32), z_Inv M → ∃ (r : Int32) (M1 : q_Mem) (M2 : q_Mem), f_X11_grade M 0 p1 p2 p3 = some (r, M1) ∧ f_X12_grade M1 108 p1 p2 p3 = some (r, M2) ∧ z_Inv M2
def Z_lean : Prop := ∀ (M : q_Mem), z_Inv M → ∃ (r : Int32), f_X11_lean M 0 = some r ∧ f_X12_lean M 108  = some r ∧ z_Inv M
def Z_lot : Prop := ∀ (M : q_Mem) (p1 : Int32) (p2 : Int32), z_Inv M → ∃ (r : Int32), f_X11_lot M 0 p1 p2 = some r ∧ f_X12_lot M 108 p1 p2 = some r ∧ z_Inv M
def Z_lead : Prop := ∀ (M : q_Mem) (p1 : Int32) (p2 : Int32) (p3 : Int32), z_Inv M → ∃ (r : Int64) (M1 : q_Mem) (M2 : q_Mem), f_X11_lead M 0 p1 p2 p3 = some (r, M1) ∧ f_X12_lead M1 108 p1 p2 p3 = some (r, M2) ∧ z_Inv M2
def Z_write : Prop := ∀ (M : q_Mem) (p1 : Int32) (p2 : Int32), z_Inv M → ∃ (r : Int32) (M1 : q_Mem) (M2 : q_Mem), f_X11_write M 0 p1 p2 = some (r, M1) ∧ f_X12_write M1 108 p1 p2 = some (r, M2) ∧ z_Inv M2
def Z_erase : Prop := ∀ (M : q_Mem) (p1 : Int32), z_Inv M → ∃ (r : Int32) (M1 : q_Mem) (M2 : q_Mem), f_X11_erase M 0 p1 = some (r, M1) ∧ f_X12_erase M1 108 p1 = some (r, M2) ∧ z_Inv M2
def Z_fault : Prop := ∀ (M : q_Mem) (p1 : Int32), z_Inv M → ∃ (r : Int32) (M1 : q_Mem) (M2 : q_Mem), f_X11_fault M 0 p1 = some (r, M1) ∧ f_X12_fault M1 108 p1 = some (r, M2) ∧ z_Inv M2
def Z_tells : Prop := ∀ (M : q_Mem) (p1 : Int32) (p2 : Int32) (p3 : Int32) (p4 : Int32), z_Inv M → ∃ (r : Int64) (M1 : q_Mem) (M2 : q_Mem), f_X11_tells M 0 p1 p2 p3 p4 = some (r, M1) ∧ f_X12_tells M1 108 p1 p2 p3 p4 = some (r, M2) ∧ z_Inv M2
def Z_motion : Prop := ∀ (M : q_Mem) (p1 : Int32) (p2 : Int32) (p3 : Int32), (p3 = 0 ∨ p3 = 1) → z_Inv M → ∃ (r : Int32) (M1 : q_Mem) (M2 : q_Mem), f_X11_motion M 0 p1 p2 p3 = some (r, M1) ∧ f_X12_motion M1 108 p1 p2 p3 = some (r, M2) ∧ z_Inv M2
def Z_vote : Prop := ∀ (M : q_Mem) (p1 : Int32) (p2 : Int32) (p3 : Int32), z_Inv M → ∃ (r : Int32) (M1 : q_Mem) (M2 : q_Mem), f_X11_vote M 0 p1 p2 p3 = some (r, M1) ∧ f_X12_vote M1 108 p1 p2 p3 = some (r, M2) ∧ z_Inv M2
def Z_tear : Prop := ∀ (M : q_Mem) (p1 : Int32) (p2 : Int32), (p2 = 0 ∨ p2 = 1) → z_Inv M → ∃ (r : Int32) (M1 : q_Mem) (M2 : q_Mem), f_X11_tear M 0 p1 p2 = some (r, M1) ∧ f_X12_tear M1 108 p1 p2 = some (r, M2) ∧ z_Inv M2
def Z_motionAt : Prop := ∀ (M : q_Mem) (p1 : Int32) (p2 : Int32), z_Inv M → ∃ (r : Int32), f_X11_motionAt M 0 p1 p2 = some r ∧ f_X12_motionAt M 108 p1 p2 = some r ∧ z_Inv M
def Z_force : Prop := ∀ (M : q_Mem) (p1 : Int32), z_Inv M → ∃ (r : Int32), f_X11_force M 0 p1 = some r ∧ f_X12_force M 108 p1 = some r ∧ z_Inv M
def Z_money : Prop := ∀ (M : q_Mem) (p1 : Int32) (p2 : Int32), z_Inv M → ∃ (r : Int64), f_X11_money M 0 p1 p2 = some r ∧ f_X12_money M 108 p1 p2 = some r ∧ z_Inv M
def Z_pay : Prop := ∀ (M : q_Mem) (p1 : Int32) (p2 : Int32) (p3 : Int32), z_Inv M → ∃ (r : Int64) (M1 : q_Mem) (M2 : q_Mem), f_X11_pay M 0 p1 p2 p3 = some (r, M1) ∧ f_X12_pay M1 108 p1 p2 p3 = some (r, M2) ∧ z_Inv M2
def Z_share : Prop := ∀ (M : q_Mem) (p1 : Int32) (p2 : Int32) (p3 : Int32), z_Inv M → ∃ (r : Int64) (M1 : q_Mem) (M2 : q_Mem), f_X11_share M 0 p1 p2 p3 = some (r, M1) ∧ f_X12_share M1 108 p1 p2 p3 = some (r, M2) ∧ z_Inv M2
def Z_watered : Prop := ∀ (M : q_Mem) (p1 : Int32) (p2 : Int32) (p3 : Int32), z_Inv M → ∃ (r : Int32) (M1 : q_Mem) (M2 : q_Mem), f_X11_watered M 0 p1 p2 p3 = some (r, M1) ∧ f_X12_watered M1 108 p1 p2 p3 = some (r, M2) ∧ z_Inv M2
def Z_sour : Prop := ∀ (M : q_Mem) (p1 : Int32), z_Inv M → ∃ (r : Int32) (M1 : q_Mem) (M2 : q_Mem), f_X11_sour M 0 p1 = some (r, M1) ∧ f_X12_sour M1 108 p1 = some (r, M2) ∧ z_Inv M2
def Z_route : Prop := ∀ (M : q_Mem) (p1 : Int32), z_Inv M → ∃ (r : Int32) (M1 : q_Mem) (M2 : q_Mem), f_X11_route M 0 p1 = some (r, M1) ∧ f_X12_route M1 108 p1 = some (r, M2) ∧ z_Inv M2
def Z_routeAt : Prop := ∀ (M : q_Mem) (p1 : Int32) (p2 : Int32), z_Inv M → ∃ (r : Int32) (M1 : q_Mem) (M2 : q_Mem), f_X11_routeAt M 0 p1 p2 = some (r, M1) ∧ f_X12_routeAt M1 108 p1 p2 = some (r, M2) ∧ z_Inv M2
def Z_cream : Prop := ∀ (M : q_Mem) (p1 : Int32) (p2 : Int32) (p3 : Int32), z_Inv M → ∃ (r : Int32) (M1 : q_Mem) (M2 : q_Mem), f_X11_cream M 0 p1 p2 p3 = some (r, M1) ∧ f_X12_cream M1 108 p1 p2 p3 = some (r, M2) ∧ z_Inv M2
def Z_drain : Prop := ∀ (M : q_Mem), z_Inv M → ∃ (r : Int32) (M1 : q_Mem) (M2 : q_Mem), f_X11_drain M 0 = some (r, M1) ∧ f_X12_drain M1 108  = some (r, M2) ∧ z_Inv M2
def Z_together : Prop := ∀ (M : q_Mem) (p1 : Int32), z_Inv M → ∃ (r : Int64) (M1 : q_Mem) (M2 : q_Mem), f_X11_together M 0 p1 = some (r, M1) ∧ f_X12_together M1 108 p1 = some (r, M2) ∧ z_Inv M2
def Z_heap : Prop := ∀ (M : q_Mem) (p1 : Int32) (p2 : Int32), z_Inv M → ∃ (r : Int32) (M1 : q_Mem) (M2 : q_Mem), f_X11_heap M 0 p1 p2 = some (r, M1) ∧ f_X12_heap M1 108 p1 p2 = some (r, M2) ∧ z_Inv M2
def Z_gives : Prop := ∀ (M : q_Mem) (p1 : Int32) (p2 : Int32), z_Inv M → ∃ (r : Int32) (M1 : q_Mem) (M2 : q_Mem), f_X11_gives M 0 p1 p2 = some (r, M1) ∧ f_X12_gives M1 108 p1 p2 = some (r, M2) ∧ z_Inv M2
def Z_calved : Prop := ∀ (M : q_Mem) (p1 : Int32) (p2 : Int32) (p3 : Int32), z_Inv M → ∃ (r : Int32) (M1 : q_Mem) (M2 : q_Mem), f_X11_calved M 0 p1 p2 p3 = some (r, M1) ∧ f_X12_calved M1 108 p1 p2 p3 = some (r, M2) ∧ z_Inv M2
def Z_foretold : Prop := ∀ (M : q_Mem) (p1 : Int32) (p2 : Int32), z_Inv M → ∃ (r : Int32), f_X11_foretold M 0 p1 p2 = some r ∧ f_X12_foretold M 108 p1 p2 = some r ∧ z_Inv M
def Z_site : Prop := ∀ (M : q_Mem) (p1 : Int32) (p2 : Int32) (p3 : Int32), z_Inv M → ∃ (r : Int32) (M1 : q_Mem) (M2 : q_Mem), f_X11_site M 0 p1 p2 p3 = some (r, M1) ∧ f_X12_site M1 108 p1 p2 p3 = some (r, M2) ∧ z_Inv M2
def Z_freight : Prop := ∀ (M : q_Mem) (p1 : Int32), z_Inv M → ∃ (r : Int32) (M1 : q_Mem) (M2 : q_Mem), f_X11_freight M 0 p1 = some (r, M1) ∧ f_X12_freight M1 108 p1 = some (r, M2) ∧ z_Inv M2
def Z_open : Prop := ∀ (M : q_Mem) (p1 : Int32), z_Inv M → ∃ (r : Int64) (M1 : q_Mem), f_X11_open M 0 p1 = some (r, M1) ∧ f_X12_open M1 108 p1 = some r ∧ z_Inv M1
def Z_nearest : Prop := ∀ (M : q_Mem) (p1 : Int32) (p2 : Int32), z_Inv M → ∃ (r : Int32), f_X11_nearest M 0 p1 p2 = some r ∧ f_X12_nearest M 108 p1 p2 = some r ∧ z_Inv M
def Z_loan : Prop := ∀ (M : q_Mem) (p1 : Int32) (p2 : Int32) (p3 : Int32), z_Inv M → ∃ (r : Int32) (M1 : q_Mem) (M2 : q_Mem), f_X11_loan M 0 p1 p2 p3 = some (r, M1) ∧ f_X12_loan M1 108 p1 p2 p3 = some (r, M2) ∧ z_Inv M2
def Z_owed : Prop := ∀ (M : q_Mem) (p1 : Int32) (p2 : Int32), z_Inv M → ∃ (r : Int64), f_X11_owed M 0 p1 p2 = some r ∧ f_X12_owed M 108 p1 p2 = some r ∧ z_Inv M
def Z_ends : Prop := ∀ (M : q_Mem) (p1 : Int32), z_Inv M → ∃ (r : Int32), f_X11_ends M 0 p1 = some r ∧ f_X12_ends M 108 p1 = some r ∧ z_Inv M
def Z_image : Prop := ∀ (M : q_Mem) (p1 : Int32), z_Inv M → ∃ (r : Int32) (M1 : q_Mem) (M2 : q_Mem), f_X11_image M 0 p1 = some (r, M1) ∧ f_X12_image M1 108 p1 = some (r, M2) ∧ z_Inv M2
def Z_from : Prop := ∀ (M : q_Mem) (p1 : Int32), z_Inv M → ∃ (r : Int32) (M1 : q_Mem) (M2 : q_Mem), f_X11_from M 0 p1 = some (r, M1) ∧ f_X12_from M1 108 p1 = some (r, M2) ∧ z_Inv M2
def Z_count : Prop := ∀ (M : q_Mem) (p1 : Int32), z_Inv M → ∃ (r : Int32), f_X11_count M 0 p1 = some r ∧ f_X12_count M 108 p1 = some r ∧ z_Inv M
def Z_digest : Prop := ∀ (M : q_Mem), z_Inv M → ∃ (r : Int64), f_X11_digest M 0 = some r ∧ f_X12_digest M 108  = some r ∧ z_Inv M
theorem z_if {α : Type} {P : α → Prop} {c : Prop} [Decidable c] {a b : α} (h1 : c → P a) (h2 : ¬ c → P b) : P (if c then a else b) := by
  split
  · exact h1 (by assumption)
  · exact h2 (by assumption)
def z_ok (r : Option (Int32 × q_Mem)) : Prop := ∃ M' : q_Mem, r = some (1, M')
section ZC
variable {L : Nat} {xs : Nat → Int32} {kk : Int32 → q_Mem → Option (Int32 × q_Mem)} {M : q_Mem} {a3 : Int32}
theorem z_end (hk : z_ok (kk (a3 + 6) M)) : z_ok (f_L_law_b2161 L xs kk M 0 108 a3) := hk
theorem zc_0 (h : Z_farm) (hi : z_Inv M) (q1 : q_inb (a3 + 1) L = true) (q2 : q_inb (a3 + 2) L = true) (q3 : q_inb (a3 + 3) L = true) (q4 : q_inb (a3 + 4) L = true) (q5 : q_inb (a3 + 5) L = true) (hk : ∀ M1, z_Inv M1 → z_ok (kk (a3 + 6) M1)) : z_ok (f_L_law_b264 L xs kk M 0 108 a3) := by
  unfold f_L_law_b264
  by_cases hb : xs (a3 + (4 : Int32)).toNatClampNeg = 0
  · skip
    obtain ⟨r, M1, M2, e1, e2, hI⟩ := h M (xs (a3 + (1 : Int32)).toNatClampNeg) (xs (a3 + (2 : Int32)).toNatClampNeg) (xs (a3 + (3 : Int32)).toNatClampNeg) (0 : Int32) (Or.inl rfl) hi
    simp only [q1, q2, q3, q4, q5, if_true, f_L_law_b293, f_L_law_b325, e1, e2, Option.bind_some, hb]
    exact z_end (L := L) (xs := xs) (hk _ hI)
  · skip
    obtain ⟨r, M1, M2, e1, e2, hI⟩ := h M (xs (a3 + (1 : Int32)).toNatClampNeg) (xs (a3 + (2 : Int32)).toNatClampNeg) (xs (a3 + (3 : Int32)).toNatClampNeg) (1 : Int32) (Or.inr rfl) hi
    simp only [q1, q2, q3, q4, q5, if_true, f_L_law_b293, f_L_law_b325, e1, e2, Option.bind_some, hb]
    exact z_end (L := L) (xs := xs) (hk _ hI)
theorem zc_1 (h : Z_change) (hi : z_Inv M) (q1 : q_inb (a3 + 1) L = true) (q2 : q_inb (a3 + 2) L = true) (q3 : q_inb (a3 + 3) L = true) (q4 : q_inb (a3 + 4) L = true) (q5 : q_inb (a3 + 5) L = true) (hk : ∀ M1, z_Inv M1 → z_ok (kk (a3 + 6) M1)) : z_ok (f_L_law_b333 L xs kk M 0 108 a3) := by
  unfold f_L_law_b333
  by_cases hb : xs (a3 + (3 : Int32)).toNatClampNeg = 0
  · skip
    obtain ⟨r, M1, M2, e1, e2, hI⟩ := h M (xs (a3 + (1 : Int32)).toNatClampNeg) (xs (a3 + (2 : Int32)).toNatClampNeg) (0 : Int32) (Or.inl rfl) hi
    simp only [q1, q2, q3, q4, q5, if_true, f_L_law_b357, f_L_law_b384, e1, e2, Option.bind_some, hb]
    exact z_end (L := L) (xs := xs) (hk _ hI)
  · skip
    obtain ⟨r, M1, M2, e1, e2, hI⟩ := h M (xs (a3 + (1 : Int32)).toNatClampNeg) (xs (a3 + (2 : Int32)).toNatClampNeg) (1 : Int32) (Or.inr rfl) hi
    simp only [q1, q2, q3, q4, q5, if_true, f_L_law_b357, f_L_law_b384, e1, e2, Option.bind_some, hb]
    exact z_end (L := L) (xs := xs) (hk _ hI)
theorem zc_2 (h : Z_can) (hi : z_Inv M) (q1 : q_inb (a3 + 1) L = true) (q2 : q_inb (a3 + 2) L = true) (q3 : q_inb (a3 + 3) L = true) (q4 : q_inb (a3 + 4) L = true) (q5 : q_inb (a3 + 5) L = true) (hk : ∀ M1, z_Inv M1 → z_ok (kk (a3 + 6) M1)) : z_ok (f_L_law_b392 L xs kk M 0 108 a3) := by
  unfold f_L_law_b392
  obtain ⟨r, M1, M2, e1, e2, hI⟩ := h M (xs (a3 + (1 : Int32)).toNatClampNeg) (xs (a3 + (2 : Int32)).toNatClampNeg) (xs (a3 + (3 : Int32)).toNatClampNeg)  hi
  simp only [q1, q2, q3, q4, q5, if_true, e1, e2, Option.bind_some]
  exact z_end (L := L) (xs := xs) (hk _ hI)
theorem zc_3 (h : Z_test) (hi : z_Inv M) (q1 : q_inb (a3 + 1) L = true) (q2 : q_inb (a3 + 2) L = true) (q3 : q_inb (a3 + 3) L = true) (q4 : q_inb (a3 + 4) L = true) (q5 : q_inb (a3 + 5) L = true) (hk : ∀ M1, z_Inv M1 → z_ok (kk (a3 + 6) M1)) : z_ok (f_L_law_b435 L xs kk M 0 108 a3) := by
  unfold f_L_law_b435
  obtain ⟨r, M1, M2, e1, e2, hI⟩ := h M (xs (a3 + (1 : Int32)).toNatClampNeg) (xs (a3 + (2 : Int32)).toNatClampNeg) (xs (a3 + (3 : Int32)).toNatClampNeg) (xs (a3 + (4 : Int32)).toNatClampNeg) (xs (a3 + (5 : Int32)).toNatClampNeg)  hi
  simp only [q1, q2, q3, q4, q5, if_true, e1, e2, Option.bind_some]
  exact z_end (L := L) (xs := xs) (hk _ hI)
theorem zc_4 (h : Z_right) (hi : z_Inv M) (q1 : q_inb (a3 + 1) L = true) (q2 : q_inb (a3 + 2) L = true) (q3 : q_inb (a3 + 3) L = true) (q4 : q_inb (a3 + 4) L = true) (q5 : q_inb (a3 + 5) L = true) (hk : ∀ M1, z_Inv M1 → z_ok (kk (a3 + 6) M1)) : z_ok (f_L_law_b498 L xs kk M 0 108 a3) := by
  unfold f_L_law_b498
  obtain ⟨r, M1, M2, e1, e2, hI⟩ := h M (xs (a3 + (1 : Int32)).toNatClampNeg) (xs (a3 + (2 : Int32)).toNatClampNeg) (xs (a3 + (3 : Int32)).toNatClampNeg)  hi
  simp only [q1, q2, q3, q4, q5, if_true, e1, e2, Option.bind_some]
  exact z_end (L := L) (xs := xs) (hk _ hI)
theorem zc_5 (h : Z_bias) (hi : z_Inv M) (q1 : q_inb (a3 + 1) L = true) (q2 : q_inb (a3 + 2) L = true) (q3 : q_inb (a3 + 3) L = true) (q4 : q_inb (a3 + 4) L = true) (q5 : q_inb (a3 + 5) L = true) (hk : ∀ M1, z_Inv M1 → z_ok (kk (a3 + 6) M1)) : z_ok (f_L_law_b541 L xs kk M 0 108 a3) := by
  unfold f_L_law_b541
  obtain ⟨r, M1, M2, e1, e2, hI⟩ := h M (xs (a3 + (1 : Int32)).toNatClampNeg) (xs (a3 + (2 : Int32)).toNatClampNeg)  hi
  simp only [q1, q2, q3, q4, q5, if_true, e1, e2, Option.bind_some]
  exact z_end (L := L) (xs := xs) (hk _ hI)
theorem zc_6 (h : Z_period) (hi : z_Inv M) (q1 : q_inb (a3 + 1) L = true) (q2 : q_inb (a3 + 2) L = true) (q3 : q_inb (a3 + 3) L = true) (q4 : q_inb (a3 + 4) L = true) (q5 : q_inb (a3 + 5) L = true) (hk : ∀ M1, z_Inv M1 → z_ok (kk (a3 + 6) M1)) : z_ok (f_L_law_b574 L xs kk M 0 108 a3) := by
  unfold f_L_law_b574
  obtain ⟨r, M1, M2, e1, e2, hI⟩ := h M (xs (a3 + (1 : Int32)).toNatClampNeg)  hi
  simp only [q1, q2, q3, q4, q5, if_true, e1, e2, Option.bind_some]
  exact z_end (L := L) (xs := xs) (hk _ hI)
theorem zc_7 (h : Z_rate) (hi : z_Inv M) (q1 : q_inb (a3 + 1) L = true) (q2 : q_inb (a3 + 2) L = true) (q3 : q_inb (a3 + 3) L = true) (q4 : q_inb (a3 + 4) L = true) (q5 : q_inb (a3 + 5) L = true) (hk : ∀ M1, z_Inv M1 → z_ok (kk (a3 + 6) M1)) : z_ok (f_L_law_b597 L xs kk M 0 108 a3) := by
  unfold f_L_law_b597
  obtain ⟨r, e1, e2, hI⟩ := h M (xs (a3 + (1 : Int32)).toNatClampNeg) (xs (a3 + (2 : Int32)).toNatClampNeg)  hi
  simp only [q1, q2, q3, q4, q5, if_true, e1, e2, Option.bind_some]
  exact z_end (L := L) (xs := xs) (hk _ hI)
theorem zc_8 (h : Z_canRate) (hi : z_Inv M) (q1 : q_inb (a3 + 1) L = true) (q2 : q_inb (a3 + 2) L = true) (q3 : q_inb (a3 + 3) L = true) (q4 : q_inb (a3 + 4) L = true) (q5 : q_inb (a3 + 5) L = true) (hk : ∀ M1, z_Inv M1 → z_ok (kk (a3 + 6) M1)) : z_ok (f_L_law_b630 L xs kk M 0 108 a3) := by
  unfold f_L_law_b630
  obtain ⟨r, M1, M2, e1, e2, hI⟩ := h M (xs (a3 + (1 : Int32)).toNatClampNeg) (xs (a3 + (2 : Int32)).toNatClampNeg)  hi
  simp only [q1, q2, q3, q4, q5, if_true, e1, e2, Option.bind_some]
  exact z_end (L := L) (xs := xs) (hk _ hI)
theorem zc_9 (h : Z_fat) (hi : z_Inv M) (q1 : q_inb (a3 + 1) L = true) (q2 : q_inb (a3 + 2) L = true) (q3 : q_inb (a3 + 3) L = true) (q4 : q_inb (a3 + 4) L = true) (q5 : q_inb (a3 + 5) L = true) (hk : ∀ M1, z_Inv M1 → z_ok (kk (a3 + 6) M1)) : z_ok (f_L_law_b663 L xs kk M 0 108 a3) := by
  unfold f_L_law_b663
  obtain ⟨r, M1, M2, e1, e2, hI⟩ := h M (xs (a3 + (1 : Int32)).toNatClampNeg) (xs (a3 + (2 : Int32)).toNatClampNeg) (xs (a3 + (3 : Int32)).toNatClampNeg)  hi
  simp only [q1, q2, q3, q4, q5, if_true, e1, e2, Option.bind_some]
  exact z_end (L := L) (xs := xs) (hk _ hI)
theorem zc_10 (h : Z_churn) (hi : z_Inv M) (q1 : q_inb (a3 + 1) L = true) (q2 : q_inb (a3 + 2) L = true) (q3 : q_inb (a3 + 3) L = true) (q4 : q_inb (a3 + 4) L = true) (q5 : q_inb (a3 + 5) L = true) (hk : ∀ M1, z_Inv M1 → z_ok (kk (a3 + 6) M1)) : z_ok (f_L_law_b707 L xs kk M 0 108 a3) := by
  unfold f_L_law_b707
  obtain ⟨r, M1, M2, e1, e2, hI⟩ := h M (xs (a3 + (1 : Int32)).toNatClampNeg) (xs (a3 + (2 : Int32)).toNatClampNeg)  hi
  simp only [q1, q2, q3, q4, q5, if_true, e1, e2, Option.bind_some]
  exact z_end (L := L) (xs := xs) (hk _ hI)
theorem zc_11 (h : Z_fill) (hi : z_Inv M) (q1 : q_inb (a3 + 1) L = true) (q2 : q_inb (a3 + 2) L = true) (q3 : q_inb (a3 + 3) L = true) (q4 : q_inb (a3 + 4) L = true) (q5 : q_inb (a3 + 5) L = true) (hk : ∀ M1, z_Inv M1 → z_ok (kk (a3 + 6) M1)) : z_ok (f_L_law_b740 L xs kk M 0 108 a3) := by
  unfold f_L_law_b740
  obtain ⟨r, M1, M2, e1, e2, hI⟩ := h M (xs (a3 + (1 : Int32)).toNatClampNeg) (xs (a3 + (2 : Int32)).toNatClampNeg)  hi
  simp only [q1, q2, q3, q4, q5, if_true, e1, e2, Option.bind_some]
  exact z_end (L := L) (xs := xs) (hk _ hI)
theorem zc_12 (h : Z_about) (hi : z_Inv M) (q1 : q_inb (a3 + 1) L = true) (q2 : q_inb (a3 + 2) L = true) (q3 : q_inb (a3 + 3) L = true) (q4 : q_inb (a3 + 4) L = true) (q5 : q_inb (a3 + 5) L = true) (hk : ∀ M1, z_Inv M1 → z_ok (kk (a3 + 6) M1)) : z_ok (f_L_law_b773 L xs kk M 0 108 a3) := by
  unfold f_L_law_b773
  obtain ⟨r, M1, M2, e1, e2, hI⟩ := h M (xs (a3 + (1 : Int32)).toNatClampNeg) (xs (a3 + (2 : Int32)).toNatClampNeg) (xs (a3 + (3 : Int32)).toNatClampNeg)  hi
  simp only [q1, q2, q3, q4, q5, if_true, e1, e2, Option.bind_some]
  exact z_end (L := L) (xs := xs) (hk _ hI)
theorem zc_13 (h : Z_out) (hi : z_Inv M) (q1 : q_inb (a3 + 1) L = true) (q2 : q_inb (a3 + 2) L = true) (q3 : q_inb (a3 + 3) L = true) (q4 : q_inb (a3 + 4) L = true) (q5 : q_inb (a3 + 5) L = true) (hk : ∀ M1, z_Inv M1 → z_ok (kk (a3 + 6) M1)) : z_ok (f_L_law_b817 L xs kk M 0 108 a3) := by
  unfold f_L_law_b817
  obtain ⟨r, M1, M2, e1, e2, hI⟩ := h M (xs (a3 + (1 : Int32)).toNatClampNeg) (xs (a3 + (2 : Int32)).toNatClampNeg)  hi
  simp only [q1, q2, q3, q4, q5, if_true, e1, e2, Option.bind_some]
  exact z_end (L := L) (xs := xs) (hk _ hI)
theorem zc_14 (h : Z_box) (hi : z_Inv M) (q1 : q_inb (a3 + 1) L = true) (q2 : q_inb (a3 + 2) L = true) (q3 : q_inb (a3 + 3) L = true) (q4 : q_inb (a3 + 4) L = true) (q5 : q_inb (a3 + 5) L = true) (hk : ∀ M1, z_Inv M1 → z_ok (kk (a3 + 6) M1)) : z_ok (f_L_law_b850 L xs kk M 0 108 a3) := by
  unfold f_L_law_b850
  obtain ⟨r, M1, M2, e1, e2, hI⟩ := h M (xs (a3 + (1 : Int32)).toNatClampNeg)  hi
  simp only [q1, q2, q3, q4, q5, if_true, e1, e2, Option.bind_some]
  exact z_end (L := L) (xs := xs) (hk _ hI)
theorem zc_15 (h : Z_sell) (hi : z_Inv M) (q1 : q_inb (a3 + 1) L = true) (q2 : q_inb (a3 + 2) L = true) (q3 : q_inb (a3 + 3) L = true) (q4 : q_inb (a3 + 4) L = true) (q5 : q_inb (a3 + 5) L = true) (hk : ∀ M1, z_Inv M1 → z_ok (kk (a3 + 6) M1)) : z_ok (f_L_law_b873 L xs kk M 0 108 a3) := by
  unfold f_L_law_b873
  obtain ⟨r, M1, M2, e1, e2, hI⟩ := h M (xs (a3 + (1 : Int32)).toNatClampNeg) (xs (a3 + (2 : Int32)).toNatClampNeg) (xs (a3 + (3 : Int32)).toNatClampNeg)  hi
  simp only [q1, q2, q3, q4, q5, if_true, e1, e2, Option.bind_some]
  exact z_end (L := L) (xs := xs) (hk _ hI)
theorem zc_16 (h : Z_grade) (hi : z_Inv M) (q1 : q_inb (a3 + 1) L = true) (q2 : q_inb (a3 + 2) L = true) (q3 : q_inb (a3 + 3) L = true) (q4 : q_inb (a3 + 4) L = true) (q5 : q_inb (a3 + 5) L = true) (hk : ∀ M1, z_Inv M1 → z_ok (kk (a3 + 6) M1)) : z_ok (f_L_law_b916 L xs kk M 0 108 a3) := by
  unfold f_L_law_b916
  obtain ⟨r, M1, M2, e1, e2, hI⟩ := h M (xs (a3 + (1 : Int32)).toNatClampNeg) (xs (a3 + (2 : Int32)).toNatClampNeg) (xs (a3 + (3 : Int32)).toNatClampNeg)  hi
  simp only [q1, q2, q3, q4, q5, if_true, e1, e2, Option.bind_some]
  exact z_end (L := L) (xs := xs) (hk _ hI)
theorem zc_17 (h : Z_lean) (hi : z_Inv M) (q1 : q_inb (a3 + 1) L = true) (q2 : q_inb (a3 + 2) L = true) (q3 : q_inb (a3 + 3) L = true) (q4 : q_inb (a3 + 4) L = true) (q5 : q_inb (a3 + 5) L = true) (hk : ∀ M1, z_Inv M1 → z_ok (kk (a3 + 6) M1)) : z_ok (f_L_law_b959 L xs kk M 0 108 a3) := by
  unfold f_L_law_b959
  obtain ⟨r, e1, e2, hI⟩ := h M   hi
  simp only [q1, q2, q3, q4, q5, if_true, e1, e2, Option.bind_some]
  exact z_end (L := L) (xs := xs) (hk _ hI)
theorem zc_18 (h : Z_lot) (hi : z_Inv M) (q1 : q_inb (a3 + 1) L = true) (q2 : q_inb (a3 + 2) L = true) (q3 : q_inb (a3 + 3) L = true) (q4 : q_inb (a3 + 4) L = true) (q5 : q_inb (a3 + 5) L = true) (hk : ∀ M1, z_Inv M1 → z_ok (kk (a3 + 6) M1)) : z_ok (f_L_law_b972 L xs kk M 0 108 a3) := by
  unfold f_L_law_b972
  obtain ⟨r, e1, e2, hI⟩ := h M (xs (a3 + (1 : Int32)).toNatClampNeg) (xs (a3 + (2 : Int32)).toNatClampNeg)  hi
  simp only [q1, q2, q3, q4, q5, if_true, e1, e2, Option.bind_some]
  exact z_end (L := L) (xs := xs) (hk _ hI)
theorem zc_19 (h : Z_lead) (hi : z_Inv M) (q1 : q_inb (a3 + 1) L = true) (q2 : q_inb (a3 + 2) L = true) (q3 : q_inb (a3 + 3) L = true) (q4 : q_inb (a3 + 4) L = true) (q5 : q_inb (a3 + 5) L = true) (hk : ∀ M1, z_Inv M1 → z_ok (kk (a3 + 6) M1)) : z_ok (f_L_law_b1005 L xs kk M 0 108 a3) := by
  unfold f_L_law_b1005
  obtain ⟨r, M1, M2, e1, e2, hI⟩ := h M (xs (a3 + (1 : Int32)).toNatClampNeg) (xs (a3 + (2 : Int32)).toNatClampNeg) (xs (a3 + (3 : Int32)).toNatClampNeg)  hi
  simp only [q1, q2, q3, q4, q5, if_true, e1, e2, Option.bind_some]
  exact z_end (L := L) (xs := xs) (hk _ hI)
theorem zc_20 (h : Z_write) (hi : z_Inv M) (q1 : q_inb (a3 + 1) L = true) (q2 : q_inb (a3 + 2) L = true) (q3 : q_inb (a3 + 3) L = true) (q4 : q_inb (a3 + 4) L = true) (q5 : q_inb (a3 + 5) L = true) (hk : ∀ M1, z_Inv M1 → z_ok (kk (a3 + 6) M1)) : z_ok (f_L_law_b1049 L xs kk M 0 108 a3) := by
  unfold f_L_law_b1049
  obtain ⟨r, M1, M2, e1, e2, hI⟩ := h M (xs (a3 + (1 : Int32)).toNatClampNeg) (xs (a3 + (2 : Int32)).toNatClampNeg)  hi
  simp only [q1, q2, q3, q4, q5, if_true, e1, e2, Option.bind_some]
  exact z_end (L := L) (xs := xs) (hk _ hI)
theorem zc_21 (h : Z_erase) (hi : z_Inv M) (q1 : q_inb (a3 + 1) L = true) (q2 : q_inb (a3 + 2) L = true) (q3 : q_inb (a3 + 3) L = true) (q4 : q_inb (a3 + 4) L = true) (q5 : q_inb (a3 + 5) L = true) (hk : ∀ M1, z_Inv M1 → z_ok (kk (a3 + 6) M1)) : z_ok (f_L_law_b1082 L xs kk M 0 108 a3) := by
  unfold f_L_law_b1082
  obtain ⟨r, M1, M2, e1, e2, hI⟩ := h M (xs (a3 + (1 : Int32)).toNatClampNeg)  hi
  simp only [q1, q2, q3, q4, q5, if_true, e1, e2, Option.bind_some]
  exact z_end (L := L) (xs := xs) (hk _ hI)
theorem zc_22 (h : Z_fault) (hi : z_Inv M) (q1 : q_inb (a3 + 1) L = true) (q2 : q_inb (a3 + 2) L = true) (q3 : q_inb (a3 + 3) L = true) (q4 : q_inb (a3 + 4) L = true) (q5 : q_inb (a3 + 5) L = true) (hk : ∀ M1, z_Inv M1 → z_ok (kk (a3 + 6) M1)) : z_ok (f_L_law_b1105 L xs kk M 0 108 a3) := by
  unfold f_L_law_b1105
  obtain ⟨r, M1, M2, e1, e2, hI⟩ := h M (xs (a3 + (1 : Int32)).toNatClampNeg)  hi
  simp only [q1, q2, q3, q4, q5, if_true, e1, e2, Option.bind_some]
  exact z_end (L := L) (xs := xs) (hk _ hI)
theorem zc_23 (h : Z_tells) (hi : z_Inv M) (q1 : q_inb (a3 + 1) L = true) (q2 : q_inb (a3 + 2) L = true) (q3 : q_inb (a3 + 3) L = true) (q4 : q_inb (a3 + 4) L = true) (q5 : q_inb (a3 + 5) L = true) (hk : ∀ M1, z_Inv M1 → z_ok (kk (a3 + 6) M1)) : z_ok (f_L_law_b1128 L xs kk M 0 108 a3) := by
  unfold f_L_law_b1128
  obtain ⟨r, M1, M2, e1, e2, hI⟩ := h M (xs (a3 + (1 : Int32)).toNatClampNeg) (xs (a3 + (2 : Int32)).toNatClampNeg) (xs (a3 + (3 : Int32)).toNatClampNeg) (xs (a3 + (4 : Int32)).toNatClampNeg)  hi
  simp only [q1, q2, q3, q4, q5, if_true, e1, e2, Option.bind_some]
  exact z_end (L := L) (xs := xs) (hk _ hI)
theorem zc_24 (h : Z_motion) (hi : z_Inv M) (q1 : q_inb (a3 + 1) L = true) (q2 : q_inb (a3 + 2) L = true) (q3 : q_inb (a3 + 3) L = true) (q4 : q_inb (a3 + 4) L = true) (q5 : q_inb (a3 + 5) L = true) (hk : ∀ M1, z_Inv M1 → z_ok (kk (a3 + 6) M1)) : z_ok (f_L_law_b1182 L xs kk M 0 108 a3) := by
  unfold f_L_law_b1182
  by_cases hb : xs (a3 + (3 : Int32)).toNatClampNeg = 0
  · skip
    obtain ⟨r, M1, M2, e1, e2, hI⟩ := h M (xs (a3 + (1 : Int32)).toNatClampNeg) (xs (a3 + (2 : Int32)).toNatClampNeg) (0 : Int32) (Or.inl rfl) hi
    simp only [q1, q2, q3, q4, q5, if_true, f_L_law_b1206, f_L_law_b1233, e1, e2, Option.bind_some, hb]
    exact z_end (L := L) (xs := xs) (hk _ hI)
  · skip
    obtain ⟨r, M1, M2, e1, e2, hI⟩ := h M (xs (a3 + (1 : Int32)).toNatClampNeg) (xs (a3 + (2 : Int32)).toNatClampNeg) (1 : Int32) (Or.inr rfl) hi
    simp only [q1, q2, q3, q4, q5, if_true, f_L_law_b1206, f_L_law_b1233, e1, e2, Option.bind_some, hb]
    exact z_end (L := L) (xs := xs) (hk _ hI)
theorem zc_25 (h : Z_vote) (hi : z_Inv M) (q1 : q_inb (a3 + 1) L = true) (q2 : q_inb (a3 + 2) L = true) (q3 : q_inb (a3 + 3) L = true) (q4 : q_inb (a3 + 4) L = true) (q5 : q_inb (a3 + 5) L = true) (hk : ∀ M1, z_Inv M1 → z_ok (kk (a3 + 6) M1)) : z_ok (f_L_law_b1241 L xs kk M 0 108 a3) := by
  unfold f_L_law_b1241
  obtain ⟨r, M1, M2, e1, e2, hI⟩ := h M (xs (a3 + (1 : Int32)).toNatClampNeg) (xs (a3 + (2 : Int32)).toNatClampNeg) (xs (a3 + (3 : Int32)).toNatClampNeg)  hi
  simp only [q1, q2, q3, q4, q5, if_true, e1, e2, Option.bind_some]
  exact z_end (L := L) (xs := xs) (hk _ hI)
theorem zc_26 (h : Z_tear) (hi : z_Inv M) (q1 : q_inb (a3 + 1) L = true) (q2 : q_inb (a3 + 2) L = true) (q3 : q_inb (a3 + 3) L = true) (q4 : q_inb (a3 + 4) L = true) (q5 : q_inb (a3 + 5) L = true) (hk : ∀ M1, z_Inv M1 → z_ok (kk (a3 + 6) M1)) : z_ok (f_L_law_b1284 L xs kk M 0 108 a3) := by
  unfold f_L_law_b1284
  by_cases hb : xs (a3 + (2 : Int32)).toNatClampNeg = 0
  · skip
    obtain ⟨r, M1, M2, e1, e2, hI⟩ := h M (xs (a3 + (1 : Int32)).toNatClampNeg) (0 : Int32) (Or.inl rfl) hi
    simp only [q1, q2, q3, q4, q5, if_true, f_L_law_b1303, f_L_law_b1325, e1, e2, Option.bind_some, hb]
    exact z_end (L := L) (xs := xs) (hk _ hI)
  · skip
    obtain ⟨r, M1, M2, e1, e2, hI⟩ := h M (xs (a3 + (1 : Int32)).toNatClampNeg) (1 : Int32) (Or.inr rfl) hi
    simp only [q1, q2, q3, q4, q5, if_true, f_L_law_b1303, f_L_law_b1325, e1, e2, Option.bind_some, hb]
    exact z_end (L := L) (xs := xs) (hk _ hI)
theorem zc_27 (h : Z_motionAt) (hi : z_Inv M) (q1 : q_inb (a3 + 1) L = true) (q2 : q_inb (a3 + 2) L = true) (q3 : q_inb (a3 + 3) L = true) (q4 : q_inb (a3 + 4) L = true) (q5 : q_inb (a3 + 5) L = true) (hk : ∀ M1, z_Inv M1 → z_ok (kk (a3 + 6) M1)) : z_ok (f_L_law_b1333 L xs kk M 0 108 a3) := by
  unfold f_L_law_b1333
  obtain ⟨r, e1, e2, hI⟩ := h M (xs (a3 + (1 : Int32)).toNatClampNeg) (xs (a3 + (2 : Int32)).toNatClampNeg)  hi
  simp only [q1, q2, q3, q4, q5, if_true, e1, e2, Option.bind_some]
  exact z_end (L := L) (xs := xs) (hk _ hI)
theorem zc_28 (h : Z_force) (hi : z_Inv M) (q1 : q_inb (a3 + 1) L = true) (q2 : q_inb (a3 + 2) L = true) (q3 : q_inb (a3 + 3) L = true) (q4 : q_inb (a3 + 4) L = true) (q5 : q_inb (a3 + 5) L = true) (hk : ∀ M1, z_Inv M1 → z_ok (kk (a3 + 6) M1)) : z_ok (f_L_law_b1366 L xs kk M 0 108 a3) := by
  unfold f_L_law_b1366
  obtain ⟨r, e1, e2, hI⟩ := h M (xs (a3 + (1 : Int32)).toNatClampNeg)  hi
  simp only [q1, q2, q3, q4, q5, if_true, e1, e2, Option.bind_some]
  exact z_end (L := L) (xs := xs) (hk _ hI)
theorem zc_29 (h : Z_money) (hi : z_Inv M) (q1 : q_inb (a3 + 1) L = true) (q2 : q_inb (a3 + 2) L = true) (q3 : q_inb (a3 + 3) L = true) (q4 : q_inb (a3 + 4) L = true) (q5 : q_inb (a3 + 5) L = true) (hk : ∀ M1, z_Inv M1 → z_ok (kk (a3 + 6) M1)) : z_ok (f_L_law_b1389 L xs kk M 0 108 a3) := by
  unfold f_L_law_b1389
  obtain ⟨r, e1, e2, hI⟩ := h M (xs (a3 + (1 : Int32)).toNatClampNeg) (xs (a3 + (2 : Int32)).toNatClampNeg)  hi
  simp only [q1, q2, q3, q4, q5, if_true, e1, e2, Option.bind_some]
  exact z_end (L := L) (xs := xs) (hk _ hI)
theorem zc_30 (h : Z_pay) (hi : z_Inv M) (q1 : q_inb (a3 + 1) L = true) (q2 : q_inb (a3 + 2) L = true) (q3 : q_inb (a3 + 3) L = true) (q4 : q_inb (a3 + 4) L = true) (q5 : q_inb (a3 + 5) L = true) (hk : ∀ M1, z_Inv M1 → z_ok (kk (a3 + 6) M1)) : z_ok (f_L_law_b1423 L xs kk M 0 108 a3) := by
  unfold f_L_law_b1423
  obtain ⟨r, M1, M2, e1, e2, hI⟩ := h M (xs (a3 + (1 : Int32)).toNatClampNeg) (xs (a3 + (2 : Int32)).toNatClampNeg) (xs (a3 + (3 : Int32)).toNatClampNeg)  hi
  simp only [q1, q2, q3, q4, q5, if_true, e1, e2, Option.bind_some]
  exact z_end (L := L) (xs := xs) (hk _ hI)
theorem zc_31 (h : Z_share) (hi : z_Inv M) (q1 : q_inb (a3 + 1) L = true) (q2 : q_inb (a3 + 2) L = true) (q3 : q_inb (a3 + 3) L = true) (q4 : q_inb (a3 + 4) L = true) (q5 : q_inb (a3 + 5) L = true) (hk : ∀ M1, z_Inv M1 → z_ok (kk (a3 + 6) M1)) : z_ok (f_L_law_b1467 L xs kk M 0 108 a3) := by
  unfold f_L_law_b1467
  obtain ⟨r, M1, M2, e1, e2, hI⟩ := h M (xs (a3 + (1 : Int32)).toNatClampNeg) (xs (a3 + (2 : Int32)).toNatClampNeg) (xs (a3 + (3 : Int32)).toNatClampNeg)  hi
  simp only [q1, q2, q3, q4, q5, if_true, e1, e2, Option.bind_some]
  exact z_end (L := L) (xs := xs) (hk _ hI)
theorem zc_32 (h : Z_watered) (hi : z_Inv M) (q1 : q_inb (a3 + 1) L = true) (q2 : q_inb (a3 + 2) L = true) (q3 : q_inb (a3 + 3) L = true) (q4 : q_inb (a3 + 4) L = true) (q5 : q_inb (a3 + 5) L = true) (hk : ∀ M1, z_Inv M1 → z_ok (kk (a3 + 6) M1)) : z_ok (f_L_law_b1511 L xs kk M 0 108 a3) := by
  unfold f_L_law_b1511
  obtain ⟨r, M1, M2, e1, e2, hI⟩ := h M (xs (a3 + (1 : Int32)).toNatClampNeg) (xs (a3 + (2 : Int32)).toNatClampNeg) (xs (a3 + (3 : Int32)).toNatClampNeg)  hi
  simp only [q1, q2, q3, q4, q5, if_true, e1, e2, Option.bind_some]
  exact z_end (L := L) (xs := xs) (hk _ hI)
theorem zc_33 (h : Z_sour) (hi : z_Inv M) (q1 : q_inb (a3 + 1) L = true) (q2 : q_inb (a3 + 2) L = true) (q3 : q_inb (a3 + 3) L = true) (q4 : q_inb (a3 + 4) L = true) (q5 : q_inb (a3 + 5) L = true) (hk : ∀ M1, z_Inv M1 → z_ok (kk (a3 + 6) M1)) : z_ok (f_L_law_b1554 L xs kk M 0 108 a3) := by
  unfold f_L_law_b1554
  obtain ⟨r, M1, M2, e1, e2, hI⟩ := h M (xs (a3 + (1 : Int32)).toNatClampNeg)  hi
  simp only [q1, q2, q3, q4, q5, if_true, e1, e2, Option.bind_some]
  exact z_end (L := L) (xs := xs) (hk _ hI)
theorem zc_34 (h : Z_route) (hi : z_Inv M) (q1 : q_inb (a3 + 1) L = true) (q2 : q_inb (a3 + 2) L = true) (q3 : q_inb (a3 + 3) L = true) (q4 : q_inb (a3 + 4) L = true) (q5 : q_inb (a3 + 5) L = true) (hk : ∀ M1, z_Inv M1 → z_ok (kk (a3 + 6) M1)) : z_ok (f_L_law_b1577 L xs kk M 0 108 a3) := by
  unfold f_L_law_b1577
  obtain ⟨r, M1, M2, e1, e2, hI⟩ := h M (xs (a3 + (1 : Int32)).toNatClampNeg)  hi
  simp only [q1, q2, q3, q4, q5, if_true, e1, e2, Option.bind_some]
  exact z_end (L := L) (xs := xs) (hk _ hI)
theorem zc_35 (h : Z_routeAt) (hi : z_Inv M) (q1 : q_inb (a3 + 1) L = true) (q2 : q_inb (a3 + 2) L = true) (q3 : q_inb (a3 + 3) L = true) (q4 : q_inb (a3 + 4) L = true) (q5 : q_inb (a3 + 5) L = true) (hk : ∀ M1, z_Inv M1 → z_ok (kk (a3 + 6) M1)) : z_ok (f_L_law_b1600 L xs kk M 0 108 a3) := by
  unfold f_L_law_b1600
  obtain ⟨r, M1, M2, e1, e2, hI⟩ := h M (xs (a3 + (1 : Int32)).toNatClampNeg) (xs (a3 + (2 : Int32)).toNatClampNeg)  hi
  simp only [q1, q2, q3, q4, q5, if_true, e1, e2, Option.bind_some]
  exact z_end (L := L) (xs := xs) (hk _ hI)
theorem zc_36 (h : Z_cream) (hi : z_Inv M) (q1 : q_inb (a3 + 1) L = true) (q2 : q_inb (a3 + 2) L = true) (q3 : q_inb (a3 + 3) L = true) (q4 : q_inb (a3 + 4) L = true) (q5 : q_inb (a3 + 5) L = true) (hk : ∀ M1, z_Inv M1 → z_ok (kk (a3 + 6) M1)) : z_ok (f_L_law_b1633 L xs kk M 0 108 a3) := by
  unfold f_L_law_b1633
  obtain ⟨r, M1, M2, e1, e2, hI⟩ := h M (xs (a3 + (1 : Int32)).toNatClampNeg) (xs (a3 + (2 : Int32)).toNatClampNeg) (xs (a3 + (3 : Int32)).toNatClampNeg)  hi
  simp only [q1, q2, q3, q4, q5, if_true, e1, e2, Option.bind_some]
  exact z_end (L := L) (xs := xs) (hk _ hI)
theorem zc_37 (h : Z_drain) (hi : z_Inv M) (q1 : q_inb (a3 + 1) L = true) (q2 : q_inb (a3 + 2) L = true) (q3 : q_inb (a3 + 3) L = true) (q4 : q_inb (a3 + 4) L = true) (q5 : q_inb (a3 + 5) L = true) (hk : ∀ M1, z_Inv M1 → z_ok (kk (a3 + 6) M1)) : z_ok (f_L_law_b1676 L xs kk M 0 108 a3) := by
  unfold f_L_law_b1676
  obtain ⟨r, M1, M2, e1, e2, hI⟩ := h M   hi
  simp only [q1, q2, q3, q4, q5, if_true, e1, e2, Option.bind_some]
  exact z_end (L := L) (xs := xs) (hk _ hI)
theorem zc_38 (h : Z_together) (hi : z_Inv M) (q1 : q_inb (a3 + 1) L = true) (q2 : q_inb (a3 + 2) L = true) (q3 : q_inb (a3 + 3) L = true) (q4 : q_inb (a3 + 4) L = true) (q5 : q_inb (a3 + 5) L = true) (hk : ∀ M1, z_Inv M1 → z_ok (kk (a3 + 6) M1)) : z_ok (f_L_law_b1689 L xs kk M 0 108 a3) := by
  unfold f_L_law_b1689
  obtain ⟨r, M1, M2, e1, e2, hI⟩ := h M (xs (a3 + (1 : Int32)).toNatClampNeg)  hi
  simp only [q1, q2, q3, q4, q5, if_true, e1, e2, Option.bind_some]
  exact z_end (L := L) (xs := xs) (hk _ hI)
theorem zc_39 (h : Z_heap) (hi : z_Inv M) (q1 : q_inb (a3 + 1) L = true) (q2 : q_inb (a3 + 2) L = true) (q3 : q_inb (a3 + 3) L = true) (q4 : q_inb (a3 + 4) L = true) (q5 : q_inb (a3 + 5) L = true) (hk : ∀ M1, z_Inv M1 → z_ok (kk (a3 + 6) M1)) : z_ok (f_L_law_b1713 L xs kk M 0 108 a3) := by
  unfold f_L_law_b1713
  obtain ⟨r, M1, M2, e1, e2, hI⟩ := h M (xs (a3 + (1 : Int32)).toNatClampNeg) (xs (a3 + (2 : Int32)).toNatClampNeg)  hi
  simp only [q1, q2, q3, q4, q5, if_true, e1, e2, Option.bind_some]
  exact z_end (L := L) (xs := xs) (hk _ hI)
theorem zc_40 (h : Z_gives) (hi : z_Inv M) (q1 : q_inb (a3 + 1) L = true) (q2 : q_inb (a3 + 2) L = true) (q3 : q_inb (a3 + 3) L = true) (q4 : q_inb (a3 + 4) L = true) (q5 : q_inb (a3 + 5) L = true) (hk : ∀ M1, z_Inv M1 → z_ok (kk (a3 + 6) M1)) : z_ok (f_L_law_b1746 L xs kk M 0 108 a3) := by
  unfold f_L_law_b1746
  obtain ⟨r, M1, M2, e1, e2, hI⟩ := h M (xs (a3 + (1 : Int32)).toNatClampNeg) (xs (a3 + (2 : Int32)).toNatClampNeg)  hi
  simp only [q1, q2, q3, q4, q5, if_true, e1, e2, Option.bind_some]
  exact z_end (L := L) (xs := xs) (hk _ hI)
theorem zc_41 (h : Z_calved) (hi : z_Inv M) (q1 : q_inb (a3 + 1) L = true) (q2 : q_inb (a3 + 2) L = true) (q3 : q_inb (a3 + 3) L = true) (q4 : q_inb (a3 + 4) L = true) (q5 : q_inb (a3 + 5) L = true) (hk : ∀ M1, z_Inv M1 → z_ok (kk (a3 + 6) M1)) : z_ok (f_L_law_b1779 L xs kk M 0 108 a3) := by
  unfold f_L_law_b1779
  obtain ⟨r, M1, M2, e1, e2, hI⟩ := h M (xs (a3 + (1 : Int32)).toNatClampNeg) (xs (a3 + (2 : Int32)).toNatClampNeg) (xs (a3 + (3 : Int32)).toNatClampNeg)  hi
  simp only [q1, q2, q3, q4, q5, if_true, e1, e2, Option.bind_some]
  exact z_end (L := L) (xs := xs) (hk _ hI)
theorem zc_42 (h : Z_foretold) (hi : z_Inv M) (q1 : q_inb (a3 + 1) L = true) (q2 : q_inb (a3 + 2) L = true) (q3 : q_inb (a3 + 3) L = true) (q4 : q_inb (a3 + 4) L = true) (q5 : q_inb (a3 + 5) L = true) (hk : ∀ M1, z_Inv M1 → z_ok (kk (a3 + 6) M1)) : z_ok (f_L_law_b1822 L xs kk M 0 108 a3) := by
  unfold f_L_law_b1822
  obtain ⟨r, e1, e2, hI⟩ := h M (xs (a3 + (1 : Int32)).toNatClampNeg) (xs (a3 + (2 : Int32)).toNatClampNeg)  hi
  simp only [q1, q2, q3, q4, q5, if_true, e1, e2, Option.bind_some]
  exact z_end (L := L) (xs := xs) (hk _ hI)
theorem zc_43 (h : Z_site) (hi : z_Inv M) (q1 : q_inb (a3 + 1) L = true) (q2 : q_inb (a3 + 2) L = true) (q3 : q_inb (a3 + 3) L = true) (q4 : q_inb (a3 + 4) L = true) (q5 : q_inb (a3 + 5) L = true) (hk : ∀ M1, z_Inv M1 → z_ok (kk (a3 + 6) M1)) : z_ok (f_L_law_b1855 L xs kk M 0 108 a3) := by
  unfold f_L_law_b1855
  obtain ⟨r, M1, M2, e1, e2, hI⟩ := h M (xs (a3 + (1 : Int32)).toNatClampNeg) (xs (a3 + (2 : Int32)).toNatClampNeg) (xs (a3 + (3 : Int32)).toNatClampNeg)  hi
  simp only [q1, q2, q3, q4, q5, if_true, e1, e2, Option.bind_some]
  exact z_end (L := L) (xs := xs) (hk _ hI)
theorem zc_44 (h : Z_freight) (hi : z_Inv M) (q1 : q_inb (a3 + 1) L = true) (q2 : q_inb (a3 + 2) L = true) (q3 : q_inb (a3 + 3) L = true) (q4 : q_inb (a3 + 4) L = true) (q5 : q_inb (a3 + 5) L = true) (hk : ∀ M1, z_Inv M1 → z_ok (kk (a3 + 6) M1)) : z_ok (f_L_law_b1898 L xs kk M 0 108 a3) := by
  unfold f_L_law_b1898
  obtain ⟨r, M1, M2, e1, e2, hI⟩ := h M (xs (a3 + (1 : Int32)).toNatClampNeg)  hi
  simp only [q1, q2, q3, q4, q5, if_true, e1, e2, Option.bind_some]
  exact z_end (L := L) (xs := xs) (hk _ hI)
theorem zc_45 (h : Z_open) (hi : z_Inv M) (q1 : q_inb (a3 + 1) L = true) (q2 : q_inb (a3 + 2) L = true) (q3 : q_inb (a3 + 3) L = true) (q4 : q_inb (a3 + 4) L = true) (q5 : q_inb (a3 + 5) L = true) (hk : ∀ M1, z_Inv M1 → z_ok (kk (a3 + 6) M1)) : z_ok (f_L_law_b1921 L xs kk M 0 108 a3) := by
  unfold f_L_law_b1921
  obtain ⟨r, M1, e1, e2, hI⟩ := h M (xs (a3 + (1 : Int32)).toNatClampNeg)  hi
  simp only [q1, q2, q3, q4, q5, if_true, e1, e2, Option.bind_some]
  exact z_end (L := L) (xs := xs) (hk _ hI)
theorem zc_46 (h : Z_nearest) (hi : z_Inv M) (q1 : q_inb (a3 + 1) L = true) (q2 : q_inb (a3 + 2) L = true) (q3 : q_inb (a3 + 3) L = true) (q4 : q_inb (a3 + 4) L = true) (q5 : q_inb (a3 + 5) L = true) (hk : ∀ M1, z_Inv M1 → z_ok (kk (a3 + 6) M1)) : z_ok (f_L_law_b1945 L xs kk M 0 108 a3) := by
  unfold f_L_law_b1945
  obtain ⟨r, e1, e2, hI⟩ := h M (xs (a3 + (1 : Int32)).toNatClampNeg) (xs (a3 + (2 : Int32)).toNatClampNeg)  hi
  simp only [q1, q2, q3, q4, q5, if_true, e1, e2, Option.bind_some]
  exact z_end (L := L) (xs := xs) (hk _ hI)
theorem zc_47 (h : Z_loan) (hi : z_Inv M) (q1 : q_inb (a3 + 1) L = true) (q2 : q_inb (a3 + 2) L = true) (q3 : q_inb (a3 + 3) L = true) (q4 : q_inb (a3 + 4) L = true) (q5 : q_inb (a3 + 5) L = true) (hk : ∀ M1, z_Inv M1 → z_ok (kk (a3 + 6) M1)) : z_ok (f_L_law_b1978 L xs kk M 0 108 a3) := by
  unfold f_L_law_b1978
  obtain ⟨r, M1, M2, e1, e2, hI⟩ := h M (xs (a3 + (1 : Int32)).toNatClampNeg) (xs (a3 + (2 : Int32)).toNatClampNeg) (xs (a3 + (3 : Int32)).toNatClampNeg)  hi
  simp only [q1, q2, q3, q4, q5, if_true, e1, e2, Option.bind_some]
  exact z_end (L := L) (xs := xs) (hk _ hI)
theorem zc_48 (h : Z_owed) (hi : z_Inv M) (q1 : q_inb (a3 + 1) L = true) (q2 : q_inb (a3 + 2) L = true) (q3 : q_inb (a3 + 3) L = true) (q4 : q_inb (a3 + 4) L = true) (q5 : q_inb (a3 + 5) L = true) (hk : ∀ M1, z_Inv M1 → z_ok (kk (a3 + 6) M1)) : z_ok (f_L_law_b2021 L xs kk M 0 108 a3) := by
  unfold f_L_law_b2021
  obtain ⟨r, e1, e2, hI⟩ := h M (xs (a3 + (1 : Int32)).toNatClampNeg) (xs (a3 + (2 : Int32)).toNatClampNeg)  hi
  simp only [q1, q2, q3, q4, q5, if_true, e1, e2, Option.bind_some]
  exact z_end (L := L) (xs := xs) (hk _ hI)
theorem zc_49 (h : Z_ends) (hi : z_Inv M) (q1 : q_inb (a3 + 1) L = true) (q2 : q_inb (a3 + 2) L = true) (q3 : q_inb (a3 + 3) L = true) (q4 : q_inb (a3 + 4) L = true) (q5 : q_inb (a3 + 5) L = true) (hk : ∀ M1, z_Inv M1 → z_ok (kk (a3 + 6) M1)) : z_ok (f_L_law_b2055 L xs kk M 0 108 a3) := by
  unfold f_L_law_b2055
  obtain ⟨r, e1, e2, hI⟩ := h M (xs (a3 + (1 : Int32)).toNatClampNeg)  hi
  simp only [q1, q2, q3, q4, q5, if_true, e1, e2, Option.bind_some]
  exact z_end (L := L) (xs := xs) (hk _ hI)
theorem zc_50 (h : Z_image) (hi : z_Inv M) (q1 : q_inb (a3 + 1) L = true) (q2 : q_inb (a3 + 2) L = true) (q3 : q_inb (a3 + 3) L = true) (q4 : q_inb (a3 + 4) L = true) (q5 : q_inb (a3 + 5) L = true) (hk : ∀ M1, z_Inv M1 → z_ok (kk (a3 + 6) M1)) : z_ok (f_L_law_b2078 L xs kk M 0 108 a3) := by
  unfold f_L_law_b2078
  obtain ⟨r, M1, M2, e1, e2, hI⟩ := h M (xs (a3 + (1 : Int32)).toNatClampNeg)  hi
  simp only [q1, q2, q3, q4, q5, if_true, e1, e2, Option.bind_some]
  exact z_end (L := L) (xs := xs) (hk _ hI)
theorem zc_51 (h : Z_from) (hi : z_Inv M) (q1 : q_inb (a3 + 1) L = true) (q2 : q_inb (a3 + 2) L = true) (q3 : q_inb (a3 + 3) L = true) (q4 : q_inb (a3 + 4) L = true) (q5 : q_inb (a3 + 5) L = true) (hk : ∀ M1, z_Inv M1 → z_ok (kk (a3 + 6) M1)) : z_ok (f_L_law_b2101 L xs kk M 0 108 a3) := by
  unfold f_L_law_b2101
  obtain ⟨r, M1, M2, e1, e2, hI⟩ := h M (xs (a3 + (1 : Int32)).toNatClampNeg)  hi
  simp only [q1, q2, q3, q4, q5, if_true, e1, e2, Option.bind_some]
  exact z_end (L := L) (xs := xs) (hk _ hI)
theorem zc_52 (h : Z_count) (hi : z_Inv M) (q1 : q_inb (a3 + 1) L = true) (q2 : q_inb (a3 + 2) L = true) (q3 : q_inb (a3 + 3) L = true) (q4 : q_inb (a3 + 4) L = true) (q5 : q_inb (a3 + 5) L = true) (hk : ∀ M1, z_Inv M1 → z_ok (kk (a3 + 6) M1)) : z_ok (f_L_law_b2124 L xs kk M 0 108 a3) := by
  unfold f_L_law_b2124
  obtain ⟨r, e1, e2, hI⟩ := h M (xs (a3 + (1 : Int32)).toNatClampNeg)  hi
  simp only [q1, q2, q3, q4, q5, if_true, e1, e2, Option.bind_some]
  exact z_end (L := L) (xs := xs) (hk _ hI)
theorem zc_53 (h : Z_digest) (hi : z_Inv M) (q1 : q_inb (a3 + 1) L = true) (q2 : q_inb (a3 + 2) L = true) (q3 : q_inb (a3 + 3) L = true) (q4 : q_inb (a3 + 4) L = true) (q5 : q_inb (a3 + 5) L = true) (hk : ∀ M1, z_Inv M1 → z_ok (kk (a3 + 6) M1)) : z_ok (f_L_law_b2147 L xs kk M 0 108 a3) := by
  unfold f_L_law_b2147
  obtain ⟨r, e1, e2, hI⟩ := h M   hi
  simp only [q1, q2, q3, q4, q5, if_true, e1, e2, Option.bind_some]
  exact z_end (L := L) (xs := xs) (hk _ hI)
end ZC
theorem z_lim {L i : Nat} (hL : L ≤ 3072) (hi : 6 * i ≤ 4096) : (Int32.ofNat L) - (6 : Int32) < nI (6 * i) ↔ L < 6 * i + 6 := by
  rw [q_lt_iff, show (Int32.ofNat L) - (6 : Int32) = nI L - nI 6 from rfl, pk_sub_toInt (by omega) (by omega), nI_toInt (by omega)]
  omega
theorem z_loop (h0 : Z_farm) (h1 : Z_change) (h2 : Z_can) (h3 : Z_test) (h4 : Z_right) (h5 : Z_bias) (h6 : Z_period) (h7 : Z_rate) (h8 : Z_canRate) (h9 : Z_fat) (h10 : Z_churn) (h11 : Z_fill) (h12 : Z_about) (h13 : Z_out) (h14 : Z_box) (h15 : Z_sell) (h16 : Z_grade) (h17 : Z_lean) (h18 : Z_lot) (h19 : Z_lead) (h20 : Z_write) (h21 : Z_erase) (h22 : Z_fault) (h23 : Z_tells) (h24 : Z_motion) (h25 : Z_vote) (h26 : Z_tear) (h27 : Z_motionAt) (h28 : Z_force) (h29 : Z_money) (h30 : Z_pay) (h31 : Z_share) (h32 : Z_watered) (h33 : Z_sour) (h34 : Z_route) (h35 : Z_routeAt) (h36 : Z_cream) (h37 : Z_drain) (h38 : Z_together) (h39 : Z_heap) (h40 : Z_gives) (h41 : Z_calved) (h42 : Z_foretold) (h43 : Z_site) (h44 : Z_freight) (h45 : Z_open) (h46 : Z_nearest) (h47 : Z_loan) (h48 : Z_owed) (h49 : Z_ends) (h50 : Z_image) (h51 : Z_from) (h52 : Z_count) (h53 : Z_digest) {L : Nat} (hL : L ≤ 3072) (xs : Nat → Int32) : ∀ (d i fu : Nat) (M : q_Mem), L < 6 * i + 6 * d + 6 → d < fu → 6 * i ≤ 4096 → z_Inv M → z_ok (f_L_law_b18 L xs 0 108 fu (nI (6 * i)) M) := by
  intro d
  induction d with
  | zero =>
    intro i fu M hd hf hi4 hi
    obtain ⟨g, rfl⟩ : ∃ g, fu = g + 1 := ⟨fu - 1, by omega⟩
    rw [f_L_law_b18.eq_2, if_pos ((z_lim hL hi4).mpr (by omega))]
    exact ⟨M, rfl⟩
  | succ d ih =>
    intro i fu M hd hf hi4 hi
    obtain ⟨g, rfl⟩ : ∃ g, fu = g + 1 := ⟨fu - 1, by omega⟩
    rw [f_L_law_b18.eq_2]
    by_cases hc : L < 6 * i + 6
    · rw [if_pos ((z_lim hL hi4).mpr hc)]
      exact ⟨M, rfl⟩
    · rw [if_neg (fun z => hc ((z_lim hL hi4).mp z)), if_pos (z_inbN (by omega) (by omega))]
      have hk : ∀ M1, z_Inv M1 → z_ok (f_L_law_b18 L xs 0 108 g (nI (6 * i) + 6) M1) := by
        intro M1 h1
        rw [show nI (6 * i) + 6 = nI (6 * (i + 1)) from by rw [show (6 : Int32) = nI 6 from rfl, nI_add]; rfl]
        exact ih (i + 1) g M1 (by omega) (by omega) (by omega) h1
      have qq : ∀ j, j < 6 → q_inb (nI (6 * i) + nI j) L = true := fun j hj => by rw [nI_add]; exact z_inbN (by omega) (by omega)
      have q1 := qq 1 (by decide)
      have q2 := qq 2 (by decide)
      have q3 := qq 3 (by decide)
      have q4 := qq 4 (by decide)
      have q5 := qq 5 (by decide)
      refine z_if (P := z_ok) (fun _ => z_end (L := L) (xs := xs) (hk M hi)) (fun _ => ?_)
      refine z_if (P := z_ok) (fun _ => zc_0 h0 hi q1 q2 q3 q4 q5 hk) (fun _ => ?_)
      refine z_if (P := z_ok) (fun _ => zc_1 h1 hi q1 q2 q3 q4 q5 hk) (fun _ => ?_)
      refine z_if (P := z_ok) (fun _ => zc_2 h2 hi q1 q2 q3 q4 q5 hk) (fun _ => ?_)
      refine z_if (P := z_ok) (fun _ => zc_3 h3 hi q1 q2 q3 q4 q5 hk) (fun _ => ?_)
      refine z_if (P := z_ok) (fun _ => zc_4 h4 hi q1 q2 q3 q4 q5 hk) (fun _ => ?_)
      refine z_if (P := z_ok) (fun _ => zc_5 h5 hi q1 q2 q3 q4 q5 hk) (fun _ => ?_)
      refine z_if (P := z_ok) (fun _ => zc_6 h6 hi q1 q2 q3 q4 q5 hk) (fun _ => ?_)
      refine z_if (P := z_ok) (fun _ => zc_7 h7 hi q1 q2 q3 q4 q5 hk) (fun _ => ?_)
      refine z_if (P := z_ok) (fun _ => zc_8 h8 hi q1 q2 q3 q4 q5 hk) (fun _ => ?_)
      refine z_if (P := z_ok) (fun _ => zc_9 h9 hi q1 q2 q3 q4 q5 hk) (fun _ => ?_)
      refine z_if (P := z_ok) (fun _ => zc_10 h10 hi q1 q2 q3 q4 q5 hk) (fun _ => ?_)
      refine z_if (P := z_ok) (fun _ => zc_11 h11 hi q1 q2 q3 q4 q5 hk) (fun _ => ?_)
      refine z_if (P := z_ok) (fun _ => zc_12 h12 hi q1 q2 q3 q4 q5 hk) (fun _ => ?_)
      refine z_if (P := z_ok) (fun _ => zc_13 h13 hi q1 q2 q3 q4 q5 hk) (fun _ => ?_)
      refine z_if (P := z_ok) (fun _ => zc_14 h14 hi q1 q2 q3 q4 q5 hk) (fun _ => ?_)
      refine z_if (P := z_ok) (fun _ => zc_15 h15 hi q1 q2 q3 q4 q5 hk) (fun _ => ?_)
      refine z_if (P := z_ok) (fun _ => zc_16 h16 hi q1 q2 q3 q4 q5 hk) (fun _ => ?_)
      refine z_if (P := z_ok) (fun _ => zc_17 h17 hi q1 q2 q3 q4 q5 hk) (fun _ => ?_)
      refine z_if (P := z_ok) (fun _ => zc_18 h18 hi q1 q2 q3 q4 q5 hk) (fun _ => ?_)
      refine z_if (P := z_ok) (fun _ => zc_19 h19 hi q1 q2 q3 q4 q5 hk) (fun _ => ?_)
      refine z_if (P := z_ok) (fun _ => zc_20 h20 hi q1 q2 q3 q4 q5 hk) (fun _ => ?_)
      refine z_if (P := z_ok) (fun _ => zc_21 h21 hi q1 q2 q3 q4 q5 hk) (fun _ => ?_)
      refine z_if (P := z_ok) (fun _ => zc_22 h22 hi q1 q2 q3 q4 q5 hk) (fun _ => ?_)
      refine z_if (P := z_ok) (fun _ => zc_23 h23 hi q1 q2 q3 q4 q5 hk) (fun _ => ?_)
      refine z_if (P := z_ok) (fun _ => zc_24 h24 hi q1 q2 q3 q4 q5 hk) (fun _ => ?_)
      refine z_if (P := z_ok) (fun _ => zc_25 h25 hi q1 q2 q3 q4 q5 hk) (fun _ => ?_)
      refine z_if (P := z_ok) (fun _ => zc_26 h26 hi q1 q2 q3 q4 q5 hk) (fun _ => ?_)
      refine z_if (P := z_ok) (fun _ => zc_27 h27 hi q1 q2 q3 q4 q5 hk) (fun _ => ?_)
      refine z_if (P := z_ok) (fun _ => zc_28 h28 hi q1 q2 q3 q4 q5 hk) (fun _ => ?_)
      refine z_if (P := z_ok) (fun _ => zc_29 h29 hi q1 q2 q3 q4 q5 hk) (fun _ => ?_)
      refine z_if (P := z_ok) (fun _ => zc_30 h30 hi q1 q2 q3 q4 q5 hk) (fun _ => ?_)
      refine z_if (P := z_ok) (fun _ => zc_31 h31 hi q1 q2 q3 q4 q5 hk) (fun _ => ?_)
      refine z_if (P := z_ok) (fun _ => zc_32 h32 hi q1 q2 q3 q4 q5 hk) (fun _ => ?_)
      refine z_if (P := z_ok) (fun _ => zc_33 h33 hi q1 q2 q3 q4 q5 hk) (fun _ => ?_)
      refine z_if (P := z_ok) (fun _ => zc_34 h34 hi q1 q2 q3 q4 q5 hk) (fun _ => ?_)
      refine z_if (P := z_ok) (fun _ => zc_35 h35 hi q1 q2 q3 q4 q5 hk) (fun _ => ?_)
      refine z_if (P := z_ok) (fun _ => zc_36 h36 hi q1 q2 q3 q4 q5 hk) (fun _ => ?_)
      refine z_if (P := z_ok) (fun _ => zc_37 h37 hi q1 q2 q3 q4 q5 hk) (fun _ => ?_)
      refine z_if (P := z_ok) (fun _ => zc_38 h38 hi q1 q2 q3 q4 q5 hk) (fun _ => ?_)
      refine z_if (P := z_ok) (fun _ => zc_39 h39 hi q1 q2 q3 q4 q5 hk) (fun _ => ?_)
      refine z_if (P := z_ok) (fun _ => zc_40 h40 hi q1 q2 q3 q4 q5 hk) (fun _ => ?_)
      refine z_if (P := z_ok) (fun _ => zc_41 h41 hi q1 q2 q3 q4 q5 hk) (fun _ => ?_)
      refine z_if (P := z_ok) (fun _ => zc_42 h42 hi q1 q2 q3 q4 q5 hk) (fun _ => ?_)
      refine z_if (P := z_ok) (fun _ => zc_43 h43 hi q1 q2 q3 q4 q5 hk) (fun _ => ?_)
      refine z_if (P := z_ok) (fun _ => zc_44 h44 hi q1 q2 q3 q4 q5 hk) (fun _ => ?_)
      refine z_if (P := z_ok) (fun _ => zc_45 h45 hi q1 q2 q3 q4 q5 hk) (fun _ => ?_)
      refine z_if (P := z_ok) (fun _ => zc_46 h46 hi q1 q2 q3 q4 q5 hk) (fun _ => ?_)
      refine z_if (P := z_ok) (fun _ => zc_47 h47 hi q1 q2 q3 q4 q5 hk) (fun _ => ?_)
      refine z_if (P := z_ok) (fun _ => zc_48 h48 hi q1 q2 q3 q4 q5 hk) (fun _ => ?_)
      refine z_if (P := z_ok) (fun _ => zc_49 h49 hi q1 q2 q3 q4 q5 hk) (fun _ => ?_)
      refine z_if (P := z_ok) (fun _ => zc_50 h50 hi q1 q2 q3 q4 q5 hk) (fun _ => ?_)
      refine z_if (P := z_ok) (fun _ => zc_51 h51 hi q1 q2 q3 q4 q5 hk) (fun _ => ?_)
      refine z_if (P := z_ok) (fun _ => zc_52 h52 hi q1 q2 q3 q4 q5 hk) (fun _ => ?_)
      refine z_if (P := z_ok) (fun _ => zc_53 h53 hi q1 q2 q3 q4 q5 hk) (fun _ => ?_)
      exact z_end (L := L) (xs := xs) (hk M hi)
theorem w_main (h0 : Z_farm) (h1 : Z_change) (h2 : Z_can) (h3 : Z_test) (h4 : Z_right) (h5 : Z_bias) (h6 : Z_period) (h7 : Z_rate) (h8 : Z_canRate) (h9 : Z_fat) (h10 : Z_churn) (h11 : Z_fill) (h12 : Z_about) (h13 : Z_out) (h14 : Z_box) (h15 : Z_sell) (h16 : Z_grade) (h17 : Z_lean) (h18 : Z_lot) (h19 : Z_lead) (h20 : Z_write) (h21 : Z_erase) (h22 : Z_fault) (h23 : Z_tells) (h24 : Z_motion) (h25 : Z_vote) (h26 : Z_tear) (h27 : Z_motionAt) (h28 : Z_force) (h29 : Z_money) (h30 : Z_pay) (h31 : Z_share) (h32 : Z_watered) (h33 : Z_sour) (h34 : Z_route) (h35 : Z_routeAt) (h36 : Z_cream) (h37 : Z_drain) (h38 : Z_together) (h39 : Z_heap) (h40 : Z_gives) (h41 : Z_calved) (h42 : Z_foretold) (h43 : Z_site) (h44 : Z_freight) (h45 : Z_open) (h46 : Z_nearest) (h47 : Z_loan) (h48 : Z_owed) (h49 : Z_ends) (h50 : Z_image) (h51 : Z_from) (h52 : Z_count) (h53 : Z_digest) : W_main := by
  intro L xs hL
  obtain ⟨M, hM, hi⟩ := z_init
  unfold z_ini at hM
  obtain ⟨M2, g2, g4⟩ := Option.bind_eq_some_iff.mp hM
  have e108 : M2.1 = 108 := by
    have := z_ini1
    rw [g2] at this
    exact Option.some.inj this
  unfold f_L_law
  rw [g2, Option.bind_some, g4, Option.bind_some, e108]
  exact z_loop h0 h1 h2 h3 h4 h5 h6 h7 h8 h9 h10 h11 h12 h13 h14 h15 h16 h17 h18 h19 h20 h21 h22 h23 h24 h25 h26 h27 h28 h29 h30 h31 h32 h33 h34 h35 h36 h37 h38 h39 h40 h41 h42 h43 h44 h45 h46 h47 h48 h49 h50 h51 h52 h53 hL xs 600 0 q_fuel M (by omega) (by unfold q_fuel; omega) (by omega) hi
