/-! ===== cells as both sides read them ===== -/
theorem zr_0 {M : q_Mem} (hi : z_Inv M) {i : Nat} (h : i < z_m (q_I M 109) 0) : f_X9_at M 2 (nI i) (0 : Int32) = some (q_I M 109 (20 + 4 * i)) ∧ f_X9_at M 2 (nI i) (1 : Int32) = some (q_I M 109 (20 + 4 * i + 1)) ∧ f_X9_at M 2 (nI i) (2 : Int32) = some (q_I M 109 (20 + 4 * i + 2)) ∧ f_X9_at M 2 (nI i) (3 : Int32) = some (q_I M 109 (20 + 4 * i + 3)) := by
  obtain ⟨R, h3, hm, _⟩ := zt_0 hi
  have e : ∀ j, j < 4 → z_lv (q_I M 109) 0 i j → f_X9_at M 2 (nI i) (nI j) = some (q_I M 109 (20 + 4 * i + z_pm 0 j)) := fun j hj hl => by
    rw [z_at_in R h3 hm h hj]
    exact congrArg some ((hi.2.2.2.2.1.1 0 (by decide)).2.2.2 i j h hj hl)
  exact ⟨e 0 (by decide) ⟨fun z => absurd z (by decide), fun z => absurd z (by decide)⟩, e 1 (by decide) ⟨fun z => absurd z (by decide), fun z => absurd z (by decide)⟩, e 2 (by decide) ⟨fun z => absurd z (by decide), fun z => absurd z (by decide)⟩, e 3 (by decide) ⟨fun z => absurd z (by decide), fun z => absurd z (by decide)⟩⟩
theorem zr_1 {M : q_Mem} (hi : z_Inv M) {i : Nat} (h : i < z_m (q_I M 109) 1) : f_X9_at M 4 (nI i) (0 : Int32) = some (q_I M 109 (100 + 4 * i)) ∧ f_X9_at M 4 (nI i) (1 : Int32) = some (q_I M 109 (100 + 4 * i + 1)) ∧ f_X9_at M 4 (nI i) (2 : Int32) = some (q_I M 109 (100 + 4 * i + 2)) ∧ f_X9_at M 4 (nI i) (3 : Int32) = some (q_I M 109 (100 + 4 * i + 3)) := by
  obtain ⟨R, h3, hm, _⟩ := zt_1 hi
  have e : ∀ j, j < 4 → z_lv (q_I M 109) 1 i j → f_X9_at M 4 (nI i) (nI j) = some (q_I M 109 (100 + 4 * i + z_pm 1 j)) := fun j hj hl => by
    rw [z_at_in R h3 hm h hj]
    exact congrArg some ((hi.2.2.2.2.1.1 1 (by decide)).2.2.2 i j h hj hl)
  exact ⟨e 0 (by decide) ⟨fun z => absurd z (by decide), fun z => absurd z (by decide)⟩, e 1 (by decide) ⟨fun z => absurd z (by decide), fun z => absurd z (by decide)⟩, e 2 (by decide) ⟨fun z => absurd z (by decide), fun z => absurd z (by decide)⟩, e 3 (by decide) ⟨fun z => absurd z (by decide), fun z => absurd z (by decide)⟩⟩
theorem zr_2 {M : q_Mem} (hi : z_Inv M) {i : Nat} (h : i < z_m (q_I M 109) 2) : f_X9_at M 6 (nI i) (0 : Int32) = some (q_I M 109 (1300 + 7 * i)) ∧ f_X9_at M 6 (nI i) (1 : Int32) = some (q_I M 109 (1300 + 7 * i + 1)) ∧ f_X9_at M 6 (nI i) (2 : Int32) = some (q_I M 109 (1300 + 7 * i + 2)) ∧ f_X9_at M 6 (nI i) (3 : Int32) = some (q_I M 109 (1300 + 7 * i + 3)) ∧ f_X9_at M 6 (nI i) (4 : Int32) = some (q_I M 109 (1300 + 7 * i + 4)) ∧ f_X9_at M 6 (nI i) (5 : Int32) = some (q_I M 109 (1300 + 7 * i + 5)) ∧ f_X9_at M 6 (nI i) (6 : Int32) = some (q_I M 109 (1300 + 7 * i + 6)) := by
  obtain ⟨R, h3, hm, _⟩ := zt_2 hi
  have e : ∀ j, j < 7 → z_lv (q_I M 109) 2 i j → f_X9_at M 6 (nI i) (nI j) = some (q_I M 109 (1300 + 7 * i + z_pm 2 j)) := fun j hj hl => by
    rw [z_at_in R h3 hm h hj]
    exact congrArg some ((hi.2.2.2.2.1.1 2 (by decide)).2.2.2 i j h hj hl)
  exact ⟨e 0 (by decide) ⟨fun z => absurd z (by decide), fun z => absurd z (by decide)⟩, e 1 (by decide) ⟨fun z => absurd z (by decide), fun z => absurd z (by decide)⟩, e 2 (by decide) ⟨fun z => absurd z (by decide), fun z => absurd z (by decide)⟩, e 3 (by decide) ⟨fun z => absurd z (by decide), fun z => absurd z (by decide)⟩, e 4 (by decide) ⟨fun z => absurd z (by decide), fun z => absurd z (by decide)⟩, e 5 (by decide) ⟨fun z => absurd z (by decide), fun z => absurd z (by decide)⟩, e 6 (by decide) ⟨fun z => absurd z (by decide), fun z => absurd z (by decide)⟩⟩
theorem zr_3 {M : q_Mem} (hi : z_Inv M) {i : Nat} (h : i < z_m (q_I M 109) 3) : f_X9_at M 8 (nI i) (0 : Int32) = some (q_I M 109 (2700 + 3 * i)) ∧ f_X9_at M 8 (nI i) (1 : Int32) = some (q_I M 109 (2700 + 3 * i + 1)) ∧ f_X9_at M 8 (nI i) (2 : Int32) = some (q_I M 109 (2700 + 3 * i + 2)) := by
  obtain ⟨R, h3, hm, _⟩ := zt_3 hi
  have e : ∀ j, j < 3 → z_lv (q_I M 109) 3 i j → f_X9_at M 8 (nI i) (nI j) = some (q_I M 109 (2700 + 3 * i + z_pm 3 j)) := fun j hj hl => by
    rw [z_at_in R h3 hm h hj]
    exact congrArg some ((hi.2.2.2.2.1.1 3 (by decide)).2.2.2 i j h hj hl)
  exact ⟨e 0 (by decide) ⟨fun z => absurd z (by decide), fun z => absurd z (by decide)⟩, e 1 (by decide) ⟨fun z => absurd z (by decide), fun z => absurd z (by decide)⟩, e 2 (by decide) ⟨fun z => absurd z (by decide), fun z => absurd z (by decide)⟩⟩
theorem zr_4 {M : q_Mem} (hi : z_Inv M) {i : Nat} (h : i < z_m (q_I M 109) 4) : f_X9_at M 10 (nI i) (0 : Int32) = some (q_I M 109 (2820 + 5 * i)) ∧ f_X9_at M 10 (nI i) (1 : Int32) = some (q_I M 109 (2820 + 5 * i + 1)) ∧ f_X9_at M 10 (nI i) (2 : Int32) = some (q_I M 109 (2820 + 5 * i + 2)) ∧ f_X9_at M 10 (nI i) (3 : Int32) = some (q_I M 109 (2820 + 5 * i + 3)) ∧ f_X9_at M 10 (nI i) (4 : Int32) = some (q_I M 109 (2820 + 5 * i + 4)) := by
  obtain ⟨R, h3, hm, _⟩ := zt_4 hi
  have e : ∀ j, j < 5 → z_lv (q_I M 109) 4 i j → f_X9_at M 10 (nI i) (nI j) = some (q_I M 109 (2820 + 5 * i + z_pm 4 j)) := fun j hj hl => by
    rw [z_at_in R h3 hm h hj]
    exact congrArg some ((hi.2.2.2.2.1.1 4 (by decide)).2.2.2 i j h hj hl)
  exact ⟨e 0 (by decide) ⟨fun z => absurd z (by decide), fun z => absurd z (by decide)⟩, e 1 (by decide) ⟨fun z => absurd z (by decide), fun z => absurd z (by decide)⟩, e 2 (by decide) ⟨fun z => absurd z (by decide), fun z => absurd z (by decide)⟩, e 3 (by decide) ⟨fun z => absurd z (by decide), fun z => absurd z (by decide)⟩, e 4 (by decide) ⟨fun z => absurd z (by decide), fun z => absurd z (by decide)⟩⟩
theorem zr_6 {M : q_Mem} (hi : z_Inv M) {i : Nat} (h : i < z_m (q_I M 109) 6) : f_X9_at M 14 (nI i) (0 : Int32) = some (q_I M 109 (3686 + 84 * i + 61)) ∧ f_X9_at M 14 (nI i) (1 : Int32) = some (q_I M 109 (3686 + 84 * i + 62)) ∧ f_X9_at M 14 (nI i) (2 : Int32) = some (q_I M 109 (3686 + 84 * i + 63)) := by
  obtain ⟨R, h3, hm, _⟩ := zt_6 hi
  have e : ∀ j, j < 84 → z_lv (q_I M 109) 6 i j → f_X9_at M 14 (nI i) (nI j) = some (q_I M 109 (3686 + 84 * i + z_pm 6 j)) := fun j hj hl => by
    rw [z_at_in R h3 hm h hj]
    exact congrArg some ((hi.2.2.2.2.1.1 6 (by decide)).2.2.2 i j h hj hl)
  exact ⟨e 0 (by decide) ⟨fun z => absurd z (by decide), fun _ z => absurd z (by decide)⟩, e 1 (by decide) ⟨fun z => absurd z (by decide), fun _ z => absurd z (by decide)⟩, e 2 (by decide) ⟨fun z => absurd z (by decide), fun _ z => absurd z (by decide)⟩⟩
theorem zr_7 {M : q_Mem} (hi : z_Inv M) {i : Nat} (h : i < z_m (q_I M 109) 7) : f_X9_at M 16 (nI i) (0 : Int32) = some (q_I M 109 (4526 + 3 * i)) ∧ f_X9_at M 16 (nI i) (1 : Int32) = some (q_I M 109 (4526 + 3 * i + 1)) ∧ f_X9_at M 16 (nI i) (2 : Int32) = some (q_I M 109 (4526 + 3 * i + 2)) := by
  obtain ⟨R, h3, hm, _⟩ := zt_7 hi
  have e : ∀ j, j < 3 → z_lv (q_I M 109) 7 i j → f_X9_at M 16 (nI i) (nI j) = some (q_I M 109 (4526 + 3 * i + z_pm 7 j)) := fun j hj hl => by
    rw [z_at_in R h3 hm h hj]
    exact congrArg some ((hi.2.2.2.2.1.1 7 (by decide)).2.2.2 i j h hj hl)
  exact ⟨e 0 (by decide) ⟨fun z => absurd z (by decide), fun z => absurd z (by decide)⟩, e 1 (by decide) ⟨fun z => absurd z (by decide), fun z => absurd z (by decide)⟩, e 2 (by decide) ⟨fun z => absurd z (by decide), fun z => absurd z (by decide)⟩⟩
theorem zr_8 {M : q_Mem} (hi : z_Inv M) {i : Nat} (h : i < z_m (q_I M 109) 8) : f_X9_at M 18 (nI i) (0 : Int32) = some (q_I M 109 (4608 + 3 * i)) ∧ f_X9_at M 18 (nI i) (1 : Int32) = some (q_I M 109 (4608 + 3 * i + 1)) ∧ f_X9_at M 18 (nI i) (2 : Int32) = some (q_I M 109 (4608 + 3 * i + 2)) := by
  obtain ⟨R, h3, hm, _⟩ := zt_8 hi
  have e : ∀ j, j < 3 → z_lv (q_I M 109) 8 i j → f_X9_at M 18 (nI i) (nI j) = some (q_I M 109 (4608 + 3 * i + z_pm 8 j)) := fun j hj hl => by
    rw [z_at_in R h3 hm h hj]
    exact congrArg some ((hi.2.2.2.2.1.1 8 (by decide)).2.2.2 i j h hj hl)
  exact ⟨e 0 (by decide) ⟨fun z => absurd z (by decide), fun z => absurd z (by decide)⟩, e 1 (by decide) ⟨fun z => absurd z (by decide), fun z => absurd z (by decide)⟩, e 2 (by decide) ⟨fun z => absurd z (by decide), fun z => absurd z (by decide)⟩⟩
theorem zr_9 {M : q_Mem} (hi : z_Inv M) {i : Nat} (h : i < z_m (q_I M 109) 9) : f_X9_at M 20 (nI i) (0 : Int32) = some (q_I M 109 (4728 + 3 * i)) ∧ f_X9_at M 20 (nI i) (1 : Int32) = some (q_I M 109 (4728 + 3 * i + 1)) ∧ f_X9_at M 20 (nI i) (2 : Int32) = some (q_I M 109 (4728 + 3 * i + 2)) := by
  obtain ⟨R, h3, hm, _⟩ := zt_9 hi
  have e : ∀ j, j < 3 → z_lv (q_I M 109) 9 i j → f_X9_at M 20 (nI i) (nI j) = some (q_I M 109 (4728 + 3 * i + z_pm 9 j)) := fun j hj hl => by
    rw [z_at_in R h3 hm h hj]
    exact congrArg some ((hi.2.2.2.2.1.1 9 (by decide)).2.2.2 i j h hj hl)
  exact ⟨e 0 (by decide) ⟨fun z => absurd z (by decide), fun z => absurd z (by decide)⟩, e 1 (by decide) ⟨fun z => absurd z (by decide), fun z => absurd z (by decide)⟩, e 2 (by decide) ⟨fun z => absurd z (by decide), fun z => absurd z (by decide)⟩⟩
theorem zr_10 {M : q_Mem} (hi : z_Inv M) {i : Nat} (h : i < z_m (q_I M 109) 10) : f_X9_at M 22 (nI i) (0 : Int32) = some (q_I M 109 (4746 + 3 * i)) ∧ f_X9_at M 22 (nI i) (1 : Int32) = some (q_I M 109 (4746 + 3 * i + 1)) ∧ f_X9_at M 22 (nI i) (2 : Int32) = some (q_I M 109 (4746 + 3 * i + 2)) := by
  obtain ⟨R, h3, hm, _⟩ := zt_10 hi
  have e : ∀ j, j < 3 → z_lv (q_I M 109) 10 i j → f_X9_at M 22 (nI i) (nI j) = some (q_I M 109 (4746 + 3 * i + z_pm 10 j)) := fun j hj hl => by
    rw [z_at_in R h3 hm h hj]
    exact congrArg some ((hi.2.2.2.2.1.1 10 (by decide)).2.2.2 i j h hj hl)
  exact ⟨e 0 (by decide) ⟨fun z => absurd z (by decide), fun z => absurd z (by decide)⟩, e 1 (by decide) ⟨fun z => absurd z (by decide), fun z => absurd z (by decide)⟩, e 2 (by decide) ⟨fun z => absurd z (by decide), fun z => absurd z (by decide)⟩⟩
theorem z_ix_0 {i j : Nat} : (20 : Int32) + (4 : Int32) * nI i + nI j = nI (20 + 4 * i + j) := by
  rw [show (4 : Int32) = nI 4 from rfl, pk_mul, show (20 : Int32) = nI 20 from rfl, nI_add, nI_add]
theorem z_ix0_0 {i : Nat} : (20 : Int32) + (4 : Int32) * nI i = nI (20 + 4 * i) := by
  rw [show (4 : Int32) = nI 4 from rfl, pk_mul, show (20 : Int32) = nI 20 from rfl, nI_add]
theorem zg_0 {M : q_Mem} (hL : z_Lay M) {i : Nat} (h : i < 20) : q_lI M 109 ((20 : Int32) + (4 : Int32) * nI i) = some (q_I M 109 (20 + 4 * i)) ∧ q_lI M 109 ((20 : Int32) + (4 : Int32) * nI i + (1 : Int32)) = some (q_I M 109 (20 + 4 * i + 1)) ∧ q_lI M 109 ((20 : Int32) + (4 : Int32) * nI i + (2 : Int32)) = some (q_I M 109 (20 + 4 * i + 2)) ∧ q_lI M 109 ((20 : Int32) + (4 : Int32) * nI i + (3 : Int32)) = some (q_I M 109 (20 + 4 * i + 3)) := ⟨by rw [z_ix0_0]; exact z_st_lit hL (by omega), by rw [show (1 : Int32) = nI 1 from rfl, z_ix_0]; exact z_st_lit hL (by omega), by rw [show (2 : Int32) = nI 2 from rfl, z_ix_0]; exact z_st_lit hL (by omega), by rw [show (3 : Int32) = nI 3 from rfl, z_ix_0]; exact z_st_lit hL (by omega)⟩
theorem zw_0 {M : q_Mem} (hL : z_Lay M) {i : Nat} (h : i < 20) : (∀ v, q_tI M 109 ((20 : Int32) + (4 : Int32) * nI i) v = some (q_sI M 109 (20 + 4 * i) v)) ∧ (∀ v, q_tI M 109 ((20 : Int32) + (4 : Int32) * nI i + (1 : Int32)) v = some (q_sI M 109 (20 + 4 * i + 1) v)) ∧ (∀ v, q_tI M 109 ((20 : Int32) + (4 : Int32) * nI i + (2 : Int32)) v = some (q_sI M 109 (20 + 4 * i + 2) v)) ∧ (∀ v, q_tI M 109 ((20 : Int32) + (4 : Int32) * nI i + (3 : Int32)) v = some (q_sI M 109 (20 + 4 * i + 3) v)) := ⟨fun v => by rw [z_ix0_0]; exact z_st_put hL (by omega), fun v => by rw [show (1 : Int32) = nI 1 from rfl, z_ix_0]; exact z_st_put hL (by omega), fun v => by rw [show (2 : Int32) = nI 2 from rfl, z_ix_0]; exact z_st_put hL (by omega), fun v => by rw [show (3 : Int32) = nI 3 from rfl, z_ix_0]; exact z_st_put hL (by omega)⟩
theorem z_ix_1 {i j : Nat} : (100 : Int32) + (4 : Int32) * nI i + nI j = nI (100 + 4 * i + j) := by
  rw [show (4 : Int32) = nI 4 from rfl, pk_mul, show (100 : Int32) = nI 100 from rfl, nI_add, nI_add]
theorem z_ix0_1 {i : Nat} : (100 : Int32) + (4 : Int32) * nI i = nI (100 + 4 * i) := by
  rw [show (4 : Int32) = nI 4 from rfl, pk_mul, show (100 : Int32) = nI 100 from rfl, nI_add]
theorem zg_1 {M : q_Mem} (hL : z_Lay M) {i : Nat} (h : i < 300) : q_lI M 109 ((100 : Int32) + (4 : Int32) * nI i) = some (q_I M 109 (100 + 4 * i)) ∧ q_lI M 109 ((100 : Int32) + (4 : Int32) * nI i + (1 : Int32)) = some (q_I M 109 (100 + 4 * i + 1)) ∧ q_lI M 109 ((100 : Int32) + (4 : Int32) * nI i + (2 : Int32)) = some (q_I M 109 (100 + 4 * i + 2)) ∧ q_lI M 109 ((100 : Int32) + (4 : Int32) * nI i + (3 : Int32)) = some (q_I M 109 (100 + 4 * i + 3)) := ⟨by rw [z_ix0_1]; exact z_st_lit hL (by omega), by rw [show (1 : Int32) = nI 1 from rfl, z_ix_1]; exact z_st_lit hL (by omega), by rw [show (2 : Int32) = nI 2 from rfl, z_ix_1]; exact z_st_lit hL (by omega), by rw [show (3 : Int32) = nI 3 from rfl, z_ix_1]; exact z_st_lit hL (by omega)⟩
theorem zw_1 {M : q_Mem} (hL : z_Lay M) {i : Nat} (h : i < 300) : (∀ v, q_tI M 109 ((100 : Int32) + (4 : Int32) * nI i) v = some (q_sI M 109 (100 + 4 * i) v)) ∧ (∀ v, q_tI M 109 ((100 : Int32) + (4 : Int32) * nI i + (1 : Int32)) v = some (q_sI M 109 (100 + 4 * i + 1) v)) ∧ (∀ v, q_tI M 109 ((100 : Int32) + (4 : Int32) * nI i + (2 : Int32)) v = some (q_sI M 109 (100 + 4 * i + 2) v)) ∧ (∀ v, q_tI M 109 ((100 : Int32) + (4 : Int32) * nI i + (3 : Int32)) v = some (q_sI M 109 (100 + 4 * i + 3) v)) := ⟨fun v => by rw [z_ix0_1]; exact z_st_put hL (by omega), fun v => by rw [show (1 : Int32) = nI 1 from rfl, z_ix_1]; exact z_st_put hL (by omega), fun v => by rw [show (2 : Int32) = nI 2 from rfl, z_ix_1]; exact z_st_put hL (by omega), fun v => by rw [show (3 : Int32) = nI 3 from rfl, z_ix_1]; exact z_st_put hL (by omega)⟩
theorem z_ix_2 {i j : Nat} : (1300 : Int32) + (7 : Int32) * nI i + nI j = nI (1300 + 7 * i + j) := by
  rw [show (7 : Int32) = nI 7 from rfl, pk_mul, show (1300 : Int32) = nI 1300 from rfl, nI_add, nI_add]
theorem z_ix0_2 {i : Nat} : (1300 : Int32) + (7 : Int32) * nI i = nI (1300 + 7 * i) := by
  rw [show (7 : Int32) = nI 7 from rfl, pk_mul, show (1300 : Int32) = nI 1300 from rfl, nI_add]
theorem zg_2 {M : q_Mem} (hL : z_Lay M) {i : Nat} (h : i < 200) : q_lI M 109 ((1300 : Int32) + (7 : Int32) * nI i) = some (q_I M 109 (1300 + 7 * i)) ∧ q_lI M 109 ((1300 : Int32) + (7 : Int32) * nI i + (1 : Int32)) = some (q_I M 109 (1300 + 7 * i + 1)) ∧ q_lI M 109 ((1300 : Int32) + (7 : Int32) * nI i + (2 : Int32)) = some (q_I M 109 (1300 + 7 * i + 2)) ∧ q_lI M 109 ((1300 : Int32) + (7 : Int32) * nI i + (3 : Int32)) = some (q_I M 109 (1300 + 7 * i + 3)) ∧ q_lI M 109 ((1300 : Int32) + (7 : Int32) * nI i + (4 : Int32)) = some (q_I M 109 (1300 + 7 * i + 4)) ∧ q_lI M 109 ((1300 : Int32) + (7 : Int32) * nI i + (5 : Int32)) = some (q_I M 109 (1300 + 7 * i + 5)) ∧ q_lI M 109 ((1300 : Int32) + (7 : Int32) * nI i + (6 : Int32)) = some (q_I M 109 (1300 + 7 * i + 6)) := ⟨by rw [z_ix0_2]; exact z_st_lit hL (by omega), by rw [show (1 : Int32) = nI 1 from rfl, z_ix_2]; exact z_st_lit hL (by omega), by rw [show (2 : Int32) = nI 2 from rfl, z_ix_2]; exact z_st_lit hL (by omega), by rw [show (3 : Int32) = nI 3 from rfl, z_ix_2]; exact z_st_lit hL (by omega), by rw [show (4 : Int32) = nI 4 from rfl, z_ix_2]; exact z_st_lit hL (by omega), by rw [show (5 : Int32) = nI 5 from rfl, z_ix_2]; exact z_st_lit hL (by omega), by rw [show (6 : Int32) = nI 6 from rfl, z_ix_2]; exact z_st_lit hL (by omega)⟩
theorem zw_2 {M : q_Mem} (hL : z_Lay M) {i : Nat} (h : i < 200) : (∀ v, q_tI M 109 ((1300 : Int32) + (7 : Int32) * nI i) v = some (q_sI M 109 (1300 + 7 * i) v)) ∧ (∀ v, q_tI M 109 ((1300 : Int32) + (7 : Int32) * nI i + (1 : Int32)) v = some (q_sI M 109 (1300 + 7 * i + 1) v)) ∧ (∀ v, q_tI M 109 ((1300 : Int32) + (7 : Int32) * nI i + (2 : Int32)) v = some (q_sI M 109 (1300 + 7 * i + 2) v)) ∧ (∀ v, q_tI M 109 ((1300 : Int32) + (7 : Int32) * nI i + (3 : Int32)) v = some (q_sI M 109 (1300 + 7 * i + 3) v)) ∧ (∀ v, q_tI M 109 ((1300 : Int32) + (7 : Int32) * nI i + (4 : Int32)) v = some (q_sI M 109 (1300 + 7 * i + 4) v)) ∧ (∀ v, q_tI M 109 ((1300 : Int32) + (7 : Int32) * nI i + (5 : Int32)) v = some (q_sI M 109 (1300 + 7 * i + 5) v)) ∧ (∀ v, q_tI M 109 ((1300 : Int32) + (7 : Int32) * nI i + (6 : Int32)) v = some (q_sI M 109 (1300 + 7 * i + 6) v)) := ⟨fun v => by rw [z_ix0_2]; exact z_st_put hL (by omega), fun v => by rw [show (1 : Int32) = nI 1 from rfl, z_ix_2]; exact z_st_put hL (by omega), fun v => by rw [show (2 : Int32) = nI 2 from rfl, z_ix_2]; exact z_st_put hL (by omega), fun v => by rw [show (3 : Int32) = nI 3 from rfl, z_ix_2]; exact z_st_put hL (by omega), fun v => by rw [show (4 : Int32) = nI 4 from rfl, z_ix_2]; exact z_st_put hL (by omega), fun v => by rw [show (5 : Int32) = nI 5 from rfl, z_ix_2]; exact z_st_put hL (by omega), fun v => by rw [show (6 : Int32) = nI 6 from rfl, z_ix_2]; exact z_st_put hL (by omega)⟩
theorem z_ix_3 {i j : Nat} : (2700 : Int32) + (3 : Int32) * nI i + nI j = nI (2700 + 3 * i + j) := by
  rw [show (3 : Int32) = nI 3 from rfl, pk_mul, show (2700 : Int32) = nI 2700 from rfl, nI_add, nI_add]
theorem z_ix0_3 {i : Nat} : (2700 : Int32) + (3 : Int32) * nI i = nI (2700 + 3 * i) := by
  rw [show (3 : Int32) = nI 3 from rfl, pk_mul, show (2700 : Int32) = nI 2700 from rfl, nI_add]
theorem zg_3 {M : q_Mem} (hL : z_Lay M) {i : Nat} (h : i < 40) : q_lI M 109 ((2700 : Int32) + (3 : Int32) * nI i) = some (q_I M 109 (2700 + 3 * i)) ∧ q_lI M 109 ((2700 : Int32) + (3 : Int32) * nI i + (1 : Int32)) = some (q_I M 109 (2700 + 3 * i + 1)) ∧ q_lI M 109 ((2700 : Int32) + (3 : Int32) * nI i + (2 : Int32)) = some (q_I M 109 (2700 + 3 * i + 2)) := ⟨by rw [z_ix0_3]; exact z_st_lit hL (by omega), by rw [show (1 : Int32) = nI 1 from rfl, z_ix_3]; exact z_st_lit hL (by omega), by rw [show (2 : Int32) = nI 2 from rfl, z_ix_3]; exact z_st_lit hL (by omega)⟩
theorem zw_3 {M : q_Mem} (hL : z_Lay M) {i : Nat} (h : i < 40) : (∀ v, q_tI M 109 ((2700 : Int32) + (3 : Int32) * nI i) v = some (q_sI M 109 (2700 + 3 * i) v)) ∧ (∀ v, q_tI M 109 ((2700 : Int32) + (3 : Int32) * nI i + (1 : Int32)) v = some (q_sI M 109 (2700 + 3 * i + 1) v)) ∧ (∀ v, q_tI M 109 ((2700 : Int32) + (3 : Int32) * nI i + (2 : Int32)) v = some (q_sI M 109 (2700 + 3 * i + 2) v)) := ⟨fun v => by rw [z_ix0_3]; exact z_st_put hL (by omega), fun v => by rw [show (1 : Int32) = nI 1 from rfl, z_ix_3]; exact z_st_put hL (by omega), fun v => by rw [show (2 : Int32) = nI 2 from rfl, z_ix_3]; exact z_st_put hL (by omega)⟩
theorem z_ix_4 {i j : Nat} : (2820 : Int32) + (5 : Int32) * nI i + nI j = nI (2820 + 5 * i + j) := by
  rw [show (5 : Int32) = nI 5 from rfl, pk_mul, show (2820 : Int32) = nI 2820 from rfl, nI_add, nI_add]
theorem z_ix0_4 {i : Nat} : (2820 : Int32) + (5 : Int32) * nI i = nI (2820 + 5 * i) := by
  rw [show (5 : Int32) = nI 5 from rfl, pk_mul, show (2820 : Int32) = nI 2820 from rfl, nI_add]
theorem zg_4 {M : q_Mem} (hL : z_Lay M) {i : Nat} (h : i < 100) : q_lI M 109 ((2820 : Int32) + (5 : Int32) * nI i) = some (q_I M 109 (2820 + 5 * i)) ∧ q_lI M 109 ((2820 : Int32) + (5 : Int32) * nI i + (1 : Int32)) = some (q_I M 109 (2820 + 5 * i + 1)) ∧ q_lI M 109 ((2820 : Int32) + (5 : Int32) * nI i + (2 : Int32)) = some (q_I M 109 (2820 + 5 * i + 2)) ∧ q_lI M 109 ((2820 : Int32) + (5 : Int32) * nI i + (3 : Int32)) = some (q_I M 109 (2820 + 5 * i + 3)) ∧ q_lI M 109 ((2820 : Int32) + (5 : Int32) * nI i + (4 : Int32)) = some (q_I M 109 (2820 + 5 * i + 4)) := ⟨by rw [z_ix0_4]; exact z_st_lit hL (by omega), by rw [show (1 : Int32) = nI 1 from rfl, z_ix_4]; exact z_st_lit hL (by omega), by rw [show (2 : Int32) = nI 2 from rfl, z_ix_4]; exact z_st_lit hL (by omega), by rw [show (3 : Int32) = nI 3 from rfl, z_ix_4]; exact z_st_lit hL (by omega), by rw [show (4 : Int32) = nI 4 from rfl, z_ix_4]; exact z_st_lit hL (by omega)⟩
theorem zw_4 {M : q_Mem} (hL : z_Lay M) {i : Nat} (h : i < 100) : (∀ v, q_tI M 109 ((2820 : Int32) + (5 : Int32) * nI i) v = some (q_sI M 109 (2820 + 5 * i) v)) ∧ (∀ v, q_tI M 109 ((2820 : Int32) + (5 : Int32) * nI i + (1 : Int32)) v = some (q_sI M 109 (2820 + 5 * i + 1) v)) ∧ (∀ v, q_tI M 109 ((2820 : Int32) + (5 : Int32) * nI i + (2 : Int32)) v = some (q_sI M 109 (2820 + 5 * i + 2) v)) ∧ (∀ v, q_tI M 109 ((2820 : Int32) + (5 : Int32) * nI i + (3 : Int32)) v = some (q_sI M 109 (2820 + 5 * i + 3) v)) ∧ (∀ v, q_tI M 109 ((2820 : Int32) + (5 : Int32) * nI i + (4 : Int32)) v = some (q_sI M 109 (2820 + 5 * i + 4) v)) := ⟨fun v => by rw [z_ix0_4]; exact z_st_put hL (by omega), fun v => by rw [show (1 : Int32) = nI 1 from rfl, z_ix_4]; exact z_st_put hL (by omega), fun v => by rw [show (2 : Int32) = nI 2 from rfl, z_ix_4]; exact z_st_put hL (by omega), fun v => by rw [show (3 : Int32) = nI 3 from rfl, z_ix_4]; exact z_st_put hL (by omega), fun v => by rw [show (4 : Int32) = nI 4 from rfl, z_ix_4]; exact z_st_put hL (by omega)⟩
theorem z_ix_5 {i j : Nat} : (3320 : Int32) + (61 : Int32) * nI i + nI j = nI (3320 + 61 * i + j) := by
  rw [show (61 : Int32) = nI 61 from rfl, pk_mul, show (3320 : Int32) = nI 3320 from rfl, nI_add, nI_add]
theorem z_ix0_5 {i : Nat} : (3320 : Int32) + (61 : Int32) * nI i = nI (3320 + 61 * i) := by
  rw [show (61 : Int32) = nI 61 from rfl, pk_mul, show (3320 : Int32) = nI 3320 from rfl, nI_add]
theorem zg_5 {M : q_Mem} (hL : z_Lay M) {i : Nat} (h : i < 6) : q_lI M 109 ((3320 : Int32) + (61 : Int32) * nI i) = some (q_I M 109 (3320 + 61 * i)) := by rw [z_ix0_5]; exact z_st_lit hL (by omega)
theorem zw_5 {M : q_Mem} (hL : z_Lay M) {i : Nat} (h : i < 6) : (∀ v, q_tI M 109 ((3320 : Int32) + (61 : Int32) * nI i) v = some (q_sI M 109 (3320 + 61 * i) v)) := fun v => by rw [z_ix0_5]; exact z_st_put hL (by omega)
theorem z_ix_6 {i j : Nat} : (3686 : Int32) + (84 : Int32) * nI i + nI j = nI (3686 + 84 * i + j) := by
  rw [show (84 : Int32) = nI 84 from rfl, pk_mul, show (3686 : Int32) = nI 3686 from rfl, nI_add, nI_add]
theorem z_ix0_6 {i : Nat} : (3686 : Int32) + (84 : Int32) * nI i = nI (3686 + 84 * i) := by
  rw [show (84 : Int32) = nI 84 from rfl, pk_mul, show (3686 : Int32) = nI 3686 from rfl, nI_add]
theorem zg_6 {M : q_Mem} (hL : z_Lay M) {i : Nat} (h : i < 10) : q_lI M 109 ((3686 : Int32) + (84 : Int32) * nI i) = some (q_I M 109 (3686 + 84 * i)) ∧ q_lI M 109 ((3686 : Int32) + (84 : Int32) * nI i + (61 : Int32)) = some (q_I M 109 (3686 + 84 * i + 61)) ∧ q_lI M 109 ((3686 : Int32) + (84 : Int32) * nI i + (62 : Int32)) = some (q_I M 109 (3686 + 84 * i + 62)) ∧ q_lI M 109 ((3686 : Int32) + (84 : Int32) * nI i + (63 : Int32)) = some (q_I M 109 (3686 + 84 * i + 63)) := ⟨by rw [z_ix0_6]; exact z_st_lit hL (by omega), by rw [show (61 : Int32) = nI 61 from rfl, z_ix_6]; exact z_st_lit hL (by omega), by rw [show (62 : Int32) = nI 62 from rfl, z_ix_6]; exact z_st_lit hL (by omega), by rw [show (63 : Int32) = nI 63 from rfl, z_ix_6]; exact z_st_lit hL (by omega)⟩
theorem zw_6 {M : q_Mem} (hL : z_Lay M) {i : Nat} (h : i < 10) : (∀ v, q_tI M 109 ((3686 : Int32) + (84 : Int32) * nI i) v = some (q_sI M 109 (3686 + 84 * i) v)) ∧ (∀ v, q_tI M 109 ((3686 : Int32) + (84 : Int32) * nI i + (61 : Int32)) v = some (q_sI M 109 (3686 + 84 * i + 61) v)) ∧ (∀ v, q_tI M 109 ((3686 : Int32) + (84 : Int32) * nI i + (62 : Int32)) v = some (q_sI M 109 (3686 + 84 * i + 62) v)) ∧ (∀ v, q_tI M 109 ((3686 : Int32) + (84 : Int32) * nI i + (63 : Int32)) v = some (q_sI M 109 (3686 + 84 * i + 63) v)) := ⟨fun v => by rw [z_ix0_6]; exact z_st_put hL (by omega), fun v => by rw [show (61 : Int32) = nI 61 from rfl, z_ix_6]; exact z_st_put hL (by omega), fun v => by rw [show (62 : Int32) = nI 62 from rfl, z_ix_6]; exact z_st_put hL (by omega), fun v => by rw [show (63 : Int32) = nI 63 from rfl, z_ix_6]; exact z_st_put hL (by omega)⟩
theorem z_ix_7 {i j : Nat} : (4526 : Int32) + (3 : Int32) * nI i + nI j = nI (4526 + 3 * i + j) := by
  rw [show (3 : Int32) = nI 3 from rfl, pk_mul, show (4526 : Int32) = nI 4526 from rfl, nI_add, nI_add]
theorem z_ix0_7 {i : Nat} : (4526 : Int32) + (3 : Int32) * nI i = nI (4526 + 3 * i) := by
  rw [show (3 : Int32) = nI 3 from rfl, pk_mul, show (4526 : Int32) = nI 4526 from rfl, nI_add]
theorem zg_7 {M : q_Mem} (hL : z_Lay M) {i : Nat} (h : i < 10) : q_lI M 109 ((4526 : Int32) + (3 : Int32) * nI i) = some (q_I M 109 (4526 + 3 * i)) ∧ q_lI M 109 ((4526 : Int32) + (3 : Int32) * nI i + (1 : Int32)) = some (q_I M 109 (4526 + 3 * i + 1)) ∧ q_lI M 109 ((4526 : Int32) + (3 : Int32) * nI i + (2 : Int32)) = some (q_I M 109 (4526 + 3 * i + 2)) := ⟨by rw [z_ix0_7]; exact z_st_lit hL (by omega), by rw [show (1 : Int32) = nI 1 from rfl, z_ix_7]; exact z_st_lit hL (by omega), by rw [show (2 : Int32) = nI 2 from rfl, z_ix_7]; exact z_st_lit hL (by omega)⟩
theorem zw_7 {M : q_Mem} (hL : z_Lay M) {i : Nat} (h : i < 10) : (∀ v, q_tI M 109 ((4526 : Int32) + (3 : Int32) * nI i) v = some (q_sI M 109 (4526 + 3 * i) v)) ∧ (∀ v, q_tI M 109 ((4526 : Int32) + (3 : Int32) * nI i + (1 : Int32)) v = some (q_sI M 109 (4526 + 3 * i + 1) v)) ∧ (∀ v, q_tI M 109 ((4526 : Int32) + (3 : Int32) * nI i + (2 : Int32)) v = some (q_sI M 109 (4526 + 3 * i + 2) v)) := ⟨fun v => by rw [z_ix0_7]; exact z_st_put hL (by omega), fun v => by rw [show (1 : Int32) = nI 1 from rfl, z_ix_7]; exact z_st_put hL (by omega), fun v => by rw [show (2 : Int32) = nI 2 from rfl, z_ix_7]; exact z_st_put hL (by omega)⟩
theorem z_ix_8 {i j : Nat} : (4608 : Int32) + (3 : Int32) * nI i + nI j = nI (4608 + 3 * i + j) := by
  rw [show (3 : Int32) = nI 3 from rfl, pk_mul, show (4608 : Int32) = nI 4608 from rfl, nI_add, nI_add]
theorem z_ix0_8 {i : Nat} : (4608 : Int32) + (3 : Int32) * nI i = nI (4608 + 3 * i) := by
  rw [show (3 : Int32) = nI 3 from rfl, pk_mul, show (4608 : Int32) = nI 4608 from rfl, nI_add]
theorem zg_8 {M : q_Mem} (hL : z_Lay M) {i : Nat} (h : i < 40) : q_lI M 109 ((4608 : Int32) + (3 : Int32) * nI i) = some (q_I M 109 (4608 + 3 * i)) ∧ q_lI M 109 ((4608 : Int32) + (3 : Int32) * nI i + (1 : Int32)) = some (q_I M 109 (4608 + 3 * i + 1)) ∧ q_lI M 109 ((4608 : Int32) + (3 : Int32) * nI i + (2 : Int32)) = some (q_I M 109 (4608 + 3 * i + 2)) := ⟨by rw [z_ix0_8]; exact z_st_lit hL (by omega), by rw [show (1 : Int32) = nI 1 from rfl, z_ix_8]; exact z_st_lit hL (by omega), by rw [show (2 : Int32) = nI 2 from rfl, z_ix_8]; exact z_st_lit hL (by omega)⟩
theorem zw_8 {M : q_Mem} (hL : z_Lay M) {i : Nat} (h : i < 40) : (∀ v, q_tI M 109 ((4608 : Int32) + (3 : Int32) * nI i) v = some (q_sI M 109 (4608 + 3 * i) v)) ∧ (∀ v, q_tI M 109 ((4608 : Int32) + (3 : Int32) * nI i + (1 : Int32)) v = some (q_sI M 109 (4608 + 3 * i + 1) v)) ∧ (∀ v, q_tI M 109 ((4608 : Int32) + (3 : Int32) * nI i + (2 : Int32)) v = some (q_sI M 109 (4608 + 3 * i + 2) v)) := ⟨fun v => by rw [z_ix0_8]; exact z_st_put hL (by omega), fun v => by rw [show (1 : Int32) = nI 1 from rfl, z_ix_8]; exact z_st_put hL (by omega), fun v => by rw [show (2 : Int32) = nI 2 from rfl, z_ix_8]; exact z_st_put hL (by omega)⟩
theorem z_ix_9 {i j : Nat} : (4728 : Int32) + (3 : Int32) * nI i + nI j = nI (4728 + 3 * i + j) := by
  rw [show (3 : Int32) = nI 3 from rfl, pk_mul, show (4728 : Int32) = nI 4728 from rfl, nI_add, nI_add]
theorem z_ix0_9 {i : Nat} : (4728 : Int32) + (3 : Int32) * nI i = nI (4728 + 3 * i) := by
  rw [show (3 : Int32) = nI 3 from rfl, pk_mul, show (4728 : Int32) = nI 4728 from rfl, nI_add]
theorem zg_9 {M : q_Mem} (hL : z_Lay M) {i : Nat} (h : i < 6) : q_lI M 109 ((4728 : Int32) + (3 : Int32) * nI i) = some (q_I M 109 (4728 + 3 * i)) ∧ q_lI M 109 ((4728 : Int32) + (3 : Int32) * nI i + (1 : Int32)) = some (q_I M 109 (4728 + 3 * i + 1)) ∧ q_lI M 109 ((4728 : Int32) + (3 : Int32) * nI i + (2 : Int32)) = some (q_I M 109 (4728 + 3 * i + 2)) := ⟨by rw [z_ix0_9]; exact z_st_lit hL (by omega), by rw [show (1 : Int32) = nI 1 from rfl, z_ix_9]; exact z_st_lit hL (by omega), by rw [show (2 : Int32) = nI 2 from rfl, z_ix_9]; exact z_st_lit hL (by omega)⟩
theorem zw_9 {M : q_Mem} (hL : z_Lay M) {i : Nat} (h : i < 6) : (∀ v, q_tI M 109 ((4728 : Int32) + (3 : Int32) * nI i) v = some (q_sI M 109 (4728 + 3 * i) v)) ∧ (∀ v, q_tI M 109 ((4728 : Int32) + (3 : Int32) * nI i + (1 : Int32)) v = some (q_sI M 109 (4728 + 3 * i + 1) v)) ∧ (∀ v, q_tI M 109 ((4728 : Int32) + (3 : Int32) * nI i + (2 : Int32)) v = some (q_sI M 109 (4728 + 3 * i + 2) v)) := ⟨fun v => by rw [z_ix0_9]; exact z_st_put hL (by omega), fun v => by rw [show (1 : Int32) = nI 1 from rfl, z_ix_9]; exact z_st_put hL (by omega), fun v => by rw [show (2 : Int32) = nI 2 from rfl, z_ix_9]; exact z_st_put hL (by omega)⟩
theorem z_ix_10 {i j : Nat} : (4746 : Int32) + (3 : Int32) * nI i + nI j = nI (4746 + 3 * i + j) := by
  rw [show (3 : Int32) = nI 3 from rfl, pk_mul, show (4746 : Int32) = nI 4746 from rfl, nI_add, nI_add]
theorem z_ix0_10 {i : Nat} : (4746 : Int32) + (3 : Int32) * nI i = nI (4746 + 3 * i) := by
  rw [show (3 : Int32) = nI 3 from rfl, pk_mul, show (4746 : Int32) = nI 4746 from rfl, nI_add]
theorem zg_10 {M : q_Mem} (hL : z_Lay M) {i : Nat} (h : i < 6) : q_lI M 109 ((4746 : Int32) + (3 : Int32) * nI i) = some (q_I M 109 (4746 + 3 * i)) ∧ q_lI M 109 ((4746 : Int32) + (3 : Int32) * nI i + (1 : Int32)) = some (q_I M 109 (4746 + 3 * i + 1)) ∧ q_lI M 109 ((4746 : Int32) + (3 : Int32) * nI i + (2 : Int32)) = some (q_I M 109 (4746 + 3 * i + 2)) := ⟨by rw [z_ix0_10]; exact z_st_lit hL (by omega), by rw [show (1 : Int32) = nI 1 from rfl, z_ix_10]; exact z_st_lit hL (by omega), by rw [show (2 : Int32) = nI 2 from rfl, z_ix_10]; exact z_st_lit hL (by omega)⟩
theorem zw_10 {M : q_Mem} (hL : z_Lay M) {i : Nat} (h : i < 6) : (∀ v, q_tI M 109 ((4746 : Int32) + (3 : Int32) * nI i) v = some (q_sI M 109 (4746 + 3 * i) v)) ∧ (∀ v, q_tI M 109 ((4746 : Int32) + (3 : Int32) * nI i + (1 : Int32)) v = some (q_sI M 109 (4746 + 3 * i + 1) v)) ∧ (∀ v, q_tI M 109 ((4746 : Int32) + (3 : Int32) * nI i + (2 : Int32)) v = some (q_sI M 109 (4746 + 3 * i + 2) v)) := ⟨fun v => by rw [z_ix0_10]; exact z_st_put hL (by omega), fun v => by rw [show (1 : Int32) = nI 1 from rfl, z_ix_10]; exact z_st_put hL (by omega), fun v => by rw [show (2 : Int32) = nI 2 from rfl, z_ix_10]; exact z_st_put hL (by omega)⟩
theorem zl_ {M : q_Mem} (hL : z_Lay M) : q_lI M 109 (0 : Int32) = some (q_I M 109 0) ∧ q_lI M 109 (1 : Int32) = some (q_I M 109 1) ∧ q_lI M 109 (2 : Int32) = some (q_I M 109 2) ∧ q_lI M 109 (3 : Int32) = some (q_I M 109 3) ∧ q_lI M 109 (4 : Int32) = some (q_I M 109 4) ∧ q_lI M 109 (5 : Int32) = some (q_I M 109 5) ∧ q_lI M 109 (6 : Int32) = some (q_I M 109 6) ∧ q_lI M 109 (7 : Int32) = some (q_I M 109 7) ∧ q_lI M 109 (8 : Int32) = some (q_I M 109 8) ∧ q_lI M 109 (9 : Int32) = some (q_I M 109 9) ∧ q_lI M 109 (10 : Int32) = some (q_I M 109 10) ∧ q_lI M 109 (11 : Int32) = some (q_I M 109 11) ∧ q_lI M 109 (12 : Int32) = some (q_I M 109 12) ∧ q_lI M 109 (13 : Int32) = some (q_I M 109 13) ∧ q_lI M 109 (14 : Int32) = some (q_I M 109 14) ∧ q_lI M 109 (15 : Int32) = some (q_I M 109 15) ∧ q_lI M 109 (16 : Int32) = some (q_I M 109 16) := ⟨z_st_lit (k := 0) hL (by decide), z_st_lit (k := 1) hL (by decide), z_st_lit (k := 2) hL (by decide), z_st_lit (k := 3) hL (by decide), z_st_lit (k := 4) hL (by decide), z_st_lit (k := 5) hL (by decide), z_st_lit (k := 6) hL (by decide), z_st_lit (k := 7) hL (by decide), z_st_lit (k := 8) hL (by decide), z_st_lit (k := 9) hL (by decide), z_st_lit (k := 10) hL (by decide), z_st_lit (k := 11) hL (by decide), z_st_lit (k := 12) hL (by decide), z_st_lit (k := 13) hL (by decide), z_st_lit (k := 14) hL (by decide), z_st_lit (k := 15) hL (by decide), z_st_lit (k := 16) hL (by decide)⟩
theorem z_hs_sets {I I' : Nat → Nat → Int32} {st st' : Nat → Int32} {t i : Nat} (f : Nat → Option Int32) (ht : t < 11) (h5 : t ≠ 5) (h6 : t = 6 → ∀ j, 3 ≤ j → j < 64 → f j = none) (h : z_hs 1 I st) (hi : i < z_m st t) (hr : ∀ a, 1 ≤ a → a < 26 → a ≠ 3 + 2 * t → I' a = I a)
    (hc : ∀ j, j < z_tw t → I' (3 + 2 * t) (z_tw t * i + j) = (f j).getD (I (3 + 2 * t) (z_tw t * i + j))) (hc2 : ∀ k, (k < z_tw t * i ∨ z_tw t * i + z_tw t ≤ k) → I' (3 + 2 * t) k = I (3 + 2 * t) k)
    (hst : ∀ j, j < z_tw t → st' (z_to t + z_tw t * i + z_pm t j) = (f j).getD (st (z_to t + z_tw t * i + z_pm t j))) (hst2 : ∀ k, (k < z_to t + z_tw t * i ∨ z_to t + z_tw t * i + z_tw t ≤ k) → st' k = st k)
    (hV : z_VR st' (z_m st 0) (z_m st 3) t i) : z_hs 1 I' st' ∧ ∀ t', t' < 11 → z_m st' t' = z_m st t' := by
  have hT0 := h.1 t ht
  have hto := z_to_ge ht
  have hend : z_tw t * i + z_tw t ≤ z_tm t * z_tw t := by
    have h1 := Nat.mul_le_mul_left (z_tw t) (show i + 1 ≤ z_tm t by have := hT0.2.1; omega)
    rw [Nat.mul_add, Nat.mul_one, Nat.mul_comm (z_tw t) (z_tm t)] at h1
    exact h1
  have n3 : ∀ t, t < 11 → z_tn t < 20 := by decide
  have hmm : ∀ t', t' < 11 → z_m st' t' = z_m st t' := by
    intro t' ht'
    have e2 : st' (z_tn t') = st (z_tn t') := hst2 _ (Or.inl (by have := n3 t' ht'; omega))
    unfold z_m
    rw [e2]
  have hrow : ∀ i2, i2 ≠ i → z_tw t * i2 + z_tw t ≤ z_tw t * i ∨ z_tw t * i + z_tw t ≤ z_tw t * i2 := by
    intro i2 hn
    rcases Nat.lt_or_ge i2 i with g | g
    · left
      have h1 := Nat.mul_le_mul_left (z_tw t) (show i2 + 1 ≤ i from g)
      rw [Nat.mul_add, Nat.mul_one] at h1
      exact h1
    · right
      have h1 := Nat.mul_le_mul_left (z_tw t) (show i + 1 ≤ i2 by omega)
      rw [Nat.mul_add, Nat.mul_one] at h1
      exact h1
  refine ⟨z_hs_tab ht h (fun a h1 h2 h3 h4 => hr a h1 h2 h4) (fun k h1 h2 => hst2 k (by omega)) (Nat.le_of_eq (hmm 0 (by decide)).symm) (Nat.le_of_eq (hmm 3 (by decide)).symm) ⟨?_, by rw [hmm t ht]; exact hT0.2.1, fun _ => ?_, fun i2 j2 h1 h2 hl => ?_⟩ (fun i2 h1 => ?_), hmm⟩
  · rw [hmm t ht, hr _ (by omega) (by omega) (by omega)]; exact hT0.1
  · rw [hmm t ht, hst2 _ (Or.inl (by have := n3 t ht; omega))]; exact hT0.2.2.1 h5
  · rw [hmm t ht] at h1
    rw [show 1 + 2 + 2 * t = 3 + 2 * t by omega]
    have hp2 := z_pm_lt h2
    by_cases e : i2 = i
    · subst e
      rw [hc j2 h2, hst j2 h2]
      cases hf : f j2 with
      | some v => rfl
      | none =>
        have g := hT0.2.2.2 i2 j2 h1 h2 ⟨fun z => absurd z h5, fun z q1 q2 => by
          subst z
          have q3 := hl.2 rfl q1 q2
          have q4 := hst 3 (by decide)
          rw [h6 rfl 3 (by decide) (by decide)] at q4
          have q5 : st' (3686 + 84 * i2) = st (3686 + 84 * i2) := q4
          rwa [q5] at q3⟩
        rw [show 1 + 2 + 2 * t = 3 + 2 * t by omega] at g
        exact g
    · have hh := hrow i2 e
      rw [hc2 _ (by omega), hst2 _ (by omega)]
      have g := hT0.2.2.2 i2 j2 h1 h2 ⟨fun z => absurd z h5, fun z q1 q2 => by
        subst z
        have q3 := hl.2 rfl q1 q2
        have q4 : st' (3686 + 84 * i2) = st (3686 + 84 * i2) := hst2 _ (by
          have hh' : 84 * i2 + 84 ≤ 84 * i ∨ 84 * i + 84 ≤ 84 * i2 := hh
          show 3686 + 84 * i2 < 3686 + 84 * i ∨ 3686 + 84 * i + 84 ≤ 3686 + 84 * i2
          omega)
        rwa [q4] at q3⟩
      rw [show 1 + 2 + 2 * t = 3 + 2 * t by omega] at g
      exact g
  · rw [hmm t ht] at h1
    rw [hmm 0 (by decide), hmm 3 (by decide)]
    by_cases e : i2 = i
    · subst e; exact hV
    · refine (h.2.2.2 t ht i2 h1).cong (fun j2 hj2 => ?_) (Nat.le_refl _) (Nat.le_refl _)
      have hh := hrow i2 e
      rw [hst2 _ (by omega)]
theorem z_Inv_sets {M M' : q_Mem} {t i : Nat} (f : Nat → Option Int32) (ht : t < 11) (h5 : t ≠ 5) (h6 : t = 6 → ∀ j, 3 ≤ j → j < 64 → f j = none) (hi : z_Inv M) (hj : i < z_m (q_I M 109) t) (hF : z_FR M M') (hr : ∀ a, a ≠ 3 + 2 * t → a ≠ 109 → q_I M' a = q_I M a)
    (hc : ∀ j, j < z_tw t → q_I M' (3 + 2 * t) (z_tw t * i + j) = (f j).getD (q_I M (3 + 2 * t) (z_tw t * i + j))) (hc2 : ∀ k, (k < z_tw t * i ∨ z_tw t * i + z_tw t ≤ k) → q_I M' (3 + 2 * t) k = q_I M (3 + 2 * t) k)
    (hst : ∀ j, j < z_tw t → q_I M' 109 (z_to t + z_tw t * i + z_pm t j) = (f j).getD (q_I M 109 (z_to t + z_tw t * i + z_pm t j))) (hst2 : ∀ k, (k < z_to t + z_tw t * i ∨ z_to t + z_tw t * i + z_tw t ≤ k) → q_I M' 109 k = q_I M 109 k)
    (hV : z_VR (q_I M' 109) (z_m (q_I M 109) 0) (z_m (q_I M 109) 3) t i) : z_Inv M' := by
  refine hi.upd hF (fun a ha => hr a (by omega) (by omega)) (fun t' ht' => ?_) (z_hs_sets f ht h5 h6 hi.2.2.2.2.1 hj (fun a h1 h2 h3 => hr a h3 (by omega)) hc hc2 hst hst2 hV).1
  rw [hr _ (by omega) (by omega)]
  exact hi.2.1 t' ht'

