/-! ===== the layout behind the constructors ===== -/
def z_KK : Nat → Nat × Nat := fun a => match a with
  | 0 => (10, 0)
  | 1 => (4, 0)
  | 2 => (8, 0)
  | 3 => (100, 80)
  | 4 => (8, 0)
  | 5 => (100, 1200)
  | 6 => (8, 0)
  | 7 => (100, 1400)
  | 8 => (8, 0)
  | 9 => (100, 120)
  | 10 => (8, 0)
  | 11 => (100, 500)
  | 12 => (8, 0)
  | 13 => (100, 366)
  | 14 => (8, 0)
  | 15 => (100, 840)
  | 16 => (8, 0)
  | 17 => (100, 30)
  | 18 => (8, 0)
  | 19 => (100, 120)
  | 20 => (8, 0)
  | 21 => (100, 18)
  | 22 => (8, 0)
  | 23 => (100, 18)
  | 24 => (100, 4)
  | 25 => (100, 52)
  | 26 => (103, 2)
  | 27 => (4, 0)
  | 28 => (8, 0)
  | 29 => (100, 80)
  | 30 => (8, 0)
  | 31 => (100, 1200)
  | 32 => (8, 0)
  | 33 => (100, 1400)
  | 34 => (8, 0)
  | 35 => (100, 120)
  | 36 => (8, 0)
  | 37 => (100, 500)
  | 38 => (8, 0)
  | 39 => (100, 366)
  | 40 => (8, 0)
  | 41 => (100, 840)
  | 42 => (8, 0)
  | 43 => (100, 30)
  | 44 => (8, 0)
  | 45 => (100, 120)
  | 46 => (8, 0)
  | 47 => (100, 18)
  | 48 => (8, 0)
  | 49 => (100, 18)
  | 50 => (100, 4)
  | 51 => (100, 52)
  | 52 => (4, 0)
  | 53 => (8, 0)
  | 54 => (100, 80)
  | 55 => (8, 0)
  | 56 => (100, 1200)
  | 57 => (8, 0)
  | 58 => (100, 1400)
  | 59 => (8, 0)
  | 60 => (100, 120)
  | 61 => (8, 0)
  | 62 => (100, 500)
  | 63 => (8, 0)
  | 64 => (100, 366)
  | 65 => (8, 0)
  | 66 => (100, 840)
  | 67 => (8, 0)
  | 68 => (100, 30)
  | 69 => (8, 0)
  | 70 => (100, 120)
  | 71 => (8, 0)
  | 72 => (100, 18)
  | 73 => (8, 0)
  | 74 => (100, 18)
  | 75 => (100, 4)
  | 76 => (100, 52)
  | 77 => (102, 2)
  | 78 => (5, 0)
  | 79 => (100, 200)
  | 80 => (3, 0)
  | 81 => (7, 0)
  | 82 => (100, 60)
  | 83 => (101, 8)
  | 84 => (101, 60)
  | 85 => (100, 60)
  | 86 => (102, 60)
  | 87 => (0, 0)
  | 88 => (6, 0)
  | 89 => (100, 20)
  | 90 => (101, 20)
  | 91 => (100, 20)
  | 92 => (100, 20)
  | 93 => (100, 20)
  | 94 => (101, 20)
  | 95 => (2, 0)
  | 96 => (100, 8)
  | 97 => (100, 64)
  | 98 => (100, 8)
  | 99 => (100, 2048)
  | 100 => (100, 8)
  | 101 => (1, 0)
  | 102 => (101, 1024)
  | 103 => (101, 1024)
  | 104 => (100, 1024)
  | 105 => (101, 1024)
  | 106 => (101, 1024)
  | 107 => (9, 0)
  | 108 => (11, 0)
  | 109 => (100, 4764)
  | 110 => (100, 9528)
  | 111 => (102, 2)
  | 112 => (100, 200)
  | 113 => (100, 200)
  | 114 => (100, 200)
  | 115 => (100, 200)
  | 116 => (100, 130)
  | 117 => (100, 130)
  | 118 => (100, 130)
  | 119 => (101, 8)
  | 120 => (100, 20)
  | 121 => (101, 130)
  | 122 => (102, 130)
  | 123 => (101, 20)
  | 124 => (100, 8)
  | 125 => (100, 8)
  | 126 => (101, 1024)
  | 127 => (100, 10)
  | 128 => (100, 10)
  | 129 => (100, 10)
  | 130 => (100, 10)
  | _ => (0, 0)
def z_GG : Nat → Nat → Option Nat := fun a i => match a, i with
  | 0, 0 => some 1
  | 0, 1 => some 26
  | 0, 2 => some 77
  | 0, 3 => some 78
  | 0, 4 => some 80
  | 0, 5 => some 81
  | 0, 6 => some 87
  | 0, 7 => some 88
  | 0, 8 => some 95
  | 0, 9 => some 101
  | 0, 10 => some 107
  | 1, 0 => some 2
  | 1, 1 => some 4
  | 1, 2 => some 6
  | 1, 3 => some 8
  | 1, 4 => some 10
  | 1, 5 => some 12
  | 1, 6 => some 14
  | 1, 7 => some 16
  | 1, 8 => some 18
  | 1, 9 => some 20
  | 1, 10 => some 22
  | 1, 11 => some 24
  | 1, 12 => some 25
  | 2, 2 => some 3
  | 4, 2 => some 5
  | 6, 2 => some 7
  | 8, 2 => some 9
  | 10, 2 => some 11
  | 12, 2 => some 13
  | 14, 2 => some 15
  | 16, 2 => some 17
  | 18, 2 => some 19
  | 20, 2 => some 21
  | 22, 2 => some 23
  | 26, 0 => some 27
  | 26, 1 => some 52
  | 27, 0 => some 28
  | 27, 1 => some 30
  | 27, 2 => some 32
  | 27, 3 => some 34
  | 27, 4 => some 36
  | 27, 5 => some 38
  | 27, 6 => some 40
  | 27, 7 => some 42
  | 27, 8 => some 44
  | 27, 9 => some 46
  | 27, 10 => some 48
  | 27, 11 => some 50
  | 27, 12 => some 51
  | 28, 2 => some 29
  | 30, 2 => some 31
  | 32, 2 => some 33
  | 34, 2 => some 35
  | 36, 2 => some 37
  | 38, 2 => some 39
  | 40, 2 => some 41
  | 42, 2 => some 43
  | 44, 2 => some 45
  | 46, 2 => some 47
  | 48, 2 => some 49
  | 52, 0 => some 53
  | 52, 1 => some 55
  | 52, 2 => some 57
  | 52, 3 => some 59
  | 52, 4 => some 61
  | 52, 5 => some 63
  | 52, 6 => some 65
  | 52, 7 => some 67
  | 52, 8 => some 69
  | 52, 9 => some 71
  | 52, 10 => some 73
  | 52, 11 => some 75
  | 52, 12 => some 76
  | 53, 2 => some 54
  | 55, 2 => some 56
  | 57, 2 => some 58
  | 59, 2 => some 60
  | 61, 2 => some 62
  | 63, 2 => some 64
  | 65, 2 => some 66
  | 67, 2 => some 68
  | 69, 2 => some 70
  | 71, 2 => some 72
  | 73, 2 => some 74
  | 78, 0 => some 1
  | 78, 1 => some 6
  | 78, 2 => some 79
  | 80, 0 => some 1
  | 80, 1 => some 78
  | 81, 0 => some 82
  | 81, 2 => some 83
  | 81, 3 => some 84
  | 81, 5 => some 85
  | 81, 6 => some 86
  | 87, 0 => some 1
  | 87, 1 => some 14
  | 88, 0 => some 1
  | 88, 1 => some 78
  | 88, 2 => some 81
  | 88, 3 => some 87
  | 88, 4 => some 89
  | 88, 5 => some 90
  | 88, 6 => some 91
  | 88, 7 => some 92
  | 88, 8 => some 93
  | 88, 9 => some 94
  | 95, 0 => some 1
  | 95, 1 => some 96
  | 95, 3 => some 97
  | 95, 4 => some 98
  | 95, 5 => some 99
  | 95, 6 => some 100
  | 101, 0 => some 16
  | 101, 1 => some 102
  | 101, 2 => some 103
  | 101, 3 => some 104
  | 101, 4 => some 105
  | 101, 5 => some 106
  | 107, 0 => some 1
  | 108, 0 => some 109
  | 108, 1 => some 110
  | 108, 2 => some 111
  | 108, 3 => some 112
  | 108, 5 => some 113
  | 108, 6 => some 114
  | 108, 7 => some 115
  | 108, 9 => some 116
  | 108, 10 => some 117
  | 108, 11 => some 118
  | 108, 14 => some 119
  | 108, 15 => some 120
  | 108, 16 => some 121
  | 108, 17 => some 122
  | 108, 19 => some 123
  | 108, 21 => some 124
  | 108, 22 => some 125
  | 108, 24 => some 126
  | 108, 25 => some 127
  | 108, 26 => some 128
  | 108, 27 => some 129
  | 108, 28 => some 130
  | _, _ => none
def z_Lay (M : q_Mem) : Prop := M.1 = 131 ∧ (∀ a, a < 131 → q_K M a = z_KK a) ∧ ∀ a i, a < 131 → i < 32 → q_G M a i = z_GG a i
theorem z_lay_sI {M : q_Mem} {a k : Nat} {v : Int32} : z_Lay (q_sI M a k v) = z_Lay M := rfl
theorem z_lay_sJ {M : q_Mem} {a k : Nat} {v : Int64} : z_Lay (q_sJ M a k v) = z_Lay M := rfl
theorem z_lay_sA {M : q_Mem} {a : Nat} {f : Nat → Int32} : z_Lay (q_sA M a f) = z_Lay M := rfl
theorem z_I_sI {M : q_Mem} {a k : Nat} {v : Int32} {b j : Nat} : q_I (q_sI M a k v) b j = if b = a ∧ j = k then v else q_I M b j := rfl
theorem z_I_sJ {M : q_Mem} {a k : Nat} {v : Int64} {b j : Nat} : q_I (q_sJ M a k v) b j = q_I M b j := rfl
theorem z_J_sJ {M : q_Mem} {a k : Nat} {v : Int64} {b j : Nat} : q_J (q_sJ M a k v) b j = if b = a ∧ j = k then v else q_J M b j := rfl
theorem z_J_sI {M : q_Mem} {a k : Nat} {v : Int32} {b j : Nat} : q_J (q_sI M a k v) b j = q_J M b j := rfl
theorem z_I_sA {M : q_Mem} {a : Nat} {f : Nat → Int32} {b j : Nat} : q_I (q_sA M a f) b j = if b = a then f j else q_I M b j := rfl
theorem z_isb {M : q_Mem} {ci a : Nat} (h : z_Lay M) (ha : a < 131) (hk : (z_KK a).1 = ci) : q_isb ci M a = true := by
  rw [q_isb_iff]; exact ⟨by rw [h.1]; exact ha, by rw [h.2.1 a ha]; exact hk⟩
theorem z_oI {M : q_Mem} {ci f a : Nat} (h : z_Lay M) (ha : a < 131) (hk : (z_KK a).1 = ci) : q_gI ci f M a = some (q_I M a f) := by unfold q_gI; rw [if_pos (z_isb h ha hk)]
theorem z_oJ {M : q_Mem} {ci f a : Nat} (h : z_Lay M) (ha : a < 131) (hk : (z_KK a).1 = ci) : q_gJ ci f M a = some (q_J M a f) := by unfold q_gJ; rw [if_pos (z_isb h ha hk)]
theorem z_oR {M : q_Mem} {ci f a t : Nat} (h : z_Lay M) (ha : a < 131) (hk : (z_KK a).1 = ci) (hf : f < 32) (ht : z_GG a f = some t) : q_gR ci f M a = some t := by unfold q_gR; rw [if_pos (z_isb h ha hk), h.2.2 a f ha hf, ht]
theorem z_pI {M : q_Mem} {ci f a : Nat} {v : Int32} (h : z_Lay M) (ha : a < 131) (hk : (z_KK a).1 = ci) : q_pI ci f M a v = some (q_sI M a f v) := by unfold q_pI; rw [if_pos (z_isb h ha hk)]
theorem z_pJ {M : q_Mem} {ci f a : Nat} {v : Int64} (h : z_Lay M) (ha : a < 131) (hk : (z_KK a).1 = ci) : q_pJ ci f M a v = some (q_sJ M a f v) := by unfold q_pJ; rw [if_pos (z_isb h ha hk)]
theorem z_pZ {M : q_Mem} {ci f a : Nat} {v : Int32} (h : z_Lay M) (ha : a < 131) (hk : (z_KK a).1 = ci) : q_pZ ci f M a v = if v = 0 ∨ v = 1 then some (q_sI M a f v) else none := by
  unfold q_pZ
  by_cases hv : v = 0 ∨ v = 1
  · rw [if_pos ⟨z_isb h ha hk, hv⟩, if_pos hv]
  · rw [if_neg (fun z => hv z.2), if_neg hv]
theorem z_ob {α : Type} {M : q_Mem} {ci a : Nat} {r : Option α} (h : z_Lay M) (ha : a < 131) (hk : (z_KK a).1 = ci) : q_ob ci M a r = r := by unfold q_ob; rw [if_pos (z_isb h ha hk)]
theorem z_ln {M : q_Mem} {a n : Nat} (h : z_Lay M) (ha : a < 131) (h1 : 100 ≤ (z_KK a).1) (h2 : (z_KK a).1 ≤ 103) (hn : (z_KK a).2 = n) : q_ln M a = some (nI n) := by
  unfold q_ln; rw [h.1, h.2.1 a ha, if_pos ⟨ha, h1, h2⟩, hn]; rfl
theorem z_inbN {j n : Nat} (h : j < n) (hn : n < 2147483648) : q_inb (nI j) n = true := by
  simp only [q_inb, Bool.and_eq_true, decide_eq_true_eq]
  exact ⟨nI_pos (by omega), by rw [nI_clamp (by omega)]; exact h⟩
theorem z_lI {M : q_Mem} {a j n : Nat} (h : z_Lay M) (ha : a < 131) (hk : z_KK a = (100, n)) (hj : j < n) (hn : n < 2147483648) : q_lI M a (nI j) = some (q_I M a j) := by
  unfold q_lI; rw [if_pos ⟨z_isb h ha (by rw [hk]), by rw [h.2.1 a ha, hk]; exact z_inbN hj hn⟩, nI_clamp (by omega)]
theorem z_lZ {M : q_Mem} {a j n : Nat} (h : z_Lay M) (ha : a < 131) (hk : z_KK a = (102, n)) (hj : j < n) (hn : n < 2147483648) : q_lZ M a (nI j) = some (q_I M a j) := by
  unfold q_lZ; rw [if_pos ⟨z_isb h ha (by rw [hk]), by rw [h.2.1 a ha, hk]; exact z_inbN hj hn⟩, nI_clamp (by omega)]
theorem z_lJ {M : q_Mem} {a j n : Nat} (h : z_Lay M) (ha : a < 131) (hk : z_KK a = (101, n)) (hj : j < n) (hn : n < 2147483648) : q_lJ M a (nI j) = some (q_J M a j) := by
  unfold q_lJ; rw [if_pos ⟨z_isb h ha (by rw [hk]), by rw [h.2.1 a ha, hk]; exact z_inbN hj hn⟩, nI_clamp (by omega)]
theorem z_tI {M : q_Mem} {a j n : Nat} {v : Int32} (h : z_Lay M) (ha : a < 131) (hk : z_KK a = (100, n)) (hj : j < n) (hn : n < 2147483648) : q_tI M a (nI j) v = some (q_sI M a j v) := by
  unfold q_tI; rw [if_pos ⟨z_isb h ha (by rw [hk]), by rw [h.2.1 a ha, hk]; exact z_inbN hj hn⟩, nI_clamp (by omega)]
theorem z_tJ {M : q_Mem} {a j n : Nat} {v : Int64} (h : z_Lay M) (ha : a < 131) (hk : z_KK a = (101, n)) (hj : j < n) (hn : n < 2147483648) : q_tJ M a (nI j) v = some (q_sJ M a j v) := by
  unfold q_tJ; rw [if_pos ⟨z_isb h ha (by rw [hk]), by rw [h.2.1 a ha, hk]; exact z_inbN hj hn⟩, nI_clamp (by omega)]
theorem z_tZ {M : q_Mem} {a j n : Nat} {v : Int32} (h : z_Lay M) (ha : a < 131) (hk : z_KK a = (102, n)) (hj : j < n) (hn : n < 2147483648) (hv : v = 0 ∨ v = 1) : q_tZ M a (nI j) v = some (q_sI M a j v) := by
  unfold q_tZ; rw [if_pos ⟨z_isb h ha (by rw [hk]), by rw [h.2.1 a ha, hk]; exact z_inbN hj hn, hv⟩, nI_clamp (by omega)]
theorem z_lR {M : q_Mem} {a j n t : Nat} (h : z_Lay M) (ha : a < 131) (hk : z_KK a = (103, n)) (hj : j < n) (hn : n < 32) (ht : z_GG a j = some t) : q_lR M a (nI j) = some t := by
  unfold q_lR; rw [if_pos ⟨z_isb h ha (by rw [hk]), by rw [h.2.1 a ha, hk]; exact z_inbN hj (by omega)⟩, nI_clamp (by omega), h.2.2 a j ha (by omega), ht]
theorem zo_0 {M : q_Mem} (h : z_Lay M) : (∀ f, q_gI 10 f M 0 = some (q_I M 0 f)) ∧ (∀ f, q_gJ 10 f M 0 = some (q_J M 0 f)) ∧ (∀ f v, q_pI 10 f M 0 v = some (q_sI M 0 f v)) ∧ (∀ f v, q_pJ 10 f M 0 v = some (q_sJ M 0 f v)) ∧ (∀ f v, q_pZ 10 f M 0 v = if v = 0 ∨ v = 1 then some (q_sI M 0 f v) else none) ∧ q_gR 10 0 M 0 = some 1 ∧ q_gR 10 1 M 0 = some 26 ∧ q_gR 10 2 M 0 = some 77 ∧ q_gR 10 3 M 0 = some 78 ∧ q_gR 10 4 M 0 = some 80 ∧ q_gR 10 5 M 0 = some 81 ∧ q_gR 10 6 M 0 = some 87 ∧ q_gR 10 7 M 0 = some 88 ∧ q_gR 10 8 M 0 = some 95 ∧ q_gR 10 9 M 0 = some 101 ∧ q_gR 10 10 M 0 = some 107 := ⟨fun _ => z_oI h (by decide) rfl, fun _ => z_oJ h (by decide) rfl, fun _ _ => z_pI h (by decide) rfl, fun _ _ => z_pJ h (by decide) rfl, fun _ _ => z_pZ h (by decide) rfl, z_oR h (by decide) rfl (by decide) rfl, z_oR h (by decide) rfl (by decide) rfl, z_oR h (by decide) rfl (by decide) rfl, z_oR h (by decide) rfl (by decide) rfl, z_oR h (by decide) rfl (by decide) rfl, z_oR h (by decide) rfl (by decide) rfl, z_oR h (by decide) rfl (by decide) rfl, z_oR h (by decide) rfl (by decide) rfl, z_oR h (by decide) rfl (by decide) rfl, z_oR h (by decide) rfl (by decide) rfl, z_oR h (by decide) rfl (by decide) rfl⟩
theorem zob_0 {M : q_Mem} {α : Type} {r : Option α} (h : z_Lay M) : q_ob 10 M 0 r = r := z_ob h (by decide) rfl
theorem zo_1 {M : q_Mem} (h : z_Lay M) : (∀ f, q_gI 4 f M 1 = some (q_I M 1 f)) ∧ (∀ f, q_gJ 4 f M 1 = some (q_J M 1 f)) ∧ (∀ f v, q_pI 4 f M 1 v = some (q_sI M 1 f v)) ∧ (∀ f v, q_pJ 4 f M 1 v = some (q_sJ M 1 f v)) ∧ (∀ f v, q_pZ 4 f M 1 v = if v = 0 ∨ v = 1 then some (q_sI M 1 f v) else none) ∧ q_gR 4 0 M 1 = some 2 ∧ q_gR 4 1 M 1 = some 4 ∧ q_gR 4 2 M 1 = some 6 ∧ q_gR 4 3 M 1 = some 8 ∧ q_gR 4 4 M 1 = some 10 ∧ q_gR 4 5 M 1 = some 12 ∧ q_gR 4 6 M 1 = some 14 ∧ q_gR 4 7 M 1 = some 16 ∧ q_gR 4 8 M 1 = some 18 ∧ q_gR 4 9 M 1 = some 20 ∧ q_gR 4 10 M 1 = some 22 ∧ q_gR 4 11 M 1 = some 24 ∧ q_gR 4 12 M 1 = some 25 := ⟨fun _ => z_oI h (by decide) rfl, fun _ => z_oJ h (by decide) rfl, fun _ _ => z_pI h (by decide) rfl, fun _ _ => z_pJ h (by decide) rfl, fun _ _ => z_pZ h (by decide) rfl, z_oR h (by decide) rfl (by decide) rfl, z_oR h (by decide) rfl (by decide) rfl, z_oR h (by decide) rfl (by decide) rfl, z_oR h (by decide) rfl (by decide) rfl, z_oR h (by decide) rfl (by decide) rfl, z_oR h (by decide) rfl (by decide) rfl, z_oR h (by decide) rfl (by decide) rfl, z_oR h (by decide) rfl (by decide) rfl, z_oR h (by decide) rfl (by decide) rfl, z_oR h (by decide) rfl (by decide) rfl, z_oR h (by decide) rfl (by decide) rfl, z_oR h (by decide) rfl (by decide) rfl, z_oR h (by decide) rfl (by decide) rfl⟩
theorem zob_1 {M : q_Mem} {α : Type} {r : Option α} (h : z_Lay M) : q_ob 4 M 1 r = r := z_ob h (by decide) rfl
theorem zo_2 {M : q_Mem} (h : z_Lay M) : (∀ f, q_gI 8 f M 2 = some (q_I M 2 f)) ∧ (∀ f, q_gJ 8 f M 2 = some (q_J M 2 f)) ∧ (∀ f v, q_pI 8 f M 2 v = some (q_sI M 2 f v)) ∧ (∀ f v, q_pJ 8 f M 2 v = some (q_sJ M 2 f v)) ∧ (∀ f v, q_pZ 8 f M 2 v = if v = 0 ∨ v = 1 then some (q_sI M 2 f v) else none) ∧ q_gR 8 2 M 2 = some 3 := ⟨fun _ => z_oI h (by decide) rfl, fun _ => z_oJ h (by decide) rfl, fun _ _ => z_pI h (by decide) rfl, fun _ _ => z_pJ h (by decide) rfl, fun _ _ => z_pZ h (by decide) rfl, z_oR h (by decide) rfl (by decide) rfl⟩
theorem zob_2 {M : q_Mem} {α : Type} {r : Option α} (h : z_Lay M) : q_ob 8 M 2 r = r := z_ob h (by decide) rfl
theorem za_3 {M : q_Mem} (h : z_Lay M) : q_ln M 3 = some (nI 80) ∧ (∀ j, j < 80 → q_lI M 3 (nI j) = some (q_I M 3 j)) ∧ (∀ j v, j < 80 → q_tI M 3 (nI j) v = some (q_sI M 3 j v)) := ⟨z_ln h (by decide) (by decide) (by decide) rfl, fun _ hj => z_lI h (by decide) rfl hj (by decide), fun _ _ hj => z_tI h (by decide) rfl hj (by decide)⟩
theorem zo_4 {M : q_Mem} (h : z_Lay M) : (∀ f, q_gI 8 f M 4 = some (q_I M 4 f)) ∧ (∀ f, q_gJ 8 f M 4 = some (q_J M 4 f)) ∧ (∀ f v, q_pI 8 f M 4 v = some (q_sI M 4 f v)) ∧ (∀ f v, q_pJ 8 f M 4 v = some (q_sJ M 4 f v)) ∧ (∀ f v, q_pZ 8 f M 4 v = if v = 0 ∨ v = 1 then some (q_sI M 4 f v) else none) ∧ q_gR 8 2 M 4 = some 5 := ⟨fun _ => z_oI h (by decide) rfl, fun _ => z_oJ h (by decide) rfl, fun _ _ => z_pI h (by decide) rfl, fun _ _ => z_pJ h (by decide) rfl, fun _ _ => z_pZ h (by decide) rfl, z_oR h (by decide) rfl (by decide) rfl⟩
theorem zob_4 {M : q_Mem} {α : Type} {r : Option α} (h : z_Lay M) : q_ob 8 M 4 r = r := z_ob h (by decide) rfl
theorem za_5 {M : q_Mem} (h : z_Lay M) : q_ln M 5 = some (nI 1200) ∧ (∀ j, j < 1200 → q_lI M 5 (nI j) = some (q_I M 5 j)) ∧ (∀ j v, j < 1200 → q_tI M 5 (nI j) v = some (q_sI M 5 j v)) := ⟨z_ln h (by decide) (by decide) (by decide) rfl, fun _ hj => z_lI h (by decide) rfl hj (by decide), fun _ _ hj => z_tI h (by decide) rfl hj (by decide)⟩
theorem zo_6 {M : q_Mem} (h : z_Lay M) : (∀ f, q_gI 8 f M 6 = some (q_I M 6 f)) ∧ (∀ f, q_gJ 8 f M 6 = some (q_J M 6 f)) ∧ (∀ f v, q_pI 8 f M 6 v = some (q_sI M 6 f v)) ∧ (∀ f v, q_pJ 8 f M 6 v = some (q_sJ M 6 f v)) ∧ (∀ f v, q_pZ 8 f M 6 v = if v = 0 ∨ v = 1 then some (q_sI M 6 f v) else none) ∧ q_gR 8 2 M 6 = some 7 := ⟨fun _ => z_oI h (by decide) rfl, fun _ => z_oJ h (by decide) rfl, fun _ _ => z_pI h (by decide) rfl, fun _ _ => z_pJ h (by decide) rfl, fun _ _ => z_pZ h (by decide) rfl, z_oR h (by decide) rfl (by decide) rfl⟩
theorem zob_6 {M : q_Mem} {α : Type} {r : Option α} (h : z_Lay M) : q_ob 8 M 6 r = r := z_ob h (by decide) rfl
theorem za_7 {M : q_Mem} (h : z_Lay M) : q_ln M 7 = some (nI 1400) ∧ (∀ j, j < 1400 → q_lI M 7 (nI j) = some (q_I M 7 j)) ∧ (∀ j v, j < 1400 → q_tI M 7 (nI j) v = some (q_sI M 7 j v)) := ⟨z_ln h (by decide) (by decide) (by decide) rfl, fun _ hj => z_lI h (by decide) rfl hj (by decide), fun _ _ hj => z_tI h (by decide) rfl hj (by decide)⟩
theorem zo_8 {M : q_Mem} (h : z_Lay M) : (∀ f, q_gI 8 f M 8 = some (q_I M 8 f)) ∧ (∀ f, q_gJ 8 f M 8 = some (q_J M 8 f)) ∧ (∀ f v, q_pI 8 f M 8 v = some (q_sI M 8 f v)) ∧ (∀ f v, q_pJ 8 f M 8 v = some (q_sJ M 8 f v)) ∧ (∀ f v, q_pZ 8 f M 8 v = if v = 0 ∨ v = 1 then some (q_sI M 8 f v) else none) ∧ q_gR 8 2 M 8 = some 9 := ⟨fun _ => z_oI h (by decide) rfl, fun _ => z_oJ h (by decide) rfl, fun _ _ => z_pI h (by decide) rfl, fun _ _ => z_pJ h (by decide) rfl, fun _ _ => z_pZ h (by decide) rfl, z_oR h (by decide) rfl (by decide) rfl⟩
theorem zob_8 {M : q_Mem} {α : Type} {r : Option α} (h : z_Lay M) : q_ob 8 M 8 r = r := z_ob h (by decide) rfl
theorem za_9 {M : q_Mem} (h : z_Lay M) : q_ln M 9 = some (nI 120) ∧ (∀ j, j < 120 → q_lI M 9 (nI j) = some (q_I M 9 j)) ∧ (∀ j v, j < 120 → q_tI M 9 (nI j) v = some (q_sI M 9 j v)) := ⟨z_ln h (by decide) (by decide) (by decide) rfl, fun _ hj => z_lI h (by decide) rfl hj (by decide), fun _ _ hj => z_tI h (by decide) rfl hj (by decide)⟩
theorem zo_10 {M : q_Mem} (h : z_Lay M) : (∀ f, q_gI 8 f M 10 = some (q_I M 10 f)) ∧ (∀ f, q_gJ 8 f M 10 = some (q_J M 10 f)) ∧ (∀ f v, q_pI 8 f M 10 v = some (q_sI M 10 f v)) ∧ (∀ f v, q_pJ 8 f M 10 v = some (q_sJ M 10 f v)) ∧ (∀ f v, q_pZ 8 f M 10 v = if v = 0 ∨ v = 1 then some (q_sI M 10 f v) else none) ∧ q_gR 8 2 M 10 = some 11 := ⟨fun _ => z_oI h (by decide) rfl, fun _ => z_oJ h (by decide) rfl, fun _ _ => z_pI h (by decide) rfl, fun _ _ => z_pJ h (by decide) rfl, fun _ _ => z_pZ h (by decide) rfl, z_oR h (by decide) rfl (by decide) rfl⟩
theorem zob_10 {M : q_Mem} {α : Type} {r : Option α} (h : z_Lay M) : q_ob 8 M 10 r = r := z_ob h (by decide) rfl
theorem za_11 {M : q_Mem} (h : z_Lay M) : q_ln M 11 = some (nI 500) ∧ (∀ j, j < 500 → q_lI M 11 (nI j) = some (q_I M 11 j)) ∧ (∀ j v, j < 500 → q_tI M 11 (nI j) v = some (q_sI M 11 j v)) := ⟨z_ln h (by decide) (by decide) (by decide) rfl, fun _ hj => z_lI h (by decide) rfl hj (by decide), fun _ _ hj => z_tI h (by decide) rfl hj (by decide)⟩
theorem zo_12 {M : q_Mem} (h : z_Lay M) : (∀ f, q_gI 8 f M 12 = some (q_I M 12 f)) ∧ (∀ f, q_gJ 8 f M 12 = some (q_J M 12 f)) ∧ (∀ f v, q_pI 8 f M 12 v = some (q_sI M 12 f v)) ∧ (∀ f v, q_pJ 8 f M 12 v = some (q_sJ M 12 f v)) ∧ (∀ f v, q_pZ 8 f M 12 v = if v = 0 ∨ v = 1 then some (q_sI M 12 f v) else none) ∧ q_gR 8 2 M 12 = some 13 := ⟨fun _ => z_oI h (by decide) rfl, fun _ => z_oJ h (by decide) rfl, fun _ _ => z_pI h (by decide) rfl, fun _ _ => z_pJ h (by decide) rfl, fun _ _ => z_pZ h (by decide) rfl, z_oR h (by decide) rfl (by decide) rfl⟩
theorem zob_12 {M : q_Mem} {α : Type} {r : Option α} (h : z_Lay M) : q_ob 8 M 12 r = r := z_ob h (by decide) rfl
theorem za_13 {M : q_Mem} (h : z_Lay M) : q_ln M 13 = some (nI 366) ∧ (∀ j, j < 366 → q_lI M 13 (nI j) = some (q_I M 13 j)) ∧ (∀ j v, j < 366 → q_tI M 13 (nI j) v = some (q_sI M 13 j v)) := ⟨z_ln h (by decide) (by decide) (by decide) rfl, fun _ hj => z_lI h (by decide) rfl hj (by decide), fun _ _ hj => z_tI h (by decide) rfl hj (by decide)⟩
theorem zo_14 {M : q_Mem} (h : z_Lay M) : (∀ f, q_gI 8 f M 14 = some (q_I M 14 f)) ∧ (∀ f, q_gJ 8 f M 14 = some (q_J M 14 f)) ∧ (∀ f v, q_pI 8 f M 14 v = some (q_sI M 14 f v)) ∧ (∀ f v, q_pJ 8 f M 14 v = some (q_sJ M 14 f v)) ∧ (∀ f v, q_pZ 8 f M 14 v = if v = 0 ∨ v = 1 then some (q_sI M 14 f v) else none) ∧ q_gR 8 2 M 14 = some 15 := ⟨fun _ => z_oI h (by decide) rfl, fun _ => z_oJ h (by decide) rfl, fun _ _ => z_pI h (by decide) rfl, fun _ _ => z_pJ h (by decide) rfl, fun _ _ => z_pZ h (by decide) rfl, z_oR h (by decide) rfl (by decide) rfl⟩
theorem zob_14 {M : q_Mem} {α : Type} {r : Option α} (h : z_Lay M) : q_ob 8 M 14 r = r := z_ob h (by decide) rfl
theorem za_15 {M : q_Mem} (h : z_Lay M) : q_ln M 15 = some (nI 840) ∧ (∀ j, j < 840 → q_lI M 15 (nI j) = some (q_I M 15 j)) ∧ (∀ j v, j < 840 → q_tI M 15 (nI j) v = some (q_sI M 15 j v)) := ⟨z_ln h (by decide) (by decide) (by decide) rfl, fun _ hj => z_lI h (by decide) rfl hj (by decide), fun _ _ hj => z_tI h (by decide) rfl hj (by decide)⟩
theorem zo_16 {M : q_Mem} (h : z_Lay M) : (∀ f, q_gI 8 f M 16 = some (q_I M 16 f)) ∧ (∀ f, q_gJ 8 f M 16 = some (q_J M 16 f)) ∧ (∀ f v, q_pI 8 f M 16 v = some (q_sI M 16 f v)) ∧ (∀ f v, q_pJ 8 f M 16 v = some (q_sJ M 16 f v)) ∧ (∀ f v, q_pZ 8 f M 16 v = if v = 0 ∨ v = 1 then some (q_sI M 16 f v) else none) ∧ q_gR 8 2 M 16 = some 17 := ⟨fun _ => z_oI h (by decide) rfl, fun _ => z_oJ h (by decide) rfl, fun _ _ => z_pI h (by decide) rfl, fun _ _ => z_pJ h (by decide) rfl, fun _ _ => z_pZ h (by decide) rfl, z_oR h (by decide) rfl (by decide) rfl⟩
theorem zob_16 {M : q_Mem} {α : Type} {r : Option α} (h : z_Lay M) : q_ob 8 M 16 r = r := z_ob h (by decide) rfl
theorem za_17 {M : q_Mem} (h : z_Lay M) : q_ln M 17 = some (nI 30) ∧ (∀ j, j < 30 → q_lI M 17 (nI j) = some (q_I M 17 j)) ∧ (∀ j v, j < 30 → q_tI M 17 (nI j) v = some (q_sI M 17 j v)) := ⟨z_ln h (by decide) (by decide) (by decide) rfl, fun _ hj => z_lI h (by decide) rfl hj (by decide), fun _ _ hj => z_tI h (by decide) rfl hj (by decide)⟩
theorem zo_18 {M : q_Mem} (h : z_Lay M) : (∀ f, q_gI 8 f M 18 = some (q_I M 18 f)) ∧ (∀ f, q_gJ 8 f M 18 = some (q_J M 18 f)) ∧ (∀ f v, q_pI 8 f M 18 v = some (q_sI M 18 f v)) ∧ (∀ f v, q_pJ 8 f M 18 v = some (q_sJ M 18 f v)) ∧ (∀ f v, q_pZ 8 f M 18 v = if v = 0 ∨ v = 1 then some (q_sI M 18 f v) else none) ∧ q_gR 8 2 M 18 = some 19 := ⟨fun _ => z_oI h (by decide) rfl, fun _ => z_oJ h (by decide) rfl, fun _ _ => z_pI h (by decide) rfl, fun _ _ => z_pJ h (by decide) rfl, fun _ _ => z_pZ h (by decide) rfl, z_oR h (by decide) rfl (by decide) rfl⟩
theorem zob_18 {M : q_Mem} {α : Type} {r : Option α} (h : z_Lay M) : q_ob 8 M 18 r = r := z_ob h (by decide) rfl
theorem za_19 {M : q_Mem} (h : z_Lay M) : q_ln M 19 = some (nI 120) ∧ (∀ j, j < 120 → q_lI M 19 (nI j) = some (q_I M 19 j)) ∧ (∀ j v, j < 120 → q_tI M 19 (nI j) v = some (q_sI M 19 j v)) := ⟨z_ln h (by decide) (by decide) (by decide) rfl, fun _ hj => z_lI h (by decide) rfl hj (by decide), fun _ _ hj => z_tI h (by decide) rfl hj (by decide)⟩
theorem zo_20 {M : q_Mem} (h : z_Lay M) : (∀ f, q_gI 8 f M 20 = some (q_I M 20 f)) ∧ (∀ f, q_gJ 8 f M 20 = some (q_J M 20 f)) ∧ (∀ f v, q_pI 8 f M 20 v = some (q_sI M 20 f v)) ∧ (∀ f v, q_pJ 8 f M 20 v = some (q_sJ M 20 f v)) ∧ (∀ f v, q_pZ 8 f M 20 v = if v = 0 ∨ v = 1 then some (q_sI M 20 f v) else none) ∧ q_gR 8 2 M 20 = some 21 := ⟨fun _ => z_oI h (by decide) rfl, fun _ => z_oJ h (by decide) rfl, fun _ _ => z_pI h (by decide) rfl, fun _ _ => z_pJ h (by decide) rfl, fun _ _ => z_pZ h (by decide) rfl, z_oR h (by decide) rfl (by decide) rfl⟩
theorem zob_20 {M : q_Mem} {α : Type} {r : Option α} (h : z_Lay M) : q_ob 8 M 20 r = r := z_ob h (by decide) rfl
theorem za_21 {M : q_Mem} (h : z_Lay M) : q_ln M 21 = some (nI 18) ∧ (∀ j, j < 18 → q_lI M 21 (nI j) = some (q_I M 21 j)) ∧ (∀ j v, j < 18 → q_tI M 21 (nI j) v = some (q_sI M 21 j v)) := ⟨z_ln h (by decide) (by decide) (by decide) rfl, fun _ hj => z_lI h (by decide) rfl hj (by decide), fun _ _ hj => z_tI h (by decide) rfl hj (by decide)⟩
theorem zo_22 {M : q_Mem} (h : z_Lay M) : (∀ f, q_gI 8 f M 22 = some (q_I M 22 f)) ∧ (∀ f, q_gJ 8 f M 22 = some (q_J M 22 f)) ∧ (∀ f v, q_pI 8 f M 22 v = some (q_sI M 22 f v)) ∧ (∀ f v, q_pJ 8 f M 22 v = some (q_sJ M 22 f v)) ∧ (∀ f v, q_pZ 8 f M 22 v = if v = 0 ∨ v = 1 then some (q_sI M 22 f v) else none) ∧ q_gR 8 2 M 22 = some 23 := ⟨fun _ => z_oI h (by decide) rfl, fun _ => z_oJ h (by decide) rfl, fun _ _ => z_pI h (by decide) rfl, fun _ _ => z_pJ h (by decide) rfl, fun _ _ => z_pZ h (by decide) rfl, z_oR h (by decide) rfl (by decide) rfl⟩
theorem zob_22 {M : q_Mem} {α : Type} {r : Option α} (h : z_Lay M) : q_ob 8 M 22 r = r := z_ob h (by decide) rfl
theorem za_23 {M : q_Mem} (h : z_Lay M) : q_ln M 23 = some (nI 18) ∧ (∀ j, j < 18 → q_lI M 23 (nI j) = some (q_I M 23 j)) ∧ (∀ j v, j < 18 → q_tI M 23 (nI j) v = some (q_sI M 23 j v)) := ⟨z_ln h (by decide) (by decide) (by decide) rfl, fun _ hj => z_lI h (by decide) rfl hj (by decide), fun _ _ hj => z_tI h (by decide) rfl hj (by decide)⟩
theorem za_24 {M : q_Mem} (h : z_Lay M) : q_ln M 24 = some (nI 4) ∧ (∀ j, j < 4 → q_lI M 24 (nI j) = some (q_I M 24 j)) ∧ (∀ j v, j < 4 → q_tI M 24 (nI j) v = some (q_sI M 24 j v)) := ⟨z_ln h (by decide) (by decide) (by decide) rfl, fun _ hj => z_lI h (by decide) rfl hj (by decide), fun _ _ hj => z_tI h (by decide) rfl hj (by decide)⟩
theorem za_25 {M : q_Mem} (h : z_Lay M) : q_ln M 25 = some (nI 52) ∧ (∀ j, j < 52 → q_lI M 25 (nI j) = some (q_I M 25 j)) ∧ (∀ j v, j < 52 → q_tI M 25 (nI j) v = some (q_sI M 25 j v)) := ⟨z_ln h (by decide) (by decide) (by decide) rfl, fun _ hj => z_lI h (by decide) rfl hj (by decide), fun _ _ hj => z_tI h (by decide) rfl hj (by decide)⟩
theorem za_26 {M : q_Mem} (h : z_Lay M) : q_ln M 26 = some (nI 2) ∧ q_lR M 26 (nI 0) = some 27 ∧ q_lR M 26 (nI 1) = some 52 := ⟨z_ln h (by decide) (by decide) (by decide) rfl, z_lR (j := 0) h (by decide) rfl (by decide) (by decide) rfl, z_lR (j := 1) h (by decide) rfl (by decide) (by decide) rfl⟩
theorem zo_27 {M : q_Mem} (h : z_Lay M) : (∀ f, q_gI 4 f M 27 = some (q_I M 27 f)) ∧ (∀ f, q_gJ 4 f M 27 = some (q_J M 27 f)) ∧ (∀ f v, q_pI 4 f M 27 v = some (q_sI M 27 f v)) ∧ (∀ f v, q_pJ 4 f M 27 v = some (q_sJ M 27 f v)) ∧ (∀ f v, q_pZ 4 f M 27 v = if v = 0 ∨ v = 1 then some (q_sI M 27 f v) else none) ∧ q_gR 4 0 M 27 = some 28 ∧ q_gR 4 1 M 27 = some 30 ∧ q_gR 4 2 M 27 = some 32 ∧ q_gR 4 3 M 27 = some 34 ∧ q_gR 4 4 M 27 = some 36 ∧ q_gR 4 5 M 27 = some 38 ∧ q_gR 4 6 M 27 = some 40 ∧ q_gR 4 7 M 27 = some 42 ∧ q_gR 4 8 M 27 = some 44 ∧ q_gR 4 9 M 27 = some 46 ∧ q_gR 4 10 M 27 = some 48 ∧ q_gR 4 11 M 27 = some 50 ∧ q_gR 4 12 M 27 = some 51 := ⟨fun _ => z_oI h (by decide) rfl, fun _ => z_oJ h (by decide) rfl, fun _ _ => z_pI h (by decide) rfl, fun _ _ => z_pJ h (by decide) rfl, fun _ _ => z_pZ h (by decide) rfl, z_oR h (by decide) rfl (by decide) rfl, z_oR h (by decide) rfl (by decide) rfl, z_oR h (by decide) rfl (by decide) rfl, z_oR h (by decide) rfl (by decide) rfl, z_oR h (by decide) rfl (by decide) rfl, z_oR h (by decide) rfl (by decide) rfl, z_oR h (by decide) rfl (by decide) rfl, z_oR h (by decide) rfl (by decide) rfl, z_oR h (by decide) rfl (by decide) rfl, z_oR h (by decide) rfl (by decide) rfl, z_oR h (by decide) rfl (by decide) rfl, z_oR h (by decide) rfl (by decide) rfl, z_oR h (by decide) rfl (by decide) rfl⟩
theorem zob_27 {M : q_Mem} {α : Type} {r : Option α} (h : z_Lay M) : q_ob 4 M 27 r = r := z_ob h (by decide) rfl
theorem zo_28 {M : q_Mem} (h : z_Lay M) : (∀ f, q_gI 8 f M 28 = some (q_I M 28 f)) ∧ (∀ f, q_gJ 8 f M 28 = some (q_J M 28 f)) ∧ (∀ f v, q_pI 8 f M 28 v = some (q_sI M 28 f v)) ∧ (∀ f v, q_pJ 8 f M 28 v = some (q_sJ M 28 f v)) ∧ (∀ f v, q_pZ 8 f M 28 v = if v = 0 ∨ v = 1 then some (q_sI M 28 f v) else none) ∧ q_gR 8 2 M 28 = some 29 := ⟨fun _ => z_oI h (by decide) rfl, fun _ => z_oJ h (by decide) rfl, fun _ _ => z_pI h (by decide) rfl, fun _ _ => z_pJ h (by decide) rfl, fun _ _ => z_pZ h (by decide) rfl, z_oR h (by decide) rfl (by decide) rfl⟩
theorem zob_28 {M : q_Mem} {α : Type} {r : Option α} (h : z_Lay M) : q_ob 8 M 28 r = r := z_ob h (by decide) rfl
theorem za_29 {M : q_Mem} (h : z_Lay M) : q_ln M 29 = some (nI 80) ∧ (∀ j, j < 80 → q_lI M 29 (nI j) = some (q_I M 29 j)) ∧ (∀ j v, j < 80 → q_tI M 29 (nI j) v = some (q_sI M 29 j v)) := ⟨z_ln h (by decide) (by decide) (by decide) rfl, fun _ hj => z_lI h (by decide) rfl hj (by decide), fun _ _ hj => z_tI h (by decide) rfl hj (by decide)⟩
theorem zo_30 {M : q_Mem} (h : z_Lay M) : (∀ f, q_gI 8 f M 30 = some (q_I M 30 f)) ∧ (∀ f, q_gJ 8 f M 30 = some (q_J M 30 f)) ∧ (∀ f v, q_pI 8 f M 30 v = some (q_sI M 30 f v)) ∧ (∀ f v, q_pJ 8 f M 30 v = some (q_sJ M 30 f v)) ∧ (∀ f v, q_pZ 8 f M 30 v = if v = 0 ∨ v = 1 then some (q_sI M 30 f v) else none) ∧ q_gR 8 2 M 30 = some 31 := ⟨fun _ => z_oI h (by decide) rfl, fun _ => z_oJ h (by decide) rfl, fun _ _ => z_pI h (by decide) rfl, fun _ _ => z_pJ h (by decide) rfl, fun _ _ => z_pZ h (by decide) rfl, z_oR h (by decide) rfl (by decide) rfl⟩
theorem zob_30 {M : q_Mem} {α : Type} {r : Option α} (h : z_Lay M) : q_ob 8 M 30 r = r := z_ob h (by decide) rfl
theorem za_31 {M : q_Mem} (h : z_Lay M) : q_ln M 31 = some (nI 1200) ∧ (∀ j, j < 1200 → q_lI M 31 (nI j) = some (q_I M 31 j)) ∧ (∀ j v, j < 1200 → q_tI M 31 (nI j) v = some (q_sI M 31 j v)) := ⟨z_ln h (by decide) (by decide) (by decide) rfl, fun _ hj => z_lI h (by decide) rfl hj (by decide), fun _ _ hj => z_tI h (by decide) rfl hj (by decide)⟩
theorem zo_32 {M : q_Mem} (h : z_Lay M) : (∀ f, q_gI 8 f M 32 = some (q_I M 32 f)) ∧ (∀ f, q_gJ 8 f M 32 = some (q_J M 32 f)) ∧ (∀ f v, q_pI 8 f M 32 v = some (q_sI M 32 f v)) ∧ (∀ f v, q_pJ 8 f M 32 v = some (q_sJ M 32 f v)) ∧ (∀ f v, q_pZ 8 f M 32 v = if v = 0 ∨ v = 1 then some (q_sI M 32 f v) else none) ∧ q_gR 8 2 M 32 = some 33 := ⟨fun _ => z_oI h (by decide) rfl, fun _ => z_oJ h (by decide) rfl, fun _ _ => z_pI h (by decide) rfl, fun _ _ => z_pJ h (by decide) rfl, fun _ _ => z_pZ h (by decide) rfl, z_oR h (by decide) rfl (by decide) rfl⟩
theorem zob_32 {M : q_Mem} {α : Type} {r : Option α} (h : z_Lay M) : q_ob 8 M 32 r = r := z_ob h (by decide) rfl
theorem za_33 {M : q_Mem} (h : z_Lay M) : q_ln M 33 = some (nI 1400) ∧ (∀ j, j < 1400 → q_lI M 33 (nI j) = some (q_I M 33 j)) ∧ (∀ j v, j < 1400 → q_tI M 33 (nI j) v = some (q_sI M 33 j v)) := ⟨z_ln h (by decide) (by decide) (by decide) rfl, fun _ hj => z_lI h (by decide) rfl hj (by decide), fun _ _ hj => z_tI h (by decide) rfl hj (by decide)⟩
theorem zo_34 {M : q_Mem} (h : z_Lay M) : (∀ f, q_gI 8 f M 34 = some (q_I M 34 f)) ∧ (∀ f, q_gJ 8 f M 34 = some (q_J M 34 f)) ∧ (∀ f v, q_pI 8 f M 34 v = some (q_sI M 34 f v)) ∧ (∀ f v, q_pJ 8 f M 34 v = some (q_sJ M 34 f v)) ∧ (∀ f v, q_pZ 8 f M 34 v = if v = 0 ∨ v = 1 then some (q_sI M 34 f v) else none) ∧ q_gR 8 2 M 34 = some 35 := ⟨fun _ => z_oI h (by decide) rfl, fun _ => z_oJ h (by decide) rfl, fun _ _ => z_pI h (by decide) rfl, fun _ _ => z_pJ h (by decide) rfl, fun _ _ => z_pZ h (by decide) rfl, z_oR h (by decide) rfl (by decide) rfl⟩
theorem zob_34 {M : q_Mem} {α : Type} {r : Option α} (h : z_Lay M) : q_ob 8 M 34 r = r := z_ob h (by decide) rfl
theorem za_35 {M : q_Mem} (h : z_Lay M) : q_ln M 35 = some (nI 120) ∧ (∀ j, j < 120 → q_lI M 35 (nI j) = some (q_I M 35 j)) ∧ (∀ j v, j < 120 → q_tI M 35 (nI j) v = some (q_sI M 35 j v)) := ⟨z_ln h (by decide) (by decide) (by decide) rfl, fun _ hj => z_lI h (by decide) rfl hj (by decide), fun _ _ hj => z_tI h (by decide) rfl hj (by decide)⟩
theorem zo_36 {M : q_Mem} (h : z_Lay M) : (∀ f, q_gI 8 f M 36 = some (q_I M 36 f)) ∧ (∀ f, q_gJ 8 f M 36 = some (q_J M 36 f)) ∧ (∀ f v, q_pI 8 f M 36 v = some (q_sI M 36 f v)) ∧ (∀ f v, q_pJ 8 f M 36 v = some (q_sJ M 36 f v)) ∧ (∀ f v, q_pZ 8 f M 36 v = if v = 0 ∨ v = 1 then some (q_sI M 36 f v) else none) ∧ q_gR 8 2 M 36 = some 37 := ⟨fun _ => z_oI h (by decide) rfl, fun _ => z_oJ h (by decide) rfl, fun _ _ => z_pI h (by decide) rfl, fun _ _ => z_pJ h (by decide) rfl, fun _ _ => z_pZ h (by decide) rfl, z_oR h (by decide) rfl (by decide) rfl⟩
theorem zob_36 {M : q_Mem} {α : Type} {r : Option α} (h : z_Lay M) : q_ob 8 M 36 r = r := z_ob h (by decide) rfl
theorem za_37 {M : q_Mem} (h : z_Lay M) : q_ln M 37 = some (nI 500) ∧ (∀ j, j < 500 → q_lI M 37 (nI j) = some (q_I M 37 j)) ∧ (∀ j v, j < 500 → q_tI M 37 (nI j) v = some (q_sI M 37 j v)) := ⟨z_ln h (by decide) (by decide) (by decide) rfl, fun _ hj => z_lI h (by decide) rfl hj (by decide), fun _ _ hj => z_tI h (by decide) rfl hj (by decide)⟩
theorem zo_38 {M : q_Mem} (h : z_Lay M) : (∀ f, q_gI 8 f M 38 = some (q_I M 38 f)) ∧ (∀ f, q_gJ 8 f M 38 = some (q_J M 38 f)) ∧ (∀ f v, q_pI 8 f M 38 v = some (q_sI M 38 f v)) ∧ (∀ f v, q_pJ 8 f M 38 v = some (q_sJ M 38 f v)) ∧ (∀ f v, q_pZ 8 f M 38 v = if v = 0 ∨ v = 1 then some (q_sI M 38 f v) else none) ∧ q_gR 8 2 M 38 = some 39 := ⟨fun _ => z_oI h (by decide) rfl, fun _ => z_oJ h (by decide) rfl, fun _ _ => z_pI h (by decide) rfl, fun _ _ => z_pJ h (by decide) rfl, fun _ _ => z_pZ h (by decide) rfl, z_oR h (by decide) rfl (by decide) rfl⟩
theorem zob_38 {M : q_Mem} {α : Type} {r : Option α} (h : z_Lay M) : q_ob 8 M 38 r = r := z_ob h (by decide) rfl
theorem za_39 {M : q_Mem} (h : z_Lay M) : q_ln M 39 = some (nI 366) ∧ (∀ j, j < 366 → q_lI M 39 (nI j) = some (q_I M 39 j)) ∧ (∀ j v, j < 366 → q_tI M 39 (nI j) v = some (q_sI M 39 j v)) := ⟨z_ln h (by decide) (by decide) (by decide) rfl, fun _ hj => z_lI h (by decide) rfl hj (by decide), fun _ _ hj => z_tI h (by decide) rfl hj (by decide)⟩
theorem zo_40 {M : q_Mem} (h : z_Lay M) : (∀ f, q_gI 8 f M 40 = some (q_I M 40 f)) ∧ (∀ f, q_gJ 8 f M 40 = some (q_J M 40 f)) ∧ (∀ f v, q_pI 8 f M 40 v = some (q_sI M 40 f v)) ∧ (∀ f v, q_pJ 8 f M 40 v = some (q_sJ M 40 f v)) ∧ (∀ f v, q_pZ 8 f M 40 v = if v = 0 ∨ v = 1 then some (q_sI M 40 f v) else none) ∧ q_gR 8 2 M 40 = some 41 := ⟨fun _ => z_oI h (by decide) rfl, fun _ => z_oJ h (by decide) rfl, fun _ _ => z_pI h (by decide) rfl, fun _ _ => z_pJ h (by decide) rfl, fun _ _ => z_pZ h (by decide) rfl, z_oR h (by decide) rfl (by decide) rfl⟩
theorem zob_40 {M : q_Mem} {α : Type} {r : Option α} (h : z_Lay M) : q_ob 8 M 40 r = r := z_ob h (by decide) rfl
theorem za_41 {M : q_Mem} (h : z_Lay M) : q_ln M 41 = some (nI 840) ∧ (∀ j, j < 840 → q_lI M 41 (nI j) = some (q_I M 41 j)) ∧ (∀ j v, j < 840 → q_tI M 41 (nI j) v = some (q_sI M 41 j v)) := ⟨z_ln h (by decide) (by decide) (by decide) rfl, fun _ hj => z_lI h (by decide) rfl hj (by decide), fun _ _ hj => z_tI h (by decide) rfl hj (by decide)⟩
theorem zo_42 {M : q_Mem} (h : z_Lay M) : (∀ f, q_gI 8 f M 42 = some (q_I M 42 f)) ∧ (∀ f, q_gJ 8 f M 42 = some (q_J M 42 f)) ∧ (∀ f v, q_pI 8 f M 42 v = some (q_sI M 42 f v)) ∧ (∀ f v, q_pJ 8 f M 42 v = some (q_sJ M 42 f v)) ∧ (∀ f v, q_pZ 8 f M 42 v = if v = 0 ∨ v = 1 then some (q_sI M 42 f v) else none) ∧ q_gR 8 2 M 42 = some 43 := ⟨fun _ => z_oI h (by decide) rfl, fun _ => z_oJ h (by decide) rfl, fun _ _ => z_pI h (by decide) rfl, fun _ _ => z_pJ h (by decide) rfl, fun _ _ => z_pZ h (by decide) rfl, z_oR h (by decide) rfl (by decide) rfl⟩
theorem zob_42 {M : q_Mem} {α : Type} {r : Option α} (h : z_Lay M) : q_ob 8 M 42 r = r := z_ob h (by decide) rfl
theorem za_43 {M : q_Mem} (h : z_Lay M) : q_ln M 43 = some (nI 30) ∧ (∀ j, j < 30 → q_lI M 43 (nI j) = some (q_I M 43 j)) ∧ (∀ j v, j < 30 → q_tI M 43 (nI j) v = some (q_sI M 43 j v)) := ⟨z_ln h (by decide) (by decide) (by decide) rfl, fun _ hj => z_lI h (by decide) rfl hj (by decide), fun _ _ hj => z_tI h (by decide) rfl hj (by decide)⟩
theorem zo_44 {M : q_Mem} (h : z_Lay M) : (∀ f, q_gI 8 f M 44 = some (q_I M 44 f)) ∧ (∀ f, q_gJ 8 f M 44 = some (q_J M 44 f)) ∧ (∀ f v, q_pI 8 f M 44 v = some (q_sI M 44 f v)) ∧ (∀ f v, q_pJ 8 f M 44 v = some (q_sJ M 44 f v)) ∧ (∀ f v, q_pZ 8 f M 44 v = if v = 0 ∨ v = 1 then some (q_sI M 44 f v) else none) ∧ q_gR 8 2 M 44 = some 45 := ⟨fun _ => z_oI h (by decide) rfl, fun _ => z_oJ h (by decide) rfl, fun _ _ => z_pI h (by decide) rfl, fun _ _ => z_pJ h (by decide) rfl, fun _ _ => z_pZ h (by decide) rfl, z_oR h (by decide) rfl (by decide) rfl⟩
theorem zob_44 {M : q_Mem} {α : Type} {r : Option α} (h : z_Lay M) : q_ob 8 M 44 r = r := z_ob h (by decide) rfl
theorem za_45 {M : q_Mem} (h : z_Lay M) : q_ln M 45 = some (nI 120) ∧ (∀ j, j < 120 → q_lI M 45 (nI j) = some (q_I M 45 j)) ∧ (∀ j v, j < 120 → q_tI M 45 (nI j) v = some (q_sI M 45 j v)) := ⟨z_ln h (by decide) (by decide) (by decide) rfl, fun _ hj => z_lI h (by decide) rfl hj (by decide), fun _ _ hj => z_tI h (by decide) rfl hj (by decide)⟩
theorem zo_46 {M : q_Mem} (h : z_Lay M) : (∀ f, q_gI 8 f M 46 = some (q_I M 46 f)) ∧ (∀ f, q_gJ 8 f M 46 = some (q_J M 46 f)) ∧ (∀ f v, q_pI 8 f M 46 v = some (q_sI M 46 f v)) ∧ (∀ f v, q_pJ 8 f M 46 v = some (q_sJ M 46 f v)) ∧ (∀ f v, q_pZ 8 f M 46 v = if v = 0 ∨ v = 1 then some (q_sI M 46 f v) else none) ∧ q_gR 8 2 M 46 = some 47 := ⟨fun _ => z_oI h (by decide) rfl, fun _ => z_oJ h (by decide) rfl, fun _ _ => z_pI h (by decide) rfl, fun _ _ => z_pJ h (by decide) rfl, fun _ _ => z_pZ h (by decide) rfl, z_oR h (by decide) rfl (by decide) rfl⟩
theorem zob_46 {M : q_Mem} {α : Type} {r : Option α} (h : z_Lay M) : q_ob 8 M 46 r = r := z_ob h (by decide) rfl
theorem za_47 {M : q_Mem} (h : z_Lay M) : q_ln M 47 = some (nI 18) ∧ (∀ j, j < 18 → q_lI M 47 (nI j) = some (q_I M 47 j)) ∧ (∀ j v, j < 18 → q_tI M 47 (nI j) v = some (q_sI M 47 j v)) := ⟨z_ln h (by decide) (by decide) (by decide) rfl, fun _ hj => z_lI h (by decide) rfl hj (by decide), fun _ _ hj => z_tI h (by decide) rfl hj (by decide)⟩
theorem zo_48 {M : q_Mem} (h : z_Lay M) : (∀ f, q_gI 8 f M 48 = some (q_I M 48 f)) ∧ (∀ f, q_gJ 8 f M 48 = some (q_J M 48 f)) ∧ (∀ f v, q_pI 8 f M 48 v = some (q_sI M 48 f v)) ∧ (∀ f v, q_pJ 8 f M 48 v = some (q_sJ M 48 f v)) ∧ (∀ f v, q_pZ 8 f M 48 v = if v = 0 ∨ v = 1 then some (q_sI M 48 f v) else none) ∧ q_gR 8 2 M 48 = some 49 := ⟨fun _ => z_oI h (by decide) rfl, fun _ => z_oJ h (by decide) rfl, fun _ _ => z_pI h (by decide) rfl, fun _ _ => z_pJ h (by decide) rfl, fun _ _ => z_pZ h (by decide) rfl, z_oR h (by decide) rfl (by decide) rfl⟩
theorem zob_48 {M : q_Mem} {α : Type} {r : Option α} (h : z_Lay M) : q_ob 8 M 48 r = r := z_ob h (by decide) rfl
theorem za_49 {M : q_Mem} (h : z_Lay M) : q_ln M 49 = some (nI 18) ∧ (∀ j, j < 18 → q_lI M 49 (nI j) = some (q_I M 49 j)) ∧ (∀ j v, j < 18 → q_tI M 49 (nI j) v = some (q_sI M 49 j v)) := ⟨z_ln h (by decide) (by decide) (by decide) rfl, fun _ hj => z_lI h (by decide) rfl hj (by decide), fun _ _ hj => z_tI h (by decide) rfl hj (by decide)⟩
theorem za_50 {M : q_Mem} (h : z_Lay M) : q_ln M 50 = some (nI 4) ∧ (∀ j, j < 4 → q_lI M 50 (nI j) = some (q_I M 50 j)) ∧ (∀ j v, j < 4 → q_tI M 50 (nI j) v = some (q_sI M 50 j v)) := ⟨z_ln h (by decide) (by decide) (by decide) rfl, fun _ hj => z_lI h (by decide) rfl hj (by decide), fun _ _ hj => z_tI h (by decide) rfl hj (by decide)⟩
theorem za_51 {M : q_Mem} (h : z_Lay M) : q_ln M 51 = some (nI 52) ∧ (∀ j, j < 52 → q_lI M 51 (nI j) = some (q_I M 51 j)) ∧ (∀ j v, j < 52 → q_tI M 51 (nI j) v = some (q_sI M 51 j v)) := ⟨z_ln h (by decide) (by decide) (by decide) rfl, fun _ hj => z_lI h (by decide) rfl hj (by decide), fun _ _ hj => z_tI h (by decide) rfl hj (by decide)⟩
theorem zo_52 {M : q_Mem} (h : z_Lay M) : (∀ f, q_gI 4 f M 52 = some (q_I M 52 f)) ∧ (∀ f, q_gJ 4 f M 52 = some (q_J M 52 f)) ∧ (∀ f v, q_pI 4 f M 52 v = some (q_sI M 52 f v)) ∧ (∀ f v, q_pJ 4 f M 52 v = some (q_sJ M 52 f v)) ∧ (∀ f v, q_pZ 4 f M 52 v = if v = 0 ∨ v = 1 then some (q_sI M 52 f v) else none) ∧ q_gR 4 0 M 52 = some 53 ∧ q_gR 4 1 M 52 = some 55 ∧ q_gR 4 2 M 52 = some 57 ∧ q_gR 4 3 M 52 = some 59 ∧ q_gR 4 4 M 52 = some 61 ∧ q_gR 4 5 M 52 = some 63 ∧ q_gR 4 6 M 52 = some 65 ∧ q_gR 4 7 M 52 = some 67 ∧ q_gR 4 8 M 52 = some 69 ∧ q_gR 4 9 M 52 = some 71 ∧ q_gR 4 10 M 52 = some 73 ∧ q_gR 4 11 M 52 = some 75 ∧ q_gR 4 12 M 52 = some 76 := ⟨fun _ => z_oI h (by decide) rfl, fun _ => z_oJ h (by decide) rfl, fun _ _ => z_pI h (by decide) rfl, fun _ _ => z_pJ h (by decide) rfl, fun _ _ => z_pZ h (by decide) rfl, z_oR h (by decide) rfl (by decide) rfl, z_oR h (by decide) rfl (by decide) rfl, z_oR h (by decide) rfl (by decide) rfl, z_oR h (by decide) rfl (by decide) rfl, z_oR h (by decide) rfl (by decide) rfl, z_oR h (by decide) rfl (by decide) rfl, z_oR h (by decide) rfl (by decide) rfl, z_oR h (by decide) rfl (by decide) rfl, z_oR h (by decide) rfl (by decide) rfl, z_oR h (by decide) rfl (by decide) rfl, z_oR h (by decide) rfl (by decide) rfl, z_oR h (by decide) rfl (by decide) rfl, z_oR h (by decide) rfl (by decide) rfl⟩
theorem zob_52 {M : q_Mem} {α : Type} {r : Option α} (h : z_Lay M) : q_ob 4 M 52 r = r := z_ob h (by decide) rfl
theorem zo_53 {M : q_Mem} (h : z_Lay M) : (∀ f, q_gI 8 f M 53 = some (q_I M 53 f)) ∧ (∀ f, q_gJ 8 f M 53 = some (q_J M 53 f)) ∧ (∀ f v, q_pI 8 f M 53 v = some (q_sI M 53 f v)) ∧ (∀ f v, q_pJ 8 f M 53 v = some (q_sJ M 53 f v)) ∧ (∀ f v, q_pZ 8 f M 53 v = if v = 0 ∨ v = 1 then some (q_sI M 53 f v) else none) ∧ q_gR 8 2 M 53 = some 54 := ⟨fun _ => z_oI h (by decide) rfl, fun _ => z_oJ h (by decide) rfl, fun _ _ => z_pI h (by decide) rfl, fun _ _ => z_pJ h (by decide) rfl, fun _ _ => z_pZ h (by decide) rfl, z_oR h (by decide) rfl (by decide) rfl⟩
theorem zob_53 {M : q_Mem} {α : Type} {r : Option α} (h : z_Lay M) : q_ob 8 M 53 r = r := z_ob h (by decide) rfl
theorem za_54 {M : q_Mem} (h : z_Lay M) : q_ln M 54 = some (nI 80) ∧ (∀ j, j < 80 → q_lI M 54 (nI j) = some (q_I M 54 j)) ∧ (∀ j v, j < 80 → q_tI M 54 (nI j) v = some (q_sI M 54 j v)) := ⟨z_ln h (by decide) (by decide) (by decide) rfl, fun _ hj => z_lI h (by decide) rfl hj (by decide), fun _ _ hj => z_tI h (by decide) rfl hj (by decide)⟩
theorem zo_55 {M : q_Mem} (h : z_Lay M) : (∀ f, q_gI 8 f M 55 = some (q_I M 55 f)) ∧ (∀ f, q_gJ 8 f M 55 = some (q_J M 55 f)) ∧ (∀ f v, q_pI 8 f M 55 v = some (q_sI M 55 f v)) ∧ (∀ f v, q_pJ 8 f M 55 v = some (q_sJ M 55 f v)) ∧ (∀ f v, q_pZ 8 f M 55 v = if v = 0 ∨ v = 1 then some (q_sI M 55 f v) else none) ∧ q_gR 8 2 M 55 = some 56 := ⟨fun _ => z_oI h (by decide) rfl, fun _ => z_oJ h (by decide) rfl, fun _ _ => z_pI h (by decide) rfl, fun _ _ => z_pJ h (by decide) rfl, fun _ _ => z_pZ h (by decide) rfl, z_oR h (by decide) rfl (by decide) rfl⟩
theorem zob_55 {M : q_Mem} {α : Type} {r : Option α} (h : z_Lay M) : q_ob 8 M 55 r = r := z_ob h (by decide) rfl
theorem za_56 {M : q_Mem} (h : z_Lay M) : q_ln M 56 = some (nI 1200) ∧ (∀ j, j < 1200 → q_lI M 56 (nI j) = some (q_I M 56 j)) ∧ (∀ j v, j < 1200 → q_tI M 56 (nI j) v = some (q_sI M 56 j v)) := ⟨z_ln h (by decide) (by decide) (by decide) rfl, fun _ hj => z_lI h (by decide) rfl hj (by decide), fun _ _ hj => z_tI h (by decide) rfl hj (by decide)⟩
theorem zo_57 {M : q_Mem} (h : z_Lay M) : (∀ f, q_gI 8 f M 57 = some (q_I M 57 f)) ∧ (∀ f, q_gJ 8 f M 57 = some (q_J M 57 f)) ∧ (∀ f v, q_pI 8 f M 57 v = some (q_sI M 57 f v)) ∧ (∀ f v, q_pJ 8 f M 57 v = some (q_sJ M 57 f v)) ∧ (∀ f v, q_pZ 8 f M 57 v = if v = 0 ∨ v = 1 then some (q_sI M 57 f v) else none) ∧ q_gR 8 2 M 57 = some 58 := ⟨fun _ => z_oI h (by decide) rfl, fun _ => z_oJ h (by decide) rfl, fun _ _ => z_pI h (by decide) rfl, fun _ _ => z_pJ h (by decide) rfl, fun _ _ => z_pZ h (by decide) rfl, z_oR h (by decide) rfl (by decide) rfl⟩
theorem zob_57 {M : q_Mem} {α : Type} {r : Option α} (h : z_Lay M) : q_ob 8 M 57 r = r := z_ob h (by decide) rfl
theorem za_58 {M : q_Mem} (h : z_Lay M) : q_ln M 58 = some (nI 1400) ∧ (∀ j, j < 1400 → q_lI M 58 (nI j) = some (q_I M 58 j)) ∧ (∀ j v, j < 1400 → q_tI M 58 (nI j) v = some (q_sI M 58 j v)) := ⟨z_ln h (by decide) (by decide) (by decide) rfl, fun _ hj => z_lI h (by decide) rfl hj (by decide), fun _ _ hj => z_tI h (by decide) rfl hj (by decide)⟩
theorem zo_59 {M : q_Mem} (h : z_Lay M) : (∀ f, q_gI 8 f M 59 = some (q_I M 59 f)) ∧ (∀ f, q_gJ 8 f M 59 = some (q_J M 59 f)) ∧ (∀ f v, q_pI 8 f M 59 v = some (q_sI M 59 f v)) ∧ (∀ f v, q_pJ 8 f M 59 v = some (q_sJ M 59 f v)) ∧ (∀ f v, q_pZ 8 f M 59 v = if v = 0 ∨ v = 1 then some (q_sI M 59 f v) else none) ∧ q_gR 8 2 M 59 = some 60 := ⟨fun _ => z_oI h (by decide) rfl, fun _ => z_oJ h (by decide) rfl, fun _ _ => z_pI h (by decide) rfl, fun _ _ => z_pJ h (by decide) rfl, fun _ _ => z_pZ h (by decide) rfl, z_oR h (by decide) rfl (by decide) rfl⟩
theorem zob_59 {M : q_Mem} {α : Type} {r : Option α} (h : z_Lay M) : q_ob 8 M 59 r = r := z_ob h (by decide) rfl
theorem za_60 {M : q_Mem} (h : z_Lay M) : q_ln M 60 = some (nI 120) ∧ (∀ j, j < 120 → q_lI M 60 (nI j) = some (q_I M 60 j)) ∧ (∀ j v, j < 120 → q_tI M 60 (nI j) v = some (q_sI M 60 j v)) := ⟨z_ln h (by decide) (by decide) (by decide) rfl, fun _ hj => z_lI h (by decide) rfl hj (by decide), fun _ _ hj => z_tI h (by decide) rfl hj (by decide)⟩
theorem zo_61 {M : q_Mem} (h : z_Lay M) : (∀ f, q_gI 8 f M 61 = some (q_I M 61 f)) ∧ (∀ f, q_gJ 8 f M 61 = some (q_J M 61 f)) ∧ (∀ f v, q_pI 8 f M 61 v = some (q_sI M 61 f v)) ∧ (∀ f v, q_pJ 8 f M 61 v = some (q_sJ M 61 f v)) ∧ (∀ f v, q_pZ 8 f M 61 v = if v = 0 ∨ v = 1 then some (q_sI M 61 f v) else none) ∧ q_gR 8 2 M 61 = some 62 := ⟨fun _ => z_oI h (by decide) rfl, fun _ => z_oJ h (by decide) rfl, fun _ _ => z_pI h (by decide) rfl, fun _ _ => z_pJ h (by decide) rfl, fun _ _ => z_pZ h (by decide) rfl, z_oR h (by decide) rfl (by decide) rfl⟩
theorem zob_61 {M : q_Mem} {α : Type} {r : Option α} (h : z_Lay M) : q_ob 8 M 61 r = r := z_ob h (by decide) rfl
theorem za_62 {M : q_Mem} (h : z_Lay M) : q_ln M 62 = some (nI 500) ∧ (∀ j, j < 500 → q_lI M 62 (nI j) = some (q_I M 62 j)) ∧ (∀ j v, j < 500 → q_tI M 62 (nI j) v = some (q_sI M 62 j v)) := ⟨z_ln h (by decide) (by decide) (by decide) rfl, fun _ hj => z_lI h (by decide) rfl hj (by decide), fun _ _ hj => z_tI h (by decide) rfl hj (by decide)⟩
theorem zo_63 {M : q_Mem} (h : z_Lay M) : (∀ f, q_gI 8 f M 63 = some (q_I M 63 f)) ∧ (∀ f, q_gJ 8 f M 63 = some (q_J M 63 f)) ∧ (∀ f v, q_pI 8 f M 63 v = some (q_sI M 63 f v)) ∧ (∀ f v, q_pJ 8 f M 63 v = some (q_sJ M 63 f v)) ∧ (∀ f v, q_pZ 8 f M 63 v = if v = 0 ∨ v = 1 then some (q_sI M 63 f v) else none) ∧ q_gR 8 2 M 63 = some 64 := ⟨fun _ => z_oI h (by decide) rfl, fun _ => z_oJ h (by decide) rfl, fun _ _ => z_pI h (by decide) rfl, fun _ _ => z_pJ h (by decide) rfl, fun _ _ => z_pZ h (by decide) rfl, z_oR h (by decide) rfl (by decide) rfl⟩
theorem zob_63 {M : q_Mem} {α : Type} {r : Option α} (h : z_Lay M) : q_ob 8 M 63 r = r := z_ob h (by decide) rfl
theorem za_64 {M : q_Mem} (h : z_Lay M) : q_ln M 64 = some (nI 366) ∧ (∀ j, j < 366 → q_lI M 64 (nI j) = some (q_I M 64 j)) ∧ (∀ j v, j < 366 → q_tI M 64 (nI j) v = some (q_sI M 64 j v)) := ⟨z_ln h (by decide) (by decide) (by decide) rfl, fun _ hj => z_lI h (by decide) rfl hj (by decide), fun _ _ hj => z_tI h (by decide) rfl hj (by decide)⟩
theorem zo_65 {M : q_Mem} (h : z_Lay M) : (∀ f, q_gI 8 f M 65 = some (q_I M 65 f)) ∧ (∀ f, q_gJ 8 f M 65 = some (q_J M 65 f)) ∧ (∀ f v, q_pI 8 f M 65 v = some (q_sI M 65 f v)) ∧ (∀ f v, q_pJ 8 f M 65 v = some (q_sJ M 65 f v)) ∧ (∀ f v, q_pZ 8 f M 65 v = if v = 0 ∨ v = 1 then some (q_sI M 65 f v) else none) ∧ q_gR 8 2 M 65 = some 66 := ⟨fun _ => z_oI h (by decide) rfl, fun _ => z_oJ h (by decide) rfl, fun _ _ => z_pI h (by decide) rfl, fun _ _ => z_pJ h (by decide) rfl, fun _ _ => z_pZ h (by decide) rfl, z_oR h (by decide) rfl (by decide) rfl⟩
theorem zob_65 {M : q_Mem} {α : Type} {r : Option α} (h : z_Lay M) : q_ob 8 M 65 r = r := z_ob h (by decide) rfl
theorem za_66 {M : q_Mem} (h : z_Lay M) : q_ln M 66 = some (nI 840) ∧ (∀ j, j < 840 → q_lI M 66 (nI j) = some (q_I M 66 j)) ∧ (∀ j v, j < 840 → q_tI M 66 (nI j) v = some (q_sI M 66 j v)) := ⟨z_ln h (by decide) (by decide) (by decide) rfl, fun _ hj => z_lI h (by decide) rfl hj (by decide), fun _ _ hj => z_tI h (by decide) rfl hj (by decide)⟩
theorem zo_67 {M : q_Mem} (h : z_Lay M) : (∀ f, q_gI 8 f M 67 = some (q_I M 67 f)) ∧ (∀ f, q_gJ 8 f M 67 = some (q_J M 67 f)) ∧ (∀ f v, q_pI 8 f M 67 v = some (q_sI M 67 f v)) ∧ (∀ f v, q_pJ 8 f M 67 v = some (q_sJ M 67 f v)) ∧ (∀ f v, q_pZ 8 f M 67 v = if v = 0 ∨ v = 1 then some (q_sI M 67 f v) else none) ∧ q_gR 8 2 M 67 = some 68 := ⟨fun _ => z_oI h (by decide) rfl, fun _ => z_oJ h (by decide) rfl, fun _ _ => z_pI h (by decide) rfl, fun _ _ => z_pJ h (by decide) rfl, fun _ _ => z_pZ h (by decide) rfl, z_oR h (by decide) rfl (by decide) rfl⟩
theorem zob_67 {M : q_Mem} {α : Type} {r : Option α} (h : z_Lay M) : q_ob 8 M 67 r = r := z_ob h (by decide) rfl
theorem za_68 {M : q_Mem} (h : z_Lay M) : q_ln M 68 = some (nI 30) ∧ (∀ j, j < 30 → q_lI M 68 (nI j) = some (q_I M 68 j)) ∧ (∀ j v, j < 30 → q_tI M 68 (nI j) v = some (q_sI M 68 j v)) := ⟨z_ln h (by decide) (by decide) (by decide) rfl, fun _ hj => z_lI h (by decide) rfl hj (by decide), fun _ _ hj => z_tI h (by decide) rfl hj (by decide)⟩
theorem zo_69 {M : q_Mem} (h : z_Lay M) : (∀ f, q_gI 8 f M 69 = some (q_I M 69 f)) ∧ (∀ f, q_gJ 8 f M 69 = some (q_J M 69 f)) ∧ (∀ f v, q_pI 8 f M 69 v = some (q_sI M 69 f v)) ∧ (∀ f v, q_pJ 8 f M 69 v = some (q_sJ M 69 f v)) ∧ (∀ f v, q_pZ 8 f M 69 v = if v = 0 ∨ v = 1 then some (q_sI M 69 f v) else none) ∧ q_gR 8 2 M 69 = some 70 := ⟨fun _ => z_oI h (by decide) rfl, fun _ => z_oJ h (by decide) rfl, fun _ _ => z_pI h (by decide) rfl, fun _ _ => z_pJ h (by decide) rfl, fun _ _ => z_pZ h (by decide) rfl, z_oR h (by decide) rfl (by decide) rfl⟩
theorem zob_69 {M : q_Mem} {α : Type} {r : Option α} (h : z_Lay M) : q_ob 8 M 69 r = r := z_ob h (by decide) rfl
theorem za_70 {M : q_Mem} (h : z_Lay M) : q_ln M 70 = some (nI 120) ∧ (∀ j, j < 120 → q_lI M 70 (nI j) = some (q_I M 70 j)) ∧ (∀ j v, j < 120 → q_tI M 70 (nI j) v = some (q_sI M 70 j v)) := ⟨z_ln h (by decide) (by decide) (by decide) rfl, fun _ hj => z_lI h (by decide) rfl hj (by decide), fun _ _ hj => z_tI h (by decide) rfl hj (by decide)⟩
theorem zo_71 {M : q_Mem} (h : z_Lay M) : (∀ f, q_gI 8 f M 71 = some (q_I M 71 f)) ∧ (∀ f, q_gJ 8 f M 71 = some (q_J M 71 f)) ∧ (∀ f v, q_pI 8 f M 71 v = some (q_sI M 71 f v)) ∧ (∀ f v, q_pJ 8 f M 71 v = some (q_sJ M 71 f v)) ∧ (∀ f v, q_pZ 8 f M 71 v = if v = 0 ∨ v = 1 then some (q_sI M 71 f v) else none) ∧ q_gR 8 2 M 71 = some 72 := ⟨fun _ => z_oI h (by decide) rfl, fun _ => z_oJ h (by decide) rfl, fun _ _ => z_pI h (by decide) rfl, fun _ _ => z_pJ h (by decide) rfl, fun _ _ => z_pZ h (by decide) rfl, z_oR h (by decide) rfl (by decide) rfl⟩
theorem zob_71 {M : q_Mem} {α : Type} {r : Option α} (h : z_Lay M) : q_ob 8 M 71 r = r := z_ob h (by decide) rfl
theorem za_72 {M : q_Mem} (h : z_Lay M) : q_ln M 72 = some (nI 18) ∧ (∀ j, j < 18 → q_lI M 72 (nI j) = some (q_I M 72 j)) ∧ (∀ j v, j < 18 → q_tI M 72 (nI j) v = some (q_sI M 72 j v)) := ⟨z_ln h (by decide) (by decide) (by decide) rfl, fun _ hj => z_lI h (by decide) rfl hj (by decide), fun _ _ hj => z_tI h (by decide) rfl hj (by decide)⟩
theorem zo_73 {M : q_Mem} (h : z_Lay M) : (∀ f, q_gI 8 f M 73 = some (q_I M 73 f)) ∧ (∀ f, q_gJ 8 f M 73 = some (q_J M 73 f)) ∧ (∀ f v, q_pI 8 f M 73 v = some (q_sI M 73 f v)) ∧ (∀ f v, q_pJ 8 f M 73 v = some (q_sJ M 73 f v)) ∧ (∀ f v, q_pZ 8 f M 73 v = if v = 0 ∨ v = 1 then some (q_sI M 73 f v) else none) ∧ q_gR 8 2 M 73 = some 74 := ⟨fun _ => z_oI h (by decide) rfl, fun _ => z_oJ h (by decide) rfl, fun _ _ => z_pI h (by decide) rfl, fun _ _ => z_pJ h (by decide) rfl, fun _ _ => z_pZ h (by decide) rfl, z_oR h (by decide) rfl (by decide) rfl⟩
theorem zob_73 {M : q_Mem} {α : Type} {r : Option α} (h : z_Lay M) : q_ob 8 M 73 r = r := z_ob h (by decide) rfl
theorem za_74 {M : q_Mem} (h : z_Lay M) : q_ln M 74 = some (nI 18) ∧ (∀ j, j < 18 → q_lI M 74 (nI j) = some (q_I M 74 j)) ∧ (∀ j v, j < 18 → q_tI M 74 (nI j) v = some (q_sI M 74 j v)) := ⟨z_ln h (by decide) (by decide) (by decide) rfl, fun _ hj => z_lI h (by decide) rfl hj (by decide), fun _ _ hj => z_tI h (by decide) rfl hj (by decide)⟩
theorem za_75 {M : q_Mem} (h : z_Lay M) : q_ln M 75 = some (nI 4) ∧ (∀ j, j < 4 → q_lI M 75 (nI j) = some (q_I M 75 j)) ∧ (∀ j v, j < 4 → q_tI M 75 (nI j) v = some (q_sI M 75 j v)) := ⟨z_ln h (by decide) (by decide) (by decide) rfl, fun _ hj => z_lI h (by decide) rfl hj (by decide), fun _ _ hj => z_tI h (by decide) rfl hj (by decide)⟩
theorem za_76 {M : q_Mem} (h : z_Lay M) : q_ln M 76 = some (nI 52) ∧ (∀ j, j < 52 → q_lI M 76 (nI j) = some (q_I M 76 j)) ∧ (∀ j v, j < 52 → q_tI M 76 (nI j) v = some (q_sI M 76 j v)) := ⟨z_ln h (by decide) (by decide) (by decide) rfl, fun _ hj => z_lI h (by decide) rfl hj (by decide), fun _ _ hj => z_tI h (by decide) rfl hj (by decide)⟩
theorem za_77 {M : q_Mem} (h : z_Lay M) : q_ln M 77 = some (nI 2) ∧ (∀ j, j < 2 → q_lZ M 77 (nI j) = some (q_I M 77 j)) ∧ (∀ j v, j < 2 → (v = 0 ∨ v = 1) → q_tZ M 77 (nI j) v = some (q_sI M 77 j v)) := ⟨z_ln h (by decide) (by decide) (by decide) rfl, fun _ hj => z_lZ h (by decide) rfl hj (by decide), fun _ _ hj hv => z_tZ h (by decide) rfl hj (by decide) hv⟩
theorem zo_78 {M : q_Mem} (h : z_Lay M) : (∀ f, q_gI 5 f M 78 = some (q_I M 78 f)) ∧ (∀ f, q_gJ 5 f M 78 = some (q_J M 78 f)) ∧ (∀ f v, q_pI 5 f M 78 v = some (q_sI M 78 f v)) ∧ (∀ f v, q_pJ 5 f M 78 v = some (q_sJ M 78 f v)) ∧ (∀ f v, q_pZ 5 f M 78 v = if v = 0 ∨ v = 1 then some (q_sI M 78 f v) else none) ∧ q_gR 5 0 M 78 = some 1 ∧ q_gR 5 1 M 78 = some 6 ∧ q_gR 5 2 M 78 = some 79 := ⟨fun _ => z_oI h (by decide) rfl, fun _ => z_oJ h (by decide) rfl, fun _ _ => z_pI h (by decide) rfl, fun _ _ => z_pJ h (by decide) rfl, fun _ _ => z_pZ h (by decide) rfl, z_oR h (by decide) rfl (by decide) rfl, z_oR h (by decide) rfl (by decide) rfl, z_oR h (by decide) rfl (by decide) rfl⟩
theorem zob_78 {M : q_Mem} {α : Type} {r : Option α} (h : z_Lay M) : q_ob 5 M 78 r = r := z_ob h (by decide) rfl
theorem za_79 {M : q_Mem} (h : z_Lay M) : q_ln M 79 = some (nI 200) ∧ (∀ j, j < 200 → q_lI M 79 (nI j) = some (q_I M 79 j)) ∧ (∀ j v, j < 200 → q_tI M 79 (nI j) v = some (q_sI M 79 j v)) := ⟨z_ln h (by decide) (by decide) (by decide) rfl, fun _ hj => z_lI h (by decide) rfl hj (by decide), fun _ _ hj => z_tI h (by decide) rfl hj (by decide)⟩
theorem zo_80 {M : q_Mem} (h : z_Lay M) : (∀ f, q_gI 3 f M 80 = some (q_I M 80 f)) ∧ (∀ f, q_gJ 3 f M 80 = some (q_J M 80 f)) ∧ (∀ f v, q_pI 3 f M 80 v = some (q_sI M 80 f v)) ∧ (∀ f v, q_pJ 3 f M 80 v = some (q_sJ M 80 f v)) ∧ (∀ f v, q_pZ 3 f M 80 v = if v = 0 ∨ v = 1 then some (q_sI M 80 f v) else none) ∧ q_gR 3 0 M 80 = some 1 ∧ q_gR 3 1 M 80 = some 78 := ⟨fun _ => z_oI h (by decide) rfl, fun _ => z_oJ h (by decide) rfl, fun _ _ => z_pI h (by decide) rfl, fun _ _ => z_pJ h (by decide) rfl, fun _ _ => z_pZ h (by decide) rfl, z_oR h (by decide) rfl (by decide) rfl, z_oR h (by decide) rfl (by decide) rfl⟩
theorem zob_80 {M : q_Mem} {α : Type} {r : Option α} (h : z_Lay M) : q_ob 3 M 80 r = r := z_ob h (by decide) rfl
theorem zo_81 {M : q_Mem} (h : z_Lay M) : (∀ f, q_gI 7 f M 81 = some (q_I M 81 f)) ∧ (∀ f, q_gJ 7 f M 81 = some (q_J M 81 f)) ∧ (∀ f v, q_pI 7 f M 81 v = some (q_sI M 81 f v)) ∧ (∀ f v, q_pJ 7 f M 81 v = some (q_sJ M 81 f v)) ∧ (∀ f v, q_pZ 7 f M 81 v = if v = 0 ∨ v = 1 then some (q_sI M 81 f v) else none) ∧ q_gR 7 0 M 81 = some 82 ∧ q_gR 7 2 M 81 = some 83 ∧ q_gR 7 3 M 81 = some 84 ∧ q_gR 7 5 M 81 = some 85 ∧ q_gR 7 6 M 81 = some 86 := ⟨fun _ => z_oI h (by decide) rfl, fun _ => z_oJ h (by decide) rfl, fun _ _ => z_pI h (by decide) rfl, fun _ _ => z_pJ h (by decide) rfl, fun _ _ => z_pZ h (by decide) rfl, z_oR h (by decide) rfl (by decide) rfl, z_oR h (by decide) rfl (by decide) rfl, z_oR h (by decide) rfl (by decide) rfl, z_oR h (by decide) rfl (by decide) rfl, z_oR h (by decide) rfl (by decide) rfl⟩
theorem zob_81 {M : q_Mem} {α : Type} {r : Option α} (h : z_Lay M) : q_ob 7 M 81 r = r := z_ob h (by decide) rfl
theorem za_82 {M : q_Mem} (h : z_Lay M) : q_ln M 82 = some (nI 60) ∧ (∀ j, j < 60 → q_lI M 82 (nI j) = some (q_I M 82 j)) ∧ (∀ j v, j < 60 → q_tI M 82 (nI j) v = some (q_sI M 82 j v)) := ⟨z_ln h (by decide) (by decide) (by decide) rfl, fun _ hj => z_lI h (by decide) rfl hj (by decide), fun _ _ hj => z_tI h (by decide) rfl hj (by decide)⟩
theorem za_83 {M : q_Mem} (h : z_Lay M) : q_ln M 83 = some (nI 8) ∧ (∀ j, j < 8 → q_lJ M 83 (nI j) = some (q_J M 83 j)) ∧ (∀ j v, j < 8 → q_tJ M 83 (nI j) v = some (q_sJ M 83 j v)) := ⟨z_ln h (by decide) (by decide) (by decide) rfl, fun _ hj => z_lJ h (by decide) rfl hj (by decide), fun _ _ hj => z_tJ h (by decide) rfl hj (by decide)⟩
theorem za_84 {M : q_Mem} (h : z_Lay M) : q_ln M 84 = some (nI 60) ∧ (∀ j, j < 60 → q_lJ M 84 (nI j) = some (q_J M 84 j)) ∧ (∀ j v, j < 60 → q_tJ M 84 (nI j) v = some (q_sJ M 84 j v)) := ⟨z_ln h (by decide) (by decide) (by decide) rfl, fun _ hj => z_lJ h (by decide) rfl hj (by decide), fun _ _ hj => z_tJ h (by decide) rfl hj (by decide)⟩
theorem za_85 {M : q_Mem} (h : z_Lay M) : q_ln M 85 = some (nI 60) ∧ (∀ j, j < 60 → q_lI M 85 (nI j) = some (q_I M 85 j)) ∧ (∀ j v, j < 60 → q_tI M 85 (nI j) v = some (q_sI M 85 j v)) := ⟨z_ln h (by decide) (by decide) (by decide) rfl, fun _ hj => z_lI h (by decide) rfl hj (by decide), fun _ _ hj => z_tI h (by decide) rfl hj (by decide)⟩
theorem za_86 {M : q_Mem} (h : z_Lay M) : q_ln M 86 = some (nI 60) ∧ (∀ j, j < 60 → q_lZ M 86 (nI j) = some (q_I M 86 j)) ∧ (∀ j v, j < 60 → (v = 0 ∨ v = 1) → q_tZ M 86 (nI j) v = some (q_sI M 86 j v)) := ⟨z_ln h (by decide) (by decide) (by decide) rfl, fun _ hj => z_lZ h (by decide) rfl hj (by decide), fun _ _ hj hv => z_tZ h (by decide) rfl hj (by decide) hv⟩
theorem zo_87 {M : q_Mem} (h : z_Lay M) : (∀ f, q_gI 0 f M 87 = some (q_I M 87 f)) ∧ (∀ f, q_gJ 0 f M 87 = some (q_J M 87 f)) ∧ (∀ f v, q_pI 0 f M 87 v = some (q_sI M 87 f v)) ∧ (∀ f v, q_pJ 0 f M 87 v = some (q_sJ M 87 f v)) ∧ (∀ f v, q_pZ 0 f M 87 v = if v = 0 ∨ v = 1 then some (q_sI M 87 f v) else none) ∧ q_gR 0 0 M 87 = some 1 ∧ q_gR 0 1 M 87 = some 14 := ⟨fun _ => z_oI h (by decide) rfl, fun _ => z_oJ h (by decide) rfl, fun _ _ => z_pI h (by decide) rfl, fun _ _ => z_pJ h (by decide) rfl, fun _ _ => z_pZ h (by decide) rfl, z_oR h (by decide) rfl (by decide) rfl, z_oR h (by decide) rfl (by decide) rfl⟩
theorem zob_87 {M : q_Mem} {α : Type} {r : Option α} (h : z_Lay M) : q_ob 0 M 87 r = r := z_ob h (by decide) rfl
theorem zo_88 {M : q_Mem} (h : z_Lay M) : (∀ f, q_gI 6 f M 88 = some (q_I M 88 f)) ∧ (∀ f, q_gJ 6 f M 88 = some (q_J M 88 f)) ∧ (∀ f v, q_pI 6 f M 88 v = some (q_sI M 88 f v)) ∧ (∀ f v, q_pJ 6 f M 88 v = some (q_sJ M 88 f v)) ∧ (∀ f v, q_pZ 6 f M 88 v = if v = 0 ∨ v = 1 then some (q_sI M 88 f v) else none) ∧ q_gR 6 0 M 88 = some 1 ∧ q_gR 6 1 M 88 = some 78 ∧ q_gR 6 2 M 88 = some 81 ∧ q_gR 6 3 M 88 = some 87 ∧ q_gR 6 4 M 88 = some 89 ∧ q_gR 6 5 M 88 = some 90 ∧ q_gR 6 6 M 88 = some 91 ∧ q_gR 6 7 M 88 = some 92 ∧ q_gR 6 8 M 88 = some 93 ∧ q_gR 6 9 M 88 = some 94 := ⟨fun _ => z_oI h (by decide) rfl, fun _ => z_oJ h (by decide) rfl, fun _ _ => z_pI h (by decide) rfl, fun _ _ => z_pJ h (by decide) rfl, fun _ _ => z_pZ h (by decide) rfl, z_oR h (by decide) rfl (by decide) rfl, z_oR h (by decide) rfl (by decide) rfl, z_oR h (by decide) rfl (by decide) rfl, z_oR h (by decide) rfl (by decide) rfl, z_oR h (by decide) rfl (by decide) rfl, z_oR h (by decide) rfl (by decide) rfl, z_oR h (by decide) rfl (by decide) rfl, z_oR h (by decide) rfl (by decide) rfl, z_oR h (by decide) rfl (by decide) rfl, z_oR h (by decide) rfl (by decide) rfl⟩
theorem zob_88 {M : q_Mem} {α : Type} {r : Option α} (h : z_Lay M) : q_ob 6 M 88 r = r := z_ob h (by decide) rfl
theorem za_89 {M : q_Mem} (h : z_Lay M) : q_ln M 89 = some (nI 20) ∧ (∀ j, j < 20 → q_lI M 89 (nI j) = some (q_I M 89 j)) ∧ (∀ j v, j < 20 → q_tI M 89 (nI j) v = some (q_sI M 89 j v)) := ⟨z_ln h (by decide) (by decide) (by decide) rfl, fun _ hj => z_lI h (by decide) rfl hj (by decide), fun _ _ hj => z_tI h (by decide) rfl hj (by decide)⟩
theorem za_90 {M : q_Mem} (h : z_Lay M) : q_ln M 90 = some (nI 20) ∧ (∀ j, j < 20 → q_lJ M 90 (nI j) = some (q_J M 90 j)) ∧ (∀ j v, j < 20 → q_tJ M 90 (nI j) v = some (q_sJ M 90 j v)) := ⟨z_ln h (by decide) (by decide) (by decide) rfl, fun _ hj => z_lJ h (by decide) rfl hj (by decide), fun _ _ hj => z_tJ h (by decide) rfl hj (by decide)⟩
theorem za_91 {M : q_Mem} (h : z_Lay M) : q_ln M 91 = some (nI 20) ∧ (∀ j, j < 20 → q_lI M 91 (nI j) = some (q_I M 91 j)) ∧ (∀ j v, j < 20 → q_tI M 91 (nI j) v = some (q_sI M 91 j v)) := ⟨z_ln h (by decide) (by decide) (by decide) rfl, fun _ hj => z_lI h (by decide) rfl hj (by decide), fun _ _ hj => z_tI h (by decide) rfl hj (by decide)⟩
theorem za_92 {M : q_Mem} (h : z_Lay M) : q_ln M 92 = some (nI 20) ∧ (∀ j, j < 20 → q_lI M 92 (nI j) = some (q_I M 92 j)) ∧ (∀ j v, j < 20 → q_tI M 92 (nI j) v = some (q_sI M 92 j v)) := ⟨z_ln h (by decide) (by decide) (by decide) rfl, fun _ hj => z_lI h (by decide) rfl hj (by decide), fun _ _ hj => z_tI h (by decide) rfl hj (by decide)⟩
theorem za_93 {M : q_Mem} (h : z_Lay M) : q_ln M 93 = some (nI 20) ∧ (∀ j, j < 20 → q_lI M 93 (nI j) = some (q_I M 93 j)) ∧ (∀ j v, j < 20 → q_tI M 93 (nI j) v = some (q_sI M 93 j v)) := ⟨z_ln h (by decide) (by decide) (by decide) rfl, fun _ hj => z_lI h (by decide) rfl hj (by decide), fun _ _ hj => z_tI h (by decide) rfl hj (by decide)⟩
theorem za_94 {M : q_Mem} (h : z_Lay M) : q_ln M 94 = some (nI 20) ∧ (∀ j, j < 20 → q_lJ M 94 (nI j) = some (q_J M 94 j)) ∧ (∀ j v, j < 20 → q_tJ M 94 (nI j) v = some (q_sJ M 94 j v)) := ⟨z_ln h (by decide) (by decide) (by decide) rfl, fun _ hj => z_lJ h (by decide) rfl hj (by decide), fun _ _ hj => z_tJ h (by decide) rfl hj (by decide)⟩
theorem zo_95 {M : q_Mem} (h : z_Lay M) : (∀ f, q_gI 2 f M 95 = some (q_I M 95 f)) ∧ (∀ f, q_gJ 2 f M 95 = some (q_J M 95 f)) ∧ (∀ f v, q_pI 2 f M 95 v = some (q_sI M 95 f v)) ∧ (∀ f v, q_pJ 2 f M 95 v = some (q_sJ M 95 f v)) ∧ (∀ f v, q_pZ 2 f M 95 v = if v = 0 ∨ v = 1 then some (q_sI M 95 f v) else none) ∧ q_gR 2 0 M 95 = some 1 ∧ q_gR 2 1 M 95 = some 96 ∧ q_gR 2 3 M 95 = some 97 ∧ q_gR 2 4 M 95 = some 98 ∧ q_gR 2 5 M 95 = some 99 ∧ q_gR 2 6 M 95 = some 100 := ⟨fun _ => z_oI h (by decide) rfl, fun _ => z_oJ h (by decide) rfl, fun _ _ => z_pI h (by decide) rfl, fun _ _ => z_pJ h (by decide) rfl, fun _ _ => z_pZ h (by decide) rfl, z_oR h (by decide) rfl (by decide) rfl, z_oR h (by decide) rfl (by decide) rfl, z_oR h (by decide) rfl (by decide) rfl, z_oR h (by decide) rfl (by decide) rfl, z_oR h (by decide) rfl (by decide) rfl, z_oR h (by decide) rfl (by decide) rfl⟩
theorem zob_95 {M : q_Mem} {α : Type} {r : Option α} (h : z_Lay M) : q_ob 2 M 95 r = r := z_ob h (by decide) rfl
theorem za_96 {M : q_Mem} (h : z_Lay M) : q_ln M 96 = some (nI 8) ∧ (∀ j, j < 8 → q_lI M 96 (nI j) = some (q_I M 96 j)) ∧ (∀ j v, j < 8 → q_tI M 96 (nI j) v = some (q_sI M 96 j v)) := ⟨z_ln h (by decide) (by decide) (by decide) rfl, fun _ hj => z_lI h (by decide) rfl hj (by decide), fun _ _ hj => z_tI h (by decide) rfl hj (by decide)⟩
theorem za_97 {M : q_Mem} (h : z_Lay M) : q_ln M 97 = some (nI 64) ∧ (∀ j, j < 64 → q_lI M 97 (nI j) = some (q_I M 97 j)) ∧ (∀ j v, j < 64 → q_tI M 97 (nI j) v = some (q_sI M 97 j v)) := ⟨z_ln h (by decide) (by decide) (by decide) rfl, fun _ hj => z_lI h (by decide) rfl hj (by decide), fun _ _ hj => z_tI h (by decide) rfl hj (by decide)⟩
theorem za_98 {M : q_Mem} (h : z_Lay M) : q_ln M 98 = some (nI 8) ∧ (∀ j, j < 8 → q_lI M 98 (nI j) = some (q_I M 98 j)) ∧ (∀ j v, j < 8 → q_tI M 98 (nI j) v = some (q_sI M 98 j v)) := ⟨z_ln h (by decide) (by decide) (by decide) rfl, fun _ hj => z_lI h (by decide) rfl hj (by decide), fun _ _ hj => z_tI h (by decide) rfl hj (by decide)⟩
theorem za_99 {M : q_Mem} (h : z_Lay M) : q_ln M 99 = some (nI 2048) ∧ (∀ j, j < 2048 → q_lI M 99 (nI j) = some (q_I M 99 j)) ∧ (∀ j v, j < 2048 → q_tI M 99 (nI j) v = some (q_sI M 99 j v)) := ⟨z_ln h (by decide) (by decide) (by decide) rfl, fun _ hj => z_lI h (by decide) rfl hj (by decide), fun _ _ hj => z_tI h (by decide) rfl hj (by decide)⟩
theorem za_100 {M : q_Mem} (h : z_Lay M) : q_ln M 100 = some (nI 8) ∧ (∀ j, j < 8 → q_lI M 100 (nI j) = some (q_I M 100 j)) ∧ (∀ j v, j < 8 → q_tI M 100 (nI j) v = some (q_sI M 100 j v)) := ⟨z_ln h (by decide) (by decide) (by decide) rfl, fun _ hj => z_lI h (by decide) rfl hj (by decide), fun _ _ hj => z_tI h (by decide) rfl hj (by decide)⟩
theorem zo_101 {M : q_Mem} (h : z_Lay M) : (∀ f, q_gI 1 f M 101 = some (q_I M 101 f)) ∧ (∀ f, q_gJ 1 f M 101 = some (q_J M 101 f)) ∧ (∀ f v, q_pI 1 f M 101 v = some (q_sI M 101 f v)) ∧ (∀ f v, q_pJ 1 f M 101 v = some (q_sJ M 101 f v)) ∧ (∀ f v, q_pZ 1 f M 101 v = if v = 0 ∨ v = 1 then some (q_sI M 101 f v) else none) ∧ q_gR 1 0 M 101 = some 16 ∧ q_gR 1 1 M 101 = some 102 ∧ q_gR 1 2 M 101 = some 103 ∧ q_gR 1 3 M 101 = some 104 ∧ q_gR 1 4 M 101 = some 105 ∧ q_gR 1 5 M 101 = some 106 := ⟨fun _ => z_oI h (by decide) rfl, fun _ => z_oJ h (by decide) rfl, fun _ _ => z_pI h (by decide) rfl, fun _ _ => z_pJ h (by decide) rfl, fun _ _ => z_pZ h (by decide) rfl, z_oR h (by decide) rfl (by decide) rfl, z_oR h (by decide) rfl (by decide) rfl, z_oR h (by decide) rfl (by decide) rfl, z_oR h (by decide) rfl (by decide) rfl, z_oR h (by decide) rfl (by decide) rfl, z_oR h (by decide) rfl (by decide) rfl⟩
theorem zob_101 {M : q_Mem} {α : Type} {r : Option α} (h : z_Lay M) : q_ob 1 M 101 r = r := z_ob h (by decide) rfl
theorem za_102 {M : q_Mem} (h : z_Lay M) : q_ln M 102 = some (nI 1024) ∧ (∀ j, j < 1024 → q_lJ M 102 (nI j) = some (q_J M 102 j)) ∧ (∀ j v, j < 1024 → q_tJ M 102 (nI j) v = some (q_sJ M 102 j v)) := ⟨z_ln h (by decide) (by decide) (by decide) rfl, fun _ hj => z_lJ h (by decide) rfl hj (by decide), fun _ _ hj => z_tJ h (by decide) rfl hj (by decide)⟩
theorem za_103 {M : q_Mem} (h : z_Lay M) : q_ln M 103 = some (nI 1024) ∧ (∀ j, j < 1024 → q_lJ M 103 (nI j) = some (q_J M 103 j)) ∧ (∀ j v, j < 1024 → q_tJ M 103 (nI j) v = some (q_sJ M 103 j v)) := ⟨z_ln h (by decide) (by decide) (by decide) rfl, fun _ hj => z_lJ h (by decide) rfl hj (by decide), fun _ _ hj => z_tJ h (by decide) rfl hj (by decide)⟩
theorem za_104 {M : q_Mem} (h : z_Lay M) : q_ln M 104 = some (nI 1024) ∧ (∀ j, j < 1024 → q_lI M 104 (nI j) = some (q_I M 104 j)) ∧ (∀ j v, j < 1024 → q_tI M 104 (nI j) v = some (q_sI M 104 j v)) := ⟨z_ln h (by decide) (by decide) (by decide) rfl, fun _ hj => z_lI h (by decide) rfl hj (by decide), fun _ _ hj => z_tI h (by decide) rfl hj (by decide)⟩
theorem za_105 {M : q_Mem} (h : z_Lay M) : q_ln M 105 = some (nI 1024) ∧ (∀ j, j < 1024 → q_lJ M 105 (nI j) = some (q_J M 105 j)) ∧ (∀ j v, j < 1024 → q_tJ M 105 (nI j) v = some (q_sJ M 105 j v)) := ⟨z_ln h (by decide) (by decide) (by decide) rfl, fun _ hj => z_lJ h (by decide) rfl hj (by decide), fun _ _ hj => z_tJ h (by decide) rfl hj (by decide)⟩
theorem za_106 {M : q_Mem} (h : z_Lay M) : q_ln M 106 = some (nI 1024) ∧ (∀ j, j < 1024 → q_lJ M 106 (nI j) = some (q_J M 106 j)) ∧ (∀ j v, j < 1024 → q_tJ M 106 (nI j) v = some (q_sJ M 106 j v)) := ⟨z_ln h (by decide) (by decide) (by decide) rfl, fun _ hj => z_lJ h (by decide) rfl hj (by decide), fun _ _ hj => z_tJ h (by decide) rfl hj (by decide)⟩
theorem zo_107 {M : q_Mem} (h : z_Lay M) : (∀ f, q_gI 9 f M 107 = some (q_I M 107 f)) ∧ (∀ f, q_gJ 9 f M 107 = some (q_J M 107 f)) ∧ (∀ f v, q_pI 9 f M 107 v = some (q_sI M 107 f v)) ∧ (∀ f v, q_pJ 9 f M 107 v = some (q_sJ M 107 f v)) ∧ (∀ f v, q_pZ 9 f M 107 v = if v = 0 ∨ v = 1 then some (q_sI M 107 f v) else none) ∧ q_gR 9 0 M 107 = some 1 := ⟨fun _ => z_oI h (by decide) rfl, fun _ => z_oJ h (by decide) rfl, fun _ _ => z_pI h (by decide) rfl, fun _ _ => z_pJ h (by decide) rfl, fun _ _ => z_pZ h (by decide) rfl, z_oR h (by decide) rfl (by decide) rfl⟩
theorem zob_107 {M : q_Mem} {α : Type} {r : Option α} (h : z_Lay M) : q_ob 9 M 107 r = r := z_ob h (by decide) rfl
theorem zo_108 {M : q_Mem} (h : z_Lay M) : (∀ f, q_gI 11 f M 108 = some (q_I M 108 f)) ∧ (∀ f, q_gJ 11 f M 108 = some (q_J M 108 f)) ∧ (∀ f v, q_pI 11 f M 108 v = some (q_sI M 108 f v)) ∧ (∀ f v, q_pJ 11 f M 108 v = some (q_sJ M 108 f v)) ∧ (∀ f v, q_pZ 11 f M 108 v = if v = 0 ∨ v = 1 then some (q_sI M 108 f v) else none) ∧ q_gR 11 0 M 108 = some 109 ∧ q_gR 11 1 M 108 = some 110 ∧ q_gR 11 2 M 108 = some 111 ∧ q_gR 11 3 M 108 = some 112 ∧ q_gR 11 5 M 108 = some 113 ∧ q_gR 11 6 M 108 = some 114 ∧ q_gR 11 7 M 108 = some 115 ∧ q_gR 11 9 M 108 = some 116 ∧ q_gR 11 10 M 108 = some 117 ∧ q_gR 11 11 M 108 = some 118 ∧ q_gR 11 14 M 108 = some 119 ∧ q_gR 11 15 M 108 = some 120 ∧ q_gR 11 16 M 108 = some 121 ∧ q_gR 11 17 M 108 = some 122 ∧ q_gR 11 19 M 108 = some 123 ∧ q_gR 11 21 M 108 = some 124 ∧ q_gR 11 22 M 108 = some 125 ∧ q_gR 11 24 M 108 = some 126 ∧ q_gR 11 25 M 108 = some 127 ∧ q_gR 11 26 M 108 = some 128 ∧ q_gR 11 27 M 108 = some 129 ∧ q_gR 11 28 M 108 = some 130 := ⟨fun _ => z_oI h (by decide) rfl, fun _ => z_oJ h (by decide) rfl, fun _ _ => z_pI h (by decide) rfl, fun _ _ => z_pJ h (by decide) rfl, fun _ _ => z_pZ h (by decide) rfl, z_oR h (by decide) rfl (by decide) rfl, z_oR h (by decide) rfl (by decide) rfl, z_oR h (by decide) rfl (by decide) rfl, z_oR h (by decide) rfl (by decide) rfl, z_oR h (by decide) rfl (by decide) rfl, z_oR h (by decide) rfl (by decide) rfl, z_oR h (by decide) rfl (by decide) rfl, z_oR h (by decide) rfl (by decide) rfl, z_oR h (by decide) rfl (by decide) rfl, z_oR h (by decide) rfl (by decide) rfl, z_oR h (by decide) rfl (by decide) rfl, z_oR h (by decide) rfl (by decide) rfl, z_oR h (by decide) rfl (by decide) rfl, z_oR h (by decide) rfl (by decide) rfl, z_oR h (by decide) rfl (by decide) rfl, z_oR h (by decide) rfl (by decide) rfl, z_oR h (by decide) rfl (by decide) rfl, z_oR h (by decide) rfl (by decide) rfl, z_oR h (by decide) rfl (by decide) rfl, z_oR h (by decide) rfl (by decide) rfl, z_oR h (by decide) rfl (by decide) rfl, z_oR h (by decide) rfl (by decide) rfl⟩
theorem zob_108 {M : q_Mem} {α : Type} {r : Option α} (h : z_Lay M) : q_ob 11 M 108 r = r := z_ob h (by decide) rfl
theorem za_109 {M : q_Mem} (h : z_Lay M) : q_ln M 109 = some (nI 4764) ∧ (∀ j, j < 4764 → q_lI M 109 (nI j) = some (q_I M 109 j)) ∧ (∀ j v, j < 4764 → q_tI M 109 (nI j) v = some (q_sI M 109 j v)) := ⟨z_ln h (by decide) (by decide) (by decide) rfl, fun _ hj => z_lI h (by decide) rfl hj (by decide), fun _ _ hj => z_tI h (by decide) rfl hj (by decide)⟩
theorem za_110 {M : q_Mem} (h : z_Lay M) : q_ln M 110 = some (nI 9528) ∧ (∀ j, j < 9528 → q_lI M 110 (nI j) = some (q_I M 110 j)) ∧ (∀ j v, j < 9528 → q_tI M 110 (nI j) v = some (q_sI M 110 j v)) := ⟨z_ln h (by decide) (by decide) (by decide) rfl, fun _ hj => z_lI h (by decide) rfl hj (by decide), fun _ _ hj => z_tI h (by decide) rfl hj (by decide)⟩
theorem za_111 {M : q_Mem} (h : z_Lay M) : q_ln M 111 = some (nI 2) ∧ (∀ j, j < 2 → q_lZ M 111 (nI j) = some (q_I M 111 j)) ∧ (∀ j v, j < 2 → (v = 0 ∨ v = 1) → q_tZ M 111 (nI j) v = some (q_sI M 111 j v)) := ⟨z_ln h (by decide) (by decide) (by decide) rfl, fun _ hj => z_lZ h (by decide) rfl hj (by decide), fun _ _ hj hv => z_tZ h (by decide) rfl hj (by decide) hv⟩
theorem za_112 {M : q_Mem} (h : z_Lay M) : q_ln M 112 = some (nI 200) ∧ (∀ j, j < 200 → q_lI M 112 (nI j) = some (q_I M 112 j)) ∧ (∀ j v, j < 200 → q_tI M 112 (nI j) v = some (q_sI M 112 j v)) := ⟨z_ln h (by decide) (by decide) (by decide) rfl, fun _ hj => z_lI h (by decide) rfl hj (by decide), fun _ _ hj => z_tI h (by decide) rfl hj (by decide)⟩
theorem za_113 {M : q_Mem} (h : z_Lay M) : q_ln M 113 = some (nI 200) ∧ (∀ j, j < 200 → q_lI M 113 (nI j) = some (q_I M 113 j)) ∧ (∀ j v, j < 200 → q_tI M 113 (nI j) v = some (q_sI M 113 j v)) := ⟨z_ln h (by decide) (by decide) (by decide) rfl, fun _ hj => z_lI h (by decide) rfl hj (by decide), fun _ _ hj => z_tI h (by decide) rfl hj (by decide)⟩
theorem za_114 {M : q_Mem} (h : z_Lay M) : q_ln M 114 = some (nI 200) ∧ (∀ j, j < 200 → q_lI M 114 (nI j) = some (q_I M 114 j)) ∧ (∀ j v, j < 200 → q_tI M 114 (nI j) v = some (q_sI M 114 j v)) := ⟨z_ln h (by decide) (by decide) (by decide) rfl, fun _ hj => z_lI h (by decide) rfl hj (by decide), fun _ _ hj => z_tI h (by decide) rfl hj (by decide)⟩
theorem za_115 {M : q_Mem} (h : z_Lay M) : q_ln M 115 = some (nI 200) ∧ (∀ j, j < 200 → q_lI M 115 (nI j) = some (q_I M 115 j)) ∧ (∀ j v, j < 200 → q_tI M 115 (nI j) v = some (q_sI M 115 j v)) := ⟨z_ln h (by decide) (by decide) (by decide) rfl, fun _ hj => z_lI h (by decide) rfl hj (by decide), fun _ _ hj => z_tI h (by decide) rfl hj (by decide)⟩
theorem za_116 {M : q_Mem} (h : z_Lay M) : q_ln M 116 = some (nI 130) ∧ (∀ j, j < 130 → q_lI M 116 (nI j) = some (q_I M 116 j)) ∧ (∀ j v, j < 130 → q_tI M 116 (nI j) v = some (q_sI M 116 j v)) := ⟨z_ln h (by decide) (by decide) (by decide) rfl, fun _ hj => z_lI h (by decide) rfl hj (by decide), fun _ _ hj => z_tI h (by decide) rfl hj (by decide)⟩
theorem za_117 {M : q_Mem} (h : z_Lay M) : q_ln M 117 = some (nI 130) ∧ (∀ j, j < 130 → q_lI M 117 (nI j) = some (q_I M 117 j)) ∧ (∀ j v, j < 130 → q_tI M 117 (nI j) v = some (q_sI M 117 j v)) := ⟨z_ln h (by decide) (by decide) (by decide) rfl, fun _ hj => z_lI h (by decide) rfl hj (by decide), fun _ _ hj => z_tI h (by decide) rfl hj (by decide)⟩
theorem za_118 {M : q_Mem} (h : z_Lay M) : q_ln M 118 = some (nI 130) ∧ (∀ j, j < 130 → q_lI M 118 (nI j) = some (q_I M 118 j)) ∧ (∀ j v, j < 130 → q_tI M 118 (nI j) v = some (q_sI M 118 j v)) := ⟨z_ln h (by decide) (by decide) (by decide) rfl, fun _ hj => z_lI h (by decide) rfl hj (by decide), fun _ _ hj => z_tI h (by decide) rfl hj (by decide)⟩
theorem za_119 {M : q_Mem} (h : z_Lay M) : q_ln M 119 = some (nI 8) ∧ (∀ j, j < 8 → q_lJ M 119 (nI j) = some (q_J M 119 j)) ∧ (∀ j v, j < 8 → q_tJ M 119 (nI j) v = some (q_sJ M 119 j v)) := ⟨z_ln h (by decide) (by decide) (by decide) rfl, fun _ hj => z_lJ h (by decide) rfl hj (by decide), fun _ _ hj => z_tJ h (by decide) rfl hj (by decide)⟩
theorem za_120 {M : q_Mem} (h : z_Lay M) : q_ln M 120 = some (nI 20) ∧ (∀ j, j < 20 → q_lI M 120 (nI j) = some (q_I M 120 j)) ∧ (∀ j v, j < 20 → q_tI M 120 (nI j) v = some (q_sI M 120 j v)) := ⟨z_ln h (by decide) (by decide) (by decide) rfl, fun _ hj => z_lI h (by decide) rfl hj (by decide), fun _ _ hj => z_tI h (by decide) rfl hj (by decide)⟩
theorem za_121 {M : q_Mem} (h : z_Lay M) : q_ln M 121 = some (nI 130) ∧ (∀ j, j < 130 → q_lJ M 121 (nI j) = some (q_J M 121 j)) ∧ (∀ j v, j < 130 → q_tJ M 121 (nI j) v = some (q_sJ M 121 j v)) := ⟨z_ln h (by decide) (by decide) (by decide) rfl, fun _ hj => z_lJ h (by decide) rfl hj (by decide), fun _ _ hj => z_tJ h (by decide) rfl hj (by decide)⟩
theorem za_122 {M : q_Mem} (h : z_Lay M) : q_ln M 122 = some (nI 130) ∧ (∀ j, j < 130 → q_lZ M 122 (nI j) = some (q_I M 122 j)) ∧ (∀ j v, j < 130 → (v = 0 ∨ v = 1) → q_tZ M 122 (nI j) v = some (q_sI M 122 j v)) := ⟨z_ln h (by decide) (by decide) (by decide) rfl, fun _ hj => z_lZ h (by decide) rfl hj (by decide), fun _ _ hj hv => z_tZ h (by decide) rfl hj (by decide) hv⟩
theorem za_123 {M : q_Mem} (h : z_Lay M) : q_ln M 123 = some (nI 20) ∧ (∀ j, j < 20 → q_lJ M 123 (nI j) = some (q_J M 123 j)) ∧ (∀ j v, j < 20 → q_tJ M 123 (nI j) v = some (q_sJ M 123 j v)) := ⟨z_ln h (by decide) (by decide) (by decide) rfl, fun _ hj => z_lJ h (by decide) rfl hj (by decide), fun _ _ hj => z_tJ h (by decide) rfl hj (by decide)⟩
theorem za_124 {M : q_Mem} (h : z_Lay M) : q_ln M 124 = some (nI 8) ∧ (∀ j, j < 8 → q_lI M 124 (nI j) = some (q_I M 124 j)) ∧ (∀ j v, j < 8 → q_tI M 124 (nI j) v = some (q_sI M 124 j v)) := ⟨z_ln h (by decide) (by decide) (by decide) rfl, fun _ hj => z_lI h (by decide) rfl hj (by decide), fun _ _ hj => z_tI h (by decide) rfl hj (by decide)⟩
theorem za_125 {M : q_Mem} (h : z_Lay M) : q_ln M 125 = some (nI 8) ∧ (∀ j, j < 8 → q_lI M 125 (nI j) = some (q_I M 125 j)) ∧ (∀ j v, j < 8 → q_tI M 125 (nI j) v = some (q_sI M 125 j v)) := ⟨z_ln h (by decide) (by decide) (by decide) rfl, fun _ hj => z_lI h (by decide) rfl hj (by decide), fun _ _ hj => z_tI h (by decide) rfl hj (by decide)⟩
theorem za_126 {M : q_Mem} (h : z_Lay M) : q_ln M 126 = some (nI 1024) ∧ (∀ j, j < 1024 → q_lJ M 126 (nI j) = some (q_J M 126 j)) ∧ (∀ j v, j < 1024 → q_tJ M 126 (nI j) v = some (q_sJ M 126 j v)) := ⟨z_ln h (by decide) (by decide) (by decide) rfl, fun _ hj => z_lJ h (by decide) rfl hj (by decide), fun _ _ hj => z_tJ h (by decide) rfl hj (by decide)⟩
theorem za_127 {M : q_Mem} (h : z_Lay M) : q_ln M 127 = some (nI 10) ∧ (∀ j, j < 10 → q_lI M 127 (nI j) = some (q_I M 127 j)) ∧ (∀ j v, j < 10 → q_tI M 127 (nI j) v = some (q_sI M 127 j v)) := ⟨z_ln h (by decide) (by decide) (by decide) rfl, fun _ hj => z_lI h (by decide) rfl hj (by decide), fun _ _ hj => z_tI h (by decide) rfl hj (by decide)⟩
theorem za_128 {M : q_Mem} (h : z_Lay M) : q_ln M 128 = some (nI 10) ∧ (∀ j, j < 10 → q_lI M 128 (nI j) = some (q_I M 128 j)) ∧ (∀ j v, j < 10 → q_tI M 128 (nI j) v = some (q_sI M 128 j v)) := ⟨z_ln h (by decide) (by decide) (by decide) rfl, fun _ hj => z_lI h (by decide) rfl hj (by decide), fun _ _ hj => z_tI h (by decide) rfl hj (by decide)⟩
theorem za_129 {M : q_Mem} (h : z_Lay M) : q_ln M 129 = some (nI 10) ∧ (∀ j, j < 10 → q_lI M 129 (nI j) = some (q_I M 129 j)) ∧ (∀ j v, j < 10 → q_tI M 129 (nI j) v = some (q_sI M 129 j v)) := ⟨z_ln h (by decide) (by decide) (by decide) rfl, fun _ hj => z_lI h (by decide) rfl hj (by decide), fun _ _ hj => z_tI h (by decide) rfl hj (by decide)⟩
theorem za_130 {M : q_Mem} (h : z_Lay M) : q_ln M 130 = some (nI 10) ∧ (∀ j, j < 10 → q_lI M 130 (nI j) = some (q_I M 130 j)) ∧ (∀ j v, j < 10 → q_tI M 130 (nI j) v = some (q_sI M 130 j v)) := ⟨z_ln h (by decide) (by decide) (by decide) rfl, fun _ hj => z_lI h (by decide) rfl hj (by decide), fun _ _ hj => z_tI h (by decide) rfl hj (by decide)⟩
/-! loops -/
def q_it {σ : Type} (step : Nat → σ → σ) : Nat → Nat → σ → σ
  | _, 0, s => s
  | i, d + 1, s => q_it step (i + 1) d (step i s)
theorem q_for {α σ : Type} (F : Nat → Int32 → σ → Option α) (K : σ → Option α) (step : Nat → σ → σ) (n : Nat) (h0 : ∀ fu s, F (fu + 1) (nI n) s = K s) (hs : ∀ fu i s, i < n → F (fu + 1) (nI i) s = F fu (nI (i + 1)) (step i s)) :
    ∀ (d i : Nat) (s : σ) (fu : Nat), i + d = n → d < fu → F fu (nI i) s = K (q_it step i d s)
  | 0, i, s, fu, hd, hf => by
    obtain ⟨g, rfl⟩ : ∃ g, fu = g + 1 := ⟨fu - 1, by omega⟩
    obtain rfl : i = n := by omega
    exact h0 g s
  | d + 1, i, s, fu, hd, hf => by
    obtain ⟨g, rfl⟩ : ∃ g, fu = g + 1 := ⟨fu - 1, by omega⟩
    rw [hs g i s (by omega)]
    exact q_for F K step n h0 hs d (i + 1) (step i s) g (by omega) (by omega)
theorem q_it_congr {σ : Type} {f g : Nat → σ → σ} : ∀ (d i : Nat) (s : σ), (∀ j s, i ≤ j → j < i + d → f j s = g j s) → q_it f i d s = q_it g i d s
  | 0, _, _, _ => rfl
  | d + 1, i, s, h => by
    show q_it f (i + 1) d (f i s) = q_it g (i + 1) d (g i s)
    rw [h i s (Nat.le_refl _) (by omega)]
    exact q_it_congr d (i + 1) (g i s) (fun j s h1 h2 => h j s (by omega) (by omega))
/-- an invariant of the steps -/
theorem q_it_inv {σ : Type} {f : Nat → σ → σ} (P : Nat → σ → Prop) : ∀ (d i : Nat) (s : σ), P i s → (∀ j s, i ≤ j → j < i + d → P j s → P (j + 1) (f j s)) → P (i + d) (q_it f i d s)
  | 0, _, _, h, _ => h
  | d + 1, i, s, h, hs => by
    have := q_it_inv P d (i + 1) (f i s) (hs i s (Nat.le_refl _) (by omega) h) (fun j s h1 h2 => hs j s (by omega) (by omega))
    rwa [show i + 1 + d = i + (d + 1) by omega] at this
/-- two runs of steps, side by side -/
theorem q_it_rel {σ τ : Type} {f : Nat → σ → σ} {g : Nat → τ → τ} (P : Nat → σ → τ → Prop) : ∀ (d i : Nat) (s : σ) (t : τ), P i s t → (∀ j s t, i ≤ j → j < i + d → P j s t → P (j + 1) (f j s) (g j t)) → P (i + d) (q_it f i d s) (q_it g i d t)
  | 0, _, _, _, h, _ => h
  | d + 1, i, s, t, h, hs => by
    have := q_it_rel P d (i + 1) (f i s) (g i t) (hs i s t (Nat.le_refl _) (by omega) h) (fun j s t h1 h2 => hs j s t (by omega) (by omega))
    rwa [show i + 1 + d = i + (d + 1) by omega] at this
/-! truths as numbers -/
def q_b (c : Prop) [Decidable c] : Int32 := if c then 1 else 0
theorem q_b0 {c : Prop} [Decidable c] : q_b c = 0 ↔ ¬ c := by unfold q_b; split <;> simp_all
theorem q_b1 {c : Prop} [Decidable c] : q_b c = 1 ↔ c := by unfold q_b; split <;> simp_all
theorem q_b01 {c : Prop} [Decidable c] : q_b c = 0 ∨ q_b c = 1 := by unfold q_b; split <;> simp
theorem q_lt_iff (a b : Int32) : a < b ↔ a.toInt < b.toInt := Int32.lt_iff_toInt_lt
theorem q_le_iff (a b : Int32) : a ≤ b ↔ a.toInt ≤ b.toInt := Int32.le_iff_toInt_le
theorem q_eq_iff (a b : Int32) : a = b ↔ a.toInt = b.toInt := Int32.toInt_inj.symm
