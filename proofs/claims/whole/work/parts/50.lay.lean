/-! WHERE THINGS LIE: the cells of the class (1 to 100), of the reference (101 to 152), the law's own row (153) -/
def LayK (σ : St) : Prop := (sK σ 1 = (11, 9) ∧ sK σ 2 = (8, 6) ∧ sK σ 3 = (14, 72) ∧ sK σ 4 = (19, 7) ∧ sK σ 5 = (17, 6) ∧ sK σ 6 = (14, 6) ∧ sK σ 7 = (14, 6) ∧ sK σ 8 = (9, 3) ∧ sK σ 9 = (14, 8) ∧ sK σ 10 = (14, 8) ∧ sK σ 11 = (9, 3) ∧ sK σ 12 = (14, 8) ∧ sK σ 13 = (14, 8) ∧ sK σ 14 = (9, 3) ∧ sK σ 15 = (14, 8) ∧ sK σ 16 = (14, 8)) ∧ (sK σ 17 = (9, 3) ∧ sK σ 18 = (14, 8) ∧ sK σ 19 = (14, 8) ∧ sK σ 20 = (9, 3) ∧ sK σ 21 = (14, 8) ∧ sK σ 22 = (14, 8) ∧ sK σ 23 = (9, 3) ∧ sK σ 24 = (14, 8) ∧ sK σ 25 = (14, 8) ∧ sK σ 26 = (9, 3) ∧ sK σ 27 = (14, 8) ∧ sK σ 28 = (14, 8) ∧ sK σ 29 = (0, 7) ∧ sK σ 30 = (0, 7) ∧ sK σ 31 = (0, 7) ∧ sK σ 32 = (0, 7)) ∧ (sK σ 33 = (0, 7) ∧ sK σ 34 = (0, 7) ∧ sK σ 35 = (4, 8) ∧ sK σ 36 = (1, 4) ∧ sK σ 37 = (14, 200) ∧ sK σ 38 = (14, 200) ∧ sK σ 39 = (14, 200) ∧ sK σ 40 = (1, 4) ∧ sK σ 41 = (14, 200) ∧ sK σ 42 = (14, 200) ∧ sK σ 43 = (14, 200) ∧ sK σ 44 = (18, 2) ∧ sK σ 45 = (20, 24) ∧ sK σ 46 = (7, 13) ∧ sK σ 47 = (14, 401) ∧ sK σ 48 = (14, 401)) ∧ (sK σ 49 = (15, 401) ∧ sK σ 50 = (15, 10) ∧ sK σ 51 = (15, 15) ∧ sK σ 52 = (10, 7) ∧ sK σ 53 = (14, 400) ∧ sK σ 54 = (14, 20) ∧ sK σ 55 = (14, 20) ∧ sK σ 56 = (14, 20) ∧ sK σ 57 = (14, 20) ∧ sK σ 58 = (14, 15) ∧ sK σ 59 = (14, 64) ∧ sK σ 60 = (1, 4) ∧ sK σ 61 = (14, 12) ∧ sK σ 62 = (14, 12) ∧ sK σ 63 = (14, 12) ∧ sK σ 64 = (1, 4)) ∧ (sK σ 65 = (14, 12) ∧ sK σ 66 = (14, 12) ∧ sK σ 67 = (14, 12) ∧ sK σ 68 = (2, 6) ∧ sK σ 69 = (14, 1500) ∧ sK σ 70 = (3, 10) ∧ sK σ 71 = (14, 2) ∧ sK σ 72 = (14, 2) ∧ sK σ 73 = (14, 60) ∧ sK σ 74 = (14, 60) ∧ sK σ 75 = (14, 60) ∧ sK σ 76 = (14, 60) ∧ sK σ 77 = (14, 60) ∧ sK σ 78 = (6, 16) ∧ sK σ 79 = (14, 6) ∧ sK σ 80 = (14, 3)) ∧ (sK σ 81 = (21, 3) ∧ sK σ 82 = (14, 25) ∧ sK σ 83 = (14, 25) ∧ sK σ 84 = (14, 25) ∧ sK σ 85 = (14, 3) ∧ sK σ 86 = (21, 3) ∧ sK σ 87 = (14, 25) ∧ sK σ 88 = (14, 25) ∧ sK σ 89 = (14, 25) ∧ sK σ 90 = (14, 4) ∧ sK σ 91 = (14, 12) ∧ sK σ 92 = (14, 6) ∧ sK σ 93 = (14, 6) ∧ sK σ 94 = (5, 10) ∧ sK σ 95 = (14, 3) ∧ sK σ 96 = (14, 3)) ∧ (sK σ 97 = (14, 6) ∧ sK σ 98 = (14, 72) ∧ sK σ 99 = (14, 72) ∧ sK σ 100 = (14, 400) ∧ sK σ 101 = (12, 79) ∧ sK σ 102 = (14, 72) ∧ sK σ 103 = (14, 7) ∧ sK σ 104 = (14, 56) ∧ sK σ 105 = (14, 56) ∧ sK σ 106 = (14, 6) ∧ sK σ 107 = (14, 6) ∧ sK σ 108 = (14, 6) ∧ sK σ 109 = (14, 6) ∧ sK σ 110 = (14, 6) ∧ sK σ 111 = (14, 6) ∧ sK σ 112 = (14, 6)) ∧ (sK σ 113 = (14, 6) ∧ sK σ 114 = (14, 200) ∧ sK σ 115 = (14, 200) ∧ sK σ 116 = (14, 200) ∧ sK σ 117 = (14, 200) ∧ sK σ 118 = (16, 200) ∧ sK σ 119 = (14, 200) ∧ sK σ 120 = (14, 10500) ∧ sK σ 121 = (14, 25) ∧ sK σ 122 = (14, 25) ∧ sK σ 123 = (14, 500) ∧ sK σ 124 = (14, 500) ∧ sK σ 125 = (14, 500) ∧ sK σ 126 = (14, 500) ∧ sK σ 127 = (14, 500) ∧ sK σ 128 = (14, 25)) ∧ (sK σ 129 = (14, 25) ∧ sK σ 130 = (14, 2) ∧ sK σ 131 = (13, 400) ∧ sK σ 132 = (13, 48) ∧ sK σ 133 = (14, 6) ∧ sK σ 134 = (14, 15) ∧ sK σ 135 = (14, 420) ∧ sK σ 136 = (14, 1500) ∧ sK σ 137 = (14, 2) ∧ sK σ 138 = (14, 2) ∧ sK σ 139 = (14, 60) ∧ sK σ 140 = (14, 60) ∧ sK σ 141 = (14, 60) ∧ sK σ 142 = (14, 60) ∧ sK σ 143 = (14, 60) ∧ sK σ 144 = (14, 6)) ∧ (sK σ 145 = (14, 6) ∧ sK σ 146 = (14, 6) ∧ sK σ 147 = (16, 432) ∧ sK σ 148 = (14, 12) ∧ sK σ 149 = (14, 6) ∧ sK σ 150 = (14, 6) ∧ sK σ 151 = (14, 72) ∧ sK σ 152 = (14, 72) ∧ sK σ 153 = (15, 1))
def LayR (σ : St) : Prop := (sR σ 1 0 = 2 ∧ sR σ 1 1 = 35 ∧ sR σ 1 2 = 68 ∧ sR σ 1 3 = 70 ∧ sR σ 1 4 = 78 ∧ sR σ 1 5 = 94 ∧ sR σ 1 6 = 100 ∧ sR σ 2 0 = 3 ∧ sR σ 2 1 = 4 ∧ sR σ 2 2 = 5 ∧ sR σ 2 3 = 6 ∧ sR σ 2 4 = 7 ∧ sR σ 4 0 = 8 ∧ sR σ 4 1 = 11 ∧ sR σ 4 2 = 14 ∧ sR σ 4 3 = 17) ∧ (sR σ 4 4 = 20 ∧ sR σ 4 5 = 23 ∧ sR σ 4 6 = 26 ∧ sR σ 5 0 = 29 ∧ sR σ 5 1 = 30 ∧ sR σ 5 2 = 31 ∧ sR σ 5 3 = 32 ∧ sR σ 5 4 = 33 ∧ sR σ 5 5 = 34 ∧ sR σ 8 0 = 9 ∧ sR σ 8 1 = 10 ∧ sR σ 11 0 = 12 ∧ sR σ 11 1 = 13 ∧ sR σ 14 0 = 15 ∧ sR σ 14 1 = 16 ∧ sR σ 17 0 = 18) ∧ (sR σ 17 1 = 19 ∧ sR σ 20 0 = 21 ∧ sR σ 20 1 = 22 ∧ sR σ 23 0 = 24 ∧ sR σ 23 1 = 25 ∧ sR σ 26 0 = 27 ∧ sR σ 26 1 = 28 ∧ sR σ 35 0 = 2 ∧ sR σ 35 1 = 36 ∧ sR σ 35 2 = 40 ∧ sR σ 35 3 = 44 ∧ sR σ 35 4 = 45 ∧ sR σ 35 5 = 46 ∧ sR σ 35 6 = 58 ∧ sR σ 35 7 = 59 ∧ sR σ 36 0 = 37) ∧ (sR σ 36 1 = 38 ∧ sR σ 36 2 = 39 ∧ sR σ 40 0 = 41 ∧ sR σ 40 1 = 42 ∧ sR σ 40 2 = 43 ∧ sR σ 44 0 = 60 ∧ sR σ 44 1 = 64 ∧ sR σ 46 0 = 47 ∧ sR σ 46 1 = 48 ∧ sR σ 46 2 = 49 ∧ sR σ 46 3 = 50 ∧ sR σ 46 4 = 51 ∧ sR σ 46 5 = 52 ∧ sR σ 52 0 = 53 ∧ sR σ 52 1 = 54 ∧ sR σ 52 2 = 55) ∧ (sR σ 52 3 = 56 ∧ sR σ 52 4 = 57 ∧ sR σ 60 0 = 61 ∧ sR σ 60 1 = 62 ∧ sR σ 60 2 = 63 ∧ sR σ 64 0 = 65 ∧ sR σ 64 1 = 66 ∧ sR σ 64 2 = 67 ∧ sR σ 68 0 = 2 ∧ sR σ 68 1 = 69 ∧ sR σ 70 0 = 2 ∧ sR σ 70 1 = 35 ∧ sR σ 70 2 = 71 ∧ sR σ 70 3 = 72 ∧ sR σ 70 4 = 73 ∧ sR σ 70 5 = 74) ∧ (sR σ 70 6 = 75 ∧ sR σ 70 7 = 76 ∧ sR σ 70 8 = 77 ∧ sR σ 78 0 = 2 ∧ sR σ 78 1 = 35 ∧ sR σ 78 2 = 79 ∧ sR σ 78 4 = 80 ∧ sR σ 78 5 = 81 ∧ sR σ 78 6 = 85 ∧ sR σ 78 7 = 86 ∧ sR σ 78 8 = 90 ∧ sR σ 78 9 = 91 ∧ sR σ 78 10 = 92 ∧ sR σ 78 11 = 93 ∧ sR σ 81 0 = 82 ∧ sR σ 81 1 = 83) ∧ (sR σ 81 2 = 84 ∧ sR σ 86 0 = 87 ∧ sR σ 86 1 = 88 ∧ sR σ 86 2 = 89 ∧ sR σ 94 0 = 2 ∧ sR σ 94 1 = 78 ∧ sR σ 94 2 = 95 ∧ sR σ 94 3 = 96 ∧ sR σ 94 4 = 97 ∧ sR σ 94 5 = 98 ∧ sR σ 94 6 = 99 ∧ sR σ 101 1 = 102 ∧ sR σ 101 2 = 103 ∧ sR σ 101 3 = 104 ∧ sR σ 101 4 = 105 ∧ sR σ 101 6 = 106) ∧ (sR σ 101 7 = 107 ∧ sR σ 101 8 = 108 ∧ sR σ 101 9 = 109 ∧ sR σ 101 10 = 110 ∧ sR σ 101 11 = 111 ∧ sR σ 101 12 = 112 ∧ sR σ 101 13 = 113 ∧ sR σ 101 16 = 114 ∧ sR σ 101 17 = 115 ∧ sR σ 101 18 = 116 ∧ sR σ 101 20 = 117 ∧ sR σ 101 21 = 118 ∧ sR σ 101 22 = 119 ∧ sR σ 101 23 = 120 ∧ sR σ 101 24 = 121 ∧ sR σ 101 25 = 122) ∧ (sR σ 101 26 = 123 ∧ sR σ 101 27 = 124 ∧ sR σ 101 28 = 125 ∧ sR σ 101 29 = 126 ∧ sR σ 101 30 = 127 ∧ sR σ 101 31 = 128 ∧ sR σ 101 32 = 129 ∧ sR σ 101 33 = 130 ∧ sR σ 101 34 = 131 ∧ sR σ 101 45 = 132 ∧ sR σ 101 46 = 133 ∧ sR σ 101 47 = 134 ∧ sR σ 101 48 = 135 ∧ sR σ 101 50 = 136 ∧ sR σ 101 53 = 137 ∧ sR σ 101 54 = 138) ∧ (sR σ 101 56 = 139 ∧ sR σ 101 57 = 140 ∧ sR σ 101 58 = 141 ∧ sR σ 101 59 = 142 ∧ sR σ 101 60 = 143 ∧ sR σ 101 63 = 144 ∧ sR σ 101 64 = 145 ∧ sR σ 101 65 = 146 ∧ sR σ 101 66 = 147 ∧ sR σ 101 67 = 148 ∧ sR σ 101 74 = 149 ∧ sR σ 101 75 = 150 ∧ sR σ 101 77 = 151 ∧ sR σ 101 78 = 152)
def Lay (σ : St) : Prop := LayK σ ∧ LayR σ ∧ 153 ≤ sN σ
theorem Lay_wI {σ : St} {a k : Nat} {v : Int32} (h : Lay σ) : Lay (wI σ a k v) := h
theorem Lay_wL {σ : St} {a k : Nat} {v : Int64} (h : Lay σ) : Lay (wL σ a k v) := h
theorem sI_wI (σ : St) (a k : Nat) (v : Int32) (b j : Nat) : sI (wI σ a k v) b j = if b = a ∧ j = k then v else sI σ b j := rfl
theorem sI_wL (σ : St) (a k : Nat) (v : Int64) : sI (wL σ a k v) = sI σ := rfl
theorem sI_wR (σ : St) (a k : Nat) (v : Nat) : sI (wR σ a k v) = sI σ := rfl
theorem sK_wI (σ : St) (a k : Nat) (v : Int32) : sK (wI σ a k v) = sK σ := rfl
theorem sK_wL (σ : St) (a k : Nat) (v : Int64) : sK (wL σ a k v) = sK σ := rfl
theorem sK_wR (σ : St) (a k : Nat) (v : Nat) : sK (wR σ a k v) = sK σ := rfl
theorem sR_wI (σ : St) (a k : Nat) (v : Int32) : sR (wI σ a k v) = sR σ := rfl
theorem sR_wL (σ : St) (a k : Nat) (v : Int64) : sR (wL σ a k v) = sR σ := rfl
theorem sL_wI (σ : St) (a k : Nat) (v : Int32) : sL (wI σ a k v) = sL σ := rfl
theorem sL_wR (σ : St) (a k : Nat) (v : Nat) : sL (wR σ a k v) = sL σ := rfl
theorem sL_wL (σ : St) (a k : Nat) (v : Int64) (b j : Nat) : sL (wL σ a k v) b j = if b = a ∧ j = k then v else sL σ b j := rfl
theorem sN_wI (σ : St) (a k : Nat) (v : Int32) : sN (wI σ a k v) = sN σ := rfl
theorem sN_wL (σ : St) (a k : Nat) (v : Int64) : sN (wL σ a k v) = sN σ := rfl
theorem sN_wR (σ : St) (a k : Nat) (v : Nat) : sN (wR σ a k v) = sN σ := rfl
theorem gd_t {α : Type} {b : Bool} {x : Option α} (h : b = true) : gd b x = x := by subst h; rfl
theorem bd_s {α β : Type} {x : Option (α × St)} {a : α} {σ : St} {g : α → St → Option β} (h : x = some (a, σ)) : bd x g = g a σ := by subst h; rfl
theorem lt_b {α β : Type} (a : α) (g : α → β) : lt a g = g a := rfl
theorem nz_s {n : Nat} : nz (n + 1) = true := rfl
theorem nz_t {b : Nat} (h : 0 < b) : nz b = true := by cases b with | zero => omega | succ n => rfl
/-- a cell of the fixed ones is there -/
theorem ob_l {σ : St} (h : Lay σ) {a k : Nat} (h1 : 1 ≤ a) (h2 : a ≤ 153) (hk : (sK σ a).1 = k) : ob σ a k = true := by
  simp only [ob, Bool.and_eq_true, beq_iff_eq, decide_eq_true_eq]
  exact ⟨hk, h1, Nat.le_trans h2 h.2.2⟩
theorem inb_n {σ : St} {a k len : Nat} (hl : (sK σ a).2 = len) (h : k < len) (h2 : len < 2147483648) : inb σ a (nI k) = true := by
  simp only [inb, Bool.and_eq_true, decide_eq_true_eq]
  rw [hl, nI_toInt (by omega)]
  omega
theorem ix_n {k : Nat} (h : k < 2147483648) : ix (nI k) = k := nI_clamp h
/-- the tables, mills, books by their numbers -/
theorem lay_tab {σ : St} (h : Lay σ) {t : Nat} (ht : t < 7) : sR σ 4 t = 8 + 3 * t ∧ sK σ (8 + 3 * t) = (9, 3) ∧ sK σ (9 + 3 * t) = (14, 8) ∧ sK σ (10 + 3 * t) = (14, 8) ∧ sR σ (8 + 3 * t) 0 = 9 + 3 * t ∧ sR σ (8 + 3 * t) 1 = 10 + 3 * t := by
  obtain ⟨hK, hR, -⟩ := h
  unfold LayK at hK
  unfold LayR at hR
  have : t = 0 ∨ t = 1 ∨ t = 2 ∨ t = 3 ∨ t = 4 ∨ t = 5 ∨ t = 6 := by omega
  rcases this with rfl | rfl | rfl | rfl | rfl | rfl | rfl <;> simp only [hK, hR] <;> simp
theorem kL1 {σ : St} (L : Lay σ) : sK σ 1 = (11, 9) := L.1.1.1
theorem oL1 {σ : St} (L : Lay σ) : ob σ 1 11 = true := ob_l L (by decide) (by decide) (by rw [kL1 L])
theorem lL1 {σ : St} (L : Lay σ) : (sK σ 1).2 = 9 := by rw [kL1 L]
theorem kL2 {σ : St} (L : Lay σ) : sK σ 2 = (8, 6) := L.1.1.2.1
theorem oL2 {σ : St} (L : Lay σ) : ob σ 2 8 = true := ob_l L (by decide) (by decide) (by rw [kL2 L])
theorem lL2 {σ : St} (L : Lay σ) : (sK σ 2).2 = 6 := by rw [kL2 L]
theorem kL3 {σ : St} (L : Lay σ) : sK σ 3 = (14, 72) := L.1.1.2.2.1
theorem oL3 {σ : St} (L : Lay σ) : ob σ 3 14 = true := ob_l L (by decide) (by decide) (by rw [kL3 L])
theorem lL3 {σ : St} (L : Lay σ) : (sK σ 3).2 = 72 := by rw [kL3 L]
theorem kL4 {σ : St} (L : Lay σ) : sK σ 4 = (19, 7) := L.1.1.2.2.2.1
theorem oL4 {σ : St} (L : Lay σ) : ob σ 4 19 = true := ob_l L (by decide) (by decide) (by rw [kL4 L])
theorem lL4 {σ : St} (L : Lay σ) : (sK σ 4).2 = 7 := by rw [kL4 L]
theorem kL5 {σ : St} (L : Lay σ) : sK σ 5 = (17, 6) := L.1.1.2.2.2.2.1
theorem oL5 {σ : St} (L : Lay σ) : ob σ 5 17 = true := ob_l L (by decide) (by decide) (by rw [kL5 L])
theorem lL5 {σ : St} (L : Lay σ) : (sK σ 5).2 = 6 := by rw [kL5 L]
theorem kL6 {σ : St} (L : Lay σ) : sK σ 6 = (14, 6) := L.1.1.2.2.2.2.2.1
theorem oL6 {σ : St} (L : Lay σ) : ob σ 6 14 = true := ob_l L (by decide) (by decide) (by rw [kL6 L])
theorem lL6 {σ : St} (L : Lay σ) : (sK σ 6).2 = 6 := by rw [kL6 L]
theorem kL7 {σ : St} (L : Lay σ) : sK σ 7 = (14, 6) := L.1.1.2.2.2.2.2.2.1
theorem oL7 {σ : St} (L : Lay σ) : ob σ 7 14 = true := ob_l L (by decide) (by decide) (by rw [kL7 L])
theorem lL7 {σ : St} (L : Lay σ) : (sK σ 7).2 = 6 := by rw [kL7 L]
theorem kL8 {σ : St} (L : Lay σ) : sK σ 8 = (9, 3) := L.1.1.2.2.2.2.2.2.2.1
theorem oL8 {σ : St} (L : Lay σ) : ob σ 8 9 = true := ob_l L (by decide) (by decide) (by rw [kL8 L])
theorem lL8 {σ : St} (L : Lay σ) : (sK σ 8).2 = 3 := by rw [kL8 L]
theorem kL9 {σ : St} (L : Lay σ) : sK σ 9 = (14, 8) := L.1.1.2.2.2.2.2.2.2.2.1
theorem oL9 {σ : St} (L : Lay σ) : ob σ 9 14 = true := ob_l L (by decide) (by decide) (by rw [kL9 L])
theorem lL9 {σ : St} (L : Lay σ) : (sK σ 9).2 = 8 := by rw [kL9 L]
theorem kL10 {σ : St} (L : Lay σ) : sK σ 10 = (14, 8) := L.1.1.2.2.2.2.2.2.2.2.2.1
theorem oL10 {σ : St} (L : Lay σ) : ob σ 10 14 = true := ob_l L (by decide) (by decide) (by rw [kL10 L])
theorem lL10 {σ : St} (L : Lay σ) : (sK σ 10).2 = 8 := by rw [kL10 L]
theorem kL11 {σ : St} (L : Lay σ) : sK σ 11 = (9, 3) := L.1.1.2.2.2.2.2.2.2.2.2.2.1
theorem oL11 {σ : St} (L : Lay σ) : ob σ 11 9 = true := ob_l L (by decide) (by decide) (by rw [kL11 L])
theorem lL11 {σ : St} (L : Lay σ) : (sK σ 11).2 = 3 := by rw [kL11 L]
theorem kL12 {σ : St} (L : Lay σ) : sK σ 12 = (14, 8) := L.1.1.2.2.2.2.2.2.2.2.2.2.2.1
theorem oL12 {σ : St} (L : Lay σ) : ob σ 12 14 = true := ob_l L (by decide) (by decide) (by rw [kL12 L])
theorem lL12 {σ : St} (L : Lay σ) : (sK σ 12).2 = 8 := by rw [kL12 L]
theorem kL13 {σ : St} (L : Lay σ) : sK σ 13 = (14, 8) := L.1.1.2.2.2.2.2.2.2.2.2.2.2.2.1
theorem oL13 {σ : St} (L : Lay σ) : ob σ 13 14 = true := ob_l L (by decide) (by decide) (by rw [kL13 L])
theorem lL13 {σ : St} (L : Lay σ) : (sK σ 13).2 = 8 := by rw [kL13 L]
theorem kL14 {σ : St} (L : Lay σ) : sK σ 14 = (9, 3) := L.1.1.2.2.2.2.2.2.2.2.2.2.2.2.2.1
theorem oL14 {σ : St} (L : Lay σ) : ob σ 14 9 = true := ob_l L (by decide) (by decide) (by rw [kL14 L])
theorem lL14 {σ : St} (L : Lay σ) : (sK σ 14).2 = 3 := by rw [kL14 L]
theorem kL15 {σ : St} (L : Lay σ) : sK σ 15 = (14, 8) := L.1.1.2.2.2.2.2.2.2.2.2.2.2.2.2.2.1
theorem oL15 {σ : St} (L : Lay σ) : ob σ 15 14 = true := ob_l L (by decide) (by decide) (by rw [kL15 L])
theorem lL15 {σ : St} (L : Lay σ) : (sK σ 15).2 = 8 := by rw [kL15 L]
theorem kL16 {σ : St} (L : Lay σ) : sK σ 16 = (14, 8) := L.1.1.2.2.2.2.2.2.2.2.2.2.2.2.2.2.2
theorem oL16 {σ : St} (L : Lay σ) : ob σ 16 14 = true := ob_l L (by decide) (by decide) (by rw [kL16 L])
theorem lL16 {σ : St} (L : Lay σ) : (sK σ 16).2 = 8 := by rw [kL16 L]
theorem kL17 {σ : St} (L : Lay σ) : sK σ 17 = (9, 3) := L.1.2.1.1
theorem oL17 {σ : St} (L : Lay σ) : ob σ 17 9 = true := ob_l L (by decide) (by decide) (by rw [kL17 L])
theorem lL17 {σ : St} (L : Lay σ) : (sK σ 17).2 = 3 := by rw [kL17 L]
theorem kL18 {σ : St} (L : Lay σ) : sK σ 18 = (14, 8) := L.1.2.1.2.1
theorem oL18 {σ : St} (L : Lay σ) : ob σ 18 14 = true := ob_l L (by decide) (by decide) (by rw [kL18 L])
theorem lL18 {σ : St} (L : Lay σ) : (sK σ 18).2 = 8 := by rw [kL18 L]
theorem kL19 {σ : St} (L : Lay σ) : sK σ 19 = (14, 8) := L.1.2.1.2.2.1
theorem oL19 {σ : St} (L : Lay σ) : ob σ 19 14 = true := ob_l L (by decide) (by decide) (by rw [kL19 L])
theorem lL19 {σ : St} (L : Lay σ) : (sK σ 19).2 = 8 := by rw [kL19 L]
theorem kL20 {σ : St} (L : Lay σ) : sK σ 20 = (9, 3) := L.1.2.1.2.2.2.1
theorem oL20 {σ : St} (L : Lay σ) : ob σ 20 9 = true := ob_l L (by decide) (by decide) (by rw [kL20 L])
theorem lL20 {σ : St} (L : Lay σ) : (sK σ 20).2 = 3 := by rw [kL20 L]
theorem kL21 {σ : St} (L : Lay σ) : sK σ 21 = (14, 8) := L.1.2.1.2.2.2.2.1
theorem oL21 {σ : St} (L : Lay σ) : ob σ 21 14 = true := ob_l L (by decide) (by decide) (by rw [kL21 L])
theorem lL21 {σ : St} (L : Lay σ) : (sK σ 21).2 = 8 := by rw [kL21 L]
theorem kL22 {σ : St} (L : Lay σ) : sK σ 22 = (14, 8) := L.1.2.1.2.2.2.2.2.1
theorem oL22 {σ : St} (L : Lay σ) : ob σ 22 14 = true := ob_l L (by decide) (by decide) (by rw [kL22 L])
theorem lL22 {σ : St} (L : Lay σ) : (sK σ 22).2 = 8 := by rw [kL22 L]
theorem kL23 {σ : St} (L : Lay σ) : sK σ 23 = (9, 3) := L.1.2.1.2.2.2.2.2.2.1
theorem oL23 {σ : St} (L : Lay σ) : ob σ 23 9 = true := ob_l L (by decide) (by decide) (by rw [kL23 L])
theorem lL23 {σ : St} (L : Lay σ) : (sK σ 23).2 = 3 := by rw [kL23 L]
theorem kL24 {σ : St} (L : Lay σ) : sK σ 24 = (14, 8) := L.1.2.1.2.2.2.2.2.2.2.1
theorem oL24 {σ : St} (L : Lay σ) : ob σ 24 14 = true := ob_l L (by decide) (by decide) (by rw [kL24 L])
theorem lL24 {σ : St} (L : Lay σ) : (sK σ 24).2 = 8 := by rw [kL24 L]
theorem kL25 {σ : St} (L : Lay σ) : sK σ 25 = (14, 8) := L.1.2.1.2.2.2.2.2.2.2.2.1
theorem oL25 {σ : St} (L : Lay σ) : ob σ 25 14 = true := ob_l L (by decide) (by decide) (by rw [kL25 L])
theorem lL25 {σ : St} (L : Lay σ) : (sK σ 25).2 = 8 := by rw [kL25 L]
theorem kL26 {σ : St} (L : Lay σ) : sK σ 26 = (9, 3) := L.1.2.1.2.2.2.2.2.2.2.2.2.1
theorem oL26 {σ : St} (L : Lay σ) : ob σ 26 9 = true := ob_l L (by decide) (by decide) (by rw [kL26 L])
theorem lL26 {σ : St} (L : Lay σ) : (sK σ 26).2 = 3 := by rw [kL26 L]
theorem kL27 {σ : St} (L : Lay σ) : sK σ 27 = (14, 8) := L.1.2.1.2.2.2.2.2.2.2.2.2.2.1
theorem oL27 {σ : St} (L : Lay σ) : ob σ 27 14 = true := ob_l L (by decide) (by decide) (by rw [kL27 L])
theorem lL27 {σ : St} (L : Lay σ) : (sK σ 27).2 = 8 := by rw [kL27 L]
theorem kL28 {σ : St} (L : Lay σ) : sK σ 28 = (14, 8) := L.1.2.1.2.2.2.2.2.2.2.2.2.2.2.1
theorem oL28 {σ : St} (L : Lay σ) : ob σ 28 14 = true := ob_l L (by decide) (by decide) (by rw [kL28 L])
theorem lL28 {σ : St} (L : Lay σ) : (sK σ 28).2 = 8 := by rw [kL28 L]
theorem kL29 {σ : St} (L : Lay σ) : sK σ 29 = (0, 7) := L.1.2.1.2.2.2.2.2.2.2.2.2.2.2.2.1
theorem oL29 {σ : St} (L : Lay σ) : ob σ 29 0 = true := ob_l L (by decide) (by decide) (by rw [kL29 L])
theorem lL29 {σ : St} (L : Lay σ) : (sK σ 29).2 = 7 := by rw [kL29 L]
theorem kL30 {σ : St} (L : Lay σ) : sK σ 30 = (0, 7) := L.1.2.1.2.2.2.2.2.2.2.2.2.2.2.2.2.1
theorem oL30 {σ : St} (L : Lay σ) : ob σ 30 0 = true := ob_l L (by decide) (by decide) (by rw [kL30 L])
theorem lL30 {σ : St} (L : Lay σ) : (sK σ 30).2 = 7 := by rw [kL30 L]
theorem kL31 {σ : St} (L : Lay σ) : sK σ 31 = (0, 7) := L.1.2.1.2.2.2.2.2.2.2.2.2.2.2.2.2.2.1
theorem oL31 {σ : St} (L : Lay σ) : ob σ 31 0 = true := ob_l L (by decide) (by decide) (by rw [kL31 L])
theorem lL31 {σ : St} (L : Lay σ) : (sK σ 31).2 = 7 := by rw [kL31 L]
theorem kL32 {σ : St} (L : Lay σ) : sK σ 32 = (0, 7) := L.1.2.1.2.2.2.2.2.2.2.2.2.2.2.2.2.2.2
theorem oL32 {σ : St} (L : Lay σ) : ob σ 32 0 = true := ob_l L (by decide) (by decide) (by rw [kL32 L])
theorem lL32 {σ : St} (L : Lay σ) : (sK σ 32).2 = 7 := by rw [kL32 L]
theorem kL33 {σ : St} (L : Lay σ) : sK σ 33 = (0, 7) := L.1.2.2.1.1
theorem oL33 {σ : St} (L : Lay σ) : ob σ 33 0 = true := ob_l L (by decide) (by decide) (by rw [kL33 L])
theorem lL33 {σ : St} (L : Lay σ) : (sK σ 33).2 = 7 := by rw [kL33 L]
theorem kL34 {σ : St} (L : Lay σ) : sK σ 34 = (0, 7) := L.1.2.2.1.2.1
theorem oL34 {σ : St} (L : Lay σ) : ob σ 34 0 = true := ob_l L (by decide) (by decide) (by rw [kL34 L])
theorem lL34 {σ : St} (L : Lay σ) : (sK σ 34).2 = 7 := by rw [kL34 L]
theorem kL35 {σ : St} (L : Lay σ) : sK σ 35 = (4, 8) := L.1.2.2.1.2.2.1
theorem oL35 {σ : St} (L : Lay σ) : ob σ 35 4 = true := ob_l L (by decide) (by decide) (by rw [kL35 L])
theorem lL35 {σ : St} (L : Lay σ) : (sK σ 35).2 = 8 := by rw [kL35 L]
theorem kL36 {σ : St} (L : Lay σ) : sK σ 36 = (1, 4) := L.1.2.2.1.2.2.2.1
theorem oL36 {σ : St} (L : Lay σ) : ob σ 36 1 = true := ob_l L (by decide) (by decide) (by rw [kL36 L])
theorem lL36 {σ : St} (L : Lay σ) : (sK σ 36).2 = 4 := by rw [kL36 L]
theorem kL37 {σ : St} (L : Lay σ) : sK σ 37 = (14, 200) := L.1.2.2.1.2.2.2.2.1
theorem oL37 {σ : St} (L : Lay σ) : ob σ 37 14 = true := ob_l L (by decide) (by decide) (by rw [kL37 L])
theorem lL37 {σ : St} (L : Lay σ) : (sK σ 37).2 = 200 := by rw [kL37 L]
theorem kL38 {σ : St} (L : Lay σ) : sK σ 38 = (14, 200) := L.1.2.2.1.2.2.2.2.2.1
theorem oL38 {σ : St} (L : Lay σ) : ob σ 38 14 = true := ob_l L (by decide) (by decide) (by rw [kL38 L])
theorem lL38 {σ : St} (L : Lay σ) : (sK σ 38).2 = 200 := by rw [kL38 L]
theorem kL39 {σ : St} (L : Lay σ) : sK σ 39 = (14, 200) := L.1.2.2.1.2.2.2.2.2.2.1
theorem oL39 {σ : St} (L : Lay σ) : ob σ 39 14 = true := ob_l L (by decide) (by decide) (by rw [kL39 L])
theorem lL39 {σ : St} (L : Lay σ) : (sK σ 39).2 = 200 := by rw [kL39 L]
theorem kL40 {σ : St} (L : Lay σ) : sK σ 40 = (1, 4) := L.1.2.2.1.2.2.2.2.2.2.2.1
theorem oL40 {σ : St} (L : Lay σ) : ob σ 40 1 = true := ob_l L (by decide) (by decide) (by rw [kL40 L])
theorem lL40 {σ : St} (L : Lay σ) : (sK σ 40).2 = 4 := by rw [kL40 L]
theorem kL41 {σ : St} (L : Lay σ) : sK σ 41 = (14, 200) := L.1.2.2.1.2.2.2.2.2.2.2.2.1
theorem oL41 {σ : St} (L : Lay σ) : ob σ 41 14 = true := ob_l L (by decide) (by decide) (by rw [kL41 L])
theorem lL41 {σ : St} (L : Lay σ) : (sK σ 41).2 = 200 := by rw [kL41 L]
theorem kL42 {σ : St} (L : Lay σ) : sK σ 42 = (14, 200) := L.1.2.2.1.2.2.2.2.2.2.2.2.2.1
theorem oL42 {σ : St} (L : Lay σ) : ob σ 42 14 = true := ob_l L (by decide) (by decide) (by rw [kL42 L])
theorem lL42 {σ : St} (L : Lay σ) : (sK σ 42).2 = 200 := by rw [kL42 L]
theorem kL43 {σ : St} (L : Lay σ) : sK σ 43 = (14, 200) := L.1.2.2.1.2.2.2.2.2.2.2.2.2.2.1
theorem oL43 {σ : St} (L : Lay σ) : ob σ 43 14 = true := ob_l L (by decide) (by decide) (by rw [kL43 L])
theorem lL43 {σ : St} (L : Lay σ) : (sK σ 43).2 = 200 := by rw [kL43 L]
theorem kL44 {σ : St} (L : Lay σ) : sK σ 44 = (18, 2) := L.1.2.2.1.2.2.2.2.2.2.2.2.2.2.2.1
theorem oL44 {σ : St} (L : Lay σ) : ob σ 44 18 = true := ob_l L (by decide) (by decide) (by rw [kL44 L])
theorem lL44 {σ : St} (L : Lay σ) : (sK σ 44).2 = 2 := by rw [kL44 L]
theorem kL45 {σ : St} (L : Lay σ) : sK σ 45 = (20, 24) := L.1.2.2.1.2.2.2.2.2.2.2.2.2.2.2.2.1
theorem oL45 {σ : St} (L : Lay σ) : ob σ 45 20 = true := ob_l L (by decide) (by decide) (by rw [kL45 L])
theorem lL45 {σ : St} (L : Lay σ) : (sK σ 45).2 = 24 := by rw [kL45 L]
theorem kL46 {σ : St} (L : Lay σ) : sK σ 46 = (7, 13) := L.1.2.2.1.2.2.2.2.2.2.2.2.2.2.2.2.2.1
theorem oL46 {σ : St} (L : Lay σ) : ob σ 46 7 = true := ob_l L (by decide) (by decide) (by rw [kL46 L])
theorem lL46 {σ : St} (L : Lay σ) : (sK σ 46).2 = 13 := by rw [kL46 L]
theorem kL47 {σ : St} (L : Lay σ) : sK σ 47 = (14, 401) := L.1.2.2.1.2.2.2.2.2.2.2.2.2.2.2.2.2.2.1
theorem oL47 {σ : St} (L : Lay σ) : ob σ 47 14 = true := ob_l L (by decide) (by decide) (by rw [kL47 L])
theorem lL47 {σ : St} (L : Lay σ) : (sK σ 47).2 = 401 := by rw [kL47 L]
theorem kL48 {σ : St} (L : Lay σ) : sK σ 48 = (14, 401) := L.1.2.2.1.2.2.2.2.2.2.2.2.2.2.2.2.2.2.2
theorem oL48 {σ : St} (L : Lay σ) : ob σ 48 14 = true := ob_l L (by decide) (by decide) (by rw [kL48 L])
theorem lL48 {σ : St} (L : Lay σ) : (sK σ 48).2 = 401 := by rw [kL48 L]
theorem kL49 {σ : St} (L : Lay σ) : sK σ 49 = (15, 401) := L.1.2.2.2.1.1
theorem oL49 {σ : St} (L : Lay σ) : ob σ 49 15 = true := ob_l L (by decide) (by decide) (by rw [kL49 L])
theorem lL49 {σ : St} (L : Lay σ) : (sK σ 49).2 = 401 := by rw [kL49 L]
theorem kL50 {σ : St} (L : Lay σ) : sK σ 50 = (15, 10) := L.1.2.2.2.1.2.1
theorem oL50 {σ : St} (L : Lay σ) : ob σ 50 15 = true := ob_l L (by decide) (by decide) (by rw [kL50 L])
theorem lL50 {σ : St} (L : Lay σ) : (sK σ 50).2 = 10 := by rw [kL50 L]
theorem kL51 {σ : St} (L : Lay σ) : sK σ 51 = (15, 15) := L.1.2.2.2.1.2.2.1
theorem oL51 {σ : St} (L : Lay σ) : ob σ 51 15 = true := ob_l L (by decide) (by decide) (by rw [kL51 L])
theorem lL51 {σ : St} (L : Lay σ) : (sK σ 51).2 = 15 := by rw [kL51 L]
theorem kL52 {σ : St} (L : Lay σ) : sK σ 52 = (10, 7) := L.1.2.2.2.1.2.2.2.1
theorem oL52 {σ : St} (L : Lay σ) : ob σ 52 10 = true := ob_l L (by decide) (by decide) (by rw [kL52 L])
theorem lL52 {σ : St} (L : Lay σ) : (sK σ 52).2 = 7 := by rw [kL52 L]
theorem kL53 {σ : St} (L : Lay σ) : sK σ 53 = (14, 400) := L.1.2.2.2.1.2.2.2.2.1
theorem oL53 {σ : St} (L : Lay σ) : ob σ 53 14 = true := ob_l L (by decide) (by decide) (by rw [kL53 L])
theorem lL53 {σ : St} (L : Lay σ) : (sK σ 53).2 = 400 := by rw [kL53 L]
theorem kL54 {σ : St} (L : Lay σ) : sK σ 54 = (14, 20) := L.1.2.2.2.1.2.2.2.2.2.1
theorem oL54 {σ : St} (L : Lay σ) : ob σ 54 14 = true := ob_l L (by decide) (by decide) (by rw [kL54 L])
theorem lL54 {σ : St} (L : Lay σ) : (sK σ 54).2 = 20 := by rw [kL54 L]
theorem kL55 {σ : St} (L : Lay σ) : sK σ 55 = (14, 20) := L.1.2.2.2.1.2.2.2.2.2.2.1
theorem oL55 {σ : St} (L : Lay σ) : ob σ 55 14 = true := ob_l L (by decide) (by decide) (by rw [kL55 L])
theorem lL55 {σ : St} (L : Lay σ) : (sK σ 55).2 = 20 := by rw [kL55 L]
theorem kL56 {σ : St} (L : Lay σ) : sK σ 56 = (14, 20) := L.1.2.2.2.1.2.2.2.2.2.2.2.1
theorem oL56 {σ : St} (L : Lay σ) : ob σ 56 14 = true := ob_l L (by decide) (by decide) (by rw [kL56 L])
theorem lL56 {σ : St} (L : Lay σ) : (sK σ 56).2 = 20 := by rw [kL56 L]
theorem kL57 {σ : St} (L : Lay σ) : sK σ 57 = (14, 20) := L.1.2.2.2.1.2.2.2.2.2.2.2.2.1
theorem oL57 {σ : St} (L : Lay σ) : ob σ 57 14 = true := ob_l L (by decide) (by decide) (by rw [kL57 L])
theorem lL57 {σ : St} (L : Lay σ) : (sK σ 57).2 = 20 := by rw [kL57 L]
theorem kL58 {σ : St} (L : Lay σ) : sK σ 58 = (14, 15) := L.1.2.2.2.1.2.2.2.2.2.2.2.2.2.1
theorem oL58 {σ : St} (L : Lay σ) : ob σ 58 14 = true := ob_l L (by decide) (by decide) (by rw [kL58 L])
theorem lL58 {σ : St} (L : Lay σ) : (sK σ 58).2 = 15 := by rw [kL58 L]
theorem kL59 {σ : St} (L : Lay σ) : sK σ 59 = (14, 64) := L.1.2.2.2.1.2.2.2.2.2.2.2.2.2.2.1
theorem oL59 {σ : St} (L : Lay σ) : ob σ 59 14 = true := ob_l L (by decide) (by decide) (by rw [kL59 L])
theorem lL59 {σ : St} (L : Lay σ) : (sK σ 59).2 = 64 := by rw [kL59 L]
theorem kL60 {σ : St} (L : Lay σ) : sK σ 60 = (1, 4) := L.1.2.2.2.1.2.2.2.2.2.2.2.2.2.2.2.1
theorem oL60 {σ : St} (L : Lay σ) : ob σ 60 1 = true := ob_l L (by decide) (by decide) (by rw [kL60 L])
theorem lL60 {σ : St} (L : Lay σ) : (sK σ 60).2 = 4 := by rw [kL60 L]
theorem kL61 {σ : St} (L : Lay σ) : sK σ 61 = (14, 12) := L.1.2.2.2.1.2.2.2.2.2.2.2.2.2.2.2.2.1
theorem oL61 {σ : St} (L : Lay σ) : ob σ 61 14 = true := ob_l L (by decide) (by decide) (by rw [kL61 L])
theorem lL61 {σ : St} (L : Lay σ) : (sK σ 61).2 = 12 := by rw [kL61 L]
theorem kL62 {σ : St} (L : Lay σ) : sK σ 62 = (14, 12) := L.1.2.2.2.1.2.2.2.2.2.2.2.2.2.2.2.2.2.1
theorem oL62 {σ : St} (L : Lay σ) : ob σ 62 14 = true := ob_l L (by decide) (by decide) (by rw [kL62 L])
theorem lL62 {σ : St} (L : Lay σ) : (sK σ 62).2 = 12 := by rw [kL62 L]
theorem kL63 {σ : St} (L : Lay σ) : sK σ 63 = (14, 12) := L.1.2.2.2.1.2.2.2.2.2.2.2.2.2.2.2.2.2.2.1
theorem oL63 {σ : St} (L : Lay σ) : ob σ 63 14 = true := ob_l L (by decide) (by decide) (by rw [kL63 L])
theorem lL63 {σ : St} (L : Lay σ) : (sK σ 63).2 = 12 := by rw [kL63 L]
theorem kL64 {σ : St} (L : Lay σ) : sK σ 64 = (1, 4) := L.1.2.2.2.1.2.2.2.2.2.2.2.2.2.2.2.2.2.2.2
theorem oL64 {σ : St} (L : Lay σ) : ob σ 64 1 = true := ob_l L (by decide) (by decide) (by rw [kL64 L])
theorem lL64 {σ : St} (L : Lay σ) : (sK σ 64).2 = 4 := by rw [kL64 L]
theorem kL65 {σ : St} (L : Lay σ) : sK σ 65 = (14, 12) := L.1.2.2.2.2.1.1
theorem oL65 {σ : St} (L : Lay σ) : ob σ 65 14 = true := ob_l L (by decide) (by decide) (by rw [kL65 L])
theorem lL65 {σ : St} (L : Lay σ) : (sK σ 65).2 = 12 := by rw [kL65 L]
theorem kL66 {σ : St} (L : Lay σ) : sK σ 66 = (14, 12) := L.1.2.2.2.2.1.2.1
theorem oL66 {σ : St} (L : Lay σ) : ob σ 66 14 = true := ob_l L (by decide) (by decide) (by rw [kL66 L])
theorem lL66 {σ : St} (L : Lay σ) : (sK σ 66).2 = 12 := by rw [kL66 L]
theorem kL67 {σ : St} (L : Lay σ) : sK σ 67 = (14, 12) := L.1.2.2.2.2.1.2.2.1
theorem oL67 {σ : St} (L : Lay σ) : ob σ 67 14 = true := ob_l L (by decide) (by decide) (by rw [kL67 L])
theorem lL67 {σ : St} (L : Lay σ) : (sK σ 67).2 = 12 := by rw [kL67 L]
theorem kL68 {σ : St} (L : Lay σ) : sK σ 68 = (2, 6) := L.1.2.2.2.2.1.2.2.2.1
theorem oL68 {σ : St} (L : Lay σ) : ob σ 68 2 = true := ob_l L (by decide) (by decide) (by rw [kL68 L])
theorem lL68 {σ : St} (L : Lay σ) : (sK σ 68).2 = 6 := by rw [kL68 L]
theorem kL69 {σ : St} (L : Lay σ) : sK σ 69 = (14, 1500) := L.1.2.2.2.2.1.2.2.2.2.1
theorem oL69 {σ : St} (L : Lay σ) : ob σ 69 14 = true := ob_l L (by decide) (by decide) (by rw [kL69 L])
theorem lL69 {σ : St} (L : Lay σ) : (sK σ 69).2 = 1500 := by rw [kL69 L]
theorem kL70 {σ : St} (L : Lay σ) : sK σ 70 = (3, 10) := L.1.2.2.2.2.1.2.2.2.2.2.1
theorem oL70 {σ : St} (L : Lay σ) : ob σ 70 3 = true := ob_l L (by decide) (by decide) (by rw [kL70 L])
theorem lL70 {σ : St} (L : Lay σ) : (sK σ 70).2 = 10 := by rw [kL70 L]
theorem kL71 {σ : St} (L : Lay σ) : sK σ 71 = (14, 2) := L.1.2.2.2.2.1.2.2.2.2.2.2.1
theorem oL71 {σ : St} (L : Lay σ) : ob σ 71 14 = true := ob_l L (by decide) (by decide) (by rw [kL71 L])
theorem lL71 {σ : St} (L : Lay σ) : (sK σ 71).2 = 2 := by rw [kL71 L]
theorem kL72 {σ : St} (L : Lay σ) : sK σ 72 = (14, 2) := L.1.2.2.2.2.1.2.2.2.2.2.2.2.1
theorem oL72 {σ : St} (L : Lay σ) : ob σ 72 14 = true := ob_l L (by decide) (by decide) (by rw [kL72 L])
theorem lL72 {σ : St} (L : Lay σ) : (sK σ 72).2 = 2 := by rw [kL72 L]
theorem kL73 {σ : St} (L : Lay σ) : sK σ 73 = (14, 60) := L.1.2.2.2.2.1.2.2.2.2.2.2.2.2.1
theorem oL73 {σ : St} (L : Lay σ) : ob σ 73 14 = true := ob_l L (by decide) (by decide) (by rw [kL73 L])
theorem lL73 {σ : St} (L : Lay σ) : (sK σ 73).2 = 60 := by rw [kL73 L]
theorem kL74 {σ : St} (L : Lay σ) : sK σ 74 = (14, 60) := L.1.2.2.2.2.1.2.2.2.2.2.2.2.2.2.1
theorem oL74 {σ : St} (L : Lay σ) : ob σ 74 14 = true := ob_l L (by decide) (by decide) (by rw [kL74 L])
theorem lL74 {σ : St} (L : Lay σ) : (sK σ 74).2 = 60 := by rw [kL74 L]
theorem kL75 {σ : St} (L : Lay σ) : sK σ 75 = (14, 60) := L.1.2.2.2.2.1.2.2.2.2.2.2.2.2.2.2.1
theorem oL75 {σ : St} (L : Lay σ) : ob σ 75 14 = true := ob_l L (by decide) (by decide) (by rw [kL75 L])
theorem lL75 {σ : St} (L : Lay σ) : (sK σ 75).2 = 60 := by rw [kL75 L]
theorem kL76 {σ : St} (L : Lay σ) : sK σ 76 = (14, 60) := L.1.2.2.2.2.1.2.2.2.2.2.2.2.2.2.2.2.1
theorem oL76 {σ : St} (L : Lay σ) : ob σ 76 14 = true := ob_l L (by decide) (by decide) (by rw [kL76 L])
theorem lL76 {σ : St} (L : Lay σ) : (sK σ 76).2 = 60 := by rw [kL76 L]
theorem kL77 {σ : St} (L : Lay σ) : sK σ 77 = (14, 60) := L.1.2.2.2.2.1.2.2.2.2.2.2.2.2.2.2.2.2.1
theorem oL77 {σ : St} (L : Lay σ) : ob σ 77 14 = true := ob_l L (by decide) (by decide) (by rw [kL77 L])
theorem lL77 {σ : St} (L : Lay σ) : (sK σ 77).2 = 60 := by rw [kL77 L]
theorem kL78 {σ : St} (L : Lay σ) : sK σ 78 = (6, 16) := L.1.2.2.2.2.1.2.2.2.2.2.2.2.2.2.2.2.2.2.1
theorem oL78 {σ : St} (L : Lay σ) : ob σ 78 6 = true := ob_l L (by decide) (by decide) (by rw [kL78 L])
theorem lL78 {σ : St} (L : Lay σ) : (sK σ 78).2 = 16 := by rw [kL78 L]
theorem kL79 {σ : St} (L : Lay σ) : sK σ 79 = (14, 6) := L.1.2.2.2.2.1.2.2.2.2.2.2.2.2.2.2.2.2.2.2.1
theorem oL79 {σ : St} (L : Lay σ) : ob σ 79 14 = true := ob_l L (by decide) (by decide) (by rw [kL79 L])
theorem lL79 {σ : St} (L : Lay σ) : (sK σ 79).2 = 6 := by rw [kL79 L]
theorem kL80 {σ : St} (L : Lay σ) : sK σ 80 = (14, 3) := L.1.2.2.2.2.1.2.2.2.2.2.2.2.2.2.2.2.2.2.2.2
theorem oL80 {σ : St} (L : Lay σ) : ob σ 80 14 = true := ob_l L (by decide) (by decide) (by rw [kL80 L])
theorem lL80 {σ : St} (L : Lay σ) : (sK σ 80).2 = 3 := by rw [kL80 L]
theorem kL81 {σ : St} (L : Lay σ) : sK σ 81 = (21, 3) := L.1.2.2.2.2.2.1.1
theorem oL81 {σ : St} (L : Lay σ) : ob σ 81 21 = true := ob_l L (by decide) (by decide) (by rw [kL81 L])
theorem lL81 {σ : St} (L : Lay σ) : (sK σ 81).2 = 3 := by rw [kL81 L]
theorem kL82 {σ : St} (L : Lay σ) : sK σ 82 = (14, 25) := L.1.2.2.2.2.2.1.2.1
theorem oL82 {σ : St} (L : Lay σ) : ob σ 82 14 = true := ob_l L (by decide) (by decide) (by rw [kL82 L])
theorem lL82 {σ : St} (L : Lay σ) : (sK σ 82).2 = 25 := by rw [kL82 L]
theorem kL83 {σ : St} (L : Lay σ) : sK σ 83 = (14, 25) := L.1.2.2.2.2.2.1.2.2.1
theorem oL83 {σ : St} (L : Lay σ) : ob σ 83 14 = true := ob_l L (by decide) (by decide) (by rw [kL83 L])
theorem lL83 {σ : St} (L : Lay σ) : (sK σ 83).2 = 25 := by rw [kL83 L]
theorem kL84 {σ : St} (L : Lay σ) : sK σ 84 = (14, 25) := L.1.2.2.2.2.2.1.2.2.2.1
theorem oL84 {σ : St} (L : Lay σ) : ob σ 84 14 = true := ob_l L (by decide) (by decide) (by rw [kL84 L])
theorem lL84 {σ : St} (L : Lay σ) : (sK σ 84).2 = 25 := by rw [kL84 L]
theorem kL85 {σ : St} (L : Lay σ) : sK σ 85 = (14, 3) := L.1.2.2.2.2.2.1.2.2.2.2.1
theorem oL85 {σ : St} (L : Lay σ) : ob σ 85 14 = true := ob_l L (by decide) (by decide) (by rw [kL85 L])
theorem lL85 {σ : St} (L : Lay σ) : (sK σ 85).2 = 3 := by rw [kL85 L]
theorem kL86 {σ : St} (L : Lay σ) : sK σ 86 = (21, 3) := L.1.2.2.2.2.2.1.2.2.2.2.2.1
theorem oL86 {σ : St} (L : Lay σ) : ob σ 86 21 = true := ob_l L (by decide) (by decide) (by rw [kL86 L])
theorem lL86 {σ : St} (L : Lay σ) : (sK σ 86).2 = 3 := by rw [kL86 L]
theorem kL87 {σ : St} (L : Lay σ) : sK σ 87 = (14, 25) := L.1.2.2.2.2.2.1.2.2.2.2.2.2.1
theorem oL87 {σ : St} (L : Lay σ) : ob σ 87 14 = true := ob_l L (by decide) (by decide) (by rw [kL87 L])
theorem lL87 {σ : St} (L : Lay σ) : (sK σ 87).2 = 25 := by rw [kL87 L]
theorem kL88 {σ : St} (L : Lay σ) : sK σ 88 = (14, 25) := L.1.2.2.2.2.2.1.2.2.2.2.2.2.2.1
theorem oL88 {σ : St} (L : Lay σ) : ob σ 88 14 = true := ob_l L (by decide) (by decide) (by rw [kL88 L])
theorem lL88 {σ : St} (L : Lay σ) : (sK σ 88).2 = 25 := by rw [kL88 L]
theorem kL89 {σ : St} (L : Lay σ) : sK σ 89 = (14, 25) := L.1.2.2.2.2.2.1.2.2.2.2.2.2.2.2.1
theorem oL89 {σ : St} (L : Lay σ) : ob σ 89 14 = true := ob_l L (by decide) (by decide) (by rw [kL89 L])
theorem lL89 {σ : St} (L : Lay σ) : (sK σ 89).2 = 25 := by rw [kL89 L]
theorem kL90 {σ : St} (L : Lay σ) : sK σ 90 = (14, 4) := L.1.2.2.2.2.2.1.2.2.2.2.2.2.2.2.2.1
theorem oL90 {σ : St} (L : Lay σ) : ob σ 90 14 = true := ob_l L (by decide) (by decide) (by rw [kL90 L])
theorem lL90 {σ : St} (L : Lay σ) : (sK σ 90).2 = 4 := by rw [kL90 L]
theorem kL91 {σ : St} (L : Lay σ) : sK σ 91 = (14, 12) := L.1.2.2.2.2.2.1.2.2.2.2.2.2.2.2.2.2.1
theorem oL91 {σ : St} (L : Lay σ) : ob σ 91 14 = true := ob_l L (by decide) (by decide) (by rw [kL91 L])
theorem lL91 {σ : St} (L : Lay σ) : (sK σ 91).2 = 12 := by rw [kL91 L]
theorem kL92 {σ : St} (L : Lay σ) : sK σ 92 = (14, 6) := L.1.2.2.2.2.2.1.2.2.2.2.2.2.2.2.2.2.2.1
theorem oL92 {σ : St} (L : Lay σ) : ob σ 92 14 = true := ob_l L (by decide) (by decide) (by rw [kL92 L])
theorem lL92 {σ : St} (L : Lay σ) : (sK σ 92).2 = 6 := by rw [kL92 L]
theorem kL93 {σ : St} (L : Lay σ) : sK σ 93 = (14, 6) := L.1.2.2.2.2.2.1.2.2.2.2.2.2.2.2.2.2.2.2.1
theorem oL93 {σ : St} (L : Lay σ) : ob σ 93 14 = true := ob_l L (by decide) (by decide) (by rw [kL93 L])
theorem lL93 {σ : St} (L : Lay σ) : (sK σ 93).2 = 6 := by rw [kL93 L]
theorem kL94 {σ : St} (L : Lay σ) : sK σ 94 = (5, 10) := L.1.2.2.2.2.2.1.2.2.2.2.2.2.2.2.2.2.2.2.2.1
theorem oL94 {σ : St} (L : Lay σ) : ob σ 94 5 = true := ob_l L (by decide) (by decide) (by rw [kL94 L])
theorem lL94 {σ : St} (L : Lay σ) : (sK σ 94).2 = 10 := by rw [kL94 L]
theorem kL95 {σ : St} (L : Lay σ) : sK σ 95 = (14, 3) := L.1.2.2.2.2.2.1.2.2.2.2.2.2.2.2.2.2.2.2.2.2.1
theorem oL95 {σ : St} (L : Lay σ) : ob σ 95 14 = true := ob_l L (by decide) (by decide) (by rw [kL95 L])
theorem lL95 {σ : St} (L : Lay σ) : (sK σ 95).2 = 3 := by rw [kL95 L]
theorem kL96 {σ : St} (L : Lay σ) : sK σ 96 = (14, 3) := L.1.2.2.2.2.2.1.2.2.2.2.2.2.2.2.2.2.2.2.2.2.2
theorem oL96 {σ : St} (L : Lay σ) : ob σ 96 14 = true := ob_l L (by decide) (by decide) (by rw [kL96 L])
theorem lL96 {σ : St} (L : Lay σ) : (sK σ 96).2 = 3 := by rw [kL96 L]
theorem kL97 {σ : St} (L : Lay σ) : sK σ 97 = (14, 6) := L.1.2.2.2.2.2.2.1.1
theorem oL97 {σ : St} (L : Lay σ) : ob σ 97 14 = true := ob_l L (by decide) (by decide) (by rw [kL97 L])
theorem lL97 {σ : St} (L : Lay σ) : (sK σ 97).2 = 6 := by rw [kL97 L]
theorem kL98 {σ : St} (L : Lay σ) : sK σ 98 = (14, 72) := L.1.2.2.2.2.2.2.1.2.1
theorem oL98 {σ : St} (L : Lay σ) : ob σ 98 14 = true := ob_l L (by decide) (by decide) (by rw [kL98 L])
theorem lL98 {σ : St} (L : Lay σ) : (sK σ 98).2 = 72 := by rw [kL98 L]
theorem kL99 {σ : St} (L : Lay σ) : sK σ 99 = (14, 72) := L.1.2.2.2.2.2.2.1.2.2.1
theorem oL99 {σ : St} (L : Lay σ) : ob σ 99 14 = true := ob_l L (by decide) (by decide) (by rw [kL99 L])
theorem lL99 {σ : St} (L : Lay σ) : (sK σ 99).2 = 72 := by rw [kL99 L]
theorem kL100 {σ : St} (L : Lay σ) : sK σ 100 = (14, 400) := L.1.2.2.2.2.2.2.1.2.2.2.1
theorem oL100 {σ : St} (L : Lay σ) : ob σ 100 14 = true := ob_l L (by decide) (by decide) (by rw [kL100 L])
theorem lL100 {σ : St} (L : Lay σ) : (sK σ 100).2 = 400 := by rw [kL100 L]
theorem kL101 {σ : St} (L : Lay σ) : sK σ 101 = (12, 79) := L.1.2.2.2.2.2.2.1.2.2.2.2.1
theorem oL101 {σ : St} (L : Lay σ) : ob σ 101 12 = true := ob_l L (by decide) (by decide) (by rw [kL101 L])
theorem lL101 {σ : St} (L : Lay σ) : (sK σ 101).2 = 79 := by rw [kL101 L]
theorem kL102 {σ : St} (L : Lay σ) : sK σ 102 = (14, 72) := L.1.2.2.2.2.2.2.1.2.2.2.2.2.1
theorem oL102 {σ : St} (L : Lay σ) : ob σ 102 14 = true := ob_l L (by decide) (by decide) (by rw [kL102 L])
theorem lL102 {σ : St} (L : Lay σ) : (sK σ 102).2 = 72 := by rw [kL102 L]
theorem kL103 {σ : St} (L : Lay σ) : sK σ 103 = (14, 7) := L.1.2.2.2.2.2.2.1.2.2.2.2.2.2.1
theorem oL103 {σ : St} (L : Lay σ) : ob σ 103 14 = true := ob_l L (by decide) (by decide) (by rw [kL103 L])
theorem lL103 {σ : St} (L : Lay σ) : (sK σ 103).2 = 7 := by rw [kL103 L]
theorem kL104 {σ : St} (L : Lay σ) : sK σ 104 = (14, 56) := L.1.2.2.2.2.2.2.1.2.2.2.2.2.2.2.1
theorem oL104 {σ : St} (L : Lay σ) : ob σ 104 14 = true := ob_l L (by decide) (by decide) (by rw [kL104 L])
theorem lL104 {σ : St} (L : Lay σ) : (sK σ 104).2 = 56 := by rw [kL104 L]
theorem kL105 {σ : St} (L : Lay σ) : sK σ 105 = (14, 56) := L.1.2.2.2.2.2.2.1.2.2.2.2.2.2.2.2.1
theorem oL105 {σ : St} (L : Lay σ) : ob σ 105 14 = true := ob_l L (by decide) (by decide) (by rw [kL105 L])
theorem lL105 {σ : St} (L : Lay σ) : (sK σ 105).2 = 56 := by rw [kL105 L]
theorem kL106 {σ : St} (L : Lay σ) : sK σ 106 = (14, 6) := L.1.2.2.2.2.2.2.1.2.2.2.2.2.2.2.2.2.1
theorem oL106 {σ : St} (L : Lay σ) : ob σ 106 14 = true := ob_l L (by decide) (by decide) (by rw [kL106 L])
theorem lL106 {σ : St} (L : Lay σ) : (sK σ 106).2 = 6 := by rw [kL106 L]
theorem kL107 {σ : St} (L : Lay σ) : sK σ 107 = (14, 6) := L.1.2.2.2.2.2.2.1.2.2.2.2.2.2.2.2.2.2.1
theorem oL107 {σ : St} (L : Lay σ) : ob σ 107 14 = true := ob_l L (by decide) (by decide) (by rw [kL107 L])
theorem lL107 {σ : St} (L : Lay σ) : (sK σ 107).2 = 6 := by rw [kL107 L]
theorem kL108 {σ : St} (L : Lay σ) : sK σ 108 = (14, 6) := L.1.2.2.2.2.2.2.1.2.2.2.2.2.2.2.2.2.2.2.1
theorem oL108 {σ : St} (L : Lay σ) : ob σ 108 14 = true := ob_l L (by decide) (by decide) (by rw [kL108 L])
theorem lL108 {σ : St} (L : Lay σ) : (sK σ 108).2 = 6 := by rw [kL108 L]
theorem kL109 {σ : St} (L : Lay σ) : sK σ 109 = (14, 6) := L.1.2.2.2.2.2.2.1.2.2.2.2.2.2.2.2.2.2.2.2.1
theorem oL109 {σ : St} (L : Lay σ) : ob σ 109 14 = true := ob_l L (by decide) (by decide) (by rw [kL109 L])
theorem lL109 {σ : St} (L : Lay σ) : (sK σ 109).2 = 6 := by rw [kL109 L]
theorem kL110 {σ : St} (L : Lay σ) : sK σ 110 = (14, 6) := L.1.2.2.2.2.2.2.1.2.2.2.2.2.2.2.2.2.2.2.2.2.1
theorem oL110 {σ : St} (L : Lay σ) : ob σ 110 14 = true := ob_l L (by decide) (by decide) (by rw [kL110 L])
theorem lL110 {σ : St} (L : Lay σ) : (sK σ 110).2 = 6 := by rw [kL110 L]
theorem kL111 {σ : St} (L : Lay σ) : sK σ 111 = (14, 6) := L.1.2.2.2.2.2.2.1.2.2.2.2.2.2.2.2.2.2.2.2.2.2.1
theorem oL111 {σ : St} (L : Lay σ) : ob σ 111 14 = true := ob_l L (by decide) (by decide) (by rw [kL111 L])
theorem lL111 {σ : St} (L : Lay σ) : (sK σ 111).2 = 6 := by rw [kL111 L]
theorem kL112 {σ : St} (L : Lay σ) : sK σ 112 = (14, 6) := L.1.2.2.2.2.2.2.1.2.2.2.2.2.2.2.2.2.2.2.2.2.2.2
theorem oL112 {σ : St} (L : Lay σ) : ob σ 112 14 = true := ob_l L (by decide) (by decide) (by rw [kL112 L])
theorem lL112 {σ : St} (L : Lay σ) : (sK σ 112).2 = 6 := by rw [kL112 L]
theorem kL113 {σ : St} (L : Lay σ) : sK σ 113 = (14, 6) := L.1.2.2.2.2.2.2.2.1.1
theorem oL113 {σ : St} (L : Lay σ) : ob σ 113 14 = true := ob_l L (by decide) (by decide) (by rw [kL113 L])
theorem lL113 {σ : St} (L : Lay σ) : (sK σ 113).2 = 6 := by rw [kL113 L]
theorem kL114 {σ : St} (L : Lay σ) : sK σ 114 = (14, 200) := L.1.2.2.2.2.2.2.2.1.2.1
theorem oL114 {σ : St} (L : Lay σ) : ob σ 114 14 = true := ob_l L (by decide) (by decide) (by rw [kL114 L])
theorem lL114 {σ : St} (L : Lay σ) : (sK σ 114).2 = 200 := by rw [kL114 L]
theorem kL115 {σ : St} (L : Lay σ) : sK σ 115 = (14, 200) := L.1.2.2.2.2.2.2.2.1.2.2.1
theorem oL115 {σ : St} (L : Lay σ) : ob σ 115 14 = true := ob_l L (by decide) (by decide) (by rw [kL115 L])
theorem lL115 {σ : St} (L : Lay σ) : (sK σ 115).2 = 200 := by rw [kL115 L]
theorem kL116 {σ : St} (L : Lay σ) : sK σ 116 = (14, 200) := L.1.2.2.2.2.2.2.2.1.2.2.2.1
theorem oL116 {σ : St} (L : Lay σ) : ob σ 116 14 = true := ob_l L (by decide) (by decide) (by rw [kL116 L])
theorem lL116 {σ : St} (L : Lay σ) : (sK σ 116).2 = 200 := by rw [kL116 L]
theorem kL117 {σ : St} (L : Lay σ) : sK σ 117 = (14, 200) := L.1.2.2.2.2.2.2.2.1.2.2.2.2.1
theorem oL117 {σ : St} (L : Lay σ) : ob σ 117 14 = true := ob_l L (by decide) (by decide) (by rw [kL117 L])
theorem lL117 {σ : St} (L : Lay σ) : (sK σ 117).2 = 200 := by rw [kL117 L]
theorem kL118 {σ : St} (L : Lay σ) : sK σ 118 = (16, 200) := L.1.2.2.2.2.2.2.2.1.2.2.2.2.2.1
theorem oL118 {σ : St} (L : Lay σ) : ob σ 118 16 = true := ob_l L (by decide) (by decide) (by rw [kL118 L])
theorem lL118 {σ : St} (L : Lay σ) : (sK σ 118).2 = 200 := by rw [kL118 L]
theorem kL119 {σ : St} (L : Lay σ) : sK σ 119 = (14, 200) := L.1.2.2.2.2.2.2.2.1.2.2.2.2.2.2.1
theorem oL119 {σ : St} (L : Lay σ) : ob σ 119 14 = true := ob_l L (by decide) (by decide) (by rw [kL119 L])
theorem lL119 {σ : St} (L : Lay σ) : (sK σ 119).2 = 200 := by rw [kL119 L]
theorem kL120 {σ : St} (L : Lay σ) : sK σ 120 = (14, 10500) := L.1.2.2.2.2.2.2.2.1.2.2.2.2.2.2.2.1
theorem oL120 {σ : St} (L : Lay σ) : ob σ 120 14 = true := ob_l L (by decide) (by decide) (by rw [kL120 L])
theorem lL120 {σ : St} (L : Lay σ) : (sK σ 120).2 = 10500 := by rw [kL120 L]
theorem kL121 {σ : St} (L : Lay σ) : sK σ 121 = (14, 25) := L.1.2.2.2.2.2.2.2.1.2.2.2.2.2.2.2.2.1
theorem oL121 {σ : St} (L : Lay σ) : ob σ 121 14 = true := ob_l L (by decide) (by decide) (by rw [kL121 L])
theorem lL121 {σ : St} (L : Lay σ) : (sK σ 121).2 = 25 := by rw [kL121 L]
theorem kL122 {σ : St} (L : Lay σ) : sK σ 122 = (14, 25) := L.1.2.2.2.2.2.2.2.1.2.2.2.2.2.2.2.2.2.1
theorem oL122 {σ : St} (L : Lay σ) : ob σ 122 14 = true := ob_l L (by decide) (by decide) (by rw [kL122 L])
theorem lL122 {σ : St} (L : Lay σ) : (sK σ 122).2 = 25 := by rw [kL122 L]
theorem kL123 {σ : St} (L : Lay σ) : sK σ 123 = (14, 500) := L.1.2.2.2.2.2.2.2.1.2.2.2.2.2.2.2.2.2.2.1
theorem oL123 {σ : St} (L : Lay σ) : ob σ 123 14 = true := ob_l L (by decide) (by decide) (by rw [kL123 L])
theorem lL123 {σ : St} (L : Lay σ) : (sK σ 123).2 = 500 := by rw [kL123 L]
theorem kL124 {σ : St} (L : Lay σ) : sK σ 124 = (14, 500) := L.1.2.2.2.2.2.2.2.1.2.2.2.2.2.2.2.2.2.2.2.1
theorem oL124 {σ : St} (L : Lay σ) : ob σ 124 14 = true := ob_l L (by decide) (by decide) (by rw [kL124 L])
theorem lL124 {σ : St} (L : Lay σ) : (sK σ 124).2 = 500 := by rw [kL124 L]
theorem kL125 {σ : St} (L : Lay σ) : sK σ 125 = (14, 500) := L.1.2.2.2.2.2.2.2.1.2.2.2.2.2.2.2.2.2.2.2.2.1
theorem oL125 {σ : St} (L : Lay σ) : ob σ 125 14 = true := ob_l L (by decide) (by decide) (by rw [kL125 L])
theorem lL125 {σ : St} (L : Lay σ) : (sK σ 125).2 = 500 := by rw [kL125 L]
theorem kL126 {σ : St} (L : Lay σ) : sK σ 126 = (14, 500) := L.1.2.2.2.2.2.2.2.1.2.2.2.2.2.2.2.2.2.2.2.2.2.1
theorem oL126 {σ : St} (L : Lay σ) : ob σ 126 14 = true := ob_l L (by decide) (by decide) (by rw [kL126 L])
theorem lL126 {σ : St} (L : Lay σ) : (sK σ 126).2 = 500 := by rw [kL126 L]
theorem kL127 {σ : St} (L : Lay σ) : sK σ 127 = (14, 500) := L.1.2.2.2.2.2.2.2.1.2.2.2.2.2.2.2.2.2.2.2.2.2.2.1
theorem oL127 {σ : St} (L : Lay σ) : ob σ 127 14 = true := ob_l L (by decide) (by decide) (by rw [kL127 L])
theorem lL127 {σ : St} (L : Lay σ) : (sK σ 127).2 = 500 := by rw [kL127 L]
theorem kL128 {σ : St} (L : Lay σ) : sK σ 128 = (14, 25) := L.1.2.2.2.2.2.2.2.1.2.2.2.2.2.2.2.2.2.2.2.2.2.2.2
theorem oL128 {σ : St} (L : Lay σ) : ob σ 128 14 = true := ob_l L (by decide) (by decide) (by rw [kL128 L])
theorem lL128 {σ : St} (L : Lay σ) : (sK σ 128).2 = 25 := by rw [kL128 L]
theorem kL129 {σ : St} (L : Lay σ) : sK σ 129 = (14, 25) := L.1.2.2.2.2.2.2.2.2.1.1
theorem oL129 {σ : St} (L : Lay σ) : ob σ 129 14 = true := ob_l L (by decide) (by decide) (by rw [kL129 L])
theorem lL129 {σ : St} (L : Lay σ) : (sK σ 129).2 = 25 := by rw [kL129 L]
theorem kL130 {σ : St} (L : Lay σ) : sK σ 130 = (14, 2) := L.1.2.2.2.2.2.2.2.2.1.2.1
theorem oL130 {σ : St} (L : Lay σ) : ob σ 130 14 = true := ob_l L (by decide) (by decide) (by rw [kL130 L])
theorem lL130 {σ : St} (L : Lay σ) : (sK σ 130).2 = 2 := by rw [kL130 L]
theorem kL131 {σ : St} (L : Lay σ) : sK σ 131 = (13, 400) := L.1.2.2.2.2.2.2.2.2.1.2.2.1
theorem oL131 {σ : St} (L : Lay σ) : ob σ 131 13 = true := ob_l L (by decide) (by decide) (by rw [kL131 L])
theorem lL131 {σ : St} (L : Lay σ) : (sK σ 131).2 = 400 := by rw [kL131 L]
theorem kL132 {σ : St} (L : Lay σ) : sK σ 132 = (13, 48) := L.1.2.2.2.2.2.2.2.2.1.2.2.2.1
theorem oL132 {σ : St} (L : Lay σ) : ob σ 132 13 = true := ob_l L (by decide) (by decide) (by rw [kL132 L])
theorem lL132 {σ : St} (L : Lay σ) : (sK σ 132).2 = 48 := by rw [kL132 L]
theorem kL133 {σ : St} (L : Lay σ) : sK σ 133 = (14, 6) := L.1.2.2.2.2.2.2.2.2.1.2.2.2.2.1
theorem oL133 {σ : St} (L : Lay σ) : ob σ 133 14 = true := ob_l L (by decide) (by decide) (by rw [kL133 L])
theorem lL133 {σ : St} (L : Lay σ) : (sK σ 133).2 = 6 := by rw [kL133 L]
theorem kL134 {σ : St} (L : Lay σ) : sK σ 134 = (14, 15) := L.1.2.2.2.2.2.2.2.2.1.2.2.2.2.2.1
theorem oL134 {σ : St} (L : Lay σ) : ob σ 134 14 = true := ob_l L (by decide) (by decide) (by rw [kL134 L])
theorem lL134 {σ : St} (L : Lay σ) : (sK σ 134).2 = 15 := by rw [kL134 L]
theorem kL135 {σ : St} (L : Lay σ) : sK σ 135 = (14, 420) := L.1.2.2.2.2.2.2.2.2.1.2.2.2.2.2.2.1
theorem oL135 {σ : St} (L : Lay σ) : ob σ 135 14 = true := ob_l L (by decide) (by decide) (by rw [kL135 L])
theorem lL135 {σ : St} (L : Lay σ) : (sK σ 135).2 = 420 := by rw [kL135 L]
theorem kL136 {σ : St} (L : Lay σ) : sK σ 136 = (14, 1500) := L.1.2.2.2.2.2.2.2.2.1.2.2.2.2.2.2.2.1
theorem oL136 {σ : St} (L : Lay σ) : ob σ 136 14 = true := ob_l L (by decide) (by decide) (by rw [kL136 L])
theorem lL136 {σ : St} (L : Lay σ) : (sK σ 136).2 = 1500 := by rw [kL136 L]
theorem kL137 {σ : St} (L : Lay σ) : sK σ 137 = (14, 2) := L.1.2.2.2.2.2.2.2.2.1.2.2.2.2.2.2.2.2.1
theorem oL137 {σ : St} (L : Lay σ) : ob σ 137 14 = true := ob_l L (by decide) (by decide) (by rw [kL137 L])
theorem lL137 {σ : St} (L : Lay σ) : (sK σ 137).2 = 2 := by rw [kL137 L]
theorem kL138 {σ : St} (L : Lay σ) : sK σ 138 = (14, 2) := L.1.2.2.2.2.2.2.2.2.1.2.2.2.2.2.2.2.2.2.1
theorem oL138 {σ : St} (L : Lay σ) : ob σ 138 14 = true := ob_l L (by decide) (by decide) (by rw [kL138 L])
theorem lL138 {σ : St} (L : Lay σ) : (sK σ 138).2 = 2 := by rw [kL138 L]
theorem kL139 {σ : St} (L : Lay σ) : sK σ 139 = (14, 60) := L.1.2.2.2.2.2.2.2.2.1.2.2.2.2.2.2.2.2.2.2.1
theorem oL139 {σ : St} (L : Lay σ) : ob σ 139 14 = true := ob_l L (by decide) (by decide) (by rw [kL139 L])
theorem lL139 {σ : St} (L : Lay σ) : (sK σ 139).2 = 60 := by rw [kL139 L]
theorem kL140 {σ : St} (L : Lay σ) : sK σ 140 = (14, 60) := L.1.2.2.2.2.2.2.2.2.1.2.2.2.2.2.2.2.2.2.2.2.1
theorem oL140 {σ : St} (L : Lay σ) : ob σ 140 14 = true := ob_l L (by decide) (by decide) (by rw [kL140 L])
theorem lL140 {σ : St} (L : Lay σ) : (sK σ 140).2 = 60 := by rw [kL140 L]
theorem kL141 {σ : St} (L : Lay σ) : sK σ 141 = (14, 60) := L.1.2.2.2.2.2.2.2.2.1.2.2.2.2.2.2.2.2.2.2.2.2.1
theorem oL141 {σ : St} (L : Lay σ) : ob σ 141 14 = true := ob_l L (by decide) (by decide) (by rw [kL141 L])
theorem lL141 {σ : St} (L : Lay σ) : (sK σ 141).2 = 60 := by rw [kL141 L]
theorem kL142 {σ : St} (L : Lay σ) : sK σ 142 = (14, 60) := L.1.2.2.2.2.2.2.2.2.1.2.2.2.2.2.2.2.2.2.2.2.2.2.1
theorem oL142 {σ : St} (L : Lay σ) : ob σ 142 14 = true := ob_l L (by decide) (by decide) (by rw [kL142 L])
theorem lL142 {σ : St} (L : Lay σ) : (sK σ 142).2 = 60 := by rw [kL142 L]
theorem kL143 {σ : St} (L : Lay σ) : sK σ 143 = (14, 60) := L.1.2.2.2.2.2.2.2.2.1.2.2.2.2.2.2.2.2.2.2.2.2.2.2.1
theorem oL143 {σ : St} (L : Lay σ) : ob σ 143 14 = true := ob_l L (by decide) (by decide) (by rw [kL143 L])
theorem lL143 {σ : St} (L : Lay σ) : (sK σ 143).2 = 60 := by rw [kL143 L]
theorem kL144 {σ : St} (L : Lay σ) : sK σ 144 = (14, 6) := L.1.2.2.2.2.2.2.2.2.1.2.2.2.2.2.2.2.2.2.2.2.2.2.2.2
theorem oL144 {σ : St} (L : Lay σ) : ob σ 144 14 = true := ob_l L (by decide) (by decide) (by rw [kL144 L])
theorem lL144 {σ : St} (L : Lay σ) : (sK σ 144).2 = 6 := by rw [kL144 L]
theorem kL145 {σ : St} (L : Lay σ) : sK σ 145 = (14, 6) := L.1.2.2.2.2.2.2.2.2.2.1
theorem oL145 {σ : St} (L : Lay σ) : ob σ 145 14 = true := ob_l L (by decide) (by decide) (by rw [kL145 L])
theorem lL145 {σ : St} (L : Lay σ) : (sK σ 145).2 = 6 := by rw [kL145 L]
theorem kL146 {σ : St} (L : Lay σ) : sK σ 146 = (14, 6) := L.1.2.2.2.2.2.2.2.2.2.2.1
theorem oL146 {σ : St} (L : Lay σ) : ob σ 146 14 = true := ob_l L (by decide) (by decide) (by rw [kL146 L])
theorem lL146 {σ : St} (L : Lay σ) : (sK σ 146).2 = 6 := by rw [kL146 L]
theorem kL147 {σ : St} (L : Lay σ) : sK σ 147 = (16, 432) := L.1.2.2.2.2.2.2.2.2.2.2.2.1
theorem oL147 {σ : St} (L : Lay σ) : ob σ 147 16 = true := ob_l L (by decide) (by decide) (by rw [kL147 L])
theorem lL147 {σ : St} (L : Lay σ) : (sK σ 147).2 = 432 := by rw [kL147 L]
theorem kL148 {σ : St} (L : Lay σ) : sK σ 148 = (14, 12) := L.1.2.2.2.2.2.2.2.2.2.2.2.2.1
theorem oL148 {σ : St} (L : Lay σ) : ob σ 148 14 = true := ob_l L (by decide) (by decide) (by rw [kL148 L])
theorem lL148 {σ : St} (L : Lay σ) : (sK σ 148).2 = 12 := by rw [kL148 L]
theorem kL149 {σ : St} (L : Lay σ) : sK σ 149 = (14, 6) := L.1.2.2.2.2.2.2.2.2.2.2.2.2.2.1
theorem oL149 {σ : St} (L : Lay σ) : ob σ 149 14 = true := ob_l L (by decide) (by decide) (by rw [kL149 L])
theorem lL149 {σ : St} (L : Lay σ) : (sK σ 149).2 = 6 := by rw [kL149 L]
theorem kL150 {σ : St} (L : Lay σ) : sK σ 150 = (14, 6) := L.1.2.2.2.2.2.2.2.2.2.2.2.2.2.2.1
theorem oL150 {σ : St} (L : Lay σ) : ob σ 150 14 = true := ob_l L (by decide) (by decide) (by rw [kL150 L])
theorem lL150 {σ : St} (L : Lay σ) : (sK σ 150).2 = 6 := by rw [kL150 L]
theorem kL151 {σ : St} (L : Lay σ) : sK σ 151 = (14, 72) := L.1.2.2.2.2.2.2.2.2.2.2.2.2.2.2.2.1
theorem oL151 {σ : St} (L : Lay σ) : ob σ 151 14 = true := ob_l L (by decide) (by decide) (by rw [kL151 L])
theorem lL151 {σ : St} (L : Lay σ) : (sK σ 151).2 = 72 := by rw [kL151 L]
theorem kL152 {σ : St} (L : Lay σ) : sK σ 152 = (14, 72) := L.1.2.2.2.2.2.2.2.2.2.2.2.2.2.2.2.2.1
theorem oL152 {σ : St} (L : Lay σ) : ob σ 152 14 = true := ob_l L (by decide) (by decide) (by rw [kL152 L])
theorem lL152 {σ : St} (L : Lay σ) : (sK σ 152).2 = 72 := by rw [kL152 L]
theorem kL153 {σ : St} (L : Lay σ) : sK σ 153 = (15, 1) := L.1.2.2.2.2.2.2.2.2.2.2.2.2.2.2.2.2.2
theorem oL153 {σ : St} (L : Lay σ) : ob σ 153 15 = true := ob_l L (by decide) (by decide) (by rw [kL153 L])
theorem lL153 {σ : St} (L : Lay σ) : (sK σ 153).2 = 1 := by rw [kL153 L]
theorem rL1_0 {σ : St} (L : Lay σ) : sR σ 1 0 = 2 := L.2.1.1.1
theorem rL1_1 {σ : St} (L : Lay σ) : sR σ 1 1 = 35 := L.2.1.1.2.1
theorem rL1_2 {σ : St} (L : Lay σ) : sR σ 1 2 = 68 := L.2.1.1.2.2.1
theorem rL1_3 {σ : St} (L : Lay σ) : sR σ 1 3 = 70 := L.2.1.1.2.2.2.1
theorem rL1_4 {σ : St} (L : Lay σ) : sR σ 1 4 = 78 := L.2.1.1.2.2.2.2.1
theorem rL1_5 {σ : St} (L : Lay σ) : sR σ 1 5 = 94 := L.2.1.1.2.2.2.2.2.1
theorem rL1_6 {σ : St} (L : Lay σ) : sR σ 1 6 = 100 := L.2.1.1.2.2.2.2.2.2.1
theorem rL2_0 {σ : St} (L : Lay σ) : sR σ 2 0 = 3 := L.2.1.1.2.2.2.2.2.2.2.1
theorem rL2_1 {σ : St} (L : Lay σ) : sR σ 2 1 = 4 := L.2.1.1.2.2.2.2.2.2.2.2.1
theorem rL2_2 {σ : St} (L : Lay σ) : sR σ 2 2 = 5 := L.2.1.1.2.2.2.2.2.2.2.2.2.1
theorem rL2_3 {σ : St} (L : Lay σ) : sR σ 2 3 = 6 := L.2.1.1.2.2.2.2.2.2.2.2.2.2.1
theorem rL2_4 {σ : St} (L : Lay σ) : sR σ 2 4 = 7 := L.2.1.1.2.2.2.2.2.2.2.2.2.2.2.1
theorem rL4_0 {σ : St} (L : Lay σ) : sR σ 4 0 = 8 := L.2.1.1.2.2.2.2.2.2.2.2.2.2.2.2.1
theorem rL4_1 {σ : St} (L : Lay σ) : sR σ 4 1 = 11 := L.2.1.1.2.2.2.2.2.2.2.2.2.2.2.2.2.1
theorem rL4_2 {σ : St} (L : Lay σ) : sR σ 4 2 = 14 := L.2.1.1.2.2.2.2.2.2.2.2.2.2.2.2.2.2.1
theorem rL4_3 {σ : St} (L : Lay σ) : sR σ 4 3 = 17 := L.2.1.1.2.2.2.2.2.2.2.2.2.2.2.2.2.2.2
theorem rL4_4 {σ : St} (L : Lay σ) : sR σ 4 4 = 20 := L.2.1.2.1.1
theorem rL4_5 {σ : St} (L : Lay σ) : sR σ 4 5 = 23 := L.2.1.2.1.2.1
theorem rL4_6 {σ : St} (L : Lay σ) : sR σ 4 6 = 26 := L.2.1.2.1.2.2.1
theorem rL5_0 {σ : St} (L : Lay σ) : sR σ 5 0 = 29 := L.2.1.2.1.2.2.2.1
theorem rL5_1 {σ : St} (L : Lay σ) : sR σ 5 1 = 30 := L.2.1.2.1.2.2.2.2.1
theorem rL5_2 {σ : St} (L : Lay σ) : sR σ 5 2 = 31 := L.2.1.2.1.2.2.2.2.2.1
theorem rL5_3 {σ : St} (L : Lay σ) : sR σ 5 3 = 32 := L.2.1.2.1.2.2.2.2.2.2.1
theorem rL5_4 {σ : St} (L : Lay σ) : sR σ 5 4 = 33 := L.2.1.2.1.2.2.2.2.2.2.2.1
theorem rL5_5 {σ : St} (L : Lay σ) : sR σ 5 5 = 34 := L.2.1.2.1.2.2.2.2.2.2.2.2.1
theorem rL8_0 {σ : St} (L : Lay σ) : sR σ 8 0 = 9 := L.2.1.2.1.2.2.2.2.2.2.2.2.2.1
theorem rL8_1 {σ : St} (L : Lay σ) : sR σ 8 1 = 10 := L.2.1.2.1.2.2.2.2.2.2.2.2.2.2.1
theorem rL11_0 {σ : St} (L : Lay σ) : sR σ 11 0 = 12 := L.2.1.2.1.2.2.2.2.2.2.2.2.2.2.2.1
theorem rL11_1 {σ : St} (L : Lay σ) : sR σ 11 1 = 13 := L.2.1.2.1.2.2.2.2.2.2.2.2.2.2.2.2.1
theorem rL14_0 {σ : St} (L : Lay σ) : sR σ 14 0 = 15 := L.2.1.2.1.2.2.2.2.2.2.2.2.2.2.2.2.2.1
theorem rL14_1 {σ : St} (L : Lay σ) : sR σ 14 1 = 16 := L.2.1.2.1.2.2.2.2.2.2.2.2.2.2.2.2.2.2.1
theorem rL17_0 {σ : St} (L : Lay σ) : sR σ 17 0 = 18 := L.2.1.2.1.2.2.2.2.2.2.2.2.2.2.2.2.2.2.2
theorem rL17_1 {σ : St} (L : Lay σ) : sR σ 17 1 = 19 := L.2.1.2.2.1.1
theorem rL20_0 {σ : St} (L : Lay σ) : sR σ 20 0 = 21 := L.2.1.2.2.1.2.1
theorem rL20_1 {σ : St} (L : Lay σ) : sR σ 20 1 = 22 := L.2.1.2.2.1.2.2.1
theorem rL23_0 {σ : St} (L : Lay σ) : sR σ 23 0 = 24 := L.2.1.2.2.1.2.2.2.1
theorem rL23_1 {σ : St} (L : Lay σ) : sR σ 23 1 = 25 := L.2.1.2.2.1.2.2.2.2.1
theorem rL26_0 {σ : St} (L : Lay σ) : sR σ 26 0 = 27 := L.2.1.2.2.1.2.2.2.2.2.1
theorem rL26_1 {σ : St} (L : Lay σ) : sR σ 26 1 = 28 := L.2.1.2.2.1.2.2.2.2.2.2.1
theorem rL35_0 {σ : St} (L : Lay σ) : sR σ 35 0 = 2 := L.2.1.2.2.1.2.2.2.2.2.2.2.1
theorem rL35_1 {σ : St} (L : Lay σ) : sR σ 35 1 = 36 := L.2.1.2.2.1.2.2.2.2.2.2.2.2.1
theorem rL35_2 {σ : St} (L : Lay σ) : sR σ 35 2 = 40 := L.2.1.2.2.1.2.2.2.2.2.2.2.2.2.1
theorem rL35_3 {σ : St} (L : Lay σ) : sR σ 35 3 = 44 := L.2.1.2.2.1.2.2.2.2.2.2.2.2.2.2.1
theorem rL35_4 {σ : St} (L : Lay σ) : sR σ 35 4 = 45 := L.2.1.2.2.1.2.2.2.2.2.2.2.2.2.2.2.1
theorem rL35_5 {σ : St} (L : Lay σ) : sR σ 35 5 = 46 := L.2.1.2.2.1.2.2.2.2.2.2.2.2.2.2.2.2.1
theorem rL35_6 {σ : St} (L : Lay σ) : sR σ 35 6 = 58 := L.2.1.2.2.1.2.2.2.2.2.2.2.2.2.2.2.2.2.1
theorem rL35_7 {σ : St} (L : Lay σ) : sR σ 35 7 = 59 := L.2.1.2.2.1.2.2.2.2.2.2.2.2.2.2.2.2.2.2.1
theorem rL36_0 {σ : St} (L : Lay σ) : sR σ 36 0 = 37 := L.2.1.2.2.1.2.2.2.2.2.2.2.2.2.2.2.2.2.2.2
theorem rL36_1 {σ : St} (L : Lay σ) : sR σ 36 1 = 38 := L.2.1.2.2.2.1.1
theorem rL36_2 {σ : St} (L : Lay σ) : sR σ 36 2 = 39 := L.2.1.2.2.2.1.2.1
theorem rL40_0 {σ : St} (L : Lay σ) : sR σ 40 0 = 41 := L.2.1.2.2.2.1.2.2.1
theorem rL40_1 {σ : St} (L : Lay σ) : sR σ 40 1 = 42 := L.2.1.2.2.2.1.2.2.2.1
theorem rL40_2 {σ : St} (L : Lay σ) : sR σ 40 2 = 43 := L.2.1.2.2.2.1.2.2.2.2.1
theorem rL44_0 {σ : St} (L : Lay σ) : sR σ 44 0 = 60 := L.2.1.2.2.2.1.2.2.2.2.2.1
theorem rL44_1 {σ : St} (L : Lay σ) : sR σ 44 1 = 64 := L.2.1.2.2.2.1.2.2.2.2.2.2.1
theorem rL46_0 {σ : St} (L : Lay σ) : sR σ 46 0 = 47 := L.2.1.2.2.2.1.2.2.2.2.2.2.2.1
theorem rL46_1 {σ : St} (L : Lay σ) : sR σ 46 1 = 48 := L.2.1.2.2.2.1.2.2.2.2.2.2.2.2.1
theorem rL46_2 {σ : St} (L : Lay σ) : sR σ 46 2 = 49 := L.2.1.2.2.2.1.2.2.2.2.2.2.2.2.2.1
theorem rL46_3 {σ : St} (L : Lay σ) : sR σ 46 3 = 50 := L.2.1.2.2.2.1.2.2.2.2.2.2.2.2.2.2.1
theorem rL46_4 {σ : St} (L : Lay σ) : sR σ 46 4 = 51 := L.2.1.2.2.2.1.2.2.2.2.2.2.2.2.2.2.2.1
theorem rL46_5 {σ : St} (L : Lay σ) : sR σ 46 5 = 52 := L.2.1.2.2.2.1.2.2.2.2.2.2.2.2.2.2.2.2.1
theorem rL52_0 {σ : St} (L : Lay σ) : sR σ 52 0 = 53 := L.2.1.2.2.2.1.2.2.2.2.2.2.2.2.2.2.2.2.2.1
theorem rL52_1 {σ : St} (L : Lay σ) : sR σ 52 1 = 54 := L.2.1.2.2.2.1.2.2.2.2.2.2.2.2.2.2.2.2.2.2.1
theorem rL52_2 {σ : St} (L : Lay σ) : sR σ 52 2 = 55 := L.2.1.2.2.2.1.2.2.2.2.2.2.2.2.2.2.2.2.2.2.2
theorem rL52_3 {σ : St} (L : Lay σ) : sR σ 52 3 = 56 := L.2.1.2.2.2.2.1.1
theorem rL52_4 {σ : St} (L : Lay σ) : sR σ 52 4 = 57 := L.2.1.2.2.2.2.1.2.1
theorem rL60_0 {σ : St} (L : Lay σ) : sR σ 60 0 = 61 := L.2.1.2.2.2.2.1.2.2.1
theorem rL60_1 {σ : St} (L : Lay σ) : sR σ 60 1 = 62 := L.2.1.2.2.2.2.1.2.2.2.1
theorem rL60_2 {σ : St} (L : Lay σ) : sR σ 60 2 = 63 := L.2.1.2.2.2.2.1.2.2.2.2.1
theorem rL64_0 {σ : St} (L : Lay σ) : sR σ 64 0 = 65 := L.2.1.2.2.2.2.1.2.2.2.2.2.1
theorem rL64_1 {σ : St} (L : Lay σ) : sR σ 64 1 = 66 := L.2.1.2.2.2.2.1.2.2.2.2.2.2.1
theorem rL64_2 {σ : St} (L : Lay σ) : sR σ 64 2 = 67 := L.2.1.2.2.2.2.1.2.2.2.2.2.2.2.1
theorem rL68_0 {σ : St} (L : Lay σ) : sR σ 68 0 = 2 := L.2.1.2.2.2.2.1.2.2.2.2.2.2.2.2.1
theorem rL68_1 {σ : St} (L : Lay σ) : sR σ 68 1 = 69 := L.2.1.2.2.2.2.1.2.2.2.2.2.2.2.2.2.1
theorem rL70_0 {σ : St} (L : Lay σ) : sR σ 70 0 = 2 := L.2.1.2.2.2.2.1.2.2.2.2.2.2.2.2.2.2.1
theorem rL70_1 {σ : St} (L : Lay σ) : sR σ 70 1 = 35 := L.2.1.2.2.2.2.1.2.2.2.2.2.2.2.2.2.2.2.1
theorem rL70_2 {σ : St} (L : Lay σ) : sR σ 70 2 = 71 := L.2.1.2.2.2.2.1.2.2.2.2.2.2.2.2.2.2.2.2.1
theorem rL70_3 {σ : St} (L : Lay σ) : sR σ 70 3 = 72 := L.2.1.2.2.2.2.1.2.2.2.2.2.2.2.2.2.2.2.2.2.1
theorem rL70_4 {σ : St} (L : Lay σ) : sR σ 70 4 = 73 := L.2.1.2.2.2.2.1.2.2.2.2.2.2.2.2.2.2.2.2.2.2.1
theorem rL70_5 {σ : St} (L : Lay σ) : sR σ 70 5 = 74 := L.2.1.2.2.2.2.1.2.2.2.2.2.2.2.2.2.2.2.2.2.2.2
theorem rL70_6 {σ : St} (L : Lay σ) : sR σ 70 6 = 75 := L.2.1.2.2.2.2.2.1.1
theorem rL70_7 {σ : St} (L : Lay σ) : sR σ 70 7 = 76 := L.2.1.2.2.2.2.2.1.2.1
theorem rL70_8 {σ : St} (L : Lay σ) : sR σ 70 8 = 77 := L.2.1.2.2.2.2.2.1.2.2.1
theorem rL78_0 {σ : St} (L : Lay σ) : sR σ 78 0 = 2 := L.2.1.2.2.2.2.2.1.2.2.2.1
theorem rL78_1 {σ : St} (L : Lay σ) : sR σ 78 1 = 35 := L.2.1.2.2.2.2.2.1.2.2.2.2.1
theorem rL78_2 {σ : St} (L : Lay σ) : sR σ 78 2 = 79 := L.2.1.2.2.2.2.2.1.2.2.2.2.2.1
theorem rL78_4 {σ : St} (L : Lay σ) : sR σ 78 4 = 80 := L.2.1.2.2.2.2.2.1.2.2.2.2.2.2.1
theorem rL78_5 {σ : St} (L : Lay σ) : sR σ 78 5 = 81 := L.2.1.2.2.2.2.2.1.2.2.2.2.2.2.2.1
theorem rL78_6 {σ : St} (L : Lay σ) : sR σ 78 6 = 85 := L.2.1.2.2.2.2.2.1.2.2.2.2.2.2.2.2.1
theorem rL78_7 {σ : St} (L : Lay σ) : sR σ 78 7 = 86 := L.2.1.2.2.2.2.2.1.2.2.2.2.2.2.2.2.2.1
theorem rL78_8 {σ : St} (L : Lay σ) : sR σ 78 8 = 90 := L.2.1.2.2.2.2.2.1.2.2.2.2.2.2.2.2.2.2.1
theorem rL78_9 {σ : St} (L : Lay σ) : sR σ 78 9 = 91 := L.2.1.2.2.2.2.2.1.2.2.2.2.2.2.2.2.2.2.2.1
theorem rL78_10 {σ : St} (L : Lay σ) : sR σ 78 10 = 92 := L.2.1.2.2.2.2.2.1.2.2.2.2.2.2.2.2.2.2.2.2.1
theorem rL78_11 {σ : St} (L : Lay σ) : sR σ 78 11 = 93 := L.2.1.2.2.2.2.2.1.2.2.2.2.2.2.2.2.2.2.2.2.2.1
theorem rL81_0 {σ : St} (L : Lay σ) : sR σ 81 0 = 82 := L.2.1.2.2.2.2.2.1.2.2.2.2.2.2.2.2.2.2.2.2.2.2.1
theorem rL81_1 {σ : St} (L : Lay σ) : sR σ 81 1 = 83 := L.2.1.2.2.2.2.2.1.2.2.2.2.2.2.2.2.2.2.2.2.2.2.2
theorem rL81_2 {σ : St} (L : Lay σ) : sR σ 81 2 = 84 := L.2.1.2.2.2.2.2.2.1.1
theorem rL86_0 {σ : St} (L : Lay σ) : sR σ 86 0 = 87 := L.2.1.2.2.2.2.2.2.1.2.1
theorem rL86_1 {σ : St} (L : Lay σ) : sR σ 86 1 = 88 := L.2.1.2.2.2.2.2.2.1.2.2.1
theorem rL86_2 {σ : St} (L : Lay σ) : sR σ 86 2 = 89 := L.2.1.2.2.2.2.2.2.1.2.2.2.1
theorem rL94_0 {σ : St} (L : Lay σ) : sR σ 94 0 = 2 := L.2.1.2.2.2.2.2.2.1.2.2.2.2.1
theorem rL94_1 {σ : St} (L : Lay σ) : sR σ 94 1 = 78 := L.2.1.2.2.2.2.2.2.1.2.2.2.2.2.1
theorem rL94_2 {σ : St} (L : Lay σ) : sR σ 94 2 = 95 := L.2.1.2.2.2.2.2.2.1.2.2.2.2.2.2.1
theorem rL94_3 {σ : St} (L : Lay σ) : sR σ 94 3 = 96 := L.2.1.2.2.2.2.2.2.1.2.2.2.2.2.2.2.1
theorem rL94_4 {σ : St} (L : Lay σ) : sR σ 94 4 = 97 := L.2.1.2.2.2.2.2.2.1.2.2.2.2.2.2.2.2.1
theorem rL94_5 {σ : St} (L : Lay σ) : sR σ 94 5 = 98 := L.2.1.2.2.2.2.2.2.1.2.2.2.2.2.2.2.2.2.1
theorem rL94_6 {σ : St} (L : Lay σ) : sR σ 94 6 = 99 := L.2.1.2.2.2.2.2.2.1.2.2.2.2.2.2.2.2.2.2.1
theorem rL101_1 {σ : St} (L : Lay σ) : sR σ 101 1 = 102 := L.2.1.2.2.2.2.2.2.1.2.2.2.2.2.2.2.2.2.2.2.1
theorem rL101_2 {σ : St} (L : Lay σ) : sR σ 101 2 = 103 := L.2.1.2.2.2.2.2.2.1.2.2.2.2.2.2.2.2.2.2.2.2.1
theorem rL101_3 {σ : St} (L : Lay σ) : sR σ 101 3 = 104 := L.2.1.2.2.2.2.2.2.1.2.2.2.2.2.2.2.2.2.2.2.2.2.1
theorem rL101_4 {σ : St} (L : Lay σ) : sR σ 101 4 = 105 := L.2.1.2.2.2.2.2.2.1.2.2.2.2.2.2.2.2.2.2.2.2.2.2.1
theorem rL101_6 {σ : St} (L : Lay σ) : sR σ 101 6 = 106 := L.2.1.2.2.2.2.2.2.1.2.2.2.2.2.2.2.2.2.2.2.2.2.2.2
theorem rL101_7 {σ : St} (L : Lay σ) : sR σ 101 7 = 107 := L.2.1.2.2.2.2.2.2.2.1.1
theorem rL101_8 {σ : St} (L : Lay σ) : sR σ 101 8 = 108 := L.2.1.2.2.2.2.2.2.2.1.2.1
theorem rL101_9 {σ : St} (L : Lay σ) : sR σ 101 9 = 109 := L.2.1.2.2.2.2.2.2.2.1.2.2.1
theorem rL101_10 {σ : St} (L : Lay σ) : sR σ 101 10 = 110 := L.2.1.2.2.2.2.2.2.2.1.2.2.2.1
theorem rL101_11 {σ : St} (L : Lay σ) : sR σ 101 11 = 111 := L.2.1.2.2.2.2.2.2.2.1.2.2.2.2.1
theorem rL101_12 {σ : St} (L : Lay σ) : sR σ 101 12 = 112 := L.2.1.2.2.2.2.2.2.2.1.2.2.2.2.2.1
theorem rL101_13 {σ : St} (L : Lay σ) : sR σ 101 13 = 113 := L.2.1.2.2.2.2.2.2.2.1.2.2.2.2.2.2.1
theorem rL101_16 {σ : St} (L : Lay σ) : sR σ 101 16 = 114 := L.2.1.2.2.2.2.2.2.2.1.2.2.2.2.2.2.2.1
theorem rL101_17 {σ : St} (L : Lay σ) : sR σ 101 17 = 115 := L.2.1.2.2.2.2.2.2.2.1.2.2.2.2.2.2.2.2.1
theorem rL101_18 {σ : St} (L : Lay σ) : sR σ 101 18 = 116 := L.2.1.2.2.2.2.2.2.2.1.2.2.2.2.2.2.2.2.2.1
theorem rL101_20 {σ : St} (L : Lay σ) : sR σ 101 20 = 117 := L.2.1.2.2.2.2.2.2.2.1.2.2.2.2.2.2.2.2.2.2.1
theorem rL101_21 {σ : St} (L : Lay σ) : sR σ 101 21 = 118 := L.2.1.2.2.2.2.2.2.2.1.2.2.2.2.2.2.2.2.2.2.2.1
theorem rL101_22 {σ : St} (L : Lay σ) : sR σ 101 22 = 119 := L.2.1.2.2.2.2.2.2.2.1.2.2.2.2.2.2.2.2.2.2.2.2.1
theorem rL101_23 {σ : St} (L : Lay σ) : sR σ 101 23 = 120 := L.2.1.2.2.2.2.2.2.2.1.2.2.2.2.2.2.2.2.2.2.2.2.2.1
theorem rL101_24 {σ : St} (L : Lay σ) : sR σ 101 24 = 121 := L.2.1.2.2.2.2.2.2.2.1.2.2.2.2.2.2.2.2.2.2.2.2.2.2.1
theorem rL101_25 {σ : St} (L : Lay σ) : sR σ 101 25 = 122 := L.2.1.2.2.2.2.2.2.2.1.2.2.2.2.2.2.2.2.2.2.2.2.2.2.2
theorem rL101_26 {σ : St} (L : Lay σ) : sR σ 101 26 = 123 := L.2.1.2.2.2.2.2.2.2.2.1.1
theorem rL101_27 {σ : St} (L : Lay σ) : sR σ 101 27 = 124 := L.2.1.2.2.2.2.2.2.2.2.1.2.1
theorem rL101_28 {σ : St} (L : Lay σ) : sR σ 101 28 = 125 := L.2.1.2.2.2.2.2.2.2.2.1.2.2.1
theorem rL101_29 {σ : St} (L : Lay σ) : sR σ 101 29 = 126 := L.2.1.2.2.2.2.2.2.2.2.1.2.2.2.1
theorem rL101_30 {σ : St} (L : Lay σ) : sR σ 101 30 = 127 := L.2.1.2.2.2.2.2.2.2.2.1.2.2.2.2.1
theorem rL101_31 {σ : St} (L : Lay σ) : sR σ 101 31 = 128 := L.2.1.2.2.2.2.2.2.2.2.1.2.2.2.2.2.1
theorem rL101_32 {σ : St} (L : Lay σ) : sR σ 101 32 = 129 := L.2.1.2.2.2.2.2.2.2.2.1.2.2.2.2.2.2.1
theorem rL101_33 {σ : St} (L : Lay σ) : sR σ 101 33 = 130 := L.2.1.2.2.2.2.2.2.2.2.1.2.2.2.2.2.2.2.1
theorem rL101_34 {σ : St} (L : Lay σ) : sR σ 101 34 = 131 := L.2.1.2.2.2.2.2.2.2.2.1.2.2.2.2.2.2.2.2.1
theorem rL101_45 {σ : St} (L : Lay σ) : sR σ 101 45 = 132 := L.2.1.2.2.2.2.2.2.2.2.1.2.2.2.2.2.2.2.2.2.1
theorem rL101_46 {σ : St} (L : Lay σ) : sR σ 101 46 = 133 := L.2.1.2.2.2.2.2.2.2.2.1.2.2.2.2.2.2.2.2.2.2.1
theorem rL101_47 {σ : St} (L : Lay σ) : sR σ 101 47 = 134 := L.2.1.2.2.2.2.2.2.2.2.1.2.2.2.2.2.2.2.2.2.2.2.1
theorem rL101_48 {σ : St} (L : Lay σ) : sR σ 101 48 = 135 := L.2.1.2.2.2.2.2.2.2.2.1.2.2.2.2.2.2.2.2.2.2.2.2.1
theorem rL101_50 {σ : St} (L : Lay σ) : sR σ 101 50 = 136 := L.2.1.2.2.2.2.2.2.2.2.1.2.2.2.2.2.2.2.2.2.2.2.2.2.1
theorem rL101_53 {σ : St} (L : Lay σ) : sR σ 101 53 = 137 := L.2.1.2.2.2.2.2.2.2.2.1.2.2.2.2.2.2.2.2.2.2.2.2.2.2.1
theorem rL101_54 {σ : St} (L : Lay σ) : sR σ 101 54 = 138 := L.2.1.2.2.2.2.2.2.2.2.1.2.2.2.2.2.2.2.2.2.2.2.2.2.2.2
theorem rL101_56 {σ : St} (L : Lay σ) : sR σ 101 56 = 139 := L.2.1.2.2.2.2.2.2.2.2.2.1
theorem rL101_57 {σ : St} (L : Lay σ) : sR σ 101 57 = 140 := L.2.1.2.2.2.2.2.2.2.2.2.2.1
theorem rL101_58 {σ : St} (L : Lay σ) : sR σ 101 58 = 141 := L.2.1.2.2.2.2.2.2.2.2.2.2.2.1
theorem rL101_59 {σ : St} (L : Lay σ) : sR σ 101 59 = 142 := L.2.1.2.2.2.2.2.2.2.2.2.2.2.2.1
theorem rL101_60 {σ : St} (L : Lay σ) : sR σ 101 60 = 143 := L.2.1.2.2.2.2.2.2.2.2.2.2.2.2.2.1
theorem rL101_63 {σ : St} (L : Lay σ) : sR σ 101 63 = 144 := L.2.1.2.2.2.2.2.2.2.2.2.2.2.2.2.2.1
theorem rL101_64 {σ : St} (L : Lay σ) : sR σ 101 64 = 145 := L.2.1.2.2.2.2.2.2.2.2.2.2.2.2.2.2.2.1
theorem rL101_65 {σ : St} (L : Lay σ) : sR σ 101 65 = 146 := L.2.1.2.2.2.2.2.2.2.2.2.2.2.2.2.2.2.2.1
theorem rL101_66 {σ : St} (L : Lay σ) : sR σ 101 66 = 147 := L.2.1.2.2.2.2.2.2.2.2.2.2.2.2.2.2.2.2.2.1
theorem rL101_67 {σ : St} (L : Lay σ) : sR σ 101 67 = 148 := L.2.1.2.2.2.2.2.2.2.2.2.2.2.2.2.2.2.2.2.2.1
theorem rL101_74 {σ : St} (L : Lay σ) : sR σ 101 74 = 149 := L.2.1.2.2.2.2.2.2.2.2.2.2.2.2.2.2.2.2.2.2.2.1
theorem rL101_75 {σ : St} (L : Lay σ) : sR σ 101 75 = 150 := L.2.1.2.2.2.2.2.2.2.2.2.2.2.2.2.2.2.2.2.2.2.2.1
theorem rL101_77 {σ : St} (L : Lay σ) : sR σ 101 77 = 151 := L.2.1.2.2.2.2.2.2.2.2.2.2.2.2.2.2.2.2.2.2.2.2.2.1
theorem rL101_78 {σ : St} (L : Lay σ) : sR σ 101 78 = 152 := L.2.1.2.2.2.2.2.2.2.2.2.2.2.2.2.2.2.2.2.2.2.2.2.2
