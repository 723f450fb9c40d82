theorem d12_sum__0 : decode prog_14_method_107_code 0 = .ok (.iconst 0, 1) := by decide +kernel
theorem d12_sum__1 : decode prog_14_method_107_code 1 = .ok (.istore_n 3, 1) := by decide +kernel
theorem d12_sum__2 : decode prog_14_method_107_code 2 = .ok (.iconst 0, 1) := by decide +kernel
theorem d12_sum__3 : decode prog_14_method_107_code 3 = .ok (.istore 4, 2) := by decide +kernel
theorem d12_sum__5 : decode prog_14_method_107_code 5 = .ok (.iload 4, 2) := by decide +kernel
theorem d12_sum__7 : decode prog_14_method_107_code 7 = .ok (.iload_n 2, 1) := by decide +kernel
theorem d12_sum__8 : decode prog_14_method_107_code 8 = .ok (.if_icmp .ge 16, 3) := by decide +kernel
theorem d12_sum__11 : decode prog_14_method_107_code 11 = .ok (.iload_n 3, 1) := by decide +kernel
theorem d12_sum__12 : decode prog_14_method_107_code 12 = .ok (.aload_n 1, 1) := by decide +kernel
theorem d12_sum__13 : decode prog_14_method_107_code 13 = .ok (.iload 4, 2) := by decide +kernel
theorem d12_sum__15 : decode prog_14_method_107_code 15 = .ok (.iaload, 1) := by decide +kernel
theorem d12_sum__16 : decode prog_14_method_107_code 16 = .ok (.iadd, 1) := by decide +kernel
theorem d12_sum__17 : decode prog_14_method_107_code 17 = .ok (.istore_n 3, 1) := by decide +kernel
theorem d12_sum__18 : decode prog_14_method_107_code 18 = .ok (.iinc 4 1, 3) := by decide +kernel
theorem d12_sum__21 : decode prog_14_method_107_code 21 = .ok (.goto (-16), 3) := by decide +kernel
theorem d12_sum__24 : decode prog_14_method_107_code 24 = .ok (.iload_n 3, 1) := by decide +kernel
theorem d12_sum__25 : decode prog_14_method_107_code 25 = .ok (.ireturn, 1) := by decide +kernel
theorem d12_many_0 : decode prog_14_method_108_code 0 = .ok (.iconst 0, 1) := by decide +kernel
theorem d12_many_1 : decode prog_14_method_108_code 1 = .ok (.istore_n 2, 1) := by decide +kernel
theorem d12_many_2 : decode prog_14_method_108_code 2 = .ok (.iconst 0, 1) := by decide +kernel
theorem d12_many_3 : decode prog_14_method_108_code 3 = .ok (.istore_n 3, 1) := by decide +kernel
theorem d12_many_4 : decode prog_14_method_108_code 4 = .ok (.iload_n 3, 1) := by decide +kernel
theorem d12_many_5 : decode prog_14_method_108_code 5 = .ok (.aload_n 0, 1) := by decide +kernel
theorem d12_many_6 : decode prog_14_method_108_code 6 = .ok (.getfield 184, 3) := by decide +kernel
theorem d12_many_9 : decode prog_14_method_108_code 9 = .ok (.if_icmp .ge 39, 3) := by decide +kernel
theorem d12_many_12 : decode prog_14_method_108_code 12 = .ok (.iload_n 1, 1) := by decide +kernel
theorem d12_many_13 : decode prog_14_method_108_code 13 = .ok (.ifCond .eq 17, 3) := by decide +kernel
theorem d12_many_16 : decode prog_14_method_108_code 16 = .ok (.aload_n 0, 1) := by decide +kernel
theorem d12_many_17 : decode prog_14_method_108_code 17 = .ok (.getfield 35, 3) := by decide +kernel
theorem d12_many_20 : decode prog_14_method_108_code 20 = .ok (.iload_n 3, 1) := by decide +kernel
theorem d12_many_21 : decode prog_14_method_108_code 21 = .ok (.iaload, 1) := by decide +kernel
theorem d12_many_22 : decode prog_14_method_108_code 22 = .ok (.bipush (-2), 2) := by decide +kernel
theorem d12_many_24 : decode prog_14_method_108_code 24 = .ok (.if_icmp .ne 18, 3) := by decide +kernel
theorem d12_many_27 : decode prog_14_method_108_code 27 = .ok (.goto 12, 3) := by decide +kernel
theorem d12_many_30 : decode prog_14_method_108_code 30 = .ok (.aload_n 0, 1) := by decide +kernel
theorem d12_many_31 : decode prog_14_method_108_code 31 = .ok (.getfield 35, 3) := by decide +kernel
theorem d12_many_34 : decode prog_14_method_108_code 34 = .ok (.iload_n 3, 1) := by decide +kernel
theorem d12_many_35 : decode prog_14_method_108_code 35 = .ok (.iaload, 1) := by decide +kernel
theorem d12_many_36 : decode prog_14_method_108_code 36 = .ok (.ifCond .lt 6, 3) := by decide +kernel
theorem d12_many_39 : decode prog_14_method_108_code 39 = .ok (.iinc 2 1, 3) := by decide +kernel
theorem d12_many_42 : decode prog_14_method_108_code 42 = .ok (.iinc 3 1, 3) := by decide +kernel
theorem d12_many_45 : decode prog_14_method_108_code 45 = .ok (.goto (-41), 3) := by decide +kernel
theorem d12_many_48 : decode prog_14_method_108_code 48 = .ok (.iload_n 2, 1) := by decide +kernel
theorem d12_many_49 : decode prog_14_method_108_code 49 = .ok (.ireturn, 1) := by decide +kernel
theorem d12_count_0 : decode prog_14_method_109_code 0 = .ok (.aload_n 0, 1) := by decide +kernel
theorem d12_count_1 : decode prog_14_method_109_code 1 = .ok (.iconst 0, 1) := by decide +kernel
theorem d12_count_2 : decode prog_14_method_109_code 2 = .ok (.putfield 1, 3) := by decide +kernel
theorem d12_count_5 : decode prog_14_method_109_code 5 = .ok (.iload_n 1, 1) := by decide +kernel
theorem d12_count_6 : decode prog_14_method_109_code 6 = .ok (.tableswitch 152 0 11 #[62, 67, 72, 77, 82, 87, 94, 101, 114, 127, 140, 146], 62) := by decide +kernel
theorem d12_count_68 : decode prog_14_method_109_code 68 = .ok (.aload_n 0, 1) := by decide +kernel
theorem d12_count_69 : decode prog_14_method_109_code 69 = .ok (.getfield 184, 3) := by decide +kernel
theorem d12_count_72 : decode prog_14_method_109_code 72 = .ok (.ireturn, 1) := by decide +kernel
theorem d12_count_73 : decode prog_14_method_109_code 73 = .ok (.aload_n 0, 1) := by decide +kernel
theorem d12_count_74 : decode prog_14_method_109_code 74 = .ok (.getfield 463, 3) := by decide +kernel
theorem d12_count_77 : decode prog_14_method_109_code 77 = .ok (.ireturn, 1) := by decide +kernel
theorem d12_count_78 : decode prog_14_method_109_code 78 = .ok (.aload_n 0, 1) := by decide +kernel
theorem d12_count_79 : decode prog_14_method_109_code 79 = .ok (.getfield 194, 3) := by decide +kernel
theorem d12_count_82 : decode prog_14_method_109_code 82 = .ok (.ireturn, 1) := by decide +kernel
theorem d12_count_83 : decode prog_14_method_109_code 83 = .ok (.aload_n 0, 1) := by decide +kernel
theorem d12_count_84 : decode prog_14_method_109_code 84 = .ok (.getfield 442, 3) := by decide +kernel
theorem d12_count_87 : decode prog_14_method_109_code 87 = .ok (.ireturn, 1) := by decide +kernel
theorem d12_count_88 : decode prog_14_method_109_code 88 = .ok (.aload_n 0, 1) := by decide +kernel
theorem d12_count_89 : decode prog_14_method_109_code 89 = .ok (.getfield 238, 3) := by decide +kernel
theorem d12_count_92 : decode prog_14_method_109_code 92 = .ok (.ireturn, 1) := by decide +kernel
theorem d12_count_93 : decode prog_14_method_109_code 93 = .ok (.aload_n 0, 1) := by decide +kernel
theorem d12_count_94 : decode prog_14_method_109_code 94 = .ok (.getfield 99, 3) := by decide +kernel
theorem d12_count_97 : decode prog_14_method_109_code 97 = .ok (.iconst 0, 1) := by decide +kernel
theorem d12_count_98 : decode prog_14_method_109_code 98 = .ok (.iaload, 1) := by decide +kernel
theorem d12_count_99 : decode prog_14_method_109_code 99 = .ok (.ireturn, 1) := by decide +kernel
theorem d12_count_100 : decode prog_14_method_109_code 100 = .ok (.aload_n 0, 1) := by decide +kernel
theorem d12_count_101 : decode prog_14_method_109_code 101 = .ok (.getfield 99, 3) := by decide +kernel
theorem d12_count_104 : decode prog_14_method_109_code 104 = .ok (.iconst 1, 1) := by decide +kernel
theorem d12_count_105 : decode prog_14_method_109_code 105 = .ok (.iaload, 1) := by decide +kernel
theorem d12_count_106 : decode prog_14_method_109_code 106 = .ok (.ireturn, 1) := by decide +kernel
theorem d12_count_107 : decode prog_14_method_109_code 107 = .ok (.aload_n 0, 1) := by decide +kernel
theorem d12_count_108 : decode prog_14_method_109_code 108 = .ok (.aload_n 0, 1) := by decide +kernel
theorem d12_count_109 : decode prog_14_method_109_code 109 = .ok (.getfield 136, 3) := by decide +kernel
theorem d12_count_112 : decode prog_14_method_109_code 112 = .ok (.aload_n 0, 1) := by decide +kernel
theorem d12_count_113 : decode prog_14_method_109_code 113 = .ok (.getfield 463, 3) := by decide +kernel
theorem d12_count_116 : decode prog_14_method_109_code 116 = .ok (.invokevirtual 537, 3) := by decide +kernel
theorem d12_count_119 : decode prog_14_method_109_code 119 = .ok (.ireturn, 1) := by decide +kernel
theorem d12_count_120 : decode prog_14_method_109_code 120 = .ok (.aload_n 0, 1) := by decide +kernel
theorem d12_count_121 : decode prog_14_method_109_code 121 = .ok (.aload_n 0, 1) := by decide +kernel
theorem d12_count_122 : decode prog_14_method_109_code 122 = .ok (.getfield 41, 3) := by decide +kernel
theorem d12_count_125 : decode prog_14_method_109_code 125 = .ok (.aload_n 0, 1) := by decide +kernel
theorem d12_count_126 : decode prog_14_method_109_code 126 = .ok (.getfield 184, 3) := by decide +kernel
theorem d12_count_129 : decode prog_14_method_109_code 129 = .ok (.invokevirtual 537, 3) := by decide +kernel
theorem d12_count_132 : decode prog_14_method_109_code 132 = .ok (.ireturn, 1) := by decide +kernel
theorem d12_count_133 : decode prog_14_method_109_code 133 = .ok (.aload_n 0, 1) := by decide +kernel
theorem d12_count_134 : decode prog_14_method_109_code 134 = .ok (.aload_n 0, 1) := by decide +kernel
theorem d12_count_135 : decode prog_14_method_109_code 135 = .ok (.getfield 44, 3) := by decide +kernel
theorem d12_count_138 : decode prog_14_method_109_code 138 = .ok (.aload_n 0, 1) := by decide +kernel
theorem d12_count_139 : decode prog_14_method_109_code 139 = .ok (.getfield 184, 3) := by decide +kernel
theorem d12_count_142 : decode prog_14_method_109_code 142 = .ok (.invokevirtual 537, 3) := by decide +kernel
theorem d12_count_145 : decode prog_14_method_109_code 145 = .ok (.ireturn, 1) := by decide +kernel
theorem d12_count_146 : decode prog_14_method_109_code 146 = .ok (.aload_n 0, 1) := by decide +kernel
theorem d12_count_147 : decode prog_14_method_109_code 147 = .ok (.iconst 0, 1) := by decide +kernel
theorem d12_count_148 : decode prog_14_method_109_code 148 = .ok (.invokevirtual 540, 3) := by decide +kernel
theorem d12_count_151 : decode prog_14_method_109_code 151 = .ok (.ireturn, 1) := by decide +kernel
theorem d12_count_152 : decode prog_14_method_109_code 152 = .ok (.aload_n 0, 1) := by decide +kernel
theorem d12_count_153 : decode prog_14_method_109_code 153 = .ok (.iconst 1, 1) := by decide +kernel
theorem d12_count_154 : decode prog_14_method_109_code 154 = .ok (.invokevirtual 540, 3) := by decide +kernel
theorem d12_count_157 : decode prog_14_method_109_code 157 = .ok (.ireturn, 1) := by decide +kernel
theorem d12_count_158 : decode prog_14_method_109_code 158 = .ok (.iconst (-1), 1) := by decide +kernel
theorem d12_count_159 : decode prog_14_method_109_code 159 = .ok (.ireturn, 1) := by decide +kernel
abbrev m12_sum_ : MD := ("MillBoatsModel", ⟨"MillBoatsModel", "sum", "([II)I"⟩, prog_14_method_107_code, 5, (some Jvm.ClassFile.FieldType.int))
theorem k12_sum_ : okY m12_sum_.2.1 2 := ⟨by decide +kernel, by decide +kernel, by decide +kernel⟩
def f12_sum__p5 : Nat → St → Nat → Int32 → Int32 → Int32 → Option (Int32 × St)
  | 0, _, _, _, _, _ => none
  | n + 1, σ, v1, v2, v3, v4 =>
  (if v4 < v2 then
  gd (ob σ v1 14) (
  gd (inb σ v1 v4) (
  lt (v3 + (sI σ v1 (ix v4))) fun y4 => (
  lt (v4 + (1 : Int32)) fun y6 => (
  (f12_sum__p5 n) σ v1 v2 y4 y6))))
  else
  some (v3, σ))
set_option maxRecDepth 20000 in
theorem s12_sum__p5 : ∀ (n : Nat) (σ : St) (v1 : Nat) (v2 : Int32) (v3 : Int32) (v4 : Int32) (r : Int32) (τ : St), f12_sum__p5 n σ v1 v2 v3 v4 = some (r, τ) → Ev 2 m12_sum_ 5 [(1, .ref v1), (2, .int v2), (3, .int v3), (4, .int v4)] [] σ (some (.int r)) τ := by
  intro n
  induction n with
  | zero =>
    intro σ v1 v2 v3 v4 r τ hf
    cases hf
  | succ n ih =>
    intro σ v1 v2 v3 v4 r τ hf
    rw [f12_sum__p5] at hf
    refine ev_iload (i := 4) (q := 3) rfl d12_sum__5 ?_
    refine ev_iload_n (j := 2) (i := 2) (q := 1) rfl rfl d12_sum__7 ?_
    rcases ite_some hf with ⟨c1, hf⟩ | ⟨c1, hf⟩
    · refine ev_icmp_ge_P (tgt := 24) c1 (by decide) d12_sum__8 ?_
      refine ev_iload_n (j := 3) (i := 3) (q := 2) rfl rfl d12_sum__11 ?_
      refine ev_aload_n (j := 1) (i := 1) (q := 0) rfl rfl d12_sum__12 ?_
      refine ev_iload (i := 4) (q := 3) rfl d12_sum__13 ?_
      obtain ⟨h2, hf⟩ := gd_some hf
      obtain ⟨h3, hf⟩ := gd_some hf
      refine ev_iald h2 h3 d12_sum__15 ?_
      refine ev_iadd d12_sum__16 ?_
      obtain ⟨y4, e5, hf⟩ := lt_some hf
      refine ev_nmI e5 ?_
      refine ev_istore_n (lv2 := [(3, .int y4), (1, .ref v1), (2, .int v2), (4, .int v4)]) (j := 3) (i := 3) rfl (by decide) rfl d12_sum__17 ?_
      obtain ⟨y6, e7, hf⟩ := lt_some hf
      refine ev_iinc (lv2 := [(4, .int y6), (3, .int y4), (1, .ref v1), (2, .int v2)]) (i := 4) (q := 3) (v := y6) (n := 1) rfl (by rw [ci_1]; exact e7.symm) (by decide) rfl d12_sum__18 ?_
      refine ev_goto (tgt := 5) (by decide) d12_sum__21 ?_
      exact Ev.sub [2, 3, 1, 0] rfl (ih _ _ _ _ _ _ _ hf)
    · refine ev_icmp_ge_Q (tgt := 24) c1 (by decide) d12_sum__8 ?_
      refine ev_iload_n (j := 3) (i := 3) (q := 2) rfl rfl d12_sum__24 ?_
      obtain ⟨rfl, rfl⟩ := ret_some hf
      exact ev_iret rfl d12_sum__25
def f12_sum_ (σ : St) (v0 : Nat) (v1 : Nat) (v2 : Int32) : Option (Int32 × St) :=
  f12_sum__p5 FU σ v1 v2 (0 : Int32) (0 : Int32)
set_option maxRecDepth 50000 in
theorem s12_sum_ : ∀ (σ : St) (v0 : Nat) (v1 : Nat) (v2 : Int32) (r : Int32) (τ : St), f12_sum_ σ v0 v1 v2 = some (r, τ) → Call 2 m12_sum_ [.ref v0, .ref v1, .int v2] σ (some (.int r)) τ := by
  intro σ v0 v1 v2 r τ hf
  unfold f12_sum_ at hf
  refine Call.of (by decide +kernel) rfl (Nat.le_of_ble_eq_true rfl) ?_
  refine ev_iconst ci_0 d12_sum__0 ?_
  refine ev_istore_n (lv2 := [(3, .int (0 : Int32)), (0, .ref v0), (1, .ref v1), (2, .int v2)]) (j := 3) (i := 3) rfl (by decide) rfl d12_sum__1 ?_
  refine ev_iconst ci_0 d12_sum__2 ?_
  refine ev_istore (lv2 := [(4, .int (0 : Int32)), (3, .int (0 : Int32)), (0, .ref v0), (1, .ref v1), (2, .int v2)]) (i := 4) (by decide) rfl d12_sum__3 ?_
  exact Ev.sub [3, 4, 1, 0] rfl (s12_sum__p5 FU _ _ _ _ _ _ _ hf)
abbrev m12_many : MD := ("MillBoatsModel", ⟨"MillBoatsModel", "many", "(Z)I"⟩, prog_14_method_108_code, 4, (some Jvm.ClassFile.FieldType.int))
theorem k12_many : okY m12_many.2.1 1 := ⟨by decide +kernel, by decide +kernel, by decide +kernel⟩
def f12_many_p42 (K4 : St → Nat → Int32 → Int32 → Int32 → Option (Int32 × St)) (σ : St) (v0 : Nat) (v1 : Int32) (v2 : Int32) (v3 : Int32) : Option (Int32 × St) :=
  lt (v3 + (1 : Int32)) fun y16 => (
  K4 σ v0 v1 v2 y16)
set_option maxRecDepth 20000 in
theorem s12_many_p42 {K4 : St → Nat → Int32 → Int32 → Int32 → Option (Int32 × St)} (hK4 : ∀ (σ : St) (v0 : Nat) (v1 : Int32) (v2 : Int32) (v3 : Int32) (r : Int32) (τ : St), K4 σ v0 v1 v2 v3 = some (r, τ) → Ev 2 m12_many 4 [(0, .ref v0), (1, .int v1), (2, .int v2), (3, .int v3)] [] σ (some (.int r)) τ) : ∀ (σ : St) (v0 : Nat) (v1 : Int32) (v2 : Int32) (v3 : Int32) (r : Int32) (τ : St), f12_many_p42 K4 σ v0 v1 v2 v3 = some (r, τ) → Ev 2 m12_many 42 [(0, .ref v0), (1, .int v1), (2, .int v2), (3, .int v3)] [] σ (some (.int r)) τ := by
  intro σ v0 v1 v2 v3 r τ hf
  unfold f12_many_p42 at hf
  obtain ⟨y16, e17, hf⟩ := lt_some hf
  refine ev_iinc (lv2 := [(3, .int y16), (0, .ref v0), (1, .int v1), (2, .int v2)]) (i := 3) (q := 3) (v := y16) (n := 1) rfl (by rw [ci_1]; exact e17.symm) (by decide) rfl d12_many_42 ?_
  refine ev_goto (tgt := 4) (by decide) d12_many_45 ?_
  exact Ev.sub [1, 2, 3, 0] rfl (hK4 _ _ _ _ _ _ _ hf)
def f12_many_p39 (K4 : St → Nat → Int32 → Int32 → Int32 → Option (Int32 × St)) (σ : St) (v0 : Nat) (v1 : Int32) (v2 : Int32) (v3 : Int32) : Option (Int32 × St) :=
  lt (v2 + (1 : Int32)) fun y18 => (
  f12_many_p42 K4 σ v0 v1 y18 v3)
set_option maxRecDepth 20000 in
theorem s12_many_p39 {K4 : St → Nat → Int32 → Int32 → Int32 → Option (Int32 × St)} (hK4 : ∀ (σ : St) (v0 : Nat) (v1 : Int32) (v2 : Int32) (v3 : Int32) (r : Int32) (τ : St), K4 σ v0 v1 v2 v3 = some (r, τ) → Ev 2 m12_many 4 [(0, .ref v0), (1, .int v1), (2, .int v2), (3, .int v3)] [] σ (some (.int r)) τ) : ∀ (σ : St) (v0 : Nat) (v1 : Int32) (v2 : Int32) (v3 : Int32) (r : Int32) (τ : St), f12_many_p39 K4 σ v0 v1 v2 v3 = some (r, τ) → Ev 2 m12_many 39 [(0, .ref v0), (1, .int v1), (2, .int v2), (3, .int v3)] [] σ (some (.int r)) τ := by
  intro σ v0 v1 v2 v3 r τ hf
  unfold f12_many_p39 at hf
  obtain ⟨y18, e19, hf⟩ := lt_some hf
  refine ev_iinc (lv2 := [(2, .int y18), (0, .ref v0), (1, .int v1), (3, .int v3)]) (i := 2) (q := 2) (v := y18) (n := 1) rfl (by rw [ci_1]; exact e19.symm) (by decide) rfl d12_many_39 ?_
  exact Ev.sub [1, 2, 0, 3] rfl (s12_many_p42 hK4 _ _ _ _ _ _ _ hf)
def f12_many_p4 : Nat → St → Nat → Int32 → Int32 → Int32 → Option (Int32 × St)
  | 0, _, _, _, _, _ => none
  | n + 1, σ, v0, v1, v2, v3 =>
  gd (ob σ v0 12) (
  (if v3 < (sI σ v0 5) then
  (if v1 = (0 : Int32) then
  lt (sR σ v0 9) fun b4 => (
  gd (nz b4) (
  gd (ob σ b4 14) (
  gd (inb σ b4 v3) (
  (if (sI σ b4 (ix v3)) < (0 : Int32) then
  f12_many_p42 (f12_many_p4 n) σ v0 v1 v2 v3
  else
  f12_many_p39 (f12_many_p4 n) σ v0 v1 v2 v3)))))
  else
  lt (sR σ v0 9) fun b10 => (
  gd (nz b10) (
  gd (ob σ b10 14) (
  gd (inb σ b10 v3) (
  (if (sI σ b10 (ix v3)) = (-2 : Int32) then
  f12_many_p39 (f12_many_p4 n) σ v0 v1 v2 v3
  else
  f12_many_p42 (f12_many_p4 n) σ v0 v1 v2 v3))))))
  else
  some (v2, σ)))
set_option maxRecDepth 20000 in
theorem s12_many_p4 : ∀ (n : Nat) (σ : St) (v0 : Nat) (v1 : Int32) (v2 : Int32) (v3 : Int32) (r : Int32) (τ : St), f12_many_p4 n σ v0 v1 v2 v3 = some (r, τ) → Ev 2 m12_many 4 [(0, .ref v0), (1, .int v1), (2, .int v2), (3, .int v3)] [] σ (some (.int r)) τ := by
  intro n
  induction n with
  | zero =>
    intro σ v0 v1 v2 v3 r τ hf
    cases hf
  | succ n ih =>
    intro σ v0 v1 v2 v3 r τ hf
    rw [f12_many_p4] at hf
    refine ev_iload_n (j := 3) (i := 3) (q := 3) rfl rfl d12_many_4 ?_
    refine ev_aload_n (j := 0) (i := 0) (q := 0) rfl rfl d12_many_5 ?_
    obtain ⟨h1, hf⟩ := gd_some hf
    refine ev_getI cls12 (j := 5) (by decide) rfl w1256 h1 d12_many_6 ?_
    rcases ite_some hf with ⟨c2, hf⟩ | ⟨c2, hf⟩
    · refine ev_icmp_ge_P (tgt := 48) c2 (by decide) d12_many_9 ?_
      refine ev_iload_n (j := 1) (i := 1) (q := 1) rfl rfl d12_many_12 ?_
      rcases ite_some hf with ⟨c3, hf⟩ | ⟨c3, hf⟩
      · refine ev_if_eq_P (tgt := 30) c3 (by decide) d12_many_13 ?_
        refine ev_aload_n (j := 0) (i := 0) (q := 0) rfl rfl d12_many_30 ?_
        obtain ⟨b4, e5, hf⟩ := lt_some hf
        obtain ⟨h6, hf⟩ := gd_some hf
        refine ev_getRb cls12 (j := 9) (by decide) rfl w1260 h1 e5 (nz_ne h6) d12_many_31 ?_
        refine ev_iload_n (j := 3) (i := 3) (q := 3) rfl rfl d12_many_34 ?_
        obtain ⟨h7, hf⟩ := gd_some hf
        obtain ⟨h8, hf⟩ := gd_some hf
        refine ev_iald h7 h8 d12_many_35 ?_
        rcases ite_some hf with ⟨c9, hf⟩ | ⟨c9, hf⟩
        · refine ev_if_lt_P (tgt := 42) c9 (by decide) d12_many_36 ?_
          exact Ev.sub [0, 1, 2, 3] rfl (s12_many_p42 ih _ _ _ _ _ _ _ hf)
        · refine ev_if_lt_Q (tgt := 42) c9 (by decide) d12_many_36 ?_
          exact Ev.sub [0, 1, 2, 3] rfl (s12_many_p39 ih _ _ _ _ _ _ _ hf)
      · refine ev_if_eq_Q (tgt := 30) c3 (by decide) d12_many_13 ?_
        refine ev_aload_n (j := 0) (i := 0) (q := 0) rfl rfl d12_many_16 ?_
        obtain ⟨b10, e11, hf⟩ := lt_some hf
        obtain ⟨h12, hf⟩ := gd_some hf
        refine ev_getRb cls12 (j := 9) (by decide) rfl w1260 h1 e11 (nz_ne h12) d12_many_17 ?_
        refine ev_iload_n (j := 3) (i := 3) (q := 3) rfl rfl d12_many_20 ?_
        obtain ⟨h13, hf⟩ := gd_some hf
        obtain ⟨h14, hf⟩ := gd_some hf
        refine ev_iald h13 h14 d12_many_21 ?_
        refine ev_bipush cb_m2 d12_many_22 ?_
        rcases ite_some hf with ⟨c15, hf⟩ | ⟨c15, hf⟩
        · refine ev_icmp_ne_P (tgt := 42) c15 (by decide) d12_many_24 ?_
          refine ev_goto (tgt := 39) (by decide) d12_many_27 ?_
          exact Ev.sub [0, 1, 2, 3] rfl (s12_many_p39 ih _ _ _ _ _ _ _ hf)
        · refine ev_icmp_ne_Q (tgt := 42) c15 (by decide) d12_many_24 ?_
          exact Ev.sub [0, 1, 2, 3] rfl (s12_many_p42 ih _ _ _ _ _ _ _ hf)
    · refine ev_icmp_ge_Q (tgt := 48) c2 (by decide) d12_many_9 ?_
      refine ev_iload_n (j := 2) (i := 2) (q := 2) rfl rfl d12_many_48 ?_
      obtain ⟨rfl, rfl⟩ := ret_some hf
      exact ev_iret rfl d12_many_49
def f12_many (σ : St) (v0 : Nat) (v1 : Int32) : Option (Int32 × St) :=
  f12_many_p4 FU σ v0 v1 (0 : Int32) (0 : Int32)
set_option maxRecDepth 50000 in
theorem s12_many : ∀ (σ : St) (v0 : Nat) (v1 : Int32) (r : Int32) (τ : St), f12_many σ v0 v1 = some (r, τ) → Call 2 m12_many [.ref v0, .int v1] σ (some (.int r)) τ := by
  intro σ v0 v1 r τ hf
  unfold f12_many at hf
  refine Call.of (by decide +kernel) rfl (Nat.le_of_ble_eq_true rfl) ?_
  refine ev_iconst ci_0 d12_many_0 ?_
  refine ev_istore_n (lv2 := [(2, .int (0 : Int32)), (0, .ref v0), (1, .int v1)]) (j := 2) (i := 2) rfl (by decide) rfl d12_many_1 ?_
  refine ev_iconst ci_0 d12_many_2 ?_
  refine ev_istore_n (lv2 := [(3, .int (0 : Int32)), (2, .int (0 : Int32)), (0, .ref v0), (1, .int v1)]) (j := 3) (i := 3) rfl (by decide) rfl d12_many_3 ?_
  exact Ev.sub [2, 3, 1, 0] rfl (s12_many_p4 FU _ _ _ _ _ _ _ hf)
abbrev m12_count : MD := ("MillBoatsModel", ⟨"MillBoatsModel", "count", "(I)I"⟩, prog_14_method_109_code, 2, (some Jvm.ClassFile.FieldType.int))
theorem k12_count : okY m12_count.2.1 1 := ⟨by decide +kernel, by decide +kernel, by decide +kernel⟩
def f12_count (σ : St) (v0 : Nat) (v1 : Int32) : Option (Int32 × St) :=
  gd (ob σ v0 12) (
  lt (wI σ v0 0 (0 : Int32)) fun t2 => (
  (if v1 = (0 : Int32) then
  some (sI t2 v0 5, t2)
  else
  (if v1 = (1 : Int32) then
  some (sI t2 v0 55, t2)
  else
  (if v1 = (2 : Int32) then
  some (sI t2 v0 14, t2)
  else
  (if v1 = (3 : Int32) then
  some (sI t2 v0 49, t2)
  else
  (if v1 = (4 : Int32) then
  some (sI t2 v0 35, t2)
  else
  (if v1 = (5 : Int32) then
  lt (sR t2 v0 33) fun b10 => (
  gd (nz b10) (
  gd (ob t2 b10 14) (
  gd (inb t2 b10 (0 : Int32)) (
  some (sI t2 b10 (ix (0 : Int32)), t2)))))
  else
  (if v1 = (6 : Int32) then
  lt (sR t2 v0 33) fun b16 => (
  gd (nz b16) (
  gd (ob t2 b16 14) (
  gd (inb t2 b16 (1 : Int32)) (
  some (sI t2 b16 (ix (1 : Int32)), t2)))))
  else
  (if v1 = (7 : Int32) then
  lt (sR t2 v0 58) fun b22 => (
  gd (nz b22) (
  bd (f12_sum_ t2 v0 b22 (sI t2 v0 55)) fun r25 t26 => (
  some (r25, t26))))
  else
  (if v1 = (8 : Int32) then
  lt (sR t2 v0 11) fun b30 => (
  gd (nz b30) (
  bd (f12_sum_ t2 v0 b30 (sI t2 v0 5)) fun r33 t34 => (
  some (r33, t34))))
  else
  (if v1 = (9 : Int32) then
  lt (sR t2 v0 12) fun b38 => (
  gd (nz b38) (
  bd (f12_sum_ t2 v0 b38 (sI t2 v0 5)) fun r41 t42 => (
  some (r41, t42))))
  else
  (if v1 = (10 : Int32) then
  bd (f12_many t2 v0 (0 : Int32)) fun r46 t47 => (
  some (r46, t47))
  else
  (if v1 = (11 : Int32) then
  bd (f12_many t2 v0 (1 : Int32)) fun r51 t52 => (
  some (r51, t52))
  else
  some ((-1 : Int32), t2)))))))))))))))
set_option maxRecDepth 50000 in
theorem s12_count : ∀ (σ : St) (v0 : Nat) (v1 : Int32) (r : Int32) (τ : St), f12_count σ v0 v1 = some (r, τ) → Call 3 m12_count [.ref v0, .int v1] σ (some (.int r)) τ := by
  intro σ v0 v1 r τ hf
  unfold f12_count at hf
  refine Call.of (by decide +kernel) rfl (Nat.le_of_ble_eq_true rfl) ?_
  refine ev_aload_n (j := 0) (i := 0) (q := 0) rfl rfl d12_count_0 ?_
  refine ev_iconst ci_0 d12_count_1 ?_
  obtain ⟨h1, hf⟩ := gd_some hf
  obtain ⟨t2, e3, hf⟩ := lt_some hf
  refine ev_putI cls12 (j := 0) (by decide) rfl rfl w1251 h1 (fun _ => ⟨rfl, rfl⟩) d12_count_2 (ev_nmS e3 ?_)
  refine ev_iload_n (j := 1) (i := 1) (q := 1) rfl rfl d12_count_5 ?_
  rcases ite_some hf with ⟨c4, hf⟩ | ⟨c4, hf⟩
  · refine ev_table_in (off := 62) (tgt := 68) d12_count_6 (by rw [c4]; decide) (by rw [c4]; decide) (by rw [c4]; decide) (by decide) ?_
    refine ev_aload_n (j := 0) (i := 0) (q := 0) rfl rfl d12_count_68 ?_
    refine ev_getI cls12 (j := 5) (by decide) rfl w1256 (mono_ob (mono_eI e3) h1) d12_count_69 ?_
    obtain ⟨rfl, rfl⟩ := ret_some hf
    exact ev_iret rfl d12_count_72
  rcases ite_some hf with ⟨c5, hf⟩ | ⟨c5, hf⟩
  · refine ev_table_in (off := 67) (tgt := 73) d12_count_6 (by rw [c5]; decide) (by rw [c5]; decide) (by rw [c5]; decide) (by decide) ?_
    refine ev_aload_n (j := 0) (i := 0) (q := 0) rfl rfl d12_count_73 ?_
    refine ev_getI cls12 (j := 55) (by decide) rfl w1306 (mono_ob (mono_eI e3) h1) d12_count_74 ?_
    obtain ⟨rfl, rfl⟩ := ret_some hf
    exact ev_iret rfl d12_count_77
  rcases ite_some hf with ⟨c6, hf⟩ | ⟨c6, hf⟩
  · refine ev_table_in (off := 72) (tgt := 78) d12_count_6 (by rw [c6]; decide) (by rw [c6]; decide) (by rw [c6]; decide) (by decide) ?_
    refine ev_aload_n (j := 0) (i := 0) (q := 0) rfl rfl d12_count_78 ?_
    refine ev_getI cls12 (j := 14) (by decide) rfl w1265 (mono_ob (mono_eI e3) h1) d12_count_79 ?_
    obtain ⟨rfl, rfl⟩ := ret_some hf
    exact ev_iret rfl d12_count_82
  rcases ite_some hf with ⟨c7, hf⟩ | ⟨c7, hf⟩
  · refine ev_table_in (off := 77) (tgt := 83) d12_count_6 (by rw [c7]; decide) (by rw [c7]; decide) (by rw [c7]; decide) (by decide) ?_
    refine ev_aload_n (j := 0) (i := 0) (q := 0) rfl rfl d12_count_83 ?_
    refine ev_getI cls12 (j := 49) (by decide) rfl w1300 (mono_ob (mono_eI e3) h1) d12_count_84 ?_
    obtain ⟨rfl, rfl⟩ := ret_some hf
    exact ev_iret rfl d12_count_87
  rcases ite_some hf with ⟨c8, hf⟩ | ⟨c8, hf⟩
  · refine ev_table_in (off := 82) (tgt := 88) d12_count_6 (by rw [c8]; decide) (by rw [c8]; decide) (by rw [c8]; decide) (by decide) ?_
    refine ev_aload_n (j := 0) (i := 0) (q := 0) rfl rfl d12_count_88 ?_
    refine ev_getI cls12 (j := 35) (by decide) rfl w1286 (mono_ob (mono_eI e3) h1) d12_count_89 ?_
    obtain ⟨rfl, rfl⟩ := ret_some hf
    exact ev_iret rfl d12_count_92
  rcases ite_some hf with ⟨c9, hf⟩ | ⟨c9, hf⟩
  · refine ev_table_in (off := 87) (tgt := 93) d12_count_6 (by rw [c9]; decide) (by rw [c9]; decide) (by rw [c9]; decide) (by decide) ?_
    refine ev_aload_n (j := 0) (i := 0) (q := 0) rfl rfl d12_count_93 ?_
    obtain ⟨b10, e11, hf⟩ := lt_some hf
    obtain ⟨h12, hf⟩ := gd_some hf
    refine ev_getRb cls12 (j := 33) (by decide) rfl w1284 (mono_ob (mono_eI e3) h1) e11 (nz_ne h12) d12_count_94 ?_
    refine ev_iconst ci_0 d12_count_97 ?_
    obtain ⟨h13, hf⟩ := gd_some hf
    obtain ⟨h14, hf⟩ := gd_some hf
    refine ev_iald h13 h14 d12_count_98 ?_
    obtain ⟨rfl, rfl⟩ := ret_some hf
    exact ev_iret rfl d12_count_99
  rcases ite_some hf with ⟨c15, hf⟩ | ⟨c15, hf⟩
  · refine ev_table_in (off := 94) (tgt := 100) d12_count_6 (by rw [c15]; decide) (by rw [c15]; decide) (by rw [c15]; decide) (by decide) ?_
    refine ev_aload_n (j := 0) (i := 0) (q := 0) rfl rfl d12_count_100 ?_
    obtain ⟨b16, e17, hf⟩ := lt_some hf
    obtain ⟨h18, hf⟩ := gd_some hf
    refine ev_getRb cls12 (j := 33) (by decide) rfl w1284 (mono_ob (mono_eI e3) h1) e17 (nz_ne h18) d12_count_101 ?_
    refine ev_iconst ci_1 d12_count_104 ?_
    obtain ⟨h19, hf⟩ := gd_some hf
    obtain ⟨h20, hf⟩ := gd_some hf
    refine ev_iald h19 h20 d12_count_105 ?_
    obtain ⟨rfl, rfl⟩ := ret_some hf
    exact ev_iret rfl d12_count_106
  rcases ite_some hf with ⟨c21, hf⟩ | ⟨c21, hf⟩
  · refine ev_table_in (off := 101) (tgt := 107) d12_count_6 (by rw [c21]; decide) (by rw [c21]; decide) (by rw [c21]; decide) (by decide) ?_
    refine ev_aload_n (j := 0) (i := 0) (q := 0) rfl rfl d12_count_107 ?_
    refine ev_aload_n (j := 0) (i := 0) (q := 0) rfl rfl d12_count_108 ?_
    obtain ⟨b22, e23, hf⟩ := lt_some hf
    obtain ⟨h24, hf⟩ := gd_some hf
    refine ev_getRb cls12 (j := 58) (by decide) rfl w1309 (mono_ob (mono_eI e3) h1) e23 (nz_ne h24) d12_count_109 ?_
    refine ev_aload_n (j := 0) (i := 0) (q := 0) rfl rfl d12_count_112 ?_
    refine ev_getI cls12 (j := 55) (by decide) rfl w1306 (mono_ob (mono_eI e3) h1) d12_count_113 ?_
    obtain ⟨r25, t26, k27, hf⟩ := bd_some hf
    have q28 := s12_sum_ _ _ _ _ _ _ k27
    refine ev_callV (vs := [.ref b22, .int (sI t2 v0 55)]) (sk := []) cls12 (mono_ob (mono_eI e3) h1) q28 (by decide) (Nat.le_of_ble_eq_true rfl) w1927 w1929 ws113 w19 w1930 k12_sum_ rfl (Nat.le_of_ble_eq_true rfl) d12_count_116 ?_
    obtain ⟨rfl, rfl⟩ := ret_some hf
    exact ev_iret rfl d12_count_119
  rcases ite_some hf with ⟨c29, hf⟩ | ⟨c29, hf⟩
  · refine ev_table_in (off := 114) (tgt := 120) d12_count_6 (by rw [c29]; decide) (by rw [c29]; decide) (by rw [c29]; decide) (by decide) ?_
    refine ev_aload_n (j := 0) (i := 0) (q := 0) rfl rfl d12_count_120 ?_
    refine ev_aload_n (j := 0) (i := 0) (q := 0) rfl rfl d12_count_121 ?_
    obtain ⟨b30, e31, hf⟩ := lt_some hf
    obtain ⟨h32, hf⟩ := gd_some hf
    refine ev_getRb cls12 (j := 11) (by decide) rfl w1262 (mono_ob (mono_eI e3) h1) e31 (nz_ne h32) d12_count_122 ?_
    refine ev_aload_n (j := 0) (i := 0) (q := 0) rfl rfl d12_count_125 ?_
    refine ev_getI cls12 (j := 5) (by decide) rfl w1256 (mono_ob (mono_eI e3) h1) d12_count_126 ?_
    obtain ⟨r33, t34, k35, hf⟩ := bd_some hf
    have q36 := s12_sum_ _ _ _ _ _ _ k35
    refine ev_callV (vs := [.ref b30, .int (sI t2 v0 5)]) (sk := []) cls12 (mono_ob (mono_eI e3) h1) q36 (by decide) (Nat.le_of_ble_eq_true rfl) w1927 w1929 ws113 w19 w1930 k12_sum_ rfl (Nat.le_of_ble_eq_true rfl) d12_count_129 ?_
    obtain ⟨rfl, rfl⟩ := ret_some hf
    exact ev_iret rfl d12_count_132
  rcases ite_some hf with ⟨c37, hf⟩ | ⟨c37, hf⟩
  · refine ev_table_in (off := 127) (tgt := 133) d12_count_6 (by rw [c37]; decide) (by rw [c37]; decide) (by rw [c37]; decide) (by decide) ?_
    refine ev_aload_n (j := 0) (i := 0) (q := 0) rfl rfl d12_count_133 ?_
    refine ev_aload_n (j := 0) (i := 0) (q := 0) rfl rfl d12_count_134 ?_
    obtain ⟨b38, e39, hf⟩ := lt_some hf
    obtain ⟨h40, hf⟩ := gd_some hf
    refine ev_getRb cls12 (j := 12) (by decide) rfl w1263 (mono_ob (mono_eI e3) h1) e39 (nz_ne h40) d12_count_135 ?_
    refine ev_aload_n (j := 0) (i := 0) (q := 0) rfl rfl d12_count_138 ?_
    refine ev_getI cls12 (j := 5) (by decide) rfl w1256 (mono_ob (mono_eI e3) h1) d12_count_139 ?_
    obtain ⟨r41, t42, k43, hf⟩ := bd_some hf
    have q44 := s12_sum_ _ _ _ _ _ _ k43
    refine ev_callV (vs := [.ref b38, .int (sI t2 v0 5)]) (sk := []) cls12 (mono_ob (mono_eI e3) h1) q44 (by decide) (Nat.le_of_ble_eq_true rfl) w1927 w1929 ws113 w19 w1930 k12_sum_ rfl (Nat.le_of_ble_eq_true rfl) d12_count_142 ?_
    obtain ⟨rfl, rfl⟩ := ret_some hf
    exact ev_iret rfl d12_count_145
  rcases ite_some hf with ⟨c45, hf⟩ | ⟨c45, hf⟩
  · refine ev_table_in (off := 140) (tgt := 146) d12_count_6 (by rw [c45]; decide) (by rw [c45]; decide) (by rw [c45]; decide) (by decide) ?_
    refine ev_aload_n (j := 0) (i := 0) (q := 0) rfl rfl d12_count_146 ?_
    refine ev_iconst ci_0 d12_count_147 ?_
    obtain ⟨r46, t47, k48, hf⟩ := bd_some hf
    have q49 := s12_many _ _ _ _ _ k48
    refine ev_callV (vs := [.int (0 : Int32)]) (sk := []) cls12 (mono_ob (mono_eI e3) h1) q49 (by decide) (Nat.le_of_ble_eq_true rfl) w1931 w1933 ws114 w19 w1934 k12_many rfl (Nat.le_of_ble_eq_true rfl) d12_count_148 ?_
    obtain ⟨rfl, rfl⟩ := ret_some hf
    exact ev_iret rfl d12_count_151
  rcases ite_some hf with ⟨c50, hf⟩ | ⟨c50, hf⟩
  · refine ev_table_in (off := 146) (tgt := 152) d12_count_6 (by rw [c50]; decide) (by rw [c50]; decide) (by rw [c50]; decide) (by decide) ?_
    refine ev_aload_n (j := 0) (i := 0) (q := 0) rfl rfl d12_count_152 ?_
    refine ev_iconst ci_1 d12_count_153 ?_
    obtain ⟨r51, t52, k53, hf⟩ := bd_some hf
    have q54 := s12_many _ _ _ _ _ k53
    refine ev_callV (vs := [.int (1 : Int32)]) (sk := []) cls12 (mono_ob (mono_eI e3) h1) q54 (by decide) (Nat.le_of_ble_eq_true rfl) w1931 w1933 ws114 w19 w1934 k12_many rfl (Nat.le_of_ble_eq_true rfl) d12_count_154 ?_
    obtain ⟨rfl, rfl⟩ := ret_some hf
    exact ev_iret rfl d12_count_157
  refine ev_table_out (tgt := 158) d12_count_6 (by have nc4 : v1.toInt ≠ 0 := neI c4; have nc5 : v1.toInt ≠ 1 := neI c5; have nc6 : v1.toInt ≠ 2 := neI c6; have nc7 : v1.toInt ≠ 3 := neI c7; have nc8 : v1.toInt ≠ 4 := neI c8; have nc9 : v1.toInt ≠ 5 := neI c9; have nc15 : v1.toInt ≠ 6 := neI c15; have nc21 : v1.toInt ≠ 7 := neI c21; have nc29 : v1.toInt ≠ 8 := neI c29; have nc37 : v1.toInt ≠ 9 := neI c37; have nc45 : v1.toInt ≠ 10 := neI c45; have nc50 : v1.toInt ≠ 11 := neI c50; omega) (by decide) ?_
  refine ev_iconst ci_m1 d12_count_158 ?_
  obtain ⟨rfl, rfl⟩ := ret_some hf
  exact ev_iret rfl d12_count_159
