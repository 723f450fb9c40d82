/-! THE TWO CONSTRUCTORS, walked (written by wip/gen/start.py) -/
def dsC : List (Nat × Nat) := [(1, 6), (1, 5), (94, 1), (94, 0), (94, 6), (94, 5), (94, 4), (94, 3), (94, 2), (1, 4), (78, 1), (78, 0), (78, 11), (78, 10), (78, 9), (78, 8), (78, 7), (86, 0), (86, 1), (86, 2), (78, 6), (78, 5), (81, 0), (81, 1), (81, 2), (78, 4), (78, 2), (1, 3), (70, 1), (70, 0), (70, 8), (70, 7), (70, 6), (70, 5), (70, 4), (70, 3), (70, 2), (1, 2), (68, 0), (68, 1), (1, 1), (44, 1), (64, 2), (64, 1), (64, 0), (44, 0), (60, 2), (60, 1), (60, 0), (35, 0), (35, 7), (35, 6), (35, 5), (46, 5), (52, 4), (52, 3), (52, 2), (52, 1), (52, 0), (46, 4), (46, 3), (46, 2), (46, 1), (46, 0), (35, 4), (35, 3), (35, 2), (40, 2), (40, 1), (40, 0), (35, 1), (36, 2), (36, 1), (36, 0), (1, 0), (5, 5), (5, 4), (5, 3), (5, 2), (5, 1), (5, 0), (4, 6), (26, 1), (26, 0), (4, 5), (23, 1), (23, 0), (4, 4), (20, 1), (20, 0), (4, 3), (17, 1), (17, 0), (4, 2), (14, 1), (14, 0), (4, 1), (11, 1), (11, 0), (4, 0), (8, 1), (8, 0), (2, 4), (2, 3), (2, 2), (2, 1), (2, 0)]
def isC : List (Nat × Nat × Int32) := [(46, 12, -1), (6, 5, -1), (6, 4, -1), (6, 3, -1), (6, 2, -1), (6, 1, -1), (6, 0, -1), (34, 6, -1), (33, 6, -1), (32, 6, -1), (31, 6, -1), (30, 6, -1), (29, 6, -1)]
set_option maxRecDepth 20000 in
theorem startC {σ : St} (S : ST 1 9 [] [] [] σ) : EVs (f11_init σ 1) (ST 100 6014 dsC isC lsC) := by
  unfold f11_init
  refine e_num (n' := 2) S rfl ?_
  refine e_N (n' := 2) (U' := 15) S rfl rfl rfl (fun t S => ?_)
  refine e_bd (Q' := ST 34 287 [(5, 5), (5, 4), (5, 3), (5, 2), (5, 1), (5, 0), (4, 6), (26, 1), (26, 0), (4, 5), (23, 1), (23, 0), (4, 4), (20, 1), (20, 0), (4, 3), (17, 1), (17, 0), (4, 2), (14, 1), (14, 0), (4, 1), (11, 1), (11, 0), (4, 0), (8, 1), (8, 0), (2, 4), (2, 3), (2, 2), (2, 1), (2, 0)] [(6, 5, -1), (6, 4, -1), (6, 3, -1), (6, 2, -1), (6, 1, -1), (6, 0, -1), (34, 6, -1), (33, 6, -1), (32, 6, -1), (31, 6, -1), (30, 6, -1), (29, 6, -1)] []) ?_ (fun t S => ?_)
  · unfold f8_init
    refine e_num (n' := 3) S rfl ?_
    refine e_gd (by decide) ?_
    refine e_N (n' := 3) (U' := 87) S rfl rfl rfl (fun t S => ?_)
    refine e_gd (S_ob (a := 2) (len := 6) S rfl (by decide) (by decide)) ?_
    refine e_R (a := 2) (k := 0) (v := 3) S (by decide) rfl rfl (fun t S => ?_)
    refine e_num (n' := 4) S rfl ?_
    refine e_gd (by decide) ?_
    refine e_N (n' := 4) (U' := 94) S rfl rfl rfl (fun t S => ?_)
    refine e_R (a := 2) (k := 1) (v := 4) S (by decide) rfl rfl (fun t S => ?_)
    refine e_num (n' := 5) S rfl ?_
    refine e_gd (by decide) ?_
    refine e_N (n' := 5) (U' := 100) S rfl rfl rfl (fun t S => ?_)
    refine e_R (a := 2) (k := 2) (v := 5) S (by decide) rfl rfl (fun t S => ?_)
    refine e_num (n' := 6) S rfl ?_
    refine e_gd (by decide) ?_
    refine e_N (n' := 6) (U' := 106) S rfl rfl rfl (fun t S => ?_)
    refine e_R (a := 2) (k := 3) (v := 6) S (by decide) rfl rfl (fun t S => ?_)
    refine e_num (n' := 7) S rfl ?_
    refine e_gd (by decide) ?_
    refine e_N (n' := 7) (U' := 112) S rfl rfl rfl (fun t S => ?_)
    refine e_R (a := 2) (k := 4) (v := 7) S (by decide) rfl rfl (fun t S => ?_)
    rw [FU_s, f8_init_p48]
    refine e_ifT (by decide) ?_
    refine e_gd (S_ob (a := 2) (len := 6) S rfl (by decide) (by decide)) ?_
    refine e_rd (a := 2) (k := 1) (v := 4) S (by decide) rfl ?_
    refine e_gd nz_s ?_
    refine e_num (n' := 8) S rfl ?_
    refine e_N (n' := 8) (U' := 115) S rfl rfl rfl (fun t S => ?_)
    refine e_bd (Q' := ST 10 131 [(8, 1), (8, 0), (2, 4), (2, 3), (2, 2), (2, 1), (2, 0)] [] []) ?_ (fun t S => ?_)
    · unfold f9_init
      refine e_num (n' := 9) S rfl ?_
      refine e_gd (by decide) ?_
      refine e_N (n' := 9) (U' := 123) S rfl rfl rfl (fun t S => ?_)
      refine e_gd (S_ob (a := 8) (len := 3) S rfl (by decide) (by decide)) ?_
      refine e_R (a := 8) (k := 0) (v := 9) S (by decide) rfl rfl (fun t S => ?_)
      refine e_num (n' := 10) S rfl ?_
      refine e_gd (by decide) ?_
      refine e_N (n' := 10) (U' := 131) S rfl rfl rfl (fun t S => ?_)
      refine e_R (a := 8) (k := 1) (v := 10) S (by decide) rfl rfl (fun t S => ?_)
      exact e_ret S
    refine e_gd (S_ob (a := 4) (len := 7) S rfl (by decide) (by decide)) ?_
    refine e_gd (S_inb (a := 4) (k := 19) (len := 7) S rfl (by decide) (by decide) (by decide)) ?_
    refine e_gd (S_ob (a := 8) (len := 3) S rfl (by decide) (by decide)) ?_
    refine e_R (a := 4) (k := 0) (v := 8) S (by decide) rfl rfl (fun t S => ?_)
    refine e_lt (v := (1 : Int32)) (by decide) ?_
    rw [f8_init_p48]
    refine e_ifT (by decide) ?_
    refine e_gd (S_ob (a := 2) (len := 6) S rfl (by decide) (by decide)) ?_
    refine e_rd (a := 2) (k := 1) (v := 4) S (by decide) rfl ?_
    refine e_gd nz_s ?_
    refine e_num (n' := 11) S rfl ?_
    refine e_N (n' := 11) (U' := 134) S rfl rfl rfl (fun t S => ?_)
    refine e_bd (Q' := ST 13 150 [(11, 1), (11, 0), (4, 0), (8, 1), (8, 0), (2, 4), (2, 3), (2, 2), (2, 1), (2, 0)] [] []) ?_ (fun t S => ?_)
    · unfold f9_init
      refine e_num (n' := 12) S rfl ?_
      refine e_gd (by decide) ?_
      refine e_N (n' := 12) (U' := 142) S rfl rfl rfl (fun t S => ?_)
      refine e_gd (S_ob (a := 11) (len := 3) S rfl (by decide) (by decide)) ?_
      refine e_R (a := 11) (k := 0) (v := 12) S (by decide) rfl rfl (fun t S => ?_)
      refine e_num (n' := 13) S rfl ?_
      refine e_gd (by decide) ?_
      refine e_N (n' := 13) (U' := 150) S rfl rfl rfl (fun t S => ?_)
      refine e_R (a := 11) (k := 1) (v := 13) S (by decide) rfl rfl (fun t S => ?_)
      exact e_ret S
    refine e_gd (S_ob (a := 4) (len := 7) S rfl (by decide) (by decide)) ?_
    refine e_gd (S_inb (a := 4) (k := 19) (len := 7) S rfl (by decide) (by decide) (by decide)) ?_
    refine e_gd (S_ob (a := 11) (len := 3) S rfl (by decide) (by decide)) ?_
    refine e_R (a := 4) (k := 1) (v := 11) S (by decide) rfl rfl (fun t S => ?_)
    refine e_lt (v := (2 : Int32)) (by decide) ?_
    rw [f8_init_p48]
    refine e_ifT (by decide) ?_
    refine e_gd (S_ob (a := 2) (len := 6) S rfl (by decide) (by decide)) ?_
    refine e_rd (a := 2) (k := 1) (v := 4) S (by decide) rfl ?_
    refine e_gd nz_s ?_
    refine e_num (n' := 14) S rfl ?_
    refine e_N (n' := 14) (U' := 153) S rfl rfl rfl (fun t S => ?_)
    refine e_bd (Q' := ST 16 169 [(14, 1), (14, 0), (4, 1), (11, 1), (11, 0), (4, 0), (8, 1), (8, 0), (2, 4), (2, 3), (2, 2), (2, 1), (2, 0)] [] []) ?_ (fun t S => ?_)
    · unfold f9_init
      refine e_num (n' := 15) S rfl ?_
      refine e_gd (by decide) ?_
      refine e_N (n' := 15) (U' := 161) S rfl rfl rfl (fun t S => ?_)
      refine e_gd (S_ob (a := 14) (len := 3) S rfl (by decide) (by decide)) ?_
      refine e_R (a := 14) (k := 0) (v := 15) S (by decide) rfl rfl (fun t S => ?_)
      refine e_num (n' := 16) S rfl ?_
      refine e_gd (by decide) ?_
      refine e_N (n' := 16) (U' := 169) S rfl rfl rfl (fun t S => ?_)
      refine e_R (a := 14) (k := 1) (v := 16) S (by decide) rfl rfl (fun t S => ?_)
      exact e_ret S
    refine e_gd (S_ob (a := 4) (len := 7) S rfl (by decide) (by decide)) ?_
    refine e_gd (S_inb (a := 4) (k := 19) (len := 7) S rfl (by decide) (by decide) (by decide)) ?_
    refine e_gd (S_ob (a := 14) (len := 3) S rfl (by decide) (by decide)) ?_
    refine e_R (a := 4) (k := 2) (v := 14) S (by decide) rfl rfl (fun t S => ?_)
    refine e_lt (v := (3 : Int32)) (by decide) ?_
    rw [f8_init_p48]
    refine e_ifT (by decide) ?_
    refine e_gd (S_ob (a := 2) (len := 6) S rfl (by decide) (by decide)) ?_
    refine e_rd (a := 2) (k := 1) (v := 4) S (by decide) rfl ?_
    refine e_gd nz_s ?_
    refine e_num (n' := 17) S rfl ?_
    refine e_N (n' := 17) (U' := 172) S rfl rfl rfl (fun t S => ?_)
    refine e_bd (Q' := ST 19 188 [(17, 1), (17, 0), (4, 2), (14, 1), (14, 0), (4, 1), (11, 1), (11, 0), (4, 0), (8, 1), (8, 0), (2, 4), (2, 3), (2, 2), (2, 1), (2, 0)] [] []) ?_ (fun t S => ?_)
    · unfold f9_init
      refine e_num (n' := 18) S rfl ?_
      refine e_gd (by decide) ?_
      refine e_N (n' := 18) (U' := 180) S rfl rfl rfl (fun t S => ?_)
      refine e_gd (S_ob (a := 17) (len := 3) S rfl (by decide) (by decide)) ?_
      refine e_R (a := 17) (k := 0) (v := 18) S (by decide) rfl rfl (fun t S => ?_)
      refine e_num (n' := 19) S rfl ?_
      refine e_gd (by decide) ?_
      refine e_N (n' := 19) (U' := 188) S rfl rfl rfl (fun t S => ?_)
      refine e_R (a := 17) (k := 1) (v := 19) S (by decide) rfl rfl (fun t S => ?_)
      exact e_ret S
    refine e_gd (S_ob (a := 4) (len := 7) S rfl (by decide) (by decide)) ?_
    refine e_gd (S_inb (a := 4) (k := 19) (len := 7) S rfl (by decide) (by decide) (by decide)) ?_
    refine e_gd (S_ob (a := 17) (len := 3) S rfl (by decide) (by decide)) ?_
    refine e_R (a := 4) (k := 3) (v := 17) S (by decide) rfl rfl (fun t S => ?_)
    refine e_lt (v := (4 : Int32)) (by decide) ?_
    rw [f8_init_p48]
    refine e_ifT (by decide) ?_
    refine e_gd (S_ob (a := 2) (len := 6) S rfl (by decide) (by decide)) ?_
    refine e_rd (a := 2) (k := 1) (v := 4) S (by decide) rfl ?_
    refine e_gd nz_s ?_
    refine e_num (n' := 20) S rfl ?_
    refine e_N (n' := 20) (U' := 191) S rfl rfl rfl (fun t S => ?_)
    refine e_bd (Q' := ST 22 207 [(20, 1), (20, 0), (4, 3), (17, 1), (17, 0), (4, 2), (14, 1), (14, 0), (4, 1), (11, 1), (11, 0), (4, 0), (8, 1), (8, 0), (2, 4), (2, 3), (2, 2), (2, 1), (2, 0)] [] []) ?_ (fun t S => ?_)
    · unfold f9_init
      refine e_num (n' := 21) S rfl ?_
      refine e_gd (by decide) ?_
      refine e_N (n' := 21) (U' := 199) S rfl rfl rfl (fun t S => ?_)
      refine e_gd (S_ob (a := 20) (len := 3) S rfl (by decide) (by decide)) ?_
      refine e_R (a := 20) (k := 0) (v := 21) S (by decide) rfl rfl (fun t S => ?_)
      refine e_num (n' := 22) S rfl ?_
      refine e_gd (by decide) ?_
      refine e_N (n' := 22) (U' := 207) S rfl rfl rfl (fun t S => ?_)
      refine e_R (a := 20) (k := 1) (v := 22) S (by decide) rfl rfl (fun t S => ?_)
      exact e_ret S
    refine e_gd (S_ob (a := 4) (len := 7) S rfl (by decide) (by decide)) ?_
    refine e_gd (S_inb (a := 4) (k := 19) (len := 7) S rfl (by decide) (by decide) (by decide)) ?_
    refine e_gd (S_ob (a := 20) (len := 3) S rfl (by decide) (by decide)) ?_
    refine e_R (a := 4) (k := 4) (v := 20) S (by decide) rfl rfl (fun t S => ?_)
    refine e_lt (v := (5 : Int32)) (by decide) ?_
    rw [f8_init_p48]
    refine e_ifT (by decide) ?_
    refine e_gd (S_ob (a := 2) (len := 6) S rfl (by decide) (by decide)) ?_
    refine e_rd (a := 2) (k := 1) (v := 4) S (by decide) rfl ?_
    refine e_gd nz_s ?_
    refine e_num (n' := 23) S rfl ?_
    refine e_N (n' := 23) (U' := 210) S rfl rfl rfl (fun t S => ?_)
    refine e_bd (Q' := ST 25 226 [(23, 1), (23, 0), (4, 4), (20, 1), (20, 0), (4, 3), (17, 1), (17, 0), (4, 2), (14, 1), (14, 0), (4, 1), (11, 1), (11, 0), (4, 0), (8, 1), (8, 0), (2, 4), (2, 3), (2, 2), (2, 1), (2, 0)] [] []) ?_ (fun t S => ?_)
    · unfold f9_init
      refine e_num (n' := 24) S rfl ?_
      refine e_gd (by decide) ?_
      refine e_N (n' := 24) (U' := 218) S rfl rfl rfl (fun t S => ?_)
      refine e_gd (S_ob (a := 23) (len := 3) S rfl (by decide) (by decide)) ?_
      refine e_R (a := 23) (k := 0) (v := 24) S (by decide) rfl rfl (fun t S => ?_)
      refine e_num (n' := 25) S rfl ?_
      refine e_gd (by decide) ?_
      refine e_N (n' := 25) (U' := 226) S rfl rfl rfl (fun t S => ?_)
      refine e_R (a := 23) (k := 1) (v := 25) S (by decide) rfl rfl (fun t S => ?_)
      exact e_ret S
    refine e_gd (S_ob (a := 4) (len := 7) S rfl (by decide) (by decide)) ?_
    refine e_gd (S_inb (a := 4) (k := 19) (len := 7) S rfl (by decide) (by decide) (by decide)) ?_
    refine e_gd (S_ob (a := 23) (len := 3) S rfl (by decide) (by decide)) ?_
    refine e_R (a := 4) (k := 5) (v := 23) S (by decide) rfl rfl (fun t S => ?_)
    refine e_lt (v := (6 : Int32)) (by decide) ?_
    rw [f8_init_p48]
    refine e_ifT (by decide) ?_
    refine e_gd (S_ob (a := 2) (len := 6) S rfl (by decide) (by decide)) ?_
    refine e_rd (a := 2) (k := 1) (v := 4) S (by decide) rfl ?_
    refine e_gd nz_s ?_
    refine e_num (n' := 26) S rfl ?_
    refine e_N (n' := 26) (U' := 229) S rfl rfl rfl (fun t S => ?_)
    refine e_bd (Q' := ST 28 245 [(26, 1), (26, 0), (4, 5), (23, 1), (23, 0), (4, 4), (20, 1), (20, 0), (4, 3), (17, 1), (17, 0), (4, 2), (14, 1), (14, 0), (4, 1), (11, 1), (11, 0), (4, 0), (8, 1), (8, 0), (2, 4), (2, 3), (2, 2), (2, 1), (2, 0)] [] []) ?_ (fun t S => ?_)
    · unfold f9_init
      refine e_num (n' := 27) S rfl ?_
      refine e_gd (by decide) ?_
      refine e_N (n' := 27) (U' := 237) S rfl rfl rfl (fun t S => ?_)
      refine e_gd (S_ob (a := 26) (len := 3) S rfl (by decide) (by decide)) ?_
      refine e_R (a := 26) (k := 0) (v := 27) S (by decide) rfl rfl (fun t S => ?_)
      refine e_num (n' := 28) S rfl ?_
      refine e_gd (by decide) ?_
      refine e_N (n' := 28) (U' := 245) S rfl rfl rfl (fun t S => ?_)
      refine e_R (a := 26) (k := 1) (v := 28) S (by decide) rfl rfl (fun t S => ?_)
      exact e_ret S
    refine e_gd (S_ob (a := 4) (len := 7) S rfl (by decide) (by decide)) ?_
    refine e_gd (S_inb (a := 4) (k := 19) (len := 7) S rfl (by decide) (by decide) (by decide)) ?_
    refine e_gd (S_ob (a := 26) (len := 3) S rfl (by decide) (by decide)) ?_
    refine e_R (a := 4) (k := 6) (v := 26) S (by decide) rfl rfl (fun t S => ?_)
    refine e_lt (v := (7 : Int32)) (by decide) ?_
    rw [f8_init_p48]
    refine e_ifF (by decide) ?_
    rw [FU_s, f8_init_p75]
    refine e_ifT (by decide) ?_
    refine e_gd (S_ob (a := 2) (len := 6) S rfl (by decide) (by decide)) ?_
    refine e_rd (a := 2) (k := 2) (v := 5) S (by decide) rfl ?_
    refine e_gd nz_s ?_
    refine e_num (n' := 29) S rfl ?_
    refine e_N (n' := 29) (U' := 252) S rfl rfl rfl (fun t S => ?_)
    refine e_bd (Q' := ST 29 252 [(4, 6), (26, 1), (26, 0), (4, 5), (23, 1), (23, 0), (4, 4), (20, 1), (20, 0), (4, 3), (17, 1), (17, 0), (4, 2), (14, 1), (14, 0), (4, 1), (11, 1), (11, 0), (4, 0), (8, 1), (8, 0), (2, 4), (2, 3), (2, 2), (2, 1), (2, 0)] [(29, 6, -1)] []) ?_ (fun t S => ?_)
    · unfold f0_init
      refine e_gd (S_ob (a := 29) (len := 7) S rfl (by decide) (by decide)) ?_
      refine e_I (a := 29) (k := 6) (v := -1) S (by decide) rfl (fun t S => ?_)
      exact e_ret S
    refine e_gd (S_ob (a := 5) (len := 6) S rfl (by decide) (by decide)) ?_
    refine e_gd (S_inb (a := 5) (k := 17) (len := 6) S rfl (by decide) (by decide) (by decide)) ?_
    refine e_gd (S_ob (a := 29) (len := 7) S rfl (by decide) (by decide)) ?_
    refine e_R (a := 5) (k := 0) (v := 29) S (by decide) rfl rfl (fun t S => ?_)
    refine e_lt (v := (1 : Int32)) (by decide) ?_
    rw [f8_init_p75]
    refine e_ifT (by decide) ?_
    refine e_gd (S_ob (a := 2) (len := 6) S rfl (by decide) (by decide)) ?_
    refine e_rd (a := 2) (k := 2) (v := 5) S (by decide) rfl ?_
    refine e_gd nz_s ?_
    refine e_num (n' := 30) S rfl ?_
    refine e_N (n' := 30) (U' := 259) S rfl rfl rfl (fun t S => ?_)
    refine e_bd (Q' := ST 30 259 [(5, 0), (4, 6), (26, 1), (26, 0), (4, 5), (23, 1), (23, 0), (4, 4), (20, 1), (20, 0), (4, 3), (17, 1), (17, 0), (4, 2), (14, 1), (14, 0), (4, 1), (11, 1), (11, 0), (4, 0), (8, 1), (8, 0), (2, 4), (2, 3), (2, 2), (2, 1), (2, 0)] [(30, 6, -1), (29, 6, -1)] []) ?_ (fun t S => ?_)
    · unfold f0_init
      refine e_gd (S_ob (a := 30) (len := 7) S rfl (by decide) (by decide)) ?_
      refine e_I (a := 30) (k := 6) (v := -1) S (by decide) rfl (fun t S => ?_)
      exact e_ret S
    refine e_gd (S_ob (a := 5) (len := 6) S rfl (by decide) (by decide)) ?_
    refine e_gd (S_inb (a := 5) (k := 17) (len := 6) S rfl (by decide) (by decide) (by decide)) ?_
    refine e_gd (S_ob (a := 30) (len := 7) S rfl (by decide) (by decide)) ?_
    refine e_R (a := 5) (k := 1) (v := 30) S (by decide) rfl rfl (fun t S => ?_)
    refine e_lt (v := (2 : Int32)) (by decide) ?_
    rw [f8_init_p75]
    refine e_ifT (by decide) ?_
    refine e_gd (S_ob (a := 2) (len := 6) S rfl (by decide) (by decide)) ?_
    refine e_rd (a := 2) (k := 2) (v := 5) S (by decide) rfl ?_
    refine e_gd nz_s ?_
    refine e_num (n' := 31) S rfl ?_
    refine e_N (n' := 31) (U' := 266) S rfl rfl rfl (fun t S => ?_)
    refine e_bd (Q' := ST 31 266 [(5, 1), (5, 0), (4, 6), (26, 1), (26, 0), (4, 5), (23, 1), (23, 0), (4, 4), (20, 1), (20, 0), (4, 3), (17, 1), (17, 0), (4, 2), (14, 1), (14, 0), (4, 1), (11, 1), (11, 0), (4, 0), (8, 1), (8, 0), (2, 4), (2, 3), (2, 2), (2, 1), (2, 0)] [(31, 6, -1), (30, 6, -1), (29, 6, -1)] []) ?_ (fun t S => ?_)
    · unfold f0_init
      refine e_gd (S_ob (a := 31) (len := 7) S rfl (by decide) (by decide)) ?_
      refine e_I (a := 31) (k := 6) (v := -1) S (by decide) rfl (fun t S => ?_)
      exact e_ret S
    refine e_gd (S_ob (a := 5) (len := 6) S rfl (by decide) (by decide)) ?_
    refine e_gd (S_inb (a := 5) (k := 17) (len := 6) S rfl (by decide) (by decide) (by decide)) ?_
    refine e_gd (S_ob (a := 31) (len := 7) S rfl (by decide) (by decide)) ?_
    refine e_R (a := 5) (k := 2) (v := 31) S (by decide) rfl rfl (fun t S => ?_)
    refine e_lt (v := (3 : Int32)) (by decide) ?_
    rw [f8_init_p75]
    refine e_ifT (by decide) ?_
    refine e_gd (S_ob (a := 2) (len := 6) S rfl (by decide) (by decide)) ?_
    refine e_rd (a := 2) (k := 2) (v := 5) S (by decide) rfl ?_
    refine e_gd nz_s ?_
    refine e_num (n' := 32) S rfl ?_
    refine e_N (n' := 32) (U' := 273) S rfl rfl rfl (fun t S => ?_)
    refine e_bd (Q' := ST 32 273 [(5, 2), (5, 1), (5, 0), (4, 6), (26, 1), (26, 0), (4, 5), (23, 1), (23, 0), (4, 4), (20, 1), (20, 0), (4, 3), (17, 1), (17, 0), (4, 2), (14, 1), (14, 0), (4, 1), (11, 1), (11, 0), (4, 0), (8, 1), (8, 0), (2, 4), (2, 3), (2, 2), (2, 1), (2, 0)] [(32, 6, -1), (31, 6, -1), (30, 6, -1), (29, 6, -1)] []) ?_ (fun t S => ?_)
    · unfold f0_init
      refine e_gd (S_ob (a := 32) (len := 7) S rfl (by decide) (by decide)) ?_
      refine e_I (a := 32) (k := 6) (v := -1) S (by decide) rfl (fun t S => ?_)
      exact e_ret S
    refine e_gd (S_ob (a := 5) (len := 6) S rfl (by decide) (by decide)) ?_
    refine e_gd (S_inb (a := 5) (k := 17) (len := 6) S rfl (by decide) (by decide) (by decide)) ?_
    refine e_gd (S_ob (a := 32) (len := 7) S rfl (by decide) (by decide)) ?_
    refine e_R (a := 5) (k := 3) (v := 32) S (by decide) rfl rfl (fun t S => ?_)
    refine e_lt (v := (4 : Int32)) (by decide) ?_
    rw [f8_init_p75]
    refine e_ifT (by decide) ?_
    refine e_gd (S_ob (a := 2) (len := 6) S rfl (by decide) (by decide)) ?_
    refine e_rd (a := 2) (k := 2) (v := 5) S (by decide) rfl ?_
    refine e_gd nz_s ?_
    refine e_num (n' := 33) S rfl ?_
    refine e_N (n' := 33) (U' := 280) S rfl rfl rfl (fun t S => ?_)
    refine e_bd (Q' := ST 33 280 [(5, 3), (5, 2), (5, 1), (5, 0), (4, 6), (26, 1), (26, 0), (4, 5), (23, 1), (23, 0), (4, 4), (20, 1), (20, 0), (4, 3), (17, 1), (17, 0), (4, 2), (14, 1), (14, 0), (4, 1), (11, 1), (11, 0), (4, 0), (8, 1), (8, 0), (2, 4), (2, 3), (2, 2), (2, 1), (2, 0)] [(33, 6, -1), (32, 6, -1), (31, 6, -1), (30, 6, -1), (29, 6, -1)] []) ?_ (fun t S => ?_)
    · unfold f0_init
      refine e_gd (S_ob (a := 33) (len := 7) S rfl (by decide) (by decide)) ?_
      refine e_I (a := 33) (k := 6) (v := -1) S (by decide) rfl (fun t S => ?_)
      exact e_ret S
    refine e_gd (S_ob (a := 5) (len := 6) S rfl (by decide) (by decide)) ?_
    refine e_gd (S_inb (a := 5) (k := 17) (len := 6) S rfl (by decide) (by decide) (by decide)) ?_
    refine e_gd (S_ob (a := 33) (len := 7) S rfl (by decide) (by decide)) ?_
    refine e_R (a := 5) (k := 4) (v := 33) S (by decide) rfl rfl (fun t S => ?_)
    refine e_lt (v := (5 : Int32)) (by decide) ?_
    rw [f8_init_p75]
    refine e_ifT (by decide) ?_
    refine e_gd (S_ob (a := 2) (len := 6) S rfl (by decide) (by decide)) ?_
    refine e_rd (a := 2) (k := 2) (v := 5) S (by decide) rfl ?_
    refine e_gd nz_s ?_
    refine e_num (n' := 34) S rfl ?_
    refine e_N (n' := 34) (U' := 287) S rfl rfl rfl (fun t S => ?_)
    refine e_bd (Q' := ST 34 287 [(5, 4), (5, 3), (5, 2), (5, 1), (5, 0), (4, 6), (26, 1), (26, 0), (4, 5), (23, 1), (23, 0), (4, 4), (20, 1), (20, 0), (4, 3), (17, 1), (17, 0), (4, 2), (14, 1), (14, 0), (4, 1), (11, 1), (11, 0), (4, 0), (8, 1), (8, 0), (2, 4), (2, 3), (2, 2), (2, 1), (2, 0)] [(34, 6, -1), (33, 6, -1), (32, 6, -1), (31, 6, -1), (30, 6, -1), (29, 6, -1)] []) ?_ (fun t S => ?_)
    · unfold f0_init
      refine e_gd (S_ob (a := 34) (len := 7) S rfl (by decide) (by decide)) ?_
      refine e_I (a := 34) (k := 6) (v := -1) S (by decide) rfl (fun t S => ?_)
      exact e_ret S
    refine e_gd (S_ob (a := 5) (len := 6) S rfl (by decide) (by decide)) ?_
    refine e_gd (S_inb (a := 5) (k := 17) (len := 6) S rfl (by decide) (by decide) (by decide)) ?_
    refine e_gd (S_ob (a := 34) (len := 7) S rfl (by decide) (by decide)) ?_
    refine e_R (a := 5) (k := 5) (v := 34) S (by decide) rfl rfl (fun t S => ?_)
    refine e_lt (v := (6 : Int32)) (by decide) ?_
    rw [f8_init_p75]
    refine e_ifF (by decide) ?_
    refine e_gd (S_ob (a := 2) (len := 6) S rfl (by decide) (by decide)) ?_
    refine e_rd (a := 2) (k := 3) (v := 6) S (by decide) rfl ?_
    refine e_gd nz_s ?_
    refine e_bd (Q' := ST 34 287 [(5, 5), (5, 4), (5, 3), (5, 2), (5, 1), (5, 0), (4, 6), (26, 1), (26, 0), (4, 5), (23, 1), (23, 0), (4, 4), (20, 1), (20, 0), (4, 3), (17, 1), (17, 0), (4, 2), (14, 1), (14, 0), (4, 1), (11, 1), (11, 0), (4, 0), (8, 1), (8, 0), (2, 4), (2, 3), (2, 2), (2, 1), (2, 0)] [(6, 5, -1), (6, 4, -1), (6, 3, -1), (6, 2, -1), (6, 1, -1), (6, 0, -1), (34, 6, -1), (33, 6, -1), (32, 6, -1), (31, 6, -1), (30, 6, -1), (29, 6, -1)] []) ?_ (fun t S => ?_)
    · unfold fJ7_fill_53178
      refine e_gd (S_ob (a := 6) (len := 6) S rfl (by decide) (by decide)) ?_
      refine e_lt (v := (6 : Int32)) (by rw [S_len S (a := 6) (k := 14) (len := 6) rfl (by decide) (by decide)]; rfl) ?_
      rw [FU_s, fJ7_fill_53178_p5]
      refine e_ifT (by decide) ?_
      refine e_gd (S_ob (a := 6) (len := 6) S rfl (by decide) (by decide)) ?_
      refine e_gd (S_inb (a := 6) (k := 14) (len := 6) S rfl (by decide) (by decide) (by decide)) ?_
      refine e_I (a := 6) (k := 0) (v := -1) S (by decide) rfl (fun t S => ?_)
      refine e_lt (v := (1 : Int32)) (by decide) ?_
      rw [fJ7_fill_53178_p5]
      refine e_ifT (by decide) ?_
      refine e_gd (S_ob (a := 6) (len := 6) S rfl (by decide) (by decide)) ?_
      refine e_gd (S_inb (a := 6) (k := 14) (len := 6) S rfl (by decide) (by decide) (by decide)) ?_
      refine e_I (a := 6) (k := 1) (v := -1) S (by decide) rfl (fun t S => ?_)
      refine e_lt (v := (2 : Int32)) (by decide) ?_
      rw [fJ7_fill_53178_p5]
      refine e_ifT (by decide) ?_
      refine e_gd (S_ob (a := 6) (len := 6) S rfl (by decide) (by decide)) ?_
      refine e_gd (S_inb (a := 6) (k := 14) (len := 6) S rfl (by decide) (by decide) (by decide)) ?_
      refine e_I (a := 6) (k := 2) (v := -1) S (by decide) rfl (fun t S => ?_)
      refine e_lt (v := (3 : Int32)) (by decide) ?_
      rw [fJ7_fill_53178_p5]
      refine e_ifT (by decide) ?_
      refine e_gd (S_ob (a := 6) (len := 6) S rfl (by decide) (by decide)) ?_
      refine e_gd (S_inb (a := 6) (k := 14) (len := 6) S rfl (by decide) (by decide) (by decide)) ?_
      refine e_I (a := 6) (k := 3) (v := -1) S (by decide) rfl (fun t S => ?_)
      refine e_lt (v := (4 : Int32)) (by decide) ?_
      rw [fJ7_fill_53178_p5]
      refine e_ifT (by decide) ?_
      refine e_gd (S_ob (a := 6) (len := 6) S rfl (by decide) (by decide)) ?_
      refine e_gd (S_inb (a := 6) (k := 14) (len := 6) S rfl (by decide) (by decide) (by decide)) ?_
      refine e_I (a := 6) (k := 4) (v := -1) S (by decide) rfl (fun t S => ?_)
      refine e_lt (v := (5 : Int32)) (by decide) ?_
      rw [fJ7_fill_53178_p5]
      refine e_ifT (by decide) ?_
      refine e_gd (S_ob (a := 6) (len := 6) S rfl (by decide) (by decide)) ?_
      refine e_gd (S_inb (a := 6) (k := 14) (len := 6) S rfl (by decide) (by decide) (by decide)) ?_
      refine e_I (a := 6) (k := 5) (v := -1) S (by decide) rfl (fun t S => ?_)
      refine e_lt (v := (6 : Int32)) (by decide) ?_
      rw [fJ7_fill_53178_p5]
      refine e_ifF (by decide) ?_
      exact e_ret S
    exact e_ret S
  refine e_gd (S_ob (a := 1) (len := 9) S rfl (by decide) (by decide)) ?_
  refine e_R (a := 1) (k := 0) (v := 2) S (by decide) rfl rfl (fun t S => ?_)
  refine e_num (n' := 35) S rfl ?_
  refine e_N (n' := 35) (U' := 295) S rfl rfl rfl (fun t S => ?_)
  refine e_rd (a := 1) (k := 0) (v := 2) S (by decide) rfl ?_
  refine e_gd nz_s ?_
  refine e_bd (Q' := ST 67 3416 [(44, 1), (64, 2), (64, 1), (64, 0), (44, 0), (60, 2), (60, 1), (60, 0), (35, 0), (35, 7), (35, 6), (35, 5), (46, 5), (52, 4), (52, 3), (52, 2), (52, 1), (52, 0), (46, 4), (46, 3), (46, 2), (46, 1), (46, 0), (35, 4), (35, 3), (35, 2), (40, 2), (40, 1), (40, 0), (35, 1), (36, 2), (36, 1), (36, 0), (1, 0), (5, 5), (5, 4), (5, 3), (5, 2), (5, 1), (5, 0), (4, 6), (26, 1), (26, 0), (4, 5), (23, 1), (23, 0), (4, 4), (20, 1), (20, 0), (4, 3), (17, 1), (17, 0), (4, 2), (14, 1), (14, 0), (4, 1), (11, 1), (11, 0), (4, 0), (8, 1), (8, 0), (2, 4), (2, 3), (2, 2), (2, 1), (2, 0)] [(46, 12, -1), (6, 5, -1), (6, 4, -1), (6, 3, -1), (6, 2, -1), (6, 1, -1), (6, 0, -1), (34, 6, -1), (33, 6, -1), (32, 6, -1), (31, 6, -1), (30, 6, -1), (29, 6, -1)] lsC) ?_ (fun t S => ?_)
  · unfold f4_init
    refine e_num (n' := 36) S rfl ?_
    refine e_N (n' := 36) (U' := 299) S rfl rfl rfl (fun t S => ?_)
    refine e_bd (Q' := ST 39 899 [(36, 2), (36, 1), (36, 0), (1, 0), (5, 5), (5, 4), (5, 3), (5, 2), (5, 1), (5, 0), (4, 6), (26, 1), (26, 0), (4, 5), (23, 1), (23, 0), (4, 4), (20, 1), (20, 0), (4, 3), (17, 1), (17, 0), (4, 2), (14, 1), (14, 0), (4, 1), (11, 1), (11, 0), (4, 0), (8, 1), (8, 0), (2, 4), (2, 3), (2, 2), (2, 1), (2, 0)] [(6, 5, -1), (6, 4, -1), (6, 3, -1), (6, 2, -1), (6, 1, -1), (6, 0, -1), (34, 6, -1), (33, 6, -1), (32, 6, -1), (31, 6, -1), (30, 6, -1), (29, 6, -1)] []) ?_ (fun t S => ?_)
    · unfold f1_init
      refine e_max (v := (200 : Int32)) rfl ?_
      refine e_num (n' := 37) S rfl ?_
      refine e_gd (by decide) ?_
      refine e_N (n' := 37) (U' := 499) S rfl rfl rfl (fun t S => ?_)
      refine e_gd (S_ob (a := 36) (len := 4) S rfl (by decide) (by decide)) ?_
      refine e_R (a := 36) (k := 0) (v := 37) S (by decide) rfl rfl (fun t S => ?_)
      refine e_num (n' := 38) S rfl ?_
      refine e_gd (by decide) ?_
      refine e_N (n' := 38) (U' := 699) S rfl rfl rfl (fun t S => ?_)
      refine e_R (a := 36) (k := 1) (v := 38) S (by decide) rfl rfl (fun t S => ?_)
      refine e_num (n' := 39) S rfl ?_
      refine e_gd (by decide) ?_
      refine e_N (n' := 39) (U' := 899) S rfl rfl rfl (fun t S => ?_)
      refine e_R (a := 36) (k := 2) (v := 39) S (by decide) rfl rfl (fun t S => ?_)
      exact e_ret S
    refine e_gd (S_ob (a := 35) (len := 8) S rfl (by decide) (by decide)) ?_
    refine e_R (a := 35) (k := 1) (v := 36) S (by decide) rfl rfl (fun t S => ?_)
    refine e_num (n' := 40) S rfl ?_
    refine e_N (n' := 40) (U' := 903) S rfl rfl rfl (fun t S => ?_)
    refine e_bd (Q' := ST 43 1503 [(40, 2), (40, 1), (40, 0), (35, 1), (36, 2), (36, 1), (36, 0), (1, 0), (5, 5), (5, 4), (5, 3), (5, 2), (5, 1), (5, 0), (4, 6), (26, 1), (26, 0), (4, 5), (23, 1), (23, 0), (4, 4), (20, 1), (20, 0), (4, 3), (17, 1), (17, 0), (4, 2), (14, 1), (14, 0), (4, 1), (11, 1), (11, 0), (4, 0), (8, 1), (8, 0), (2, 4), (2, 3), (2, 2), (2, 1), (2, 0)] [(6, 5, -1), (6, 4, -1), (6, 3, -1), (6, 2, -1), (6, 1, -1), (6, 0, -1), (34, 6, -1), (33, 6, -1), (32, 6, -1), (31, 6, -1), (30, 6, -1), (29, 6, -1)] []) ?_ (fun t S => ?_)
    · unfold f1_init
      refine e_max (v := (200 : Int32)) rfl ?_
      refine e_num (n' := 41) S rfl ?_
      refine e_gd (by decide) ?_
      refine e_N (n' := 41) (U' := 1103) S rfl rfl rfl (fun t S => ?_)
      refine e_gd (S_ob (a := 40) (len := 4) S rfl (by decide) (by decide)) ?_
      refine e_R (a := 40) (k := 0) (v := 41) S (by decide) rfl rfl (fun t S => ?_)
      refine e_num (n' := 42) S rfl ?_
      refine e_gd (by decide) ?_
      refine e_N (n' := 42) (U' := 1303) S rfl rfl rfl (fun t S => ?_)
      refine e_R (a := 40) (k := 1) (v := 42) S (by decide) rfl rfl (fun t S => ?_)
      refine e_num (n' := 43) S rfl ?_
      refine e_gd (by decide) ?_
      refine e_N (n' := 43) (U' := 1503) S rfl rfl rfl (fun t S => ?_)
      refine e_R (a := 40) (k := 2) (v := 43) S (by decide) rfl rfl (fun t S => ?_)
      exact e_ret S
    refine e_R (a := 35) (k := 2) (v := 40) S (by decide) rfl rfl (fun t S => ?_)
    refine e_num (n' := 44) S rfl ?_
    refine e_gd (by decide) ?_
    refine e_N (n' := 44) (U' := 1505) S rfl rfl rfl (fun t S => ?_)
    refine e_R (a := 35) (k := 3) (v := 44) S (by decide) rfl rfl (fun t S => ?_)
    refine e_num (n' := 45) S rfl ?_
    refine e_gd (by decide) ?_
    refine e_N (n' := 45) (U' := 1529) S rfl rfl rfl (fun t S => ?_)
    refine e_R (a := 35) (k := 4) (v := 45) S (by decide) rfl rfl (fun t S => ?_)
    refine e_num (n' := 46) S rfl ?_
    refine e_N (n' := 46) (U' := 1542) S rfl rfl rfl (fun t S => ?_)
    refine e_bd (Q' := ST 57 3257 [(46, 5), (52, 4), (52, 3), (52, 2), (52, 1), (52, 0), (46, 4), (46, 3), (46, 2), (46, 1), (46, 0), (35, 4), (35, 3), (35, 2), (40, 2), (40, 1), (40, 0), (35, 1), (36, 2), (36, 1), (36, 0), (1, 0), (5, 5), (5, 4), (5, 3), (5, 2), (5, 1), (5, 0), (4, 6), (26, 1), (26, 0), (4, 5), (23, 1), (23, 0), (4, 4), (20, 1), (20, 0), (4, 3), (17, 1), (17, 0), (4, 2), (14, 1), (14, 0), (4, 1), (11, 1), (11, 0), (4, 0), (8, 1), (8, 0), (2, 4), (2, 3), (2, 2), (2, 1), (2, 0)] [(46, 12, -1), (6, 5, -1), (6, 4, -1), (6, 3, -1), (6, 2, -1), (6, 1, -1), (6, 0, -1), (34, 6, -1), (33, 6, -1), (32, 6, -1), (31, 6, -1), (30, 6, -1), (29, 6, -1)] lsC) ?_ (fun t S => ?_)
    · unfold f7_init
      refine e_num (n' := 47) S rfl ?_
      refine e_gd (by decide) ?_
      refine e_N (n' := 47) (U' := 1943) S rfl rfl rfl (fun t S => ?_)
      refine e_gd (S_ob (a := 46) (len := 13) S rfl (by decide) (by decide)) ?_
      refine e_R (a := 46) (k := 0) (v := 47) S (by decide) rfl rfl (fun t S => ?_)
      refine e_num (n' := 48) S rfl ?_
      refine e_gd (by decide) ?_
      refine e_N (n' := 48) (U' := 2344) S rfl rfl rfl (fun t S => ?_)
      refine e_R (a := 46) (k := 1) (v := 48) S (by decide) rfl rfl (fun t S => ?_)
      refine e_num (n' := 49) S rfl ?_
      refine e_gd (by decide) ?_
      refine e_N (n' := 49) (U' := 2745) S rfl rfl rfl (fun t S => ?_)
      refine e_R (a := 46) (k := 2) (v := 49) S (by decide) rfl rfl (fun t S => ?_)
      refine e_num (n' := 50) S rfl ?_
      refine e_gd (by decide) ?_
      refine e_N (n' := 50) (U' := 2755) S rfl rfl rfl (fun t S => ?_)
      refine e_R (a := 46) (k := 3) (v := 50) S (by decide) rfl rfl (fun t S => ?_)
      refine e_num (n' := 51) S rfl ?_
      refine e_gd (by decide) ?_
      refine e_N (n' := 51) (U' := 2770) S rfl rfl rfl (fun t S => ?_)
      refine e_R (a := 46) (k := 4) (v := 51) S (by decide) rfl rfl (fun t S => ?_)
      refine e_num (n' := 52) S rfl ?_
      refine e_N (n' := 52) (U' := 2777) S rfl rfl rfl (fun t S => ?_)
      refine e_bd (Q' := ST 57 3257 [(52, 4), (52, 3), (52, 2), (52, 1), (52, 0), (46, 4), (46, 3), (46, 2), (46, 1), (46, 0), (35, 4), (35, 3), (35, 2), (40, 2), (40, 1), (40, 0), (35, 1), (36, 2), (36, 1), (36, 0), (1, 0), (5, 5), (5, 4), (5, 3), (5, 2), (5, 1), (5, 0), (4, 6), (26, 1), (26, 0), (4, 5), (23, 1), (23, 0), (4, 4), (20, 1), (20, 0), (4, 3), (17, 1), (17, 0), (4, 2), (14, 1), (14, 0), (4, 1), (11, 1), (11, 0), (4, 0), (8, 1), (8, 0), (2, 4), (2, 3), (2, 2), (2, 1), (2, 0)] [(6, 5, -1), (6, 4, -1), (6, 3, -1), (6, 2, -1), (6, 1, -1), (6, 0, -1), (34, 6, -1), (33, 6, -1), (32, 6, -1), (31, 6, -1), (30, 6, -1), (29, 6, -1)] []) ?_ (fun t S => ?_)
      · unfold f10_init
        refine e_max (v := (400 : Int32)) rfl ?_
        refine e_max (v := (20 : Int32)) rfl ?_
        refine e_num (n' := 53) S rfl ?_
        refine e_gd (by decide) ?_
        refine e_N (n' := 53) (U' := 3177) S rfl rfl rfl (fun t S => ?_)
        refine e_gd (S_ob (a := 52) (len := 7) S rfl (by decide) (by decide)) ?_
        refine e_R (a := 52) (k := 0) (v := 53) S (by decide) rfl rfl (fun t S => ?_)
        refine e_num (n' := 54) S rfl ?_
        refine e_gd (by decide) ?_
        refine e_N (n' := 54) (U' := 3197) S rfl rfl rfl (fun t S => ?_)
        refine e_R (a := 52) (k := 1) (v := 54) S (by decide) rfl rfl (fun t S => ?_)
        refine e_num (n' := 55) S rfl ?_
        refine e_gd (by decide) ?_
        refine e_N (n' := 55) (U' := 3217) S rfl rfl rfl (fun t S => ?_)
        refine e_R (a := 52) (k := 2) (v := 55) S (by decide) rfl rfl (fun t S => ?_)
        refine e_num (n' := 56) S rfl ?_
        refine e_gd (by decide) ?_
        refine e_N (n' := 56) (U' := 3237) S rfl rfl rfl (fun t S => ?_)
        refine e_R (a := 52) (k := 3) (v := 56) S (by decide) rfl rfl (fun t S => ?_)
        refine e_num (n' := 57) S rfl ?_
        refine e_gd (by decide) ?_
        refine e_N (n' := 57) (U' := 3257) S rfl rfl rfl (fun t S => ?_)
        refine e_R (a := 52) (k := 4) (v := 57) S (by decide) rfl rfl (fun t S => ?_)
        exact e_ret S
      refine e_R (a := 46) (k := 5) (v := 52) S (by decide) rfl rfl (fun t S => ?_)
      refine e_I (a := 46) (k := 12) (v := -1) S (by decide) rfl (fun t S => ?_)
      refine e_rd (a := 46) (k := 3) (v := 50) S (by decide) rfl ?_
      refine e_gd nz_s ?_
      refine e_spell (c := 50) (len := 10) (i := 0) S rfl (by decide) (by decide) (by decide) (by decide) (by decide) (fun t S => ?_)
      refine e_rd (a := 46) (k := 4) (v := 51) S (by decide) rfl ?_
      refine e_gd nz_s ?_
      refine e_spell (c := 51) (len := 15) (i := 1) S rfl (by decide) (by decide) (by decide) (by decide) (by decide) (fun t S => ?_)
      exact e_ret S
    refine e_R (a := 35) (k := 5) (v := 46) S (by decide) rfl rfl (fun t S => ?_)
    refine e_num (n' := 58) S rfl ?_
    refine e_gd (by decide) ?_
    refine e_N (n' := 58) (U' := 3272) S rfl rfl rfl (fun t S => ?_)
    refine e_R (a := 35) (k := 6) (v := 58) S (by decide) rfl rfl (fun t S => ?_)
    refine e_num (n' := 59) S rfl ?_
    refine e_gd (by decide) ?_
    refine e_N (n' := 59) (U' := 3336) S rfl rfl rfl (fun t S => ?_)
    refine e_R (a := 35) (k := 7) (v := 59) S (by decide) rfl rfl (fun t S => ?_)
    refine e_gd nz_s ?_
    refine e_R (a := 35) (k := 0) (v := 2) S (by decide) rfl rfl (fun t S => ?_)
    rw [FU_s, f4_init_p83]
    refine e_ifT (by decide) ?_
    refine e_gd (S_ob (a := 35) (len := 8) S rfl (by decide) (by decide)) ?_
    refine e_rd (a := 35) (k := 3) (v := 44) S (by decide) rfl ?_
    refine e_gd nz_s ?_
    refine e_num (n' := 60) S rfl ?_
    refine e_N (n' := 60) (U' := 3340) S rfl rfl rfl (fun t S => ?_)
    refine e_bd (Q' := ST 63 3376 [(60, 2), (60, 1), (60, 0), (35, 0), (35, 7), (35, 6), (35, 5), (46, 5), (52, 4), (52, 3), (52, 2), (52, 1), (52, 0), (46, 4), (46, 3), (46, 2), (46, 1), (46, 0), (35, 4), (35, 3), (35, 2), (40, 2), (40, 1), (40, 0), (35, 1), (36, 2), (36, 1), (36, 0), (1, 0), (5, 5), (5, 4), (5, 3), (5, 2), (5, 1), (5, 0), (4, 6), (26, 1), (26, 0), (4, 5), (23, 1), (23, 0), (4, 4), (20, 1), (20, 0), (4, 3), (17, 1), (17, 0), (4, 2), (14, 1), (14, 0), (4, 1), (11, 1), (11, 0), (4, 0), (8, 1), (8, 0), (2, 4), (2, 3), (2, 2), (2, 1), (2, 0)] [(46, 12, -1), (6, 5, -1), (6, 4, -1), (6, 3, -1), (6, 2, -1), (6, 1, -1), (6, 0, -1), (34, 6, -1), (33, 6, -1), (32, 6, -1), (31, 6, -1), (30, 6, -1), (29, 6, -1)] lsC) ?_ (fun t S => ?_)
    · unfold f1_init
      refine e_max (v := (12 : Int32)) rfl ?_
      refine e_num (n' := 61) S rfl ?_
      refine e_gd (by decide) ?_
      refine e_N (n' := 61) (U' := 3352) S rfl rfl rfl (fun t S => ?_)
      refine e_gd (S_ob (a := 60) (len := 4) S rfl (by decide) (by decide)) ?_
      refine e_R (a := 60) (k := 0) (v := 61) S (by decide) rfl rfl (fun t S => ?_)
      refine e_num (n' := 62) S rfl ?_
      refine e_gd (by decide) ?_
      refine e_N (n' := 62) (U' := 3364) S rfl rfl rfl (fun t S => ?_)
      refine e_R (a := 60) (k := 1) (v := 62) S (by decide) rfl rfl (fun t S => ?_)
      refine e_num (n' := 63) S rfl ?_
      refine e_gd (by decide) ?_
      refine e_N (n' := 63) (U' := 3376) S rfl rfl rfl (fun t S => ?_)
      refine e_R (a := 60) (k := 2) (v := 63) S (by decide) rfl rfl (fun t S => ?_)
      exact e_ret S
    refine e_gd (S_ob (a := 44) (len := 2) S rfl (by decide) (by decide)) ?_
    refine e_gd (S_inb (a := 44) (k := 18) (len := 2) S rfl (by decide) (by decide) (by decide)) ?_
    refine e_gd (S_ob (a := 60) (len := 4) S rfl (by decide) (by decide)) ?_
    refine e_R (a := 44) (k := 0) (v := 60) S (by decide) rfl rfl (fun t S => ?_)
    refine e_lt (v := (1 : Int32)) (by decide) ?_
    rw [f4_init_p83]
    refine e_ifT (by decide) ?_
    refine e_gd (S_ob (a := 35) (len := 8) S rfl (by decide) (by decide)) ?_
    refine e_rd (a := 35) (k := 3) (v := 44) S (by decide) rfl ?_
    refine e_gd nz_s ?_
    refine e_num (n' := 64) S rfl ?_
    refine e_N (n' := 64) (U' := 3380) S rfl rfl rfl (fun t S => ?_)
    refine e_bd (Q' := ST 67 3416 [(64, 2), (64, 1), (64, 0), (44, 0), (60, 2), (60, 1), (60, 0), (35, 0), (35, 7), (35, 6), (35, 5), (46, 5), (52, 4), (52, 3), (52, 2), (52, 1), (52, 0), (46, 4), (46, 3), (46, 2), (46, 1), (46, 0), (35, 4), (35, 3), (35, 2), (40, 2), (40, 1), (40, 0), (35, 1), (36, 2), (36, 1), (36, 0), (1, 0), (5, 5), (5, 4), (5, 3), (5, 2), (5, 1), (5, 0), (4, 6), (26, 1), (26, 0), (4, 5), (23, 1), (23, 0), (4, 4), (20, 1), (20, 0), (4, 3), (17, 1), (17, 0), (4, 2), (14, 1), (14, 0), (4, 1), (11, 1), (11, 0), (4, 0), (8, 1), (8, 0), (2, 4), (2, 3), (2, 2), (2, 1), (2, 0)] [(46, 12, -1), (6, 5, -1), (6, 4, -1), (6, 3, -1), (6, 2, -1), (6, 1, -1), (6, 0, -1), (34, 6, -1), (33, 6, -1), (32, 6, -1), (31, 6, -1), (30, 6, -1), (29, 6, -1)] lsC) ?_ (fun t S => ?_)
    · unfold f1_init
      refine e_max (v := (12 : Int32)) rfl ?_
      refine e_num (n' := 65) S rfl ?_
      refine e_gd (by decide) ?_
      refine e_N (n' := 65) (U' := 3392) S rfl rfl rfl (fun t S => ?_)
      refine e_gd (S_ob (a := 64) (len := 4) S rfl (by decide) (by decide)) ?_
      refine e_R (a := 64) (k := 0) (v := 65) S (by decide) rfl rfl (fun t S => ?_)
      refine e_num (n' := 66) S rfl ?_
      refine e_gd (by decide) ?_
      refine e_N (n' := 66) (U' := 3404) S rfl rfl rfl (fun t S => ?_)
      refine e_R (a := 64) (k := 1) (v := 66) S (by decide) rfl rfl (fun t S => ?_)
      refine e_num (n' := 67) S rfl ?_
      refine e_gd (by decide) ?_
      refine e_N (n' := 67) (U' := 3416) S rfl rfl rfl (fun t S => ?_)
      refine e_R (a := 64) (k := 2) (v := 67) S (by decide) rfl rfl (fun t S => ?_)
      exact e_ret S
    refine e_gd (S_ob (a := 44) (len := 2) S rfl (by decide) (by decide)) ?_
    refine e_gd (S_inb (a := 44) (k := 18) (len := 2) S rfl (by decide) (by decide) (by decide)) ?_
    refine e_gd (S_ob (a := 64) (len := 4) S rfl (by decide) (by decide)) ?_
    refine e_R (a := 44) (k := 1) (v := 64) S (by decide) rfl rfl (fun t S => ?_)
    refine e_lt (v := (2 : Int32)) (by decide) ?_
    rw [f4_init_p83]
    refine e_ifF (by decide) ?_
    exact e_ret S
  refine e_R (a := 1) (k := 1) (v := 35) S (by decide) rfl rfl (fun t S => ?_)
  refine e_num (n' := 68) S rfl ?_
  refine e_N (n' := 68) (U' := 3422) S rfl rfl rfl (fun t S => ?_)
  refine e_rd (a := 1) (k := 0) (v := 2) S (by decide) rfl ?_
  refine e_gd nz_s ?_
  refine e_bd (Q' := ST 69 4922 [(68, 0), (68, 1), (1, 1), (44, 1), (64, 2), (64, 1), (64, 0), (44, 0), (60, 2), (60, 1), (60, 0), (35, 0), (35, 7), (35, 6), (35, 5), (46, 5), (52, 4), (52, 3), (52, 2), (52, 1), (52, 0), (46, 4), (46, 3), (46, 2), (46, 1), (46, 0), (35, 4), (35, 3), (35, 2), (40, 2), (40, 1), (40, 0), (35, 1), (36, 2), (36, 1), (36, 0), (1, 0), (5, 5), (5, 4), (5, 3), (5, 2), (5, 1), (5, 0), (4, 6), (26, 1), (26, 0), (4, 5), (23, 1), (23, 0), (4, 4), (20, 1), (20, 0), (4, 3), (17, 1), (17, 0), (4, 2), (14, 1), (14, 0), (4, 1), (11, 1), (11, 0), (4, 0), (8, 1), (8, 0), (2, 4), (2, 3), (2, 2), (2, 1), (2, 0)] [(46, 12, -1), (6, 5, -1), (6, 4, -1), (6, 3, -1), (6, 2, -1), (6, 1, -1), (6, 0, -1), (34, 6, -1), (33, 6, -1), (32, 6, -1), (31, 6, -1), (30, 6, -1), (29, 6, -1)] lsC) ?_ (fun t S => ?_)
  · unfold f2_init
    refine e_num (n' := 69) S rfl ?_
    refine e_gd (by decide) ?_
    refine e_N (n' := 69) (U' := 4922) S rfl rfl rfl (fun t S => ?_)
    refine e_gd (S_ob (a := 68) (len := 6) S rfl (by decide) (by decide)) ?_
    refine e_R (a := 68) (k := 1) (v := 69) S (by decide) rfl rfl (fun t S => ?_)
    refine e_gd nz_s ?_
    refine e_R (a := 68) (k := 0) (v := 2) S (by decide) rfl rfl (fun t S => ?_)
    exact e_ret S
  refine e_R (a := 1) (k := 2) (v := 68) S (by decide) rfl rfl (fun t S => ?_)
  refine e_num (n' := 70) S rfl ?_
  refine e_N (n' := 70) (U' := 4932) S rfl rfl rfl (fun t S => ?_)
  refine e_rd (a := 1) (k := 0) (v := 2) S (by decide) rfl ?_
  refine e_gd nz_s ?_
  refine e_rd (a := 1) (k := 1) (v := 35) S (by decide) rfl ?_
  refine e_gd nz_s ?_
  refine e_bd (Q' := ST 77 5236 [(70, 1), (70, 0), (70, 8), (70, 7), (70, 6), (70, 5), (70, 4), (70, 3), (70, 2), (1, 2), (68, 0), (68, 1), (1, 1), (44, 1), (64, 2), (64, 1), (64, 0), (44, 0), (60, 2), (60, 1), (60, 0), (35, 0), (35, 7), (35, 6), (35, 5), (46, 5), (52, 4), (52, 3), (52, 2), (52, 1), (52, 0), (46, 4), (46, 3), (46, 2), (46, 1), (46, 0), (35, 4), (35, 3), (35, 2), (40, 2), (40, 1), (40, 0), (35, 1), (36, 2), (36, 1), (36, 0), (1, 0), (5, 5), (5, 4), (5, 3), (5, 2), (5, 1), (5, 0), (4, 6), (26, 1), (26, 0), (4, 5), (23, 1), (23, 0), (4, 4), (20, 1), (20, 0), (4, 3), (17, 1), (17, 0), (4, 2), (14, 1), (14, 0), (4, 1), (11, 1), (11, 0), (4, 0), (8, 1), (8, 0), (2, 4), (2, 3), (2, 2), (2, 1), (2, 0)] [(46, 12, -1), (6, 5, -1), (6, 4, -1), (6, 3, -1), (6, 2, -1), (6, 1, -1), (6, 0, -1), (34, 6, -1), (33, 6, -1), (32, 6, -1), (31, 6, -1), (30, 6, -1), (29, 6, -1)] lsC) ?_ (fun t S => ?_)
  · unfold f3_init
    refine e_num (n' := 71) S rfl ?_
    refine e_gd (by decide) ?_
    refine e_N (n' := 71) (U' := 4934) S rfl rfl rfl (fun t S => ?_)
    refine e_gd (S_ob (a := 70) (len := 10) S rfl (by decide) (by decide)) ?_
    refine e_R (a := 70) (k := 2) (v := 71) S (by decide) rfl rfl (fun t S => ?_)
    refine e_num (n' := 72) S rfl ?_
    refine e_gd (by decide) ?_
    refine e_N (n' := 72) (U' := 4936) S rfl rfl rfl (fun t S => ?_)
    refine e_R (a := 70) (k := 3) (v := 72) S (by decide) rfl rfl (fun t S => ?_)
    refine e_num (n' := 73) S rfl ?_
    refine e_gd (by decide) ?_
    refine e_N (n' := 73) (U' := 4996) S rfl rfl rfl (fun t S => ?_)
    refine e_R (a := 70) (k := 4) (v := 73) S (by decide) rfl rfl (fun t S => ?_)
    refine e_num (n' := 74) S rfl ?_
    refine e_gd (by decide) ?_
    refine e_N (n' := 74) (U' := 5056) S rfl rfl rfl (fun t S => ?_)
    refine e_R (a := 70) (k := 5) (v := 74) S (by decide) rfl rfl (fun t S => ?_)
    refine e_num (n' := 75) S rfl ?_
    refine e_gd (by decide) ?_
    refine e_N (n' := 75) (U' := 5116) S rfl rfl rfl (fun t S => ?_)
    refine e_R (a := 70) (k := 6) (v := 75) S (by decide) rfl rfl (fun t S => ?_)
    refine e_num (n' := 76) S rfl ?_
    refine e_gd (by decide) ?_
    refine e_N (n' := 76) (U' := 5176) S rfl rfl rfl (fun t S => ?_)
    refine e_R (a := 70) (k := 7) (v := 76) S (by decide) rfl rfl (fun t S => ?_)
    refine e_num (n' := 77) S rfl ?_
    refine e_gd (by decide) ?_
    refine e_N (n' := 77) (U' := 5236) S rfl rfl rfl (fun t S => ?_)
    refine e_R (a := 70) (k := 8) (v := 77) S (by decide) rfl rfl (fun t S => ?_)
    refine e_gd nz_s ?_
    refine e_R (a := 70) (k := 0) (v := 2) S (by decide) rfl rfl (fun t S => ?_)
    refine e_gd nz_s ?_
    refine e_R (a := 70) (k := 1) (v := 35) S (by decide) rfl rfl (fun t S => ?_)
    exact e_ret S
  refine e_R (a := 1) (k := 3) (v := 70) S (by decide) rfl rfl (fun t S => ?_)
  refine e_num (n' := 78) S rfl ?_
  refine e_N (n' := 78) (U' := 5252) S rfl rfl rfl (fun t S => ?_)
  refine e_rd (a := 1) (k := 0) (v := 2) S (by decide) rfl ?_
  refine e_gd nz_s ?_
  refine e_rd (a := 1) (k := 1) (v := 35) S (by decide) rfl ?_
  refine e_gd nz_s ?_
  refine e_bd (Q' := ST 93 5448 [(78, 1), (78, 0), (78, 11), (78, 10), (78, 9), (78, 8), (78, 7), (86, 0), (86, 1), (86, 2), (78, 6), (78, 5), (81, 0), (81, 1), (81, 2), (78, 4), (78, 2), (1, 3), (70, 1), (70, 0), (70, 8), (70, 7), (70, 6), (70, 5), (70, 4), (70, 3), (70, 2), (1, 2), (68, 0), (68, 1), (1, 1), (44, 1), (64, 2), (64, 1), (64, 0), (44, 0), (60, 2), (60, 1), (60, 0), (35, 0), (35, 7), (35, 6), (35, 5), (46, 5), (52, 4), (52, 3), (52, 2), (52, 1), (52, 0), (46, 4), (46, 3), (46, 2), (46, 1), (46, 0), (35, 4), (35, 3), (35, 2), (40, 2), (40, 1), (40, 0), (35, 1), (36, 2), (36, 1), (36, 0), (1, 0), (5, 5), (5, 4), (5, 3), (5, 2), (5, 1), (5, 0), (4, 6), (26, 1), (26, 0), (4, 5), (23, 1), (23, 0), (4, 4), (20, 1), (20, 0), (4, 3), (17, 1), (17, 0), (4, 2), (14, 1), (14, 0), (4, 1), (11, 1), (11, 0), (4, 0), (8, 1), (8, 0), (2, 4), (2, 3), (2, 2), (2, 1), (2, 0)] [(46, 12, -1), (6, 5, -1), (6, 4, -1), (6, 3, -1), (6, 2, -1), (6, 1, -1), (6, 0, -1), (34, 6, -1), (33, 6, -1), (32, 6, -1), (31, 6, -1), (30, 6, -1), (29, 6, -1)] lsC) ?_ (fun t S => ?_)
  · unfold f6_init
    refine e_num (n' := 79) S rfl ?_
    refine e_gd (by decide) ?_
    refine e_N (n' := 79) (U' := 5258) S rfl rfl rfl (fun t S => ?_)
    refine e_gd (S_ob (a := 78) (len := 16) S rfl (by decide) (by decide)) ?_
    refine e_R (a := 78) (k := 2) (v := 79) S (by decide) rfl rfl (fun t S => ?_)
    refine e_num (n' := 80) S rfl ?_
    refine e_gd (by decide) ?_
    refine e_N (n' := 80) (U' := 5261) S rfl rfl rfl (fun t S => ?_)
    refine e_R (a := 78) (k := 4) (v := 80) S (by decide) rfl rfl (fun t S => ?_)
    refine e_num (n' := 81) S rfl ?_
    refine e_gd (by decide) ?_
    refine e_gd (by decide) ?_
    refine e_M (n' := 84) (U' := 5339) S rfl (by decide) (by decide) rfl rfl (fun t S => ?_)
    refine e_R (a := 78) (k := 5) (v := 81) S (by decide) rfl rfl (fun t S => ?_)
    refine e_num (n' := 85) S rfl ?_
    refine e_gd (by decide) ?_
    refine e_N (n' := 85) (U' := 5342) S rfl rfl rfl (fun t S => ?_)
    refine e_R (a := 78) (k := 6) (v := 85) S (by decide) rfl rfl (fun t S => ?_)
    refine e_num (n' := 86) S rfl ?_
    refine e_gd (by decide) ?_
    refine e_gd (by decide) ?_
    refine e_M (n' := 89) (U' := 5420) S rfl (by decide) (by decide) rfl rfl (fun t S => ?_)
    refine e_R (a := 78) (k := 7) (v := 86) S (by decide) rfl rfl (fun t S => ?_)
    refine e_num (n' := 90) S rfl ?_
    refine e_gd (by decide) ?_
    refine e_N (n' := 90) (U' := 5424) S rfl rfl rfl (fun t S => ?_)
    refine e_R (a := 78) (k := 8) (v := 90) S (by decide) rfl rfl (fun t S => ?_)
    refine e_num (n' := 91) S rfl ?_
    refine e_gd (by decide) ?_
    refine e_N (n' := 91) (U' := 5436) S rfl rfl rfl (fun t S => ?_)
    refine e_R (a := 78) (k := 9) (v := 91) S (by decide) rfl rfl (fun t S => ?_)
    refine e_num (n' := 92) S rfl ?_
    refine e_gd (by decide) ?_
    refine e_N (n' := 92) (U' := 5442) S rfl rfl rfl (fun t S => ?_)
    refine e_R (a := 78) (k := 10) (v := 92) S (by decide) rfl rfl (fun t S => ?_)
    refine e_num (n' := 93) S rfl ?_
    refine e_gd (by decide) ?_
    refine e_N (n' := 93) (U' := 5448) S rfl rfl rfl (fun t S => ?_)
    refine e_R (a := 78) (k := 11) (v := 93) S (by decide) rfl rfl (fun t S => ?_)
    refine e_gd nz_s ?_
    refine e_R (a := 78) (k := 0) (v := 2) S (by decide) rfl rfl (fun t S => ?_)
    refine e_gd nz_s ?_
    refine e_R (a := 78) (k := 1) (v := 35) S (by decide) rfl rfl (fun t S => ?_)
    exact e_ret S
  refine e_R (a := 1) (k := 4) (v := 78) S (by decide) rfl rfl (fun t S => ?_)
  refine e_num (n' := 94) S rfl ?_
  refine e_N (n' := 94) (U' := 5458) S rfl rfl rfl (fun t S => ?_)
  refine e_rd (a := 1) (k := 0) (v := 2) S (by decide) rfl ?_
  refine e_gd nz_s ?_
  refine e_rd (a := 1) (k := 4) (v := 78) S (by decide) rfl ?_
  refine e_gd nz_s ?_
  refine e_bd (Q' := ST 99 5614 [(94, 1), (94, 0), (94, 6), (94, 5), (94, 4), (94, 3), (94, 2), (1, 4), (78, 1), (78, 0), (78, 11), (78, 10), (78, 9), (78, 8), (78, 7), (86, 0), (86, 1), (86, 2), (78, 6), (78, 5), (81, 0), (81, 1), (81, 2), (78, 4), (78, 2), (1, 3), (70, 1), (70, 0), (70, 8), (70, 7), (70, 6), (70, 5), (70, 4), (70, 3), (70, 2), (1, 2), (68, 0), (68, 1), (1, 1), (44, 1), (64, 2), (64, 1), (64, 0), (44, 0), (60, 2), (60, 1), (60, 0), (35, 0), (35, 7), (35, 6), (35, 5), (46, 5), (52, 4), (52, 3), (52, 2), (52, 1), (52, 0), (46, 4), (46, 3), (46, 2), (46, 1), (46, 0), (35, 4), (35, 3), (35, 2), (40, 2), (40, 1), (40, 0), (35, 1), (36, 2), (36, 1), (36, 0), (1, 0), (5, 5), (5, 4), (5, 3), (5, 2), (5, 1), (5, 0), (4, 6), (26, 1), (26, 0), (4, 5), (23, 1), (23, 0), (4, 4), (20, 1), (20, 0), (4, 3), (17, 1), (17, 0), (4, 2), (14, 1), (14, 0), (4, 1), (11, 1), (11, 0), (4, 0), (8, 1), (8, 0), (2, 4), (2, 3), (2, 2), (2, 1), (2, 0)] [(46, 12, -1), (6, 5, -1), (6, 4, -1), (6, 3, -1), (6, 2, -1), (6, 1, -1), (6, 0, -1), (34, 6, -1), (33, 6, -1), (32, 6, -1), (31, 6, -1), (30, 6, -1), (29, 6, -1)] lsC) ?_ (fun t S => ?_)
  · unfold f5_init
    refine e_num (n' := 95) S rfl ?_
    refine e_gd (by decide) ?_
    refine e_N (n' := 95) (U' := 5461) S rfl rfl rfl (fun t S => ?_)
    refine e_gd (S_ob (a := 94) (len := 10) S rfl (by decide) (by decide)) ?_
    refine e_R (a := 94) (k := 2) (v := 95) S (by decide) rfl rfl (fun t S => ?_)
    refine e_num (n' := 96) S rfl ?_
    refine e_gd (by decide) ?_
    refine e_N (n' := 96) (U' := 5464) S rfl rfl rfl (fun t S => ?_)
    refine e_R (a := 94) (k := 3) (v := 96) S (by decide) rfl rfl (fun t S => ?_)
    refine e_num (n' := 97) S rfl ?_
    refine e_gd (by decide) ?_
    refine e_N (n' := 97) (U' := 5470) S rfl rfl rfl (fun t S => ?_)
    refine e_R (a := 94) (k := 4) (v := 97) S (by decide) rfl rfl (fun t S => ?_)
    refine e_num (n' := 98) S rfl ?_
    refine e_gd (by decide) ?_
    refine e_N (n' := 98) (U' := 5542) S rfl rfl rfl (fun t S => ?_)
    refine e_R (a := 94) (k := 5) (v := 98) S (by decide) rfl rfl (fun t S => ?_)
    refine e_num (n' := 99) S rfl ?_
    refine e_gd (by decide) ?_
    refine e_N (n' := 99) (U' := 5614) S rfl rfl rfl (fun t S => ?_)
    refine e_R (a := 94) (k := 6) (v := 99) S (by decide) rfl rfl (fun t S => ?_)
    refine e_gd nz_s ?_
    refine e_R (a := 94) (k := 0) (v := 2) S (by decide) rfl rfl (fun t S => ?_)
    refine e_gd nz_s ?_
    refine e_R (a := 94) (k := 1) (v := 78) S (by decide) rfl rfl (fun t S => ?_)
    exact e_ret S
  refine e_R (a := 1) (k := 5) (v := 94) S (by decide) rfl rfl (fun t S => ?_)
  refine e_num (n' := 100) S rfl ?_
  refine e_gd (by decide) ?_
  refine e_N (n' := 100) (U' := 6014) S rfl rfl rfl (fun t S => ?_)
  refine e_R (a := 1) (k := 6) (v := 100) S (by decide) rfl rfl (fun t S => ?_)
  exact e_ret S
