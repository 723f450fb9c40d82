/-! THE REFERENCE'S -/
def dsM : List (Nat × Nat) := [(101, 78), (101, 77), (101, 75), (101, 74), (101, 67), (101, 66), (101, 65), (101, 64), (101, 63), (101, 60), (101, 59), (101, 58), (101, 57), (101, 56), (101, 54), (101, 53), (101, 50), (101, 48), (101, 47), (101, 46), (101, 45), (101, 34), (101, 33), (101, 32), (101, 31), (101, 30), (101, 29), (101, 28), (101, 27), (101, 26), (101, 25), (101, 24), (101, 23), (101, 22), (101, 21), (101, 20), (101, 18), (101, 17), (101, 16), (101, 13), (101, 12), (101, 11), (101, 10), (101, 9), (101, 8), (101, 7), (101, 6), (101, 4), (101, 3), (101, 2), (101, 1), (1, 6), (1, 5), (94, 1), (94, 0), (94, 6), (94, 5), (94, 4), (94, 3), (94, 2), (1, 4), (78, 1), (78, 0), (78, 11), (78, 10), (78, 9), (78, 8), (78, 7), (86, 0), (86, 1), (86, 2), (78, 6), (78, 5), (81, 0), (81, 1), (81, 2), (78, 4), (78, 2), (1, 3), (70, 1), (70, 0), (70, 8), (70, 7), (70, 6), (70, 5), (70, 4), (70, 3), (70, 2), (1, 2), (68, 0), (68, 1), (1, 1), (44, 1), (64, 2), (64, 1), (64, 0), (44, 0), (60, 2), (60, 1), (60, 0), (35, 0), (35, 7), (35, 6), (35, 5), (46, 5), (52, 4), (52, 3), (52, 2), (52, 1), (52, 0), (46, 4), (46, 3), (46, 2), (46, 1), (46, 0), (35, 4), (35, 3), (35, 2), (40, 2), (40, 1), (40, 0), (35, 1), (36, 2), (36, 1), (36, 0), (1, 0), (5, 5), (5, 4), (5, 3), (5, 2), (5, 1), (5, 0), (4, 6), (26, 1), (26, 0), (4, 5), (23, 1), (23, 0), (4, 4), (20, 1), (20, 0), (4, 3), (17, 1), (17, 0), (4, 2), (14, 1), (14, 0), (4, 1), (11, 1), (11, 0), (4, 0), (8, 1), (8, 0), (2, 4), (2, 3), (2, 2), (2, 1), (2, 0)]
def isM : List (Nat × Nat × Int32) := [(101, 42, -1), (46, 12, -1), (6, 5, -1), (6, 4, -1), (6, 3, -1), (6, 2, -1), (6, 1, -1), (6, 0, -1), (34, 6, -1), (33, 6, -1), (32, 6, -1), (31, 6, -1), (30, 6, -1), (29, 6, -1)]
set_option maxRecDepth 20000 in
theorem startM {σ : St} (S : ST 101 6093 dsC isC lsC σ) : EVs (f12_init σ 101) (ST 152 23945 dsM isM lsC) := by
  unfold f12_init
  refine e_num (n' := 102) S rfl ?_
  refine e_gd (by decide) ?_
  refine e_N (n' := 102) (U' := 6165) S rfl rfl rfl (fun t S => ?_)
  refine e_gd (S_ob (a := 101) (len := 79) S rfl (by decide) (by decide)) ?_
  refine e_R (a := 101) (k := 1) (v := 102) S (by decide) rfl rfl (fun t S => ?_)
  refine e_num (n' := 103) S rfl ?_
  refine e_gd (by decide) ?_
  refine e_N (n' := 103) (U' := 6172) S rfl rfl rfl (fun t S => ?_)
  refine e_R (a := 101) (k := 2) (v := 103) S (by decide) rfl rfl (fun t S => ?_)
  refine e_num (n' := 104) S rfl ?_
  refine e_gd (by decide) ?_
  refine e_N (n' := 104) (U' := 6228) S rfl rfl rfl (fun t S => ?_)
  refine e_R (a := 101) (k := 3) (v := 104) S (by decide) rfl rfl (fun t S => ?_)
  refine e_num (n' := 105) S rfl ?_
  refine e_gd (by decide) ?_
  refine e_N (n' := 105) (U' := 6284) S rfl rfl rfl (fun t S => ?_)
  refine e_R (a := 101) (k := 4) (v := 105) S (by decide) rfl rfl (fun t S => ?_)
  refine e_num (n' := 106) S rfl ?_
  refine e_gd (by decide) ?_
  refine e_N (n' := 106) (U' := 6290) S rfl rfl rfl (fun t S => ?_)
  refine e_R (a := 101) (k := 6) (v := 106) S (by decide) rfl rfl (fun t S => ?_)
  refine e_num (n' := 107) S rfl ?_
  refine e_gd (by decide) ?_
  refine e_N (n' := 107) (U' := 6296) S rfl rfl rfl (fun t S => ?_)
  refine e_R (a := 101) (k := 7) (v := 107) S (by decide) rfl rfl (fun t S => ?_)
  refine e_num (n' := 108) S rfl ?_
  refine e_gd (by decide) ?_
  refine e_N (n' := 108) (U' := 6302) S rfl rfl rfl (fun t S => ?_)
  refine e_R (a := 101) (k := 8) (v := 108) S (by decide) rfl rfl (fun t S => ?_)
  refine e_num (n' := 109) S rfl ?_
  refine e_gd (by decide) ?_
  refine e_N (n' := 109) (U' := 6308) S rfl rfl rfl (fun t S => ?_)
  refine e_R (a := 101) (k := 9) (v := 109) S (by decide) rfl rfl (fun t S => ?_)
  refine e_num (n' := 110) S rfl ?_
  refine e_gd (by decide) ?_
  refine e_N (n' := 110) (U' := 6314) S rfl rfl rfl (fun t S => ?_)
  refine e_R (a := 101) (k := 10) (v := 110) S (by decide) rfl rfl (fun t S => ?_)
  refine e_num (n' := 111) S rfl ?_
  refine e_gd (by decide) ?_
  refine e_N (n' := 111) (U' := 6320) S rfl rfl rfl (fun t S => ?_)
  refine e_R (a := 101) (k := 11) (v := 111) S (by decide) rfl rfl (fun t S => ?_)
  refine e_num (n' := 112) S rfl ?_
  refine e_gd (by decide) ?_
  refine e_N (n' := 112) (U' := 6326) S rfl rfl rfl (fun t S => ?_)
  refine e_R (a := 101) (k := 12) (v := 112) S (by decide) rfl rfl (fun t S => ?_)
  refine e_num (n' := 113) S rfl ?_
  refine e_gd (by decide) ?_
  refine e_N (n' := 113) (U' := 6332) S rfl rfl rfl (fun t S => ?_)
  refine e_R (a := 101) (k := 13) (v := 113) S (by decide) rfl rfl (fun t S => ?_)
  refine e_num (n' := 114) S rfl ?_
  refine e_gd (by decide) ?_
  refine e_N (n' := 114) (U' := 6532) S rfl rfl rfl (fun t S => ?_)
  refine e_R (a := 101) (k := 16) (v := 114) S (by decide) rfl rfl (fun t S => ?_)
  refine e_num (n' := 115) S rfl ?_
  refine e_gd (by decide) ?_
  refine e_N (n' := 115) (U' := 6732) S rfl rfl rfl (fun t S => ?_)
  refine e_R (a := 101) (k := 17) (v := 115) S (by decide) rfl rfl (fun t S => ?_)
  refine e_num (n' := 116) S rfl ?_
  refine e_gd (by decide) ?_
  refine e_N (n' := 116) (U' := 6932) S rfl rfl rfl (fun t S => ?_)
  refine e_R (a := 101) (k := 18) (v := 116) S (by decide) rfl rfl (fun t S => ?_)
  refine e_num (n' := 117) S rfl ?_
  refine e_gd (by decide) ?_
  refine e_N (n' := 117) (U' := 7132) S rfl rfl rfl (fun t S => ?_)
  refine e_R (a := 101) (k := 20) (v := 117) S (by decide) rfl rfl (fun t S => ?_)
  refine e_num (n' := 118) S rfl ?_
  refine e_gd (by decide) ?_
  refine e_N (n' := 118) (U' := 7332) S rfl rfl rfl (fun t S => ?_)
  refine e_R (a := 101) (k := 21) (v := 118) S (by decide) rfl rfl (fun t S => ?_)
  refine e_num (n' := 119) S rfl ?_
  refine e_gd (by decide) ?_
  refine e_N (n' := 119) (U' := 7532) S rfl rfl rfl (fun t S => ?_)
  refine e_R (a := 101) (k := 22) (v := 119) S (by decide) rfl rfl (fun t S => ?_)
  refine e_num (n' := 120) S rfl ?_
  refine e_gd (by decide) ?_
  refine e_N (n' := 120) (U' := 18032) S rfl rfl rfl (fun t S => ?_)
  refine e_R (a := 101) (k := 23) (v := 120) S (by decide) rfl rfl (fun t S => ?_)
  refine e_num (n' := 121) S rfl ?_
  refine e_gd (by decide) ?_
  refine e_N (n' := 121) (U' := 18057) S rfl rfl rfl (fun t S => ?_)
  refine e_R (a := 101) (k := 24) (v := 121) S (by decide) rfl rfl (fun t S => ?_)
  refine e_num (n' := 122) S rfl ?_
  refine e_gd (by decide) ?_
  refine e_N (n' := 122) (U' := 18082) S rfl rfl rfl (fun t S => ?_)
  refine e_R (a := 101) (k := 25) (v := 122) S (by decide) rfl rfl (fun t S => ?_)
  refine e_num (n' := 123) S rfl ?_
  refine e_gd (by decide) ?_
  refine e_N (n' := 123) (U' := 18582) S rfl rfl rfl (fun t S => ?_)
  refine e_R (a := 101) (k := 26) (v := 123) S (by decide) rfl rfl (fun t S => ?_)
  refine e_num (n' := 124) S rfl ?_
  refine e_gd (by decide) ?_
  refine e_N (n' := 124) (U' := 19082) S rfl rfl rfl (fun t S => ?_)
  refine e_R (a := 101) (k := 27) (v := 124) S (by decide) rfl rfl (fun t S => ?_)
  refine e_num (n' := 125) S rfl ?_
  refine e_gd (by decide) ?_
  refine e_N (n' := 125) (U' := 19582) S rfl rfl rfl (fun t S => ?_)
  refine e_R (a := 101) (k := 28) (v := 125) S (by decide) rfl rfl (fun t S => ?_)
  refine e_num (n' := 126) S rfl ?_
  refine e_gd (by decide) ?_
  refine e_N (n' := 126) (U' := 20082) S rfl rfl rfl (fun t S => ?_)
  refine e_R (a := 101) (k := 29) (v := 126) S (by decide) rfl rfl (fun t S => ?_)
  refine e_num (n' := 127) S rfl ?_
  refine e_gd (by decide) ?_
  refine e_N (n' := 127) (U' := 20582) S rfl rfl rfl (fun t S => ?_)
  refine e_R (a := 101) (k := 30) (v := 127) S (by decide) rfl rfl (fun t S => ?_)
  refine e_num (n' := 128) S rfl ?_
  refine e_gd (by decide) ?_
  refine e_N (n' := 128) (U' := 20607) S rfl rfl rfl (fun t S => ?_)
  refine e_R (a := 101) (k := 31) (v := 128) S (by decide) rfl rfl (fun t S => ?_)
  refine e_num (n' := 129) S rfl ?_
  refine e_gd (by decide) ?_
  refine e_N (n' := 129) (U' := 20632) S rfl rfl rfl (fun t S => ?_)
  refine e_R (a := 101) (k := 32) (v := 129) S (by decide) rfl rfl (fun t S => ?_)
  refine e_num (n' := 130) S rfl ?_
  refine e_gd (by decide) ?_
  refine e_N (n' := 130) (U' := 20634) S rfl rfl rfl (fun t S => ?_)
  refine e_R (a := 101) (k := 33) (v := 130) S (by decide) rfl rfl (fun t S => ?_)
  refine e_num (n' := 131) S rfl ?_
  refine e_gd (by decide) ?_
  refine e_N (n' := 131) (U' := 21034) S rfl rfl rfl (fun t S => ?_)
  refine e_R (a := 101) (k := 34) (v := 131) S (by decide) rfl rfl (fun t S => ?_)
  refine e_I (a := 101) (k := 42) (v := -1) S (by decide) rfl (fun t S => ?_)
  refine e_num (n' := 132) S rfl ?_
  refine e_gd (by decide) ?_
  refine e_N (n' := 132) (U' := 21082) S rfl rfl rfl (fun t S => ?_)
  refine e_R (a := 101) (k := 45) (v := 132) S (by decide) rfl rfl (fun t S => ?_)
  refine e_num (n' := 133) S rfl ?_
  refine e_gd (by decide) ?_
  refine e_N (n' := 133) (U' := 21088) S rfl rfl rfl (fun t S => ?_)
  refine e_R (a := 101) (k := 46) (v := 133) S (by decide) rfl rfl (fun t S => ?_)
  refine e_num (n' := 134) S rfl ?_
  refine e_gd (by decide) ?_
  refine e_N (n' := 134) (U' := 21103) S rfl rfl rfl (fun t S => ?_)
  refine e_R (a := 101) (k := 47) (v := 134) S (by decide) rfl rfl (fun t S => ?_)
  refine e_num (n' := 135) S rfl ?_
  refine e_gd (by decide) ?_
  refine e_N (n' := 135) (U' := 21523) S rfl rfl rfl (fun t S => ?_)
  refine e_R (a := 101) (k := 48) (v := 135) S (by decide) rfl rfl (fun t S => ?_)
  refine e_num (n' := 136) S rfl ?_
  refine e_gd (by decide) ?_
  refine e_N (n' := 136) (U' := 23023) S rfl rfl rfl (fun t S => ?_)
  refine e_R (a := 101) (k := 50) (v := 136) S (by decide) rfl rfl (fun t S => ?_)
  refine e_num (n' := 137) S rfl ?_
  refine e_gd (by decide) ?_
  refine e_N (n' := 137) (U' := 23025) S rfl rfl rfl (fun t S => ?_)
  refine e_R (a := 101) (k := 53) (v := 137) S (by decide) rfl rfl (fun t S => ?_)
  refine e_num (n' := 138) S rfl ?_
  refine e_gd (by decide) ?_
  refine e_N (n' := 138) (U' := 23027) S rfl rfl rfl (fun t S => ?_)
  refine e_R (a := 101) (k := 54) (v := 138) S (by decide) rfl rfl (fun t S => ?_)
  refine e_num (n' := 139) S rfl ?_
  refine e_gd (by decide) ?_
  refine e_N (n' := 139) (U' := 23087) S rfl rfl rfl (fun t S => ?_)
  refine e_R (a := 101) (k := 56) (v := 139) S (by decide) rfl rfl (fun t S => ?_)
  refine e_num (n' := 140) S rfl ?_
  refine e_gd (by decide) ?_
  refine e_N (n' := 140) (U' := 23147) S rfl rfl rfl (fun t S => ?_)
  refine e_R (a := 101) (k := 57) (v := 140) S (by decide) rfl rfl (fun t S => ?_)
  refine e_num (n' := 141) S rfl ?_
  refine e_gd (by decide) ?_
  refine e_N (n' := 141) (U' := 23207) S rfl rfl rfl (fun t S => ?_)
  refine e_R (a := 101) (k := 58) (v := 141) S (by decide) rfl rfl (fun t S => ?_)
  refine e_num (n' := 142) S rfl ?_
  refine e_gd (by decide) ?_
  refine e_N (n' := 142) (U' := 23267) S rfl rfl rfl (fun t S => ?_)
  refine e_R (a := 101) (k := 59) (v := 142) S (by decide) rfl rfl (fun t S => ?_)
  refine e_num (n' := 143) S rfl ?_
  refine e_gd (by decide) ?_
  refine e_N (n' := 143) (U' := 23327) S rfl rfl rfl (fun t S => ?_)
  refine e_R (a := 101) (k := 60) (v := 143) S (by decide) rfl rfl (fun t S => ?_)
  refine e_num (n' := 144) S rfl ?_
  refine e_gd (by decide) ?_
  refine e_N (n' := 144) (U' := 23333) S rfl rfl rfl (fun t S => ?_)
  refine e_R (a := 101) (k := 63) (v := 144) S (by decide) rfl rfl (fun t S => ?_)
  refine e_num (n' := 145) S rfl ?_
  refine e_gd (by decide) ?_
  refine e_N (n' := 145) (U' := 23339) S rfl rfl rfl (fun t S => ?_)
  refine e_R (a := 101) (k := 64) (v := 145) S (by decide) rfl rfl (fun t S => ?_)
  refine e_num (n' := 146) S rfl ?_
  refine e_gd (by decide) ?_
  refine e_N (n' := 146) (U' := 23345) S rfl rfl rfl (fun t S => ?_)
  refine e_R (a := 101) (k := 65) (v := 146) S (by decide) rfl rfl (fun t S => ?_)
  refine e_num (n' := 147) S rfl ?_
  refine e_gd (by decide) ?_
  refine e_N (n' := 147) (U' := 23777) S rfl rfl rfl (fun t S => ?_)
  refine e_R (a := 101) (k := 66) (v := 147) S (by decide) rfl rfl (fun t S => ?_)
  refine e_num (n' := 148) S rfl ?_
  refine e_gd (by decide) ?_
  refine e_N (n' := 148) (U' := 23789) S rfl rfl rfl (fun t S => ?_)
  refine e_R (a := 101) (k := 67) (v := 148) S (by decide) rfl rfl (fun t S => ?_)
  refine e_num (n' := 149) S rfl ?_
  refine e_gd (by decide) ?_
  refine e_N (n' := 149) (U' := 23795) S rfl rfl rfl (fun t S => ?_)
  refine e_R (a := 101) (k := 74) (v := 149) S (by decide) rfl rfl (fun t S => ?_)
  refine e_num (n' := 150) S rfl ?_
  refine e_gd (by decide) ?_
  refine e_N (n' := 150) (U' := 23801) S rfl rfl rfl (fun t S => ?_)
  refine e_R (a := 101) (k := 75) (v := 150) S (by decide) rfl rfl (fun t S => ?_)
  refine e_num (n' := 151) S rfl ?_
  refine e_gd (by decide) ?_
  refine e_N (n' := 151) (U' := 23873) S rfl rfl rfl (fun t S => ?_)
  refine e_R (a := 101) (k := 77) (v := 151) S (by decide) rfl rfl (fun t S => ?_)
  refine e_num (n' := 152) S rfl ?_
  refine e_gd (by decide) ?_
  refine e_N (n' := 152) (U' := 23945) S rfl rfl rfl (fun t S => ?_)
  refine e_R (a := 101) (k := 78) (v := 152) S (by decide) rfl rfl (fun t S => ?_)
  exact e_ret S
