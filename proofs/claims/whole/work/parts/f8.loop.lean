/-! THE LAW'S LOOP -/
theorem and63 (x : Int32) : ∃ v, v < 64 ∧ x &&& 63 = nI v := by
  have e : (x &&& 63).toBitVec.toNat = x.toBitVec.toNat % 64 := by
    show (x.toBitVec &&& 63#32).toNat = _
    rw [BitVec.toNat_and]
    exact Nat.and_two_pow_sub_one_eq_mod (n := 6) _
  refine ⟨x.toBitVec.toNat % 64, Nat.mod_lt _ (by decide), Int32.toBitVec_inj.mp (BitVec.eq_of_toNat_eq ?_)⟩
  rw [e]
  show _ = (BitVec.ofNat 32 (x.toBitVec.toNat % 64)).toNat
  rw [BitVec.toNat_ofNat]
  have := Nat.mod_lt x.toBitVec.toNat (show 0 < 64 by decide)
  omega
/-- millOf's case: what it must do -/
def MOC (p : Program) (l : Launch) (e : Env) (s : State) (m : MethodId) (below : List Frame) (meth : Method) (c : Code) (b L : Nat) (cy dC : Nat → ClassId) (dI : Nat → Nat → Nat) : Prop :=
  ∀ (gN gU i6 : Nat) (σ : St), i6 + 5 < L → gN ≤ 512 ∧ gU ≤ 3072 → INV σ → (∀ (τ : St) (hN hU : Nat), INV τ → hN ≤ gN + 1 → hU ≤ gU + 6 → Lw p l e s m below meth c b cy dC dI hN hU 1537 (lvS i6) [] τ) → Lw p l e s m below meth c b cy dC dI gN gU 1407 (lvS i6) [] σ
section
variable {p : Program} {l : Launch} {e : Env} {s : State} {m : MethodId} {below : List Frame} {meth : Method} {c : Code} {b L : Nat} {xs : Nat → Int32} {cy dC : Nat → ClassId} {dI : Nat → Nat → Nat}
theorem law_end (K : LKx p s m meth c b L xs) {gN gU : Nat} {lv : List (Nat × Value)} {σ : St} (hN : sN σ + gN ≤ 601024) (hU : sU σ + gU ≤ 7293034) : Lw p l e s m below meth c b cy dC dI gN gU 1543 lv [] σ := by
  refine lw_iconst K (v := 1) (by decide) dl_1543 ?_
  intro ad H locs ls hC hb hS hW hl
  refine va_forget (fun q hq => hS.2.2 q hq) ?_
  exact W.widen hN hU (lw_ret K.1 K.2.1 K.2.2.1 K.2.2.2.2.2.1 dl_1544)
theorem law_in (K : LKx p s m meth c b L xs) {gN gU i6 v : Nat} {σ : St} (hj : i6 + 5 < L) (hg : gN ≤ 512 ∧ gU ≤ 3072) (I : INV σ) (hM : MOC p l e s m below meth c b L cy dC dI) (next : ∀ (τ : St) (hN hU : Nat), INV τ → hN ≤ gN + 1 → hU ≤ gU + 6 → Lw p l e s m below meth c b cy dC dI hN hU 1537 (lvS i6) [] τ) (nx : ∀ τ, INV τ → Lw p l e s m below meth c b cy dC dI gN gU 1537 (lvS i6) [] τ) (hv : v < 64) : Lw p l e s m below meth c b cy dC dI gN gU 40 (lvS i6) [.int (nI v)] σ := by
  by_cases big : 33 < v
  · exact lw_tableOut K dl_40 (Or.inr (by rw [nI_toInt (by omega)]; omega)) (tgt := 1537) (by decide) (nx σ I)
  · have cs : v = 0 ∨ v = 1 ∨ v = 2 ∨ v = 3 ∨ v = 4 ∨ v = 5 ∨ v = 6 ∨ v = 7 ∨ v = 8 ∨ v = 9 ∨ v = 10 ∨ v = 11 ∨ v = 12 ∨ v = 13 ∨ v = 14 ∨ v = 15 ∨ v = 16 ∨ v = 17 ∨ v = 18 ∨ v = 19 ∨ v = 20 ∨ v = 21 ∨ v = 22 ∨ v = 23 ∨ v = 24 ∨ v = 25 ∨ v = 26 ∨ v = 27 ∨ v = 28 ∨ v = 29 ∨ v = 30 ∨ v = 31 ∨ v = 32 ∨ v = 33 := by omega
    rcases cs with rfl | rfl | rfl | rfl | rfl | rfl | rfl | rfl | rfl | rfl | rfl | rfl | rfl | rfl | rfl | rfl | rfl | rfl | rfl | rfl | rfl | rfl | rfl | rfl | rfl | rfl | rfl | rfl | rfl | rfl | rfl | rfl | rfl | rfl
    · exact lw_tableIn K dl_40 (by decide) (by decide) (off := 152) (by decide) (tgt := 192) (by decide) (case_bed K hj hg I nx)
    · exact lw_tableIn K dl_40 (by decide) (by decide) (off := 189) (by decide) (tgt := 229) (by decide) (case_point K hj hg I nx)
    · exact lw_tableIn K dl_40 (by decide) (by decide) (off := 238) (by decide) (tgt := 278) (by decide) (case_value K hj hg I nx)
    · exact lw_tableIn K dl_40 (by decide) (by decide) (off := 275) (by decide) (tgt := 315) (by decide) (case_mill K hj hg I nx)
    · exact lw_tableIn K dl_40 (by decide) (by decide) (off := 324) (by decide) (tgt := 364) (by decide) (case_moor K hj hg I nx)
    · exact lw_tableIn K dl_40 (by decide) (by decide) (off := 361) (by decide) (tgt := 401) (by decide) (case_dress K hj hg I nx)
    · exact lw_tableIn K dl_40 (by decide) (by decide) (off := 386) (by decide) (tgt := 426) (by decide) (case_flow K hj hg I nx)
    · exact lw_tableIn K dl_40 (by decide) (by decide) (off := 423) (by decide) (tgt := 463) (by decide) (case_power K hj hg I nx)
    · exact lw_tableIn K dl_40 (by decide) (by decide) (off := 460) (by decide) (tgt := 500) (by decide) (case_pull K hj hg I nx)
    · exact lw_tableIn K dl_40 (by decide) (by decide) (off := 525) (by decide) (tgt := 565) (by decide) (case_loss K hj hg I nx)
    · exact lw_tableIn K dl_40 (by decide) (by decide) (off := 574) (by decide) (tgt := 614) (by decide) (case_height K hj hg I nx)
    · exact lw_tableIn K dl_40 (by decide) (by decide) (off := 611) (by decide) (tgt := 651) (by decide) (case_ice K hj hg I nx)
    · exact lw_tableIn K dl_40 (by decide) (by decide) (off := 664) (by decide) (tgt := 704) (by decide) (case_heightOf K hj hg I nx)
    · exact lw_tableIn K dl_40 (by decide) (by decide) (off := 701) (by decide) (tgt := 741) (by decide) (case_iceOf K hj hg I nx)
    · exact lw_tableIn K dl_40 (by decide) (by decide) (off := 738) (by decide) (tgt := 778) (by decide) (case_feed K hj hg I nx)
    · exact lw_tableIn K dl_40 (by decide) (by decide) (off := 811) (by decide) (tgt := 851) (by decide) (case_end K hj hg I nx)
    · exact lw_tableIn K dl_40 (by decide) (by decide) (off := 836) (by decide) (tgt := 876) (by decide) (case_rules K hj hg I nx)
    · exact lw_tableIn K dl_40 (by decide) (by decide) (off := 873) (by decide) (tgt := 913) (by decide) (case_place K hj hg I nx)
    · exact lw_tableIn K dl_40 (by decide) (by decide) (off := 886) (by decide) (tgt := 926) (by decide) (case_barred K hj hg I nx)
    · exact lw_tableIn K dl_40 (by decide) (by decide) (off := 947) (by decide) (tgt := 987) (by decide) (case_word K hj hg I nx)
    · exact lw_tableIn K dl_40 (by decide) (by decide) (off := 1020) (by decide) (tgt := 1060) (by decide) (case_way K hj hg I nx)
    · exact lw_tableIn K dl_40 (by decide) (by decide) (off := 1069) (by decide) (tgt := 1109) (by decide) (case_kept K hj hg I nx)
    · exact lw_tableIn K dl_40 (by decide) (by decide) (off := 1094) (by decide) (tgt := 1134) (by decide) (case_skiffs K hj hg I nx)
    · exact lw_tableIn K dl_40 (by decide) (by decide) (off := 1131) (by decide) (tgt := 1171) (by decide) (case_order K hj hg I nx)
    · exact lw_tableIn K dl_40 (by decide) (by decide) (off := 1168) (by decide) (tgt := 1208) (by decide) (case_day K hj hg I nx)
    · exact lw_tableIn K dl_40 (by decide) (by decide) (off := 1181) (by decide) (tgt := 1221) (by decide) (case_event K hj hg I nx)
    · exact lw_tableIn K dl_40 (by decide) (by decide) (off := 1218) (by decide) (tgt := 1258) (by decide) (case_plan K hj hg I nx)
    · exact lw_tableIn K dl_40 (by decide) (by decide) (off := 1279) (by decide) (tgt := 1319) (by decide) (case_planned K hj hg I nx)
    · exact lw_tableIn K dl_40 (by decide) (by decide) (off := 1304) (by decide) (tgt := 1344) (by decide) (case_moves K hj hg I nx)
    · exact lw_tableIn K dl_40 (by decide) (by decide) (off := 1317) (by decide) (tgt := 1357) (by decide) (case_move K hj hg I nx)
    · exact lw_tableIn K dl_40 (by decide) (by decide) (off := 1354) (by decide) (tgt := 1394) (by decide) (case_go K hj hg I nx)
    · exact lw_tableIn K dl_40 (by decide) (by decide) (off := 1367) (by decide) (tgt := 1407) (by decide) (hM gN gU i6 σ hj hg I next)
    · exact lw_tableIn K dl_40 (by decide) (by decide) (off := 1435) (by decide) (tgt := 1475) (by decide) (case_orderOf K hj hg I nx)
    · exact lw_tableIn K dl_40 (by decide) (by decide) (off := 1472) (by decide) (tgt := 1512) (by decide) (case_count K hj hg I nx)
theorem law_loop (K : LKx p s m meth c b L xs) (hM : MOC p l e s m below meth c b L cy dC dI) : ∀ (j i6 gN gU : Nat) (σ : St), i6 + j = L → 6 * gN ≤ i6 → gU ≤ i6 → INV σ → Lw p l e s m below meth c b cy dC dI gN gU 23 (lvS i6) [] σ := by
  intro j
  induction j using Nat.strongRecOn with
  | ind j ih =>
    intro i6 gN gU σ hij h1 h2 I
    have hL := K.2.2.2.2.2.2.2.2.2
    have rm := I.room
    have eL : (nI L - 6).toInt = (L : Int) - 6 := by
      have z : (6 : Int32).toInt = 6 := rfl
      rw [t_sub (by rw [nI_toInt (by omega), z]; omega) (by rw [nI_toInt (by omega), z]; omega), nI_toInt (by omega), z]
    refine lw_iload K (q := 0) rfl dl_23 (lw_aload_n K (j := 0) (i := 0) (q := 4) (x := SCR) rfl rfl dl_25 (lw_slen K dl_26 (lw_bipush K (v := 6) (by decide) dl_27 (lw_isub K dl_29 (lw_gt K (tgt := 1543) (by decide) dl_30 (fun _ => law_end K (by omega) (by omega)) (fun h => ?_))))))
    have h6 : i6 + 6 ≤ L := by
      rw [t_lt, eL, nI_toInt (by omega)] at h
      omega
    have next : ∀ (τ : St) (hN hU : Nat), INV τ → hN ≤ gN + 1 → hU ≤ gU + 6 → Lw p l e s m below meth c b cy dC dI hN hU 1537 (lvS i6) [] τ := fun τ hN hU I2 a1 a2 =>
      lw_iinc K (i := 4) (q := 0) (n := 6) (v := nI (i6 + 6)) (lv2 := lvS (i6 + 6)) rfl (by rw [show Int32.ofInt 6 = nI 6 by decide]; exact nI_add _ _) (by decide) rfl dl_1537 (lw_goto K (tgt := 23) (by decide) dl_1540 (ih (j - 6) (by omega) (i6 + 6) hN hU τ (by omega) (by omega) (by omega) I2))
    have nx : ∀ τ, INV τ → Lw p l e s m below meth c b cy dC dI gN gU 1537 (lvS i6) [] τ := fun τ I2 => next τ gN gU I2 (by omega) (by omega)
    refine lw_aload_n K (j := 0) (i := 0) (q := 4) (x := SCR) rfl rfl dl_33 (lw_iload K (q := 0) rfl dl_34 (lw_sld K (by omega) dl_36 (lw_bipush K (v := 63) (by decide) dl_37 (lw_iand K dl_39 ?_))))
    obtain ⟨v, hv, ev⟩ := and63 (xs i6)
    rw [ev]
    exact law_in K (by omega) ⟨by omega, by omega⟩ I hM next nx hv
end
