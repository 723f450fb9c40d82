/-! THE WALK FROM THE ENTRY -/
def σ00 : St := (fun _ => (0, 0), fun _ _ => 0, fun _ _ => 0, fun _ _ => 0, 0, 0)
theorem ST_0 : ST 0 0 [] [] [] σ00 := ⟨⟨rfl, rfl⟩, fun b h1 h2 => absurd h1 (by omega), ⟨fun _ _ => rfl, fun q h => (by cases h)⟩, ⟨fun _ _ => rfl, fun q h => (by cases h)⟩, fun q h => (by cases h)⟩
theorem tx_0 {b : Nat} {s : State} (hts : ∀ w ∈ lw_tbl, w.before #[Value.ref b] s = true) (hg : (Jvm.Cond.and given_1 narrow_1).before #[Value.ref b] s = true) : Tx s.heap.size s := by
  have gv : ∀ w ∈ GIV, w.before #[Value.ref b] s = true := flat_of_before _ hg
  have hA : ∀ a : Nat, a < s.heap.size → ¬ Aof s.heap.size a := fun a ha => Nat.not_le.mpr ha
  exact ⟨face_0 hts, vx_Zqof (args := #[Value.ref b]) (tbl_w hts (tm6 (List.mem_of_getElem? (i := 2) rfl))) (tbl_w hts (tm1 (List.mem_of_getElem? (i := 22) rfl))) (gv _ gi_7.2.2.1) hA, vx_Zqof (args := #[Value.ref b]) (tbl_w hts (tm6 (List.mem_of_getElem? (i := 4) rfl))) (tbl_w hts (tm1 (List.mem_of_getElem? (i := 22) rfl))) (gv _ gi_7.2.2.2) hA⟩
section
variable {p : Program} {l : Launch} {e : Env} {s : State} {m : MethodId} {below : List Frame} {meth : Method} {c : Code} {b L : Nat} {xs : Nat → Int32} {cy dC : Nat → ClassId} {dI : Nat → Nat → Nat}
theorem law_start (K : LKx p s m meth c b L xs) (hfl : l.stackTraces = false) (TX : Tx s.heap.size s) : Lw p l e s m below meth c b cy dC dI 0 0 0 [(0, .ref SCR)] [] σ00 := by
  have S1 : ST 1 9 [] [] [] (wN σ00 11 9) := ST_N ST_0 rfl
  obtain ⟨τ1, q1, S2⟩ := startC S1
  have S3 : ST 101 6093 dsC isC lsC (wN τ1 12 79) := ST_N S2 rfl
  obtain ⟨τ2, q2, S4⟩ := startM S3
  have S5 : ST 153 23946 dsM isM lsC (wN τ2 15 (ix 1)) := ST_N S4 rfl
  have n2 : sN τ1 = 100 := S2.1.1
  have u2 : sU τ1 = 6014 := S2.1.2
  have n4 : sN τ2 = 152 := S4.1.1
  have u4 : sU τ2 = 23945 := S4.1.2
  have c1 := s11_init _ _ _ _ q1
  have c2 := s12_init _ _ _ _ q2
  refine lw_new K cls11 (by decide) w26 w27 w1 (by show 0 + 1 + 0 ≤ 601024; decide) (by show 0 + 9 + 0 ≤ 7293034; decide) dl_0 ?_
  refine lw_dup K (v := .ref 1) rfl dl_3 ?_
  refine lw_callI K (a := 1) (vs := []) (sk := [.ref 1]) c1 (by decide) (Nat.le_of_ble_eq_true rfl) w28 w29 rfl w1 w30 rfl k11_init rfl (Nat.le_of_ble_eq_true rfl) (by omega) (by omega) dl_4 ?_
  refine lw_astore_n K (j := 1) (i := 1) (lv2 := [(1, .ref 1), (0, .ref SCR)]) rfl (by decide) rfl dl_7 ?_
  refine lw_new K cls12 (by decide) w1245 w1246 w19 (by omega) (by omega) dl_8 ?_
  rw [n2]
  refine lw_dup K (v := .ref 101) rfl dl_11 ?_
  refine lw_callI K (a := 101) (vs := []) (sk := [.ref 101]) c2 (by decide) (Nat.le_of_ble_eq_true rfl) w1247 w1248 rfl w19 w1249 rfl k12_init rfl (Nat.le_of_ble_eq_true rfl) (by omega) (by omega) dl_12 ?_
  refine lw_astore_n K (j := 2) (i := 2) (lv2 := [(2, .ref 101), (1, .ref 1), (0, .ref SCR)]) rfl (by decide) rfl dl_15 ?_
  refine lw_iconst K (v := 1) (by decide) dl_16 ?_
  refine lw_newa_long K (n := 1) w213 (by decide) (by omega) (by show sU τ2 + 1 + 0 ≤ 7293034; omega) dl_17 ?_
  rw [n4]
  refine lw_astore_n K (j := 3) (i := 3) (lv2 := [(3, .ref 153), (2, .ref 101), (1, .ref 1), (0, .ref SCR)]) rfl (by decide) rfl dl_19 ?_
  refine lw_iconst K (v := 0) (by decide) dl_20 ?_
  refine lw_istore K (i := 4) (lv2 := lvS 0) (by decide) rfl dl_21 ?_
  exact law_loop K (law_MOC K hfl TX) L 0 0 0 _ (by omega) (by omega) (by omega) (inv0 S5)
end
/-- YOUR PART: from the entry, for every script of at most 3072 ints, the law comes to its end with true ('hflags': the launch's flags, for a law that throws: no stack traces) -/
theorem whole_start {p : Program} {e : Env} {s : State} {m : MethodId} {below : List Frame} {meth : Method} {c : Code} (l : Launch) (hflags : l.flags = flags0) {b L : Nat} {xs : Nat → Int32} (hL : L ≤ 3072) (C0 : lw_At p s m meth c b L xs) : W p l e room_1 s m #[Value.ref b] below meth c s.heap [] 0 0 (lw_Z below #[Value.ref b] s) (entryFrame m ([Value.ref b] : List Value).toArray 7) := by
  obtain ⟨hx, hbc, hret, hml, hown, hts, hX, hbl, hlk, hgv⟩ := C0
  have K : LKx p s m meth c b L xs := ⟨hx, hbc, hret, hml, hown, hlk, fun w hw => hts w (List.mem_filter.mp hw).1, hX, hbl, hL⟩
  have hfl : l.stackTraces = false := by
    unfold Launch.stackTraces
    rw [hflags]
    decide +kernel
  obtain ⟨ad, cy, dC, dI, hC, hb, had⟩ := cx_0 hbl hts hgv
  have hls := lv_entry ([Value.ref b]) (n := 7) (Nat.le_of_ble_eq_true rfl)
  rw [lg_entry_eq]
  generalize (lg_sl ([Value.ref b]) ++ List.replicate (7 - (lg_sl ([Value.ref b])).length) Slot.unset).toArray = ls at hls ⊢
  have hl2 : lv_has ls 7 (shl ad [(0, .ref SCR)]) := by
    show lv_has ls 7 [(0, .ref (ad SCR))]
    rw [hb]
    exact hls
  exact law_start K hfl (tx_0 hts hgv) ad s.heap [] ls hC hb va_S.rf ⟨fun k q h => (by cases h), ⟨fun i j p q h => (by cases h), fun k q h => (by cases h)⟩, fun j hj => by
    have h1 : sN σ00 + 1 + j = 1 + j := by show 0 + 1 + j = 1 + j; omega
    rw [h1] at hj ⊢
    exact had j hj⟩ hl2
