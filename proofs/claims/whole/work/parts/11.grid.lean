/-! new int[N][K], over Ev -/
section
variable {d : Nat} {M : MD} {pc : Nat} {lv : List (Nat × Value)} {sk : List Value} {σ τ : St} {r : Option Value}
def wM (σ : St) (N K : Nat) : St :=
  (fun b => if b = sN σ + 1 then (21, N) else if sN σ + 1 < b ∧ b ≤ sN σ + 1 + N then (14, K) else sK σ b,
   fun b j => if sN σ < b ∧ b ≤ sN σ + 1 + N then 0 else sI σ b j, fun b j => if sN σ < b ∧ b ≤ sN σ + 1 + N then 0 else sL σ b j,
   fun b j => if b = sN σ + 1 then (if j < N then sN σ + 2 + j else 0) else if sN σ < b ∧ b ≤ sN σ + 1 + N then 0 else sR σ b j, sN σ + (1 + N), sU σ + (N + N * K))
theorem wld_inv {ad : Nat → Nat} {cy : Nat → ClassId} {σ : St} {i : Nat} {p : Nat × va_E} (h : (wld ad cy σ)[i]? = some p) : i < sN σ ∧ p = (ad (i + 1), cel ad cy σ (i + 1)) := by
  have hi : i < sN σ := by have := (List.getElem?_eq_some_iff.mp h).1; rwa [wld_len] at this
  have h2 := wld_get (ad := ad) (cy := cy) (σ := σ) (a := i + 1) (by omega) (by omega)
  rw [Nat.add_sub_cancel] at h2
  exact ⟨hi, Option.some.inj (h.symm.trans h2)⟩
theorem Wd.pushes {ad : Nat → Nat} {cy dC : Nat → ClassId} {dI : Nat → Nat → Nat} {B0 n : Nat} {σ τ : St} {H H1 : Heap} (hW : Wd ad cy dC dI B0 σ H) (hB : B0 ≤ H.size) (hn : sN τ = sN σ + n) (hz : sN σ + n < STR) (ho : ∀ b, b ≤ sN σ → cel ad cy τ b = cel ad cy σ b)
    (he : ∀ i, i < n → va_at (dC, dI) vwCl (H.size + i, cel ad cy τ (sN σ + 1 + i)) H1) (z : H1.size = H.size + n) (oq : ∀ q : Nat, q < H.size → H1[q]? = H[q]?) : Wd ad cy dC dI B0 τ H1 := by
  have ea : ∀ i, i < n → ad (sN σ + 1 + i) = H.size + i := fun i hi => hW.2.2 i (by omega)
  have old : ∀ i, i < sN σ → (wld ad cy σ)[i]? = some (ad (i + 1), cel ad cy τ (i + 1)) := fun i hi => by
    have := wld_get (ad := ad) (cy := cy) (σ := σ) (a := i + 1) (by omega) (by omega)
    rw [Nat.add_sub_cancel] at this
    rw [this, ho (i + 1) (by omega)]
  have lo : ∀ i, i < sN σ → ad (i + 1) < H.size := fun i hi => (hW.1 _ _ (old i hi)).lt
  refine ⟨fun k q hq => ?_, ⟨fun i j p q hp hq hpq => ?_, fun k q hq => ?_⟩, fun j hj => ?_⟩
  · obtain ⟨hk, rfl⟩ := wld_inv hq
    by_cases h : k < sN σ
    · exact (hW.1 _ _ (old k h)).kept (oq _ (lo k h))
    · have := he (k - sN σ) (by omega)
      rw [show sN σ + 1 + (k - sN σ) = k + 1 by omega] at this
      rw [show ad (k + 1) = H.size + (k - sN σ) by rw [← ea (k - sN σ) (by omega)]; congr 1; omega]
      exact this
  · obtain ⟨hi, rfl⟩ := wld_inv hp
    obtain ⟨hj, rfl⟩ := wld_inv hq
    have hpq2 : ad (i + 1) = ad (j + 1) := hpq
    have nw : ∀ k, ¬ k < sN σ → k < sN τ → ad (k + 1) = H.size + (k - sN σ) := fun k h1 h2 => by rw [← ea (k - sN σ) (by omega)]; congr 1; omega
    by_cases h1 : i < sN σ
    · by_cases h2 : j < sN σ
      · exact hW.2.1.1 i j _ _ (old i h1) (old j h2) hpq2
      · have a1 := lo i h1
        rw [hpq2, nw j h2 hj] at a1
        omega
    · by_cases h2 : j < sN σ
      · have a1 := lo j h2
        rw [← hpq2, nw i h1 hi] at a1
        omega
      · rw [nw i h1 hi, nw j h2 hj] at hpq2
        omega
  · obtain ⟨hk, rfl⟩ := wld_inv hq
    by_cases h : k < sN σ
    · exact hW.2.1.2 _ _ (old k h)
    · show B0 ≤ ad (k + 1)
      rw [show ad (k + 1) = H.size + (k - sN σ) by rw [← ea (k - sN σ) (by omega)]; congr 1; omega]
      omega
  · rw [hn] at hj ⊢
    have := hW.2.2 (n + j) (by omega)
    rw [show sN σ + n + 1 + j = sN σ + 1 + (n + j) by omega, this, z]
    omega
theorem vr_outer (c : ClassId) (N h0 : Nat) : ∀ i : Nat, Jvm.Free.Multi.outerC c N h0 i = arrV c N (fun j => va_rf (if j < i then some (h0 + 1 + j) else none))
  | 0 => by
    show ({ cls := c, slots := Array.replicate N .null, vm := .none } : Cell) = _
    rw [arrV_new]
    refine congrArg (arrV c N) (funext fun j => ?_)
    simp [va_rf]
  | i + 1 => by
    show (Jvm.Free.Multi.outerC c N h0 i).setSlot i (.ref (h0 + 1 + i)) = _
    rw [vr_outer c N h0 i, arrV_store]
    refine congrArg (arrV c N) (funext fun j => ?_)
    by_cases e : j = i
    · subst e
      simp [updV, va_rf]
    · by_cases h : j < i
      · simp [updV, e, h, Nat.lt_succ_of_lt h]
      · simp [updV, e, h, show ¬ j < i + 1 by omega]
theorem ev_mna {n k9 : Int32} {idx : Nat} (hw : Cond.classLink M.1 idx "[[I" ∈ ALLG) (hw2 : Cond.arrayClass .int ∈ ALLG) (hn : szOk n = true) (hk : szOk k9 = true)
    (hd : decode M.2.2.1 pc = .ok (.multianewarray idx 2, 4)) (k : Ev d M (pc + 4) lv (.ref (sN σ + 1) :: sk) (wM σ (ix n) (ix k9)) r τ) : Ev d M pc lv (.int k9 :: .int n :: sk) σ r τ := by
  have hm : sN σ + (1 + ix n) ≤ sN τ := k.1.1
  have hu : sU σ + (ix n + ix n * ix k9) ≤ sU τ := k.1.2.1
  obtain ⟨hn0, hn1⟩ := szOk_spec hn
  obtain ⟨hk0, hk1⟩ := szOk_spec hk
  have hmn : Mono σ (wM σ (ix n) (ix k9)) := ⟨Nat.le_add_right _ _, Nat.le_add_right _ _, fun a ha => by
    show (if a = sN σ + 1 then _ else if sN σ + 1 < a ∧ _ then _ else _) = _
    rw [if_neg (by omega), if_neg (by omega)]⟩
  refine ⟨mono_tr hmn k.1, ?_⟩
  intro p l e s m args below meth c H locs ls ad cy dC dI B0 n0 u0 K hz h1 h2 hS hW hl
  obtain ⟨hx, hb, hret, hml, hown, hlk, hmn, hts, hC⟩ := id K
  have ea := ad_new hW (by omega)
  have hao : va_AOI s := hC.2.2.2.2.2.2.2.2.2.2.2
  intro T hT X
  obtain ⟨vm₁, cA, comp, -, fA, fC, hO, -, X', step⟩ := X.multianewarray2F hx (ty := .int) hown (fin_word hts hw) hao (fin_word hts hw2) (g := F0 m pc ls ((Value.int k9 :: .int n :: sk).map (sh ad))) rfl (by rw [hb]; exact hd) rfl hn0 hk0 (by show ix n * 4 ≤ _; omega) (by show ix k9 * 4 ≤ _; omega) (by show ix k9 ≤ _; omega) rfl rfl (by show _ + (1 + ix n) ≤ sN τ - n0; omega) (by show _ + (ix n + ix n * ix k9) ≤ sU τ - u0; omega)
  have ec : comp = cy 14 := ra_prim hC.1 (kd := 14) (t := .int) rfl rfl fC
  have eA : cA = cy 21 := by
    have h3 : s.vm.findClass ("[" ++ (FieldType.array .int).toString) = some (cy 21) := (hC.1.2 8 _ rfl).2
    exact Option.some.inj (fA.symm.trans h3)
  subst ec
  subst eA
  generalize hF : Jvm.Free.Multi.fill (T.setVm vm₁) (cy 21) (cy 14) n.toNatClampNeg k9.toNatClampNeg (defaultValue .int) n.toNatClampNeg = F at X' step
  have hTh : (T.setVm vm₁).heap = H := hT
  obtain ⟨f1, f2, -, -⟩ := Jvm.Free.Multi.fill_facts (T.setVm vm₁) (cy 21) (cy 14) n.toNatClampNeg k9.toNatClampNeg (defaultValue .int) n.toNatClampNeg
  rw [hF, hTh] at f1 f2
  have hold : ∀ x : Nat, x < H.size → F.heap[x]? = H[x]? := fun x hx => by
    have := Jvm.Free.Multi.fill_old (T.setVm vm₁) (cy 21) (cy 14) n.toNatClampNeg k9.toNatClampNeg (defaultValue .int) (a := x) (by rw [hTh]; exact hx) n.toNatClampNeg
    rw [hF, hTh] at this
    exact this
  have hrow : ∀ j : Nat, j < n.toNatClampNeg → F.heap[H.size + 1 + j]? = some (arrV (cy 14) (ix k9) (fun _ => .int 0)) := fun j hj => by
    have := Jvm.Free.Multi.fill_inner (T.setVm vm₁) (cy 21) (cy 14) n.toNatClampNeg k9.toNatClampNeg (defaultValue .int) n.toNatClampNeg j hj
    rw [hF, hTh] at this
    rw [this]
    show some ({ cls := cy 14, slots := Array.replicate _ _, vm := .none } : Cell) = _
    rw [arrV_new]
    rfl
  rw [vr_outer] at f2
  have hW2 : Wd ad cy dC dI B0 (wM σ (ix n) (ix k9)) F.heap := by
    refine hW.pushes (n := 1 + ix n) (cx_B hC hS) rfl (by omega) (fun b hb => cel_eq ?_ ?_ ?_ ?_) (fun i hi => ?_) (by rw [f1]; show H.size + 1 + ix n = _; omega) hold
    · show (if b = sN σ + 1 then _ else if sN σ + 1 < b ∧ _ then _ else _) = _
      rw [if_neg (by omega), if_neg (by omega)]
    · exact funext fun j => if_neg (by omega)
    · exact funext fun j => if_neg (by omega)
    · refine funext fun j => ?_
      show (if b = sN σ + 1 then _ else if sN σ < b ∧ _ then _ else _) = _
      rw [if_neg (by omega), if_neg (by omega)]
    · by_cases h0 : i = 0
      · subst h0
        have hkk : sK (wM σ (ix n) (ix k9)) (sN σ + 1 + 0) = (21, ix n) := if_pos rfl
        have hk2 : (sK (wM σ (ix n) (ix k9)) (sN σ + 1 + 0)).1 = 21 := by rw [hkk]
        rw [cel_q hk2 (by decide), hkk]
        show F.heap[H.size]? = some (arrV _ _ (fun j => va_rf (rO ad (sR (wM σ (ix n) (ix k9)) (sN σ + 1 + 0) j))))
        rw [f2]
        congr 2
        funext j
        have e5 : sR (wM σ (ix n) (ix k9)) (sN σ + 1 + 0) j = if j < ix n then sN σ + 2 + j else 0 := if_pos rfl
        rw [e5]
        show va_rf (if j < ix n then _ else _) = _
        by_cases hj : j < ix n
        · rw [if_pos hj, if_pos hj]
          unfold rO
          rw [if_neg (by omega)]
          have := hW.2.2 (1 + j) (by omega)
          rw [show sN σ + 2 + j = sN σ + 1 + (1 + j) by omega, this]
          congr 2
          omega
        · rw [if_neg hj, if_neg hj]
          rfl
      · have hkk : sK (wM σ (ix n) (ix k9)) (sN σ + 1 + i) = (14, ix k9) := by
          show (if _ then _ else if _ then _ else _) = _
          rw [if_neg (by omega), if_pos (by omega)]
        have hk2 : (sK (wM σ (ix n) (ix k9)) (sN σ + 1 + i)).1 = 14 := by rw [hkk]
        rw [cel_i hk2 (by decide) (by decide) (by decide), hkk]
        show F.heap[H.size + i]? = some (arrV _ _ (fun j => .int (sI (wM σ (ix n) (ix k9)) (sN σ + 1 + i) j)))
        have := hrow (i - 1) (by show i - 1 < ix n; omega)
        rw [show H.size + 1 + (i - 1) = H.size + i by omega] at this
        rw [this]
        congr 2
        funext j
        have e5 : sI (wM σ (ix n) (ix k9)) (sN σ + 1 + i) j = 0 := if_pos (by omega)
        rw [e5]
  have kk := k.2 p l e s m args below meth c F.heap locs ls ad cy dC dI B0 n0 u0 K hz (by show _ ≤ sN σ + (1 + ix n); omega) (by show _ ≤ sU σ + (ix n + ix n * ix k9); omega) (hS.grow (by rw [f1]; omega) hold) hW2 hl
  rw [show sN (wM σ (ix n) (ix k9)) - n0 = sN σ - n0 + (1 + ix n) from by show sN σ + (1 + ix n) - n0 = _; omega, show sU (wM σ (ix n) (ix k9)) - u0 = sU σ - u0 + (ix n + ix n * ix k9) from by show sU σ + (ix n + ix n * ix k9) - u0 = _; omega] at kk
  have kk2 : W p l e (rmOf d (sN τ - n0) (sU τ - u0)) s m args below meth c F.heap locs (sN σ - n0 + (1 + ix n)) (sU σ - u0 + (ix n + ix n * ix k9)) (MQ below (Qe ad cy dC dI B0 r τ) args s (sN τ - n0) (sU τ - u0) (Aof B0)) (F0 m (pc + 4) ls (.ref (ad (sN σ + 1)) :: sk.map (sh ad))) := kk
  rw [ea] at kk2
  rw [hT] at step
  rw [show sN σ - n0 + 1 + n.toNatClampNeg = sN σ - n0 + (1 + ix n) from Nat.add_assoc _ _ _, show sU σ - u0 + n.toNatClampNeg + n.toNatClampNeg * k9.toNatClampNeg = sU σ - u0 + (ix n + ix n * ix k9) from Nat.add_assoc _ _ _] at X'
  obtain ⟨t, a1, b1⟩ := kk2 F rfl X'
  exact ⟨t, step t a1, b1⟩
end
