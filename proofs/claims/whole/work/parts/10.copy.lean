/-! System.arraycopy, over Ev -/
section
variable {d : Nat} {M : MD} {pc : Nat} {lv : List (Nat × Value)} {sk : List Value} {σ τ : St} {r : Option Value}
/-- a piece of row a at sp, n long, laid into row b at dp -/
def wCp (σ : St) (a sp b dp n : Nat) : St := wC σ b (va_cpy (sI σ a) (sI σ b) sp dp n)
def cpOk (σ : St) (a : Nat) (sp : Int32) (b : Nat) (dp n : Int32) : Bool :=
  decide (0 ≤ sp.toInt) && decide (0 ≤ dp.toInt) && decide (0 ≤ n.toInt) && decide (ix sp + ix n ≤ (sK σ a).2) && decide (ix dp + ix n ≤ (sK σ b).2)
theorem ev_copyi {a b idx : Nat} {sp dp n : Int32} (hw1 : Cond.methodLink M.1 idx arraycopyName ∈ ALLG) (hw2 : Cond.native arraycopyName ∈ ALLG) (hw3 : Cond.static arraycopyName ∈ ALLG) (hw4 : Cond.initialized "java/lang/System" ∈ ALLG)
    (hoa : ob σ a 14 = true) (hob : ob σ b 14 = true) (hok : cpOk σ a sp b dp n = true) (hd1 : 2 ≤ d) (hcat : (sk.map fun v => v.category).sum ≤ 8) (hd : decode M.2.2.1 pc = .ok (.invokestatic idx, 3))
    (k : Ev d M (pc + 3) lv sk (wCp σ a (ix sp) b (ix dp) (ix n)) r τ) : Ev d M pc lv (.int n :: .int dp :: .ref b :: .int sp :: .ref a :: sk) σ r τ := by
  refine ⟨k.1, ?_⟩
  intro p l e s m args below meth c H locs ls ad cy dC dI B0 n0 u0 K hz hn0 hu0 hS hW hl
  obtain ⟨hx, hb, hret, hml, hown, hlk, hmn, hts, hC⟩ := id K
  obtain ⟨hka, ha1, ha2⟩ := ob_spec hoa
  obtain ⟨hkb, hb1, hb2⟩ := ob_spec hob
  have hga := wld_get (ad := ad) (cy := cy) ha1 ha2
  have hgb := wld_get (ad := ad) (cy := cy) hb1 hb2
  rw [cel_i hka (by decide) (by decide) (by decide)] at hga
  rw [cel_i hkb (by decide) (by decide) (by decide)] at hgb
  simp only [cpOk, Bool.and_eq_true, decide_eq_true_eq] at hok
  obtain ⟨⟨⟨⟨h1, h2⟩, h3⟩, h4⟩, h5⟩ := hok
  have ng : ∀ z : Int32, 0 ≤ z.toInt → ¬ z < 0 := fun z hz9 q => by
    have := Int32.lt_iff_toInt_lt.mp q
    simp at this
    omega
  have nn : ∀ z : Int32, 0 ≤ z.toInt → z.toInt = (ix z : Int) := fun z hz9 => by
    show z.toInt = ((z.toInt.toNat : Nat) : Int)
    omega
  have hcat2 : ((sk.map (sh ad)).map fun v => v.category).sum ≤ 8 := by rw [map_cat]; exact hcat
  have hc0 : H[ad a]? = some (vp_cell (cy 14) ((sK σ a).2, .inl (sI σ a))) := hW.1 _ _ hga
  have hc1 : H[ad b]? = some (vp_cell (cy 14) ((sK σ b).2, .inl (sI σ b))) := hW.1 _ _ hgb
  intro T hT X
  obtain ⟨-, k0, hk0, cm0, hkk0⟩ := (hC.1.2 1 _ rfl).1 (sK σ a).2 (fun j => .int (sI σ a j))
  obtain ⟨-, k1, hk1, cm1, hkk1⟩ := (hC.1.2 1 _ rfl).1 (sK σ b).2 (fun j => .int (sI σ b j))
  obtain ⟨vm', X', step⟩ := X.arraycopy hx hown (fin_word hts hw1) (fin_word hts hw2) (fin_word hts hw3) (fin_word hts hw4) (src := ad a) (dst := ad b) (cs := vp_cell (cy 14) ((sK σ a).2, .inl (sI σ a))) (cd := vp_cell (cy 14) ((sK σ b).2, .inl (sI σ b))) (srcPos := sp) (destPos := dp) (n := n) (by rw [hT]; exact hc0) (by rw [hT]; exact hc1)
    (fun _ h => by cases h) (fun _ h => by cases h) (fun h => by cases h) (fun h => by cases h) hk0 hk1 hkk0 hkk1 (by simp [refKind, kTy]) (ng sp h1) (ng dp h2) (ng n h3)
    (by rw [nn sp h1, nn n h3]; show ¬ _ > ((arrV (cy 14) (sK σ a).2 (fun j => .int (sI σ a j))).slots.size : Int); rw [arrV_size]; omega)
    (by rw [nn dp h2, nn n h3]; show ¬ _ > ((arrV (cy 14) (sK σ b).2 (fun j => .int (sI σ b j))).slots.size : Int); rw [arrV_size]; omega)
    (fun vm₁ _ i hi => by
      have e9 : (vp_cell (cy 14) ((sK σ a).2, .inl (sI σ a))).slots.getD (sp.toNatClampNeg + i) .null = .int (sI σ a (sp.toNatClampNeg + i)) := by
        show (arrV (cy 14) (sK σ a).2 (fun j => .int (sI σ a j))).slots.getD _ _ = _
        have hi9 : i < ix n := hi
        have e8 : sp.toNatClampNeg = ix sp := rfl
        rw [Array.getD_eq_getD_getElem?, arrV_read _ _ (by omega)]
        rfl
      exact ⟨by rw [e9]; rfl, by rw [e9]; exact trivial⟩)
    (g := F0 m pc ls ((Value.int n :: .int dp :: .ref b :: .int sp :: .ref a :: sk).map (sh ad))) rfl (by show ls.size = _; rw [hml]; exact hl.1) (rest := sk.map (sh ad)) rfl (by rw [hb]; exact hd) (by show 1 ≤ d; omega)
    (by show 2 * 0 + _ + _ ≤ 40 * d; have : nativeFrameWords "java/lang/System" "arraycopy" 5 + 11 ≤ 60 := by decide +kernel
        omega)
  have e1 : copied (vp_cell (cy 14) ((sK σ a).2, .inl (sI σ a))) (vp_cell (cy 14) ((sK σ b).2, .inl (sI σ b))) sp dp n = vp_cell (cy 14) ((sK σ b).2, .inl (va_cpy (sI σ a) (sI σ b) (ix sp) (ix dp) (ix n))) := va_copied (fun z => .int z) (cy 14) (cy 14) (sI σ a) (sI σ b) h4
  rw [e1] at X' step
  have hl9 : ad b < H.size := (Array.getElem?_eq_some_iff.mp hc1).1
  have oq : ∀ q : Nat, q ≠ ad b → (H.setIfInBounds (ad b) (vp_cell (cy 14) ((sK σ b).2, .inl (va_cpy (sI σ a) (sI σ b) (ix sp) (ix dp) (ix n)))))[q]? = H[q]? := fun q hq => by simp [Array.getElem?_setIfInBounds, Ne.symm hq]
  have hA := hW.in hb1 hb2
  have hW2 : Wd ad cy dC dI B0 (wCp σ a (ix sp) b (ix dp) (ix n)) (H.setIfInBounds (ad b) (vp_cell (cy 14) ((sK σ b).2, .inl (va_cpy (sI σ a) (sI σ b) (ix sp) (ix dp) (ix n))))) := by
    refine hW.put hb1 hb2 rfl (fun q hq => cel_wC hq) ?_ (by simp) oq
    rw [cel_i (σ := wCp σ a (ix sp) b (ix dp) (ix n)) hkb (by decide) (by decide) (by decide)]
    show (H.setIfInBounds (ad b) _)[ad b]? = some _
    have e2 : sI (wCp σ a (ix sp) b (ix dp) (ix n)) b = va_cpy (sI σ a) (sI σ b) (ix sp) (ix dp) (ix n) := funext fun j => if_pos rfl
    rw [e2]
    simp [Array.getElem?_setIfInBounds, hl9]
    rfl
  obtain ⟨t, a1, b1⟩ := k.2 p l e s m args below meth c _ _ ls ad cy dC dI B0 n0 u0 K hz hn0 hu0 ⟨by simp; exact hS.1, fun q g1 g2 => by
      rw [oq q (fun e9 => g2 (by rw [e9]; exact hA))]
      exact hS.2.1 q g1 g2, fun q hq => by
      rcases List.mem_append.mp hq with h | h
      · exact hS.2.2 q h
      · obtain ⟨z, -, hz9⟩ := List.mem_map.mp h
        rw [← hz9]
        exact hA⟩ hW2 hl _ (by rw [← hT]; rfl) X'
  exact ⟨t, step t a1, b1⟩
end
