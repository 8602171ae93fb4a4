/-! ===== the machine follows the plain machine: clone, arraycopy; all of a method's own steps ===== -/
theorem arrv_cell {cA : ClassId} {fs : List Value} : ({ cls := cA, slots := fs.toArray } : Cell) = arrV cA fs.length (vp_V fs) := by
  unfold arrV
  congr 1
  apply Array.ext
  · simp
  · intro i h1 h2
    simp at h1
    simp [vp_V, h1]
theorem cpy_at {xs ys : List Value} {i j n : Nat} (h1 : i + n ≤ xs.length) (h2 : j + n ≤ ys.length) (k : Nat) (hk : k < ys.length) : va_cpy (vp_V xs) (vp_V ys) i j n k = vp_V (am_cpy xs ys i j n) k := by
  unfold am_cpy
  have e1 : (ys.take j).length = j := by simp; omega
  have e2 : ((xs.drop i).take n).length = n := by simp; omega
  by_cases a : k < j
  · rw [pk_cpy_out (Or.inl a)]
    simp only [vp_V, List.getD_eq_getElem?_getD]
    rw [List.getElem?_append_left (by omega), List.getElem?_take_of_lt a]
  · by_cases b : k < j + n
    · rw [pk_cpy_in (by omega) b]
      simp only [vp_V, List.getD_eq_getElem?_getD]
      rw [List.getElem?_append_right (by omega), e1, List.getElem?_append_left (by omega), List.getElem?_take_of_lt (by omega), List.getElem?_drop]
    · rw [pk_cpy_out (Or.inr (by omega))]
      simp only [vp_V, List.getD_eq_getElem?_getD]
      rw [List.getElem?_append_right (by omega), e1, List.getElem?_append_right (by omega), e2, List.getElem?_drop]
      congr 2
      omega
theorem cpy_len {xs ys : List Value} {i j n : Nat} (h1 : i + n ≤ xs.length) (h2 : j + n ≤ ys.length) : (am_cpy xs ys i j n).length = ys.length := by
  unfold am_cpy
  simp
  omega
theorem ty0 {fs : List Value} (h : fs.all (am_ty 0) = true) {i : Nat} {v : Value} (hv : fs[i]? = some v) : ∃ x, v = .int x := by
  have h1 := List.all_eq_true.mp h v (List.mem_of_getElem? hv)
  cases v <;> first | exact ⟨_, rfl⟩ | (simp [am_ty] at h1; done)
section SIMC
variable {p : Program} {l : Launch} {e : Env} {R : Room} {s : State} {m : MethodId} {args : Array Value} {below : List Frame} {meth : Method} {c : Code} {H : Heap} {locs : List Loc} {Q : State → Prop} {base c0 s0 M pc nxp : Nat} {D : va_G} {σ : Nat → Nat} {ls : Array Slot} {lv lv' : LV} {st st' : List Value} {h h' : AH} {j : Option Nat}
theorem si_castI (C : Ctx p s m args meth c base D σ M) {k x : Nat} (hd : decode (mB M) pc = .ok (.checkcast x, 3)) (hlk : lk4 ilt (mO M) x = some k) (hst : s_cast k lv st h = some (.inl (j, lv', st', h'))) (kk : KK p l e R s m args below meth c Q base D M c0 s0 (j.getD (pc + 3)) lv' st' h') : KK p l e R s m args below meth c Q base D M c0 s0 pc lv st h := by
  intro H locs ls hR hS hl
  obtain ⟨hx, hb, hml, hown, hts, hxw, hK, hini, hZ, -⟩ := C
  obtain ⟨q0, hmem⟩ := lk4_mem hlk
  have hk : k = 20 := by
    have h1 := ck_al
    rw [Bool.and_eq_true, Bool.and_eq_true, Bool.and_eq_true] at h1
    simpa using List.all_eq_true.mp h1.2.2.2 _ hmem
  subst hk
  have hlink := hts _ (gt_of ck_ilt (List.mem_map.mpr ⟨_, hmem, rfl⟩) rfl)
  unfold s_cast at hst
  split at hst
  · rename_i q r
    split at hst
    · rename_i k' fs hq
      split at hst
      · rename_i ek
        subst ek
        obtain ⟨rfl, rfl, rfl, rfl⟩ := nx_inj hst
        rcases hR.2.2 q 20 fs hq with ⟨g1, -⟩ | ⟨b1, b2, b3, cA, b4, b5, b6⟩ | ⟨g1, -⟩
        · omega
        · have hnm : s.vm.findClass "[I" = some cA := b6
          intro T hT X
          obtain ⟨vm', X', st9⟩ := X.checkcastYes hx hown hlink (by rw [hT]; exact b4) rfl hnm (by exact va_asg _ _) (g := F0 m pc ls (.ref q :: r)) rfl rfl (by rw [hb]; exact hd)
          obtain ⟨t, a1, b1⟩ := kk H locs ls hR hS hl (T.setVm vm') hT X'
          exact ⟨t, st9 t a1, b1⟩
        · omega
      · cases hst
    · cases hst
  · cases hst
theorem ck_cll : ssq (cllt.map (fun e => .methodLink (on e.1) e.2.1 ⟨"[I", "clone", "()Ljava/lang/Object;"⟩)) tb = true := by decide +kernel
theorem ck_cl2 : (ssq [.sameMethod "[I" "java/lang/Object" "clone" "()Ljava/lang/Object;"] tb && (ssq [.native ⟨"java/lang/Object", "clone", "()Ljava/lang/Object;"⟩] tb && (ssq [.instanceMethod ⟨"java/lang/Object", "clone", "()Ljava/lang/Object;"⟩] tb && (ssq [.selects "[I" ⟨"[I", "clone", "()Ljava/lang/Object;"⟩ ⟨"java/lang/Object", "clone", "()Ljava/lang/Object;"⟩] tb && ssq [.castable "[I" "java/lang/Cloneable"] tb)))) = true := by decide +kernel
theorem si_clone (C : Ctx p s m args meth c base D σ M) {x v : Nat} (hd : decode (mB M) pc = .ok (.invokevirtual x, 3)) (hlk : lk4 cllt (mO M) x = some v) (hst : s_clone lv st h = some (.inl (j, lv', st', h'))) (hF : 1 ≤ R.frames ∧ 30 ≤ R.locals) (hrm : h'.2.1 - c0 ≤ R.cells ∧ h'.2.2 - s0 ≤ R.slots) (hc : c0 ≤ h.2.1 ∧ s0 ≤ h.2.2) (kk : KK p l e R s m args below meth c Q base D M c0 s0 (j.getD (pc + 3)) lv' st' h') : KK p l e R s m args below meth c Q base D M c0 s0 pc lv st h := by
  intro H locs ls hR hS hl
  obtain ⟨hx, hb, hml, hown, hts, hxw, hK, hini, hZ, -⟩ := C
  obtain ⟨q0, hmem⟩ := lk4_mem hlk
  have hlink := hts _ (gt_of ck_cll (List.mem_map.mpr ⟨_, hmem, rfl⟩) rfl)
  have hcl := ck_cl2
  simp only [Bool.and_eq_true] at hcl
  obtain ⟨w1, w2, w3, w4, w5⟩ := hcl
  unfold s_clone at hst
  split at hst
  · rename_i q r
    split at hst
    · rename_i k fs hq
      split at hst
      · rename_i hk
        obtain ⟨rfl, hall, hw⟩ := hk
        obtain ⟨rfl, rfl, rfl, rfl⟩ := nx_inj hst
        rcases hR.2.2 q 30 fs hq with ⟨g1, -⟩ | ⟨b1, b2, -⟩ | ⟨b1, b2, cell, b4, b5, b6, b7, b8, b9⟩
        · omega
        · omega
        · have hnm := b8 rfl
          obtain ⟨c1, t1, f1, f2, f3⟩ := Cond.castable_spec (va_Nw.use (A := args) rfl (hxw _ (xw_of w5 List.mem_cons_self rfl)))
          cases hnm.symm.trans f1
          obtain ⟨hvs, kS, hkS, comp, hkind⟩ := b5
          dsimp only [am_push] at hrm kk
          intro T hT X
          have hkT := (State.isArrayOf_alike X.warmed.alike (show s.isArrayOf cell (tyK 30) from ⟨hvs, kS, hkS, comp, hkind⟩)).2
          obtain ⟨kA, hkA, comp2, hkind2⟩ := hkT
          have hsz : cell.slots.size = fs.length := by rw [b7]; simp
          obtain ⟨vm', X', st9⟩ := X.cloneArray hx hown hlink (hts _ (gt_of w1 List.mem_cons_self rfl)) (hts _ (gt_of w2 List.mem_cons_self rfl)) (hts _ (gt_of w3 List.mem_cons_self rfl)) (hts _ (gt_of w4 List.mem_cons_self rfl)) (a := q) (cell := cell) (by rw [hT]; exact b4) hvs b6 hnm f2 f3
            (fun i v hv => by
              have hk' : T.vm.classes[cell.cls]? = some kA := hkA
              have hv2 : fs[i]? = some v := by rw [b7] at hv; simpa using hv
              obtain ⟨z, rfl⟩ := ty0 hall hv2
              simp [State.fitsSlot, State.slotType?, hk', hkind2, tyK, fits])
            (g := F0 m pc ls (.ref q :: r)) rfl (hl.1.trans hml.symm) rfl (by rw [hb]; exact hd) hF.1 (by unfold am_w at hw; show 2 * 0 + _ + 14 ≤ _; omega) (by omega) (by rw [hsz]; omega) (hloader := Vm.clonesLoader_of_array hkS hkind)
          rw [b7, arrv_cell] at X' st9
          have z1 : (H.push (arrV cell.cls fs.length (vp_V fs))).size = H.size + 1 := by rw [Array.size_push]
          have e1 : (H.push (arrV cell.cls fs.length (vp_V fs)))[H.size]? = some (arrV cell.cls fs.length (vp_V fs)) := by rw [Array.getElem?_push_size]
          have o1 : ∀ q : Nat, q < H.size → (H.push (arrV cell.cls fs.length (vp_V fs)))[q]? = H[q]? := fun q hq => by rw [Array.getElem?_push, if_neg (Nat.ne_of_lt hq)]
          have hAo : ArrOfT s cell.cls (tyK 20) := fun n z => ⟨fun k h => (by cases h), kS, hkS, comp, hkind⟩
          have hR' := hR.push (n := fs.length) z1 o1 (Or.inr (Or.inl ⟨Nat.le_refl 20, (by omega), hR.2.1, cell.cls, e1, hAo, hnm⟩))
          have := kk _ locs ls hR' ⟨Nat.le_trans hS.1 (by omega), fun q h1 h2 => (o1 q (Nat.lt_of_lt_of_le h1 hS.1)).trans (hS.2.1 q h1 h2), hS.2.2⟩ hl
          rw [show h.2.1 + 1 - c0 = h.2.1 - c0 + 1 by omega, show h.2.2 + fs.length - s0 = h.2.2 - s0 + fs.length by omega] at this
          have hX : Stand p l e R s m args below meth c ((T.setVm vm').pushCell (arrV cell.cls fs.length (vp_V fs))) locs (h.2.1 - c0 + 1) (h.2.2 - s0 + fs.length) := by simpa using X'
          obtain ⟨t, a1, b1⟩ := this ((T.setVm vm').pushCell (arrV cell.cls fs.length (vp_V fs))) (by rw [← hT]; rfl) hX
          refine ⟨t, st9 t ?_, b1⟩
          rw [hT, hR.1]
          exact a1
      · cases hst
    · cases hst
  · cases hst
theorem si_acp (C : Ctx p s m args meth c base D σ M) {x v : Nat} (hd : decode (mB M) pc = .ok (.invokestatic x, 3)) (hlk : lk4 aclt (mO M) x = some v) (hst : s_acp lv st h = some (.inl (j, lv', st', h'))) (hF : 1 ≤ R.frames ∧ 30 ≤ R.locals) (kk : KK p l e R s m args below meth c Q base D M c0 s0 (j.getD (pc + 3)) lv' st' h') : KK p l e R s m args below meth c Q base D M c0 s0 pc lv st h := by
  intro H locs ls hR hS hl
  obtain ⟨hx, hb, hml, hown, hts, hxw, hK, hini, hZ, -⟩ := C
  obtain ⟨q0, hmem⟩ := lk4_mem hlk
  have hlink := hts _ (gt_of ck_aclt (List.mem_map.mpr ⟨_, hmem, rfl⟩) rfl)
  unfold s_acp at hst
  split at hst
  · rename_i n dp q1 sp q0 r
    split at hst
    · rename_i k0 xs k1 ys hq0 hq1
      split at hst
      · rename_i hk
        obtain ⟨rfl, rfl, hall, ⟨h1, h2, h3⟩, h4, h5, hw⟩ := hk
        obtain ⟨rfl, rfl, rfl, rfl⟩ := nx_inj hst
        rcases hR.2.2 q0 20 xs hq0 with ⟨g1, -⟩ | ⟨b1, b2, b3, cA, b4, b5, b6⟩ | ⟨g1, -⟩
        · omega
        · rcases hR.2.2 q1 20 ys hq1 with ⟨g1, -⟩ | ⟨d1, d2, d3, cB, d4, d5, d6⟩ | ⟨g1, -⟩
          · omega
          · have nn : ∀ z : Int32, ¬ z < 0 → z.toInt = (z.toNatClampNeg : Int) := by
              intro z hz
              have hz0 : (0 : Int) ≤ z.toInt := by
                have := Int32.not_lt.mp hz
                simpa using Int32.le_iff_toInt_le.mp this
              show z.toInt = ((z.toInt.toNat : Nat) : Int)
              omega
            obtain ⟨-, ka, hka, cma, hkka⟩ := b5 0 (fun _ => .null)
            obtain ⟨-, kb, hkb, cmb, hkkb⟩ := d5 0 (fun _ => .null)
            intro T hT X
            obtain ⟨vm', X', step⟩ := X.arraycopy hx hown hlink (hts _ (gt_of ck_acp List.mem_cons_self rfl)) (hts _ (gt_of ck_acp2 List.mem_cons_self rfl)) (hts _ (gt_of ck_acp3 List.mem_cons_self rfl)) (src := q0) (dst := q1) (cs := arrV cA xs.length (vp_V xs)) (cd := arrV cB ys.length (vp_V ys)) (srcPos := sp) (destPos := dp) (n := n) (by rw [hT]; exact b4) (by rw [hT]; exact d4)
              (fun _ h => by cases h) (fun _ h => by cases h) (fun h => by cases h) (fun h => by cases h) hka hkb hkka hkkb rfl h1 h2 h3
              (by rw [nn sp h1, nn n h3, arrV_size]; omega)
              (by rw [nn dp h2, nn n h3, arrV_size]; omega)
              (fun vm₁ _ i hi => by
                have hlt : sp.toNatClampNeg + i < xs.length := by omega
                have e : (arrV cA xs.length (vp_V xs)).slots.getD (sp.toNatClampNeg + i) .null = xs[sp.toNatClampNeg + i] := by
                  rw [Array.getD_eq_getD_getElem?, arrV_read _ _ hlt]
                  simp [vp_V, hlt]
                obtain ⟨z, hz⟩ := ty0 hall (List.getElem?_eq_getElem hlt)
                rw [e, hz]
                exact ⟨rfl, trivial⟩)
              (g := F0 m pc ls (.int n :: .int dp :: .ref q1 :: .int sp :: .ref q0 :: st')) rfl (hl.1.trans hml.symm) (rest := st') rfl (by rw [hb]; exact hd) hF.1 (by unfold am_w at hw; show 2 * 0 + _ + _ ≤ _; exact Nat.le_trans (Nat.add_le_add_right (by omega : 2 * 0 + (st'.map fun v => v.category).sum ≤ 8) _) (Nat.le_trans (show 8 + (nativeFrameWords "java/lang/System" "arraycopy" 5 + 11) ≤ 30 by decide +kernel) hF.2))
            have e1 : copied (arrV cA xs.length (vp_V xs)) (arrV cB ys.length (vp_V ys)) sp dp n = arrV cB (am_cpy xs ys sp.toNatClampNeg dp.toNatClampNeg n.toNatClampNeg).length (vp_V (am_cpy xs ys sp.toNatClampNeg dp.toNatClampNeg n.toNatClampNeg)) := by
              rw [cpy_len h4 h5]
              refine Eq.trans (va_copied (fun z : Value => z) cA cB (vp_V xs) (vp_V ys) h4) ?_
              exact arrV_ext fun k hk => cpy_at h4 h5 k hk
            rw [e1] at X' step
            have hlq : q1 < H.size := (Array.getElem?_eq_some_iff.mp d4).1
            generalize hcN : arrV cB (am_cpy xs ys sp.toNatClampNeg dp.toNatClampNeg n.toNatClampNeg).length (vp_V (am_cpy xs ys sp.toNatClampNeg dp.toNatClampNeg n.toNatClampNeg)) = cN at X' step
            have hheap : ((T.setVm vm').setCell q1 cN).heap = H.setIfInBounds q1 cN := by rw [← hT]; rfl
            have oq : ∀ q : Nat, q ≠ q1 → (H.setIfInBounds q1 cN)[q]? = H[q]? := fun q hq => by simp [Array.getElem?_setIfInBounds, Ne.symm hq]
            have eN : (H.setIfInBounds q1 cN)[q1]? = some (arrV cB (am_cpy xs ys sp.toNatClampNeg dp.toNatClampNeg n.toNatClampNeg).length (vp_V (am_cpy xs ys sp.toNatClampNeg dp.toNatClampNeg n.toNatClampNeg))) := by rw [hcN]; simp [Array.getElem?_setIfInBounds, hlq]
            obtain ⟨t, a1, b1⟩ := kk _ _ ls (hR.set (by simp) oq (Or.inr (Or.inl ⟨d1, d2, d3, cB, eN, d5, d6⟩))) ⟨by simp; exact hS.1, fun q g1 g2 => by
                rw [oq q (fun e => g2 (by rw [e]; exact d3))]
                exact hS.2.1 q g1 g2, fun q hq => by
                rcases List.mem_append.mp hq with h | h
                · exact hS.2.2 q h
                · obtain ⟨z, -, hz⟩ := List.mem_map.mp h
                  rw [← hz]
                  exact d3⟩ hl _ hheap X'
            exact ⟨t, step t a1, b1⟩
          · omega
        · omega
      · cases hst
    · cases hst
  · cases hst
theorem si_ldk (C : Ctx p s m args meth c base D σ M) {x v : Nat} (hd : decode (mB M) pc = .ok (.ldc x, 2)) (hlk : lk4 mirt (mO M) x = some v) (hst : nx lv (.ref (σ 6) :: st) h = some (.inl (j, lv', st', h'))) (kk : KK p l e R s m args below meth c Q base D M c0 s0 (j.getD (pc + 2)) lv' st' h') : KK p l e R s m args below meth c Q base D M c0 s0 pc lv st h := by
  intro H locs ls hR hS hl
  obtain ⟨hx, hb, hml, hown, hts, hxw, hK, hini, hZ, hMn, hMi⟩ := C
  obtain ⟨q0, hmem⟩ := lk4_mem hlk
  have hlink := hts _ (gt_of ck_mirt (List.mem_map.mpr ⟨_, hmem, rfl⟩) rfl)
  obtain ⟨rfl, rfl, rfl, rfl⟩ := nx_inj hst
  intro T hT X
  obtain ⟨vm', X', st9⟩ := X.ldcMirror hx hown hlink (MirOK.ev hMi) (g := F0 m pc ls st) rfl (by rw [hb]; exact hd)
  obtain ⟨t, a1, b1⟩ := kk H locs ls hR hS hl (T.setVm vm') hT X'
  exact ⟨t, st9 t a1, b1⟩
theorem si_gcl (C : Ctx p s m args meth c base D σ M) {x v : Nat} (hd : decode (mB M) pc = .ok (.invokevirtual x, 3)) (hlk : lk4 gclt (mO M) x = some v) (hst : s_gcl (σ 6) lv st h = some (.inl (j, lv', st', h'))) (hF : 1 ≤ R.frames ∧ 30 ≤ R.locals) (kk : KK p l e R s m args below meth c Q base D M c0 s0 (j.getD (pc + 3)) lv' st' h') : KK p l e R s m args below meth c Q base D M c0 s0 pc lv st h := by
  intro H locs ls hR hS hl
  obtain ⟨hx, hb, hml, hown, hts, hxw, hK, hini, hZ, hMn, hMi⟩ := C
  obtain ⟨q0, hmem⟩ := lk4_mem hlk
  have hlink := hts _ (gt_of ck_gclt (List.mem_map.mpr ⟨_, hmem, rfl⟩) rfl)
  have hcl := ck_gc
  simp only [Bool.and_eq_true] at hcl
  obtain ⟨w1, w2, w3, w4⟩ := hcl
  unfold s_gcl at hst
  split at hst
  · rename_i q r
    split at hst
    · rename_i k fs hq
      split at hst
      · rename_i hk
        obtain ⟨rfl, hw⟩ := hk
        obtain ⟨rfl, rfl, rfl, rfl⟩ := nx_inj hst
        rcases hR.2.2 q 24 fs hq with ⟨g1, -⟩ | ⟨b1, b2, b3, cA, b4, b5, b6⟩ | ⟨g1, -⟩
        · omega
        · obtain ⟨kA, comp, k1, k2, k3, k4⟩ := b6
          intro T hT X
          obtain ⟨vm', X', st9⟩ := X.getClass hx hown hlink (hts _ (gt_of w1 List.mem_cons_self rfl)) (hts _ (gt_of w2 List.mem_cons_self rfl)) (hts _ (gt_of w3 List.mem_cons_self rfl)) (hts _ (gt_of w4 List.mem_cons_self rfl)) (a := q) (mir := σ 6) (cell := arrV cA fs.length (vp_V fs)) (by rw [hT]; exact b4) (fun k h => by cases h) k4 (MirOK.ev hMi)
            (g := F0 m pc ls (.ref q :: r)) rfl (hl.1.trans hml.symm) rfl (by rw [hb]; exact hd) hF.1 (by unfold am_w at hw; show 2 * 0 + _ + 14 ≤ _; omega)
          obtain ⟨t, a1, b1⟩ := kk H locs ls hR hS hl (T.setVm vm') hT X'
          exact ⟨t, st9 t a1, b1⟩
        · omega
      · cases hst
    · cases hst
  · cases hst
theorem si_acr (C : Ctx p s m args meth c base D σ M) {x v : Nat} (hd : decode (mB M) pc = .ok (.invokestatic x, 3)) (hlk : lk4 acrt (mO M) x = some v) (hst : s_acr lv st h = some (.inl (j, lv', st', h'))) (hF : 1 ≤ R.frames ∧ 30 ≤ R.locals) (kk : KK p l e R s m args below meth c Q base D M c0 s0 (j.getD (pc + 3)) lv' st' h') : KK p l e R s m args below meth c Q base D M c0 s0 pc lv st h := by
  intro H locs ls hR hS hl
  obtain ⟨hx, hb, hml, hown, hts, hxw, hK, hini, hZ, -⟩ := C
  obtain ⟨q0, hmem⟩ := lk4_mem hlk
  have hlink := hts _ (gt_of ck_acrt (List.mem_map.mpr ⟨_, hmem, rfl⟩) rfl)
  unfold s_acr at hst
  split at hst
  · rename_i n dp q1 sp q0 r
    split at hst
    · rename_i k0 xs k1 ys hq0 hq1
      split at hst
      · rename_i hk
        obtain ⟨rfl, rfl, hall, ⟨h1, h2, h3⟩, h4, h5, hw⟩ := hk
        obtain ⟨rfl, rfl, rfl, rfl⟩ := nx_inj hst
        rcases hR.2.2 q0 24 xs hq0 with ⟨g1, -⟩ | ⟨b1, b2, b3, cA, b4, b5, b6⟩ | ⟨g1, -⟩
        · omega
        · rcases hR.2.2 q1 24 ys hq1 with ⟨g1, -⟩ | ⟨d1, d2, d3, cB, d4, d5, d6⟩ | ⟨g1, -⟩
          · omega
          · have nn : ∀ z : Int32, ¬ z < 0 → z.toInt = (z.toNatClampNeg : Int) := by
              intro z hz
              have hz0 : (0 : Int) ≤ z.toInt := by
                have := Int32.not_lt.mp hz
                simpa using Int32.le_iff_toInt_le.mp this
              show z.toInt = ((z.toInt.toNat : Nat) : Int)
              omega
            obtain ⟨ka, cma, hka, hkka, fa, -⟩ := b6
            have d6' := d6
            obtain ⟨kb, cmb, hkb, hkkb, fb, -⟩ := d6'
            obtain ⟨kE, hkE, -⟩ := Vm.findClass_spec fb
            intro T hT X
            obtain ⟨vm', X', step⟩ := X.arraycopy hx hown hlink (hts _ (gt_of ck_acp List.mem_cons_self rfl)) (hts _ (gt_of ck_acp2 List.mem_cons_self rfl)) (hts _ (gt_of ck_acp3 List.mem_cons_self rfl)) (src := q0) (dst := q1) (cs := arrV cA xs.length (vp_V xs)) (cd := arrV cB ys.length (vp_V ys)) (srcPos := sp) (destPos := dp) (n := n) (by rw [hT]; exact b4) (by rw [hT]; exact d4)
              (fun _ h => by cases h) (fun _ h => by cases h) (fun h => by cases h) (fun h => by cases h) hka hkb hkka hkkb rfl h1 h2 h3
              (by rw [nn sp h1, nn n h3, arrV_size]; omega)
              (by rw [nn dp h2, nn n h3, arrV_size]; omega)
              (fun vm₁ hvm i hi => by
                have hlt : sp.toNatClampNeg + i < xs.length := by omega
                have e : (arrV cA xs.length (vp_V xs)).slots.getD (sp.toNatClampNeg + i) .null = xs[sp.toNatClampNeg + i] := by
                  rw [Array.getD_eq_getD_getElem?, arrV_read _ _ hlt]
                  simp [vp_V, hlt]
                have hel := List.all_eq_true.mp hall _ (List.getElem_mem hlt)
                rw [e]
                generalize xs[sp.toNatClampNeg + i] = u at hel
                cases u <;> first | (cases hel; done) | skip
                · exact ⟨rfl, trivial⟩
                · rename_i qv
                  unfold am_el at hel
                  dsimp only at hel
                  split at hel
                  · rename_i kv vs hqv
                    have hkv := of_decide_eq_true hel
                    rcases hR.2.2 qv kv vs hqv with ⟨g1, g2, g3, cv, g4, g5, g6, g7⟩ | ⟨g1, -⟩ | ⟨g1, -⟩
                    · obtain ⟨hSl, hfc, kC, hkC, hkind⟩ := hK.1 kv _ (cls_at g1)
                      obtain ⟨c0', t0', f1, f2, f3⟩ := Cond.castable_spec (va_Nw.use (A := args) rfl (hxw _ (k_xo g1)))
                      cases hfc.symm.trans f1
                      cases fb.symm.trans f2
                      obtain ⟨kC', hkC', -⟩ := hvm.2.2 _ _ hkC
                      obtain ⟨kE', hkE', -⟩ := hvm.2.2 _ _ hkE
                      refine ⟨rfl, cv, ?_, (fun q h => by rw [g6] at h; cases h), ⟨kC', by rw [g5]; exact hkC'⟩, ⟨kE', hkE'⟩, ?_⟩
                      · show T.heap[qv]? = some cv
                        rw [hT]; exact g4
                      · rw [g5]
                        exact (hvm.assignable _ _).trans f3
                    · omega
                    · omega
                  · cases hel)
              (g := F0 m pc ls (.int n :: .int dp :: .ref q1 :: .int sp :: .ref q0 :: st')) rfl (hl.1.trans hml.symm) (rest := st') rfl (by rw [hb]; exact hd) hF.1 (by unfold am_w at hw; show 2 * 0 + _ + _ ≤ _; exact Nat.le_trans (Nat.add_le_add_right (by omega : 2 * 0 + (st'.map fun v => v.category).sum ≤ 8) _) (Nat.le_trans (show 8 + (nativeFrameWords "java/lang/System" "arraycopy" 5 + 11) ≤ 30 by decide +kernel) hF.2))
            have e1 : copied (arrV cA xs.length (vp_V xs)) (arrV cB ys.length (vp_V ys)) sp dp n = arrV cB (am_cpy xs ys sp.toNatClampNeg dp.toNatClampNeg n.toNatClampNeg).length (vp_V (am_cpy xs ys sp.toNatClampNeg dp.toNatClampNeg n.toNatClampNeg)) := by
              rw [cpy_len h4 h5]
              refine Eq.trans (va_copied (fun z : Value => z) cA cB (vp_V xs) (vp_V ys) h4) ?_
              exact arrV_ext fun k hk => cpy_at h4 h5 k hk
            rw [e1] at X' step
            have hlq : q1 < H.size := (Array.getElem?_eq_some_iff.mp d4).1
            generalize hcN : arrV cB (am_cpy xs ys sp.toNatClampNeg dp.toNatClampNeg n.toNatClampNeg).length (vp_V (am_cpy xs ys sp.toNatClampNeg dp.toNatClampNeg n.toNatClampNeg)) = cN at X' step
            have hheap : ((T.setVm vm').setCell q1 cN).heap = H.setIfInBounds q1 cN := by rw [← hT]; rfl
            have oq : ∀ q : Nat, q ≠ q1 → (H.setIfInBounds q1 cN)[q]? = H[q]? := fun q hq => by simp [Array.getElem?_setIfInBounds, Ne.symm hq]
            have eN : (H.setIfInBounds q1 cN)[q1]? = some (arrV cB (am_cpy xs ys sp.toNatClampNeg dp.toNatClampNeg n.toNatClampNeg).length (vp_V (am_cpy xs ys sp.toNatClampNeg dp.toNatClampNeg n.toNatClampNeg))) := by rw [hcN]; simp [Array.getElem?_setIfInBounds, hlq]
            obtain ⟨t, a1, b1⟩ := kk _ _ ls (hR.set (by simp) oq (Or.inr (Or.inl ⟨d1, d2, d3, cB, eN, d5, d6⟩))) ⟨by simp; exact hS.1, fun q g1 g2 => by
                rw [oq q (fun e => g2 (by rw [e]; exact d3))]
                exact hS.2.1 q g1 g2, fun q hq => by
                rcases List.mem_append.mp hq with h | h
                · exact hS.2.2 q h
                · obtain ⟨z, -, hz⟩ := List.mem_map.mp h
                  rw [← hz]
                  exact d3⟩ hl _ hheap X'
            exact ⟨t, step t a1, b1⟩
          · omega
        · omega
      · cases hst
    · cases hst
  · cases hst
end SIMC
