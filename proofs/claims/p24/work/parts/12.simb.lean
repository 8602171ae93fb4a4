/-! ===== the machine follows the plain machine: references in rows, new objects, statics, casts, switches ===== -/
theorem ck_xo : (List.range 13).all (fun k => xw.any (fun w => decide (w = .castable (kNm k) "java/lang/Object"))) = true := by decide +kernel
theorem k_xo {k : Nat} (hk : k < 13) : Cond.castable (kNm k) "java/lang/Object" ∈ xw := by
  have h1 := List.all_eq_true.mp ck_xo k (List.mem_range.mpr hk)
  obtain ⟨w, hw, e⟩ := List.any_eq_true.mp h1
  have e1 : w = .castable (kNm k) "java/lang/Object" := by simpa using e
  rw [← e1]; exact hw
theorem ck_xa : (xw.any (fun w => decide (w = .arrayOver (.object "java/lang/Object"))) && (xw.any (fun w => decide (w = .arrayOver (.object "SkipCity$BoroughLaw"))) && xw.any (fun w => decide (w = .arrayOver (.object "SkipCity$Sheet"))))) = true := by decide +kernel
theorem a_xo {k : Nat} (hk : k = 24 ∨ k = 25 ∨ k = 26) : Cond.arrayOver (.object (aNm k)) ∈ xw := by
  have h1 := ck_xa
  rw [Bool.and_eq_true, Bool.and_eq_true] at h1
  obtain ⟨h1, h2, h3⟩ := h1
  rcases hk with rfl | rfl | rfl
  · obtain ⟨w, hw, e⟩ := List.any_eq_true.mp h1
    have e1 : w = .arrayOver (.object "java/lang/Object") := by simpa using e
    show Cond.arrayOver (.object "java/lang/Object") ∈ xw
    rw [← e1]; exact hw
  · obtain ⟨w, hw, e⟩ := List.any_eq_true.mp h2
    have e1 : w = .arrayOver (.object "SkipCity$BoroughLaw") := by simpa using e
    show Cond.arrayOver (.object "SkipCity$BoroughLaw") ∈ xw
    rw [← e1]; exact hw
  · obtain ⟨w, hw, e⟩ := List.any_eq_true.mp h3
    have e1 : w = .arrayOver (.object "SkipCity$Sheet") := by simpa using e
    show Cond.arrayOver (.object "SkipCity$Sheet") ∈ xw
    rw [← e1]; exact hw
theorem ck_al : (alt.all (fun x => x.2.2.1 == 24 || (x.2.2.1 == 25 || x.2.2.1 == 26)) && (nlt.all (fun x => decide (x.2.2.1 < 13)) && (slt.all (fun x => decide (x.2.2.1 < 6)) && ilt.all (fun x => x.2.2.1 == 20)))) = true := by decide +kernel
theorem am_new_at {k j : Nat} (hj : j < kNn k) : vp_V (am_new k) j = (if dcode (kT k j).2.2.1 = 3 then Value.null else .int 0) := by
  unfold am_new vp_V kT
  unfold kNn at hj
  generalize kfl.getD k [] = L at hj ⊢
  simp only [List.getD_eq_getElem?_getD, List.getElem?_map]
  rw [List.getElem?_eq_getElem hj]
  rfl
theorem dflt_ok {d : String} (hr : dcode d = 3 → (∃ n, dty d = .object n) ∨ ∃ t, dty d = .array t) : defaultValue (dty d) = (if dcode d = 3 then Value.null else .int 0) := by
  unfold dcode at hr ⊢
  by_cases h1 : d = "I"
  · have e : dty d = .int := by unfold dty; rw [if_pos h1]
    rw [e, if_pos h1]; rfl
  · by_cases h2 : d = "Z"
    · have e : dty d = .boolean := by unfold dty; rw [if_neg h1, if_pos h2]
      rw [e, if_neg h1, if_pos h2]; rfl
    · rw [if_neg h1, if_neg h2] at hr ⊢
      rcases hr rfl with ⟨n, e⟩ | ⟨t, e⟩ <;> rw [e] <;> rfl
section SIMB
variable {p : Program} {l : Launch} {e : Env} {R : Room} {s : State} {m : MethodId} {args : Array Value} {below : List Frame} {meth : Method} {c : Code} {H : Heap} {locs : List Loc} {Q : State → Prop} {base c0 s0 M pc nxp : Nat} {D : va_G} {σ : Nat → Nat} {ls : Array Slot} {lv lv' : LV} {st st' : List Value} {h h' : AH} {j : Option Nat}
theorem si_aast (C : Ctx p s m args meth c base D σ M) (hd : decode (mB M) pc = .ok (.aastore, 1)) (hst : s_ast 4 lv st h = some (.inl (j, lv', st', h'))) (kk : KK p l e R s m args below meth c Q base D M c0 s0 (j.getD (pc + 1)) lv' st' h') : KK p l e R s m args below meth c Q base D M c0 s0 pc lv st h := by
  intro H locs ls hR hS hl
  obtain ⟨hx, hb, hml, hown, hts, hxw, hK, -⟩ := C
  unfold s_ast at hst
  split at hst
  · rename_i v z q r
    split at hst
    · rename_i k fs hq
      split at hst
      · rename_i hk
        obtain ⟨rfl, rfl, rfl, rfl⟩ := nx_inj hst
        simp only [Bool.and_eq_true, decide_eq_true_eq] at hk
        obtain ⟨hk, hz, hlt⟩ := hk
        have hkk : k = 24 ∨ k = 25 ∨ k = 26 := by
          cases v <;> simp [am_st] at hk
          · exact hk
          · split at hk
            · simp at hk; omega
            · cases hk
        rcases hR.2.2 q k fs hq with ⟨b1, -⟩ | ⟨b1, b2, b3, cA, b4, b5, b6⟩ | ⟨b1, -⟩
        · omega
        · have hin : ¬ (z < 0 ∨ (arrV cA fs.length (vp_V fs)).slots.size ≤ z.toNatClampNeg) := fun h => h.elim hz (fun h => by rw [arrV_size] at h; omega)
          have ety : tyK k = .object (aNm k) := by rcases hkk with rfl | rfl | rfl <;> rfl
          have fin := ast_fin (v := v) hR hS hl ⟨b1, b2⟩ b3 b5 b6 hlt kk
          rw [ety] at b5 b6
          cases v <;> simp [am_st] at hk
          · exact va_WaastN hx hb b4 (b5 _ _) (fun h => by cases h) hin rfl rfl hd fin
          · rename_i qv
            split at hk
            · rename_i kv vs hqv
              simp at hk
              obtain ⟨hkv, hk⟩ := hk
              obtain ⟨kA, comp, k1, k2, k3, -⟩ := b6
              obtain ⟨kE, hkE, -⟩ := Vm.findClass_spec k3
              rcases hR.2.2 qv kv vs hqv with ⟨g1, g2, g3, cv, g4, g5, g6, g7⟩ | ⟨g1, -⟩ | ⟨g1, -⟩
              · obtain ⟨hSl, hfc, kC, hkC, hkind⟩ := hK.1 kv _ (cls_at g1)
                have hasg : s.vm.assignable cv.cls comp = true := by
                  rw [g5]
                  rcases hk with rfl | ⟨rfl, rfl⟩ | ⟨rfl, rfl⟩
                  · obtain ⟨c0', t0', f1, f2, f3⟩ := Cond.castable_spec (va_Nw.use (A := args) rfl (hxw _ (k_xo g1)))
                    cases hfc.symm.trans f1
                    cases k3.symm.trans f2
                    exact f3
                  · have k3' : s.vm.findClass (kNm 0) = some comp := k3
                    cases hfc.symm.trans k3'
                    exact va_assign ⟨hfc, kC, hkC, hkind⟩
                  · have k3' : s.vm.findClass (kNm 9) = some comp := k3
                    cases hfc.symm.trans k3'
                    exact va_assign ⟨hfc, kC, hkC, hkind⟩
                exact W.aast hx hb b4 (fun q h => by cases h) (fun h => by cases h) k1 k2 rfl hkE ⟨hz, by show _ < (arrV _ _ _).slots.size; rw [arrV_size]; exact hlt⟩ g4 (fun q h => by rw [g6] at h; cases h) (by rw [g5]; exact hkC) hasg rfl rfl hd fin
              · omega
              · omega
            · cases hk
        · omega
      · cases hst
    · cases hst
  · cases hst
theorem si_anew (C : Ctx p s m args meth c base D σ M) {k x : Nat} (hd : decode (mB M) pc = .ok (.anewarray x, 3)) (hlk : lk4 alt (mO M) x = some k) (hst : s_newa k lv st h = some (.inl (j, lv', st', h'))) (hrm : h'.2.1 - c0 ≤ R.cells ∧ h'.2.2 - s0 ≤ R.slots) (hc : c0 ≤ h.2.1 ∧ s0 ≤ h.2.2) (kk : KK p l e R s m args below meth c Q base D M c0 s0 (j.getD (pc + 3)) lv' st' h') : KK p l e R s m args below meth c Q base D M c0 s0 pc lv st h := by
  intro H locs ls hR hS hl
  obtain ⟨hx, hb, hml, hown, hts, hxw, hK, -⟩ := C
  obtain ⟨q0, hmem⟩ := lk4_mem hlk
  have hk3 : k = 24 ∨ k = 25 ∨ k = 26 := by
    have h1 := ck_al
    rw [Bool.and_eq_true] at h1
    simpa using List.all_eq_true.mp h1.1 _ hmem
  have hcl := hts _ (gt_of ck_alt (List.mem_map.mpr ⟨_, hmem, rfl⟩) rfl)
  have hov : (Cond.arrayOver (.object (aNm k))).before args s = true := va_AO.use (hxw _ (a_xo hk3))
  unfold s_newa at hst
  split at hst
  · rename_i n r
    unfold s_new at hst
    split at hst
    · rename_i hn
      obtain ⟨rfl, rfl, rfl, rfl⟩ := nx_inj hst
      have ety : tyK k = .object (aNm k) := by rcases hk3 with rfl | rfl | rfl <;> rfl
      have edf : am_def k = .null := by rcases hk3 with rfl | rfl | rfl <;> rfl
      dsimp only [am_push] at hrm kk
      refine W.anew hx hb hown hcl hov rfl hd rfl hn.1 (by omega) (by omega) (by omega) fun cA kA comp g1 g2 g3 g4 => ?_
      have z1 : (H.push { cls := cA, slots := Array.replicate n.toNatClampNeg .null, vm := .none }).size = H.size + 1 := by simp
      have o1 : ∀ q : Nat, q < H.size → (H.push { cls := cA, slots := Array.replicate n.toNatClampNeg .null, vm := .none })[q]? = H[q]? := fun q hq => by rw [Array.getElem?_push, if_neg (Nat.ne_of_lt hq)]
      have e1 : (H.push { cls := cA, slots := Array.replicate n.toNatClampNeg .null, vm := .none })[H.size]? = some (arrV cA (List.replicate n.toNatClampNeg (am_def k)).length (vp_V (List.replicate n.toNatClampNeg (am_def k)))) := by
        rw [← arrv_rep, edf, ← arrV_new]; simp
      have hbase : base ≤ H.size := hR.2.1
      have hAo : ArrOfT s cA (tyK k) := by rw [ety]; exact fun n z => ⟨fun k h => (by cases h), kA, g2, comp, g3⟩
      have hRA : va_RA s cA (tyK k) := by rw [ety]; exact ⟨kA, comp, g2, g3, g4, g1⟩
      have hR' := hR.push (n := n.toNatClampNeg) z1 o1 (Or.inr (Or.inl ⟨by omega, by omega, hbase, cA, e1, hAo, hRA⟩))
      have := kk _ locs ls hR' ⟨Nat.le_trans hS.1 (by omega), fun q h1 h2 => (o1 q (Nat.lt_of_lt_of_le h1 hS.1)).trans (hS.2.1 q h1 h2), hS.2.2⟩ hl
      rw [hR.1]
      rw [show h.2.1 - c0 + 1 = h.2.1 + 1 - c0 by omega, show h.2.2 - s0 + n.toNatClampNeg = h.2.2 + n.toNatClampNeg - s0 by omega]
      exact this
    · cases hst
  · cases hst
theorem si_new (C : Ctx p s m args meth c base D σ M) {k x : Nat} (hd : decode (mB M) pc = .ok (.new x, 3)) (hlk : lk4 nlt (mO M) x = some k) (hst : nx lv (.ref h.2.1 :: st) (am_push h (k, am_new k) (kNn k)) = some (.inl (j, lv', st', h'))) (hrm : h'.2.1 - c0 ≤ R.cells ∧ h'.2.2 - s0 ≤ R.slots) (hc : c0 ≤ h.2.1 ∧ s0 ≤ h.2.2) (kk : KK p l e R s m args below meth c Q base D M c0 s0 (j.getD (pc + 3)) lv' st' h') : KK p l e R s m args below meth c Q base D M c0 s0 pc lv st h := by
  intro H locs ls hR hS hl
  obtain ⟨hx, hb, hml, hown, hts, hxw, hK, -⟩ := C
  obtain ⟨q0, hmem⟩ := lk4_mem hlk
  have hk : k < 13 := by
    have h1 := ck_al
    rw [Bool.and_eq_true, Bool.and_eq_true] at h1
    simpa using List.all_eq_true.mp h1.2.1 _ hmem
  have hcl := hts _ (gt_of ck_nlt (List.mem_map.mpr ⟨_, hmem, rfl⟩) rfl)
  have hins : (Cond.instantiable (kNm k) (kNn k)).before args s = true := hts _ (gt_of ck_kil (List.mem_map.mpr ⟨_, List.contains_iff_mem.mp (k_row hk).1, rfl⟩) rfl)
  have hini : (Cond.initialized (kNm k)).before args s = true := hts _ (gt_of ck_inl (List.mem_map.mpr ⟨_, List.contains_iff_mem.mp (k_row hk).2.1, rfl⟩) rfl)
  obtain ⟨rfl, rfl, rfl, rfl⟩ := nx_inj hst
  have hKn := hK.1 k _ (cls_at hk)
  dsimp only [am_push] at hrm kk
  refine W.newcK hx hb hown hcl hins hini rfl hd (by omega) (by omega) hKn.2.1 rfl fun H1 kC hkC e1 z1 o1 => ?_
  have hob : t_OB H.size (D.1 k) (kNn k) (D.2 k) H1 (vp_V (am_new k)) := (u_born _ hts (k_in hk) hKn hkC e1 (k_ty hk)).to (fun j hj => by rw [am_new_at hj]; exact dflt_ok (k_dr hk hj))
  have hlen : (am_new k).length = kNn k := by unfold am_new kNn; simp
  have hR' := hR.push (n := kNn k) z1 o1 (Or.inl ⟨hk, hR.2.1, hlen, hob⟩)
  have := kk _ locs ls hR' ⟨Nat.le_trans hS.1 (by omega), fun q h1 h2 => (o1 q (Nat.lt_of_lt_of_le h1 hS.1)).trans (hS.2.1 q h1 h2), hS.2.2⟩ hl
  rw [hR.1]
  rw [show h.2.1 - c0 + 1 = h.2.1 + 1 - c0 by omega, show h.2.2 - s0 + kNn k = h.2.2 + kNn k - s0 by omega]
  exact this
theorem si_gets (C : Ctx p s m args meth c base D σ M) {k x : Nat} (hd : decode (mB M) pc = .ok (.getstatic x, 3)) (hlk : lk4 slt (mO M) x = some k) (hst : nx lv (.ref (σ k) :: st) h = some (.inl (j, lv', st', h'))) (kk : KK p l e R s m args below meth c Q base D M c0 s0 (j.getD (pc + 3)) lv' st' h') : KK p l e R s m args below meth c Q base D M c0 s0 pc lv st h := by
  intro H locs ls hR hS hl
  obtain ⟨hx, hb, hml, hown, hts, hxw, hK, hini, hZ, -⟩ := C
  obtain ⟨q0, hmem⟩ := lk4_mem hlk
  have hk : k < 6 := by
    have h1 := ck_al
    rw [Bool.and_eq_true, Bool.and_eq_true, Bool.and_eq_true] at h1
    simpa using List.all_eq_true.mp h1.2.2.1 _ hmem
  have hlink := hts _ (gt_of ck_slt (List.mem_map.mpr ⟨_, hmem, rfl⟩) rfl)
  obtain ⟨rfl, rfl, rfl, rfl⟩ := nx_inj hst
  exact va_gets hx hb (hZ k hk) hS hown hlink (fun _ h => h) hd (kk H locs ls hR hS hl)
theorem si_cast (C : Ctx p s m args meth c base D σ M) {k x : Nat} (hd : decode (mB M) pc = .ok (.checkcast x, 3)) (hlk : lk4 nlt (mO M) x = some k) (hst : s_cast k lv st h = some (.inl (j, lv', st', h'))) (kk : KK p l e R s m args below meth c Q base D M c0 s0 (j.getD (pc + 3)) lv' st' h') : KK p l e R s m args below meth c Q base D M c0 s0 pc lv st h := by
  intro H locs ls hR hS hl
  obtain ⟨hx, hb, hml, hown, hts, hxw, hK, hini, hZ, -⟩ := C
  obtain ⟨q0, hmem⟩ := lk4_mem hlk
  have hk : k < 13 := by
    have h1 := ck_al
    rw [Bool.and_eq_true, Bool.and_eq_true] at h1
    simpa using List.all_eq_true.mp h1.2.1 _ hmem
  have hlink := hts _ (gt_of ck_nlt (List.mem_map.mpr ⟨_, hmem, rfl⟩) rfl)
  unfold s_cast at hst
  split at hst
  · rename_i q r
    split at hst
    · rename_i k' fs hq
      split at hst
      · rename_i ek
        subst ek
        obtain ⟨rfl, rfl, rfl, rfl⟩ := nx_inj hst
        obtain ⟨hSl, hfc, kC, hkC, hkind⟩ := hK.1 k' _ (cls_at hk)
        rcases hR.2.2 q k' fs hq with ⟨g1, g2, g3, cv, g4, g5, g6, g7⟩ | ⟨g1, -⟩ | ⟨g1, -⟩
        · exact va_castS hx hb hown hlink (cC := D.1 k') ⟨hfc, kC, hkC, hkind⟩ ⟨cv, g4, by rw [g6]; rfl, by rw [g5]; exact hfc⟩ hd (kk H locs ls hR hS hl)
        · omega
        · omega
      · cases hst
    · cases hst
  · cases hst
theorem si_oinit (C : Ctx p s m args meth c base D σ M) {x v : Nat} (hd : decode (mB M) pc = .ok (.invokespecial x, 3)) (hlk : lk4 olt (mO M) x = some v) (hst : s_oinit lv st h = some (.inl (j, lv', st', h'))) (hF : 1 ≤ R.frames ∧ 30 ≤ R.locals) (kk : KK p l e R s m args below meth c Q base D M c0 s0 (j.getD (pc + 3)) lv' st' h') : KK p l e R s m args below meth c Q base D M c0 s0 pc lv st h := by
  intro H locs ls hR hS hl
  obtain ⟨hx, hb, hml, hown, hts, hxw, hK, hini, hZ, -⟩ := C
  obtain ⟨q0, hmem⟩ := lk4_mem hlk
  have hlink := hts _ (gt_of ck_olt (List.mem_map.mpr ⟨_, hmem, rfl⟩) rfl)
  have hin := hts _ (gt_of ck_obj List.mem_cons_self rfl)
  have hco := hts _ (gt_of ck_obj2 List.mem_cons_self rfl)
  unfold s_oinit at hst
  split at hst
  · rename_i q r
    split at hst
    · rename_i hw
      obtain ⟨rfl, rfl, rfl, rfl⟩ := nx_inj hst
      refine W.objInit hx hb hown hlink hin hco rfl (hl.1.trans hml.symm) rfl hd hF.1 ?_ (kk H locs ls hR hS hl)
      unfold am_w at hw
      show 2 * 0 + _ + 12 ≤ _
      omega
    · cases hst
  · cases hst
theorem si_math (C : Ctx p s m args meth c base D σ M) {x a : Nat} (hd : decode (mB M) pc = .ok (.invokestatic x, 3)) (hlk : lk4 mal (mO M) x = some a) (hst : s_math a lv st h = some (.inl (j, lv', st', h'))) (hF : 1 ≤ R.frames ∧ 30 ≤ R.locals) (hrm : h'.2.1 - c0 ≤ R.cells ∧ h'.2.2 - s0 ≤ R.slots) (kk : KK p l e R s m args below meth c Q base D M c0 s0 (j.getD (pc + 3)) lv' st' h') : KK p l e R s m args below meth c Q base D M c0 s0 pc lv st h := by
  intro H locs ls hR hS hl
  obtain ⟨hx, hb, hml, hown, hts, hxw, hK, hini, hZ, -⟩ := C
  obtain ⟨q0, hmem⟩ := lk4_mem hlk
  have hlink := hts _ (gt_of ck_ma (List.mem_map.mpr ⟨_, hmem, rfl⟩) rfl)
  have h0 := ck_m0
  have h1 := ck_m1
  simp only [Bool.and_eq_true] at h0 h1
  have i1 := hts _ (gt_of h0.2.2.2 List.mem_cons_self rfl)
  unfold s_math at hst
  split at hst
  · rename_i y z r
    split at hst
    · rename_i hw
      obtain ⟨rfl, rfl, rfl, rfl⟩ := nx_inj hst
      exact va_mmax hx hb (hml.trans hl.1.symm) hown hlink (hts _ (gt_of h0.1 List.mem_cons_self rfl)) i1 (hts _ (gt_of h1.1 List.mem_cons_self rfl)) hF.1 (by unfold am_w at hw; omega) hrm.1 hrm.2 hd (kk H locs ls hR hS hl)
    · cases hst
  · rename_i y z r
    split at hst
    · rename_i hw
      obtain ⟨rfl, rfl, rfl, rfl⟩ := nx_inj hst
      exact va_mmin hx hb (hml.trans hl.1.symm) hown hlink (hts _ (gt_of h0.2.1 List.mem_cons_self rfl)) i1 (hts _ (gt_of h1.2.1 List.mem_cons_self rfl)) hF.1 (by unfold am_w at hw; omega) hrm.1 hrm.2 hd (kk H locs ls hR hS hl)
    · cases hst
  · rename_i z r
    split at hst
    · rename_i hw
      obtain ⟨rfl, rfl, rfl, rfl⟩ := nx_inj hst
      exact va_mabs hx hb (hml.trans hl.1.symm) hown hlink (hts _ (gt_of h0.2.2.1 List.mem_cons_self rfl)) i1 (hts _ (gt_of h1.2.2 List.mem_cons_self rfl)) hF.1 (by unfold am_w at hw; omega) hrm.1 hrm.2 hd (kk H locs ls hR hS hl)
    · cases hst
  · cases hst
theorem si_sw (C : Ctx p s m args meth c base D σ M) {a : Nat} (hw : SwOK M pc a) (hst : s_sw a lv st h = some (.inl (j, lv', st', h'))) (kk : KK p l e R s m args below meth c Q base D M c0 s0 (j.getD nxp) lv' st' h') : KK p l e R s m args below meth c Q base D M c0 s0 pc lv st h := by
  intro H locs ls hR hS hl
  obtain ⟨hx, hb, -⟩ := C
  obtain ⟨d, lo, hi, offs, n, dn, ts, hd, hs, hdn, hts⟩ := hw
  unfold s_sw at hst
  split at hst
  · rename_i z r
    rw [hs] at hst
    dsimp only at hst
    split at hst
    · rename_i hout
      obtain ⟨rfl, rfl, rfl, rfl⟩ := jp_inj hst
      exact lv_tableOut (tgt := dn) hx hb hd hout hdn (kk H locs ls hR hS hl)
    · rename_i hout
      split at hst
      · rename_i t ht
        obtain ⟨rfl, rfl, rfl, rfl⟩ := jp_inj hst
        have h1 : (offs.toList.map (fun o => (pc : Int) + o))[(z.toInt - lo).toNat]? = some ((t : Nat) : Int) := by rw [hts, List.getElem?_map, ht]; rfl
        rw [List.getElem?_map] at h1
        obtain ⟨off, ho, he⟩ := Option.map_eq_some_iff.mp h1
        exact lv_tableIn (tgt := t) hx hb hd (fun h => hout (Or.inl h)) (fun h => hout (Or.inr h)) (by simpa using ho) he (kk H locs ls hR hS hl)
      · cases hst
  · cases hst
end SIMB
