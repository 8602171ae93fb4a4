/-! ===== the machine follows the plain machine: rows, new objects, statics, casts, switches ===== -/
theorem arrV_ext {cA : ClassId} {n : Nat} {f g : Nat → Value} (h : ∀ j, j < n → f j = g j) : arrV cA n f = arrV cA n g := by
  unfold arrV
  congr 1
  apply Array.ext
  · simp
  · intro i h1 h2
    simp at h1
    simp [h i h1]
theorem arrv_set {cA : ClassId} {fs : List Value} {k : Nat} {v : Value} (hk : k < fs.length) : (arrV cA fs.length (vp_V fs)).setSlot k v = arrV cA (fs.set k v).length (vp_V (fs.set k v)) := by
  rw [arrV_store, List.length_set]
  exact arrV_ext fun j hj => vp_updV_set hk v j
theorem arrv_rep {cA : ClassId} {n : Nat} {v : Value} : arrV cA n (fun _ => v) = arrV cA (List.replicate n v).length (vp_V (List.replicate n v)) := by
  rw [List.length_replicate]
  refine arrV_ext fun j hj => ?_
  simp [vp_V, hj]
section SIMA
variable {p : Program} {l : Launch} {e : Env} {R : Room} {s : State} {m : MethodId} {args : Array Value} {below : List Frame} {meth : Method} {c : Code} {H : Heap} {locs : List Loc} {Q : State → Prop} {base c0 s0 M pc nxp : Nat} {D : va_G} {σ : Nat → Nat} {ls : Array Slot} {lv lv' : LV} {st st' : List Value} {h h' : AH} {j : Option Nat}
theorem si_ald (C : Ctx p s m args meth c base D σ M) (a : Nat) (i : Instr) (hi : (a = 0 ∧ i = .iaload) ∨ (a = 1 ∧ i = .laload) ∨ (a = 2 ∧ i = .baload) ∨ (a = 3 ∧ i = .caload) ∨ (a = 4 ∧ i = .aaload)) (hd : decode (mB M) pc = .ok (i, 1)) (hst : s_ald a lv st h = some (.inl (j, lv', st', h'))) (kk : KK p l e R s m args below meth c Q base D M c0 s0 (j.getD (pc + 1)) lv' st' h') : KK p l e R s m args below meth c Q base D M c0 s0 pc lv st h := by
  intro H locs ls hR hS hl
  obtain ⟨hx, hb, -⟩ := C
  unfold s_ald at hst
  split at hst
  · rename_i z q r
    split at hst
    · rename_i k fs hq
      split at hst
      · rename_i hk
        split at hst
        · rename_i v hv
          obtain ⟨rfl, rfl, rfl, rfl⟩ := nx_inj hst
          simp only [Bool.and_eq_true, decide_eq_true_eq] at hk
          obtain ⟨hk, hz⟩ := hk
          have hk20 : 20 ≤ k := by
            rcases hi with ⟨rfl, -⟩ | ⟨rfl, -⟩ | ⟨rfl, -⟩ | ⟨rfl, -⟩ | ⟨rfl, -⟩ <;> simp [am_ld] at hk <;> omega
          obtain ⟨cell, e1, e2, e3, e4, e5⟩ := (hR.2.2 q k fs hq).arr hk20
          have hlt := (List.getElem?_eq_some_iff.mp hv).1
          have hin : ¬ (z < 0 ∨ cell.slots.size ≤ z.toNatClampNeg) := fun h => h.elim hz (fun h => by omega)
          rcases hi with ⟨rfl, rfl⟩ | ⟨rfl, rfl⟩ | ⟨rfl, rfl⟩ | ⟨rfl, rfl⟩ | ⟨rfl, rfl⟩
          · have e2 : s.isArrayOf cell .int := by simp [am_ld] at hk; rcases hk with rfl | rfl | rfl <;> exact e2
            exact W.iald hx hb e1 e2 e3 hin (e5 _ _ hv) rfl rfl hd (kk H locs ls hR hS hl)
          · have e2 : s.isArrayOf cell .long := by simp [am_ld] at hk; subst hk; exact e2
            exact W.lald hx hb e1 e2 e3 hin (e5 _ _ hv) rfl rfl hd (kk H locs ls hR hS hl)
          · have e2 : s.isArrayOf cell .boolean := by simp [am_ld] at hk; subst hk; exact e2
            exact W.zald hx hb e1 e2 e3 hin (e5 _ _ hv) rfl rfl hd (kk H locs ls hR hS hl)
          · have e2 : s.isArrayOf cell .char := by simp [am_ld] at hk; subst hk; exact e2
            exact W.cald hx hb e1 e2 e3 hin (e5 _ _ hv) rfl rfl hd (kk H locs ls hR hS hl)
          · have e6 : (tyK k).isReference = true := by simp [am_ld] at hk; rcases hk with rfl | rfl | rfl | rfl <;> rfl
            exact W.aald hx hb e1 e2 e6 e3 hin (e5 _ _ hv) rfl rfl hd (kk H locs ls hR hS hl)
        · cases hst
      · cases hst
    · cases hst
  · cases hst
theorem si_len (C : Ctx p s m args meth c base D σ M) (hd : decode (mB M) pc = .ok (.arraylength, 1)) (hst : s_len lv st h = some (.inl (j, lv', st', h'))) (kk : KK p l e R s m args below meth c Q base D M c0 s0 (j.getD (pc + 1)) lv' st' h') : KK p l e R s m args below meth c Q base D M c0 s0 pc lv st h := by
  intro H locs ls hR hS hl
  obtain ⟨hx, hb, -⟩ := C
  unfold s_len at hst
  split at hst
  · rename_i q r
    split at hst
    · rename_i k fs hq
      split at hst
      · rename_i hk
        obtain ⟨rfl, rfl, rfl, rfl⟩ := nx_inj hst
        obtain ⟨cell, e1, e2, e3, e4, e5⟩ := (hR.2.2 q k fs hq).arr hk.1
        refine W.alen (n := nI fs.length) hx hb e1 e2 ?_ rfl rfl hd (kk H locs ls hR hS hl)
        rw [e4]; rfl
      · cases hst
    · cases hst
  · cases hst
/-- a row is written -/
theorem ast_fin {k q : Nat} {fs : List Value} {i : Nat} {v : Value} {cA : ClassId} {pc' : Nat} {r : List Value} (hR : Rep base D s H h) (hS : va_S (fun q => base ≤ q) s.heap H locs) (hl : lv_has ls (mL M) lv) (hk : 20 ≤ k ∧ k < 27) (hq : base ≤ q) (hA : ArrOfT s cA (tyK k)) (hRA : va_RA s cA (tyK k)) (hlt : i < fs.length)
    (kk : KK p l e R s m args below meth c Q base D M c0 s0 pc' lv r (am_set h q (k, fs.set i v))) : ∀ H' : Heap, H'[q]? = some ((arrV cA fs.length (vp_V fs)).setSlot i v) → H'.size = H.size → (∀ z, z ≠ q → H'[z]? = H[z]?) → W p l e R s m args below meth c H' (locs ++ [⟨q, i⟩]) (h.2.1 - c0) (h.2.2 - s0) Q (F0 m pc' ls r) := by
  intro H' e1 e2 e3
  rw [arrv_set hlt] at e1
  exact kk H' _ ls (hR.set e2 e3 (Or.inr (Or.inl ⟨hk.1, hk.2, hq, cA, e1, hA, hRA⟩))) (hS.put e2 e3 hq) hl
theorem si_ast (C : Ctx p s m args meth c base D σ M) (a : Nat) (i : Instr) (hi : (a = 0 ∧ i = .iastore) ∨ (a = 1 ∧ i = .lastore) ∨ (a = 2 ∧ i = .bastore)) (hd : decode (mB M) pc = .ok (i, 1)) (hst : s_ast a lv st h = some (.inl (j, lv', st', h'))) (kk : KK p l e R s m args below meth c Q base D M c0 s0 (j.getD (pc + 1)) lv' st' h') : KK p l e R s m args below meth c Q base D M c0 s0 pc lv st h := by
  intro H locs ls hR hS hl
  obtain ⟨hx, hb, -⟩ := C
  unfold s_ast at hst
  split at hst
  · rename_i v z q r
    split at hst
    · rename_i k fs hq
      split at hst
      · rename_i hk
        obtain ⟨rfl, rfl, rfl, rfl⟩ := nx_inj hst
        simp only [Bool.and_eq_true, decide_eq_true_eq] at hk
        obtain ⟨hk, hz, hlt⟩ := hk
        have hk2 : (a = 0 ∧ k = 20 ∧ ∃ x, v = .int x) ∨ (a = 1 ∧ k = 21 ∧ ∃ x, v = .long x) ∨ (a = 2 ∧ k = 22 ∧ ∃ x, v = .int x ∧ (x = 0 ∨ x = 1)) := by
          rcases hi with ⟨rfl, -⟩ | ⟨rfl, -⟩ | ⟨rfl, -⟩ <;> cases v <;> simp [am_st] at hk
          · exact Or.inl ⟨rfl, hk, _, rfl⟩
          · exact Or.inr (Or.inl ⟨rfl, hk, _, rfl⟩)
          · exact Or.inr (Or.inr ⟨rfl, hk.1, _, rfl, hk.2⟩)
        have hk20 : 20 ≤ k ∧ k < 27 := by rcases hk2 with ⟨-, h, -⟩ | ⟨-, h, -⟩ | ⟨-, h, -⟩ <;> omega
        rcases hR.2.2 q k fs hq with ⟨b1, -⟩ | ⟨b1, b2, b3, cA, b4, b5, b6⟩ | ⟨b1, -⟩
        · omega
        · have hin : ¬ (z < 0 ∨ (arrV cA fs.length (vp_V fs)).slots.size ≤ z.toNatClampNeg) := fun h => h.elim hz (fun h => by rw [arrV_size] at h; omega)
          rcases hk2 with ⟨rfl, rfl, x, rfl⟩ | ⟨rfl, rfl, x, rfl⟩ | ⟨rfl, rfl, x, rfl, hx01⟩
          · rcases hi with ⟨-, rfl⟩ | ⟨h, -⟩ | ⟨h, -⟩ <;> first | cases h | skip
            exact W.iast hx hb b4 (b5 _ _) (fun h => by cases h) hin rfl rfl hd (ast_fin hR hS hl hk20 b3 b5 b6 hlt kk)
          · rcases hi with ⟨h, -⟩ | ⟨-, rfl⟩ | ⟨h, -⟩ <;> first | cases h | skip
            exact W.last hx hb b4 (b5 _ _) (fun h => by cases h) hin rfl rfl hd (ast_fin hR hS hl hk20 b3 b5 b6 hlt kk)
          · rcases hi with ⟨h, -⟩ | ⟨h, -⟩ | ⟨-, rfl⟩ <;> first | cases h | skip
            have en : narrow .boolean (.int x) = .int x := by rcases hx01 with rfl | rfl <;> rfl
            refine W.zast hx hb b4 (b5 _ _) (fun h => by cases h) hin rfl rfl hd ?_
            rw [en]
            exact ast_fin hR hS hl hk20 b3 b5 b6 hlt kk
        · omega
      · cases hst
    · cases hst
  · cases hst
theorem si_newa (C : Ctx p s m args meth c base D σ M) (k : Nat) (t : ArrayType) (hi : (k = 20 ∧ t = .int) ∨ (k = 21 ∧ t = .long) ∨ (k = 22 ∧ t = .boolean)) (hd : decode (mB M) pc = .ok (.newarray t, 2)) (hst : s_newa k lv st h = some (.inl (j, lv', st', h'))) (hrm : h'.2.1 - c0 ≤ R.cells ∧ h'.2.2 - s0 ≤ R.slots) (hc : c0 ≤ h.2.1 ∧ s0 ≤ h.2.2) (kk : KK p l e R s m args below meth c Q base D M c0 s0 (j.getD (pc + 2)) lv' st' h') : KK p l e R s m args below meth c Q base D M c0 s0 pc lv st h := by
  intro H locs ls hR hS hl
  obtain ⟨hx, hb, hml, hown, hts, -⟩ := C
  unfold s_newa at hst
  split at hst
  · rename_i n r
    unfold s_new at hst
    split at hst
    · rename_i hn
      obtain ⟨rfl, rfl, rfl, rfl⟩ := nx_inj hst
      have harr : (Cond.arrayClass (newarray.typeOf t)).before args s = true := by
        have ck : ∀ t : ArrayType, (t = .int ∨ t = .long ∨ t = .boolean) → Cond.arrayClass (newarray.typeOf t) ∈ gt := by
          intro t ht
          rcases ht with rfl | rfl | rfl
          · exact gt_of (ws := [.arrayClass .int]) (by decide +kernel) List.mem_cons_self rfl
          · exact gt_of (ws := [.arrayClass .long]) (by decide +kernel) List.mem_cons_self rfl
          · exact gt_of (ws := [.arrayClass .boolean]) (by decide +kernel) List.mem_cons_self rfl
        exact hts _ (ck t (by rcases hi with ⟨-, h⟩ | ⟨-, h⟩ | ⟨-, h⟩ <;> simp [h]))
      have ety : newarray.typeOf t = tyK k := by rcases hi with ⟨rfl, rfl⟩ | ⟨rfl, rfl⟩ | ⟨rfl, rfl⟩ <;> rfl
      have edf : defaultValue (tyK k) = am_def k := by rcases hi with ⟨rfl, -⟩ | ⟨rfl, -⟩ | ⟨rfl, -⟩ <;> rfl
      have hkk : 20 ≤ k ∧ k < 27 := by rcases hi with ⟨rfl, -⟩ | ⟨rfl, -⟩ | ⟨rfl, -⟩ <;> omega
      have hbt : n.toNatClampNeg * componentBytes (newarray.typeOf t) ≤ 536870912 := by
        rcases hi with ⟨-, rfl⟩ | ⟨-, rfl⟩ | ⟨-, rfl⟩
        · show n.toNatClampNeg * 4 ≤ _; omega
        · show n.toNatClampNeg * 8 ≤ _; omega
        · show n.toNatClampNeg * 1 ≤ _; omega
      dsimp only [am_push] at hrm kk
      refine va_newaK hx hb harr rfl hd rfl hn.1 rfl hbt (by omega) (by omega) rfl fun H' cA e1 e2 e3 e4 e5 => ?_
      rw [ety, edf, arrv_rep] at e1
      rw [ety] at e4 e5
      have hRA : va_RA s cA (tyK k) := by rcases hi with ⟨rfl, -⟩ | ⟨rfl, -⟩ | ⟨rfl, -⟩ <;> exact e5
      have hbase : base ≤ H.size := hR.2.1
      have hR' := hR.push (n := n.toNatClampNeg) e2 e3 (Or.inr (Or.inl ⟨hkk.1, hkk.2, hbase, cA, e1, e4, hRA⟩))
      have := kk H' locs ls hR' ⟨Nat.le_trans hS.1 (by omega), fun q h1 h2 => (e3 q (Nat.lt_of_lt_of_le h1 hS.1)).trans (hS.2.1 q h1 h2), hS.2.2⟩ hl
      rw [hR.1]
      rw [show h.2.1 - c0 + 1 = h.2.1 + 1 - c0 by omega, show h.2.2 - s0 + n.toNatClampNeg = h.2.2 + n.toNatClampNeg - s0 by omega]
      exact this
    · cases hst
  · cases hst
end SIMA
