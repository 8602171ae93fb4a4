/-! ===== the machine follows the plain machine: the heap ===== -/
theorem fk_ok {f k : Nat} (hf : f < 200) (h : (fks f).contains k = true) : k < 13 ∧ fpos f < kNn k ∧ (kT k (fpos f)).2.1 = (fr f).2.1 ∧ (kT k (fpos f)).2.2.1 = (fr f).2.2.1 ∧ ((kT k (fpos f)).1 = (fr f).1 ∨ ((fr f).1, (kT k (fpos f)).1, (fr f).2.1, (fr f).2.2.1) ∈ sfl) := by
  have h1 := List.all_eq_true.mp ck_fks f (List.mem_range.mpr hf)
  have h2 := List.all_eq_true.mp h1 k (List.contains_iff_mem.mp h)
  simp only [Bool.and_eq_true, Bool.or_eq_true, decide_eq_true_eq, List.any_eq_true] at h2
  obtain ⟨a1, a2, a3, a4, a5⟩ := h2
  refine ⟨a1, a2, a3, a4, a5.imp id fun ⟨x, hx, e⟩ => ?_⟩
  rw [← e]; exact hx
theorem ck_f2 : flt.all (fun x => decide (x.2.2.1 < 200)) = true := by decide +kernel
theorem k_row {k : Nat} (hk : k < 13) : kil.contains k = true ∧ inl.contains (kNm k) = true ∧ ∀ j, j < kNn k → (k, j) ∈ kll := by
  have h1 := List.all_eq_true.mp ck_k k (List.mem_range.mpr hk)
  simp only [Bool.and_eq_true] at h1
  exact ⟨h1.1, h1.2.1, fun j hj => List.contains_iff_mem.mp (List.all_eq_true.mp h1.2.2 j (List.mem_range.mpr hj))⟩
theorem k_in {k : Nat} (hk : k < 13) : ∀ w ∈ u_ws (kNm k) (kT k) (kNn k), w ∈ gt := by
  intro w hw
  obtain ⟨j, hj, rfl⟩ := List.mem_map.mp hw
  have h1 := (k_row hk).2.2 j (List.mem_range.mp hj)
  refine gt_of ck_kll (List.mem_map.mpr ⟨(k, j), h1, rfl⟩) ?_
  unfold u_lay
  split <;> rfl
theorem k_ty {k : Nat} (hk : k < 13) : ∀ j, j < kNn k → parseFieldDescriptor (kT k j).2.2.1 = some (dty (kT k j).2.2.1) := by
  intro j hj
  have h1 := List.all_eq_true.mp ck_dty k (List.mem_range.mpr hk)
  simpa using List.all_eq_true.mp h1 j (List.mem_range.mpr hj)
theorem k_nm {k : Nat} (hk : k < 13) : ∀ a, a < kNn k → ∀ b, b < kNn k → a ≠ b → (kT k a).2.1 ≠ (kT k b).2.1 := by
  intro a ha b hb hab
  have h1 := List.all_eq_true.mp ck_nm k (List.mem_range.mpr hk)
  have h2 := List.all_eq_true.mp h1 a (List.mem_range.mpr ha)
  have h3 := List.all_eq_true.mp h2 b (List.mem_range.mpr hb)
  simp only [Bool.or_eq_true, beq_iff_eq, decide_eq_true_eq] at h3
  exact h3.resolve_left hab
theorem cls_at {k : Nat} (hk : k < 13) : cls[k]? = some (kNm k, kT k, kNn k) := by
  unfold cls
  rw [List.getElem?_map, List.getElem?_range hk]
  rfl
theorem am_fit_ok {d : String} {v : Value} (hd : parseFieldDescriptor d = some (dty d)) (h : am_fit (dcode d) v = true) (hr : dcode d = 3 → (∃ n, dty d = .object n) ∨ ∃ t, dty d = .array t) : narrow (dty d) v = v ∧ fits (dty d) v = true := by
  unfold dcode at h hr
  by_cases h1 : d = "I"
  · rw [if_pos h1] at h
    have e : dty d = .int := by unfold dty; rw [if_pos h1]
    rw [e]
    cases v <;> first | (simp [am_fit] at h; done) | exact ⟨rfl, rfl⟩
  · rw [if_neg h1] at h hr
    by_cases h2 : d = "Z"
    · rw [if_pos h2] at h
      have e : dty d = .boolean := by unfold dty; rw [if_neg h1, if_pos h2]
      rw [e]
      cases v <;> first | (simp [am_fit] at h; done) | skip
      rename_i x
      simp [am_fit] at h
      rcases h with rfl | rfl <;> exact ⟨rfl, rfl⟩
    · rw [if_neg h2] at h hr
      cases v <;> first | (simp [am_fit] at h; done) | skip
      all_goals rcases hr (by rfl) with ⟨n, e⟩ | ⟨t, e⟩ <;> rw [e] <;> exact ⟨rfl, rfl⟩
theorem ck_dr : (List.range 13).all (fun k => (List.range (kNn k)).all (fun j => decide (dcode (kT k j).2.2.1 ≠ 3) || (match dty (kT k j).2.2.1 with | .object _ => true | .array _ => true | _ => false))) = true := by decide +kernel
theorem k_dr {k j : Nat} (hk : k < 13) (hj : j < kNn k) (h : dcode (kT k j).2.2.1 = 3) : (∃ n, dty (kT k j).2.2.1 = .object n) ∨ ∃ t, dty (kT k j).2.2.1 = .array t := by
  have h1 := List.all_eq_true.mp ck_dr k (List.mem_range.mpr hk)
  have h2 := List.all_eq_true.mp h1 j (List.mem_range.mpr hj)
  rw [Bool.or_eq_true, decide_eq_true_eq] at h2
  rcases h2 with h2 | h2
  · exact absurd h h2
  · split at h2
    · rename_i n e; exact Or.inl ⟨n, e⟩
    · rename_i t e; exact Or.inr ⟨t, e⟩
    · cases h2
section SIMH
variable {p : Program} {l : Launch} {e : Env} {R : Room} {s : State} {m : MethodId} {args : Array Value} {below : List Frame} {meth : Method} {c : Code} {H : Heap} {locs : List Loc} {Q : State → Prop} {base c0 s0 M pc nxp : Nat} {D : va_G} {σ : Nat → Nat} {ls : Array Slot} {lv lv' : LV} {st st' : List Value} {h h' : AH} {j : Option Nat}
theorem fl_same (C : Ctx p s m args meth c base D σ M) {f k : Nat} (hf : f < 200) (hk : (fks f).contains k = true) : ∀ x, s.fieldFound? (kT k (fpos f)).1 (kT k (fpos f)).2.1 (kT k (fpos f)).2.2.1 = some x → s.fieldFound? (fr f).1 (kT k (fpos f)).2.1 (kT k (fpos f)).2.2.1 = some x := by
  obtain ⟨hx, hb, hml, hown, hts, -⟩ := C
  obtain ⟨a1, a2, a3, a4, a5⟩ := fk_ok hf hk
  intro x hx
  rcases a5 with a5 | a5
  · rw [← a5]; exact hx
  · have hw := hts _ (gt_of ck_sfl (List.mem_map.mpr ⟨_, a5, rfl⟩) rfl)
    rw [a3, a4] at hx ⊢
    exact u_same hw x hx
theorem si_get (C : Ctx p s m args meth c base D σ M) {x f : Nat} (hd : decode (mB M) pc = .ok (.getfield x, 3)) (hf : lk4 flt (mO M) x = some f) (hst : s_get f lv st h = some (.inl (j, lv', st', h'))) (kk : KK p l e R s m args below meth c Q base D M c0 s0 (j.getD (pc + 3)) lv' st' h') : KK p l e R s m args below meth c Q base D M c0 s0 pc lv st h := by
  intro H locs ls hR hS hl
  obtain ⟨q0, hmem⟩ := lk4_mem hf
  have hf2 : f < 200 := by simpa using List.all_eq_true.mp ck_f2 _ hmem
  unfold s_get at hst
  split at hst
  · rename_i q r
    split at hst
    · rename_i k fs hq
      split at hst
      · rename_i hk
        split at hst
        · rename_i v hv
          obtain ⟨rfl, rfl, rfl, rfl⟩ := nx_inj hst
          have hfs := fl_same C hf2 hk
          obtain ⟨hx, hb, hml, hown, hts, hxw, hK, -⟩ := C
          obtain ⟨a1, a2, a3, a4, -⟩ := fk_ok hf2 hk
          have hlink : (Cond.fieldLink (on (mO M)) x (fr f).1 (kT k (fpos f)).2.1 (kT k (fpos f)).2.2.1).before args s = true := by
            rw [a3, a4]
            exact hts _ (gt_of ck_flt (List.mem_map.mpr ⟨_, hmem, rfl⟩) rfl)
          rcases hR.2.2 q k fs hq with ⟨b1, b2, b3, b4⟩ | ⟨b1, -⟩ | ⟨b1, -⟩
          · have hP : va_P D cls [(q, .inr (k, fs))] H := by
              intro z y hy
              cases z with
              | zero => cases hy; exact ⟨_, cls_at a1, b4⟩
              | succ z => simp at hy
            exact va_get hx hb hts (k_in a1) hown hK hP 0 rfl (cls_at a1) (fpos f) a2 hlink hfs hv hd (kk H locs ls hR hS hl)
          · omega
          · omega
        · cases hst
      · cases hst
    · cases hst
  · cases hst
theorem si_put (C : Ctx p s m args meth c base D σ M) {x f : Nat} (hd : decode (mB M) pc = .ok (.putfield x, 3)) (hf : lk4 flt (mO M) x = some f) (hfin : (fks f).all (fun k => !(kT k (fpos f)).2.2.2 || (decide ((mY M).name = "<init>") && decide ((kT k (fpos f)).1 = on (mO M)))) = true)
    (hst : s_put f lv st h = some (.inl (j, lv', st', h'))) (kk : KK p l e R s m args below meth c Q base D M c0 s0 (j.getD (pc + 3)) lv' st' h') : KK p l e R s m args below meth c Q base D M c0 s0 pc lv st h := by
  intro H locs ls hR hS hl
  obtain ⟨q0, hmem⟩ := lk4_mem hf
  have hf2 : f < 200 := by simpa using List.all_eq_true.mp ck_f2 _ hmem
  unfold s_put at hst
  split at hst
  · rename_i v q r
    split at hst
    · rename_i k fs hq
      split at hst
      · rename_i hk
        simp only [Bool.and_eq_true, decide_eq_true_eq] at hk
        obtain ⟨hk, hlen, hfit⟩ := hk
        obtain ⟨rfl, rfl, rfl, rfl⟩ := nx_inj hst
        have hfs := fl_same C hf2 hk
        obtain ⟨hx, hb, hml, hown, hts, hxw, hK, hini, -⟩ := C
        obtain ⟨a1, a2, a3, a4, -⟩ := fk_ok hf2 hk
        have hlink : (Cond.fieldLink (on (mO M)) x (fr f).1 (kT k (fpos f)).2.1 (kT k (fpos f)).2.2.1).before args s = true := by
          rw [a3, a4]
          exact hts _ (gt_of ck_flt (List.mem_map.mpr ⟨_, hmem, rfl⟩) rfl)
        have hfin1 := List.all_eq_true.mp hfin k (List.contains_iff_mem.mp hk)
        rw [← a4] at hfit
        obtain ⟨hn, hfit⟩ := am_fit_ok (k_ty a1 _ a2) hfit (k_dr a1 a2)
        rcases hR.2.2 q k fs hq with ⟨b1, b2, b3, cell, q1, q2, q3, q4⟩ | ⟨b1, -⟩ | ⟨b1, -⟩
        · have hap := va_apart (own := on (mO M)) hts (k_in a1) (fun j => dty (kT k j).2.2.1) (k_ty a1) (k_nm a1) hK (cls_at a1)
          obtain ⟨hSl, hfc, kC, hkC, hkind⟩ := hK.1 k _ (cls_at a1)
          obtain ⟨cf, kf, fi, fd, hi, hsl⟩ := hSl (fpos f) a2
          have hlay := hts _ (k_in a1 _ (u_in_lay a2))
          have hst := (u_facts hfc hkC (u_lays hts (k_in a1) a2) hi).1
          have fin : ∀ H' : Heap, H'[q]? = some (cell.setSlot fd.slot v) → H'.size = H.size → (∀ z, z ≠ q → H'[z]? = H[z]?) → W p l e R s m args below meth c H' (locs ++ [⟨q, fd.slot⟩]) ((am_set h q (k, fs.set (fpos f) v)).2.1 - c0) ((am_set h q (k, fs.set (fpos f) v)).2.2 - s0) Q (F0 m (pc + 3) ls st') := by
            intro H' e1 e2 e3
            rw [hsl] at e1 ⊢
            refine kk H' _ ls (hR.set e2 e3 (Or.inl ⟨b1, b2, by rw [List.length_set]; exact b3, t_OB.to (V := updV (vp_V fs) (fpos f) v) ⟨_, e1, q2, q3, t_set q4 hap a2 v⟩ (fun j _ => vp_updV_set hlen v j)⟩)) (hS.put e2 e3 b2) hl
          by_cases hff : (kT k (fpos f)).2.2.2 = true
          · rw [hff] at hfin1
            simp only [Bool.not_true, Bool.false_or, Bool.and_eq_true, decide_eq_true_eq] at hfin1
            unfold u_lay at hlay
            rw [if_pos hff] at hlay
            have hcf : m.cls = cf := by
              obtain ⟨_, _, c', _, _, _, -, -, hf', -, -, -, hown2, -⟩ := Cond.laysFinal_spec hlay
              have e1 : c' = cf := by have := hi.symm.trans hf'; simp at this; exact this.1.symm
              rw [hfin1.2] at hown2
              rw [← e1]; exact Option.some.inj (hown.symm.trans hown2)
            have h6 := u_fits hfc hkC hkind (Or.inr hlay) hi (k_ty a1 _ a2) hn hfit
            exact W.putFinK hx hb hown hlink (hfs _ hi) hst hcf (hini hfin1.1) (by rw [q2]; exact h6) q1 q3 (by rw [hsl]; exact k2_hasslot (q4 _ a2)) rfl rfl hd fin
          · unfold u_lay at hlay
            rw [if_neg hff] at hlay
            have h6 := u_store hfc hkC hkind hlay hi (k_ty a1 _ a2) hn hfit
            exact W.putK hx hb (f := fd) ⟨hown, hlink, ⟨_, _, _, hfs _ hi⟩, hst⟩ (by rw [q2]; exact h6) q1 q3 (by rw [hsl]; exact k2_hasslot (q4 _ a2)) rfl rfl hd fin
        · omega
        · omega
      · cases hst
    · cases hst
  · cases hst
end SIMH
