/-! ===== a call answered by its contract ===== -/
theorem pre4_get {l : List (Nat × Nat × Nat)} {j : Nat} {hh : Nat × Nat × Nat} (h : l[j]? = some hh) : (pre4 l)[j]? = some (0, hh) := by
  unfold pre4
  rw [List.getElem?_map, h]
  rfl
theorem pre4_mem {l : List (Nat × Nat × Nat)} {q : Nat × Nat × Nat × Nat} (h : q ∈ pre4 l) : q.1 = 0 := by
  unfold pre4 at h
  obtain ⟨x, -, rfl⟩ := List.mem_map.mp h
  rfl
theorem place0 (f : Nat) (lv lv' : SLV) : h_place 0 f lv = h_place 0 f lv' := rfl
section
variable {B : BS} {I I' : IN} {n m n' m' : Nat} {G G' : SG} {h h' h0 h1 : AH} {lv lv' lv0 : SLV} {L L' L1 : LV} {c : Int} {a k kd i f : Nat} {s : SV} {v : Value}
theorem plv0 {mb : Nat} {Ib : IN} {f : Nat} {V : Value} (hp : PlV I m h (h_place 0 f lv) V) (ha : I.2.2 = Ib.2.2) : PlV Ib mb h (h_place 0 f lv) V := by
  have h0 : PlV Ib 0 h (h_place 0 f lv) V := plv_down (mb := 0) hp sk_okn sk_okn (fun i hi => absurd hi (Nat.not_lt_zero _)) ha
  exact plv_ag (I := Ib) (nu := Ib.1) h0 (Nat.zero_le _) (fun _ _ => rfl)
theorem ovm_gr {q : Option SV} {v : Option Value} (hg : Gr I G I' G') (hv : OVM I (g_h G).length (g_n G) q v) : OVM I' (g_h G').length (g_n G') q v := by
  cases q with
  | none => cases v with
    | none => exact True.intro
    | some v => exact hv.elim
  | some s => cases v with
    | none => exact hv.elim
    | some v => exact sv_gr hg hv
theorem y_use_ok {σ : Nat → Nat} {C : CN} {as : List SV} {As : List Value} {es : List (Option SV × SG)} {Q : Option Value → AH → Prop} (hCn : CnOK σ C) (hB : ∀ a i, ¬ B.2 a i) (hσ : ∀ i, i < 6 → B.1.1 (stc i) 0 = some (σ i)) (hR : RM B I G h) (hAs : LM I (g_h G).length (g_n G) as As) (hs : y_use C as G = some es) (hE : Ends B I G es Q) : Rt σ C.2.1 (codeOf C.2.1) (am_args 0 As) [] h Q := by
  unfold y_use at hs
  dsimp only at hs
  split at hs
  · cases hs
  · rename_i c0 G0 hrd
    have hRc := y_close_ok hR
    obtain ⟨nu0, r1, r2, r3, r4⟩ := rds_ok (L := []) hRc (fun i s hs => by cases hs) hrd
    replace hs := bif_some hs
    obtain ⟨f1, hs⟩ := hs
    obtain ⟨f1a, f1b⟩ := and2 f1
    obtain ⟨fp, frt⟩ := and2 f1a
    obtain ⟨fx, f1c⟩ := and2 f1b
    obtain ⟨fnc, fat⟩ := and2 f1c
    split at hs
    · cases hs
    · rename_i G2 hG2
      have hg0 : Gr I G (nu0, I.2) G0 := gr_trans gr_close (gr_nh r2)
      have hAs0 := lm_gr hg0 hAs
      -- the contract's own start
      have z0 := rm_zero (I := (nu0, I.2)) hB r1 fx (blet fp)
      have hσ2 : ∀ i, i < 6 → I.2.2 (stc i) 0 = some (σ i) := fun i hi => hR.2.2.2.2.2.2.2.2.1 _ _ _ (by unfold stc; omega) (hσ i hi)
      obtain ⟨nu1, a1, a2, a3⟩ := at_new_ok (I := (fun _ => 0, fun _ => 0, I.2.2)) z0 (at_fit_ok (I := (nu0, I.2)) r1 hAs0 fat)
      obtain ⟨nu2, b1, b2, b3, b4⟩ := gen_pre_ok (I := (nu1, fun _ => 0, I.2.2)) (l := C.2.2.2.2.1) a1 (fun hh hm => by
        obtain ⟨j, hj⟩ := List.getElem?_of_mem hm
        obtain ⟨s, X, -, -, x3, -, x4⟩ := r4 j _ (pre4_get hj)
        exact ⟨X, plv0 x3 rfl, x4⟩)
      have hAs1 : LM (nu2, fun _ => 0, I.2.2) (g_h (cB C).2).length (g_n (cB C).2) (cA C).1 As := lm_gr (gr_nh (I := (nu1, fun _ => 0, I.2.2)) b2) a3
      have hrun := hCn I.2.2 h (nu2, fun _ => 0, I.2.2) As hσ2 b1 rfl hAs1
      refine rt_mono hrun fun v h' ⟨q, G', I', e1, e2, e3, eh, ex, eu, ⟨eq, ep⟩, eK, ert, ehc, erel⟩ => ?_
      -- the state behind the call
      have hSc := e2.2.2.2.2.2.2
      rw [eu, eq] at hSc
      have hTS : TS I'.2.2 h' 1 (ExG I'.1 []) no2 := by
        have := e2.2.2.2.1
        rw [ex] at this
        obtain ⟨t1, t2, t3, t4, t5, t6⟩ := this
        exact ⟨t1, t2, t3, t4, t5, fun t k ht he => t6 t k (by omega) he⟩
      have hst := use_state (I := (nu0, I.2)) (kk := cK C) hB r1 fx fnc hSc hTS (k_sub_ok eK)
      have hup3 : ∀ c i q, c < 1000 → I.2.2 c i = some q → I'.2.2 c i = some q := hSc.2.2.1
      -- the places that the call tells of
      have hcV : ∀ hh, hh ∈ cH C → ∃ v X, y_find G' (h_place hh.1 hh.2.1 []).1 (h_place hh.1 hh.2.1 []).2.1 (h_place hh.1 hh.2.1 []).2.2 = some v ∧ (PlV I' (g_n G') h' (h_place 0 hh.2.1 []) (.int X) ∧ (i2n X = sval I'.1 v ∧ (hh.2.2.1 ≤ i2n X ∧ i2n X ≤ hh.2.2.2))) := by
        intro hh hm
        obtain ⟨v, w1, w2, w3⟩ := bk_hc_ok ehc hh hm
        have h0 : hh.1 = 0 := pre4_mem hm
        obtain ⟨V, p1, p2⟩ := cell_pl e2 (by omega) w1 (place_I _ _ _)
        obtain ⟨X, rfl, hX⟩ := sv_int p2 w2
        rw [h0] at p1
        exact ⟨v, X, w1, p1, hX.2.2, fit_ok e2.1 hX w3⟩
      obtain ⟨nu3, c1, c2⟩ := gen_cells_ok (lv := []) (I := (nu0, I.2.1, I'.2.2)) (hc := cH C) hst (fun hh hm => by
        obtain ⟨v, X, -, p1, -, p2⟩ := hcV hh hm
        rw [pre4_mem hm]
        exact ⟨X, plv0 p1 rfl, p2⟩)
      -- the answer
      obtain ⟨nu4, d1, d2⟩ := rt_new_ok (I := (nu3, I.2.1, I'.2.2)) (t := C.2.2.2.2.2.2.2.1) c1.2.2.2.1.1 (fun e => by
        rw [e] at frt
        have := blet frt
        omega) c1 e2 rfl eh e3 ert
      have hR4 := rm_nk (I := (nu3, I.2.1, I'.2.2)) c1 d1
      have hgk : Gr (nu0, I.2.1, I.2.2) G0 (nu0, I.2.1, I'.2.2) (upX (upC G0 (c_kill (cK C) (g_c G0))) (g_x G0) (cK C ++ g_k G0)) := ⟨fun _ _ => rfl, Nat.le_refl _, fun _ _ => rfl, Nat.le_refl _, hup3⟩
      have hg4 : Gr I G (nu4, I.2.1, I'.2.2) (rt_new C.2.2.2.2.2.2.2.1 (gen_cells [] (upX (upC G0 (c_kill (cK C) (g_c G0))) (g_x G0) (cK C ++ g_k G0)) (cH C))).2 := gr_trans hg0 (gr_trans hgk (gr_trans (gr_nh (I := (nu0, I.2.1, I'.2.2)) c2) (gr_nk (I := (nu3, I.2.1, I'.2.2)) d1)))
      have hAs4 := lm_gr hg4 hAs
      -- what else it tells
      have nk := add_rel_ok (I := (nu4, I.2.1, I'.2.2)) hR4.1 hG2 (fun r hr x y hx hy ix iy => by
        obtain ⟨x', y', hx', hy', ix', iy', hle⟩ := ck_rel_ok erel r hr
        have c0ok : ∀ s, s ∈ c0 → okn (g_n (rt_new C.2.2.2.2.2.2.2.1 (gen_cells [] (upX (upC G0 (c_kill (cK C) (g_c G0))) (g_x G0) (cK C ++ g_k G0)) (cH C))).2) s := fun s hs => okn_up (r3 s hs) (Nat.le_trans c2.2.1 d1.2.2.1)
        have lvok : ∀ i s, s_find i (s_args 0 as) = some s → okS (g_h (rt_new C.2.2.2.2.2.2.2.1 (gen_cells [] (upX (upC G0 (c_kill (cK C) (g_c G0))) (g_x G0) (cK C ++ g_k G0)) (cH C))).2).length (g_n (rt_new C.2.2.2.2.2.2.2.1 (gen_cells [] (upX (upC G0 (c_kill (cK C) (g_c G0))) (g_x G0) (cK C ++ g_k G0)) (cH C))).2) s := fun i s hs => by
          obtain ⟨V, -, v2⟩ := lvm_args 0 hAs4 i s hs
          exact sv_okS v2
        have lvokC : ∀ i s, s_find i (s_args 0 (cA C).1) = some s → okS (g_h G').length (g_n G') s := fun i s hs => by
          obtain ⟨V, -, v2⟩ := lvm_args 0 (lm_gr e1 hAs1) i s hs
          exact sv_okS v2
        have resok : ∀ s, (rt_new C.2.2.2.2.2.2.2.1 (gen_cells [] (upX (upC G0 (c_kill (cK C) (g_c G0))) (g_x G0) (cK C ++ g_k G0)) (cH C))).1 = some s → intL s = true → okn (g_n (rt_new C.2.2.2.2.2.2.2.1 (gen_cells [] (upX (upC G0 (c_kill (cK C) (g_c G0))) (g_x G0) (cK C ++ g_k G0)) (cH C))).2) s ∧ ∃ V, v = some V ∧ sval nu4 s = vnum V := fun s hs hi => by
          rw [hs] at d2
          cases v with
          | none => exact d2.elim
          | some V =>
            obtain ⟨i1, i2⟩ := int_num d2 hi
            exact ⟨i1, V, rfl, i2⟩
        have resC : ∀ s, (match q with | some v => some (y_fwd G' v) | none => none) = some s → intL s = true → okn (g_n G') s ∧ ∃ V, v = some V ∧ sval I'.1 s = vnum V := fun s hs hi => by
          cases q with
          | none => cases hs
          | some s0 =>
            cases hs
            cases v with
            | none => exact e3.elim
            | some V =>
              obtain ⟨i1, i2⟩ := int_num (fwd_ok e2 e3).1 hi
              exact ⟨i1, V, rfl, i2⟩
        have wr : ∃ w : Nat, ∀ V, v = some V → w = vnum V := by
          cases v with
          | none => exact ⟨0, fun V e => by cases e⟩
          | some V => exact ⟨vnum V, fun V' e => by cases e; rfl⟩
        obtain ⟨w, hw⟩ := wr
        have c0C : ∀ s, s ∈ (cB C).1 → okn (g_n G') s := fun s hs => okn_up (b3 s hs) e1.2.1
        have ux := rf_rw (I := (nu4, I.2.1, I'.2.2)) (Ib := (nu4, I.2.1, I'.2.2)) (wr := w) (lv := []) (L := []) (fun hh hm => (by rw [pre4_mem hm]; exact Nat.zero_le _)) hR4 (fun i s hs => by cases hs) lvok c0ok (fun _ _ => rfl) (Nat.le_refl _) rfl (fun s hs hi => by
          obtain ⟨o1, V, o2, o3⟩ := resok s hs hi
          exact ⟨o1, by rw [hw V o2]; exact o3⟩) hx ix
        have uy := rf_rw (I := (nu4, I.2.1, I'.2.2)) (Ib := (nu4, I.2.1, I'.2.2)) (wr := w) (lv := []) (L := []) (fun hh hm => (by rw [pre4_mem hm]; exact Nat.zero_le _)) hR4 (fun i s hs => by cases hs) lvok c0ok (fun _ _ => rfl) (Nat.le_refl _) rfl (fun s hs hi => by
          obtain ⟨o1, V, o2, o3⟩ := resok s hs hi
          exact ⟨o1, by rw [hw V o2]; exact o3⟩) hy iy
        have vx := rf_rw (I := I') (Ib := I') (wr := w) (lv := []) (L := []) (fun hh hm => (by rw [pre4_mem hm]; exact Nat.zero_le _)) e2 (fun i s hs => by cases hs) lvokC c0C (fun _ _ => rfl) (Nat.le_refl _) rfl (fun s hs hi => by
          obtain ⟨o1, V, o2, o3⟩ := resC s hs hi
          exact ⟨o1, by rw [hw V o2]; exact o3⟩) hx' ix'
        have vy := rf_rw (I := I') (Ib := I') (wr := w) (lv := []) (L := []) (fun hh hm => (by rw [pre4_mem hm]; exact Nat.zero_le _)) e2 (fun i s hs => by cases hs) lvokC c0C (fun _ _ => rfl) (Nat.le_refl _) rfl (fun s hs hi => by
          obtain ⟨o1, V, o2, o3⟩ := resC s hs hi
          exact ⟨o1, by rw [hw V o2]; exact o3⟩) hy' iy'
        have X1 : ∀ i s t, s_find i (s_args 0 as) = some s → s_find i (s_args 0 (cA C).1) = some t → intL s = true → intL t = true → sval nu4 s = sval I'.1 t := by
          intro i s t hs ht is it
          obtain ⟨V, v1, v2⟩ := lvm_args 0 hAs4 i s hs
          obtain ⟨U, u1, u2⟩ := lvm_args 0 (lm_gr e1 hAs1) i t ht
          rw [v1] at u1
          cases u1
          rw [(int_num v2 is).2, (int_num u2 it).2]
        have X2 : ∀ hh, hh ∈ cH C → ∀ s t, y_find (rt_new C.2.2.2.2.2.2.2.1 (gen_cells [] (upX (upC G0 (c_kill (cK C) (g_c G0))) (g_x G0) (cK C ++ g_k G0)) (cH C))).2 (h_place hh.1 hh.2.1 (s_args 0 as)).1 (h_place hh.1 hh.2.1 (s_args 0 as)).2.1 (h_place hh.1 hh.2.1 (s_args 0 as)).2.2 = some s → y_find G' (h_place hh.1 hh.2.1 (s_args 0 (cA C).1)).1 (h_place hh.1 hh.2.1 (s_args 0 (cA C).1)).2.1 (h_place hh.1 hh.2.1 (s_args 0 (cA C).1)).2.2 = some t → intL s = true → intL t = true → sval nu4 s = sval I'.1 t := by
          intro hh hm s t hs ht is it
          have h0 : hh.1 = 0 := pre4_mem hm
          rw [h0] at hs ht
          obtain ⟨V, p1, p2⟩ := cell_pl hR4 (by omega) hs (place_I _ _ _)
          obtain ⟨U, q1, q2⟩ := cell_pl e2 (by omega) ht (place_I _ _ _)
          have e9 : V = U := plv_fun (I := I') (m := g_n G') (plv0 p1 rfl) (by rw [place0 hh.2.1 (s_args 0 as) (s_args 0 (cA C).1)]; exact q1)
          rw [(int_num p2 is).2, (int_num q2 it).2, e9]
        have X3 : ∀ (j : Nat) s t, c0[j]? = some s → (cB C).1[j]? = some t → sval nu4 s = sval I'.1 t := by
          intro j s t hs ht
          have hlt : j < C.2.2.2.2.1.length := by
            have := (List.getElem?_eq_some_iff.mp ht).1
            unfold cB at this
            rw [pre_len] at this
            exact this
          have hj : C.2.2.2.2.1[j]? = some C.2.2.2.2.1[j] := List.getElem?_eq_getElem hlt
          obtain ⟨s', X, x1, x2, x3, x4, -⟩ := r4 j _ (pre4_get hj)
          rw [hs] at x1
          cases x1
          obtain ⟨Y, y1, y2⟩ := b4 j _ t hj ht
          have e9 := plv_fun (I := (nu2, fun _ => 0, I.2.2)) (m := 0) (plv0 x3 rfl) (plv0 y1 rfl)
          cases e9
          have o1 := r3 s (List.mem_of_getElem? hs)
          have o2 := b3 t (List.mem_of_getElem? ht)
          have u1 : sval nu4 s = sval nu0 s := sval_ag o1 (fun i hi => (d1.2.1 i (Nat.lt_of_lt_of_le hi c2.2.1)).trans (c2.1 i hi))
          have u2 : sval I'.1 t = sval nu2 t := sval_ag o2 e1.1
          rw [u1, u2, ← x4, ← y2]
        have X4 : ∀ s t, (rt_new C.2.2.2.2.2.2.2.1 (gen_cells [] (upX (upC G0 (c_kill (cK C) (g_c G0))) (g_x G0) (cK C ++ g_k G0)) (cH C))).1 = some s → (match q with | some v => some (y_fwd G' v) | none => none) = some t → intL s = true → intL t = true → sval nu4 s = sval I'.1 t := by
          intro s t hs ht is it
          obtain ⟨-, V, o2, o3⟩ := resok s hs is
          obtain ⟨-, U, p2, p3⟩ := resC t ht it
          rw [o2] at p2
          cases p2
          rw [o3, p3]
        have ex1 := rf_cross (IU := (nu4, I.2.1, I'.2.2)) (IC := I') X1 X2 X3 X4 hx hx' ix ix'
        have ey1 := rf_cross (IU := (nu4, I.2.1, I'.2.2)) (IC := I') X1 X2 X3 X4 hy hy' iy iy'
        have hle' := y_le_ok e2.1 vx.1 vy.1 hle
        exact ⟨ux.1, uy.1, by dsimp only at ex1 ey1 ⊢; omega⟩)
      have hR5 := rm_nk' (I := (nu4, I.2.1, I'.2.2)) hR4 nk
      have hg5 : Gr I G (nu4, I.2.1, I'.2.2) G2 := gr_trans hg4 (gr_nk (I := (nu4, I.2.1, I'.2.2)) nk)
      rw [← Option.some.inj hs] at hE
      refine hE _ List.mem_cons_self (nu4, I.2.1, I'.2.2) v h' hg5 hR5 ?_
      have hgn : Gr (nu4, I.2.1, I'.2.2) (rt_new C.2.2.2.2.2.2.2.1 (gen_cells [] (upX (upC G0 (c_kill (cK C) (g_c G0))) (g_x G0) (cK C ++ g_k G0)) (cH C))).2 (nu4, I.2.1, I'.2.2) G2 := gr_nk (I := (nu4, I.2.1, I'.2.2)) nk
      exact ovm_gr hgn d2
end
