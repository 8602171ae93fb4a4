section
/-! ===== holidays: how many they are, kept by the class ===== -/
theorem code_12 : codeOf 12 = [(0, (1, 1, 0)), (1, (12, 11, 0)), (4, (6, 1, 10)), (7, (0, 0, -2)), (9, (13, 1, 0)), (10, (1, 0, 2)), (11, (8, 1, 0)), (14, (1, 1, 0)), (15, (10, 2, 0)), (16, (1, 2, 0)), (17, (5, 1, 22)), (20, (0, 0, 0)), (21, (13, 1, 0)), (22, (1, 0, 2)), (23, (8, 1, 0)), (26, (1, 1, 0)), (27, (1, 2, 0)), (28, (11, 2, 0)), (29, (1, 0, 2)), (30, (18, 0, 0)), (31, (8, 12, 0)), (34, (1, 2, 0)), (35, (6, 0, 42)), (38, (0, 0, 1)), (39, (7, 0, 43)), (42, (0, 0, -1)), (43, (4, 0, 0)), (44, (9, 12, 0)), (47, (0, 0, 1)), (48, (13, 1, 0))] := by decide +kernel
theorem head_12 : codeOf 12 = [(0, (1, 1, 0)), (1, (12, 11, 0)), (4, (6, 1, 10)), (7, (0, 0, -2)), (9, (13, 1, 0))] ++ jump 12 10 := by rw [jump_jmp, code_12]; rfl
theorem j12_10 : jump 12 10 = [(10, (1, 0, 2)), (11, (8, 1, 0)), (14, (1, 1, 0)), (15, (10, 2, 0)), (16, (1, 2, 0)), (17, (5, 1, 22)), (20, (0, 0, 0)), (21, (13, 1, 0))] ++ jump 12 22 := by rw [jump_jmp, jump_jmp, code_12]; rfl
theorem j12_22 : jump 12 22 = [(22, (1, 0, 2)), (23, (8, 1, 0)), (26, (1, 1, 0)), (27, (1, 2, 0)), (28, (11, 2, 0)), (29, (1, 0, 2)), (30, (18, 0, 0)), (31, (8, 12, 0)), (34, (1, 2, 0)), (35, (6, 0, 42)), (38, (0, 0, 1)), (39, (7, 0, 43))] ++ jump 12 42 := by rw [jump_jmp, jump_jmp, code_12]; rfl
theorem j12_42 : jump 12 42 = [(42, (0, 0, -1))] ++ jump 12 43 := by rw [jump_jmp, jump_jmp, code_12]; rfl
theorem j12_43 : jump 12 43 = [(43, (4, 0, 0)), (44, (9, 12, 0)), (47, (0, 0, 1)), (48, (13, 1, 0))] := by rw [jump_jmp, code_12]; rfl
theorem code_162 : codeOf 162 = [(0, (1, 1, 0)), (1, (12, 126, 0)), (4, (6, 1, 10)), (7, (0, 0, -2)), (9, (13, 1, 0)), (10, (1, 0, 2)), (11, (8, 84, 0)), (14, (1, 1, 0)), (15, (10, 2, 0)), (16, (1, 2, 0)), (17, (5, 1, 24)), (20, (0, 0, 1)), (21, (7, 0, 25)), (24, (0, 0, 0)), (25, (2, 3, 0)), (26, (1, 0, 2)), (27, (8, 84, 0)), (30, (1, 1, 0)), (31, (1, 2, 0)), (32, (11, 2, 0)), (33, (1, 3, 0)), (34, (6, 0, 41)), (37, (0, 0, 0)), (38, (7, 0, 42)), (41, (0, 0, 1)), (42, (13, 1, 0))] := by decide +kernel
theorem head_162 : codeOf 162 = [(0, (1, 1, 0)), (1, (12, 126, 0)), (4, (6, 1, 10)), (7, (0, 0, -2)), (9, (13, 1, 0))] ++ jump 162 10 := by rw [jump_jmp, code_162]; rfl
theorem j162_10 : jump 162 10 = [(10, (1, 0, 2)), (11, (8, 84, 0)), (14, (1, 1, 0)), (15, (10, 2, 0)), (16, (1, 2, 0)), (17, (5, 1, 24)), (20, (0, 0, 1)), (21, (7, 0, 25))] ++ jump 162 24 := by rw [jump_jmp, jump_jmp, code_162]; rfl
theorem j162_24 : jump 162 24 = [(24, (0, 0, 0))] ++ jump 162 25 := by rw [jump_jmp, jump_jmp, code_162]; rfl
theorem j162_25 : jump 162 25 = [(25, (2, 3, 0)), (26, (1, 0, 2)), (27, (8, 84, 0)), (30, (1, 1, 0)), (31, (1, 2, 0)), (32, (11, 2, 0)), (33, (1, 3, 0)), (34, (6, 0, 41)), (37, (0, 0, 0)), (38, (7, 0, 42))] ++ jump 162 41 := by rw [jump_jmp, jump_jmp, code_162]; rfl
theorem j162_41 : jump 162 41 = [(41, (0, 0, 1))] ++ jump 162 42 := by rw [jump_jmp, jump_jmp, code_162]; rfl
theorem j162_42 : jump 162 42 = [(42, (13, 1, 0))] := by rw [jump_jmp, code_162]; rfl
theorem hol_f : (((fks 12).contains 10 = true ∧ fpos 12 = 4) ∧ dcode (fr 12).2.2.1 = 0) ∧ (xrK = [10 * 128 + 4, 36 * 128] ∧ 1 ≤ cdm 36) := by decide +kernel
noncomputable def cHo (b : Nat → Bool) (n : Nat) : Nat := match n with
  | 0 => 0
  | n + 1 => cHo b n + (bif b n then 1 else 0)
noncomputable def XR (ad : AD) (h : AH) : Prop := ∃ b : Nat → Bool, (∀ p, p < 400 → At ad h 36 0 p (.int (hpI (b p)))) ∧ At ad h 10 0 4 (.int (nI (cHo b 400)))
section
variable {σ : Nat → Nat} {ad ad1 : AD} {h h1 : AH} {np ox m : Nat} {ex ho : Nat → Nat → Prop} {x : Int32} {bb : Bool} {B : BS} {I : IN} {K : List Nat} {u q : Nat}
theorem cHo_le {b : Nat → Bool} : ∀ n, cHo b n ≤ n := by
  intro n
  induction n with
  | zero => exact Nat.le_refl _
  | succ n ih =>
    rw [cHo]
    cases b n
    · rw [cond_false]; omega
    · rw [cond_true]; omega
theorem cHo_set {b : Nat → Bool} {d : Nat} {v : Bool} : ∀ n, cHo (fun p => if p = d then v else b p) n + (if d < n then (bif b d then 1 else 0) else 0) = cHo b n + (if d < n then (bif v then 1 else 0) else 0) := by
  intro n
  induction n with
  | zero => rw [if_neg (Nat.not_lt_zero _), if_neg (Nat.not_lt_zero _)]; rfl
  | succ n ih =>
    rw [cHo, cHo]
    show cHo _ n + (bif (if n = d then v else b n) then 1 else 0) + _ = cHo b n + (bif b n then 1 else 0) + _
    by_cases e : n = d
    · subst e
      rw [if_neg (Nat.lt_irrefl n), if_neg (Nat.lt_irrefl n)] at ih
      rw [if_pos (show n = n from rfl), if_pos (Nat.lt_succ_self n), if_pos (Nat.lt_succ_self n)]
      omega
    · rw [if_neg e]
      by_cases f : d < n
      · rw [if_pos f, if_pos f] at ih
        rw [if_pos (show d < n + 1 by omega), if_pos (show d < n + 1 by omega)]
        omega
      · rw [if_neg f, if_neg f] at ih
        rw [if_neg (show ¬ d < n + 1 by omega), if_neg (show ¬ d < n + 1 by omega)]
        omega
theorem hp_st {k : AH} : am_st 2 22 (.int (hpI bb)) k = true := by
  cases bb
  · rfl
  · rfl
theorem hp_inj {a b : Bool} (e : hpI a = hpI b) : a = b := by
  cases a
  · cases b
    · rfl
    · exact absurd e (by decide)
  · cases b
    · exact absurd e (by decide)
    · rfl
theorem nI_pre {k : Nat} (hk : k + 1 < 2147483648) : nI (k + 1) + Int32.ofInt (-1) = nI k := by
  have h1 := nI_suc (p := k) (by omega)
  rw [← h1, Int32.add_assoc, show Int32.ofInt 1 + Int32.ofInt (-1) = 0 by decide +kernel, Int32.add_zero]
theorem X_holiday (hT : TS ad h np ex ho) (hox : ad 10 0 = some ox) (hc : XR ad h) : Rt σ 12 (codeOf 12) (am_args 0 [.ref ox, .int x, .int (hpI bb)]) [] h (IntP (XR ad)) := by
  obtain ⟨⟨-, f1, f1'⟩, -⟩ := wd_f
  obtain ⟨⟨⟨a36, k36⟩, -⟩, ⟨t5, -⟩, -⟩ := wd_c
  obtain ⟨⟨⟨⟨c10, c10'⟩, -⟩, -⟩, -⟩ := pm_c
  obtain ⟨⟨⟨f12, f12'⟩, f12''⟩, -⟩ := hol_f
  rw [head_12]
  refine rl_load rfl rfl (isDay_x (by show 0 ≤ 8; omega) ?_)
  rcases txW_nat (v := x) (k := 399) (by omega) with ⟨d, g1, g2, g3⟩ | ⟨g1, -⟩
  · refine rl_ifT (by rw [g3]; rfl) ?_
    show Rt σ 12 (jump 12 10) _ _ _ _
    rw [j12_10]
    subst g2
    have hc0 := hc
    obtain ⟨b, hb, hn⟩ := hc
    obtain ⟨qr, t1, t2⟩ := fld_sgl hT (by omega) c10 t5 hox
    obtain ⟨l, r1, r2⟩ := row_of hT.1 a36 t2 k36 (by omega)
    obtain ⟨vx, x1, x2⟩ := at_kind hT.1 (by omega) (by omega) hn hox
    rw [c10'] at x1
    have lx : 4 < vx.length := (List.getElem?_eq_some_iff.mp x2).1
    have ll : d < (l.map Value.int).length := by rw [List.length_map, r2]; omega
    have nex : ox ≠ qr := ref_ne hT.2.1 hox t2 (by omega) fun e => absurd e.1 (by omega)
    have hi := nI_nn (show d < 2147483648 by omega)
    refine rl_load rfl rfl (ra_get hT.1 (by omega) (by omega) hox (by rw [f1']; exact t1) (by rw [c10']; exact f1) (rl_load rfl rfl (ra_ald (p := d) hT.1 (by omega) (by omega) t2 (hb d (by omega)) (by rw [k36]; rfl) (by omega) (rl_load rfl rfl ?_))))
    by_cases e : hpI (b d) = hpI bb
    · exact rl_icmpF (by show some (decide (¬ hpI (b d) = hpI bb)) = some false; rw [decide_eq_false (fun h => h e)]) (rl_const (rl_ret1 ⟨⟨_, rfl⟩, hc0⟩))
    refine rl_icmpT (by show some (decide (¬ hpI (b d) = hpI bb)) = some true; rw [decide_eq_true e]) ?_
    show Rt σ 12 (jump 12 22) _ _ _ _
    rw [j12_22]
    have e1 : (am_set h qr (22, (l.map Value.int).set d (.int (hpI bb)))).1 ox = some (10, vx) := by rw [am_set_ne nex]; exact x1
    have fin : ∀ (n' : Nat) (L : LV), n' = cHo (fun p => if p = d then bb else b p) 400 → Rt σ 12 [(44, (9, 12, 0)), (47, (0, 0, 1)), (48, (13, 1, 0))] L [.int (nI n'), .ref ox] (am_set h qr (22, (l.map Value.int).set d (.int (hpI bb)))) (IntP (XR ad)) := fun n' L en => by
      refine rl_put e1 f12 (by rw [f12']; exact lx) (by rw [f12'']; rfl) (rl_const (rl_ret1 ⟨⟨_, rfl⟩, fun p => if p = d then bb else b p, fun p hp => ?_, ?_⟩))
      · refine (at_set_ne hT.2.1 hox (by omega) e1 (fun e => absurd e.1 (by omega))).mpr ?_
        dsimp only
        by_cases ep : p = d
        · rw [ep, if_pos rfl]
          exact at_set_eq t2 ll
        · rw [if_neg ep]
          exact (at_set_ne hT.2.1 t2 (by omega) r1 (fun e => ep e.2.2)).mpr (hb p hp)
      · rw [f12', ← en]
        exact at_set_eq hox lx
    refine rl_load rfl rfl (ra_get hT.1 (by omega) (by omega) hox (by rw [f1']; exact t1) (by rw [c10']; exact f1) (rl_load rfl rfl (rl_load rfl rfl (rl_ast r1 hp_st hi.1 (by rw [hi.2]; exact ll) ?_))))
    rw [hi.2]
    refine rl_load rfl rfl (rl_dup rfl (rl_get e1 f12 (by rw [f12']; exact x2) (rl_load rfl rfl ?_)))
    have cs := cHo_set (b := b) (d := d) (v := bb) 400
    rw [if_pos (by omega), if_pos (by omega)] at cs
    have cl := cHo_le (b := b) 400
    cases bb
    · have bt : b d = true := by
        cases hb' : b d
        · rw [hb'] at e; exact absurd rfl e
        · rfl
      rw [bt, cond_true, cond_false] at cs
      refine rl_ifT rfl ?_
      show Rt σ 12 (jump 12 42) _ _ _ _
      rw [j12_42, j12_43]
      have ec : cHo b 400 = cHo (fun p => if p = d then false else b p) 400 + 1 := by omega
      rw [ec]
      exact rl_const (rl_bin (z := nI (cHo (fun p => if p = d then false else b p) 400)) (by show some _ = some _; rw [nI_pre (by omega)]) (fin _ _ rfl))
    · have bt : b d = false := by
        cases hb' : b d
        · rfl
        · rw [hb'] at e; exact absurd rfl e
      rw [bt, cond_true, cond_false] at cs
      refine rl_ifF rfl (rl_const (rl_goto ?_))
      show Rt σ 12 (jump 12 43) _ _ _ _
      rw [j12_43]
      exact rl_bin (z := nI (cHo (fun p => if p = d then true else b p) 400)) (by show some _ = some _; rw [nI_suc (by omega), show cHo b 400 + 1 = cHo (fun p => if p = d then true else b p) 400 by omega]) (fin _ _ rfl)
  · exact rl_ifF (by rw [g1]; rfl) (rl_const (rl_ret1 ⟨⟨_, rfl⟩, hc⟩))
theorem M_holiday (hT : TS ad1 h1 np ex ho) (hup : ∀ c i q, c < 1000 → ad c i = some q → ad1 c i = some q) (hm : ad 11 0 = some m) (hc : XR ad h1) : Rt σ 162 (codeOf 162) (am_args 0 [.ref m, .int x, .int (hpI bb)]) [] h1 (IntP (XR ad)) := by
  obtain ⟨-, ⟨f84, f84'⟩, -⟩ := wd_f
  obtain ⟨⟨-, a47, k47⟩, ⟨-, t1⟩, -⟩ := wd_c
  have hm1 := hup 11 0 m (by omega) hm
  rw [head_162]
  refine rl_load rfl rfl (isDay_m (by show 0 ≤ 8; omega) ?_)
  rcases txW_nat (v := x) (k := 399) (by omega) with ⟨d, g1, g2, g3⟩ | ⟨g1, -⟩
  · refine rl_ifT (by rw [g3]; rfl) ?_
    show Rt σ 162 (jump 162 10) _ _ _ _
    rw [j162_10]
    subst g2
    refine rl_load rfl rfl (ra_row hT hm1 (by rw [f84']; exact t1) f84 fun q47 hq47 => ?_)
    obtain ⟨l, r1, r2⟩ := row_of hT.1 a47 hq47 k47 (by omega)
    obtain ⟨z0, hz0⟩ := rowI_at (p := d) hT.1 a47 hq47 k47 (by omega) (by omega)
    have hi := nI_nn (show d < 2147483648 by omega)
    have ll : d < (l.map Value.int).length := by rw [List.length_map, r2]; omega
    have ps : ∀ {c p : Nat} {v : Value} {y : AO}, c < 47 → At ad h1 c 0 p v → At ad (am_set h1 q47 y) c 0 p v := fun {c p v y} hc ha => at_ps ha fun e => ref_ne hT.2.1 hq47 (hup c 0 q47 (by omega) e) (by omega) (fun e => absurd e.1 (by omega)) rfl
    have fin : ∀ (z : Int32), Rt σ 162 (jump 162 25) (am_args 0 [.ref m, .int (nI d), .int (hpI bb)]) [.int z] h1 (IntP (XR ad)) := fun z => by
      rw [j162_25]
      refine rl_store rfl (rl_load rfl rfl (ra_row hT hm1 (by rw [f84']; exact t1) f84 fun q47' hq47' => ?_))
      have eq : q47' = q47 := Option.some.inj (hq47'.symm.trans hq47)
      subst eq
      obtain ⟨b, hb, hn⟩ := hc
      have hX : ∀ y : AO, XR ad (am_set h1 q47' y) := fun y => ⟨b, fun p hp => ps (by omega) (hb p hp), ps (by omega) hn⟩
      refine rl_load rfl rfl (rl_load rfl rfl (rl_ast r1 hp_st hi.1 (by rw [hi.2]; exact ll) (rl_load rfl rfl ?_)))
      by_cases e : z = 0
      · refine rl_ifT (by show some (decide (z = 0)) = some true; rw [decide_eq_true e]) ?_
        show Rt σ 162 (jump 162 41) _ _ _ _
        rw [j162_41, j162_42]
        exact rl_const (rl_ret1 ⟨⟨_, rfl⟩, hX _⟩)
      · refine rl_ifF (by show some (decide (z = 0)) = some false; rw [decide_eq_false e]) (rl_const (rl_goto ?_))
        show Rt σ 162 (jump 162 42) _ _ _ _
        rw [j162_42]
        exact rl_ret1 ⟨⟨_, rfl⟩, hX _⟩
    refine rl_load rfl rfl (ra_ald (p := d) hT.1 (by omega) (by omega) hq47 hz0 (by rw [k47]; rfl) (by omega) (rl_load rfl rfl ?_))
    by_cases e : z0 = hpI bb
    · refine rl_icmpF (by show some (decide (¬ z0 = hpI bb)) = some false; rw [decide_eq_false (fun h => h e)]) (rl_const (rl_goto ?_))
      exact fin _
    · refine rl_icmpT (by show some (decide (¬ z0 = hpI bb)) = some true; rw [decide_eq_true e]) ?_
      show Rt σ 162 (jump 162 24) _ _ _ _
      rw [j162_24]
      exact rl_const (fin _)
  · exact rl_ifF (by rw [g1]; rfl) (rl_const (rl_ret1 ⟨⟨_, rfl⟩, hc⟩))
theorem xr_sc (hx : XR B.1.1 B.1.2) (hk : k_dis xrK K = true) (hS : Sc B.1 I K u q h) : XR I.2.2 h := by
  obtain ⟨-, ek, c36⟩ := hol_f
  obtain ⟨⟨⟨⟨c10, c10'⟩, -⟩, -⟩, -⟩ := pm_c
  have hd := kdis_ok hk
  rw [ek] at hd
  obtain ⟨b, hb, hn⟩ := hx
  exact ⟨b, fun p hp => at_sc (hb p hp) (by omega) (by rw [kcode_r c36]; exact hd _ (by simp)) hS, at_sc hn (by omega) (by rw [kcode_o c10]; exact hd _ (by simp)) hS⟩
theorem xr_up {ad' : AD} (hup : ∀ c i q, c < 1000 → ad c i = some q → ad' c i = some q) (hx : XR ad h) : XR ad' h := by
  obtain ⟨b, hb, hn⟩ := hx
  exact ⟨b, fun p hp => at_up hup (by omega) (hb p hp), at_up hup (by omega) hn⟩
end
end
