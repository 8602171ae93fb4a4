section
/-! ===== the planner: the class's shares of tasks, THE PLAN kept ===== -/
theorem pw_le : ∀ a, a < 4 → ∀ k, k < 7 → a ^ k ≤ 729 := by decide +kernel
/-- the number before, for loops that go down -/
noncomputable def dnI : Nat → Int32
  | 0 => Int32.ofInt (-1)
  | t + 1 => nI t
noncomputable def pWs (f : Nat → Nat) : Nat → Nat
  | 0 => 0
  | a + 1 => pWs f a + f a
section
variable {σ : Nat → Nat} {ad : AD} {h h1 h' : AH} {np n T ox m t i j qp ql x y S p q q' : Nat} {ex ho : Nat → Nat → Prop} {Q : Option Value → AH → Prop} {tl : List (Nat × AI)} {L : LV} {St : List Value} {M pc b : Nat} {c : Int} {hw : Nat → Nat} {on : Nat → Nat → Nat} {rc nl w : Nat} {sm f : Nat → Nat} {d : Nat → TPD} {tk : Nat → TKD} {sz : Nat → Int32}
theorem dn_start : nI t - Int32.ofInt 1 = dnI t := by
  cases t with
  | zero => decide +kernel
  | succ t =>
    show nI (t + 1) - nI 1 = nI t
    rw [pk_sub (by omega), Nat.add_sub_cancel]
theorem dn_down (ht : t < 1000) : nI t + Int32.ofInt (-1) = dnI t := by
  cases t with
  | zero => decide +kernel
  | succ t => exact pk_m1 t
theorem dn_neg : icond 2 (dnI 0) 0 = some true := by
  show some (decide (Int32.ofInt (-1) < 0)) = some true
  decide +kernel
theorem dn_pos (ht : t < 1000) : icond 2 (dnI (t + 1)) 0 = some false := by
  show some (decide (nI t < nI 0)) = some false
  rw [decide_eq_false (by rw [tx_lt (by omega) (by omega)]; omega)]
theorem sw_lt {a : Nat} : ∀ t w, swS nl a t w < 2 ^ t := by
  intro t
  induction t with
  | zero => intro w; show 0 < 1; omega
  | succ t ih =>
    intro w
    have := ih (w / nl)
    rw [swS, Nat.pow_succ]
    split <;> omega
theorem sm_0 (h6 : hw 6 = 0) : smS n hw on rc 0 = 0 := by
  unfold smS
  rw [LL_0, h6, if_neg (by omega)]
theorem pws_3 (h0 : 0 < nl) (h3 : nl ≤ 3) (hz : ∀ a, nl ≤ a → f a = 0) : pWs f nl = f 0 + f 1 + f 2 := by
  rcases (show nl = 1 ∨ (nl = 2 ∨ nl = 3) by omega) with rfl | rfl | rfl
  · have h1 := hz 1 (by omega)
    have h2 := hz 2 (by omega)
    show 0 + f 0 = _
    omega
  · have h2 := hz 2 (by omega)
    show 0 + f 0 + f 1 = _
    omega
  · show 0 + f 0 + f 1 + f 2 = _
    omega
theorem bw_uni {c W m m' : Nat} {x x' : Nat × Nat × Nat} (hb : BsW sm nl c W m x) (hb' : BsW sm nl c W m' x') : m = m' ∧ (m < 1000000 → x = x') := by
  rcases hb with ⟨a1, a2⟩ | ⟨w, ⟨b1, b2, b3⟩, b4, b5⟩
  · rcases hb' with ⟨c1, c2⟩ | ⟨w', ⟨d1, d2, d3⟩, d4, d5⟩
    · exact ⟨by omega, fun h => by omega⟩
    · have := a2 w' d1
      omega
  · rcases hb' with ⟨c1, c2⟩ | ⟨w', ⟨d1, d2, d3⟩, d4, d5⟩
    · have := c2 w b1
      omega
    · have e1 := b5 w' d1 (by omega)
      have e2 := d5 w b1 (by omega)
      have ew : w = w' := by omega
      subst ew
      exact ⟨by omega, fun _ => b4.trans d4.symm⟩
/-- an int row has other contents -/
theorem ts_row {c lo hi : Nat} {vs vs' : List Value} (hT : TS ad h np ex ho) (hP : PlR c n lo hi) (hq : ad c 0 = some q) (hh : h.1 q = some (20, vs)) (hlen : vs'.length = vs.length) (hv : ∀ (p : Nat) (v : Value), vs'[p]? = some v → ∃ x, v = .int x ∧ (lo ≤ i2n x ∧ i2n x ≤ hi)) : TS ad (am_set h q (20, vs')) np ex ho := by
  obtain ⟨⟨⟨p1, p2⟩, p3, p4, p5⟩, p6⟩ := hP
  obtain ⟨t1, t2, t3, t4, t5, t6⟩ := hT
  have hqt : ∀ {c' i' : Nat}, ad c' i' = some q → c' = c ∧ i' = 0 := fun h' => own_at t2 hq (Or.inl (by omega)) h'
  have ne_at : ∀ {c' i' p' : Nat} {W : Value}, ¬ c' = c → (At ad (am_set h q (20, vs')) c' i' p' W ↔ At ad h c' i' p' W) := by
    intro c' i' p' W hne
    constructor
    · rintro ⟨q', k', ws, a1, a2, a3⟩
      rw [am_ne (fun e => hne (hqt (by rw [← e]; exact a1)).1)] at a2
      exact ⟨q', k', ws, a1, a2, a3⟩
    · rintro ⟨q', k', ws, a1, a2, a3⟩
      exact ⟨q', k', ws, a1, (am_ne (fun e => hne (hqt (by rw [← e]; exact a1)).1)).trans a2, a3⟩
  refine ⟨?_, t2, t3, ⟨t4.1, t4.2.1, ?_⟩, ?_, ?_⟩
  · intro c' i' q' hc' h'
    obtain ⟨u1, k', ws, u2, u3, u4, u5⟩ := t1 c' i' q' hc' h'
    refine ⟨u1, ?_⟩
    by_cases e : q' = q
    · subst e
      obtain ⟨e1, e2⟩ := hqt h'
      subst e1
      subst e2
      rw [hh] at u2
      cases u2
      refine ⟨20, vs', am_at _ _ _, u3, by rw [hlen]; exact u4, fun p v hp => ?_⟩
      obtain ⟨x, rfl, hx⟩ := hv p v hp
      exact ⟨_, by rw [ct_any p4]; exact p3, Or.inl ⟨rfl, x, rfl, hx⟩⟩
    · exact ⟨k', ws, (am_ne e).trans u2, u3, u4, u5⟩
  · intro c' p' ty' hc' ht' h5' i' hA
    by_cases e : c' = c
    · subst e
      rw [ct_any p4, p3] at ht'
      cases ht'
      cases h5'
    · exact t4.2.2 c' p' ty' hc' ht' h5' i' ((ne_at e).mp hA)
  · intro l el ident mx hl ql hql
    obtain ⟨mc, ed, sz, N, g1, g2, g3⟩ := t5 l el ident mx hl ql hql
    have hne : ¬ ql = q := by
      intro e
      subst e
      rw [hh] at g1
      cases g1
    refine ⟨mc, ed, sz, N, (am_ne hne).trans g1, g2, ?_⟩
    rcases g3 with g3 | ⟨bq, us, f1, f2, f3, f4⟩
    · exact Or.inl g3
    · refine Or.inr ⟨bq, us, f1, f2, (am_ne fun e => ?_).trans f3, f4⟩
      rw [e] at f1
      have := (hqt f1).1
      unfold bkc at this
      omega
  · intro t kk ht hex
    refine cpat_cong (fun m m1 W => ?_) (t6 t kk ht hex)
    refine ne_at fun e => ?_
    have := plg_cp m1
    rw [← mplace_1 m kk, e, p6] at this
    cases this
theorem st_acp {a : Nat} {c : Int} : step1 σ (29, a, c) L St h = s_acp L St h := rfl
/-- the trial becomes the sets -/
theorem rl_acp3 {a : Nat} (hT : TS ad h np ex ho) (hq : ad 33 0 = some q) (hq' : ad 34 0 = some q') (h4 : am_w St ≤ 8) (hk : ∀ h2, TS ad h2 np ex ho → Frm ad h h2 → (∀ a x, a < 3 → At ad h 34 0 a (.int x) → At ad h2 33 0 a (.int x)) → (∀ c' i' p' W, c' ≠ 33 → At ad h c' i' p' W → At ad h2 c' i' p' W) → Rt σ M tl L St h2 Q) : Rt σ M ((pc, (29, a, c)) :: tl) L (.int (Int32.ofInt 3) :: .int (Int32.ofInt 0) :: .ref q :: .int (Int32.ofInt 0) :: .ref q' :: St) h Q := by
  obtain ⟨⟨⟨p1, p2⟩, p3, p4, p5⟩, p6⟩ := pr_33
  obtain ⟨⟨⟨o1, o2⟩, o3, o4, o5⟩, o6⟩ := pr_34
  obtain ⟨l, r1, r2⟩ := row_of hT.1 p1 hq p2 (by omega)
  obtain ⟨l', s1, s2⟩ := row_of hT.1 o1 hq' o2 (by omega)
  have e0 : (Int32.ofInt 0).toNatClampNeg = 0 := by decide +kernel
  have e3 : (Int32.ofInt 3).toNatClampNeg = 3 := by decide +kernel
  have n0 : ¬ Int32.ofInt 0 < 0 := by decide +kernel
  have n3 : ¬ Int32.ofInt 3 < 0 := by decide +kernel
  have lm : (l.map Value.int).length = 3 := by rw [List.length_map, r2]
  have lm' : (l'.map Value.int).length = 3 := by rw [List.length_map, s2]
  have ec : am_cpy (l'.map Value.int) (l.map Value.int) 0 0 3 = l'.map Value.int := by
    unfold am_cpy
    rw [List.take_zero, List.nil_append, List.drop_zero, List.take_of_length_le (by omega), Nat.zero_add, List.drop_of_length_le (by omega), List.append_nil]
  have all : (l'.map Value.int).all (am_ty 0) = true := List.all_eq_true.mpr fun v hv => by
    obtain ⟨x, -, rfl⟩ := List.mem_map.mp hv
    rfl
  have ne : q' ≠ q := ref_ne hT.2.1 hq' hq (by omega) fun e => absurd e.1 (by omega)
  have tv : ∀ (p : Nat) (v : Value), (l'.map Value.int)[p]? = some v → ∃ x, v = .int x ∧ (2147483648 ≤ i2n x ∧ i2n x ≤ 2147483711) := fun p v hv => by
    obtain ⟨-, k', ws, u2, u3, u4, u5⟩ := hT.1 34 0 q' o5 hq'
    rw [s1] at u2
    cases u2
    obtain ⟨ty, v1, v2⟩ := u5 p v hv
    rw [ct_any o4, o3] at v1
    cases v1
    rcases v2 with ⟨-, x, e, hx⟩ | ⟨e, -⟩ | ⟨e, -⟩ | ⟨e, -⟩ | ⟨e, -⟩ | ⟨e, -⟩ | ⟨e, -⟩ | ⟨e, -⟩ | e
    · exact ⟨x, e, hx⟩
    all_goals cases e
  have hA : ∀ c' i' p' W, c' ≠ 33 → At ad h c' i' p' W → At ad (am_set h q (20, l'.map Value.int)) c' i' p' W := fun c' i' p' W hc ha => at_ps ha fun e => (ref_ne hT.2.1 hq e (by omega) (fun e => hc e.1.symm)) rfl
  refine rt_nx (h' := am_set h q (20, l'.map Value.int)) ?_ (hk _ (ts_row hT pr_33 hq r1 (lm'.trans lm.symm) tv) ⟨fun c' i' p' W hx ha => hA c' i' p' W (fun e => hx (Or.inl (by omega))) ha, fun a' k' vs' k1 k2 k3 e => ?_, rfl⟩ (fun a x ha hx => ?_) hA)
  · rw [st_acp]
    unfold s_acp am_get
    dsimp only
    rw [s1, r1]
    dsimp only
    rw [e0, e3, if_pos ⟨rfl, rfl, all, ⟨n0, n0, n3⟩, by omega, by omega, h4⟩, ec]
    rfl
  · refine (am_ne fun ea => ?_).trans e
    rw [ea, r1] at e
    have := congrArg (fun o : AO => o.1) (Option.some.inj e)
    dsimp only at this
    omega
  · obtain ⟨q2, k2, ws, a1, a2, a3⟩ := hx
    rw [hq'] at a1
    cases a1
    rw [s1] at a2
    cases a2
    exact ⟨q, 20, _, hq, am_at _ _ _, a3⟩
theorem X_fill (hT : TS ad h np ex ho) (hq : ad 34 0 = some q) (hk : ∀ h2, TS ad h2 np ex ho → Frm ad h h2 → (∀ a, a < 3 → At ad h2 34 0 a (.int (nI 0))) → (∀ c' i' p' W, c' ≠ 34 → At ad h c' i' p' W → At ad h2 c' i' p' W) → Q none h2) : Rt σ 286 (codeOf 286) (am_args 0 [.ref q, .int (Int32.ofInt 0)]) [] h Q := by
  obtain ⟨⟨⟨o1, o2⟩, o3, o4, o5⟩, o6⟩ := pr_34
  obtain ⟨l, r1, r2⟩ := row_of hT.1 o1 hq o2 (by omega)
  have lm : (l.map Value.int).length = 3 := by rw [List.length_map, r2]
  have loop : ∀ (r i : Nat) (h' : AH) (L : LV), i + r = 3 → TS ad h' np ex ho → Frm ad h h' → (∀ a, a < i → At ad h' 34 0 a (.int (nI 0))) → (∀ c' i' p' W, c' ≠ 34 → At ad h c' i' p' W → At ad h' c' i' p' W) → lv_get 0 L = some (.ref q) → lv_get 1 L = some (.int (nI 0)) → lv_get 2 L = some (.int (nI i)) → lv_get 3 L = some (.int (nI 3)) → Rt σ 286 (jump 286 5) L [] h' Q := by
    intro r
    induction r with
    | zero =>
      intro i h' L hi hT' hF hA hO l0 l1 l2 l3
      have ei : i = 3 := by omega
      subst ei
      rw [j286_5]
      refine rl_load l2 rfl (rl_load l3 rfl (rl_icmpT ?_ ?_))
      · show some (decide (nI 3 ≤ nI 3)) = some true
        rw [decide_eq_true ((tx_le (by omega) (by omega)).mpr (Nat.le_refl _))]
      · show Rt σ 286 (jump 286 20) _ _ _ _
        rw [j286_20]
        exact rl_ret0 (hk h' hT' hF hA hO)
    | succ r ih =>
      intro i h' L hi hT' hF hA hO l0 l1 l2 l3
      rw [j286_5]
      refine rl_load l2 rfl (rl_load l3 rfl (rl_icmpF ?_ (rl_load l0 rfl (rl_load l2 rfl (rl_load l1 rfl (rl_prow hT' pr_34 hq (by omega) (by omega) (by rw [nI_ok (by omega)]; omega) fun h2 hT2 hO2 => rl_iinc l2 (rl_goto ?_)))))))
      · show some (decide (nI 3 ≤ nI i)) = some false
        rw [decide_eq_false (by rw [tx_le (by omega) (by omega)]; omega)]
      rw [nI_suc (by omega)]
      refine ih (i + 1) h2 _ (by omega) hT2 (frm_trans hF (frm_one hO2 (Or.inl (by omega)))) (fun a ha => ?_) (fun c' i' p' W hc ha => hO2.1.2 c' i' p' W (fun e => hc e.1) (hO c' i' p' W hc ha)) (get_put rfl rfl (by omega) l0) (get_put rfl rfl (by omega) l1) rfl (get_put rfl rfl (by omega) l3)
      by_cases e : a = i
      · rw [e]
        exact hO2.1.1
      · exact hO2.1.2 _ _ _ _ (fun f => e f.2.2) (hA a (by omega))
  rw [head_286]
  refine rl_const (rl_store rfl (rl_load rfl rfl (rl_len r1 (by omega) (by omega) (rl_store rfl ?_))))
  rw [lm]
  exact loop 3 0 h _ (by omega) hT frm_refl (fun a ha => absurd ha (Nat.not_lt_zero _)) (fun _ _ _ _ _ ha => ha) rfl rfl rfl rfl
theorem X_mway (hT : TS ad h np ex ho) (hqp : ad 8 0 = some qp) (hl : LsP ad h n) (hn : n ≤ 6) (hB : LgB n hw on) (h6 : hw 6 = 0) (hM : MsS ad h n hw on rc (2 ^ n)) (hn0 : 0 < nl) (hn3 : nl ≤ 3) (hwl : w < 1000) (hk : ∀ h2, TS ad h2 np ex ho → Frm ad h h2 → (∀ c' i' p' W, c' ≠ 34 → At ad h c' i' p' W → At ad h2 c' i' p' W) → (∀ a, a < 3 → At ad h2 34 0 a (.int (nI (swS nl a n w)))) → Q (some (.int (nI (wyM (smS n hw on rc) nl n w)))) h2) : Rt σ 135 (codeOf 135) (am_args 0 [.ref qp, .int (nI w), .int (nI nl)]) [] h Q := by
  obtain ⟨⟨-, ⟨-, f63, f63'⟩, -, f65, f65'⟩, -⟩ := pc_f
  obtain ⟨⟨-, t7, t8, t9⟩, -⟩ := pl_t
  obtain ⟨-, ⟨-, s100⟩, -⟩ := pc_sa
  obtain ⟨-, ⟨-, m286⟩, -⟩ := pc_ml.1
  have b64 := bq_lt n (by omega)
  have nlz : ¬ nI nl = 0 := fun e => by
    have := nI_eqn (a := nl) (b := 0) (by omega) (by omega) e
    omega
  -- the sums
  have sums : ∀ (h3 : AH), TS ad h3 np ex ho → Frm ad h h3 → (∀ c' i' p' W, c' ≠ 34 → At ad h c' i' p' W → At ad h3 c' i' p' W) → (∀ a, a < 3 → At ad h3 34 0 a (.int (nI (swS nl a n w)))) → ∀ (r a : Nat) (L : LV), a + r = nl → lv_get 0 L = some (.ref qp) → lv_get 2 L = some (.int (nI nl)) → lv_get 4 L = some (.int (nI (pWs (fun a => smS n hw on rc (swS nl a n w)) a))) → lv_get 5 L = some (.int (nI a)) → Rt σ 135 (jump 135 54) L [] h3 Q := by
    intro h3 hT3 hF3 hO3 hA3 r
    have pl : ∀ a, pWs (fun a => smS n hw on rc (swS nl a n w)) a ≤ a * 1000000 := by
      intro a
      induction a with
      | zero => exact Nat.le_refl _
      | succ a ih =>
        have := smS_le (rc := rc) (S := swS nl a n w) hB
        rw [pWs]
        omega
    induction r with
    | zero =>
      intro a L ha l0 l2 l4 l5
      have ea : a = nl := by omega
      subst ea
      rw [j135_54]
      refine rl_load l5 rfl (rl_load l2 rfl (rl_icmpT ?_ ?_))
      · show some (decide (nI a ≤ nI a)) = some true
        rw [decide_eq_true ((tx_le (by omega) (by omega)).mpr (Nat.le_refl _))]
      · show Rt σ 135 (jump 135 83) _ _ _ _
        rw [j135_83]
        rw [pws_3 hn0 hn3 (fun b hb => by show smS n hw on rc (swS _ b n w) = 0; rw [sw_big hn0 hb, sm_0 h6])] at l4
        exact rl_load l4 rfl (rl_ret1 (hk h3 hT3 hF3 hO3 hA3))
    | succ r ih =>
      intro a L ha l0 l2 l4 l5
      have h1 := pl a
      have h2 := smS_le (rc := rc) (S := swS nl a n w) hB
      have h3' := sw_lt (nl := nl) (a := a) n w
      rw [j135_54]
      refine rl_load l5 rfl (rl_load l2 rfl (rl_icmpF ?_ (rl_load l4 rfl (rl_load l0 rfl (ra_prow hT3 hqp (by rw [f63']; exact t7) f63 fun q32 hq32 => rl_load l0 rfl (ra_prow hT3 hqp (by rw [f65']; exact t9) f65 fun q34 hq34 => rl_load l5 rfl (ra_ald hT3.1 (by omega) (by rw [pr_34.1.1.2]; omega) hq34 (hA3 a (by omega)) (by rw [pr_34.1.1.2]; rfl) (by omega) (ra_ald hT3.1 (by omega) (by rw [pr_32.1.1.2]; omega) hq32 (hO3 _ _ _ _ (by omega) (hM _ h3')) (by rw [pr_32.1.1.2]; rfl) (by omega) (rl_bin (z := nI (pWs (fun a => smS n hw on rc (swS nl a n w)) (a + 1))) (by show some _ = some _; rw [nI_plus (by omega)]; rfl) (rl_store rfl (rl_iinc (get_put rfl rfl (by omega) l5) (rl_goto ?_))))))))))))
      · show some (decide (nI nl ≤ nI a)) = some false
        rw [decide_eq_false (by rw [tx_le (by omega) (by omega)]; omega)]
      rw [nI_suc (by omega)]
      exact ih (a + 1) _ (by omega) (get_put rfl rfl (by omega) (get_put rfl rfl (by omega) l0)) (get_put rfl rfl (by omega) (get_put rfl rfl (by omega) l2)) (get_put rfl rfl (by omega) rfl) rfl
  -- the figures
  have figs : ∀ (t fg : Nat) (h3 : AH) (A : Nat → Nat) (L : LV), t ≤ n → fg < 1000 → TS ad h3 np ex ho → Frm ad h h3 → (∀ c' i' p' W, c' ≠ 34 → At ad h c' i' p' W → At ad h3 c' i' p' W) → (∀ a, a < 3 → At ad h3 34 0 a (.int (nI (A a))) ∧ ((A a < 64 ∧ A a % 2 ^ t = 0) ∧ A a + swS nl a t fg = swS nl a n w)) → lv_get 0 L = some (.ref qp) → lv_get 2 L = some (.int (nI nl)) → lv_get 3 L = some (.int (nI fg)) → lv_get 4 L = some (.int (dnI t)) → Rt σ 135 (jump 135 18) L [] h3 Q := by
    intro t
    induction t with
    | zero =>
      intro fg h3 A L ht hfg hT3 hF3 hO3 hA l0 l2 l3 l4
      rw [j135_18]
      refine rl_load l4 rfl (rl_ifT dn_neg ?_)
      show Rt σ 135 (jump 135 48) _ _ _ _
      rw [j135_48]
      refine rl_const (rl_store rfl (rl_const (rl_store rfl ?_)))
      refine sums h3 hT3 hF3 hO3 (fun a ha => ?_) nl 0 _ (by omega) (get_put rfl rfl (by omega) (get_put rfl rfl (by omega) l0)) (get_put rfl rfl (by omega) (get_put rfl rfl (by omega) l2)) (get_put rfl rfl (by omega) rfl) rfl
      obtain ⟨a1, -, a3⟩ := hA a ha
      rw [← a3]
      exact a1
    | succ t ih =>
      intro fg h3 A L ht hfg hT3 hF3 hO3 hA l0 l2 l3 l4
      have hm := Nat.mod_lt fg hn0
      obtain ⟨a1, ⟨a2, a3⟩, a4⟩ := hA (fg % nl) (by omega)
      obtain ⟨o1, o2, o3, o4⟩ := bq_or (A (fg % nl)) a2 t (by omega) a3
      have hdiv : fg / nl < 1000 := by
        have := Nat.div_le_self fg nl
        omega
      have l4' : lv_get 4 L = some (.int (nI t)) := l4
      rw [j135_18]
      refine rl_load l4 rfl (rl_ifF (dn_pos (by omega)) (rl_load l0 rfl (ra_prow hT3 hqp (by rw [f65']; exact t9) f65 fun q34 hq34 => rl_load l3 rfl (rl_load l2 rfl (rl_bin (z := nI (fg % nl)) (by show (if nI nl = 0 then none else some (nI fg - nI fg / nI nl * nI nl)) = some _; rw [if_neg nlz, pk_rem (by omega) hn0 (by omega)]) (rl_dup2 rfl rfl (ra_ald hT3.1 (by omega) (by rw [pr_34.1.1.2]; omega) hq34 a1 (by rw [pr_34.1.1.2]; rfl) (by omega) (rl_const (rl_load l4' rfl (rl_bin rfl (rl_bin (z := nI (A (fg % nl) + 2 ^ t)) (by show some _ = some _; rw [o1]) (rl_prow hT3 pr_34 hq34 (by omega) (by omega) (nI_rng o2) fun h4 hT4 hO4 => ?_))))))))))))
      refine rl_load l3 rfl (rl_load l2 rfl (rl_bin (z := nI (fg / nl)) (by show (if nI nl = 0 then none else some (nI fg / nI nl)) = some _; rw [if_neg nlz, pk_div (by omega) hn0 (by omega)]) (rl_store rfl (rl_iinc (get_put rfl rfl (by omega) l4') (rl_goto ?_)))))
      rw [dn_down (by omega)]
      refine ih (fg / nl) h4 (fun a => if a = fg % nl then A a + 2 ^ t else A a) _ (by omega) hdiv hT4 (frm_trans hF3 (frm_one hO4 (Or.inl (by omega)))) (fun c' i' p' W hc ha => hO4.1.2 c' i' p' W (fun e => hc e.1) (hO3 c' i' p' W hc ha)) (fun a ha => ?_) (get_put rfl rfl (by omega) (get_put rfl rfl (by omega) l0)) (get_put rfl rfl (by omega) (get_put rfl rfl (by omega) l2)) (get_put rfl rfl (by omega) rfl) rfl
      by_cases e : a = fg % nl
      · rw [if_pos e]
        rw [swS, if_pos rfl] at a4
        rw [e]
        exact ⟨hO4.1.1, ⟨o2, o3⟩, by omega⟩
      · rw [if_neg e]
        obtain ⟨c1, ⟨c2, c3⟩, c4⟩ := hA a ha
        obtain ⟨-, -, -, p4⟩ := bq_or (A a) c2 t (by omega) c3
        rw [swS, if_neg (fun f => e f.symm)] at c4
        exact ⟨hO4.1.2 _ _ _ _ (fun f => e f.2.2) c1, ⟨c2, p4⟩, by omega⟩
  rw [head_135]
  refine rl_load rfl rfl (ra_prow hT hqp (by rw [f65']; exact t9) f65 fun q34 hq34 => rl_const (rl_calls (as := [.ref q34, .int (Int32.ofInt 0)]) (r := []) s100 rfl rfl (by show 0 ≤ 8; omega) (two_ok m286) (X_fill hT hq34 fun h2 hT2 hF2 hA2 hO2 => ?_)))
  refine rl_load rfl rfl (rl_store rfl (rl_load rfl rfl (rl_tc hT2 hqp (lsp_frm hF2 hl) hn (by show 0 ≤ 8; omega) (rl_const (rl_bin (z := dnI n) (by show some _ = some _; rw [dn_start]) (rl_store rfl ?_))))))
  refine figs n w h2 (fun _ => 0) _ (Nat.le_refl _) hwl hT2 hF2 hO2 (fun a ha => ⟨hA2 a ha, ⟨by omega, Nat.zero_mod _⟩, by omega⟩) rfl rfl rfl rfl
theorem X_share (hT : TS ad h np ex ho) (hqp : ad 8 0 = some qp) (hl : LsP ad h n) (hn : n ≤ 6) (hB : LgB n hw on) (h6 : hw 6 = 0) (hL : LgS ad h n hw on n n 0) (hR : RmS ad h n hw on (2 ^ n) 0) (hM : MsS ad h n hw on rc (2 ^ n)) (hn0 : 0 < nl) (hn3 : nl ≤ 3) (hk : ∀ h2 m x, TS ad h2 np ex ho → Frm ad h h2 → PlA ad h2 n hw on rc nl m x → Q none h2) : Rt σ 134 (codeOf 134) (am_args 0 [.ref qp, .int (nI nl)]) [] h Q := by
  obtain ⟨⟨⟨⟨-, f47, f47'⟩, -⟩, -, ⟨f64, f64'⟩, f65, f65'⟩, -, f47d, -⟩ := pc_f
  obtain ⟨⟨-, t7, t8, t9⟩, -⟩ := pl_t
  obtain ⟨-, ⟨s99, -⟩, -⟩ := pc_sa
  obtain ⟨-, ⟨m135, -⟩, -⟩ := pc_ml.1
  obtain ⟨⟨⟨m8, k8⟩, -⟩, ⟨⟨t82, t83⟩, -⟩, g8, -⟩ := pl_c
  have pl1 : ∀ k, k < 7 → nl ^ k ≤ 729 := fun k hk => pw_le nl (by omega) k hk
  have keep : ∀ h2, (∀ c' i' p' W, c' = 29 ∨ (c' = 30 ∨ (c' = 31 ∨ c' = 32)) → At ad h c' i' p' W → At ad h2 c' i' p' W) → (LgS ad h2 n hw on n n 0 ∧ RmS ad h2 n hw on (2 ^ n) 0) ∧ MsS ad h2 n hw on rc (2 ^ n) := fun h2 ho => ⟨⟨lgs_keep (fun c' i' p' W hc ha => ho c' i' p' W (by omega) ha) hL, fun S j h1 h2 h3 => ho _ _ _ _ (by omega) (hR.1 S j h1 h2 h3), fun j h1 h2 h3 => ho _ _ _ _ (by omega) (hR.2 j h1 h2 h3)⟩, fun S h1 => ho _ _ _ _ (by omega) (hM S h1)⟩
  -- the ways gone through
  have go : ∀ (r W : Nat) (h3 : AH) (L : LV) (m : Nat) (x : Nat × Nat × Nat), W + r = nl ^ (n - 1) → TS ad h3 np ex ho → Frm ad h h3 → (∀ c' i' p' W, c' = 29 ∨ (c' = 30 ∨ (c' = 31 ∨ c' = 32)) → At ad h c' i' p' W → At ad h3 c' i' p' W) → At ad h3 8 0 2 (.int (nI m)) → (m < 1000000 → At ad h3 33 0 0 (.int (nI x.1)) ∧ (At ad h3 33 0 1 (.int (nI x.2.1)) ∧ At ad h3 33 0 2 (.int (nI x.2.2)))) → BsW (smS n hw on rc) nl n W m x → lv_get 0 L = some (.ref qp) → lv_get 1 L = some (.int (nI nl)) → lv_get 2 L = some (.int (nI (nl ^ (n - 1)))) → lv_get 3 L = some (.int (nI W)) → Rt σ 134 (jump 134 30) L [] h3 Q := by
    have hw1 := pl1 (n - 1) (by omega)
    intro r
    induction r with
    | zero =>
      intro W h3 L m x hW hT3 hF3 hO3 hm hx hb l0 l1 l2 l3
      have eW : W = nl ^ (n - 1) := by omega
      rw [j134_30]
      refine rl_load l3 rfl (rl_load l2 rfl (rl_icmpT ?_ ?_))
      · show some (decide (nI (nl ^ (n - 1)) ≤ nI W)) = some true
        rw [decide_eq_true ((tx_le (by omega) (by omega)).mpr (by omega))]
      · show Rt σ 134 (jump 134 78) _ _ _ _
        rw [j134_78]
        rw [eW] at hb
        exact rl_ret0 (hk h3 m x hT3 hF3 ⟨keep h3 hO3, hm, hx, hb⟩)
    | succ r ih =>
      intro W h3 L m x hW hT3 hF3 hO3 hm hx hb l0 l1 l2 l3
      have hm1 := bw_top hb
      obtain ⟨vp, xp, -⟩ := at_kind hT3.1 (by omega) (by omega) hm hqp
      rw [k8] at xp
      have hy : wyM (smS n hw on rc) nl n W ≤ 3000000 := by
        unfold wyM
        have a1 := smS_le (rc := rc) (S := swS nl 0 n W) hB
        have a2 := smS_le (rc := rc) (S := swS nl 1 n W) hB
        have a3 := smS_le (rc := rc) (S := swS nl 2 n W) hB
        omega
      rw [j134_30]
      refine rl_load l3 rfl (rl_load l2 rfl (rl_icmpF ?_ (rl_load l0 rfl (rl_load l3 rfl (rl_load l1 rfl (rl_callv (as := [.int (nI W), .int (nI nl)]) (r := []) s99 rfl rfl xp (by show 0 ≤ 8; omega) (three_ok m135) (X_mway hT3 hqp (lsp_frm hF3 hl) hn hB h6 (keep h3 hO3).2 hn0 hn3 (by omega) fun h4 hT4 hF4 hO4 hA4 => ?_)))))))
      · show some (decide (nI (nl ^ (n - 1)) ≤ nI W)) = some false
        rw [decide_eq_false (by rw [tx_le (by omega) (by omega)]; omega)]
      have hm4 := hO4 _ _ _ _ (by omega) hm
      have g4 : ∀ {k : Nat} {u : Value}, k ≤ 3 → u.category = 1 → lv_get k L = some u → lv_get k (lv_put 4 (.int (nI (wyM (smS n hw on rc) nl n W))) L) = some u := fun {k u} hk hu hz => get_put hu rfl (by omega) hz
      have nx : ∀ (h5 : AH) (m' : Nat) (x' : Nat × Nat × Nat), TS ad h5 np ex ho → Frm ad h h5 → (∀ c' i' p' W, c' = 29 ∨ (c' = 30 ∨ (c' = 31 ∨ c' = 32)) → At ad h c' i' p' W → At ad h5 c' i' p' W) → At ad h5 8 0 2 (.int (nI m')) → (m' < 1000000 → At ad h5 33 0 0 (.int (nI x'.1)) ∧ (At ad h5 33 0 1 (.int (nI x'.2.1)) ∧ At ad h5 33 0 2 (.int (nI x'.2.2)))) → BsW (smS n hw on rc) nl n (W + 1) m' x' → Rt σ 134 (jump 134 72) (lv_put 4 (.int (nI (wyM (smS n hw on rc) nl n W))) L) [] h5 Q := fun h5 m' x' hT5 hF5 hO5 hm5 hx5 hb5 => by
        rw [j134_72]
        refine rl_iinc (g4 (by omega) rfl l3) (rl_goto ?_)
        rw [nI_suc (by omega)]
        exact ih (W + 1) h5 _ m' x' (by omega) hT5 hF5 hO5 hm5 hx5 hb5 (get_put rfl rfl (by omega) (g4 (by omega) rfl l0)) (get_put rfl rfl (by omega) (g4 (by omega) rfl l1)) (get_put rfl rfl (by omega) (g4 (by omega) rfl l2)) rfl
      refine rl_store rfl (rl_load (v := .int (nI (wyM (smS n hw on rc) nl n W))) rfl rfl (rl_load (g4 (by omega) rfl l0) rfl (ra_get hT4.1 (by omega) (by omega) hqp (by rw [f47']; exact hm4) (by rw [k8]; exact f47) ?_)))
      have hF24 := frm_trans hF3 hF4
      by_cases e : wyM (smS n hw on rc) nl n W < m
      · refine rl_icmpF (by show some (decide (nI m ≤ nI (wyM (smS n hw on rc) nl n W))) = some false; rw [decide_eq_false (by rw [tx_le (by omega) (by omega)]; omega)]) (rl_load (g4 (by omega) rfl l0) rfl (rl_load (v := .int (nI (wyM (smS n hw on rc) nl n W))) rfl rfl (rl_pput hT4 (by omega) m8 (by omega) g8 t82 hqp (by rw [k8]; exact f47) f47' f47d i2n_full fun h5 hT5 hO5 => ?_)))
        have hF5 := frm_trans hF24 (frm_one hO5 (Or.inr (Or.inr (Or.inl ⟨rfl, Or.inl rfl⟩))))
        refine rl_load (g4 (by omega) rfl l0) rfl (ra_prow hT5 hqp (by rw [f65']; exact t9) f65 fun q34 hq34 => rl_const (rl_load (g4 (by omega) rfl l0) rfl (ra_prow hT5 hqp (by rw [f64']; exact t8) f64 fun q33 hq33 => rl_const (rl_const (rl_acp3 hT5 hq33 hq34 (by show 0 ≤ 8; omega) fun h7 hT7 hF7 hA7 hO7 => ?_)))))
        have sets : ∀ a, a < 3 → At ad h7 33 0 a (.int (nI (swS nl a n W))) := fun a ha => hA7 a _ ha (hO5.1.2 _ _ _ _ (fun f => absurd f.1 (by omega)) (hA4 a ha))
        refine nx h7 _ _ hT7 (frm_trans hF5 hF7) (fun c' i' p' W' hc ha => hO7 c' i' p' W' (by omega) (hO5.1.2 c' i' p' W' (fun f => by omega) (hO4 c' i' p' W' (by omega) (hO3 c' i' p' W' hc ha)))) (hO7 _ _ _ _ (by omega) hO5.1.1) (fun _ => ⟨sets 0 (by omega), sets 1 (by omega), sets 2 (by omega)⟩) (bw_new hb e (by omega))
      · refine rl_icmpT (by show some (decide (nI m ≤ nI (wyM (smS n hw on rc) nl n W))) = some true; rw [decide_eq_true ((tx_le (by omega) (by omega)).mpr (by omega))]) ?_
        show Rt σ 134 (jump 134 72) _ _ _ _
        exact nx h4 m x hT4 hF24 (fun c' i' p' W' hc ha => hO4 c' i' p' W' (by omega) (hO3 c' i' p' W' hc ha)) hm4 (fun hlt => ⟨hO4 _ _ _ _ (by omega) (hx hlt).1, hO4 _ _ _ _ (by omega) (hx hlt).2.1, hO4 _ _ _ _ (by omega) (hx hlt).2.2⟩) (bw_same hb (by omega))
  -- how many ways
  have ways : ∀ (r t : Nat) (L : LV), 1 ≤ t → t + r = (if n = 0 then 1 else n) → lv_get 0 L = some (.ref qp) → lv_get 1 L = some (.int (nI nl)) → lv_get 2 L = some (.int (nI (nl ^ (t - 1)))) → lv_get 3 L = some (.int (nI t)) → Rt σ 134 (jump 134 4) L [] h Q := by
    intro r
    induction r with
    | zero =>
      intro t L h1 ht l0 l1 l2 l3
      have et : t - 1 = n - 1 ∧ n ≤ t := by
        by_cases e : n = 0
        · rw [if_pos e] at ht; omega
        · rw [if_neg e] at ht; omega
      have ht6 : t ≤ 6 := by
        by_cases e : n = 0
        · rw [if_pos e] at ht; omega
        · rw [if_neg e] at ht; omega
      rw [j134_4]
      refine rl_load l3 rfl (rl_load l0 rfl (rl_tc hT hqp hl hn (by show 1 ≤ 8; omega) (rl_icmpT ?_ ?_)))
      · show some (decide (nI n ≤ nI t)) = some true
        rw [decide_eq_true ((tx_le (by omega) (by omega)).mpr et.2)]
      · show Rt σ 134 (jump 134 22) _ _ _ _
        rw [j134_22]
        rw [et.1] at l2
        refine rl_load l0 rfl (rl_const (rl_pput hT (by omega) m8 (by omega) g8 t82 hqp (by rw [k8]; exact f47) f47' f47d i2n_full fun h2 hT2 hO2 => rl_const (rl_store rfl ?_)))
        exact go (nl ^ (n - 1)) 0 h2 _ 1000000 (0, 0, 0) (by omega) hT2 (frm_one hO2 (Or.inr (Or.inr (Or.inl ⟨rfl, Or.inl rfl⟩)))) (fun c' i' p' W hc ha => hO2.1.2 c' i' p' W (fun f => by omega) ha) hO2.1.1 (fun f => absurd f (by omega)) bw_0 (get_put rfl rfl (by omega) l0) (get_put rfl rfl (by omega) l1) (get_put rfl rfl (by omega) l2) rfl
    | succ r ih =>
      intro t L h1 ht l0 l1 l2 l3
      have htn : t < n := by
        by_cases e : n = 0
        · rw [if_pos e] at ht; omega
        · rw [if_neg e] at ht; omega
      have hp := pl1 (t - 1) (by omega)
      obtain ⟨t', et⟩ : ∃ t', t = t' + 1 := ⟨t - 1, by omega⟩
      rw [j134_4]
      refine rl_load l3 rfl (rl_load l0 rfl (rl_tc hT hqp hl hn (by show 1 ≤ 8; omega) (rl_icmpF ?_ (rl_load l2 rfl (rl_load l1 rfl (rl_bin (z := nI (nl ^ (t + 1 - 1))) (by show some (nI (nl ^ (t - 1)) * nI nl) = some _; rw [pk_mul, et, Nat.add_sub_cancel, Nat.add_sub_cancel, Nat.pow_succ]) (rl_store rfl (rl_iinc (get_put rfl rfl (by omega) l3) (rl_goto ?_)))))))))
      · show some (decide (nI n ≤ nI t)) = some false
        rw [decide_eq_false (by rw [tx_le (by omega) (by omega)]; omega)]
      rw [nI_suc (by omega)]
      exact ih (t + 1) _ (by omega) (by omega) (get_put rfl rfl (by omega) (get_put rfl rfl (by omega) l0)) (get_put rfl rfl (by omega) (get_put rfl rfl (by omega) l1)) (get_put rfl rfl (by omega) rfl) rfl
  rw [head_134]
  refine rl_const (rl_store rfl (rl_const (rl_store rfl ?_)))
  exact ways (if n = 0 then 0 else n - 1) 1 _ (Nat.le_refl _) (by
    by_cases e : n = 0
    · rw [if_pos e, if_pos e]
    · rw [if_neg e, if_neg e]; omega) rfl rfl (by rw [Nat.sub_self, Nat.pow_zero]; rfl) rfl
end
end
