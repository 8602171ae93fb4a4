section
/-! ===== the planner: the model's shares of tasks, plan, tour, miles ===== -/
noncomputable def pBs (m : Nat) : Int32 := if m < 1000000 then nI m else Int32.ofInt (-1)
theorem fig_sh : ∀ i, i < 6 → ((nI (3 * i) &&& 31).toBitVec.smod 32).toNat = 3 * i := by decide +kernel
theorem fig_7 : (Int32.ofInt 7).toBitVec.toNat = 2 ^ 3 - 1 := by decide +kernel
theorem tw_in : ∀ nl, nl < 4 → 0 < nl → txW (nI nl) (Int32.ofInt 1) (Int32.ofInt 3) = 1 := by decide +kernel
theorem tl_in : ∀ nl, nl < 4 → 0 < nl → ∀ a, a < nl → txW (nI a) (Int32.ofInt 0) (nI nl - Int32.ofInt 1) = 1 := by decide +kernel
theorem i2n_m1 : i2n (Int32.ofInt (-1)) = 2147483647 := by decide +kernel
theorem nI_m1p {m : Nat} (hm : m < 1000000) : ¬ nI m = Int32.ofInt (-1) := fun e => by
  have z := congrArg i2n e
  rw [nI_ok (by omega), i2n_m1] at z
  omega
theorem pb_lt {m : Nat} (h : m < 1000000) : pBs m = nI m := by
  unfold pBs
  exact if_pos h
theorem pb_ge {m : Nat} (h : ¬ m < 1000000) : pBs m = Int32.ofInt (-1) := by
  unfold pBs
  exact if_neg h
theorem pn_lt {m : Nat} (h : m < 1000000) : PnV m = nI m := by
  unfold PnV
  exact if_pos h
theorem pn_ge {m : Nat} (h : ¬ m < 1000000) : PnV m = Int32.ofInt (-3) := by
  unfold PnV
  exact if_neg h
/-- the figure i of a row's code -/
theorem cd_fig : ∀ {r : List Nat} {i j : Nat}, (∀ x, x ∈ r → x < 8) → r[i]? = some j → cdR r / 2 ^ (3 * i) % 8 = j := by
  intro r
  induction r with
  | nil =>
    intro i j _ hj
    rw [List.getElem?_nil] at hj
    cases hj
  | cons a r ih =>
    intro i j hd hj
    have ha := hd a (List.mem_cons.mpr (Or.inl rfl))
    have ec : cdR (a :: r) = 8 * cdR r + a := rfl
    cases i with
    | zero =>
      rw [List.getElem?_cons_zero] at hj
      cases hj
      rw [ec, Nat.mul_zero, Nat.pow_zero, Nat.div_one]
      omega
    | succ i =>
      rw [List.getElem?_cons_succ] at hj
      have e : 2 ^ (3 * (i + 1)) = 8 * 2 ^ (3 * i) := by
        rw [show 3 * (i + 1) = 3 * i + 3 by omega, Nat.pow_add]
        exact Nat.mul_comm _ _
      rw [ec, e, ← Nat.div_div_eq_div_mul, show (8 * cdR r + a) / 8 = cdR r by omega]
      exact ih (fun x hx => hd x (List.mem_cons.mpr (Or.inr hx))) hj
noncomputable def SmM (ad : AD) (h : AH) (n : Nat) (hw : Nat → Nat) (on : Nat → Nat → Nat) (rc : Nat) : Prop := ∀ S, S < 2 ^ n → At ad h 90 0 S (.int (nI (smS n hw on rc S))) ∧ At ad h 91 0 S (.int (nI (srS n hw on rc S)))
noncomputable def St3 (ad : AD) (h : AH) (x : Nat × Nat × Nat) : Prop := At ad h 11 0 62 (.int (nI x.1)) ∧ (At ad h 11 0 63 (.int (nI x.2.1)) ∧ At ad h 11 0 64 (.int (nI x.2.2)))
/-- what the model's plan leaves -/
noncomputable def PlM (ad : AD) (h : AH) (n : Nat) (hw : Nat → Nat) (on : Nat → Nat → Nat) (rc nl m : Nat) (x : Nat × Nat × Nat) : Prop := SmM ad h n hw on rc ∧ ((m < 1000000 → St3 ad h x) ∧ BsW (smS n hw on rc) nl n (nl ^ n) m x)
/-- the places of the method that goes through the ways -/
noncomputable def LcP (m nl : Nat) (b : Int32) (wy W fg a1 a2 a3 t : Nat) (L : LV) : Prop := ((lv_get 0 L = some (.ref m) ∧ lv_get 1 L = some (.int (nI nl))) ∧ (lv_get 2 L = some (.int b) ∧ (lv_get 3 L = some (.int (nI wy)) ∧ lv_get 4 L = some (.int (nI W))))) ∧ ((lv_get 5 L = some (.int (nI fg)) ∧ lv_get 6 L = some (.int (nI a1))) ∧ (lv_get 7 L = some (.int (nI a2)) ∧ (lv_get 8 L = some (.int (nI a3)) ∧ lv_get 9 L = some (.int (dnI t)))))
section
variable {σ : Nat → Nat} {ad ad1 : AD} {h h1 h' : AH} {np n T m t i j x y S p w s a : Nat} {ex ho : Nat → Nat → Prop} {Q : Option Value → AH → Prop} {d : Nat → TPD} {tk : Nat → TKD} {sz : Nat → Int32} {pp : TKD} {tl : List (Nat × AI)} {L : LV} {St : List Value} {M pc : Nat} {c : Int} {hw : Nat → Nat} {on : Nat → Nat → Nat} {rc nl : Nat} {xx : Nat × Nat × Nat} {nn lo ii : Int32}
section
variable {b : Int32} {wy W fg a1 a2 a3 z : Nat} {u : Int32}
theorem lc_5 (hL : LcP m nl b wy W fg a1 a2 a3 t L) : LcP m nl b wy W z a1 a2 a3 t (lv_put 5 (.int (nI z)) L) := by
  obtain ⟨⟨⟨l0, l1⟩, l2, l3, l4⟩, ⟨l5, l6⟩, l7, l8, l9⟩ := hL
  exact ⟨⟨⟨get_put rfl rfl (by omega) l0, get_put rfl rfl (by omega) l1⟩, get_put rfl rfl (by omega) l2, get_put rfl rfl (by omega) l3, get_put rfl rfl (by omega) l4⟩, ⟨rfl, get_put rfl rfl (by omega) l6⟩, get_put rfl rfl (by omega) l7, get_put rfl rfl (by omega) l8, get_put rfl rfl (by omega) l9⟩
theorem lc_6 (hL : LcP m nl b wy W fg a1 a2 a3 t L) : LcP m nl b wy W fg z a2 a3 t (lv_put 6 (.int (nI z)) L) := by
  obtain ⟨⟨⟨l0, l1⟩, l2, l3, l4⟩, ⟨l5, l6⟩, l7, l8, l9⟩ := hL
  exact ⟨⟨⟨get_put rfl rfl (by omega) l0, get_put rfl rfl (by omega) l1⟩, get_put rfl rfl (by omega) l2, get_put rfl rfl (by omega) l3, get_put rfl rfl (by omega) l4⟩, ⟨get_put rfl rfl (by omega) l5, rfl⟩, get_put rfl rfl (by omega) l7, get_put rfl rfl (by omega) l8, get_put rfl rfl (by omega) l9⟩
theorem lc_7 (hL : LcP m nl b wy W fg a1 a2 a3 t L) : LcP m nl b wy W fg a1 z a3 t (lv_put 7 (.int (nI z)) L) := by
  obtain ⟨⟨⟨l0, l1⟩, l2, l3, l4⟩, ⟨l5, l6⟩, l7, l8, l9⟩ := hL
  exact ⟨⟨⟨get_put rfl rfl (by omega) l0, get_put rfl rfl (by omega) l1⟩, get_put rfl rfl (by omega) l2, get_put rfl rfl (by omega) l3, get_put rfl rfl (by omega) l4⟩, ⟨get_put rfl rfl (by omega) l5, get_put rfl rfl (by omega) l6⟩, rfl, get_put rfl rfl (by omega) l8, get_put rfl rfl (by omega) l9⟩
theorem lc_8 (hL : LcP m nl b wy W fg a1 a2 a3 t L) : LcP m nl b wy W fg a1 a2 z t (lv_put 8 (.int (nI z)) L) := by
  obtain ⟨⟨⟨l0, l1⟩, l2, l3, l4⟩, ⟨l5, l6⟩, l7, l8, l9⟩ := hL
  exact ⟨⟨⟨get_put rfl rfl (by omega) l0, get_put rfl rfl (by omega) l1⟩, get_put rfl rfl (by omega) l2, get_put rfl rfl (by omega) l3, get_put rfl rfl (by omega) l4⟩, ⟨get_put rfl rfl (by omega) l5, get_put rfl rfl (by omega) l6⟩, get_put rfl rfl (by omega) l7, rfl, get_put rfl rfl (by omega) l9⟩
theorem lc_9 (hL : LcP m nl b wy W fg a1 a2 a3 t L) : LcP m nl b wy W fg a1 a2 a3 z (lv_put 9 (.int (dnI z)) L) := by
  obtain ⟨⟨⟨l0, l1⟩, l2, l3, l4⟩, ⟨l5, l6⟩, l7, l8, l9⟩ := hL
  exact ⟨⟨⟨get_put rfl rfl (by omega) l0, get_put rfl rfl (by omega) l1⟩, get_put rfl rfl (by omega) l2, get_put rfl rfl (by omega) l3, get_put rfl rfl (by omega) l4⟩, ⟨get_put rfl rfl (by omega) l5, get_put rfl rfl (by omega) l6⟩, get_put rfl rfl (by omega) l7, get_put rfl rfl (by omega) l8, rfl⟩
theorem lc_10 (hL : LcP m nl b wy W fg a1 a2 a3 t L) : LcP m nl b wy W fg a1 a2 a3 t (lv_put 10 (.int u) L) := by
  obtain ⟨⟨⟨l0, l1⟩, l2, l3, l4⟩, ⟨l5, l6⟩, l7, l8, l9⟩ := hL
  exact ⟨⟨⟨get_put rfl rfl (by omega) l0, get_put rfl rfl (by omega) l1⟩, get_put rfl rfl (by omega) l2, get_put rfl rfl (by omega) l3, get_put rfl rfl (by omega) l4⟩, ⟨get_put rfl rfl (by omega) l5, get_put rfl rfl (by omega) l6⟩, get_put rfl rfl (by omega) l7, get_put rfl rfl (by omega) l8, get_put rfl rfl (by omega) l9⟩
end
theorem xm_pl {p : Nat} (hp : 62 ≤ p ∧ p ≤ 64) : XM 11 p := Or.inr ⟨rfl, hp⟩
theorem sm_one {p : Nat} {xv : Int32} (hO : One ad h h' 11 p xv) (hS : SmM ad h n hw on rc) : SmM ad h' n hw on rc := fun S hS2 => ⟨hO.1.2 _ _ _ _ (fun f => by omega) (hS S hS2).1, hO.1.2 _ _ _ _ (fun f => by omega) (hS S hS2).2⟩

/-- the ways gone through -/
theorem M_plans (hT : TS ad h np ex ho) (hm : ad 11 0 = some m) (hD : PD ad h n T tk d sz) (hrc : At ad h 11 0 58 (.int (nI rc))) (hrl : rc < 1000000) (hn0 : 0 < nl) (hn3 : nl ≤ 3) (hk : ∀ h2 m' x', TS ad h2 np ex ho → FrmM ad h h2 → PlM ad h2 n (hwD n T tk d) (onD n T tk d sz) rc nl m' x' → Q (some (.int (pBs m'))) h2) : Rt σ 251 (codeOf 251) (am_args 0 [.ref m, .int (nI nl)]) [] h Q := by
  obtain ⟨⟨-, ⟨⟨f129, f129'⟩, -⟩, -⟩, ⟨⟨f150, f150'⟩, f151, f151'⟩, ⟨f152, f152'⟩, f153, f153'⟩ := qm_f
  obtain ⟨d151, d152, d153⟩ := qm_d
  obtain ⟨-, t90, -⟩ := pl_t
  obtain ⟨⟨⟨-, s176, -⟩, -⟩, -⟩ := qm_s
  obtain ⟨⟨⟨-, m252, -⟩, -⟩, -⟩ := qm_m
  obtain ⟨⟨⟨c11, c11'⟩, -⟩, -⟩ := m_cls
  obtain ⟨-, ⟨-, t62, t63, t64⟩, -, g11⟩ := pl_c
  have n6 : n ≤ 6 := hD.1.1.1.1.1
  have b64 := bq_lt n (by omega)
  have hB := pd_lgb hD
  have k90 := pr_90.1.1.2
  have hpw := pw_le nl (by omega) n (by omega)
  have nlz : ¬ nI nl = 0 := fun e => by
    have := nI_eqn (a := nl) (b := 0) (by omega) (by omega) e
    omega
  have go : ∀ (r W : Nat) (h3 : AH) (m' : Nat) (x' : Nat × Nat × Nat) (L : LV), W + r = nl ^ n → TS ad h3 np ex ho → FrmM ad h h3 → SmM ad h3 n (hwD n T tk d) (onD n T tk d sz) rc → (m' < 1000000 → St3 ad h3 x') → BsW (smS n (hwD n T tk d) (onD n T tk d sz) rc) nl n W m' x' → lv_get 0 L = some (.ref m) → lv_get 1 L = some (.int (nI nl)) → lv_get 2 L = some (.int (pBs m')) → lv_get 3 L = some (.int (nI (nl ^ n))) → lv_get 4 L = some (.int (nI W)) → Rt σ 251 (jump 251 33) L [] h3 Q := by
    intro r
    induction r with
    | zero =>
      intro W h3 m' x' L hW hT3 hF3 hS3 hx3 hb3 l0 l1 l2 l3 l4
      have eW : W = nl ^ n := by omega
      rw [j251_33]
      refine rl_load l4 rfl (rl_load l3 rfl (rl_icmpT (by show some (decide (nI (nl ^ n) ≤ nI W)) = some true; rw [decide_eq_true ((tx_le (by omega) (by omega)).mpr (by omega))]) ?_))
      show Rt σ 251 (jump 251 210) _ _ _ _
      rw [j251_210]
      rw [eW] at hb3
      exact rl_load l2 rfl (rl_ret1 (hk h3 m' x' hT3 hF3 ⟨hS3, hx3, hb3⟩))
    | succ r ih =>
      intro W h3 m' x' L hW hT3 hF3 hS3 hx3 hb3 l0 l1 l2 l3 l4
      have hm1 := bw_top hb3
      have htk3 := (pd_frm (fm_frm hF3) hD).1.1.2.1.1
      have hlt : ∀ a, swS nl a n W < 2 ^ n := fun a => sw_lt n W
      have hsm : ∀ a, smS n (hwD n T tk d) (onD n T tk d sz) rc (swS nl a n W) ≤ 1000000 := fun a => smS_le hB
      -- on to the next way
      have nx : ∀ (h4 : AH) (m2 : Nat) (x2 : Nat × Nat × Nat) (L4 : LV), TS ad h4 np ex ho → FrmM ad h h4 → SmM ad h4 n (hwD n T tk d) (onD n T tk d sz) rc → (m2 < 1000000 → St3 ad h4 x2) → BsW (smS n (hwD n T tk d) (onD n T tk d sz) rc) nl n (W + 1) m2 x2 → lv_get 0 L4 = some (.ref m) → lv_get 1 L4 = some (.int (nI nl)) → lv_get 2 L4 = some (.int (pBs m2)) → lv_get 3 L4 = some (.int (nI (nl ^ n))) → lv_get 4 L4 = some (.int (nI W)) → Rt σ 251 (jump 251 204) L4 [] h4 Q := fun h4 m2 x2 L4 hT4 hF4 hS4 hx4 hb4 k0 k1 k2 k3 k4 => by
        rw [j251_204]
        refine rl_iinc k4 (rl_goto ?_)
        rw [nI_suc (by omega)]
        exact ih (W + 1) h4 m2 x2 _ (by omega) hT4 hF4 hS4 hx4 hb4 (get_put rfl rfl (by omega) k0) (get_put rfl rfl (by omega) k1) (get_put rfl rfl (by omega) k2) (get_put rfl rfl (by omega) k3) rfl
      -- its miles
      have tail : ∀ (fg : Nat) (L : LV), LcP m nl (pBs m') (nl ^ n) W fg (swS nl 0 n W) (swS nl 1 n W) (swS nl 2 n W) 0 L → Rt σ 251 (jump 251 139) L [] h3 Q := by
        intro fg L hL
        obtain ⟨⟨⟨k0, k1⟩, k2, k3, k4⟩, ⟨-, k6⟩, k7, k8, -⟩ := hL
        have z0 := (hS3 _ (hlt 0)).1
        have z1 := (hS3 _ (hlt 1)).1
        have z2 := (hS3 _ (hlt 2)).1
        have y0 := hsm 0
        have y1 := hsm 1
        have y2 := hsm 2
        have t0 := hlt 0
        have t1 := hlt 1
        have t2 := hlt 2
        rw [j251_139]
        refine rl_load k0 rfl (ra_row hT3 hm (by rw [f129']; exact t90) f129 fun q1 hq1 => rl_load k6 rfl (ra_ald hT3.1 (by omega) (by omega) hq1 z0 (by rw [k90]; rfl) (by omega) (rl_load k0 rfl (ra_row hT3 hm (by rw [f129']; exact t90) f129 fun q2 hq2 => rl_load k7 rfl (ra_ald hT3.1 (by omega) (by omega) hq2 z1 (by rw [k90]; rfl) (by omega) (rl_bin (z := nI (smS n (hwD n T tk d) (onD n T tk d sz) rc (swS nl 0 n W) + smS n (hwD n T tk d) (onD n T tk d sz) rc (swS nl 1 n W))) (by show some _ = some _; rw [nI_plus (by omega)]) (rl_load k0 rfl (ra_row hT3 hm (by rw [f129']; exact t90) f129 fun q3 hq3 => rl_load k8 rfl (ra_ald hT3.1 (by omega) (by omega) hq3 z2 (by rw [k90]; rfl) (by omega) (rl_bin (z := nI (wyM (smS n (hwD n T tk d) (onD n T tk d sz) rc) nl n W)) (by show some _ = some _; rw [nI_plus (by omega)]; rfl) (rl_store rfl ?_)))))))))))
        obtain ⟨y, ey⟩ : ∃ y, y = wyM (smS n (hwD n T tk d) (onD n T tk d sz) rc) nl n W := ⟨_, rfl⟩
        rw [← ey]
        have hy : y ≤ 3000000 := by
          rw [ey]
          unfold wyM
          omega
        have g9 : ∀ {k : Nat} {u : Value}, k ≤ 8 → u.category = 1 → lv_get k L = some u → lv_get k (lv_put 9 (.int (nI y)) L) = some u := fun {k u} hk hu hz => get_put hu rfl (by omega) hz
        have no : m' ≤ y → Rt σ 251 (jump 251 204) (lv_put 9 (.int (nI y)) L) [] h3 Q := fun e => nx h3 m' x' _ hT3 hF3 hS3 hx3 (bw_same hb3 (by omega)) (g9 (by omega) rfl k0) (g9 (by omega) rfl k1) (g9 (by omega) rfl k2) (g9 (by omega) rfl k3) (g9 (by omega) rfl k4)
        refine rl_load (v := .int (nI y)) rfl rfl (rl_const ?_)
        by_cases e1 : y < 1000000
        case neg =>
          refine rl_icmpT (by show some (decide (nI 1000000 ≤ nI y)) = some true; rw [decide_eq_true ((tx_le (by omega) (by omega)).mpr (by omega))]) ?_
          show Rt σ 251 (jump 251 204) _ _ _ _
          exact no (by omega)
        have upd : y < m' → Rt σ 251 (jump 251 183) (lv_put 9 (.int (nI y)) L) [] h3 Q := fun e2 => by
          have g2 : ∀ {k : Nat} {u : Value}, k ≤ 8 → ¬ k = 2 → u.category = 1 → lv_get k L = some u → lv_get k (lv_put 2 (.int (nI y)) (lv_put 9 (.int (nI y)) L)) = some u := fun {k u} hk h2 hu hz => get_put hu rfl (by omega) (g9 hk hu hz)
          rw [j251_183]
          refine rl_load (v := .int (nI y)) rfl rfl (rl_store rfl (rl_load (g2 (by omega) (by omega) rfl k0) rfl (rl_load (g2 (by omega) (by omega) rfl k6) rfl (rl_pput hT3 (by omega) c11 (by omega) g11 t62 hm (by rw [c11']; exact f151) f151' d151 (nI_rng (by omega)) fun h4 hT4 hO4 => ?_))))
          refine rl_load (g2 (by omega) (by omega) rfl k0) rfl (rl_load (g2 (by omega) (by omega) rfl k7) rfl (rl_pput hT4 (by omega) c11 (by omega) g11 t63 hm (by rw [c11']; exact f152) f152' d152 (nI_rng (by omega)) fun h5 hT5 hO5 => ?_))
          refine rl_load (g2 (by omega) (by omega) rfl k0) rfl (rl_load (g2 (by omega) (by omega) rfl k8) rfl (rl_pput hT5 (by omega) c11 (by omega) g11 t64 hm (by rw [c11']; exact f153) f153' d153 (nI_rng (by omega)) fun h6 hT6 hO6 => ?_))
          have hF6 := fm_trans hF3 (fm_trans (fm_one hO4 (xm_pl (by omega))) (fm_trans (fm_one hO5 (xm_pl (by omega))) (fm_one hO6 (xm_pl (by omega)))))
          exact nx h6 y (swS nl 0 n W, swS nl 1 n W, swS nl 2 n W) _ hT6 hF6 (sm_one hO6 (sm_one hO5 (sm_one hO4 hS3))) (fun _ => ⟨hO6.1.2 _ _ _ _ (fun f => by omega) (hO5.1.2 _ _ _ _ (fun f => by omega) hO4.1.1), hO6.1.2 _ _ _ _ (fun f => by omega) hO5.1.1, hO6.1.1⟩) (by rw [ey]; exact bw_new hb3 (by omega) (by omega)) (g2 (by omega) (by omega) rfl k0) (g2 (by omega) (by omega) rfl k1) (by rw [pb_lt e1]; rfl) (g2 (by omega) (by omega) rfl k3) (g2 (by omega) (by omega) rfl k4)
        refine rl_icmpF (by show some (decide (nI 1000000 ≤ nI y)) = some false; rw [decide_eq_false (by rw [tx_le (by omega) (by omega)]; omega)]) (rl_load (g9 (by omega) rfl k2) rfl (rl_const ?_))
        by_cases e2 : m' < 1000000
        · rw [pb_lt e2] at k2 ⊢
          refine rl_icmpF (by show some (decide (nI m' = Int32.ofInt (-1))) = some false; rw [decide_eq_false (nI_m1p e2)]) (rl_load (v := .int (nI y)) rfl rfl (rl_load (g9 (by omega) rfl k2) rfl ?_))
          by_cases e3 : y < m'
          · exact rl_icmpF (by show some (decide (nI m' ≤ nI y)) = some false; rw [decide_eq_false (by rw [tx_le (by omega) (by omega)]; omega)]) (upd e3)
          · refine rl_icmpT (by show some (decide (nI m' ≤ nI y)) = some true; rw [decide_eq_true ((tx_le (by omega) (by omega)).mpr (by omega))]) ?_
            show Rt σ 251 (jump 251 204) _ _ _ _
            exact no (by omega)
        · rw [pb_ge e2]
          refine rl_icmpT (by show some (decide (Int32.ofInt (-1) = Int32.ofInt (-1))) = some true; rw [decide_eq_true rfl]) ?_
          show Rt σ 251 (jump 251 183) _ _ _ _
          exact upd (by omega)
      -- its figures
      have figs : ∀ (t fg : Nat) (A : Nat → Nat) (L : LV), t ≤ n → fg < 1000 → (∀ a, (A a < 64 ∧ A a % 2 ^ t = 0) ∧ A a + swS nl a t fg = swS nl a n W) → LcP m nl (pBs m') (nl ^ n) W fg (A 0) (A 1) (A 2) t L → Rt σ 251 (jump 251 60) L [] h3 Q := by
        intro t
        induction t with
        | zero =>
          intro fg A L ht hfg hA hL
          have e : ∀ a, A a = swS nl a n W := fun a => (hA a).2
          rw [e 0, e 1, e 2] at hL
          rw [j251_60]
          refine rl_load hL.2.2.2.2 rfl (rl_ifT dn_neg ?_)
          show Rt σ 251 (jump 251 139) _ _ _ _
          exact tail fg L hL
        | succ t ihf =>
          intro fg A L ht hfg hA hL
          obtain ⟨v, ev⟩ : ∃ v, v = fg % nl := ⟨_, rfl⟩
          have hv : v < nl := by
            rw [ev]
            exact Nat.mod_lt fg hn0
          have hdiv : fg / nl < 1000 := by
            have := Nat.div_le_self fg nl
            omega
          obtain ⟨B, hB1, hB2⟩ : ∃ B : Nat → Nat, (∀ a, (nI (A a) ||| (if v = a then (Int32.ofInt 1 <<< (nI t &&& 31)) else Int32.ofInt 0)) = nI (B a)) ∧ ∀ a, (B a < 64 ∧ B a % 2 ^ t = 0) ∧ B a + swS nl a t (fg / nl) = swS nl a n W := by
            refine ⟨fun a => if v = a then A a + 2 ^ t else A a, fun a => ?_, fun a => ?_⟩
            · dsimp only
              obtain ⟨⟨q1, q2⟩, -⟩ := hA a
              by_cases e : v = a
              · rw [if_pos e, if_pos e]
                exact (bq_or _ q1 t (by omega) q2).1
              · rw [if_neg e, if_neg e]
                exact bq_or0 _ q1
            · dsimp only
              obtain ⟨⟨q1, q2⟩, q3⟩ := hA a
              obtain ⟨-, o2, o3, o4⟩ := bq_or _ q1 t (by omega) q2
              have q3' : A a + ((if fg % nl = a then 2 ^ t else 0) + swS nl a t (fg / nl)) = swS nl a n W := q3
              rw [← ev] at q3'
              by_cases e : v = a
              · rw [if_pos e] at q3'
                rw [if_pos e]
                exact ⟨⟨o2, o3⟩, by omega⟩
              · rw [if_neg e] at q3'
                rw [if_neg e]
                exact ⟨⟨q1, o4⟩, by omega⟩
          have p130 : ∀ (L' : LV) (z : Int32), LcP m nl (pBs m') (nl ^ n) W (fg / nl) (B 0) (B 1) (A 2) (t + 1) L' → lv_get 10 L' = some (.int (nI v)) → (nI (A 2) ||| z) = nI (B 2) → Rt σ 251 (jump 251 130) L' [.int z, .int (nI (A 2))] h3 Q := fun L' z hL' _ hz => by
            rw [j251_130]
            have hL2 := lc_8 (z := B 2) hL'
            refine rl_bin (z := nI (B 2)) (congrArg some hz) (rl_store rfl (rl_iinc (x := nI t) hL2.2.2.2.2 (rl_goto ?_)))
            rw [dn_down (by omega)]
            exact ihf (fg / nl) B _ (by omega) hdiv hB2 (lc_9 hL2)
          have p111 : ∀ (L' : LV) (z : Int32), LcP m nl (pBs m') (nl ^ n) W (fg / nl) (B 0) (A 1) (A 2) (t + 1) L' → lv_get 10 L' = some (.int (nI v)) → (nI (A 1) ||| z) = nI (B 1) → Rt σ 251 (jump 251 111) L' [.int z, .int (nI (A 1))] h3 Q := fun L' z hL' k10 hz => by
            rw [j251_111]
            have hL2 := lc_7 (z := B 1) hL'
            have k10' : lv_get 10 (lv_put 7 (.int (nI (B 1))) L') = some (.int (nI v)) := get_put rfl rfl (by omega) k10
            refine rl_bin (z := nI (B 1)) (congrArg some hz) (rl_store rfl (rl_load hL2.2.2.2.1 rfl (rl_load k10' rfl (rl_const ?_))))
            by_cases e : v = 2
            · refine rl_icmpF (by show some (decide (¬ nI v = nI 2)) = some false; rw [e, decide_eq_false (fun h => h rfl)]) (rl_const (rl_load (v := .int (nI t)) hL2.2.2.2.2 rfl (rl_bin rfl (rl_goto ?_))))
              show Rt σ 251 (jump 251 130) _ _ _ _
              exact p130 _ _ hL2 k10' (by
                have q := hB1 2
                rw [if_pos e] at q
                exact q)
            · have ne : ¬ nI v = nI 2 := fun f => e (nI_eqn (by omega) (by omega) f)
              refine rl_icmpT (by show some (decide (¬ nI v = nI 2)) = some true; rw [decide_eq_true ne]) ?_
              show Rt σ 251 (jump 251 129) _ _ _ _
              rw [j251_129]
              refine rl_const ?_
              exact p130 _ _ hL2 k10' (by
                have q := hB1 2
                rw [if_neg e] at q
                exact q)
          have p92 : ∀ (L' : LV) (z : Int32), LcP m nl (pBs m') (nl ^ n) W (fg / nl) (A 0) (A 1) (A 2) (t + 1) L' → lv_get 10 L' = some (.int (nI v)) → (nI (A 0) ||| z) = nI (B 0) → Rt σ 251 (jump 251 92) L' [.int z, .int (nI (A 0))] h3 Q := fun L' z hL' k10 hz => by
            rw [j251_92]
            have hL2 := lc_6 (z := B 0) hL'
            have k10' : lv_get 10 (lv_put 6 (.int (nI (B 0))) L') = some (.int (nI v)) := get_put rfl rfl (by omega) k10
            refine rl_bin (z := nI (B 0)) (congrArg some hz) (rl_store rfl (rl_load hL2.2.2.1 rfl (rl_load k10' rfl (rl_const ?_))))
            by_cases e : v = 1
            · refine rl_icmpF (by show some (decide (¬ nI v = nI 1)) = some false; rw [e, decide_eq_false (fun h => h rfl)]) (rl_const (rl_load (v := .int (nI t)) hL2.2.2.2.2 rfl (rl_bin rfl (rl_goto ?_))))
              show Rt σ 251 (jump 251 111) _ _ _ _
              exact p111 _ _ hL2 k10' (by
                have q := hB1 1
                rw [if_pos e] at q
                exact q)
            · have ne : ¬ nI v = nI 1 := fun f => e (nI_eqn (by omega) (by omega) f)
              refine rl_icmpT (by show some (decide (¬ nI v = nI 1)) = some true; rw [decide_eq_true ne]) ?_
              show Rt σ 251 (jump 251 110) _ _ _ _
              rw [j251_110]
              refine rl_const ?_
              exact p111 _ _ hL2 k10' (by
                have q := hB1 1
                rw [if_neg e] at q
                exact q)
          rw [j251_60]
          refine rl_load hL.2.2.2.2 rfl (rl_ifF (dn_pos (by omega)) (rl_load hL.2.1.1 rfl (rl_load hL.1.1.2 rfl (rl_bin (z := nI v) (by show (if nI nl = 0 then none else some (nI fg - nI fg / nI nl * nI nl)) = some _; rw [if_neg nlz, pk_rem (by omega) hn0 (by omega), ev]) (rl_store rfl (rl_load (get_put rfl rfl (by omega) hL.2.1.1) rfl (rl_load (get_put rfl rfl (by omega) hL.1.1.2) rfl (rl_bin (z := nI (fg / nl)) (by show (if nI nl = 0 then none else some (nI fg / nI nl)) = some _; rw [if_neg nlz, pk_div (by omega) hn0 (by omega)]) (rl_store rfl ?_)))))))))
          have hL2 := lc_5 (z := fg / nl) (lc_10 (u := nI v) hL)
          have k10 : lv_get 10 (lv_put 5 (.int (nI (fg / nl))) (lv_put 10 (.int (nI v)) L)) = some (.int (nI v)) := get_put rfl rfl (by omega) rfl
          refine rl_load hL2.2.1.2 rfl (rl_load k10 rfl ?_)
          by_cases e : v = 0
          · refine rl_ifF (by show some (decide (¬ nI v = 0)) = some false; rw [e, decide_eq_false (fun h => h rfl)]) (rl_const (rl_load (v := .int (nI t)) hL2.2.2.2.2 rfl (rl_bin rfl (rl_goto ?_))))
            show Rt σ 251 (jump 251 92) _ _ _ _
            exact p92 _ _ hL2 k10 (by
              have q := hB1 0
              rw [if_pos e] at q
              exact q)
          · have ne : ¬ nI v = 0 := fun f => e (nI_eqn (a := v) (b := 0) (by omega) (by omega) f)
            refine rl_ifT (by show some (decide (¬ nI v = 0)) = some true; rw [decide_eq_true ne]) ?_
            show Rt σ 251 (jump 251 91) _ _ _ _
            rw [j251_91]
            refine rl_const ?_
            exact p92 _ _ hL2 k10 (by
              have q := hB1 0
              rw [if_neg e] at q
              exact q)
      rw [j251_33]
      refine rl_load l4 rfl (rl_load l3 rfl (rl_icmpF (by show some (decide (nI (nl ^ n) ≤ nI W)) = some false; rw [decide_eq_false (by rw [tx_le (by omega) (by omega)]; omega)]) (rl_load l4 rfl (rl_store rfl (rl_const (rl_store rfl (rl_const (rl_store rfl (rl_const (rl_store rfl (rl_load (get_put rfl rfl (by omega) (get_put rfl rfl (by omega) (get_put rfl rfl (by omega) (get_put rfl rfl (by omega) l0)))) rfl (ra_get hT3.1 (by omega) (by omega) hm (by rw [f150']; exact htk3) (by rw [c11']; exact f150) (rl_const (rl_bin (z := dnI n) (by show some (nI n - Int32.ofInt 1) = some _; rw [dn_start]) (rl_store rfl ?_)))))))))))))))
      have g5 : ∀ {k : Nat} {u b1 b2 b3 b4 b5 : Value}, k ≤ 4 → u.category = 1 → b1.category = 1 → b2.category = 1 → b3.category = 1 → b4.category = 1 → b5.category = 1 → lv_get k L = some u → lv_get k (lv_put 9 b1 (lv_put 8 b2 (lv_put 7 b3 (lv_put 6 b4 (lv_put 5 b5 L))))) = some u := fun {k u b1 b2 b3 b4 b5} hk hu c1 c2 c3 c4 c5 hz => get_put hu c1 (by omega) (get_put hu c2 (by omega) (get_put hu c3 (by omega) (get_put hu c4 (by omega) (get_put hu c5 (by omega) hz))))
      exact figs n W (fun _ => 0) _ (Nat.le_refl _) (by omega) (fun a => ⟨⟨by omega, Nat.zero_mod _⟩, Nat.zero_add _⟩) ⟨⟨⟨g5 (by omega) rfl rfl rfl rfl rfl rfl l0, g5 (by omega) rfl rfl rfl rfl rfl rfl l1⟩, g5 (by omega) rfl rfl rfl rfl rfl rfl l2, g5 (by omega) rfl rfl rfl rfl rfl rfl l3, g5 (by omega) rfl rfl rfl rfl rfl rfl l4⟩, ⟨get_put rfl rfl (by omega) (get_put rfl rfl (by omega) (get_put rfl rfl (by omega) (get_put rfl rfl (by omega) rfl))), get_put rfl rfl (by omega) (get_put rfl rfl (by omega) (get_put rfl rfl (by omega) rfl))⟩, get_put rfl rfl (by omega) (get_put rfl rfl (by omega) rfl), get_put rfl rfl (by omega) rfl, rfl⟩
  have ways : ∀ (r k : Nat) (h3 : AH) (L : LV), k + r = n → TS ad h3 np ex ho → FrmM ad h h3 → SmM ad h3 n (hwD n T tk d) (onD n T tk d sz) rc → lv_get 0 L = some (.ref m) → lv_get 1 L = some (.int (nI nl)) → lv_get 2 L = some (.int (Int32.ofInt (-1))) → lv_get 3 L = some (.int (nI (nl ^ k))) → lv_get 4 L = some (.int (nI k)) → Rt σ 251 (jump 251 11) L [] h3 Q := by
    intro r
    induction r with
    | zero =>
      intro k h3 L hk3 hT3 hF3 hS3 l0 l1 l2 l3 l4
      have htk3 := (pd_frm (fm_frm hF3) hD).1.1.2.1.1
      have ek : k = n := by omega
      rw [ek] at l3 l4
      rw [j251_11]
      refine rl_load l4 rfl (rl_load l0 rfl (ra_get hT3.1 (by omega) (by omega) hm (by rw [f150']; exact htk3) (by rw [c11']; exact f150) (rl_icmpT (by show some (decide (nI n ≤ nI n)) = some true; rw [decide_eq_true ((tx_le (by omega) (by omega)).mpr (Nat.le_refl _))]) ?_)))
      show Rt σ 251 (jump 251 30) _ _ _ _
      rw [j251_30]
      refine rl_const (rl_store rfl ?_)
      exact go (nl ^ n) 0 h3 1000000 (0, 0, 0) _ (Nat.zero_add _) hT3 hF3 hS3 (fun f => absurd f (by omega)) bw_0 (get_put rfl rfl (by omega) l0) (get_put rfl rfl (by omega) l1) (get_put rfl rfl (by omega) (by rw [pb_ge (by omega)]; exact l2)) (get_put rfl rfl (by omega) l3) rfl
    | succ r ih =>
      intro k h3 L hk3 hT3 hF3 hS3 l0 l1 l2 l3 l4
      have htk3 := (pd_frm (fm_frm hF3) hD).1.1.2.1.1
      rw [j251_11]
      refine rl_load l4 rfl (rl_load l0 rfl (ra_get hT3.1 (by omega) (by omega) hm (by rw [f150']; exact htk3) (by rw [c11']; exact f150) (rl_icmpF (by show some (decide (nI n ≤ nI k)) = some false; rw [decide_eq_false (by rw [tx_le (by omega) (by omega)]; omega)]) (rl_load l3 rfl (rl_load l1 rfl (rl_bin (z := nI (nl ^ (k + 1))) (by show some (nI (nl ^ k) * nI nl) = some _; rw [pk_mul, Nat.pow_succ]) (rl_store rfl (rl_iinc (get_put rfl rfl (by omega) l4) (rl_goto ?_)))))))))
      rw [nI_suc (by omega)]
      exact ih (k + 1) h3 _ (by omega) hT3 hF3 hS3 (get_put rfl rfl (by omega) (get_put rfl rfl (by omega) l0)) (get_put rfl rfl (by omega) (get_put rfl rfl (by omega) l1)) (get_put rfl rfl (by omega) (get_put rfl rfl (by omega) l2)) (get_put rfl rfl (by omega) rfl) rfl
  obtain ⟨vm, xm, -⟩ := at_kind hT.1 (by omega) (by omega) hrc hm
  rw [c11'] at xm
  rw [head_251]
  refine rl_load rfl rfl (rl_callv (as := []) (r := []) s176 rfl rfl xm (by show 0 ≤ 8; omega) (ref_ok m252) (M_tours hT hm hD hrc hrl fun h2 mf cf hT2 hF2 hM2 hz => ?_))
  refine rl_const (rl_store rfl (rl_const (rl_store rfl (rl_const (rl_store rfl ?_)))))
  exact ways n 0 h2 _ (Nat.zero_add _) hT2 hF2 (fun S hS => ⟨by
    have z := (hM2 S hS).1.1
    rw [(hz S hS).1] at z
    exact z, by
    have z := (hM2 S hS).2
    rw [(hz S hS).2] at z
    exact z⟩) rfl rfl rfl (by rw [Nat.pow_zero]; rfl) rfl
/-- a set of the plan -/
theorem M_setOf (hT : TS ad h np ex ho) (hm : ad 11 0 = some m) (ha : a < 3) (hx : St3 ad h xx) (hQ : Q (some (.int (nI (slA xx a)))) h) : Rt σ 259 (codeOf 259) (am_args 0 [.ref m, .int (nI a)]) [] h Q := by
  obtain ⟨-, ⟨-, f151, f151'⟩, ⟨f152, f152'⟩, f153, f153'⟩ := qm_f
  obtain ⟨⟨⟨c11, c11'⟩, -⟩, -⟩ := m_cls
  unfold slA at hQ
  rw [head_259]
  rcases (show a = 0 ∨ (a = 1 ∨ a = 2) by omega) with rfl | rfl | rfl
  · refine rl_load (v := .int (nI 0)) rfl rfl (rl_ifF (by show some (decide (¬ nI 0 = 0)) = some false; rw [decide_eq_false (fun h => h rfl)]) (rl_load rfl rfl (ra_get hT.1 (by omega) (by omega) hm (by rw [f151']; exact hx.1) (by rw [c11']; exact f151) (rl_goto ?_))))
    show Rt σ 259 (jump 259 27) _ _ _ _
    rw [j259_27]
    exact rl_ret1 hQ
  · refine rl_load (v := .int (nI 1)) rfl rfl (rl_ifT (by show some (decide (¬ nI 1 = 0)) = some true; rw [decide_eq_true (show ¬ nI 1 = 0 from fun f => by have := nI_eqn (a := 1) (b := 0) (by omega) (by omega) f; omega)]) ?_)
    show Rt σ 259 (jump 259 11) _ _ _ _
    rw [j259_11]
    refine rl_load (v := .int (nI 1)) rfl rfl (rl_const (rl_icmpF (by show some (decide (¬ nI 1 = nI 1)) = some false; rw [decide_eq_false (fun h => h rfl)]) (rl_load rfl rfl (ra_get hT.1 (by omega) (by omega) hm (by rw [f152']; exact hx.2.1) (by rw [c11']; exact f152) (rl_goto ?_)))))
    show Rt σ 259 (jump 259 27) _ _ _ _
    rw [j259_27]
    exact rl_ret1 hQ
  · refine rl_load (v := .int (nI 2)) rfl rfl (rl_ifT (by show some (decide (¬ nI 2 = 0)) = some true; rw [decide_eq_true (show ¬ nI 2 = 0 from fun f => by have := nI_eqn (a := 2) (b := 0) (by omega) (by omega) f; omega)]) ?_)
    show Rt σ 259 (jump 259 11) _ _ _ _
    rw [j259_11]
    refine rl_load (v := .int (nI 2)) rfl rfl (rl_const (rl_icmpT (by show some (decide (¬ nI 2 = nI 1)) = some true; rw [decide_eq_true (show ¬ nI 2 = nI 1 from fun f => by have := nI_eqn (a := 2) (b := 1) (by omega) (by omega) f; omega)]) ?_))
    show Rt σ 259 (jump 259 23) _ _ _ _
    rw [j259_23]
    refine rl_load rfl rfl (ra_get hT.1 (by omega) (by omega) hm (by rw [f153']; exact hx.2.2) (by rw [c11']; exact f153) ?_)
    rw [j259_27]
    exact rl_ret1 hQ
/-- class and model have one plan -/
theorem pl_same {m1 m2 : Nat} {x1 x2 : Nat × Nat × Nat} (hb : PnB n hw on rc nl m1 x1) (hb' : BsW (smS n hw on rc) nl n (nl ^ n) m2 x2) : m1 = m2 ∧ (m1 < 1000000 → x1 = x2) := by
  obtain ⟨⟨h0, h3⟩, hb⟩ := hb
  cases n with
  | zero => exact bw_uni hb hb'
  | succ t => exact bw_both h0 h3 hb hb'
theorem pl_set2 {m1 : Nat} (hb : PnB n hw on rc nl m1 xx) (hlt : m1 < 1000000) (ha : a < 3) : ¬ rc < LL n hw on 6 (slA xx a) := by
  rcases hb.2 with ⟨b1, -⟩ | ⟨w, ⟨b1, b2, b3⟩, b4, -⟩
  · omega
  · have e : slA xx a = swS nl a n w := by
      rw [b4]
      unfold slA
      rcases (show a = 0 ∨ (a = 1 ∨ a = 2) by omega) with rfl | rfl | rfl
      · rfl
      · rfl
      · rfl
    have hs : smS n hw on rc (swS nl a n w) ≤ m1 := by
      rw [b2]
      unfold wyM
      rcases (show a = 0 ∨ (a = 1 ∨ a = 2) by omega) with rfl | rfl | rfl <;> omega
    rw [e]
    intro f
    unfold smS at hs
    rw [if_pos f] at hs
    omega
theorem M_planOrNot (hT : TS ad h np ex ho) (hm : ad 11 0 = some m) (hD : PD ad h n T tk d sz) (hrc : At ad h 11 0 58 (.int (nI rc))) (hrl : rc < 1000000) (hn0 : 0 < nl) (hn3 : nl ≤ 3) (hk : ∀ h2 m' x', TS ad h2 np ex ho → FrmM ad h h2 → PlM ad h2 n (hwD n T tk d) (onD n T tk d sz) rc nl m' x' → Q (some (.int (PnV m'))) h2) : Rt σ 250 (codeOf 250) (am_args 0 [.ref m, .int (nI nl)]) [] h Q := by
  obtain ⟨⟨⟨⟨-, s175⟩, -⟩, -⟩, -⟩ := qm_s
  obtain ⟨⟨⟨⟨-, m251⟩, -⟩, -⟩, -⟩ := qm_m
  obtain ⟨⟨⟨c11, c11'⟩, -⟩, -⟩ := m_cls
  obtain ⟨vm, xm, -⟩ := at_kind hT.1 (by omega) (by omega) hrc hm
  rw [c11'] at xm
  rw [head_250]
  refine rl_load rfl rfl (rl_load rfl rfl (rl_callv (as := [.int (nI nl)]) (r := []) s175 rfl rfl xm (by show 0 ≤ 8; omega) (two_ok m251) (M_plans hT hm hD hrc hrl hn0 hn3 fun h2 m' x' hT2 hF2 hP2 => ?_)))
  refine rl_store rfl (rl_load (v := .int (pBs m')) rfl rfl (rl_const ?_))
  have hr := hk h2 m' x' hT2 hF2 hP2
  by_cases f : m' < 1000000
  · rw [pn_lt f] at hr
    rw [pb_lt f]
    refine rl_icmpT (by show some (decide (¬ nI m' = Int32.ofInt (-1))) = some true; rw [decide_eq_true (nI_m1p f)]) ?_
    show Rt σ 250 (jump 250 16) _ _ _ _
    rw [j250_16, j250_17]
    exact rl_load (v := .int (nI m')) rfl rfl (rl_ret1 hr)
  · rw [pn_ge f] at hr
    rw [pb_ge f]
    refine rl_icmpF (by show some (decide (¬ Int32.ofInt (-1) = Int32.ofInt (-1))) = some false; rw [decide_eq_false (fun h => h rfl)]) (rl_const (rl_goto ?_))
    show Rt σ 250 (jump 250 17) _ _ _ _
    rw [j250_17]
    exact rl_ret1 hr
theorem M_plan {y : Int32} (hT : TS ad h np ex ho) (hm : ad 11 0 = some m) (hD : PD ad h n T tk d sz) (hrc : At ad h 11 0 58 (.int (nI rc))) (hrl : rc < 1000000) (hR : PnR n (hwD n T tk d) (onD n T tk d sz) rc nn y) (hk : ∀ h2, TS ad h2 np ex ho → FrmM ad h h2 → Q (some (.int y)) h2) : Rt σ 249 (codeOf 249) (am_args 0 [.ref m, .int nn]) [] h Q := by
  obtain ⟨⟨⟨⟨s174, -⟩, -⟩, -⟩, -⟩ := qm_s
  obtain ⟨⟨⟨⟨m250, -⟩, -⟩, -⟩, -⟩ := qm_m
  obtain ⟨⟨⟨c11, c11'⟩, -⟩, -⟩ := m_cls
  obtain ⟨vm, xm, -⟩ := at_kind hT.1 (by omega) (by omega) hrc hm
  rw [c11'] at xm
  rw [head_249]
  refine rl_load rfl rfl (rl_const (rl_const (min_ok (by show 0 ≤ 8; omega) ?_)))
  rcases hR with ⟨e, ey⟩ | ⟨nl, m0, x0, ⟨en, hb⟩, ey⟩
  · refine rl_ifT (by rw [e]; rfl) ?_
    show Rt σ 249 (jump 249 17) _ _ _ _
    rw [j249_17, j249_19]
    have hr := hk h hT fm_refl
    rw [ey] at hr
    exact rl_const (rl_ret1 hr)
  · subst en
    have e := tw_in nl (by have := hb.1; omega) hb.1.1
    refine rl_ifF (by rw [e]; rfl) (rl_load rfl rfl (rl_load rfl rfl (rl_callv (as := [.int (nI nl)]) (r := []) s174 rfl rfl xm (by show 0 ≤ 8; omega) (two_ok m250) (M_planOrNot hT hm hD hrc hrl hb.1.1 hb.1.2 fun h2 m' x' hT2 hF2 hP2 => rl_goto ?_))))
    show Rt σ 249 (jump 249 19) _ _ _ _
    rw [j249_19]
    have hr := hk h2 hT2 hF2
    rw [ey, (pl_same hb hP2.2.2).1] at hr
    exact rl_ret1 hr
theorem M_tour {y : Int32} (hT : TS ad h np ex ho) (hm : ad 11 0 = some m) (hD : PD ad h n T tk d sz) (hrc : At ad h 11 0 58 (.int (nI rc))) (hrl : rc < 1000000) (hR : TrR n (hwD n T tk d) (onD n T tk d sz) rc nn lo ii y) (hk : ∀ h2, TS ad h2 np ex ho → FrmM ad h h2 → Q (some (.int y)) h2) : Rt σ 258 (codeOf 258) (am_args 0 [.ref m, .int nn, .int lo, .int ii]) [] h Q := by
  obtain ⟨⟨-, ⟨-, f130, f130'⟩, -⟩, -⟩ := qm_f
  obtain ⟨-, -, t91, -⟩ := pl_t
  obtain ⟨⟨⟨⟨-, s175⟩, -⟩, ⟨s178, -⟩, -⟩, s182⟩ := qm_s
  obtain ⟨⟨⟨⟨-, m251⟩, -⟩, ⟨m254, -⟩, -⟩, m259⟩ := qm_m
  obtain ⟨⟨⟨c11, c11'⟩, -⟩, -⟩ := m_cls
  obtain ⟨vm, xm, -⟩ := at_kind hT.1 (by omega) (by omega) hrc hm
  rw [c11'] at xm
  have n6 : n ≤ 6 := hD.1.1.1.1.1
  have b64 := bq_lt n (by omega)
  have k91 := pr_91.1.1.2
  rw [head_258]
  refine rl_load rfl rfl (rl_const (rl_const (min_ok (by show 0 ≤ 8; omega) ?_)))
  rcases hR with ⟨hb, ey⟩ | ⟨nl, m0, x0, ⟨en, hb⟩, a, i, ⟨⟨el, ha⟩, ei, hi⟩, ey⟩
  · have bad : ∀ L : LV, Rt σ 258 (jump 258 24) L [] h Q := fun L => by
      have hr := hk h hT fm_refl
      rw [ey] at hr
      rw [j258_24]
      exact rl_const (rl_ret1 hr)
    by_cases e1 : txW nn (Int32.ofInt 1) (Int32.ofInt 3) = 0
    · exact rl_ifT (by rw [e1]; rfl) (bad _)
    · refine rl_ifF (by show some (decide (txW nn (Int32.ofInt 1) (Int32.ofInt 3) = 0)) = some false; rw [decide_eq_false e1]) (rl_load rfl rfl (rl_const (rl_load rfl rfl (rl_const (rl_bin rfl (min_ok (by show 0 ≤ 8; omega) ?_))))))
      by_cases e2 : txW lo (Int32.ofInt 0) (nn - Int32.ofInt 1) = 0
      · exact rl_ifT (by show some (decide (txW lo (Int32.ofInt 0) (nn - Int32.ofInt 1) = 0)) = some true; rw [decide_eq_true e2]) (bad _)
      · refine rl_ifF (by show some (decide (txW lo (Int32.ofInt 0) (nn - Int32.ofInt 1) = 0)) = some false; rw [decide_eq_false e2]) (rl_load rfl rfl ?_)
        have e3 : ii < 0 := by
          rcases hb with f | f | f
          · exact absurd f e1
          · exact absurd f e2
          · exact f
        exact rl_ifF (by show some (decide (0 ≤ ii)) = some false; rw [decide_eq_false (Int32.not_le.mpr e3)]) (bad _)
  · subst en
    subst el
    subst ei
    have h0 := hb.1.1
    have h3 := hb.1.2
    have e := tw_in nl (by omega) h0
    have g := tl_in nl (by omega) h0 a ha
    have k0 : (0 : Int32) ≤ nI i := (tx_le (a := 0) (b := i) (by omega) hi).mpr (Nat.zero_le _)
    refine rl_ifF (by rw [e]; rfl) (rl_load rfl rfl (rl_const (rl_load rfl rfl (rl_const (rl_bin rfl (min_ok (by show 0 ≤ 8; omega) ?_))))))
    refine rl_ifF (by show some (decide (txW (nI a) (Int32.ofInt 0) (nI nl - Int32.ofInt 1) = 0)) = some false; rw [g]; rfl) (rl_load rfl rfl (rl_ifT (by show some (decide (0 ≤ nI i)) = some true; rw [decide_eq_true k0]) ?_))
    show Rt σ 258 (jump 258 27) _ _ _ _
    rw [j258_27]
    refine rl_load rfl rfl (rl_load rfl rfl (rl_callv (as := [.int (nI nl)]) (r := []) s175 rfl rfl xm (by show 0 ≤ 8; omega) (two_ok m251) (M_plans hT hm hD hrc hrl h0 h3 fun h2 m' x' hT2 hF2 hP2 => rl_const ?_)))
    obtain ⟨em, ex'⟩ := pl_same hb hP2.2.2
    have hr := hk h2 hT2 hF2
    rw [ey] at hr
    by_cases f : m0 < 1000000
    · have f' : m' < 1000000 := by omega
      rw [if_pos f] at hr
      rw [pb_lt f']
      obtain ⟨s1, s2⟩ := pl_set hb.2 f hrl (show a < 3 by omega)
      have s3 := pl_set2 hb f (show a < 3 by omega)
      have hx := hP2.2.1 f'
      rw [← ex' f] at hx
      obtain ⟨S, eS⟩ : ∃ S, S = slA x0 a := ⟨_, rfl⟩
      rw [← eS] at s1 s2 s3 hr
      refine rl_icmpT (by show some (decide (¬ nI m' = Int32.ofInt (-1))) = some true; rw [decide_eq_true (nI_m1p f')]) ?_
      show Rt σ 258 (jump 258 39) _ _ _ _
      rw [j258_39]
      have hrc2 := hF2.1 _ _ _ _ nx58 hrc
      obtain ⟨vm2, xm2, -⟩ := at_kind hT2.1 (by omega) (by omega) hrc2 hm
      rw [c11'] at xm2
      have ok1 : am_ok [.int (nI S)] 254 = true := by
        unfold am_ok
        rw [decide_eq_true (show ([.int (nI S)] : List Value).length ≤ mL 254 from m254)]
        rfl
      refine rl_load rfl rfl (rl_load rfl rfl (rl_callv (as := [.int (nI a)]) (r := []) s182 rfl rfl xm2 (by show 0 ≤ 8; omega) (two_ok m259) (M_setOf hT2 hm (by omega) hx ?_)))
      rw [← eS]
      refine rl_store rfl (rl_load (v := .int (nI i)) rfl rfl (rl_load (v := .int (nI S)) rfl rfl (rl_calls (as := [.int (nI S)]) (r := [.int (nI i)]) s178 rfl rfl (by show 1 ≤ 8; omega) ok1 (M_ones (by omega) ?_))))
      obtain ⟨g1, -⟩ := gg_ok S 6 s2
      have gl := fit_len n6 (show S < 64 by omega) g1
      have gd := fit_dg g1
      have hpc := bq_pc n (by omega) S s1
      by_cases q : i < pcB S
      · refine rl_icmpT (by show some (decide (nI i < nI (pcB S))) = some true; rw [decide_eq_true ((tx_lt (by omega) (by omega)).mpr q)]) ?_
        show Rt σ 258 (jump 258 57) _ _ _ _
        rw [j258_57]
        obtain ⟨j, hj⟩ : ∃ j, (gg n (hwD n T tk d) (onD n T tk d sz) 6 S)[i]? = some j := ⟨_, List.getElem?_eq_getElem (by omega)⟩
        have hcd := Nat.lt_of_lt_of_le (cdR_lt n6 gd) (pw8 _ (by omega))
        have hsr : srS n (hwD n T tk d) (onD n T tk d sz) rc S = cdR (gg n (hwD n T tk d) (onD n T tk d sz) 6 S) := by
          unfold srS
          rw [if_neg s3]
        have h91 := (hP2.1 S s1).2
        rw [hsr] at h91
        have fg := cd_fig (fun x hx => by have := gd x hx; omega) hj
        have ev : tO (gg n (hwD n T tk d) (onD n T tk d sz) 6 S) i = nI j := by
          unfold tO
          rw [hj]
        rw [ev] at hr
        refine rl_load rfl rfl (ra_row hT2 hm (by rw [f130']; exact t91) f130 fun q91 hq91 => rl_load (v := .int (nI S)) rfl rfl (ra_ald hT2.1 (by omega) (by omega) hq91 h91 (by rw [k91]; rfl) (by omega) (rl_const (rl_load (v := .int (nI i)) rfl rfl (rl_bin (z := nI (3 * i)) (by show some (nI 3 * nI i) = some _; rw [pk_mul]) (rl_bin (z := nI (cdR (gg n (hwD n T tk d) (onD n T tk d sz) 6 S) / 2 ^ (3 * i))) (by show some (nI (cdR (gg n (hwD n T tk d) (onD n T tk d sz) 6 S)) >>> (nI (3 * i) &&& 31)) = some _; rw [pk_shrN (by omega) _ (3 * i) (fig_sh i (by omega))]) (rl_const (rl_bin (z := nI j) (by
          show some (nI (cdR (gg n (hwD n T tk d) (onD n T tk d sz) 6 S) / 2 ^ (3 * i)) &&& Int32.ofInt 7) = some _
          rw [pk_andN (Nat.lt_of_le_of_lt (Nat.div_le_self _ _) (by omega)) 3 fig_7, show (2 : Nat) ^ 3 = 8 from rfl, fg]) (rl_ret1 hr)))))))))
      · have ev : tO (gg n (hwD n T tk d) (onD n T tk d sz) 6 S) i = Int32.ofInt (-1) := by
          unfold tO
          rw [List.getElem?_eq_none (by omega)]
        rw [ev] at hr
        exact rl_icmpF (by show some (decide (nI i < nI (pcB S))) = some false; rw [decide_eq_false (by rw [tx_lt (by omega) (by omega)]; exact q)]) (rl_const (rl_ret1 hr))
    · have f' : ¬ m' < 1000000 := by omega
      rw [if_neg f] at hr
      rw [pb_ge f']
      exact rl_icmpF (by show some (decide (¬ Int32.ofInt (-1) = Int32.ofInt (-1))) = some false; rw [decide_eq_false (fun h => h rfl)]) (rl_const (rl_ret1 hr))
theorem M_miles {y : Int32} (hT : TS ad h np ex ho) (hm : ad 11 0 = some m) (hD : PD ad h n T tk d sz) (hrc : At ad h 11 0 58 (.int (nI rc))) (hrl : rc < 1000000) (hR : MiR n (hwD n T tk d) (onD n T tk d sz) rc nn lo y) (hk : ∀ h2, TS ad h2 np ex ho → FrmM ad h h2 → Q (some (.int y)) h2) : Rt σ 260 (codeOf 260) (am_args 0 [.ref m, .int nn, .int lo]) [] h Q := by
  obtain ⟨⟨-, ⟨⟨f129, f129'⟩, -⟩, -⟩, -⟩ := qm_f
  obtain ⟨-, t90, -⟩ := pl_t
  obtain ⟨⟨⟨⟨-, s175⟩, -⟩, -⟩, s182⟩ := qm_s
  obtain ⟨⟨⟨⟨-, m251⟩, -⟩, -⟩, m259⟩ := qm_m
  obtain ⟨⟨⟨c11, c11'⟩, -⟩, -⟩ := m_cls
  obtain ⟨vm, xm, -⟩ := at_kind hT.1 (by omega) (by omega) hrc hm
  rw [c11'] at xm
  have n6 : n ≤ 6 := hD.1.1.1.1.1
  have b64 := bq_lt n (by omega)
  have k90 := pr_90.1.1.2
  rw [head_260]
  refine rl_load rfl rfl (rl_const (rl_const (min_ok (by show 0 ≤ 8; omega) ?_)))
  rcases hR with ⟨hb, ey⟩ | ⟨nl, m0, x0, ⟨en, hb⟩, a, ⟨el, ha⟩, ey⟩
  · have bad : ∀ L : LV, Rt σ 260 (jump 260 20) L [] h Q := fun L => by
      have hr := hk h hT fm_refl
      rw [ey] at hr
      rw [j260_20]
      exact rl_const (rl_ret1 hr)
    by_cases e1 : txW nn (Int32.ofInt 1) (Int32.ofInt 3) = 0
    · exact rl_ifT (by rw [e1]; rfl) (bad _)
    · refine rl_ifF (by show some (decide (txW nn (Int32.ofInt 1) (Int32.ofInt 3) = 0)) = some false; rw [decide_eq_false e1]) (rl_load rfl rfl (rl_const (rl_load rfl rfl (rl_const (rl_bin rfl (min_ok (by show 0 ≤ 8; omega) ?_))))))
      have e2 : txW lo (Int32.ofInt 0) (nn - Int32.ofInt 1) = 0 := by
        rcases hb with f | f
        · exact absurd f e1
        · exact f
      exact rl_ifF (by show some (decide (¬ txW lo (Int32.ofInt 0) (nn - Int32.ofInt 1) = 0)) = some false; rw [decide_eq_false (fun h => h e2)]) (bad _)
  · subst en
    subst el
    have h0 := hb.1.1
    have h3 := hb.1.2
    have e := tw_in nl (by omega) h0
    have g := tl_in nl (by omega) h0 a ha
    refine rl_ifF (by rw [e]; rfl) (rl_load rfl rfl (rl_const (rl_load rfl rfl (rl_const (rl_bin rfl (min_ok (by show 0 ≤ 8; omega) ?_))))))
    refine rl_ifT (by show some (decide (¬ txW (nI a) (Int32.ofInt 0) (nI nl - Int32.ofInt 1) = 0)) = some true; rw [g]; rfl) ?_
    show Rt σ 260 (jump 260 23) _ _ _ _
    rw [j260_23]
    refine rl_load rfl rfl (rl_load rfl rfl (rl_callv (as := [.int (nI nl)]) (r := []) s175 rfl rfl xm (by show 0 ≤ 8; omega) (two_ok m251) (M_plans hT hm hD hrc hrl h0 h3 fun h2 m' x' hT2 hF2 hP2 => rl_const ?_)))
    obtain ⟨em, ex'⟩ := pl_same hb hP2.2.2
    have hr := hk h2 hT2 hF2
    rw [ey] at hr
    by_cases f : m0 < 1000000
    · have f' : m' < 1000000 := by omega
      rw [if_pos f] at hr
      rw [pb_lt f']
      obtain ⟨s1, s2⟩ := pl_set hb.2 f hrl (show a < 3 by omega)
      have hx := hP2.2.1 f'
      rw [← ex' f] at hx
      refine rl_icmpT (by show some (decide (¬ nI m' = Int32.ofInt (-1))) = some true; rw [decide_eq_true (nI_m1p f')]) ?_
      show Rt σ 260 (jump 260 37) _ _ _ _
      rw [j260_37]
      have hrc2 := hF2.1 _ _ _ _ nx58 hrc
      obtain ⟨vm2, xm2, -⟩ := at_kind hT2.1 (by omega) (by omega) hrc2 hm
      rw [c11'] at xm2
      refine rl_load rfl rfl (ra_row hT2 hm (by rw [f129']; exact t90) f129 fun q90 hq90 => rl_load rfl rfl (rl_load rfl rfl (rl_callv (as := [.int (nI a)]) (r := [.ref q90]) s182 rfl rfl xm2 (by show 1 ≤ 8; omega) (two_ok m259) (M_setOf hT2 hm (by omega) hx (ra_ald hT2.1 (by omega) (by omega) hq90 (hP2.1 _ s1).1 (by rw [k90]; rfl) (by omega) ?_)))))
      rw [j260_47]
      exact rl_ret1 hr
    · have f' : ¬ m' < 1000000 := by omega
      rw [if_neg f] at hr
      rw [pb_ge f']
      refine rl_icmpF (by show some (decide (¬ Int32.ofInt (-1) = Int32.ofInt (-1))) = some false; rw [decide_eq_false (fun h => h rfl)]) (rl_const (rl_goto ?_))
      show Rt σ 260 (jump 260 47) _ _ _ _
      rw [j260_47]
      exact rl_ret1 hr
end
end
