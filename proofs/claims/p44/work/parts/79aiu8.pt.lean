section
/-! ===== the planner: the model's sets, gone through row by row ===== -/
noncomputable def upN (f : Nat → Nat) (S v : Nat) : Nat → Nat := fun x => if x = S then v else f x
/-- rows of s figures gone through below W -/
noncomputable def TrS (n : Nat) (hw : Nat → Nat) (on : Nat → Nat → Nat) (rc s W : Nat) (mf cf : Nat → Nat) : Prop := ∀ S, S < 2 ^ n → (pcB S < s → mf S = smS n hw on rc S ∧ cf S = srS n hw on rc S) ∧ ((pcB S = s → BsS n hw on rc s S W (mf S) (cf S)) ∧ (s < pcB S → mf S = 1000000 ∧ cf S = 0))
/-- the model's rows of sets -/
noncomputable def MfS (ad : AD) (h : AH) (n : Nat) (mf cf : Nat → Nat) : Prop := ∀ S, S < 2 ^ n → (At ad h 90 0 S (.int (nI (mf S))) ∧ mf S ≤ 1000000) ∧ At ad h 91 0 S (.int (nI (cf S)))
theorem bq_pz : ∀ S, S < 64 → pcB S = 0 → S = 0 := by decide +kernel
theorem pcB_0 : pcB 0 = 0 := by decide +kernel
section
variable {σ : Nat → Nat} {ad ad1 : AD} {h h1 h' : AH} {np n T m t i j x y S p w s : Nat} {ex ho : Nat → Nat → Prop} {Q : Option Value → AH → Prop} {d : Nat → TPD} {tk : Nat → TKD} {sz : Nat → Int32} {pp : TKD} {tl : List (Nat × AI)} {L : LV} {St : List Value} {M pc : Nat} {c : Int} {hw : Nat → Nat} {on : Nat → Nat → Nat} {rc nl : Nat} {mf cf : Nat → Nat}
theorem up_at (f : Nat → Nat) : upN f S j S = j := by
  show (if S = S then j else f S) = j
  exact if_pos rfl
theorem up_ne (f : Nat → Nat) (hx : ¬ x = S) : upN f S j x = f x := by
  show (if x = S then j else f x) = f x
  exact if_neg hx
theorem trs_same {W : Nat} {r : List Nat} (hn : n ≤ 6) (hrl : rc < 1000000) (hd : Dg n r) (hl : r.length = s) (hv : vlR n r = W) (hS : TrS n hw on rc s W mf cf) (hc : pcB (soR r) = s → rc < cost hw on 6 r ∨ mf (soR r) ≤ cost hw on 6 r) : TrS n hw on rc s (W + 1) mf cf := by
  have b64 := bq_lt n (by omega)
  intro S hS2
  obtain ⟨a1, a2, a3⟩ := hS S hS2
  refine ⟨a1, fun hp => bs_same hn (a2 hp) hd hl hv (fun hf => ?_) hrl, a3⟩
  have e := fit_so hn (show S < 64 by omega) hf
  rw [e] at hc
  exact hc hp
theorem trs_new {W : Nat} {r : List Nat} (hn : n ≤ 6) (hrl : rc < 1000000) (hd : Dg n r) (hl : r.length = s) (hv : vlR n r = W) (hS : TrS n hw on rc s W mf cf) (hp : pcB (soR r) = s) (h5 : cost hw on 6 r ≤ rc) (h6 : cost hw on 6 r < mf (soR r)) : TrS n hw on rc s (W + 1) (upN mf (soR r) (cost hw on 6 r)) (upN cf (soR r) (cdR r)) := by
  have b64 := bq_lt n (by omega)
  have hf0 := so_fit hn hd (by rw [hp, hl])
  intro S hS2
  obtain ⟨a1, a2, a3⟩ := hS S hS2
  by_cases e : S = soR r
  · rw [e, up_at, up_at]
    rw [e] at a2
    exact ⟨fun hlt => absurd hp (by omega), fun _ => bs_new hn (a2 hp) hd hl hv hf0 h5 h6, fun hlt => absurd hp (by omega)⟩
  · rw [up_ne _ e, up_ne _ e]
    exact ⟨a1, fun hq => bs_same hn (a2 hq) hd hl hv (fun hf => absurd (fit_so hn (show S < 64 by omega) hf) (fun g => e g.symm)) hrl, a3⟩
theorem trs_next (hn : n ≤ 6) (hrl : rc < 1000000) (hS : TrS n hw on rc s (n ^ s) mf cf) : TrS n hw on rc (s + 1) 0 mf cf := by
  have b64 := bq_lt n (by omega)
  intro S hS2
  obtain ⟨a1, a2, a3⟩ := hS S hS2
  refine ⟨fun hlt => ?_, fun he => ?_, fun hg => a3 (by omega)⟩
  · by_cases e : pcB S = s
    · have hb := a2 e
      rw [← e] at hb
      exact bs_all hn (show S < 64 by omega) hrl hb
    · exact a1 (by omega)
  · obtain ⟨e1, e2⟩ := a3 (by omega)
    rw [e1, e2]
    exact bs_0
theorem trs_end (hn : n ≤ 6) (hS : TrS n hw on rc (n + 1) 0 mf cf) : ∀ S, S < 2 ^ n → mf S = smS n hw on rc S ∧ cf S = srS n hw on rc S := fun S hS2 => (hS S hS2).1 (by
  have := bq_pc n (by omega) S hS2
  omega)
theorem trs_0 (hn : n ≤ 6) (h6 : hw 6 = 0) (h0 : mf 0 = 0 ∧ cf 0 = 0) (hs : ∀ S, ¬ S = 0 → mf S = 1000000 ∧ cf S = 0) : TrS n hw on rc 1 0 mf cf := by
  have b64 := bq_lt n (by omega)
  intro S hS2
  by_cases e : S = 0
  · subst e
    have hs0 : srS n hw on rc 0 = 0 := by
      unfold srS
      by_cases z : rc < LL n hw on 6 0
      · rw [if_pos z]
      · rw [if_neg z, gg_0]
        rfl
    have hp := pcB_0
    refine ⟨fun _ => ⟨by rw [h0.1, sm_0 h6], by rw [h0.2, hs0]⟩, fun he => absurd hp (by omega), fun hg => absurd hp (by omega)⟩
  · obtain ⟨e1, e2⟩ := hs S e
    refine ⟨fun hlt => absurd (bq_pz S (by omega) (by omega)) e, fun _ => ?_, fun _ => ⟨e1, e2⟩⟩
    rw [e1, e2]
    exact bs_0
theorem nx58 : ¬ XM 11 58 := fun e => by
  unfold XM at e
  omega
/-- one row is tried -/
theorem M_tries (hT : TS ad h np ex ho) (hm : ad 11 0 = some m) (hD : PD ad h n T tk d sz) (hrc : At ad h 11 0 58 (.int (nI rc))) (hrl : rc < 1000000) (hs0 : 1 ≤ s) (hs : s ≤ n) (hwl : w < n ^ s) (hM : MfS ad h n mf cf) (hk : ∀ h2 mf' cf', TS ad h2 np ex ho → FrmM ad h h2 → MfS ad h2 n mf' cf' → (TrS n (hwD n T tk d) (onD n T tk d sz) rc s w mf cf → TrS n (hwD n T tk d) (onD n T tk d sz) rc s (w + 1) mf' cf') → Q none h2) : Rt σ 253 (codeOf 253) (am_args 0 [.ref m, .int (nI w), .int (nI s)]) [] h Q := by
  obtain ⟨⟨⟨-, -, f128, f128'⟩, ⟨⟨f129, f129'⟩, f130, f130'⟩, ⟨f131, f131'⟩, -⟩, ⟨⟨f150, f150'⟩, -⟩, -⟩ := qm_f
  obtain ⟨-, t90, t91, t92⟩ := pl_t
  obtain ⟨⟨-, ⟨s178, s179⟩, -⟩, -⟩ := qm_s
  obtain ⟨⟨-, ⟨m254, m255⟩, -⟩, -⟩ := qm_m
  obtain ⟨⟨⟨c11, c11'⟩, -⟩, -⟩ := m_cls
  have n6 : n ≤ 6 := hD.1.1.1.1.1
  have hn0 : 0 < n := by omega
  have htk := hD.1.1.2.1.1
  have hB := pd_lgb hD
  have b64 := bq_lt n (by omega)
  have k90 := pr_90.1.1.2
  have k91 := pr_91.1.1.2
  have k92 := pr_92.1.1.2
  have nz : ¬ nI n = 0 := fun e => by
    have := nI_eqn (a := n) (b := 0) (by omega) (by omega) e
    omega
  obtain ⟨r, er⟩ : ∃ r, r = rlR n s w := ⟨_, rfl⟩
  have hr1 : r.length = s := by rw [er]; exact rlR_len
  have hdg : Dg n r := by rw [er]; exact rlR_dg hn0
  have hval : vlR n r = w := by rw [er]; exact rlR_val hn0 hwl
  have hb0 := soR_lt n6 hdg
  have hbn := soR_lt2 n6 hdg
  have hC := cost_le (p := 6) hB hdg
  rw [hr1] at hC
  obtain ⟨C, eC⟩ : ∃ C, C = cost (hwD n T tk d) (onD n T tk d sz) 6 r := ⟨_, rfl⟩
  rw [← eC] at hC
  have hC2 : C ≤ 7 * 1000200 := Nat.le_trans hC (Nat.mul_le_mul_right _ (by omega))
  have hw5 : w < 100000 := by
    have := pw6 n (by omega) s (by omega)
    omega
  have ok1 : am_ok [.int (nI (soR r))] 254 = true := by
    unfold am_ok
    rw [decide_eq_true (show ([.int (nI (soR r))] : List Value).length ≤ mL 254 from m254)]
    rfl
  -- behind the figures
  have fin : ∀ (h3 : AH) (L : LV), TS ad h3 np ex ho → FrmM ad h h3 → (∀ c' i' p' W, c' ≠ 92 → At ad h c' i' p' W → At ad h3 c' i' p' W) → RwM ad h3 r → lv_get 0 L = some (.ref m) → lv_get 2 L = some (.int (nI s)) → lv_get 4 L = some (.int (nI (soR r))) → lv_get 5 L = some (.int (nI 0)) → Rt σ 253 (jump 253 58) L [] h3 Q := by
    intro h3 L hT3 hF3 hO3 hW3 l0 l2 l4 l5
    have hM3 : MfS ad h3 n mf cf := fun S hS => ⟨⟨hO3 _ _ _ _ (by omega) (hM S hS).1.1, (hM S hS).1.2⟩, hO3 _ _ _ _ (by omega) (hM S hS).2⟩
    have hD3 := pd_frm (fm_frm hF3) hD
    have hrc3 := hO3 _ _ _ _ (by omega) hrc
    have mls : ∀ {Q' : Option Value → AH → Prop}, Q' (some (.int (nI C))) h3 → Rt σ 255 (codeOf 255) (am_args 0 [.ref m, .int (nI s)]) [] h3 Q' := fun {Q'} hq => by
      have z := M_mls (σ := σ) (Q := Q') hT3 hm hD3 hW3 hdg (by omega) (by omega) (by rw [← eC]; exact hq)
      rw [hr1] at z
      exact z
    obtain ⟨vm, xm, -⟩ := at_kind hT3.1 (by omega) (by omega) hrc3 hm
    rw [c11'] at xm
    have same : (TrS n (hwD n T tk d) (onD n T tk d sz) rc s w mf cf → TrS n (hwD n T tk d) (onD n T tk d sz) rc s (w + 1) mf cf) → Q none h3 := fun hz => hk h3 mf cf hT3 hF3 hM3 hz
    -- its code
    have codes : ∀ (t : Nat) (L : LV), pcB (soR r) = s → t ≤ s → lv_get 0 L = some (.ref m) → lv_get 2 L = some (.int (nI s)) → lv_get 4 L = some (.int (nI (soR r))) → lv_get 5 L = some (.int (nI (cdR (r.drop t)))) → lv_get 6 L = some (.int (dnI t)) → Rt σ 253 (jump 253 73) L [] h3 Q := by
      intro t
      induction t with
      | zero =>
        intro L hp ht l0 l2 l4 l5 l6
        rw [List.drop_zero] at l5
        rw [j253_73]
        refine rl_load l6 rfl (rl_ifT dn_neg ?_)
        show Rt σ 253 (jump 253 99) _ _ _ _
        rw [j253_99]
        refine rl_load l0 rfl (rl_load l2 rfl (rl_callv (as := [.int (nI s)]) (r := []) s179 rfl rfl xm (by show 0 ≤ 8; omega) (two_ok m255) (mls ?_)))
        have g6 : ∀ {k : Nat} {u : Value}, k ≤ 5 → u.category = 1 → lv_get k L = some u → lv_get k (lv_put 6 (.int (nI C)) L) = some u := fun {k u} hk hu hz => get_put hu rfl (by omega) hz
        refine rl_store rfl (rl_load (v := .int (nI C)) rfl rfl (rl_load (g6 (by omega) rfl l0) rfl (ra_get hT3.1 (by omega) (by omega) hm (by rw [f128']; exact hrc3) (by rw [c11']; exact f128) ?_)))
        by_cases h4 : rc < C
        · refine rl_icmpT (by show some (decide (nI rc < nI C)) = some true; rw [decide_eq_true ((tx_lt (by omega) (by omega)).mpr h4)]) ?_
          show Rt σ 253 (jump 253 145) _ _ _ _
          rw [j253_145]
          exact rl_ret0 (same fun hS => trs_same n6 hrl hdg hr1 hval hS (fun _ => Or.inl (by rw [← eC]; exact h4)))
        · have hms := hM3 (soR r) hbn
          refine rl_icmpF (by show some (decide (nI rc < nI C)) = some false; rw [decide_eq_false (by rw [tx_lt (by omega) (by omega)]; exact h4)]) (rl_load (v := .int (nI C)) rfl rfl (rl_load (g6 (by omega) rfl l0) rfl (ra_row hT3 hm (by rw [f129']; exact t90) f129 fun q90 hq90 => rl_load (g6 (by omega) rfl l4) rfl (ra_ald hT3.1 (by omega) (by omega) hq90 hms.1.1 (by rw [k90]; rfl) (by omega) ?_))))
          by_cases h5 : C < mf (soR r)
          · refine rl_icmpF (by show some (decide (nI (mf (soR r)) ≤ nI C)) = some false; rw [decide_eq_false (by rw [tx_le (by omega) (by omega)]; omega)]) (rl_load (g6 (by omega) rfl l0) rfl (ra_row hT3 hm (by rw [f129']; exact t90) f129 fun q90' hq90' => rl_load (g6 (by omega) rfl l4) rfl (rl_load (v := .int (nI C)) rfl rfl (rl_prow hT3 pr_90 hq90' hb0 (by omega) i2n_full fun h4' hT4 hO4 => ?_))))
            refine rl_load (g6 (by omega) rfl l0) rfl (ra_row hT4 hm (by rw [f130']; exact t91) f130 fun q91 hq91 => rl_load (g6 (by omega) rfl l4) rfl (rl_load (g6 (by omega) rfl l5) rfl (rl_prow hT4 pr_91 hq91 hb0 (by omega) i2n_full fun h5' hT5 hO5 => ?_)))
            rw [j253_145]
            refine rl_ret0 (hk h5' (upN mf (soR r) C) (upN cf (soR r) (cdR r)) hT5 (fm_trans hF3 (fm_trans (fm_one hO4 (Or.inl ⟨by omega, by omega⟩)) (fm_one hO5 (Or.inl ⟨by omega, by omega⟩)))) (fun S hS => ?_) fun hS => ?_)
            · by_cases e : S = soR r
              · rw [e, up_at, up_at]
                exact ⟨⟨hO5.1.2 _ _ _ _ (fun f => by omega) hO4.1.1, by omega⟩, hO5.1.1⟩
              · rw [up_ne _ e, up_ne _ e]
                obtain ⟨⟨z1, z2⟩, z3⟩ := hM3 S hS
                exact ⟨⟨hO5.1.2 _ _ _ _ (fun f => by omega) (hO4.1.2 _ _ _ _ (fun f => e f.2.2) z1), z2⟩, hO5.1.2 _ _ _ _ (fun f => e f.2.2) (hO4.1.2 _ _ _ _ (fun f => by omega) z3)⟩
            · rw [eC]
              exact trs_new n6 hrl hdg hr1 hval hS hp (by omega) (by omega)
          · refine rl_icmpT (by show some (decide (nI (mf (soR r)) ≤ nI C)) = some true; rw [decide_eq_true ((tx_le (by omega) (by omega)).mpr (by omega))]) ?_
            show Rt σ 253 (jump 253 145) _ _ _ _
            rw [j253_145]
            exact rl_ret0 (same fun hS => trs_same n6 hrl hdg hr1 hval hS (fun _ => Or.inr (by omega)))
      | succ t ih =>
        intro L hp ht l0 l2 l4 l5 l6
        have hlt : t < r.length := by omega
        obtain ⟨j, hj⟩ : ∃ j, r[t]? = some j := ⟨_, List.getElem?_eq_getElem hlt⟩
        obtain ⟨hlt', ej⟩ := List.getElem?_eq_some_iff.mp hj
        have ed : r.drop t = j :: r.drop (t + 1) := by rw [List.drop_eq_getElem_cons hlt', ej]
        have ec : cdR (r.drop t) = 8 * cdR (r.drop (t + 1)) + j := congrArg cdR ed
        have hd1 : Dg n (r.drop (t + 1)) := fun j hj => hdg j (List.mem_of_mem_drop hj)
        have hcd := Nat.lt_of_lt_of_le (cdR_lt n6 hd1) (pw8 _ (by rw [List.length_drop]; omega))
        have hjn : j < n := hdg j (List.mem_of_getElem? hj)
        have l6' : lv_get 6 L = some (.int (nI t)) := l6
        rw [j253_73]
        refine rl_load l6 rfl (rl_ifF (dn_pos (by omega)) (rl_const (rl_load l5 rfl (rl_bin (z := nI (8 * cdR (r.drop (t + 1)))) (by show some (nI 8 * nI (cdR (r.drop (t + 1)))) = some _; rw [pk_mul]) (rl_load l0 rfl (ra_row hT3 hm (by rw [f131']; exact t92) f131 fun q92 hq92 => rl_load l6' rfl (ra_ald hT3.1 (by omega) (by omega) hq92 (hW3 t j hj) (by rw [k92]; rfl) (by omega) (rl_bin (z := nI (cdR (r.drop t))) (by show some _ = some _; rw [nI_plus (by omega), ec]) (rl_store rfl (rl_iinc (get_put rfl rfl (by omega) l6') (rl_goto ?_)))))))))))
        rw [dn_down (by omega)]
        exact ih _ hp (by omega) (get_put rfl rfl (by omega) (get_put rfl rfl (by omega) l0)) (get_put rfl rfl (by omega) (get_put rfl rfl (by omega) l2)) (get_put rfl rfl (by omega) (get_put rfl rfl (by omega) l4)) (get_put rfl rfl (by omega) rfl) rfl
    rw [j253_58]
    refine rl_load l4 rfl (rl_calls (as := [.int (nI (soR r))]) (r := []) s178 rfl rfl (by show 0 ≤ 8; omega) ok1 (M_ones hb0 (rl_load l2 rfl ?_)))
    have hle := soR_pc n6 hdg
    by_cases hp : pcB (soR r) = s
    · refine rl_icmpT (by show some (decide (nI s ≤ nI (pcB (soR r)))) = some true; rw [hp, decide_eq_true ((tx_le (by omega) (by omega)).mpr (Nat.le_refl _))]) ?_
      show Rt σ 253 (jump 253 68) _ _ _ _
      rw [j253_68]
      refine rl_load l2 rfl (rl_const (rl_bin (z := dnI s) (by show some (nI s - Int32.ofInt 1) = some _; rw [dn_start]) (rl_store rfl ?_)))
      have e0 : cdR (r.drop s) = 0 := by
        rw [← hr1, List.drop_length]
        rfl
      exact codes s _ hp (Nat.le_refl _) (get_put rfl rfl (by omega) l0) (get_put rfl rfl (by omega) l2) (get_put rfl rfl (by omega) l4) (get_put rfl rfl (by omega) (by rw [e0]; exact l5)) rfl
    · refine rl_icmpF (by show some (decide (nI s ≤ nI (pcB (soR r)))) = some false; rw [decide_eq_false (by rw [tx_le (by omega) (by omega)]; omega)]) (rl_ret0 (same fun hS => trs_same n6 hrl hdg hr1 hval hS (fun e => absurd e hp)))
  -- the figures
  have figs : ∀ (t v : Nat) (F : List Nat) (h3 : AH) (L : LV), t ≤ s → v < 100000 → rlR n t v ++ F = r → TS ad h3 np ex ho → FrmM ad h h3 → (∀ c' i' p' W, c' ≠ 92 → At ad h c' i' p' W → At ad h3 c' i' p' W) → (∀ k j, F[k]? = some j → At ad h3 92 0 (t + k) (.int (nI j))) → lv_get 0 L = some (.ref m) → lv_get 2 L = some (.int (nI s)) → lv_get 3 L = some (.int (nI v)) → lv_get 4 L = some (.int (nI (soR F))) → lv_get 5 L = some (.int (nI 0)) → lv_get 6 L = some (.int (dnI t)) → Rt σ 253 (jump 253 13) L [] h3 Q := by
    intro t
    induction t with
    | zero =>
      intro v F h3 L ht hv eF hT3 hF3 hO3 hA3 l0 l2 l3 l4 l5 l6
      replace eF : F = r := eF
      rw [eF] at l4 hA3
      rw [j253_13]
      refine rl_load l6 rfl (rl_ifT dn_neg ?_)
      show Rt σ 253 (jump 253 58) _ _ _ _
      exact fin h3 L hT3 hF3 hO3 (fun k j hj => by
        have z := hA3 k j hj
        rw [Nat.zero_add] at z
        exact z) l0 l2 l4 l5
    | succ t ih =>
      intro v F h3 L ht hv eF hT3 hF3 hO3 hA3 l0 l2 l3 l4 l5 l6
      replace eF : (rlR n t (v / n) ++ [v % n]) ++ F = r := eF
      rw [List.append_assoc] at eF
      replace eF : rlR n t (v / n) ++ (v % n :: F) = r := eF
      have hmod := Nat.mod_lt v hn0
      have hdF : Dg n F := fun j hj => hdg j (by
        rw [← eF]
        exact List.mem_append_right _ (List.mem_cons_of_mem _ hj))
      have hsF := soR_lt n6 hdF
      have hdiv : v / n < 100000 := by
        have := Nat.div_le_self v n
        omega
      have l6' : lv_get 6 L = some (.int (nI t)) := l6
      have htk3 := hO3 _ _ _ _ (by omega) htk
      rw [j253_13]
      refine rl_load l6 rfl (rl_ifF (dn_pos (by omega)) (rl_load l0 rfl (ra_row hT3 hm (by rw [f131']; exact t92) f131 fun q92 hq92 => rl_load l6' rfl (rl_load l3 rfl (rl_load l0 rfl (ra_get hT3.1 (by omega) (by omega) hm (by rw [f150']; exact htk3) (by rw [c11']; exact f150) (rl_bin (z := nI (v % n)) (by show (if nI n = 0 then none else some (nI v - nI v / nI n * nI n)) = some _; rw [if_neg nz, pk_rem (by omega) hn0 (by omega)]) (rl_prow hT3 pr_92 hq92 (by omega) (by omega) (by rw [nI_ok (by omega)]; omega) fun h4 hT4 hO4 => ?_))))))))
      have htk4 := hO4.1.2 _ _ _ _ (fun f => by omega) htk3
      have a4 := hO4.1.1
      refine rl_load l3 rfl (rl_load l0 rfl (ra_get hT4.1 (by omega) (by omega) hm (by rw [f150']; exact htk4) (by rw [c11']; exact f150) (rl_bin (z := nI (v / n)) (by show (if nI n = 0 then none else some (nI v / nI n)) = some _; rw [if_neg nz, pk_div (by omega) hn0 (by omega)]) (rl_store rfl ?_))))
      have g3 : ∀ {k : Nat} {u : Value}, ¬ k = 3 → u.category = 1 → lv_get k L = some u → lv_get k (lv_put 3 (.int (nI (v / n))) L) = some u := fun {k u} hk hu hz => get_put hu rfl (by omega) hz
      refine rl_load (g3 (by omega) rfl l4) rfl (rl_const (rl_load (g3 (by omega) rfl l0) rfl (ra_row hT4 hm (by rw [f131']; exact t92) f131 fun q92' hq92' => rl_load (g3 (by omega) rfl l6') rfl (ra_ald hT4.1 (by omega) (by omega) hq92' a4 (by rw [k92]; rfl) (by omega) (rl_bin rfl (rl_bin (z := nI (soR F ||| 2 ^ (v % n))) (by show some (nI (soR F) ||| (Int32.ofInt 1 <<< (nI (v % n) &&& 31))) = some _; rw [bq_or2 _ hsF _ (by omega)]) (rl_store rfl (rl_iinc (get_put rfl rfl (by omega) (g3 (by omega) rfl l6')) (rl_goto ?_)))))))))
      rw [dn_down (by omega)]
      have g4 : ∀ {k : Nat} {u : Value} {b1 b2 : Value}, b1.category = 1 → b2.category = 1 → ¬ k = 3 → ¬ k = 4 → ¬ k = 6 → u.category = 1 → lv_get k L = some u → lv_get k (lv_put 6 b1 (lv_put 4 b2 (lv_put 3 (.int (nI (v / n))) L))) = some u := fun {k u b1 b2} c1 c2 h3 h4 h6 hu hz => get_put hu c1 (by omega) (get_put hu c2 (by omega) (g3 h3 hu hz))
      refine ih (v / n) (v % n :: F) h4 _ (by omega) hdiv eF hT4 (fm_trans hF3 (fm_one hO4 (Or.inl ⟨by omega, by omega⟩))) (fun c' i' p' W hc ha => hO4.1.2 c' i' p' W (fun e => hc e.1) (hO3 c' i' p' W hc ha)) (fun k j hj => ?_) (g4 rfl rfl (by omega) (by omega) (by omega) rfl l0) (g4 rfl rfl (by omega) (by omega) (by omega) rfl l2) (get_put rfl rfl (by omega) (get_put rfl rfl (by omega) rfl)) (get_put rfl rfl (by omega) rfl) (g4 rfl rfl (by omega) (by omega) (by omega) rfl l5) rfl
      cases k with
      | zero =>
        rw [List.getElem?_cons_zero] at hj
        cases hj
        exact a4
      | succ k =>
        rw [List.getElem?_cons_succ] at hj
        have z := hO4.1.2 _ _ _ _ (fun f => by omega) (hA3 k j hj)
        rw [show t + (k + 1) = t + 1 + k by omega]
        exact z
  rw [head_253]
  refine rl_load rfl rfl (rl_store rfl (rl_const (rl_store rfl (rl_const (rl_store rfl (rl_load (v := .int (nI s)) rfl rfl (rl_const (rl_bin (z := dnI s) (by show some (nI s - Int32.ofInt 1) = some _; rw [dn_start]) (rl_store rfl ?_)))))))))
  exact figs s w [] h _ (Nat.le_refl _) hw5 (by rw [List.append_nil, er]) hT fm_refl (fun _ _ _ _ _ ha => ha) (fun k j hj => by
    rw [List.getElem?_nil] at hj
    cases hj) rfl rfl rfl rfl rfl rfl
/-- all rows are tried -/
theorem M_tours (hT : TS ad h np ex ho) (hm : ad 11 0 = some m) (hD : PD ad h n T tk d sz) (hrc : At ad h 11 0 58 (.int (nI rc))) (hrl : rc < 1000000) (hk : ∀ h2 mf cf, TS ad h2 np ex ho → FrmM ad h h2 → MfS ad h2 n mf cf → (∀ S, S < 2 ^ n → mf S = smS n (hwD n T tk d) (onD n T tk d sz) rc S ∧ cf S = srS n (hwD n T tk d) (onD n T tk d sz) rc S) → Q none h2) : Rt σ 252 (codeOf 252) (am_args 0 [.ref m]) [] h Q := by
  obtain ⟨⟨-, ⟨⟨f129, f129'⟩, f130, f130'⟩, -⟩, ⟨⟨f150, f150'⟩, -⟩, -⟩ := qm_f
  obtain ⟨-, t90, t91, -⟩ := pl_t
  obtain ⟨⟨⟨-, -, s177⟩, -⟩, -⟩ := qm_s
  obtain ⟨⟨⟨-, -, m253⟩, -⟩, -⟩ := qm_m
  obtain ⟨⟨⟨c11, c11'⟩, -⟩, -⟩ := m_cls
  have n6 : n ≤ 6 := hD.1.1.1.1.1
  have b64 := bq_lt n (by omega)
  have h6 := hwD_6 (T := T) (tk := tk) (d := d) n6
  have outer : ∀ (r s : Nat) (h3 : AH) (mf cf : Nat → Nat) (L : LV), s + r = n + 1 → 1 ≤ s → TS ad h3 np ex ho → FrmM ad h h3 → MfS ad h3 n mf cf → TrS n (hwD n T tk d) (onD n T tk d sz) rc s 0 mf cf → lv_get 0 L = some (.ref m) → lv_get 1 L = some (.int (nI s)) → Rt σ 252 (jump 252 39) L [] h3 Q := by
    intro r
    induction r with
    | zero =>
      intro s h3 mf cf L hs hs1 hT3 hF3 hM3 hS3 l0 l1
      have es : s = n + 1 := by omega
      subst es
      have htk3 := (pd_frm (fm_frm hF3) hD).1.1.2.1.1
      rw [j252_39]
      refine rl_load l1 rfl (rl_load l0 rfl (ra_get hT3.1 (by omega) (by omega) hm (by rw [f150']; exact htk3) (by rw [c11']; exact f150) (rl_icmpT (by show some (decide (nI n < nI (n + 1))) = some true; rw [decide_eq_true ((tx_lt (by omega) (by omega)).mpr (by omega))]) ?_)))
      show Rt σ 252 (jump 252 94) _ _ _ _
      rw [j252_94]
      exact rl_ret0 (hk h3 mf cf hT3 hF3 hM3 (trs_end n6 hS3))
    | succ r ih =>
      intro s h3 mf cf L hs hs1 hT3 hF3 hM3 hS3 l0 l1
      have htk3 := (pd_frm (fm_frm hF3) hD).1.1.2.1.1
      have hps := pw6 n (by omega) s (by omega)
      have rows : ∀ (q W : Nat) (h4 : AH) (mf cf : Nat → Nat) (L : LV), W + q = n ^ s → TS ad h4 np ex ho → FrmM ad h h4 → MfS ad h4 n mf cf → TrS n (hwD n T tk d) (onD n T tk d sz) rc s W mf cf → lv_get 0 L = some (.ref m) → lv_get 1 L = some (.int (nI s)) → lv_get 2 L = some (.int (nI (n ^ s))) → lv_get 3 L = some (.int (nI W)) → Rt σ 252 (jump 252 71) L [] h4 Q := by
        intro q
        induction q with
        | zero =>
          intro W h4 mf cf L hW hT4 hF4 hM4 hS4 l0 l1 l2 l3
          have eW : W = n ^ s := by omega
          rw [eW] at hS4 l3
          rw [j252_71]
          refine rl_load l3 rfl (rl_load l2 rfl (rl_icmpT (by show some (decide (nI (n ^ s) ≤ nI (n ^ s))) = some true; rw [decide_eq_true ((tx_le (by omega) (by omega)).mpr (Nat.le_refl _))]) ?_))
          show Rt σ 252 (jump 252 88) _ _ _ _
          rw [j252_88]
          refine rl_iinc l1 (rl_goto ?_)
          rw [nI_suc (by omega)]
          exact ih (s + 1) h4 mf cf _ (by omega) (by omega) hT4 hF4 hM4 (trs_next n6 hrl hS4) (get_put rfl rfl (by omega) l0) rfl
        | succ q ihq =>
          intro W h4 mf cf L hW hT4 hF4 hM4 hS4 l0 l1 l2 l3
          have hrc4 := hF4.1 _ _ _ _ nx58 hrc
          obtain ⟨vm, xm, -⟩ := at_kind hT4.1 (by omega) (by omega) hrc4 hm
          rw [c11'] at xm
          rw [j252_71]
          refine rl_load l3 rfl (rl_load l2 rfl (rl_icmpF (by show some (decide (nI (n ^ s) ≤ nI W)) = some false; rw [decide_eq_false (by rw [tx_le (by omega) (by omega)]; omega)]) (rl_load l0 rfl (rl_load l3 rfl (rl_load l1 rfl (rl_callv (as := [.int (nI W), .int (nI s)]) (r := []) s177 rfl rfl xm (by show 0 ≤ 8; omega) (three_ok m253) (M_tries hT4 hm (pd_frm (fm_frm hF4) hD) hrc4 hrl hs1 (by omega) (by omega) hM4 fun h5 mf' cf' hT5 hF5 hM5 hz => ?_)))))))
          refine rl_iinc l3 (rl_goto ?_)
          rw [nI_suc (by omega)]
          exact ihq (W + 1) h5 mf' cf' _ (by omega) hT5 (fm_trans hF4 hF5) hM5 (hz hS4) (get_put rfl rfl (by omega) l0) (get_put rfl rfl (by omega) l1) (get_put rfl rfl (by omega) l2) rfl
      have pows : ∀ (q k : Nat) (L : LV), k + q = s → lv_get 0 L = some (.ref m) → lv_get 1 L = some (.int (nI s)) → lv_get 2 L = some (.int (nI (n ^ k))) → lv_get 3 L = some (.int (nI k)) → Rt σ 252 (jump 252 51) L [] h3 Q := by
        intro q
        induction q with
        | zero =>
          intro k L hk l0 l1 l2 l3
          have ek : k = s := by omega
          rw [ek] at l2 l3
          rw [j252_51]
          refine rl_load l3 rfl (rl_load l1 rfl (rl_icmpT (by show some (decide (nI s ≤ nI s)) = some true; rw [decide_eq_true ((tx_le (by omega) (by omega)).mpr (Nat.le_refl _))]) ?_))
          show Rt σ 252 (jump 252 69) _ _ _ _
          rw [j252_69]
          refine rl_const (rl_store rfl ?_)
          exact rows (n ^ s) 0 h3 mf cf _ (Nat.zero_add _) hT3 hF3 hM3 hS3 (get_put rfl rfl (by omega) l0) (get_put rfl rfl (by omega) l1) (get_put rfl rfl (by omega) l2) rfl
        | succ q ihq =>
          intro k L hk l0 l1 l2 l3
          rw [j252_51]
          refine rl_load l3 rfl (rl_load l1 rfl (rl_icmpF (by show some (decide (nI s ≤ nI k)) = some false; rw [decide_eq_false (by rw [tx_le (by omega) (by omega)]; omega)]) (rl_load l2 rfl (rl_load l0 rfl (ra_get hT3.1 (by omega) (by omega) hm (by rw [f150']; exact htk3) (by rw [c11']; exact f150) (rl_bin (z := nI (n ^ (k + 1))) (by show some (nI (n ^ k) * nI n) = some _; rw [pk_mul, Nat.pow_succ]) (rl_store rfl (rl_iinc (get_put rfl rfl (by omega) l3) (rl_goto ?_)))))))))
          rw [nI_suc (by omega)]
          exact ihq (k + 1) _ (by omega) (get_put rfl rfl (by omega) (get_put rfl rfl (by omega) l0)) (get_put rfl rfl (by omega) (get_put rfl rfl (by omega) l1)) (get_put rfl rfl (by omega) rfl) rfl
      rw [j252_39]
      refine rl_load l1 rfl (rl_load l0 rfl (ra_get hT3.1 (by omega) (by omega) hm (by rw [f150']; exact htk3) (by rw [c11']; exact f150) (rl_icmpF (by show some (decide (nI n < nI s)) = some false; rw [decide_eq_false (by rw [tx_lt (by omega) (by omega)]; omega)]) (rl_const (rl_store rfl (rl_const (rl_store rfl ?_)))))))
      exact pows s 0 _ (Nat.zero_add _) (get_put rfl rfl (by omega) (get_put rfl rfl (by omega) l0)) (get_put rfl rfl (by omega) (get_put rfl rfl (by omega) l1)) (get_put rfl rfl (by omega) (by rw [Nat.pow_zero]; rfl)) rfl
  have init : ∀ (q k : Nat) (h3 : AH) (L : LV), k + q = 64 → TS ad h3 np ex ho → FrmM ad h h3 → (∀ S, S < k → At ad h3 90 0 S (.int (nI 1000000)) ∧ At ad h3 91 0 S (.int (nI 0))) → lv_get 0 L = some (.ref m) → lv_get 1 L = some (.int (nI k)) → Rt σ 252 (jump 252 2) L [] h3 Q := by
    intro q
    induction q with
    | zero =>
      intro k h3 L hk hT3 hF3 hA3 l0 l1
      have ek : k = 64 := by omega
      subst ek
      rw [j252_2]
      refine rl_load l1 rfl (rl_const (rl_icmpT (by show some (decide (nI 64 ≤ nI 64)) = some true; rw [decide_eq_true ((tx_le (by omega) (by omega)).mpr (Nat.le_refl _))]) ?_))
      show Rt σ 252 (jump 252 30) _ _ _ _
      rw [j252_30]
      refine rl_load l0 rfl (ra_row hT3 hm (by rw [f129']; exact t90) f129 fun q90 hq90 => rl_const (rl_const (rl_prow (j := 0) hT3 pr_90 hq90 (by omega) (by omega) i2n_full fun h4 hT4 hO4 => rl_const (rl_store rfl ?_))))
      refine outer n 1 h4 (fun S => if S = 0 then 0 else 1000000) (fun _ => 0) _ (by omega) (Nat.le_refl _) hT4 (fm_trans hF3 (fm_one hO4 (Or.inl ⟨by omega, by omega⟩))) (fun S hS => ?_) (trs_0 n6 h6 ⟨rfl, rfl⟩ fun S hS => ⟨if_neg hS, rfl⟩) (get_put rfl rfl (by omega) l0) rfl
      obtain ⟨z1, z2⟩ := hA3 S (by omega)
      dsimp only
      by_cases e : S = 0
      · rw [if_pos e]
        rw [e] at z2 ⊢
        exact ⟨⟨hO4.1.1, by omega⟩, hO4.1.2 _ _ _ _ (fun f => by omega) z2⟩
      · rw [if_neg e]
        exact ⟨⟨hO4.1.2 _ _ _ _ (fun f => e f.2.2) z1, Nat.le_refl _⟩, hO4.1.2 _ _ _ _ (fun f => by omega) z2⟩
    | succ q ih =>
      intro k h3 L hk hT3 hF3 hA3 l0 l1
      rw [j252_2]
      refine rl_load l1 rfl (rl_const (rl_icmpF (by show some (decide (nI 64 ≤ nI k)) = some false; rw [decide_eq_false (by rw [tx_le (by omega) (by omega)]; omega)]) (rl_load l0 rfl (ra_row hT3 hm (by rw [f129']; exact t90) f129 fun q90 hq90 => rl_load l1 rfl (rl_const (rl_prow hT3 pr_90 hq90 (by omega) (by omega) i2n_full fun h4 hT4 hO4 => ?_))))))
      refine rl_load l0 rfl (ra_row hT4 hm (by rw [f130']; exact t91) f130 fun q91 hq91 => rl_load l1 rfl (rl_const (rl_prow hT4 pr_91 hq91 (by omega) (by omega) i2n_full fun h5 hT5 hO5 => rl_iinc l1 (rl_goto ?_))))
      rw [nI_suc (by omega)]
      refine ih (k + 1) h5 _ (by omega) hT5 (fm_trans hF3 (fm_trans (fm_one hO4 (Or.inl ⟨by omega, by omega⟩)) (fm_one hO5 (Or.inl ⟨by omega, by omega⟩)))) (fun S hS => ?_) (get_put rfl rfl (by omega) l0) rfl
      by_cases e : S = k
      · rw [e]
        exact ⟨hO5.1.2 _ _ _ _ (fun f => by omega) hO4.1.1, hO5.1.1⟩
      · obtain ⟨z1, z2⟩ := hA3 S (by omega)
        exact ⟨hO5.1.2 _ _ _ _ (fun f => by omega) (hO4.1.2 _ _ _ _ (fun f => e f.2.2) z1), hO5.1.2 _ _ _ _ (fun f => e f.2.2) (hO4.1.2 _ _ _ _ (fun f => by omega) z2)⟩
  rw [head_252]
  refine rl_const (rl_store rfl ?_)
  exact init 64 0 h _ rfl hT fm_refl (fun S hS => absurd hS (Nat.not_lt_zero _)) rfl rfl
end
end
