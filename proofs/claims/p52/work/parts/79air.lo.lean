section
/-! LOST, as both sides count it -/
noncomputable def mE (d : Nat → LD) (N e : Nat) : Int32 := fR (fS d (some e) (dTr (d e)) (dSz (d e)) (dHt (d e)) N) (dSz (d e)) (dHt (d e)) (Int32.ofInt 1)
noncomputable def lInc (d : Nat → LD) (day lo wk : Int32) (e : Nat) : Bool := (dLd (d e) && (decide (dLo (d e) = lo) && decide (dDl (d e) / Int32.ofInt 7 = wk))) && (decide (0 < dWt (d e)) || decide (¬ day - dDl (d e) < Int32.ofInt 14))
noncomputable def lS (d : Nat → LD) (N : Nat) (day lo wk : Int32) (e : Nat) : Int32 × (Int32 × Nat) := match e with
  | 0 => (0, 0, 0)
  | e + 1 => bif lInc d day lo wk e then ((lS d N day lo wk e).1 + mE d N e, (lS d N day lo wk e).2.1 + dWt (d e), (lS d N day lo wk e).2.2 + 1) else lS d N day lo wk e
noncomputable def lR (s : Int32 × (Int32 × Nat)) (wh : Int32) : Int32 := if wh = 0 then s.1 - s.2.1 else if wh = Int32.ofInt 1 then s.1 else nI s.2.2
section
variable {σ : Nat → Nat} {ad : AD} {h : AH} {np N ox m e n : Nat} {ex ho : Nat → Nat → Prop} {Q : Option Value → AH → Prop} {kn day lo wk wh : Int32} {d : Nat → LD} {tl : List (Nat × AI)} {L : LV} {S : List Value} {M pc : Nat} {c : Int}
theorem lS_le : ∀ e, (lS d N day lo wk e).2.2 ≤ e := by
  intro e
  induction e with
  | zero => exact Nat.le_refl _
  | succ e ih =>
    rw [lS]
    cases lInc d day lo wk e
    · rw [cond_false]; omega
    · rw [cond_true]
      show _ + 1 ≤ e + 1
      omega
theorem lInc_mk (h1 : dLd (d e) = true) (h2 : dLo (d e) = lo) (h3 : dDl (d e) / Int32.ofInt 7 = wk) (h4 : 0 < dWt (d e) ∨ ¬ day - dDl (d e) < Int32.ofInt 14) : lInc d day lo wk e = true := by
  unfold lInc
  rw [h1, decide_eq_true h2, decide_eq_true h3]
  rcases h4 with h4 | h4
  · rw [decide_eq_true h4]
    rfl
  · rw [decide_eq_true h4, Bool.or_true]
    rfl
theorem lInc_no (hn : ¬ ((dLd (d e) = true ∧ (dLo (d e) = lo ∧ dDl (d e) / Int32.ofInt 7 = wk)) ∧ (0 < dWt (d e) ∨ ¬ day - dDl (d e) < Int32.ofInt 14))) : lInc d day lo wk e = false := by
  cases hi : lInc d day lo wk e
  · rfl
  · exfalso
    obtain ⟨a, b⟩ := and2 hi
    obtain ⟨a1, a2⟩ := and2 a
    obtain ⟨a2, a3⟩ := and2 a2
    refine hn ⟨⟨a1, of_decide_eq_true a2, of_decide_eq_true a3⟩, ?_⟩
    rcases Bool.or_eq_true_iff.mp b with b | b
    · exact Or.inl (of_decide_eq_true b)
    · exact Or.inr (of_decide_eq_true b)
theorem X_expected (hT : TS ad h np ex ho) (hox : ad 10 0 = some ox) (hF : FtH ad h N kn d) (he : e < N) {q5 q6 : Nat} (hq5 : ad 5 e = some q5) (hq6 : ad 6 e = some q6) (hht : At ad h 6 e 2 (.int (dHt (d e)))) (hQ : Q (some (.int (mE d N e))) h) : Rt σ 92 (codeOf 92) (am_args 0 [.ref ox, .ref q5, .ref q6]) [] h Q := by
  obtain ⟨⟨-, f33, f33'⟩, ⟨f31, f31'⟩, f20, f20'⟩ := ft_f.1
  obtain ⟨⟨⟨f38, f38'⟩, -⟩, -⟩ := ft_f.2
  obtain ⟨⟨⟨⟨c10, c10'⟩, -⟩, -⟩, -⟩ := pm_c
  obtain ⟨⟨⟨⟨c6, c6'⟩, c5, c5'⟩, -⟩, -⟩ := wt_c
  obtain ⟨-, -, c3, c3'⟩ := ft_c
  obtain ⟨⟨-, s64, -⟩, -⟩ := ft_sp
  obtain ⟨⟨⟨-, m89, -⟩, -⟩, -⟩ := ft_ml
  obtain ⟨-, ⟨⟨ft1, -⟩, sj, qs, ⟨fk1, fk2⟩, -, fz1, -⟩, -⟩ := hF.2 e he
  obtain ⟨vx, x1, -⟩ := at_kind hT.1 (by omega) (by omega) hF.1.2.2.1 hox
  rw [c10'] at x1
  have mok : am_ok [.ref ox, .int (dTr (d e)), .int (dSz (d e)), .int (dHt (d e)), .int (Int32.ofInt 1), .ref q5] 89 = true := by
    unfold am_ok
    rw [decide_eq_true (show ([.ref ox, .int (dTr (d e)), .int (dSz (d e)), .int (dHt (d e)), .int (Int32.ofInt 1), .ref q5] : List Value).length ≤ mL 89 from m89)]
    rfl
  rw [code_92]
  exact rl_load rfl rfl (rl_load rfl rfl (ra_get hT.1 (by omega) (by omega) hq5 (by rw [f33']; exact ft1) (by rw [c5']; exact f33) (rl_load rfl rfl (ra_get hT.1 (by omega) (by omega) hq5 (by rw [f31']; exact fk1) (by rw [c5']; exact f31) (ra_get hT.1 (by omega) (by omega) fk2 (by rw [f20']; exact fz1) (by rw [c3']; exact f20) (rl_load rfl rfl (ra_get hT.1 (by omega) (by omega) hq6 (by rw [f38']; exact hht) (by rw [c6']; exact f38) (rl_const (rl_load rfl rfl (rl_callv (as := [.int (dTr (d e)), .int (dSz (d e)), .int (dHt (d e)), .int (Int32.ofInt 1), .ref q5]) (r := []) s64 rfl rfl x1 (by show 0 ≤ 8; omega) mok (X_foretold hT hox hF (Or.inr ⟨e, q5, rfl, rfl, hq5⟩) (rl_ret1 hQ))))))))))))
theorem M_meanOf (hT : TS ad h np ex ho) (hm : ad 11 0 = some m) (hF : FtH ad h N kn d) (he : e < N) (hht : At ad h 76 0 e (.int (dHt (d e)))) (hhr : 2147483648 ≤ i2n (dHt (d e)) ∧ i2n (dHt (d e)) ≤ 2147483848) (hQ : Q (some (.int (mE d N e))) h) : Rt σ 226 (codeOf 226) (am_args 0 [.ref m, .int (nI e)]) [] h Q := by
  obtain ⟨-, -, ⟨⟨f107, f107'⟩, f113, f113'⟩, -⟩ := ft_f
  obtain ⟨⟨⟨-, -, k70⟩, -, -, -, k76⟩, ⟨⟨t70, t76⟩, -⟩, -⟩ := ft_c
  obtain ⟨-, -, ⟨⟨-, s158⟩, s159, -⟩, -⟩ := ft_sp
  obtain ⟨-, ⟨⟨-, m221⟩, m223, -⟩, -⟩ := ft_ml
  obtain ⟨⟨⟨c11, c11'⟩, -⟩, -⟩ := m_cls
  obtain ⟨h60, ⟨⟨-, ft2⟩, -⟩, -⟩ := hF.2 e he
  obtain ⟨vm, xm, -⟩ := at_kind hT.1 (by omega) (by omega) hF.1.2.1 hm
  rw [c11'] at xm
  have mok : am_ok [.ref m, .int (dTr (d e)), .int (dSz (d e)), .int (dHt (d e)), .int (nI e), .int (Int32.ofInt 1)] 223 = true := by
    unfold am_ok
    rw [decide_eq_true (show ([.ref m, .int (dTr (d e)), .int (dSz (d e)), .int (dHt (d e)), .int (nI e), .int (Int32.ofInt 1)] : List Value).length ≤ mL 223 from m223)]
    rfl
  rw [code_226]
  exact rl_load rfl rfl (rl_load rfl rfl (ra_row hT hm (by rw [f107']; exact t70) f107 fun q70 hq70 => rl_load rfl rfl (ra_ald hT.1 (by omega) (by omega) hq70 ft2 (by rw [k70]; rfl) (by omega) (rl_load rfl rfl (rl_load rfl rfl (rl_callv (as := [.int (nI e)]) (r := [.int (dTr (d e)), .ref m]) s158 rfl rfl xm (by show 2 ≤ 8; omega) (two_ok m221) (M_sizeOf hT hm hF he (rl_load rfl rfl (ra_row hT hm (by rw [f113']; exact t76) f113 fun q76 hq76 => rl_load rfl rfl (ra_ald hT.1 (by omega) (by omega) hq76 hht (by rw [k76]; rfl) (by omega) (rl_load rfl rfl (rl_const (rl_callv (as := [.int (dTr (d e)), .int (dSz (d e)), .int (dHt (d e)), .int (nI e), .int (Int32.ofInt 1)]) (r := []) s159 rfl rfl xm (by show 0 ≤ 8; omega) mok (M_foretold hT hm hF hhr (Or.inr (Or.inl rfl)) (Or.inr ⟨e, rfl, rfl, h60⟩) (rl_ret1 hQ)))))))))))))))
theorem M_stands (hT : TS ad h np ex ho) (hm : ad 11 0 = some m) (hF : FtH ad h N kn d) (he : e < N) (hQ : Q (some (.int (bif dLd (d e) then 0 else 1))) h) : Rt σ 201 (codeOf 201) (am_args 0 [.ref m, .int (nI e)]) [] h Q := by
  obtain ⟨-, -, ⟨-, ⟨f111, f111'⟩, -⟩, -⟩ := wg_f
  obtain ⟨⟨⟨-, -, k74⟩, -⟩, -, -, ⟨⟨t40, -⟩, -⟩, -⟩ := wg_c
  obtain ⟨h60, -, fl⟩ := hF.2 e he
  rw [head_201]
  rcases fl with ⟨fl1, -, fl3, -⟩ | ⟨fl1, q6, n, ws, ts, ds, ⟨-, ⟨-, -⟩, ⟨-, g7⟩, -, -⟩, ⟨⟨d1, d2⟩, -⟩, -, -⟩
  · rw [fl1, cond_false] at hQ
    refine rl_load rfl rfl (ra_row hT hm (by rw [f111']; exact t40) f111 fun q74 hq74 => rl_load rfl rfl (ra_ald hT.1 (by omega) (by omega) hq74 fl3 (by rw [k74]; rfl) (by omega) (rl_const (rl_icmpF (by decide +kernel) (rl_const (rl_goto ?_))))))
    show Rt σ 201 (jump 201 15) _ _ _ _
    rw [j201_15]
    exact rl_ret4 (Or.inr rfl) hQ
  · rw [fl1, cond_true] at hQ
    have hne : ¬ dDl (d e) = Int32.ofInt (-1) := fun h => by
      rw [h, cw_m1] at d1
      omega
    refine rl_load rfl rfl (ra_row hT hm (by rw [f111']; exact t40) f111 fun q74 hq74 => rl_load rfl rfl (ra_ald hT.1 (by omega) (by omega) hq74 g7 (by rw [k74]; rfl) (by omega) (rl_const (rl_icmpT (by show some (decide (¬ dDl (d e) = Int32.ofInt (-1))) = some true; rw [decide_eq_true hne]) ?_))))
    show Rt σ 201 (jump 201 14) _ _ _ _
    rw [j201_14]
    refine rl_const ?_
    rw [j201_15]
    exact rl_ret4 (Or.inl rfl) hQ
theorem X_lostBy (hT : TS ad h np ex ho) (hox : ad 10 0 = some ox) (hF : FtH ad h N kn d) (hday : At ad h 10 0 0 (.int day)) (hQ : Q (some (.int (lR (lS d N day lo wk N) wh))) h) : Rt σ 91 (codeOf 91) (am_args 0 [.ref ox, .int lo, .int wk, .int wh]) [] h Q := by
  have hF0 := hF
  obtain ⟨⟨⟨hN, hl⟩, hLets, hkx, hkm⟩, hF⟩ := hF
  obtain ⟨-, ⟨f37, f37'⟩⟩ := ft_f.2.1
  obtain ⟨⟨-, ⟨f30, f30'⟩, -, f36, f36'⟩, -⟩ := wg_f
  obtain ⟨⟨⟨f11, f11'⟩, -⟩, -⟩ := wd_f
  obtain ⟨⟨⟨⟨c10, c10'⟩, -⟩, -⟩, -⟩ := pm_c
  obtain ⟨⟨⟨⟨c6, c6'⟩, c5, c5'⟩, -⟩, -⟩ := wt_c
  obtain ⟨⟨⟨-, s62⟩, -, s66⟩, -⟩ := ft_sp
  obtain ⟨⟨⟨⟨-, m86⟩, -, m92⟩, -⟩, -⟩ := ft_ml
  obtain ⟨vx, x1, -⟩ := at_kind hT.1 (by omega) (by omega) hkx hox
  rw [c10'] at x1
  have fin : ∀ (L : LV), lv_get 3 L = some (.int wh) → lv_get 4 L = some (.int (lS d N day lo wk N).1) → lv_get 5 L = some (.int (lS d N day lo wk N).2.1) → lv_get 6 L = some (.int (nI (lS d N day lo wk N).2.2)) → Rt σ 91 (jump 91 131) L [] h Q := fun L l3 l4 l5 l6 => by
    generalize lS d N day lo wk N = s at *
    rw [j91_131]
    unfold lR at hQ
    by_cases w0 : wh = 0
    · rw [if_pos w0] at hQ
      refine rl_load l3 rfl (rl_ifF (by show some (decide (¬ wh = 0)) = some false; rw [decide_eq_false (fun h => h w0)]) (rl_load l4 rfl (rl_load l5 rfl (rl_bin rfl (rl_goto ?_)))))
      show Rt σ 91 (jump 91 155) _ _ _ _
      rw [j91_155]
      exact rl_ret1 hQ
    rw [if_neg w0] at hQ
    refine rl_load l3 rfl (rl_ifT (by show some (decide (¬ wh = 0)) = some true; rw [decide_eq_true w0]) ?_)
    show Rt σ 91 (jump 91 143) _ _ _ _
    rw [j91_143]
    by_cases w1 : wh = Int32.ofInt 1
    · rw [if_pos w1] at hQ
      refine rl_load l3 rfl (rl_const (rl_icmpF (by show some (decide (¬ wh = Int32.ofInt 1)) = some false; rw [decide_eq_false (fun h => h w1)]) (rl_load l4 rfl (rl_goto ?_))))
      show Rt σ 91 (jump 91 155) _ _ _ _
      rw [j91_155]
      exact rl_ret1 hQ
    · rw [if_neg w1] at hQ
      refine rl_load l3 rfl (rl_const (rl_icmpT (by show some (decide (¬ wh = Int32.ofInt 1)) = some true; rw [decide_eq_true w1]) ?_))
      show Rt σ 91 (jump 91 153) _ _ _ _
      rw [j91_153]
      refine rl_load l6 rfl ?_
      rw [j91_155]
      exact rl_ret1 hQ
  have loop : ∀ (r e : Nat) (L : LV), e + r = N → lv_get 0 L = some (.ref ox) → lv_get 1 L = some (.int lo) → lv_get 2 L = some (.int wk) → lv_get 3 L = some (.int wh) → lv_get 4 L = some (.int (lS d N day lo wk e).1) → lv_get 5 L = some (.int (lS d N day lo wk e).2.1) → lv_get 6 L = some (.int (nI (lS d N day lo wk e).2.2)) → lv_get 7 L = some (.int (nI e)) → Rt σ 91 (jump 91 12) L [] h Q := by
    intro r
    induction r with
    | zero =>
      intro e L he l0 l1 l2 l3 l4 l5 l6 l7
      have ee : e = N := by omega
      subst ee
      rw [j91_12]
      refine rl_load l7 rfl (rl_lsz hT hox hl l0 (by show 1 ≤ 8; omega) (rl_icmpT ?_ ?_))
      · show some (decide (nI e ≤ nI e)) = some true
        rw [decide_eq_true ((tx_le (by omega) (by omega)).mpr (Nat.le_refl _))]
      · exact fin L l3 l4 l5 l6
    | succ r ih =>
      intro e L he l0 l1 l2 l3 l4 l5 l6 l7
      have heN : e < N := by omega
      obtain ⟨h60, -, fl⟩ := hF e heN
      rw [j91_12]
      refine rl_load l7 rfl (rl_lsz hT hox hl l0 (by show 1 ≤ 8; omega) (rl_icmpF ?_ (rl_lget hT hox hl hN l0 l7 heN (by show 0 ≤ 8; omega) fun q5 hq5 => rl_store rfl (rl_load rfl rfl ?_))))
      · show some (decide (nI N ≤ nI e)) = some false
        rw [decide_eq_false (by rw [tx_le (by omega) (by omega)]; omega)]
      have skip : ∀ (L' : LV), (∀ i v, i ≤ 7 → v.category = 1 → lv_get i L = some v → lv_get i L' = some v) → lInc d day lo wk e = false → Rt σ 91 (jump 91 125) L' [] h Q := fun L' hg hi => by
        have es : lS d N day lo wk (e + 1) = lS d N day lo wk e := by rw [lS, hi, cond_false]
        rw [j91_125]
        refine rl_iinc (hg 7 _ (by omega) rfl l7) (rl_goto ?_)
        rw [nI_suc (by omega)]
        have g : ∀ {i : Nat} {v : Value}, i ≤ 6 → v.category = 1 → lv_get i L = some v → lv_get i (lv_put 7 (.int (nI (e + 1))) L') = some v := fun {i v} hi hv hx => get_put hv rfl (by omega) (hg i v (by omega) hv hx)
        exact ih (e + 1) _ (by omega) (g (by omega) rfl l0) (g (by omega) rfl l1) (g (by omega) rfl l2) (g (by omega) rfl l3) (by rw [es]; exact g (by omega) rfl l4) (by rw [es]; exact g (by omega) rfl l5) (by rw [es]; exact g (by omega) rfl l6) rfl
      have g1 : ∀ {i : Nat} {v v1 v2 : Value}, i ≤ 7 → v.category = 1 → v1.category = 1 → v2.category = 1 → lv_get i L = some v → lv_get i (lv_put 9 v2 (lv_put 8 v1 L)) = some v := fun {i v v1 v2} hi hv h1 h2 hx => get_put hv h2 (by omega) (get_put hv h1 (by omega) hx)
      rcases fl with ⟨fl1, fl2, -⟩ | ⟨fl1, q6, n, ws, ts, ds, ⟨⟨g2, g3⟩, ⟨g4, -⟩, ⟨g6, -⟩, g8, -⟩, ⟨-, ht1, ht2⟩, ⟨hR, -⟩, hw⟩
      · refine ra_get hT.1 (by omega) (by omega) hq5 (by rw [f30']; exact fl2) (by rw [c5']; exact f30) (rl_store rfl (rl_load (v := .null) rfl rfl (rl_nulT0 ?_)))
        exact skip _ (fun i v hi hv hx => g1 hi hv rfl rfl hx) (lInc_no fun hc => by rw [fl1] at hc; exact Bool.noConfusion hc.1.1)
      have sk : ¬ ((dLd (d e) = true ∧ (dLo (d e) = lo ∧ dDl (d e) / Int32.ofInt 7 = wk)) ∧ (0 < dWt (d e) ∨ ¬ day - dDl (d e) < Int32.ofInt 14)) → Rt σ 91 (jump 91 125) (lv_put 9 (.ref q6) (lv_put 8 (.ref q5) L)) [] h Q := fun hc => skip _ (fun i v hi hv hx => g1 hi hv rfl rfl hx) (lInc_no hc)
      refine ra_get hT.1 (by omega) (by omega) hq5 (by rw [f30']; exact g2) (by rw [c5']; exact f30) (rl_store rfl (rl_load (v := .ref q6) rfl rfl (rl_nulF0 (rl_load (v := .ref q6) rfl rfl (ra_get hT.1 (by omega) (by omega) g3 (by rw [f37']; exact g4) (by rw [c6']; exact f37) (rl_load (g1 (by omega) rfl rfl rfl l1) rfl ?_))))))
      by_cases b1 : dLo (d e) = lo
      case neg => exact rl_icmpT (by show some (decide (¬ dLo (d e) = lo)) = some true; rw [decide_eq_true b1]) (sk fun hc => b1 hc.1.2.1)
      refine rl_icmpF (by show some (decide (¬ dLo (d e) = lo)) = some false; rw [decide_eq_false (fun h => h b1)]) (rl_load (v := .ref q6) rfl rfl (ra_get hT.1 (by omega) (by omega) g3 (by rw [f36']; exact g6) (by rw [c6']; exact f36) (rl_const (rl_div (by decide +kernel) (rl_load (g1 (by omega) rfl rfl rfl l2) rfl ?_)))))
      by_cases b2 : dDl (d e) / Int32.ofInt 7 = wk
      case neg => exact rl_icmpF (by show some (decide (dDl (d e) / Int32.ofInt 7 = wk)) = some false; rw [decide_eq_false b2]) (rl_goto (sk fun hc => b2 hc.1.2.2))
      refine rl_icmpT (by show some (decide (dDl (d e) / Int32.ofInt 7 = wk)) = some true; rw [decide_eq_true b2]) ?_
      show Rt σ 91 (jump 91 74) _ _ _ _
      rw [j91_74]
      refine rl_load (g1 (by omega) rfl rfl rfl l0) rfl (rl_load (v := .ref q6) rfl rfl (rl_callv (as := [.ref q6]) (r := []) s62 rfl rfl x1 (by show 0 ≤ 8; omega) (ref2_ok m86) (X_known hT hox hkx g3 hR hw (rl_store rfl (rl_load (v := .int (dWt (d e))) rfl rfl ?_)))))
      have g10 : ∀ {i : Nat} {v : Value}, i ≤ 7 → v.category = 1 → lv_get i L = some v → lv_get i (lv_put 10 (.int (dWt (d e))) (lv_put 9 (.ref q6) (lv_put 8 (.ref q5) L))) = some v := fun {i v} hi hv hx => get_put hv rfl (by omega) (g1 hi hv rfl rfl hx)
      have yes : (0 < dWt (d e) ∨ ¬ day - dDl (d e) < Int32.ofInt 14) → Rt σ 91 (jump 91 102) (lv_put 10 (.int (dWt (d e))) (lv_put 9 (.ref q6) (lv_put 8 (.ref q5) L))) [] h Q := fun hy => by
        have hinc := lInc_mk fl1 b1 b2 hy
        have es : lS d N day lo wk (e + 1) = ((lS d N day lo wk e).1 + mE d N e, (lS d N day lo wk e).2.1 + dWt (d e), (lS d N day lo wk e).2.2 + 1) := by rw [lS, hinc, cond_true]
        have hle := lS_le (d := d) (N := N) (day := day) (lo := lo) (wk := wk) e
        have mok : am_ok [.ref ox, .ref q5, .ref q6] 92 = true := by
          unfold am_ok
          rw [decide_eq_true (show ([.ref ox, .ref q5, .ref q6] : List Value).length ≤ mL 92 from m92)]
          rfl
        rw [j91_102]
        refine rl_load (g10 (by omega) rfl l4) rfl (rl_load (g10 (by omega) rfl l0) rfl (rl_load (v := .ref q5) rfl rfl (rl_load (v := .ref q6) rfl rfl (rl_callv (as := [.ref q5, .ref q6]) (r := [.int (lS d N day lo wk e).1]) s66 rfl rfl x1 (by show 1 ≤ 8; omega) mok (X_expected hT hox hF0 heN hq5 g3 g8 (rl_bin rfl (rl_store rfl (rl_load (get_put rfl rfl (by omega) (g10 (by omega) rfl l5)) rfl (rl_load (v := .int (dWt (d e))) (get_put rfl rfl (by omega) rfl) rfl (rl_bin rfl (rl_store rfl (rl_iinc (get_put rfl rfl (by omega) (get_put rfl rfl (by omega) (g10 (by omega) rfl l6))) ?_))))))))))))
        rw [j91_125, nI_suc (by omega)]
        refine rl_iinc (get_put rfl rfl (by omega) (get_put rfl rfl (by omega) (get_put rfl rfl (by omega) (g10 (by omega) rfl l7)))) (rl_goto ?_)
        rw [nI_suc (by omega)]
        have g6' : ∀ {i : Nat} {v : Value}, i ≤ 3 → v.category = 1 → lv_get i L = some v → lv_get i (lv_put 7 (.int (nI (e + 1))) (lv_put 6 (.int (nI ((lS d N day lo wk e).2.2 + 1))) (lv_put 5 (.int ((lS d N day lo wk e).2.1 + dWt (d e))) (lv_put 4 (.int ((lS d N day lo wk e).1 + mE d N e)) (lv_put 10 (.int (dWt (d e))) (lv_put 9 (.ref q6) (lv_put 8 (.ref q5) L))))))) = some v := fun {i v} hi hv hx => get_put hv rfl (by omega) (get_put hv rfl (by omega) (get_put hv rfl (by omega) (get_put hv rfl (by omega) (g10 (by omega) hv hx))))
        refine ih (e + 1) _ (by omega) (g6' (by omega) rfl l0) (g6' (by omega) rfl l1) (g6' (by omega) rfl l2) (g6' (by omega) rfl l3) ?_ ?_ ?_ rfl
        · rw [es]
          exact get_put rfl rfl (by omega) (get_put rfl rfl (by omega) (get_put rfl rfl (by omega) rfl))
        · rw [es]
          exact get_put rfl rfl (by omega) (get_put rfl rfl (by omega) rfl)
        · rw [es]
          exact get_put rfl rfl (by omega) rfl
      by_cases b3 : 0 < dWt (d e)
      · refine rl_ifT (by show some (decide (0 < dWt (d e))) = some true; rw [decide_eq_true b3]) ?_
        exact yes (Or.inl b3)
      refine rl_ifF (by show some (decide (0 < dWt (d e))) = some false; rw [decide_eq_false b3]) (rl_load (g10 (by omega) rfl l0) rfl (ra_get hT.1 (by omega) (by omega) hox (by rw [f11']; exact hday) (by rw [c10']; exact f11) (rl_load (v := .ref q6) rfl rfl (ra_get hT.1 (by omega) (by omega) g3 (by rw [f36']; exact g6) (by rw [c6']; exact f36) (rl_bin rfl (rl_const ?_))))))
      by_cases b4 : day - dDl (d e) < Int32.ofInt 14
      · refine rl_icmpT (by show some (decide (day - dDl (d e) < Int32.ofInt 14)) = some true; rw [decide_eq_true b4]) (skip _ (fun i v hi hv hx => g10 hi hv hx) (lInc_no fun hc => hc.2.elim b3 fun hc => hc b4))
      · refine rl_icmpF (by show some (decide (day - dDl (d e) < Int32.ofInt 14)) = some false; rw [decide_eq_false b4]) ?_
        exact yes (Or.inr b4)
  rw [head_91]
  refine rl_const (rl_store rfl (rl_const (rl_store rfl (rl_const (rl_store rfl (rl_const (rl_store rfl ?_)))))))
  exact loop N 0 _ (by omega) rfl rfl rfl rfl rfl rfl rfl rfl
theorem wt_pos (hF : ∀ e, e < N → e < 60 ∧ (PFs ad h e (d e) ∧ PFl ad h kn e (d e))) (he : e < N) (hl : dLd (d e) = true) (hw : dWt (d e) ≠ 0) : 0 < dWt (d e) := by
  rcases (hF e he).2.2 with ⟨hl', -⟩ | ⟨-, q, n, ws, ts, ds, -, -, ⟨hR, -⟩, hk⟩
  · rw [hl] at hl'
    cases hl'
  · rcases hk with ⟨-, hk⟩ | ⟨j, j1, -, hk⟩
    · exact absurd hk hw
    · rw [hk, i_lt, c_0]
      have := (hR.2.2.1 j j1).2.1
      omega
theorem sub_step {f w a b : Int32} : (f - w) + (a - b) = (f + a) - (w + b) := by
  simp only [Int32.sub_eq_add_neg, Int32.neg_add]
  rw [Int32.add_assoc f, Int32.add_assoc f, ← Int32.add_assoc (-w) a, Int32.add_comm (-w) a, Int32.add_assoc a]
theorem M_lostOf (hT : TS ad h np ex ho) (hm : ad 11 0 = some m) (hF : FtH ad h N kn d) (hday : At ad h 11 0 0 (.int day)) (hQ : Q (some (.int (lR (lS d N day lo wk N) wh))) h) : Rt σ 225 (codeOf 225) (am_args 0 [.ref m, .int lo, .int wk, .int wh]) [] h Q := by
  have hF0 := hF
  obtain ⟨⟨⟨hN, -⟩, hLets, -, hkm⟩, hF⟩ := hF
  obtain ⟨-, -, -, -, -, ⟨f112, f112'⟩⟩ := ft_f
  obtain ⟨-, -, ⟨⟨⟨f149, f149'⟩, -⟩, ⟨f111, f111'⟩, -⟩, -, f116, f116'⟩ := wg_f
  obtain ⟨-, -, f140, f140'⟩ := wd_f
  obtain ⟨⟨-, -, ⟨-, k75⟩, -⟩, ⟨-, -, -, t75⟩, -⟩ := ft_c
  obtain ⟨-, -, ⟨-, k79⟩, -⟩ := wt_c
  obtain ⟨⟨⟨-, -, k74⟩, -⟩, -, -, ⟨⟨t40, -⟩, -, t79⟩, -⟩ := wg_c
  obtain ⟨-, -, ⟨⟨s156, -⟩, -, s161⟩, -⟩ := ft_sp
  obtain ⟨-, ⟨⟨m218, -⟩, -, m226⟩, -⟩ := ft_ml
  obtain ⟨-, -, m201⟩ := ml_wg
  obtain ⟨⟨⟨c11, c11'⟩, -⟩, -⟩ := m_cls
  obtain ⟨vm, xm, -⟩ := at_kind hT.1 (by omega) (by omega) hLets hm
  rw [c11'] at xm
  have fin : ∀ (L : LV), lv_get 3 L = some (.int wh) → lv_get 4 L = some (.int ((lS d N day lo wk N).1 - (lS d N day lo wk N).2.1)) → lv_get 5 L = some (.int (lS d N day lo wk N).1) → lv_get 6 L = some (.int (nI (lS d N day lo wk N).2.2)) → Rt σ 225 (jump 225 147) L [] h Q := fun L l3 l4 l5 l6 => by
    generalize lS d N day lo wk N = s at *
    rw [j225_147]
    unfold lR at hQ
    by_cases w0 : wh = 0
    · rw [if_pos w0] at hQ
      refine rl_load l3 rfl (rl_ifF (by show some (decide (¬ wh = 0)) = some false; rw [decide_eq_false (fun h => h w0)]) (rl_load l4 rfl (rl_goto ?_)))
      show Rt σ 225 (jump 225 168) _ _ _ _
      rw [j225_168]
      exact rl_ret1 hQ
    rw [if_neg w0] at hQ
    refine rl_load l3 rfl (rl_ifT (by show some (decide (¬ wh = 0)) = some true; rw [decide_eq_true w0]) ?_)
    show Rt σ 225 (jump 225 156) _ _ _ _
    rw [j225_156]
    by_cases w1 : wh = Int32.ofInt 1
    · rw [if_pos w1] at hQ
      refine rl_load l3 rfl (rl_const (rl_icmpF (by show some (decide (¬ wh = Int32.ofInt 1)) = some false; rw [decide_eq_false (fun h => h w1)]) (rl_load l5 rfl (rl_goto ?_))))
      show Rt σ 225 (jump 225 168) _ _ _ _
      rw [j225_168]
      exact rl_ret1 hQ
    · rw [if_neg w1] at hQ
      refine rl_load l3 rfl (rl_const (rl_icmpT (by show some (decide (¬ wh = Int32.ofInt 1)) = some true; rw [decide_eq_true w1]) ?_))
      show Rt σ 225 (jump 225 166) _ _ _ _
      rw [j225_166]
      refine rl_load l6 rfl ?_
      rw [j225_168]
      exact rl_ret1 hQ
  have loop : ∀ (r e : Nat) (L : LV), e + r = N → lv_get 0 L = some (.ref m) → lv_get 1 L = some (.int lo) → lv_get 2 L = some (.int wk) → lv_get 3 L = some (.int wh) → lv_get 4 L = some (.int ((lS d N day lo wk e).1 - (lS d N day lo wk e).2.1)) → lv_get 5 L = some (.int (lS d N day lo wk e).1) → lv_get 6 L = some (.int (nI (lS d N day lo wk e).2.2)) → lv_get 7 L = some (.int (nI e)) → Rt σ 225 (jump 225 12) L [] h Q := by
    intro r
    induction r with
    | zero =>
      intro e L he l0 l1 l2 l3 l4 l5 l6 l7
      have ee : e = N := by omega
      subst ee
      rw [j225_12]
      refine rl_load l7 rfl (rl_load l0 rfl (ra_get hT.1 (by omega) (by omega) hm (by rw [f149']; exact hLets) (by rw [c11']; exact f149) (rl_icmpT ?_ ?_)))
      · show some (decide (nI e ≤ nI e)) = some true
        rw [decide_eq_true ((tx_le (by omega) (by omega)).mpr (Nat.le_refl _))]
      · exact fin L l3 l4 l5 l6
    | succ r ih =>
      intro e L he l0 l1 l2 l3 l4 l5 l6 l7
      have heN : e < N := by omega
      obtain ⟨h60, -, fl⟩ := hF e heN
      rw [j225_12]
      refine rl_load l7 rfl (rl_load l0 rfl (ra_get hT.1 (by omega) (by omega) hm (by rw [f149']; exact hLets) (by rw [c11']; exact f149) (rl_icmpF ?_ (rl_load l0 rfl (rl_load l7 rfl (rl_callv (as := [.int (nI e)]) (r := []) s156 rfl rfl xm (by show 0 ≤ 8; omega) (two_ok m218) (M_wofE hT hm hF0 heN fun k hk => rl_store rfl (rl_load (get_put rfl rfl (by omega) l0) rfl (rl_load (get_put rfl rfl (by omega) l7) rfl (rl_callv (as := [.int (nI e)]) (r := []) spec_149 rfl rfl xm (by show 0 ≤ 8; omega) (two_ok m201) (M_stands hT hm hF0 heN ?_)))))))))))
      · show some (decide (nI N ≤ nI e)) = some false
        rw [decide_eq_false (by rw [tx_le (by omega) (by omega)]; omega)]
      have g8 : ∀ {i : Nat} {v : Value}, i ≤ 7 → v.category = 1 → lv_get i L = some v → lv_get i (lv_put 8 (.int k) L) = some v := fun {i v} hi hv hx => get_put hv rfl (by omega) hx
      have skip : ∀ (z : Int32), lInc d day lo wk e = false → Rt σ 225 (jump 225 141) (lv_put 9 (.int z) (lv_put 8 (.int k) L)) [] h Q := fun z hi => by
        have es : lS d N day lo wk (e + 1) = lS d N day lo wk e := by rw [lS, hi, cond_false]
        rw [j225_141]
        refine rl_iinc (get_put rfl rfl (by omega) (g8 (by omega) rfl l7)) (rl_goto ?_)
        rw [nI_suc (by omega)]
        have g : ∀ {i : Nat} {v : Value}, i ≤ 6 → v.category = 1 → lv_get i L = some v → lv_get i (lv_put 7 (.int (nI (e + 1))) (lv_put 9 (.int z) (lv_put 8 (.int k) L))) = some v := fun {i v} hi hv hx => get_put hv rfl (by omega) (get_put hv rfl (by omega) (g8 (by omega) hv hx))
        exact ih (e + 1) _ (by omega) (g (by omega) rfl l0) (g (by omega) rfl l1) (g (by omega) rfl l2) (g (by omega) rfl l3) (by rw [es]; exact g (by omega) rfl l4) (by rw [es]; exact g (by omega) rfl l5) (by rw [es]; exact g (by omega) rfl l6) rfl
      have isnt : ¬ ((dLd (d e) = true ∧ (dLo (d e) = lo ∧ dDl (d e) / Int32.ofInt 7 = wk)) ∧ (0 < dWt (d e) ∨ ¬ day - dDl (d e) < Int32.ofInt 14)) → Rt σ 225 (jump 225 67) (lv_put 8 (.int k) L) [] h Q := fun hc => by
        rw [j225_67]
        refine rl_const ?_
        rw [j225_68]
        exact rl_store rfl (rl_load (v := .int (Int32.ofInt 0)) rfl rfl (rl_ifT (by decide +kernel) (skip _ (lInc_no hc))))
      rcases fl with ⟨fl1, -⟩ | ⟨fl1, q6, n, ws, ts, ds, ⟨-, ⟨-, g5⟩, ⟨-, g7⟩, -, g9⟩, ⟨⟨d1, d2⟩, hhr⟩, -, -⟩
      · rw [fl1, cond_false]
        exact rl_ifT rfl (isnt fun hc => by rw [fl1] at hc; exact Bool.noConfusion hc.1.1)
      rw [fl1, cond_true]
      refine rl_ifF rfl (rl_load (g8 (by omega) rfl l0) rfl (ra_row hT hm (by rw [f112']; exact t75) f112 fun q75 hq75 => rl_load (g8 (by omega) rfl l7) rfl (ra_ald hT.1 (by omega) (by omega) hq75 g5 (by rw [k75]; rfl) (by omega) (rl_load (g8 (by omega) rfl l1) rfl ?_))))
      by_cases b1 : dLo (d e) = lo
      case neg => exact rl_icmpT (by show some (decide (¬ dLo (d e) = lo)) = some true; rw [decide_eq_true b1]) (isnt fun hc => b1 hc.1.2.1)
      refine rl_icmpF (by show some (decide (¬ dLo (d e) = lo)) = some false; rw [decide_eq_false (fun h => h b1)]) (rl_load (g8 (by omega) rfl l0) rfl (ra_row hT hm (by rw [f111']; exact t40) f111 fun q74 hq74 => rl_load (g8 (by omega) rfl l7) rfl (ra_ald hT.1 (by omega) (by omega) hq74 g7 (by rw [k74]; rfl) (by omega) (rl_const (rl_div (by decide +kernel) (rl_load (g8 (by omega) rfl l2) rfl ?_))))))
      by_cases b2 : dDl (d e) / Int32.ofInt 7 = wk
      case neg => exact rl_icmpT (by show some (decide (¬ dDl (d e) / Int32.ofInt 7 = wk)) = some true; rw [decide_eq_true b2]) (isnt fun hc => b2 hc.1.2.2)
      refine rl_icmpF (by show some (decide (¬ dDl (d e) / Int32.ofInt 7 = wk)) = some false; rw [decide_eq_false (fun h => h b2)]) (rl_const (rl_goto ?_))
      show Rt σ 225 (jump 225 68) _ _ _ _
      rw [j225_68]
      refine rl_store rfl (rl_load (v := .int (Int32.ofInt 1)) rfl rfl (rl_ifF (by decide +kernel) (rl_load (v := .int k) (get_put rfl rfl (by omega) rfl) rfl (rl_const ?_))))
      have g99 : ∀ {i : Nat} {v : Value}, i ≤ 7 → v.category = 1 → lv_get i L = some v → lv_get i (lv_put 9 (.int (Int32.ofInt 1)) (lv_put 8 (.int k) L)) = some v := fun {i v} hi hv hx => get_put hv rfl (by omega) (g8 hi hv hx)
      have yes : (0 < dWt (d e) ∨ ¬ day - dDl (d e) < Int32.ofInt 14) → Rt σ 225 (jump 225 98) (lv_put 9 (.int (Int32.ofInt 1)) (lv_put 8 (.int k) L)) [] h Q := fun hy => by
        have hinc := lInc_mk fl1 b1 b2 hy
        have es : lS d N day lo wk (e + 1) = ((lS d N day lo wk e).1 + mE d N e, (lS d N day lo wk e).2.1 + dWt (d e), (lS d N day lo wk e).2.2 + 1) := by rw [lS, hinc, cond_true]
        have hle := lS_le (d := d) (N := N) (day := day) (lo := lo) (wk := wk) e
        rw [j225_98]
        refine rl_load (g99 (by omega) rfl l0) rfl (rl_load (g99 (by omega) rfl l7) rfl (rl_callv (as := [.int (nI e)]) (r := []) s161 rfl rfl xm (by show 0 ≤ 8; omega) (two_ok m226) (M_meanOf hT hm hF0 heN g9 hhr (rl_store rfl (rl_load (get_put rfl rfl (by omega) (g99 (by omega) rfl l5)) rfl (rl_load (v := .int (mE d N e)) rfl rfl (rl_bin rfl (rl_store rfl (rl_load (get_put rfl rfl (by omega) (get_put rfl rfl (by omega) (g99 (by omega) rfl l4))) rfl (rl_load (v := .int (mE d N e)) (get_put rfl rfl (by omega) rfl) rfl (rl_load (v := .int k) (get_put rfl rfl (by omega) (get_put rfl rfl (by omega) (get_put rfl rfl (by omega) rfl))) rfl (rl_const ?_))))))))))))
        have tail : Rt σ 225 (jump 225 134) (lv_put 5 (.int ((lS d N day lo wk e).1 + mE d N e)) (lv_put 10 (.int (mE d N e)) (lv_put 9 (.int (Int32.ofInt 1)) (lv_put 8 (.int k) L)))) [.int (dWt (d e)), .int (mE d N e), .int ((lS d N day lo wk e).1 - (lS d N day lo wk e).2.1)] h Q := by
          rw [j225_134]
          refine rl_bin rfl (rl_bin rfl (rl_store rfl (rl_iinc (get_put rfl rfl (by omega) (get_put rfl rfl (by omega) (get_put rfl rfl (by omega) (g99 (by omega) rfl l6)))) ?_)))
          rw [j225_141, nI_suc (by omega)]
          refine rl_iinc (get_put rfl rfl (by omega) (get_put rfl rfl (by omega) (get_put rfl rfl (by omega) (get_put rfl rfl (by omega) (g99 (by omega) rfl l7))))) (rl_goto ?_)
          rw [nI_suc (by omega), sub_step]
          have g6' : ∀ {i : Nat} {v : Value}, i ≤ 3 → v.category = 1 → lv_get i L = some v → lv_get i (lv_put 7 (.int (nI (e + 1))) (lv_put 6 (.int (nI ((lS d N day lo wk e).2.2 + 1))) (lv_put 4 (.int ((lS d N day lo wk e).1 + mE d N e - ((lS d N day lo wk e).2.1 + dWt (d e)))) (lv_put 5 (.int ((lS d N day lo wk e).1 + mE d N e)) (lv_put 10 (.int (mE d N e)) (lv_put 9 (.int (Int32.ofInt 1)) (lv_put 8 (.int k) L))))))) = some v := fun {i v} hi hv hx => get_put hv rfl (by omega) (get_put hv rfl (by omega) (get_put hv rfl (by omega) (get_put hv rfl (by omega) (get_put hv rfl (by omega) (g99 (by omega) hv hx)))))
          refine ih (e + 1) _ (by omega) (g6' (by omega) rfl l0) (g6' (by omega) rfl l1) (g6' (by omega) rfl l2) (g6' (by omega) rfl l3) ?_ ?_ ?_ rfl
          · rw [es]
            exact get_put rfl rfl (by omega) (get_put rfl rfl (by omega) rfl)
          · rw [es]
            exact get_put rfl rfl (by omega) (get_put rfl rfl (by omega) (get_put rfl rfl (by omega) rfl))
          · rw [es]
            exact get_put rfl rfl (by omega) rfl
        rcases hk with ⟨hk, hk'⟩ | ⟨hk, -, -, p, hp, hkp, hpw⟩
        · refine rl_icmpF (by show some (decide (¬ k = Int32.ofInt (-1))) = some false; rw [decide_eq_false (fun h => h hk)]) (rl_const (rl_goto ?_))
          have := hk' fl1
          rw [this] at tail
          exact tail
        · subst hkp
          refine rl_icmpT (by show some (decide (¬ nI p = Int32.ofInt (-1))) = some true; rw [decide_eq_true hk]) ?_
          show Rt σ 225 (jump 225 127) _ _ _ _
          rw [j225_127]
          refine rl_load (get_put rfl rfl (by omega) (get_put rfl rfl (by omega) (g99 (by omega) rfl l0))) rfl (ra_row hT hm (by rw [f116']; exact t79) f116 fun q79 hq79 => rl_load (v := .int (nI p)) (get_put rfl rfl (by omega) (get_put rfl rfl (by omega) (get_put rfl rfl (by omega) rfl))) rfl (ra_ald hT.1 (by omega) (by omega) hq79 hpw (by rw [k79]; rfl) (by omega) ?_))
          exact tail
      rcases hk with ⟨hk, hk'⟩ | ⟨hk, -, hwt, p, hp, hkp, hpw⟩
      · refine rl_icmpF (by show some (decide (¬ k = Int32.ofInt (-1))) = some false; rw [decide_eq_false (fun h => h hk)]) (rl_load (g99 (by omega) rfl l0) rfl (ra_get hT.1 (by omega) (by omega) hm (by rw [f140']; exact hday) (by rw [c11']; exact f140) (rl_load (g99 (by omega) rfl l0) rfl (ra_row hT hm (by rw [f111']; exact t40) f111 fun q74 hq74 => rl_load (g99 (by omega) rfl l7) rfl (ra_ald hT.1 (by omega) (by omega) hq74 g7 (by rw [k74]; rfl) (by omega) (rl_bin rfl (rl_const ?_)))))))
        by_cases b4 : day - dDl (d e) < Int32.ofInt 14
        · refine rl_icmpT (by show some (decide (day - dDl (d e) < Int32.ofInt 14)) = some true; rw [decide_eq_true b4]) (skip _ (lInc_no fun hc => hc.2.elim (fun hc => ?_) fun hc => hc b4))
          rw [hk' fl1] at hc
          exact absurd hc (by decide +kernel)
        · refine rl_icmpF (by show some (decide (day - dDl (d e) < Int32.ofInt 14)) = some false; rw [decide_eq_false b4]) ?_
          exact yes (Or.inr b4)
      · refine rl_icmpT (by show some (decide (¬ k = Int32.ofInt (-1))) = some true; rw [decide_eq_true hk]) ?_
        refine yes (Or.inl ?_)
        -- a weight that is known is above 0
        exact wt_pos hF heN fl1 hwt
  rw [head_225]
  refine rl_const (rl_store rfl (rl_const (rl_store rfl (rl_const (rl_store rfl (rl_const (rl_store rfl ?_)))))))
  exact loop N 0 _ (by omega) rfl rfl rfl rfl (by rw [show (lS d N day lo wk 0).1 - (lS d N day lo wk 0).2.1 = Int32.ofInt 0 from (by decide +kernel : (0 : Int32) - 0 = Int32.ofInt 0)]; rfl) rfl rfl rfl
end
end
