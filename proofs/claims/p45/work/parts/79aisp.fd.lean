noncomputable def PrC (σ : Nat → Nat) (h : AH) (mX mM ox m : Nat) (xs : List Int32) : Prop := ∃ X : Int32, Rt σ mX (codeOf mX) (am_args 0 (.ref ox :: xs.map .int)) [] h (fun v h' => v = some (.int X) ∧ h' = h) ∧ Rt σ mM (codeOf mM) (am_args 0 (.ref m :: xs.map .int)) [] h (fun v h' => v = some (.int X) ∧ h' = h)
section
variable {σ : Nat → Nat} {ad : AD} {h : AH} {np N T ox m t i kk x y b : Nat} {ex ho : Nat → Nat → Prop} {Q : Option Value → AH → Prop} {s hr e v : Int32} {d : Nat → TPD} {p : TPD} {tl : List (Nat × AI)} {L : LV} {S : List Value} {M pc pc1 pc2 pc3 pc4 j : Nat} {c c1 c2 c3 c4 : Int}
theorem isSort_x (h4 : am_w S ≤ 8) (hk : Rt σ M tl L (.int (txW v (Int32.ofInt 0) (Int32.ofInt 5)) :: S) h Q) : Rt σ M ((pc, (12, 43, c)) :: tl) L (.int v :: S) h Q := by
  obtain ⟨⟨s43, -⟩, -⟩ := fi_sp
  obtain ⟨⟨⟨m54, -⟩, -⟩, -⟩ := fi_ml
  refine rl_calls (as := [.int v]) (r := S) s43 rfl rfl h4 ?_ ?_
  · unfold am_ok
    rw [decide_eq_true (show ([.int v] : List Value).length ≤ mL 54 from m54)]
    rfl
  · rw [code_54]
    exact rl_load rfl rfl (rl_const (rl_const (within_ok (by show 0 ≤ 8; omega) (rl_ret4 (txW_01 _ _ _) hk))))
theorem rl_tsz (hT : TS ad h np ex ho) (hox : ad 10 0 = some ox) (hl : LsE ad h 10 4 T) (h0 : lv_get 0 L = some (.ref ox)) (h4 : am_w S ≤ 8) (hk : Rt σ M tl L (.int (nI T) :: S) h Q) : Rt σ M ((pc, (1, 0, 2)) :: (pc1, (8, 6, c1)) :: (pc2, (12, 13, c2)) :: tl) L S h Q := by
  obtain ⟨⟨-, f6, f6'⟩, -⟩ := wg_f.1
  obtain ⟨⟨⟨⟨c10, c10'⟩, -⟩, -⟩, -⟩ := pm_c
  obtain ⟨m1, -⟩ := and2 ml_ff
  obtain ⟨ql, mc, ed, e2, e3, -⟩ := hl
  exact rl_load h0 rfl (ra_get hT.1 (by omega) (by omega) hox (by rw [f6']; exact e2) (by rw [c10']; exact f6) (rl_callv (as := []) (r := S) spec_13 rfl rfl e3 h4 (ref_ok (blet m1)) (L_size e3 hk)))
/-- a TIP of the list -/
theorem rl_tget (hT : TS ad h np ex ho) (hox : ad 10 0 = some ox) (hl : LsE ad h 10 4 T) (hN : T ≤ 6) (h0 : lv_get 0 L = some (.ref ox)) (hj : lv_get j L = some (.int (nI t))) (he : t < T) (h4 : am_w S ≤ 8) (hk : ∀ q, ad 4 t = some q → Rt σ M tl L (.ref q :: S) h Q) : Rt σ M ((pc, (1, 0, 2)) :: (pc1, (8, 6, c1)) :: (pc2, (1, j, 0)) :: (pc3, (12, 17, c3)) :: (pc4, (28, 4, c4)) :: tl) L S h Q := by
  obtain ⟨⟨-, f6, f6'⟩, -⟩ := wg_f.1
  obtain ⟨⟨⟨⟨c10, c10'⟩, -⟩, -⟩, -⟩ := pm_c
  obtain ⟨⟨⟨⟨-, c4'⟩, -⟩, -⟩, -⟩ := wg_c
  obtain ⟨-, m2⟩ := and2 ml_ff
  obtain ⟨m2, -⟩ := and2 m2
  obtain ⟨ql, mc, ed, e2, e3, e4⟩ := hl
  rcases e4 with e4 | ⟨bq, us, rfl, e6, e7⟩
  · omega
  · obtain ⟨qk, u1, u2⟩ := e7 t he
    have hi := nI_nn (show t < 2147483648 by omega)
    obtain ⟨-, k', vs, o1, o2, -⟩ := hT.1 4 t qk (by omega) u2
    have ek : k' = 4 := by
      rcases o2 with e | ⟨e, -⟩
      · rw [e, c4']
      · rw [c4'] at e; cases e
    subst ek
    exact rl_load h0 rfl (ra_get hT.1 (by omega) (by omega) hox (by rw [f6']; exact e2) (by rw [c10']; exact f6) (rl_load hj rfl (rl_callv (as := [.int (nI t)]) (r := S) spec_17 rfl rfl e3 h4 (two_ok (blet m2)) (L_get (u := qk) e3 e6 hi.1 ((tx_lt (by omega) (by omega)).mpr (by omega)) (by rw [hi.2]; exact u1) (rl_cast o1 (hk qk u2))))))
theorem mi_lt (hp : PTp ad h t p) (hx : x < 100) (hy : y < 100) : miT x y p < 200 := by
  obtain ⟨⟨⟨-, a3⟩, -, b3⟩, -⟩ := hp
  have k1 := mA_lt a3 hx
  have k2 := mA_lt b3 hy
  unfold miT
  omega
theorem fM_lt (hP : ∀ t, t < T → PTp ad h t (d t)) (hx : x < 100) (hy : y < 100) (hi : i ≤ T) : fM d x y (fN d x y s hr i) < 2000000 := by
  cases hf : fN d x y s hr i with
  | none => show 1000000 < 2000000; omega
  | some j =>
    have hj := fN_lt i j hf
    have := mi_lt (hP j (by omega)) hx hy
    show miT x y (d j) < 2000000
    omega
theorem nI_eqn {a b : Nat} (ha : a < 1000) (hb : b < 1000) (hE : nI a = nI b) : a = b := by
  have h1 := congrArg i2n hE
  rw [nI_ok (by omega), nI_ok (by omega)] at h1
  omega
theorem X_findL (hT : TS ad h np ex ho) (hox : ad 10 0 = some ox) (hF : FnH ad h N T d) (hb : b < N) {qe : Nat} (hqe : ad 5 b = some qe) (hL : PLk ad h b x y) (hQ : Q (some (.int (fI (fN d x y s hr T)))) h) : ∀ (r i : Nat) (L : LV), i + r = T → lv_get 0 L = some (.ref ox) → lv_get 2 L = some (.int s) → lv_get 3 L = some (.int hr) → lv_get 4 L = some (.ref qe) → lv_get 5 L = some (.int (fI (fN d x y s hr i))) → lv_get 6 L = some (.int (nI (fM d x y (fN d x y s hr i)))) → lv_get 7 L = some (.int (nI i)) → Rt σ 108 (jump 108 43) L [] h Q := by
  obtain ⟨⟨⟨⟨hN, hT6⟩, hl5, hl4⟩, -⟩, -, hP⟩ := hF
  obtain ⟨kk, qk, ⟨⟨g1, g2⟩, -⟩, ⟨⟨k1, -⟩, hx⟩, ⟨k2, -⟩, hy⟩ := hL
  obtain ⟨⟨⟨⟨f21, f21'⟩, f15, f15'⟩, ⟨f16, f16'⟩, -⟩, -⟩ := fi_f
  obtain ⟨⟨-, s78, s79⟩, -⟩ := fi_sp
  obtain ⟨⟨⟨-, m109⟩, m111, -⟩, -⟩ := fi_ml
  obtain ⟨⟨⟨⟨c6, c6'⟩, c5, c5'⟩, -⟩, -⟩ := wt_c
  obtain ⟨⟨⟨⟨-, c4'⟩, -⟩, -⟩, -⟩ := wg_c
  obtain ⟨-, -, -, -, c2', -⟩ := fi_c
  intro r
  induction r with
  | zero =>
    intro i L hi l0 l2 l3 l4 l5 l6 l7
    have ei : i = T := by omega
    subst ei
    rw [j108_43]
    refine rl_load l7 rfl (rl_tsz hT hox hl4 l0 (by show 1 ≤ 8; omega) (rl_icmpT ?_ ?_))
    · show some (decide (nI i ≤ nI i)) = some true
      rw [decide_eq_true ((tx_le (by omega) (by omega)).mpr (Nat.le_refl _))]
    · show Rt σ 108 (jump 108 123) _ _ _ _
      rw [j108_123]
      exact rl_load l5 rfl (rl_ret1 hQ)
  | succ r ih =>
    intro i L hi l0 l2 l3 l4 l5 l6 l7
    have hiT : i < T := by omega
    have hp := hP i hiT
    have ml := mi_lt hp hx hy
    have fl := fM_lt (d := d) (s := s) (hr := hr) (i := i) hP hx hy (by omega)
    rw [j108_43]
    refine rl_load l7 rfl (rl_tsz hT hox hl4 l0 (by show 1 ≤ 8; omega) (rl_icmpF ?_ (rl_tget hT hox hl4 hT6 l0 l7 hiT (by show 0 ≤ 8; omega) fun q4 hq4 => rl_store rfl (rl_load (v := .ref q4) rfl rfl (rl_load (get_put rfl rfl (by omega) l4) rfl (ra_get hT.1 (by omega) (by omega) hqe (by rw [f21']; exact g1) (by rw [c5']; exact f21) (ra_get hT.1 (by omega) (by omega) g2 (by rw [f15']; exact k1) (by rw [c2']; exact f15) (rl_load (get_put rfl rfl (by omega) l4) rfl (ra_get hT.1 (by omega) (by omega) hqe (by rw [f21']; exact g1) (by rw [c5']; exact f21) (ra_get hT.1 (by omega) (by omega) g2 (by rw [f16']; exact k2) (by rw [c2']; exact f16) ?_)))))))))) 
    · show some (decide (nI T ≤ nI i)) = some false
      rw [decide_eq_false (by rw [tx_le (by omega) (by omega)]; omega)]
    obtain ⟨v4, xv4, -⟩ := at_kind hT.1 (by omega) (by omega) hp.1.1.1.1 hq4
    rw [c4'] at xv4
    refine rl_callv (as := [.int (nI x), .int (nI y)]) (r := []) s78 rfl rfl xv4 (by show 0 ≤ 8; omega) (three_ok m109) (X_milesTo hT hq4 hp hx hy (rl_store rfl (rl_load (v := .ref q4) rfl rfl (rl_load (get_put rfl rfl (by omega) (get_put rfl rfl (by omega) l2)) rfl (rl_load (get_put rfl rfl (by omega) (get_put rfl rfl (by omega) l3)) rfl (rl_callv (as := [.int s, .int hr]) (r := []) s79 rfl rfl xv4 (by show 0 ≤ 8; omega) (three_ok m111) (X_takes hT hq4 hp ?_)))))))
    have g9 : ∀ {k : Nat} {u : Value}, k ≤ 7 → u.category = 1 → lv_get k L = some u → lv_get k (lv_put 9 (.int (nI (miT x y (d i)))) (lv_put 8 (.ref q4) L)) = some u := fun {k u} hk hu hz => get_put hu rfl (by omega) (get_put hu rfl (by omega) hz)
    have no : fN d x y s hr (i + 1) = fN d x y s hr i → Rt σ 108 (jump 108 117) (lv_put 9 (.int (nI (miT x y (d i)))) (lv_put 8 (.ref q4) L)) [] h Q := fun hf => by
      rw [j108_117]
      refine rl_iinc (g9 (by omega) rfl l7) (rl_goto ?_)
      rw [nI_suc (by omega)]
      have g7 : ∀ {k : Nat} {u : Value}, k ≤ 6 → u.category = 1 → lv_get k L = some u → lv_get k (lv_put 7 (.int (nI (i + 1))) (lv_put 9 (.int (nI (miT x y (d i)))) (lv_put 8 (.ref q4) L))) = some u := fun {k u} hk hu hz => get_put hu rfl (by omega) (g9 (by omega) hu hz)
      exact ih (i + 1) _ (by omega) (g7 (by omega) rfl l0) (g7 (by omega) rfl l2) (g7 (by omega) rfl l3) (g7 (by omega) rfl l4) (by rw [hf]; exact g7 (by omega) rfl l5) (by rw [hf]; exact g7 (by omega) rfl l6) rfl
    show Rt σ 108 _ _ (.int (bif tkB (d i) s hr then 1 else 0) :: []) h Q
    cases hb1 : tkB (d i) s hr
    · exact rl_ifT rfl (no (by rw [fN, hb1, Bool.false_and, cond_false]))
    refine rl_ifF rfl (rl_load (v := .int (nI (miT x y (d i)))) rfl rfl (rl_load (g9 (by omega) rfl l6) rfl ?_))
    by_cases hb2 : miT x y (d i) < fM d x y (fN d x y s hr i)
    case neg => exact rl_icmpT (by show some (decide (nI (fM d x y (fN d x y s hr i)) ≤ nI (miT x y (d i)))) = some true; rw [decide_eq_true ((tx_le (by omega) (by omega)).mpr (by omega))]) (no (by rw [fN, hb1, decide_eq_false hb2, Bool.and_false, cond_false]))
    have hf : fN d x y s hr (i + 1) = some i := by rw [fN, hb1, decide_eq_true hb2, Bool.true_and, cond_true]
    refine rl_icmpF (by show some (decide (nI (fM d x y (fN d x y s hr i)) ≤ nI (miT x y (d i)))) = some false; rw [decide_eq_false (by rw [tx_le (by omega) (by omega)]; omega)]) (rl_load (v := .int (nI (miT x y (d i)))) rfl rfl (rl_store rfl (rl_load (get_put rfl rfl (by omega) (g9 (by omega) rfl l7)) rfl (rl_store rfl ?_))))
    rw [j108_117]
    refine rl_iinc (get_put rfl rfl (by omega) (get_put rfl rfl (by omega) (g9 (by omega) rfl l7))) (rl_goto ?_)
    rw [nI_suc (by omega)]
    have g7 : ∀ {k : Nat} {u : Value}, k ≤ 4 → u.category = 1 → lv_get k L = some u → lv_get k (lv_put 7 (.int (nI (i + 1))) (lv_put 5 (.int (nI i)) (lv_put 6 (.int (nI (miT x y (d i)))) (lv_put 9 (.int (nI (miT x y (d i)))) (lv_put 8 (.ref q4) L))))) = some u := fun {k u} hk hu hz => get_put hu rfl (by omega) (get_put hu rfl (by omega) (get_put hu rfl (by omega) (g9 (by omega) hu hz)))
    exact ih (i + 1) _ (by omega) (g7 (by omega) rfl l0) (g7 (by omega) rfl l2) (g7 (by omega) rfl l3) (g7 (by omega) rfl l4) (by rw [hf]; exact get_put rfl rfl (by omega) rfl) (by rw [hf]; exact get_put rfl rfl (by omega) (get_put rfl rfl (by omega) rfl)) rfl
theorem M_findL (hT : TS ad h np ex ho) (hm : ad 11 0 = some m) (hF : FnH ad h N T d) (hkk : kk < 24) (hK : PKb ad h kk x y) (hQ : Q (some (.int (fI (fN d x y s hr T)))) h) : ∀ (r i : Nat) (L : LV), i + r = T → lv_get 0 L = some (.ref m) → lv_get 2 L = some (.int s) → lv_get 3 L = some (.int hr) → lv_get 4 L = some (.int (nI kk)) → lv_get 5 L = some (.int (fI (fN d x y s hr i))) → lv_get 6 L = some (.int (nI i)) → Rt σ 236 (jump 236 44) L [] h Q := by
  obtain ⟨⟨⟨⟨hN, hT6⟩, hl5, hl4⟩, -, htn⟩, -, hP⟩ := hF
  obtain ⟨-, ⟨⟨-, f139, f139'⟩, -⟩, -⟩ := wg_f.2
  obtain ⟨-, ⟨-, s167⟩, s168, -⟩ := fi_sp
  obtain ⟨-, ⟨m237, m238⟩, -⟩ := fi_ml
  obtain ⟨⟨⟨c11, c11'⟩, -⟩, -⟩ := m_cls
  obtain ⟨vm, xm, -⟩ := at_kind hT.1 (by omega) (by omega) htn hm
  rw [c11'] at xm
  have hx := hK.1.2
  have hy := hK.2.2
  intro r
  induction r with
  | zero =>
    intro i L hi l0 l2 l3 l4 l5 l6
    have ei : i = T := by omega
    subst ei
    rw [j236_44]
    refine rl_load l6 rfl (rl_load l0 rfl (ra_get hT.1 (by omega) (by omega) hm (by rw [f139']; exact htn) (by rw [c11']; exact f139) (rl_icmpT ?_ ?_)))
    · show some (decide (nI i ≤ nI i)) = some true
      rw [decide_eq_true ((tx_le (by omega) (by omega)).mpr (Nat.le_refl _))]
    · show Rt σ 236 (jump 236 108) _ _ _ _
      rw [j236_108]
      exact rl_load l5 rfl (rl_ret1 hQ)
  | succ r ih =>
    intro i L hi l0 l2 l3 l4 l5 l6
    have hiT : i < T := by omega
    have hp := hP i hiT
    have ml := mi_lt hp hx hy
    rw [j236_44]
    refine rl_load l6 rfl (rl_load l0 rfl (ra_get hT.1 (by omega) (by omega) hm (by rw [f139']; exact htn) (by rw [c11']; exact f139) (rl_icmpF ?_ (rl_load l0 rfl (rl_load l6 rfl (rl_load l2 rfl (rl_load l3 rfl (rl_callv (as := [.int (nI i), .int s, .int hr]) (r := []) s167 rfl rfl xm (by show 0 ≤ 8; omega) (four_ok' m237) (M_takes hT hm (by omega) hp (rl_store rfl ?_))))))))))
    · show some (decide (nI T ≤ nI i)) = some false
      rw [decide_eq_false (by rw [tx_le (by omega) (by omega)]; omega)]
    have nxt : ∀ (w : Int32), am_ty 0 (.int (fI (fN d x y s hr (i + 1)))) = true → Rt σ 236 (jump 236 100) (lv_put 7 (.int w) L) [.int (fI (fN d x y s hr (i + 1)))] h Q := fun w hw => by
      rw [j236_100]
      refine rl_store hw (rl_iinc (get_put rfl rfl (by omega) (get_put rfl rfl (by omega) l6)) (rl_goto ?_))
      rw [nI_suc (by omega)]
      have g7 : ∀ {k : Nat} {u : Value}, k ≤ 4 → u.category = 1 → lv_get k L = some u → lv_get k (lv_put 6 (.int (nI (i + 1))) (lv_put 5 (.int (fI (fN d x y s hr (i + 1)))) (lv_put 7 (.int w) L))) = some u := fun {k u} hk hu hz => get_put hu rfl (by omega) (get_put hu rfl (by omega) (get_put hu rfl (by omega) hz))
      exact ih (i + 1) _ (by omega) (g7 (by omega) rfl l0) (g7 (by omega) rfl l2) (g7 (by omega) rfl l3) (g7 (by omega) rfl l4) (get_put rfl rfl (by omega) rfl) rfl
    have no : ∀ (w : Int32), fN d x y s hr (i + 1) = fN d x y s hr i → Rt σ 236 (jump 236 98) (lv_put 7 (.int w) L) [] h Q := fun w hf => by
      rw [j236_98]
      refine rl_load (get_put rfl rfl (by omega) l5) rfl ?_
      have := nxt w rfl
      rw [hf] at this
      exact this
    have yes : ∀ (w : Int32), fN d x y s hr (i + 1) = some i → Rt σ 236 (jump 236 93) (lv_put 7 (.int w) L) [] h Q := fun w hf => by
      rw [j236_93]
      refine rl_load (get_put rfl rfl (by omega) l6) rfl (rl_goto ?_)
      have := nxt w rfl
      rw [hf] at this
      exact this
    show Rt σ 236 _ (lv_put 7 (.int (bif tkB (d i) s hr then 1 else 0)) L) [] h Q
    refine rl_load (v := .int (bif tkB (d i) s hr then 1 else 0)) rfl rfl ?_
    cases hb1 : tkB (d i) s hr
    · exact rl_ifT rfl (no _ (by rw [fN, hb1, Bool.false_and, cond_false]))
    refine rl_ifF rfl (rl_load (get_put rfl rfl (by omega) l5) rfl (rl_const ?_))
    cases hf : fN d x y s hr i with
    | none =>
      refine rl_icmpT rfl ?_
      show Rt σ 236 (jump 236 93) _ _ _ _
      refine yes _ ?_
      rw [fN, hb1, hf]
      show (bif true && decide (miT x y (d i) < 1000000) then some i else none) = _
      rw [decide_eq_true (by omega)]
      rfl
    | some jj =>
      have hjj := fN_lt i jj hf
      have hpj := hP jj (by omega)
      have mlj := mi_lt hpj hx hy
      have hne : ¬ nI jj = Int32.ofInt (-1) := fun h => by
        have h1 := congrArg i2n h
        rw [nI_ok (by omega), cw_m1] at h1
        omega
      have l5' : lv_get 5 L = some (.int (nI jj)) := by rw [hf] at l5; exact l5
      refine rl_icmpF (by show some (decide (nI jj = Int32.ofInt (-1))) = some false; rw [decide_eq_false hne]) (rl_load (get_put rfl rfl (by omega) l0) rfl (rl_load (get_put rfl rfl (by omega) l4) rfl (rl_load (get_put rfl rfl (by omega) l6) rfl (rl_callv (as := [.int (nI kk), .int (nI i)]) (r := []) s168 rfl rfl xm (by show 0 ≤ 8; omega) (three_ok m238) (M_toTip hT hm hkk hK (by omega) hp (rl_load (get_put rfl rfl (by omega) l0) rfl (rl_load (get_put rfl rfl (by omega) l4) rfl (rl_load (get_put rfl rfl (by omega) l5') rfl (rl_callv (as := [.int (nI kk), .int (nI jj)]) (r := [.int (nI (miT x y (d i)))]) s168 rfl rfl xm (by show 1 ≤ 8; omega) (three_ok m238) (M_toTip hT hm hkk hK (by omega) hpj ?_))))))))))
      by_cases hb2 : miT x y (d i) < miT x y (d jj)
      · refine rl_icmpF (by show some (decide (nI (miT x y (d jj)) ≤ nI (miT x y (d i)))) = some false; rw [decide_eq_false (by rw [tx_le (by omega) (by omega)]; omega)]) (yes _ ?_)
        rw [fN, hb1, hf]
        show (bif true && decide (miT x y (d i) < miT x y (d jj)) then some i else some jj) = _
        rw [decide_eq_true hb2]
        rfl
      · refine rl_icmpT (by show some (decide (nI (miT x y (d jj)) ≤ nI (miT x y (d i)))) = some true; rw [decide_eq_true ((tx_le (by omega) (by omega)).mpr (by omega))]) (no _ ?_)
        rw [fN, hb1, hf]
        show (bif true && decide (miT x y (d i) < miT x y (d jj)) then some i else some jj) = _
        rw [decide_eq_false hb2]
        rfl
theorem pr_find (hT : TS ad h np ex ho) (hox : ad 10 0 = some ox) (hm : ad 11 0 = some m) (hF : FnH ad h N T d) : PrC σ h 108 236 ox m [e, s, hr] := by
  have hF0 := hF
  obtain ⟨⟨⟨⟨hN, hT6⟩, hl5, hl4⟩, hln, -⟩, hLk, -⟩ := hF
  obtain ⟨⟨f7, f7'⟩, -⟩ := wg_f.1.1
  obtain ⟨-, ⟨⟨⟨f149, f149'⟩, -⟩, -⟩, -⟩ := wg_f.2
  obtain ⟨⟨⟨⟨c10, c10'⟩, -⟩, -⟩, -⟩ := pm_c
  obtain ⟨⟨⟨c11, c11'⟩, -⟩, -⟩ := m_cls
  obtain ⟨⟨⟨⟨c6, c6'⟩, c5, c5'⟩, -⟩, -⟩ := wt_c
  obtain ⟨⟨⟨f106, f106'⟩, -⟩, -⟩ := fi_g.1
  obtain ⟨⟨⟨⟨t69, k69⟩, -⟩, -⟩, -⟩ := fi_c
  obtain ⟨⟨⟨m63, -⟩, -⟩, ⟨m200, -⟩, -⟩ := ml_wg
  obtain ⟨vx, x1, -⟩ : ∃ vx, h.1 ox = some (10, vx) ∧ True := by
    obtain ⟨ql, mc, ed, e2, -⟩ := hl5
    obtain ⟨v, u1, -⟩ := at_kind hT.1 (by omega) (by omega) e2 hox
    rw [c10'] at u1
    exact ⟨v, u1, trivial⟩
  obtain ⟨vm, xm, xm'⟩ := at_kind hT.1 (by omega) (by omega) hln hm
  rw [c11'] at xm
  have badX : ∀ L : LV, Rt σ 108 (jump 108 29) L [] h (fun v h' => v = some (.int (Int32.ofInt (-2))) ∧ h' = h) := fun L => by
    rw [j108_29]
    exact rl_const (rl_ret1 ⟨rfl, rfl⟩)
  have badM : ∀ L : LV, Rt σ 236 (jump 236 27) L [] h (fun v h' => v = some (.int (Int32.ofInt (-2))) ∧ h' = h) := fun L => by
    rw [j236_27]
    exact rl_const (rl_ret1 ⟨rfl, rfl⟩)
  have i0 : ∀ {u : Int32}, u = 0 → icond 0 u 0 = some true := fun {u} h => by
    show some (decide (u = 0)) = some true
    rw [decide_eq_true h]
  have i1 : ∀ {u : Int32}, u = 1 → icond 0 u 0 = some false := fun {u} h => by rw [h]; rfl
  have j0 : ∀ {u : Int32}, u = 0 → icond 1 u 0 = some false := fun {u} h => by rw [h]; rfl
  have j1 : ∀ {u : Int32}, u = 1 → icond 1 u 0 = some true := fun {u} h => by rw [h]; rfl
  unfold PrC
  rw [head_108, head_236]
  rcases txW_len (k := e) (show N < 2147483648 by omega) with ⟨b, hb, rfl, w1⟩ | ⟨w0, hno⟩
  case inr =>
    refine ⟨Int32.ofInt (-2), rl_load rfl rfl (rl_load rfl rfl (rl_callv (as := [.int e]) (r := []) spec_50 rfl rfl x1 (by show 0 ≤ 8; omega) (two_ok m63) (X_objAt code_63 f7 f7' (by omega) c5' (by omega) hT hox hl5 (by omega) (fun kk q h1 h2 _ => absurd h2 (hno kk h1)) fun _ => rl_store rfl (rl_load (v := .null) rfl rfl (rl_nulT0 (badX _)))))), rl_load rfl rfl (rl_load rfl rfl (isLet_m code_200 spec_148 m200 f149 f149' xm xm' (by show 0 ≤ 8; omega) (rl_ifT (i0 w0) (badM _))))⟩
  obtain ⟨x, y, hL⟩ := hLk b hb
  have xhd : ∀ {Q' : Option Value → AH → Prop}, (∀ qe, ad 5 b = some qe → Rt σ 108 ([(12, (1, 2, 0)), (13, (12, 43, 0)), (16, (6, 0, 29)), (19, (1, 3, 0)), (20, (0, 0, 0)), (21, (0, 0, 23)), (23, (12, 10, 0)), (26, (6, 1, 32))] ++ jump 108 29) (lv_put 4 (.ref qe) (am_args 0 [.ref ox, .int (nI b), .int s, .int hr])) [] h Q') → Rt σ 108 ([(0, (1, 0, 2)), (1, (1, 1, 0)), (2, (12, 50, 0)), (5, (2, 4, 2)), (7, (1, 4, 2)), (9, (20, 0, 29)), (12, (1, 2, 0)), (13, (12, 43, 0)), (16, (6, 0, 29)), (19, (1, 3, 0)), (20, (0, 0, 0)), (21, (0, 0, 23)), (23, (12, 10, 0)), (26, (6, 1, 32))] ++ jump 108 29) (am_args 0 [.ref ox, .int (nI b), .int s, .int hr]) [] h Q' := fun {Q'} hk => rl_load rfl rfl (rl_load rfl rfl (rl_callv (as := [.int (nI b)]) (r := []) spec_50 rfl rfl x1 (by show 0 ≤ 8; omega) (two_ok m63) (X_objAt code_63 f7 f7' (by omega) c5' (by omega) hT hox hl5 (by omega) (fun kk q h1 h2 h3 => by
      have := nI_eqn (by omega) (by omega) h2
      subst this
      exact rl_store rfl (rl_load (v := .ref q) rfl rfl (rl_nulF0 (hk q h3)))) fun h0 => absurd rfl (h0 b hb))))
  rcases txW_01 s (Int32.ofInt 0) (Int32.ofInt 5) with a2 | a2
  · exact ⟨_, xhd fun qe _ => rl_load rfl rfl (isSort_x (by show 0 ≤ 8; omega) (rl_ifT (i0 a2) (badX _))), rl_load rfl rfl (rl_load rfl rfl (isLet_m code_200 spec_148 m200 f149 f149' xm xm' (by show 0 ≤ 8; omega) (rl_ifF (i1 w1) (rl_load rfl rfl (rl_const (rl_const (min_ok (by show 0 ≤ 8; omega) (rl_ifT (i0 a2) (badM _)))))))))⟩
  rcases txW_01 hr (Int32.ofInt 0) (Int32.ofInt 23) with a3 | a3
  · exact ⟨_, xhd fun qe _ => rl_load rfl rfl (isSort_x (by show 0 ≤ 8; omega) (rl_ifF (i1 a2) (rl_load rfl rfl (rl_const (rl_const (within_ok (by show 0 ≤ 8; omega) (rl_ifF (j0 a3) (badX _)))))))), rl_load rfl rfl (rl_load rfl rfl (isLet_m code_200 spec_148 m200 f149 f149' xm xm' (by show 0 ≤ 8; omega) (rl_ifF (i1 w1) (rl_load rfl rfl (rl_const (rl_const (min_ok (by show 0 ≤ 8; omega) (rl_ifF (i1 a2) (rl_load rfl rfl (rl_const (rl_const (min_ok (by show 0 ≤ 8; omega) (rl_ifF (j0 a3) (badM _))))))))))))))⟩
  have hL0 := hL
  obtain ⟨kk, qk, ⟨-, g3, g4⟩, hK⟩ := hL
  refine ⟨fI (fN d x y s hr T), xhd fun qe hqe => rl_load rfl rfl (isSort_x (by show 0 ≤ 8; omega) (rl_ifF (i1 a2) (rl_load rfl rfl (rl_const (rl_const (within_ok (by show 0 ≤ 8; omega) (rl_ifT (j1 a3) ?_))))))), rl_load rfl rfl (rl_load rfl rfl (isLet_m code_200 spec_148 m200 f149 f149' xm xm' (by show 0 ≤ 8; omega) (rl_ifF (i1 w1) (rl_load rfl rfl (rl_const (rl_const (min_ok (by show 0 ≤ 8; omega) (rl_ifF (i1 a2) (rl_load rfl rfl (rl_const (rl_const (min_ok (by show 0 ≤ 8; omega) (rl_ifT (j1 a3) ?_)))))))))))))⟩
  · show Rt σ 108 (jump 108 32) _ _ _ _
    rw [j108_32]
    refine rl_const (rl_store rfl (rl_const (rl_store rfl (rl_const (rl_store rfl ?_)))))
    exact X_findL hT hox hF0 hb hqe hL0 ⟨rfl, rfl⟩ T 0 _ (by omega) rfl rfl rfl rfl rfl rfl rfl
  · show Rt σ 236 (jump 236 30) _ _ _ _
    rw [j236_30]
    refine rl_load rfl rfl (ra_row hT hm (by rw [f106']; exact t69) f106 fun q69 hq69 => rl_load rfl rfl (ra_ald hT.1 (by omega) (by omega) hq69 g3 (by rw [k69]; rfl) (by omega) (rl_store rfl (rl_const (rl_store rfl (rl_const (rl_store rfl ?_)))))))
    exact M_findL hT hm hF0 g4 hK ⟨rfl, rfl⟩ T 0 _ (by omega) rfl rfl rfl rfl rfl rfl
theorem cpl_at {t c p k lim : Nat} {ms : List (Nat × Nat × Nat)} {dd : List (List (Nat × Nat × Nat))} (hT : TS ad h npL (fun _ _ => False) ho) (h1 : (cp_at t).1 = lim + 1) (h2 : (cp_at t).2.1 = ms) (h3 : (cp_at t).2.2.1 = dd) (ht : t < npL) (hm : (c, 0, 2147483648 + p) ∈ ms) (hk : ad lim k ≠ none) {V : Value} (hV : At ad h c k p V) : ∃ d gv, d ∈ dd ∧ DC true ad h k gv ms d := by
  have hC := hT.2.2.2.2.2 t k ht (fun e => e)
  unfold CpAt at hC
  rw [h1, h2, h3] at hC
  exact (hC ⟨(c, 0, 2147483648 + p), V, hm, by unfold AtM; rw [mp0]; exact hV⟩).1 (Or.inr (by rw [Nat.add_sub_cancel]; exact hk))
theorem fld_any (hT : TS ad h np ex ho) {c p k : Nat} (hc : c < 1000) (hm : cdm c = 0) (hp : p < (cd c).2.2.length) (hk : ad c k ≠ none) : ∃ V, At ad h c k p V := by
  obtain ⟨q0, hq0⟩ := ne_some hk
  obtain ⟨-, k', vs, y1, -, y3, -⟩ := hT.1 c k q0 hc hq0
  have := y3.1 hm
  exact ⟨_, q0, k', vs, hq0, y1, List.getElem?_eq_getElem (by omega)⟩
/-- a coupling of one number of an object and one of a row -/
theorem cpl_2 {t c p r k lo hi : Nat} (hT : TS ad h npL (fun _ _ => False) ho) (hcp : ((cp_at t).1 = c + 1 ∧ (cp_at t).2.1 = [(c, 0, 2147483648 + p), (r, 1, 2147483648)]) ∧ ((cp_at t).2.2.1 = [[(0, lo, hi), (0, lo, hi)]] ∧ t < npL)) (hc : c < 1000) (hm : cdm c = 0) (hp : p < (cd c).2.2.length) (hk : ad c k ≠ none) : ∃ X, (At ad h c k p (.int X) ∧ At ad h r 0 k (.int X)) ∧ (lo ≤ i2n X ∧ i2n X ≤ hi) := by
  obtain ⟨⟨a1, a2⟩, a3, a4⟩ := hcp
  obtain ⟨V, hV⟩ := fld_any hT hc hm hp hk
  obtain ⟨dd, gv, e7, D7⟩ := cpl_at (p := p) hT a1 a2 a3 a4 List.mem_cons_self hk hV
  have e7 := List.mem_singleton.mp e7
  subst e7
  obtain ⟨E1, D7⟩ := dc_1 D7
  obtain ⟨E2, -⟩ := dc_1 D7
  obtain ⟨X, x1, x2, x3⟩ := en_int' (by omega) E1
  obtain ⟨X', y1, y2, -⟩ := en_int' (by omega) E2
  have eX : X' = X := i2n_inj (y2.trans x2.symm)
  subst eX
  exact ⟨X', ⟨at_m0 x1, at_m1 y1⟩, x3⟩
theorem sm_nI {X : Int32} {hi : Nat} (h1 : 2147483648 ≤ i2n X ∧ i2n X ≤ hi) (h2 : hi < 4294967296) : ∃ n, X = nI n ∧ n + 2147483648 ≤ hi := ⟨i2n X - 2147483648, r5nI (by omega) (by omega), by omega⟩
theorem kerb_xy (hT : TS ad h npL (fun _ _ => False) ho) (hk : ad 2 kk ≠ none) : ∃ x y, PKb ad h kk x y := by
  obtain ⟨-, -, -, c2m, c2', c2l⟩ := fi_c
  obtain ⟨X, hX, hX'⟩ := cpl_2 (p := 3) hT cpf_k1 (by omega) c2m (by omega) hk
  obtain ⟨Y, hY, hY'⟩ := cpl_2 (p := 4) hT cpf_k2 (by omega) c2m (by omega) hk
  obtain ⟨n1, rfl, hn1⟩ := sm_nI hX' (by omega)
  obtain ⟨n2, rfl, hn2⟩ := sm_nI hY' (by omega)
  exact ⟨n1, n2, ⟨hX, by omega⟩, hY, by omega⟩
theorem let_xy (hT : TS ad h npL (fun _ _ => False) ho) {e : Nat} (hk : ad 5 e ≠ none) : ∃ x y, PLk ad h e x y := by
  obtain ⟨⟨a1, a2⟩, a3, a4⟩ := cpf_3'
  obtain ⟨⟨-, g2, g3⟩, -⟩ := tg_57
  obtain ⟨V, hV⟩ := fld_any (p := 2) hT (by omega) g2 (by omega) hk
  obtain ⟨dd, gv, e7, D7⟩ := cpl_at (p := 2) hT a1 a2 a3 a4 List.mem_cons_self hk hV
  have e7 := List.mem_singleton.mp e7
  subst e7
  obtain ⟨F2, D7⟩ := dc_1 D7
  obtain ⟨F3, -⟩ := dc_1 D7
  obtain ⟨kj, qk, z1, z2, z3⟩ := en_ref rfl rfl F2
  replace z3 : 2147483648 + kj + 0 = gv 0 := z3
  rw [fi_t] at z2
  obtain ⟨xs, w1, w2, w3, w4⟩ := en_int' (by omega) F3
  have exs : xs = nI kj := r5nI (by omega) (by omega)
  subst exs
  obtain ⟨x, y, hK⟩ := kerb_xy hT (kk := kj) (by rw [z2]; exact fun e => by cases e)
  exact ⟨x, y, kj, qk, ⟨⟨at_m0 (p := 2) z1, z2⟩, at_m1 w1, by have := nI_ok (show kj < 2147483648 by omega); omega⟩, hK⟩
theorem tip_p (hT : TS ad h npL (fun _ _ => False) ho) (hk : ad 4 t ≠ none) : ∃ p, PTp ad h t p := by
  obtain ⟨-, c4m, c4l⟩ := tg_57
  obtain ⟨X, hX, hX'⟩ := cpl_2 (p := 0) hT cpf_p1 (by omega) c4m (by omega) hk
  obtain ⟨Y, hY, hY'⟩ := cpl_2 (p := 1) hT cpf_p2 (by omega) c4m (by omega) hk
  obtain ⟨U, hU, -⟩ := cpl_2 (p := 2) hT cpf_p3 (by omega) c4m (by omega) hk
  obtain ⟨V, hV, -⟩ := cpl_2 (p := 3) hT cpf_p4 (by omega) c4m (by omega) hk
  obtain ⟨W, hW, -⟩ := cpl_2 (p := 4) hT cpf_p5 (by omega) c4m (by omega) hk
  obtain ⟨n1, rfl, hn1⟩ := sm_nI hX' (by omega)
  obtain ⟨n2, rfl, hn2⟩ := sm_nI hY' (by omega)
  exact ⟨((n1, n2), (U, (V, W))), ⟨⟨hX, (by show n1 < 100; omega)⟩, hY, (by show n2 < 100; omega)⟩, hU, hV, hW⟩
theorem head_fnh {L : LV} (hD : HD σ ad h L i) : ∃ N T d, FnH ad h N T d := by
  obtain ⟨N, T, dd, ⟨⟨⟨n60, t6⟩, -⟩, ⟨l5, l4⟩, -, n11, t11⟩, hn, -⟩ := head_wgs hD
  have hT := hD.1.2.1
  have ht : ∀ t, ∃ p : TPD, t < T → PTp ad h t p := fun t => by
    by_cases h1 : t < T
    · obtain ⟨ql, mc, ed, -, -, e4⟩ := l4
      rcases e4 with e4 | ⟨bq, us, -, -, e7⟩
      · omega
      · obtain ⟨q, -, hq⟩ := e7 t h1
        obtain ⟨p, hp⟩ := tip_p hT (t := t) (by rw [hq]; exact fun e => by cases e)
        exact ⟨p, fun _ => hp⟩
    · exact ⟨((0, 0), (0, (0, 0))), fun h => absurd h h1⟩
  obtain ⟨d, hd⟩ := Classical.axiomOfChoice ht
  exact ⟨N, T, d, ⟨⟨⟨n60, t6⟩, l5, l4⟩, n11, t11⟩, fun e he => let_xy hT ((hn e).mpr he), hd⟩
end
