section
/-! FROM BELOW: the loops -/
/-- a list by its address -/
noncomputable def LsQ (ad : AD) (h : AH) (ql el N : Nat) : Prop := ∃ mc ed, h.1 ql = some (12, [.int mc, ed, .int (nI N)]) ∧ (N = 0 ∨ ∃ bq us, ed = .ref bq ∧ (h.1 bq = some (24, us) ∧ ∀ s, s < N → ∃ q, us[s]? = some (.ref q) ∧ ad el s = some q))
section
variable {σ : Nat → Nat} {ad : AD} {h : AH} {np n T ox m t i kk x y N el ql qp qt a b f : Nat} {ex ho : Nat → Nat → Prop} {Q : Option Value → AH → Prop} {s hr : Int32} {d : Nat → TPD} {tk : Nat → TKD} {p : TKD} {tl : List (Nat × AI)} {L : LV} {S : List Value} {M pc pc1 pc2 pc3 pc4 j kd : Nat} {c c1 c2 c3 c4 : Int}
theorem ref2_ok {q q' M : Nat} (hm : 2 ≤ mL M) : am_ok [.ref q, .ref q'] M = true := by
  unfold am_ok
  rw [decide_eq_true (show ([.ref q, .ref q'] : List Value).length ≤ mL M from hm)]
  rfl
theorem rl_qsz (hl : LsQ ad h ql el N) (h4 : am_w S ≤ 8) (hk : Rt σ M tl L (.int (nI N) :: S) h Q) : Rt σ M ((pc, (12, 13, c)) :: tl) L (.ref ql :: S) h Q := by
  obtain ⟨m1, -⟩ := and2 ml_ff
  obtain ⟨mc, ed, e3, -⟩ := hl
  exact rl_callv (as := []) (r := S) spec_13 rfl rfl e3 h4 (ref_ok (blet m1)) (L_size e3 hk)
theorem rl_qget (hT : TS ad h np ex ho) (hel : el < 1000) (hkd : cdk el = kd) (hkd2 : kd ≠ 31) (hl : LsQ ad h ql el N) (hN : N ≤ 60) (hj : lv_get j L = some (.int (nI t))) (he : t < N) (h4 : am_w S ≤ 8) (hk : ∀ q, ad el t = some q → Rt σ M tl L (.ref q :: S) h Q) : Rt σ M ((pc2, (1, j, 0)) :: (pc3, (12, 17, c3)) :: (pc4, (28, kd, c4)) :: tl) L (.ref ql :: S) h Q := by
  obtain ⟨-, m2⟩ := and2 ml_ff
  obtain ⟨m2, -⟩ := and2 m2
  obtain ⟨mc, ed, e3, e4⟩ := hl
  rcases e4 with e4 | ⟨bq, us, rfl, e6, e7⟩
  · omega
  · obtain ⟨qk, u1, u2⟩ := e7 t he
    have hi := nI_nn (show t < 2147483648 by omega)
    obtain ⟨-, k', vs, o1, o2, -⟩ := hT.1 el t qk hel u2
    have ek : k' = kd := by
      rcases o2 with e | ⟨e, -⟩
      · rw [e, hkd]
      · exact absurd (hkd.symm.trans e) hkd2
    subst ek
    exact rl_load hj rfl (rl_callv (as := [.int (nI t)]) (r := S) spec_17 rfl rfl e3 h4 (two_ok (blet m2)) (L_get (u := qk) e3 e6 hi.1 ((tx_lt (by omega) (by omega)).mpr (by omega)) (by rw [hi.2]; exact u1) (rl_cast o1 (hk qk u2))))
theorem X_bdIn (hT : TS ad h np ex ho) (hq4 : LsQ ad h ql 4 T) (hT6 : T ≤ 6) (hP : ∀ t, t < T → PTp ad h t (d t)) (hqt : ad 7 t = some qt) (hp : PTk ad h t p) (hf : f ≤ 1000000) {v0 : Nat} {v2 v3 v5 : Int32}
    (hk : ∀ L' : LV, lv_get 0 L' = some (.ref v0) → lv_get 1 L' = some (.ref ql) → lv_get 2 L' = some (.int v2) → lv_get 3 L' = some (.int v3) → lv_get 5 L' = some (.int v5) → lv_get 6 L' = some (.ref qt) → lv_get 4 L' = some (.int (nI (bF d p.2 f T))) → lv_get 7 L' = some (.int (nI (bT d p T))) → Rt σ 143 (jump 143 137) L' [] h Q) : ∀ (r i : Nat) (L : LV), i + r = T → lv_get 0 L = some (.ref v0) → lv_get 1 L = some (.ref ql) → lv_get 2 L = some (.int v2) → lv_get 3 L = some (.int v3) → lv_get 5 L = some (.int v5) → lv_get 6 L = some (.ref qt) → lv_get 4 L = some (.int (nI (bF d p.2 f i))) → lv_get 7 L = some (.int (nI (bT d p i))) → lv_get 8 L = some (.int (nI i)) → Rt σ 143 (jump 143 57) L [] h Q := by
  obtain ⟨⟨-, ⟨f67, f67'⟩, -⟩, -⟩ := bd_f
  obtain ⟨f15, f15'⟩ := fi_f.1.1.2
  obtain ⟨f16, f16'⟩ := fi_f.1.2.1
  obtain ⟨⟨s78, -⟩, -⟩ := And.intro fi_sp.1.2 True.intro
  obtain ⟨⟨-, s96⟩, -⟩ := bd_sp.1
  obtain ⟨⟨-, m129⟩, -⟩ := bd_ml.1
  obtain ⟨⟨⟨-, m109⟩, -⟩, -⟩ := fi_ml
  obtain ⟨⟨-, -, c7m, c7, -⟩, -⟩ := bd_c
  obtain ⟨⟨⟨⟨-, c4'⟩, -⟩, -⟩, -⟩ := wg_c
  obtain ⟨-, -, -, -, c2', -⟩ := fi_c
  have hp0 := hp
  obtain ⟨⟨kk, qk, ⟨⟨g1, g2⟩, -⟩, ⟨⟨k1, -⟩, hx⟩, ⟨k2, -⟩, hy⟩, g5, -⟩ := hp
  obtain ⟨vt, xvt, -⟩ := at_kind hT.1 (by omega) (by omega) g5 hqt
  rw [c7] at xvt
  intro r
  induction r with
  | zero =>
    intro i L hi l0 l1 l2 l3 l5 l6 l4 l7 l8
    have ei : i = T := by omega
    subst ei
    rw [j143_57]
    refine rl_load l8 rfl (rl_load l1 rfl (rl_qsz hq4 (by show 1 ≤ 8; omega) (rl_icmpT ?_ ?_)))
    · show some (decide (nI i ≤ nI i)) = some true
      rw [decide_eq_true ((tx_le (by omega) (by omega)).mpr (Nat.le_refl _))]
    · exact hk L l0 l1 l2 l3 l5 l6 l4 l7
  | succ r ih =>
    intro i L hi l0 l1 l2 l3 l5 l6 l4 l7 l8
    have hiT : i < T := by omega
    have hpp := hP i hiT
    have ml := mi_lt hpp hx hy
    have ml5 := mi_lt hpp (show 50 < 100 by omega) (show 50 < 100 by omega)
    have lT := bT_le (d := d) (p := p) i
    have lF := bF_le (d := d) (s := p.2) hf i
    rw [j143_57]
    refine rl_load l8 rfl (rl_load l1 rfl (rl_qsz hq4 (by show 1 ≤ 8; omega) (rl_icmpF ?_ (rl_load l1 rfl (rl_qget hT (by omega) c4' (by omega) hq4 (by omega) l8 hiT (by show 0 ≤ 8; omega) fun q4 hqq4 => rl_store rfl (rl_load (get_put rfl rfl (by omega) l6) rfl (rl_load (v := .ref q4) rfl rfl (rl_callv (as := [.ref q4]) (r := []) s96 rfl rfl xvt (by show 0 ≤ 8; omega) (ref2_ok m129) (X_mayGo hT hqt hp0 hqq4 hpp ?_))))))))) 
    · show some (decide (nI T ≤ nI i)) = some false
      rw [decide_eq_false (by rw [tx_le (by omega) (by omega)]; omega)]
    have g9 : ∀ {k : Nat} {u : Value}, k ≤ 8 → u.category = 1 → lv_get k L = some u → lv_get k (lv_put 9 (.ref q4) L) = some u := fun {k u} hk hu hz => get_put hu rfl (by omega) hz
    show Rt σ 143 _ _ (.int (bif tkB (d i) p.2 (Int32.ofInt 12) then 1 else 0) :: []) h Q
    cases hb1 : tkB (d i) p.2 (Int32.ofInt 12)
    · have eT : bT d p (i + 1) = bT d p i := by rw [bT, hb1, cond_false]
      have eF : bF d p.2 f (i + 1) = bF d p.2 f i := by rw [bF, hb1, cond_false]
      refine rl_ifT rfl ?_
      show Rt σ 143 (jump 143 131) _ _ _ _
      rw [j143_131]
      refine rl_iinc (g9 (by omega) rfl l8) (rl_goto ?_)
      rw [nI_suc (by omega)]
      have g8 : ∀ {k : Nat} {u : Value}, k ≤ 7 → u.category = 1 → lv_get k L = some u → lv_get k (lv_put 8 (.int (nI (i + 1))) (lv_put 9 (.ref q4) L)) = some u := fun {k u} hk hu hz => get_put hu rfl (by omega) (g9 (by omega) hu hz)
      exact ih (i + 1) _ (by omega) (g8 (by omega) rfl l0) (g8 (by omega) rfl l1) (g8 (by omega) rfl l2) (g8 (by omega) rfl l3) (g8 (by omega) rfl l5) (g8 (by omega) rfl l6) (by rw [eF]; exact g8 (by omega) rfl l4) (by rw [eT]; exact g8 (by omega) rfl l7) rfl
    have eT : nI (bT d p (i + 1)) = (if nI (miT p.1.1 p.1.2 (d i)) < nI (bT d p i) then nI (miT p.1.1 p.1.2 (d i)) else nI (bT d p i)) := by rw [mn_nI (by omega) (by omega), bT, hb1, cond_true]
    have eF : nI (bF d p.2 f (i + 1)) = (if nI (miT 50 50 (d i)) < nI (bF d p.2 f i) then nI (miT 50 50 (d i)) else nI (bF d p.2 f i)) := by rw [mn_nI (by omega) (by omega), bF, hb1, cond_true]
    obtain ⟨v4, xv4, -⟩ := at_kind hT.1 (by omega) (by omega) hpp.1.1.1.1 hqq4
    rw [c4'] at xv4
    refine rl_ifF rfl (rl_load (g9 (by omega) rfl l7) rfl (rl_load (v := .ref q4) rfl rfl (rl_load (g9 (by omega) rfl l6) rfl (ra_get hT.1 (by omega) (by omega) hqt (by rw [f67']; exact g1) (by rw [c7]; exact f67) (ra_get hT.1 (by omega) (by omega) g2 (by rw [f15']; exact k1) (by rw [c2']; exact f15) (rl_load (g9 (by omega) rfl l6) rfl (ra_get hT.1 (by omega) (by omega) hqt (by rw [f67']; exact g1) (by rw [c7]; exact f67) (ra_get hT.1 (by omega) (by omega) g2 (by rw [f16']; exact k2) (by rw [c2']; exact f16) ?_))))))))
    refine rl_callv (as := [.int (nI p.1.1), .int (nI p.1.2)]) (r := [.int (nI (bT d p i))]) s78 rfl rfl xv4 (by show 1 ≤ 8; omega) (three_ok m109) (X_milesTo hT hqq4 hpp hx hy (rl_min (by show 0 ≤ 8; omega) ?_))
    rw [← eT]
    refine rl_store rfl (rl_load (get_put rfl rfl (by omega) (g9 (by omega) rfl l4)) rfl (rl_load (v := .ref q4) (get_put rfl rfl (by omega) rfl) rfl (rl_const (rl_const (rl_callv (as := [.int (nI 50), .int (nI 50)]) (r := [.int (nI (bF d p.2 f i))]) s78 rfl rfl xv4 (by show 1 ≤ 8; omega) (three_ok m109) (X_milesTo hT hqq4 hpp (by omega) (by omega) (rl_min (by show 0 ≤ 8; omega) ?_)))))))
    rw [← eF]
    refine rl_store rfl ?_
    have g4 : ∀ {k : Nat} {u : Value}, k ≤ 8 → k ≠ 4 → k ≠ 7 → u.category = 1 → lv_get k L = some u → lv_get k (lv_put 4 (.int (nI (bF d p.2 f (i + 1)))) (lv_put 7 (.int (nI (bT d p (i + 1)))) (lv_put 9 (.ref q4) L))) = some u := fun {k u} hk h4 h7 hu hz => get_put hu rfl (by omega) (get_put hu rfl (by omega) (g9 (by omega) hu hz))
    rw [j143_131]
    refine rl_iinc (g4 (by omega) (by omega) (by omega) rfl l8) (rl_goto ?_)
    rw [nI_suc (by omega)]
    have g8 : ∀ {k : Nat} {u : Value}, k ≤ 6 → k ≠ 4 → u.category = 1 → lv_get k L = some u → lv_get k (lv_put 8 (.int (nI (i + 1))) (lv_put 4 (.int (nI (bF d p.2 f (i + 1)))) (lv_put 7 (.int (nI (bT d p (i + 1)))) (lv_put 9 (.ref q4) L)))) = some u := fun {k u} hk h4 hu hz => get_put hu rfl (by omega) (g4 (by omega) (by omega) (by omega) hu hz)
    exact ih (i + 1) _ (by omega) (g8 (by omega) (by omega) rfl l0) (g8 (by omega) (by omega) rfl l1) (g8 (by omega) (by omega) rfl l2) (g8 (by omega) (by omega) rfl l3) (g8 (by omega) (by omega) rfl l5) (g8 (by omega) (by omega) rfl l6) (get_put rfl rfl (by omega) rfl) (get_put rfl rfl (by omega) (get_put rfl rfl (by omega) rfl)) rfl
theorem X_below (hT : TS ad h np ex ho) (hqp : ad 8 0 = some qp) (hlp : LsP ad h n) (hn6 : n ≤ 6) (hq4 : LsQ ad h ql 4 T) (hT6 : T ≤ 6) (hK : ∀ t, t < n → PTk ad h t (tk t)) (hP : ∀ t, t < T → PTp ad h t (d t)) (hQ : Q (some (.int (if n = 0 then 0 else bR d tk T n 0))) h) : Rt σ 143 (codeOf 143) (am_args 0 [.ref qp, .ref ql]) [] h Q := by
  obtain ⟨⟨⟨-, f45, f45'⟩, -⟩, -⟩ := bd_f
  obtain ⟨⟨-, -, c8m, c8⟩, -, c7m, c7, -⟩ := bd_c.1
  obtain ⟨⟨⟨s95, -⟩, -, s106⟩, -⟩ := bd_sp
  obtain ⟨⟨⟨m130, -⟩, -, m287⟩, -⟩ := bd_ml
  obtain ⟨-, -, -, hE⟩ := bd_c
  obtain ⟨ql7, mc, ed, e1, e2, e3⟩ := hlp
  have hq7 : LsQ ad h ql7 7 n := ⟨mc, ed, e2, e3⟩
  have loop : 0 < n → ∀ (r t : Nat) (L : LV), t + r = n → bR d tk T r t = bR d tk T n 0 → lv_get 0 L = some (.ref qp) → lv_get 1 L = some (.ref ql) → lv_get 2 L = some (.int (nI (sS d tk T t))) → lv_get 3 L = some (.int (nI (kS tk t))) → lv_get 4 L = some (.int (nI (fbS d tk T t))) → lv_get 5 L = some (.int (nI t)) → Rt σ 143 (jump 143 24) L [] h Q := by
    intro h0
    rw [if_neg (by omega)] at hQ
    intro r
    induction r with
    | zero =>
      intro t L ht hr l0 l1 l2 l3 l4 l5
      have et : t = n := by omega
      subst et
      have b1 := sS_le (d := d) (tk := tk) (T := T) t
      have b2 := kS_le (tk := tk) t
      have b3 := fbS_le (d := d) (tk := tk) (T := T) t
      rw [j143_24]
      refine rl_load l5 rfl (rl_load l0 rfl (ra_get hT.1 (by omega) (by omega) hqp (by rw [f45']; exact e1) (by rw [c8]; exact f45) (rl_qsz hq7 (by show 1 ≤ 8; omega) (rl_icmpT ?_ ?_))))
      · show some (decide (nI t ≤ nI t)) = some true
        rw [decide_eq_true ((tx_le (by omega) (by omega)).mpr (Nat.le_refl _))]
      · show Rt σ 143 (jump 143 168) _ _ _ _
        rw [j143_168]
        refine rl_load l2 rfl (rl_load l3 rfl (rl_bin (z := nI (sS d tk T t + kS tk t)) (by show some _ = some _; rw [nI_plus (by omega)]) (rl_load l4 rfl (rl_bin (z := nI (sS d tk T t + kS tk t + fbS d tk T t)) (by show some _ = some _; rw [nI_plus (by omega)]) (rl_ret1 ?_)))))
        rw [← hr] at hQ
        exact hQ
    | succ r ih =>
      intro t L ht hr l0 l1 l2 l3 l4 l5
      have htn : t < n := by omega
      have hp := hK t htn
      have b1 := sS_le (d := d) (tk := tk) (T := T) t
      have b2 := kS_le (tk := tk) t
      have b3 := fbS_le (d := d) (tk := tk) (T := T) t
      have b4 := bT_le (d := d) (p := tk t) T
      rw [j143_24]
      refine rl_load l5 rfl (rl_load l0 rfl (ra_get hT.1 (by omega) (by omega) hqp (by rw [f45']; exact e1) (by rw [c8]; exact f45) (rl_qsz hq7 (by show 1 ≤ 8; omega) (rl_icmpF ?_ (rl_load l0 rfl (ra_get hT.1 (by omega) (by omega) hqp (by rw [f45']; exact e1) (by rw [c8]; exact f45) (rl_qget hT (by omega) c7 (by omega) hq7 (by omega) l5 htn (by show 0 ≤ 8; omega) fun qt hqt => rl_store rfl (rl_const (rl_store rfl (rl_const (rl_store rfl ?_))))))))))) 
      · show some (decide (nI n ≤ nI t)) = some false
        rw [decide_eq_false (by rw [tx_le (by omega) (by omega)]; omega)]
      have g0 : ∀ {k : Nat} {u v6 v7 v8 : Value}, k ≤ 5 → u.category = 1 → v6.category = 1 → v7.category = 1 → v8.category = 1 → lv_get k L = some u → lv_get k (lv_put 8 v8 (lv_put 7 v7 (lv_put 6 v6 L))) = some u := fun {k u v6 v7 v8} hk hu h6 h7 h8 hz => get_put hu h8 (by omega) (get_put hu h7 (by omega) (get_put hu h6 (by omega) hz))
      refine X_bdIn hT hq4 hT6 hP hqt hp b3 (v0 := qp) (v2 := nI (sS d tk T t)) (v3 := nI (kS tk t)) (v5 := nI t) (fun L' m0 m1 m2 m3 m5 m6 m4 m7 => ?_) T 0 _ (by omega) (g0 (by omega) rfl rfl rfl rfl l0) (g0 (by omega) rfl rfl rfl rfl l1) (g0 (by omega) rfl rfl rfl rfl l2) (g0 (by omega) rfl rfl rfl rfl l3) (g0 (by omega) rfl rfl rfl rfl l5) (get_put rfl rfl (by omega) (get_put rfl rfl (by omega) rfl)) (g0 (by omega) rfl rfl rfl rfl l4) (get_put rfl rfl (by omega) rfl) rfl
      rw [j143_137]
      refine rl_load m7 rfl (rl_const ?_)
      by_cases z : bT d (tk t) T = 1000000
      · refine rl_icmpF (by show some (decide (¬ nI (bT d (tk t) T) = nI 1000000)) = some false; rw [z, decide_eq_false (fun h => h rfl)]) (rl_const (rl_ret1 ?_))
        rw [← hr, bR, if_pos z] at hQ
        exact hQ
      · have zn : ¬ nI (bT d (tk t) T) = nI 1000000 := fun e => z (by
          have h1 := congrArg i2n e
          rw [nI_ok (by omega), nI_ok (by omega)] at h1
          omega)
        refine rl_icmpT (by show some (decide (¬ nI (bT d (tk t) T) = nI 1000000)) = some true; rw [decide_eq_true zn]) ?_
        show Rt σ 143 (jump 143 147) _ _ _ _
        have eK : nI (kS tk (t + 1)) = (if nI (bY (tk t)) < nI (kS tk t) then nI (bY (tk t)) else nI (kS tk t)) := by
          obtain ⟨⟨kk, qk, -, ⟨-, hx⟩, -, hy⟩, -⟩ := hp
          have l1 := mA_lt hx (show 50 < 100 by omega)
          have l2 := mA_lt hy (show 50 < 100 by omega)
          rw [mn_nI (by omega) (by unfold bY; omega), kS]
        obtain ⟨vt, xvt, -⟩ := at_kind hT.1 (by omega) (by omega) hp.2.1 hqt
        rw [c7] at xvt
        rw [j143_147]
        refine rl_load m2 rfl (rl_load m7 rfl (rl_bin (z := nI (sS d tk T (t + 1))) (by show some _ = some _; rw [nI_plus (by omega)]; rfl) (rl_store rfl (rl_load (get_put rfl rfl (by omega) m3) rfl (rl_load (get_put rfl rfl (by omega) m6) rfl (rl_callv (as := []) (r := [.int (nI (kS tk t))]) s95 rfl rfl xvt (by show 1 ≤ 8; omega) (ref_ok m130) (X_fromY hT hqt hp (rl_min (by show 0 ≤ 8; omega) ?_))))))))
        rw [← eK]
        refine rl_store rfl (rl_iinc (get_put rfl rfl (by omega) (get_put rfl rfl (by omega) m5)) (rl_goto ?_))
        rw [nI_suc (by omega)]
        refine ih (t + 1) _ (by omega) ?_ (get_put rfl rfl (by omega) (get_put rfl rfl (by omega) (get_put rfl rfl (by omega) m0))) (get_put rfl rfl (by omega) (get_put rfl rfl (by omega) (get_put rfl rfl (by omega) m1))) (get_put rfl rfl (by omega) (get_put rfl rfl (by omega) rfl)) (get_put rfl rfl (by omega) rfl) (get_put rfl rfl (by omega) (get_put rfl rfl (by omega) (get_put rfl rfl (by omega) m4))) rfl
        rw [← hr, bR, if_neg z]
  rw [head_143]
  refine rl_load rfl rfl (ra_get hT.1 (by omega) (by omega) hqp (by rw [f45']; exact e1) (by rw [c8]; exact f45) (rl_callv (as := []) (r := []) s106 rfl rfl e2 (by show 0 ≤ 8; omega) (ref_ok m287) ?_))
  have em := L_empty (σ := σ) (mc := mc) (ed := ed) (sz := nI n) (q := ql7) (h := h) e2 (Q := fun v h' => Rt σ 143 ([(7, (6, 0, 12)), (10, (0, 0, 0)), (11, (13, 1, 0))] ++ jump 143 12) (am_args 0 [.ref qp, .ref ql]) (v.toList ++ []) h' Q)
  rw [hE] at em
  refine em ?_
  by_cases n0 : n = 0
  · subst n0
    rw [if_pos (show nI 0 = 0 from rfl)]
    refine rl_ifF rfl (rl_const (rl_ret1 ?_))
    rw [if_pos rfl] at hQ
    exact hQ
  · have nz : ¬ nI n = 0 := fun e => n0 (nI_eqn (by omega) (by omega) e)
    rw [if_neg nz]
    refine rl_ifT rfl ?_
    show Rt σ 143 (jump 143 12) _ _ _ _
    rw [j143_12]
    refine rl_const (rl_store rfl (rl_const (rl_store rfl (rl_const (rl_store rfl (rl_const (rl_store rfl ?_)))))))
    exact loop (by omega) n 0 _ (by omega) rfl rfl rfl rfl rfl rfl rfl
theorem M_bdIn (hT : TS ad h np ex ho) (hm : ad 11 0 = some m) (hT6 : T ≤ 6) (htn : At ad h 11 0 11 (.int (nI T))) (ht : t < 6) (hP : ∀ t, t < T → PTp ad h t (d t)) (hp : PTk ad h t p) (hf : f ≤ 1000000) {v1 v2 : Int32}
    (hk : ∀ L' : LV, lv_get 0 L' = some (.ref m) → lv_get 1 L' = some (.int v1) → lv_get 2 L' = some (.int v2) → lv_get 4 L' = some (.int (nI t)) → lv_get 3 L' = some (.int (nI (bF d p.2 f T))) → lv_get 5 L' = some (.int (nI (bT d p T))) → Rt σ 261 (jump 261 130) L' [] h Q) : ∀ (r i : Nat) (L : LV), i + r = T → lv_get 0 L = some (.ref m) → lv_get 1 L = some (.int v1) → lv_get 2 L = some (.int v2) → lv_get 4 L = some (.int (nI t)) → lv_get 3 L = some (.int (nI (bF d p.2 f i))) → lv_get 5 L = some (.int (nI (bT d p i))) → lv_get 6 L = some (.int (nI i)) → Rt σ 261 (jump 261 30) L [] h Q := by
  obtain ⟨-, -, ⟨f127, f127'⟩, f125, f125'⟩ := bd_f
  obtain ⟨-, ⟨⟨t87, k87⟩, t89, k89⟩, -⟩ := bd_c
  obtain ⟨-, ⟨⟨-, f139, f139'⟩, -⟩, -⟩ := wg_f.2
  obtain ⟨-, -, ⟨f92, f92'⟩, f93, f93'⟩ := fi_g
  obtain ⟨-, -, ⟨⟨t55, k55⟩, t56, k56⟩, -⟩ := fi_c
  obtain ⟨-, ⟨-, s167⟩, s168, s169⟩ := fi_sp
  obtain ⟨-, ⟨m237, m238⟩, m239⟩ := fi_ml
  obtain ⟨⟨⟨c11, c11'⟩, -⟩, -⟩ := m_cls
  obtain ⟨vm, xm, -⟩ := at_kind hT.1 (by omega) (by omega) htn hm
  rw [c11'] at xm
  obtain ⟨⟨kk, qk, ⟨-, g3, g4⟩, hK⟩, -, g6⟩ := hp
  have hx := hK.1.2
  have hy := hK.2.2
  intro r
  induction r with
  | zero =>
    intro i L hi l0 l1 l2 l4 l3 l5 l6
    have ei : i = T := by omega
    subst ei
    rw [j261_30]
    refine rl_load l6 rfl (rl_load l0 rfl (ra_get hT.1 (by omega) (by omega) hm (by rw [f139']; exact htn) (by rw [c11']; exact f139) (rl_icmpT ?_ ?_)))
    · show some (decide (nI i ≤ nI i)) = some true
      rw [decide_eq_true ((tx_le (by omega) (by omega)).mpr (Nat.le_refl _))]
    · exact hk L l0 l1 l2 l4 l3 l5
  | succ r ih =>
    intro i L hi l0 l1 l2 l4 l3 l5 l6
    have hiT : i < T := by omega
    have hpp := hP i hiT
    have ml := mi_lt hpp hx hy
    have ml5 := mi_lt hpp (show 50 < 100 by omega) (show 50 < 100 by omega)
    have lT := bT_le (d := d) (p := p) i
    have lF := bF_le (d := d) (s := p.2) hf i
    obtain ⟨⟨⟨⟨-, a2⟩, a3⟩, ⟨-, b2⟩, b3⟩, -⟩ := hpp
    have hpp := hP i hiT
    rw [j261_30]
    refine rl_load l6 rfl (rl_load l0 rfl (ra_get hT.1 (by omega) (by omega) hm (by rw [f139']; exact htn) (by rw [c11']; exact f139) (rl_icmpF ?_ (rl_load l0 rfl (rl_load l6 rfl (rl_load l0 rfl (ra_row hT hm (by rw [f127']; exact t89) f127 fun q89 hq89 => rl_load l4 rfl (ra_ald hT.1 (by omega) (by omega) hq89 g6 (by rw [k89]; rfl) (by omega) (rl_const (rl_callv (as := [.int (nI i), .int p.2, .int (Int32.ofInt 12)]) (r := []) s167 rfl rfl xm (by show 0 ≤ 8; omega) (four_ok' m237) (M_takes hT hm (by omega) hpp ?_)))))))))))
    · show some (decide (nI T ≤ nI i)) = some false
      rw [decide_eq_false (by rw [tx_le (by omega) (by omega)]; omega)]
    show Rt σ 261 _ _ (.int (bif tkB (d i) p.2 (Int32.ofInt 12) then 1 else 0) :: []) h Q
    cases hb1 : tkB (d i) p.2 (Int32.ofInt 12)
    · have eT : bT d p (i + 1) = bT d p i := by rw [bT, hb1, cond_false]
      have eF : bF d p.2 f (i + 1) = bF d p.2 f i := by rw [bF, hb1, cond_false]
      refine rl_ifT rfl ?_
      show Rt σ 261 (jump 261 124) _ _ _ _
      rw [j261_124]
      refine rl_iinc l6 (rl_goto ?_)
      rw [nI_suc (by omega)]
      exact ih (i + 1) _ (by omega) (get_put rfl rfl (by omega) l0) (get_put rfl rfl (by omega) l1) (get_put rfl rfl (by omega) l2) (get_put rfl rfl (by omega) l4) (by rw [eF]; exact get_put rfl rfl (by omega) l3) (by rw [eT]; exact get_put rfl rfl (by omega) l5) rfl
    have eT : bT d p (i + 1) = (if miT p.1.1 p.1.2 (d i) < bT d p i then miT p.1.1 p.1.2 (d i) else bT d p i) := by rw [bT, hb1, cond_true]
    have eF : bF d p.2 f (i + 1) = (if miT 50 50 (d i) < bF d p.2 f i then miT 50 50 (d i) else bF d p.2 f i) := by rw [bF, hb1, cond_true]
    have mok : am_ok [.int (nI (d i).1.1), .int (nI (d i).1.2), .int (nI 50), .int (nI 50)] 239 = true := by
      unfold am_ok
      rw [decide_eq_true (show ([.int (nI (d i).1.1), .int (nI (d i).1.2), .int (nI 50), .int (nI 50)] : List Value).length ≤ mL 239 from m239)]
      rfl
    have e50 : mA 50 (d i).1.1 + mA 50 (d i).1.2 = miT 50 50 (d i) := by
      unfold miT
      rw [mA_c 50 (d i).1.1, mA_c 50 (d i).1.2]
    refine rl_ifF rfl (rl_load l0 rfl (rl_load l0 rfl (ra_row hT hm (by rw [f125']; exact t87) f125 fun q87 hq87 => rl_load l4 rfl (ra_ald hT.1 (by omega) (by omega) hq87 g3 (by rw [k87]; rfl) (by omega) (rl_load l6 rfl (rl_callv (as := [.int (nI kk), .int (nI i)]) (r := []) s168 rfl rfl xm (by show 0 ≤ 8; omega) (three_ok m238) (M_toTip hT hm g4 hK (by omega) hpp (rl_store rfl (rl_load (get_put rfl rfl (by omega) l0) rfl (ra_row hT hm (by rw [f92']; exact t55) f92 fun q55 hq55 => rl_load (get_put rfl rfl (by omega) l6) rfl (ra_ald hT.1 (by omega) (by omega) hq55 a2 (by rw [k55]; rfl) (by omega) (rl_load (get_put rfl rfl (by omega) l0) rfl (ra_row hT hm (by rw [f93']; exact t56) f93 fun q56 hq56 => rl_load (get_put rfl rfl (by omega) l6) rfl (ra_ald hT.1 (by omega) (by omega) hq56 b2 (by rw [k56]; rfl) (by omega) (rl_const (rl_const (rl_calls (as := [.int (nI (d i).1.1), .int (nI (d i).1.2), .int (nI 50), .int (nI 50)]) (r := []) s169 rfl rfl (by show 0 ≤ 8; omega) mok (M_apart a3 b3 (by omega) (by omega) ?_))))))))))))))))))
    rw [e50]
    refine rl_store rfl (rl_load (v := .int (nI (miT p.1.1 p.1.2 (d i)))) (get_put rfl rfl (by omega) rfl) rfl (rl_load (get_put rfl rfl (by omega) (get_put rfl rfl (by omega) l5)) rfl ?_))
    have g8 : ∀ {k : Nat} {u v7 v8 : Value}, k ≤ 6 → u.category = 1 → v7.category = 1 → v8.category = 1 → lv_get k L = some u → lv_get k (lv_put 8 v8 (lv_put 7 v7 L)) = some u := fun {k u v7 v8} hk hu h7 h8 hz => get_put hu h8 (by omega) (get_put hu h7 (by omega) hz)
    -- behind both
    have fin : ∀ L' : LV, lv_get 0 L' = some (.ref m) → lv_get 1 L' = some (.int v1) → lv_get 2 L' = some (.int v2) → lv_get 4 L' = some (.int (nI t)) → lv_get 5 L' = some (.int (nI (bT d p (i + 1)))) → lv_get 6 L' = some (.int (nI i)) → Rt σ 261 (jump 261 123) L' [.int (nI (bF d p.2 f (i + 1)))] h Q := fun L' m0 m1 m2 m4 m5 m6 => by
      rw [j261_123]
      refine rl_store rfl ?_
      rw [j261_124]
      refine rl_iinc (get_put rfl rfl (by omega) m6) (rl_goto ?_)
      rw [nI_suc (by omega)]
      exact ih (i + 1) _ (by omega) (get_put rfl rfl (by omega) (get_put rfl rfl (by omega) m0)) (get_put rfl rfl (by omega) (get_put rfl rfl (by omega) m1)) (get_put rfl rfl (by omega) (get_put rfl rfl (by omega) m2)) (get_put rfl rfl (by omega) (get_put rfl rfl (by omega) m4)) (get_put rfl rfl (by omega) rfl) (get_put rfl rfl (by omega) (get_put rfl rfl (by omega) m5)) rfl
    have mid : Rt σ 261 (jump 261 109) (lv_put 8 (.int (nI (miT 50 50 (d i)))) (lv_put 7 (.int (nI (miT p.1.1 p.1.2 (d i)))) L)) [.int (nI (bT d p (i + 1)))] h Q := by
      have q5 : ∀ {k : Nat} {u : Value}, k ≤ 4 ∨ k = 6 → u.category = 1 → lv_get k L = some u → lv_get k (lv_put 5 (.int (nI (bT d p (i + 1)))) (lv_put 8 (.int (nI (miT 50 50 (d i)))) (lv_put 7 (.int (nI (miT p.1.1 p.1.2 (d i)))) L))) = some u := fun {k u} hk hu hz => get_put hu rfl (by omega) (g8 (by omega) hu rfl rfl hz)
      rw [j261_109]
      refine rl_store rfl (rl_load (v := .int (nI (miT 50 50 (d i)))) (get_put rfl rfl (by omega) rfl) rfl (rl_load (q5 (by omega) rfl l3) rfl ?_))
      by_cases z : miT 50 50 (d i) < bF d p.2 f i
      · have e : bF d p.2 f (i + 1) = miT 50 50 (d i) := by rw [eF, if_pos z]
        refine rl_icmpF (by show some (decide (nI (bF d p.2 f i) ≤ nI (miT 50 50 (d i)))) = some false; rw [decide_eq_false (by rw [tx_le (by omega) (by omega)]; omega)]) (rl_load (v := .int (nI (miT 50 50 (d i)))) (get_put rfl rfl (by omega) rfl) rfl (rl_goto ?_))
        show Rt σ 261 (jump 261 123) _ _ _ _
        rw [← e]
        refine fin _ (by rw [e]; exact q5 (by omega) rfl l0) (by rw [e]; exact q5 (by omega) rfl l1) (by rw [e]; exact q5 (by omega) rfl l2) (by rw [e]; exact q5 (by omega) rfl l4) rfl (by rw [e]; exact q5 (by omega) rfl l6)
      · have e : bF d p.2 f (i + 1) = bF d p.2 f i := by rw [eF, if_neg z]
        refine rl_icmpT (by show some (decide (nI (bF d p.2 f i) ≤ nI (miT 50 50 (d i)))) = some true; rw [decide_eq_true ((tx_le (by omega) (by omega)).mpr (by omega))]) ?_
        show Rt σ 261 (jump 261 122) _ _ _ _
        rw [j261_122]
        refine rl_load (q5 (by omega) rfl l3) rfl ?_
        rw [← e]
        exact fin _ (q5 (by omega) rfl l0) (q5 (by omega) rfl l1) (q5 (by omega) rfl l2) (q5 (by omega) rfl l4) rfl (q5 (by omega) rfl l6)
    by_cases z : miT p.1.1 p.1.2 (d i) < bT d p i
    · have e : bT d p (i + 1) = miT p.1.1 p.1.2 (d i) := by rw [eT, if_pos z]
      rw [e] at mid
      refine rl_icmpF (by show some (decide (nI (bT d p i) ≤ nI (miT p.1.1 p.1.2 (d i)))) = some false; rw [decide_eq_false (by rw [tx_le (by omega) (by omega)]; omega)]) (rl_load (v := .int (nI (miT p.1.1 p.1.2 (d i)))) (get_put rfl rfl (by omega) rfl) rfl (rl_goto ?_))
      exact mid
    · have e : bT d p (i + 1) = bT d p i := by rw [eT, if_neg z]
      rw [e] at mid
      refine rl_icmpT (by show some (decide (nI (bT d p i) ≤ nI (miT p.1.1 p.1.2 (d i)))) = some true; rw [decide_eq_true ((tx_le (by omega) (by omega)).mpr (by omega))]) ?_
      show Rt σ 261 (jump 261 107) _ _ _ _
      rw [j261_107]
      refine rl_load (g8 (by omega) rfl rfl rfl l5) rfl ?_
      exact mid
theorem M_bound (hT : TS ad h np ex ho) (hm : ad 11 0 = some m) (hn6 : n ≤ 6) (hT6 : T ≤ 6) (hnn : At ad h 11 0 54 (.int (nI n))) (htn : At ad h 11 0 11 (.int (nI T))) (hK : ∀ t, t < n → PTk ad h t (tk t)) (hP : ∀ t, t < T → PTp ad h t (d t)) (hQ : Q (some (.int (if n = 0 then 0 else bR d tk T n 0))) h) : Rt σ 261 (codeOf 261) (am_args 0 [.ref m]) [] h Q := by
  obtain ⟨-, ⟨f150, f150'⟩, -⟩ := bd_f
  obtain ⟨-, s180⟩ := bd_sp
  obtain ⟨-, m256⟩ := bd_ml
  obtain ⟨⟨⟨c11, c11'⟩, -⟩, -⟩ := m_cls
  obtain ⟨vm, xm, -⟩ := at_kind hT.1 (by omega) (by omega) htn hm
  rw [c11'] at xm
  have loop : ∀ (r t : Nat) (L : LV), t + r = n → (0 < n → bR d tk T r t = bR d tk T n 0) → lv_get 0 L = some (.ref m) → lv_get 1 L = some (.int (nI (sS d tk T t))) → lv_get 2 L = some (.int (nI (kS tk t))) → lv_get 3 L = some (.int (nI (fbS d tk T t))) → lv_get 4 L = some (.int (nI t)) → Rt σ 261 (jump 261 13) L [] h Q := by
    intro r
    induction r with
    | zero =>
      intro t L ht hr l0 l1 l2 l3 l4
      have et : t = n := by omega
      subst et
      have b1 := sS_le (d := d) (tk := tk) (T := T) t
      have b2 := kS_le (tk := tk) t
      have b3 := fbS_le (d := d) (tk := tk) (T := T) t
      rw [j261_13]
      refine rl_load l4 rfl (rl_load l0 rfl (ra_get hT.1 (by omega) (by omega) hm (by rw [f150']; exact hnn) (by rw [c11']; exact f150) (rl_icmpT ?_ ?_)))
      · show some (decide (nI t ≤ nI t)) = some true
        rw [decide_eq_true ((tx_le (by omega) (by omega)).mpr (Nat.le_refl _))]
      · show Rt σ 261 (jump 261 173) _ _ _ _
        rw [j261_173]
        refine rl_load l0 rfl (ra_get hT.1 (by omega) (by omega) hm (by rw [f150']; exact hnn) (by rw [c11']; exact f150) ?_)
        by_cases n0 : t = 0
        · subst n0
          rw [if_pos rfl] at hQ
          refine rl_ifF rfl (rl_const (rl_goto ?_))
          show Rt σ 261 (jump 261 189) _ _ _ _
          rw [j261_189]
          exact rl_ret1 hQ
        · have nz : ¬ nI t = 0 := fun e => n0 (nI_eqn (by omega) (by omega) e)
          rw [if_neg n0, ← hr (by omega)] at hQ
          refine rl_ifT (by show some (decide (¬ nI t = 0)) = some true; rw [decide_eq_true nz]) ?_
          show Rt σ 261 (jump 261 184) _ _ _ _
          rw [j261_184]
          refine rl_load l1 rfl (rl_load l2 rfl (rl_bin (z := nI (sS d tk T t + kS tk t)) (by show some _ = some _; rw [nI_plus (by omega)]) (rl_load l3 rfl (rl_bin (z := nI (sS d tk T t + kS tk t + fbS d tk T t)) (by show some _ = some _; rw [nI_plus (by omega)]) ?_))))
          rw [j261_189]
          exact rl_ret1 hQ
    | succ r ih =>
      intro t L ht hr l0 l1 l2 l3 l4
      have htn' : t < n := by omega
      have hp := hK t htn'
      have b1 := sS_le (d := d) (tk := tk) (T := T) t
      have b2 := kS_le (tk := tk) t
      have b3 := fbS_le (d := d) (tk := tk) (T := T) t
      have b4 := bT_le (d := d) (p := tk t) T
      have hy2 : bY (tk t) < 200 := by
        obtain ⟨⟨kk, qk, -, ⟨-, hx⟩, -, hy⟩, -⟩ := hp
        have l1 := mA_lt hx (show 50 < 100 by omega)
        have l2 := mA_lt hy (show 50 < 100 by omega)
        unfold bY
        omega
      rw [j261_13]
      refine rl_load l4 rfl (rl_load l0 rfl (ra_get hT.1 (by omega) (by omega) hm (by rw [f150']; exact hnn) (by rw [c11']; exact f150) (rl_icmpF ?_ (rl_const (rl_store rfl (rl_const (rl_store rfl ?_)))))))
      · show some (decide (nI n ≤ nI t)) = some false
        rw [decide_eq_false (by rw [tx_le (by omega) (by omega)]; omega)]
      have g0 : ∀ {k : Nat} {u v5 v6 : Value}, k ≤ 4 → u.category = 1 → v5.category = 1 → v6.category = 1 → lv_get k L = some u → lv_get k (lv_put 6 v6 (lv_put 5 v5 L)) = some u := fun {k u v5 v6} hk hu h5 h6 hz => get_put hu h6 (by omega) (get_put hu h5 (by omega) hz)
      refine M_bdIn hT hm hT6 htn (by omega) hP hp b3 (v1 := nI (sS d tk T t)) (v2 := nI (kS tk t)) (fun L' m0 m1 m2 m4 m3 m5 => ?_) T 0 _ (by omega) (g0 (by omega) rfl rfl rfl l0) (g0 (by omega) rfl rfl rfl l1) (g0 (by omega) rfl rfl rfl l2) (g0 (by omega) rfl rfl rfl l4) (g0 (by omega) rfl rfl rfl l3) (get_put rfl rfl (by omega) rfl) rfl
      rw [j261_130]
      refine rl_load m5 rfl (rl_const ?_)
      by_cases z : bT d (tk t) T = 1000000
      · refine rl_icmpF (by show some (decide (¬ nI (bT d (tk t) T) = nI 1000000)) = some false; rw [z, decide_eq_false (fun h => h rfl)]) (rl_const (rl_ret1 ?_))
        rw [if_neg (by omega), ← hr (by omega), bR, if_pos z] at hQ
        exact hQ
      · have zn : ¬ nI (bT d (tk t) T) = nI 1000000 := fun e => z (by
          have h1 := congrArg i2n e
          rw [nI_ok (by omega), nI_ok (by omega)] at h1
          omega)
        have hr' : 0 < n → bR d tk T r (t + 1) = bR d tk T n 0 := fun h0 => by rw [← hr h0, bR, if_neg z]
        refine rl_icmpT (by show some (decide (¬ nI (bT d (tk t) T) = nI 1000000)) = some true; rw [decide_eq_true zn]) ?_
        show Rt σ 261 (jump 261 141) _ _ _ _
        have fin : ∀ L' : LV, lv_get 0 L' = some (.ref m) → lv_get 1 L' = some (.int (nI (sS d tk T (t + 1)))) → lv_get 3 L' = some (.int (nI (fbS d tk T (t + 1)))) → lv_get 4 L' = some (.int (nI t)) → Rt σ 261 (jump 261 166) L' [.int (nI (kS tk (t + 1)))] h Q := fun L' k0 k1 k3 k4 => by
          rw [j261_166]
          refine rl_store rfl (rl_iinc (get_put rfl rfl (by omega) k4) (rl_goto ?_))
          rw [nI_suc (by omega)]
          exact ih (t + 1) _ (by omega) hr' (get_put rfl rfl (by omega) (get_put rfl rfl (by omega) k0)) (get_put rfl rfl (by omega) (get_put rfl rfl (by omega) k1)) (get_put rfl rfl (by omega) rfl) (get_put rfl rfl (by omega) (get_put rfl rfl (by omega) k3)) rfl
        rw [j261_141]
        refine rl_load m1 rfl (rl_load m5 rfl (rl_bin (z := nI (sS d tk T (t + 1))) (by show some _ = some _; rw [nI_plus (by omega)]; rfl) (rl_store rfl (rl_load (get_put rfl rfl (by omega) m0) rfl (rl_load (get_put rfl rfl (by omega) m4) rfl (rl_callv (as := [.int (nI t)]) (r := []) s180 rfl rfl xm (by show 0 ≤ 8; omega) (two_ok m256) (M_fromY hT hm (by omega) hp (rl_load (get_put rfl rfl (by omega) m2) rfl ?_))))))))
        by_cases zk : bY (tk t) < kS tk t
        · have e : kS tk (t + 1) = bY (tk t) := by rw [kS, if_pos zk]
          refine rl_icmpF (by show some (decide (nI (kS tk t) ≤ nI (bY (tk t)))) = some false; rw [decide_eq_false (by rw [tx_le (by omega) (by omega)]; omega)]) (rl_load (get_put rfl rfl (by omega) m0) rfl (rl_load (get_put rfl rfl (by omega) m4) rfl (rl_callv (as := [.int (nI t)]) (r := []) s180 rfl rfl xm (by show 0 ≤ 8; omega) (two_ok m256) (M_fromY hT hm (by omega) hp (rl_goto ?_)))))
          have := fin (lv_put 1 (.int (nI (sS d tk T (t + 1)))) L') (get_put rfl rfl (by omega) m0) rfl (get_put rfl rfl (by omega) m3) (get_put rfl rfl (by omega) m4)
          rw [e] at this
          exact this
        · have e : kS tk (t + 1) = kS tk t := by rw [kS, if_neg zk]
          refine rl_icmpT (by show some (decide (nI (kS tk t) ≤ nI (bY (tk t)))) = some true; rw [decide_eq_true ((tx_le (by omega) (by omega)).mpr (by omega))]) ?_
          show Rt σ 261 (jump 261 165) _ _ _ _
          rw [j261_165]
          refine rl_load (get_put rfl rfl (by omega) m2) rfl ?_
          have := fin (lv_put 1 (.int (nI (sS d tk T (t + 1)))) L') (get_put rfl rfl (by omega) m0) rfl (get_put rfl rfl (by omega) m3) (get_put rfl rfl (by omega) m4)
          rw [e] at this
          exact this
  rw [head_261]
  refine rl_const (rl_store rfl (rl_const (rl_store rfl (rl_const (rl_store rfl (rl_const (rl_store rfl ?_)))))))
  exact loop n 0 _ (by omega) (fun _ => rfl) rfl rfl rfl rfl rfl
end
end
