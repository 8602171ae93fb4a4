section
/-! ===== COUNT: bytes, holidays, the switch; what the head says ===== -/
theorem ctb_f : ((((fks 4).contains 10 = true ∧ fpos 4 = 8) ∧ ((fks 6).contains 10 = true ∧ fpos 6 = 10)) ∧ (((fks 7).contains 10 = true ∧ fpos 7 = 11) ∧ ((fks 26).contains 10 = true ∧ fpos 26 = 3))) ∧ ((((fks 48).contains 10 = true ∧ fpos 48 = 2) ∧ ((fks 8).contains 10 = true ∧ fpos 8 = 12)) ∧ (((fks 45).contains 8 = true ∧ fpos 45 = 0) ∧ ((fks 12).contains 10 = true ∧ fpos 12 = 4))) := by decide +kernel
theorem ctm_f : ((((fks 137).contains 11 = true ∧ fpos 137 = 2) ∧ ((fks 139).contains 11 = true ∧ fpos 139 = 11)) ∧ (((fks 141).contains 11 = true ∧ fpos 141 = 19) ∧ ((fks 154).contains 11 = true ∧ fpos 154 = 70))) ∧ ((((fks 150).contains 11 = true ∧ fpos 150 = 54) ∧ ((fks 102).contains 11 = true ∧ fpos 102 = 23)) ∧ (((fks 149).contains 11 = true ∧ fpos 149 = 33) ∧ ((fks 140).contains 11 = true ∧ fpos 140 = 0))) := by decide +kernel
theorem ctt_f : ((fks 51).contains 1 = true ∧ fpos 51 = 1) ∧ ((fks 52).contains 0 = true ∧ fpos 52 = 1) := by decide +kernel
theorem ctt_c : ((cdk 1 = 1 ∧ cdk 0 = 0) ∧ (ct_at 11 23 = some (7, kMty, 0) ∧ (cdk kMty = 20 ∧ kMty < 1000))) ∧ ((ct_at 10 12 = some (7, 8, 0) ∧ (ct_at 8 0 = some (7, 16, 0) ∧ (cdm 8 = 0 ∧ cdk 8 = 8))) ∧ (16, 7, 0, 6) ∈ lstt) := by decide +kernel
theorem ct_sp : (spec 112 = (1, 0, [(10, 156)]) ∧ spec 113 = (1, 0, [(10, 157)])) ∧ (spec 114 = (1, 0, [(10, 158)]) ∧ ((1 ≤ mL 156 ∧ 1 ≤ mL 157) ∧ 1 ≤ mL 158)) := by decide +kernel
theorem ct_sw : swt[4]? = some (0, 11, 142, [64, 69, 77, 85, 90, 98, 103, 111, 116, 121, 132, 137]) ∧ swt[8]? = some (0, 11, 243, [64, 69, 74, 79, 114, 119, 124, 129, 164, 169, 174, 209]) := by decide +kernel
theorem ct_hc : ((hcL.drop 3).take 3 = [(0, 1666, 2147483648, 2147483688), (2, 3, 1, 0), (0, 1416, 1, 0)] ∧ (hcL.drop 12).take 2 = [(0, 1283, 2147483648, 2147483708), (0, 1427, 1, 0)]) ∧ (((hcL.drop 18).take 2 = [(0, 2050, 2147483648, 2147483654), (0, 1462, 1, 0)] ∧ (hcL.drop 20).take 2 = [(0, 1282, 0, 4294967295), (0, 1478, 1, 0)]) ∧ ((hcL.drop 22).take 2 = [(0, 129, 2147483648, 2147483708), (0, 8324, 1, 0)] ∧ kMty = 65)) := by decide +kernel
theorem ct_hp : ((cp_at ffH1).1 = 0 ∧ (cp_at ffH1).2.1 = [(36, 1, 2147483648), (47, 1, 2147483648)]) ∧ ((cp_at ffH1).2.2.1 = [[(0, 2147483648, 2147483649), (0, 2147483648, 2147483649)]] ∧ ffH1 < npL) := by decide +kernel
theorem ct_l3 : (cdm 3 = 0 ∧ 3 ≤ (cd 3).2.2.length) ∧ ((13, 3, 1, 40) ∈ lstt ∧ ct_at 10 9 = some (7, 13, 0)) := by decide +kernel
noncomputable def sB (tn : Nat → Nat) (b : Nat) : Nat := match b with
  | 0 => 0
  | b + 1 => sB tn b + tn b
noncomputable def CtA (ad : AD) (h : AH) (nk ns nt : Nat) (np ta dy fi : Int32) (yd : Nat → Bool) : Prop := (((nk ≤ 24 ∧ ns ≤ 40) ∧ nt ≤ 6) ∧ (((LsE ad h 8 2 nk ∧ LsE ad h 9 3 ns) ∧ LsE ad h 10 4 nt) ∧ ((At ad h 11 0 2 (.int (nI nk)) ∧ At ad h 11 0 8 (.int (nI ns))) ∧ At ad h 11 0 11 (.int (nI nt))))) ∧ ((∀ s, s < ns → PYd ad h s (yd s)) ∧ (((At ad h 10 0 3 (.int np) ∧ At ad h 11 0 19 (.int np)) ∧ (At ad h 10 0 0 (.int dy) ∧ At ad h 11 0 0 (.int dy))) ∧ ((At ad h 10 0 2 (.int fi) ∧ At ad h 11 0 70 (.int fi)) ∧ ((∃ qp ql mc ed, (At ad h 10 0 12 (.ref qp) ∧ ad 8 0 = some qp) ∧ (At ad h 8 0 0 (.ref ql) ∧ h.1 ql = some (12, [.int mc, ed, .int ta]))) ∧ At ad h 11 0 54 (.int ta)))))
noncomputable def CtB (ad : AD) (h : AH) (tl : Nat) (tn : Nat → Nat) (hb : Nat → Bool) : Prop := ((tl ≤ 60 ∧ ∀ b, b < 4 → tn b ≤ 60) ∧ ((At ad h 1 0 1 (.int (nI tl)) ∧ At ad h kMty 0 4 (.int (nI tl))) ∧ ∀ b, b < 4 → At ad h 0 b 1 (.int (nI (tn b))) ∧ At ad h kMty 0 b (.int (nI (tn b))))) ∧ ((∀ p, p < 400 → At ad h 47 0 p (.int (hpI (hb p)))) ∧ At ad h 10 0 4 (.int (nI (cHo hb 400))))
section
variable {σ : Nat → Nat} {ad : AD} {h : AH} {np N ox m s e nk ns nt tl i : Nat} {ex ho : Nat → Nat → Prop} {Q : Option Value → AH → Prop} {kn npp ta dy fi wh : Int32} {d : Nat → LD} {yd hb : Nat → Bool} {tn : Nat → Nat} {tk : List (Nat × AI)} {L : LV} {S : List Value} {M pc a dd k : Nat} {c lo hi : Int} {ts : List Nat} {x : Int32}
theorem rl_swD (hs : swt[a]? = some (lo, hi, dd, ts)) (hx : x.toInt < lo ∨ hi < x.toInt) (hr : Rt σ M (jump M dd) L S h Q) : Rt σ M ((pc, (22, a, c)) :: tk) L (.int x :: S) h Q := by
  refine rt_jp (t := dd) ?_ hr
  show s_sw a L (.int x :: S) h = _
  unfold s_sw
  dsimp only
  rw [hs]
  dsimp only
  rw [if_pos hx]
  rfl
theorem nI_tI (hk : k < 2147483648) : (nI k).toInt = 0 + (k : Int) := by
  have h1 := i2n_z (nI k)
  rw [nI_ok hk] at h1
  omega
theorem X_bytes (hT : TS ad h np ex ho) (hox : ad 10 0 = some ox) (h1 : tl ≤ 60 ∧ ∀ b, b < 4 → tn b ≤ 60) (h2 : At ad h 1 0 1 (.int (nI tl))) (h3 : ∀ b, b < 4 → At ad h 0 b 1 (.int (nI (tn b)))) (hQ : Q (some (.int (nI (tl + sB tn 4)))) h) : Rt σ 158 (codeOf 158) (am_args 0 [.ref ox]) [] h Q := by
  obtain ⟨⟨g2, g2'⟩, g3, g3'⟩ := f_x
  obtain ⟨⟨f51, f51'⟩, f52, f52'⟩ := ctt_f
  obtain ⟨⟨⟨c1, c0⟩, -⟩, -⟩ := ctt_c
  obtain ⟨⟨m1, m2⟩, ⟨m3, m4, m5⟩, ⟨m6, m7⟩, m8⟩ := x_cls
  obtain ⟨vs, ql, qt, us, ⟨x1, x2, x3⟩, x4, x5, x6⟩ := x_form hT hox
  have hlen : us.length = 4 := by
    obtain ⟨ql', z1, z2⟩ := fld_sgl hT (by omega) m1 m4 hox
    obtain ⟨vs', y1, y2⟩ := at_kind hT.1 (by omega) (by omega) z1 hox
    rw [m2, x1] at y1
    cases y1
    rw [x2] at y2
    cases y2
    obtain ⟨-, k, us', w1, w2, w3, w4⟩ := hT.1 38 0 ql (by omega) z2
    rw [x5] at w1
    cases w1
    have := w3.2.1 (by omega) (by omega)
    omega
  have sle : ∀ b, b ≤ 4 → sB tn b ≤ 60 * b := by
    intro b
    induction b with
    | zero => intro _; exact Nat.le_refl _
    | succ b ih =>
      intro hb
      have := ih (by omega)
      have := h1.2 b (by omega)
      rw [sB]
      omega
  have loop : ∀ (r b : Nat) (L : LV), b + r = 4 → lv_get 0 L = some (.ref ox) → lv_get 1 L = some (.int (nI (tl + sB tn b))) → lv_get 2 L = some (.int (nI b)) → Rt σ 158 (jump 158 10) L [] h Q := by
    intro r
    induction r with
    | zero =>
      intro b L hb l0 l1 l2
      have eb : b = 4 := by omega
      subst eb
      rw [j158_10]
      refine rl_load l2 rfl (rl_load l0 rfl (rl_get x1 g2 (by rw [g2']; exact x2) (rl_len x5 (by omega) (by omega) (rl_icmpT ?_ ?_))))
      · show some (decide (nI us.length ≤ nI 4)) = some true
        rw [decide_eq_true ((tx_le (by omega) (by omega)).mpr (by omega))]
      · show Rt σ 158 (jump 158 37) _ _ _ _
        rw [j158_37]
        exact rl_load l1 rfl (rl_ret1 hQ)
    | succ r ih =>
      intro b L hb l0 l1 l2
      have hb4 : b < 4 := by omega
      have hs := sle b (by omega)
      have ht := h1.2 b hb4
      obtain ⟨o, o1, o2⟩ := x6 b hb4
      have hi := nI_nn (show b < 2147483648 by omega)
      rw [j158_10]
      refine rl_load l2 rfl (rl_load l0 rfl (rl_get x1 g2 (by rw [g2']; exact x2) (rl_len x5 (by omega) (by omega) (rl_icmpF ?_ (rl_load l1 rfl (rl_load l0 rfl (rl_get x1 g2 (by rw [g2']; exact x2) (rl_load l2 rfl (rl_ald x5 rfl hi.1 (by rw [hi.2]; exact o1) (ra_get hT.1 (by omega) (by omega) o2 (by rw [f52']; exact h3 b hb4) (by rw [c0]; exact f52) (rl_bin (z := nI (tl + sB tn (b + 1))) (by show some _ = some _; rw [nI_plus (by omega), sB, Nat.add_assoc]) (rl_store rfl (rl_iinc (get_put rfl rfl (by omega) l2) (rl_goto ?_))))))))))))))
      · show some (decide (nI us.length ≤ nI b)) = some false
        rw [decide_eq_false (by rw [tx_le (by omega) (by omega)]; omega)]
      · rw [nI_suc (by omega)]
        exact ih (b + 1) _ (by omega) (get_put rfl rfl (by omega) (get_put rfl rfl (by omega) l0)) (get_put rfl rfl (by omega) rfl) rfl
  rw [head_158]
  refine rl_load rfl rfl (rl_get x1 g3 (by rw [g3']; exact x3) (ra_get hT.1 (by omega) (by omega) x4 (by rw [f51']; exact h2) (by rw [c1]; exact f51) (rl_store rfl (rl_const (rl_store rfl ?_)))))
  exact loop 4 0 _ (by omega) rfl rfl rfl
theorem M_hols (hT : TS ad h np ex ho) (hm : ad 11 0 = some m) (hh : ∀ p, p < 400 → At ad h 47 0 p (.int (hpI (hb p)))) (hQ : Q (some (.int (nI (cHo hb 400)))) h) : ∀ (r p : Nat) (L : LV), p + r = 400 → lv_get 0 L = some (.ref m) → lv_get 2 L = some (.int (nI (cHo hb p))) → lv_get 3 L = some (.int (nI p)) → Rt σ 270 (jump 270 211) L [] h Q := by
  obtain ⟨-, ⟨f84, f84'⟩, -⟩ := wd_f
  obtain ⟨⟨-, a47, k47⟩, ⟨-, t1⟩, -⟩ := wd_c
  intro r
  induction r with
  | zero =>
    intro p L hp l0 l2 l3
    have ep : p = 400 := by omega
    subst ep
    rw [j270_211]
    refine rl_load l3 rfl (rl_const (rl_icmpT ?_ ?_))
    · show some (decide (nI 399 < nI 400)) = some true
      rw [decide_eq_true ((tx_lt (by omega) (by omega)).mpr (by omega))]
    · show Rt σ 270 (jump 270 241) _ _ _ _
      rw [j270_241]
      exact rl_load l2 rfl (rl_ret1 hQ)
  | succ r ih =>
    intro p L hp l0 l2 l3
    have hpl : p < 400 := by omega
    have hle := cHo_le (b := hb) p
    have fin : ∀ (b : Nat), b ≤ 1 → cHo hb (p + 1) = cHo hb p + b → Rt σ 270 (jump 270 233) L [.int (nI b), .int (nI (cHo hb p))] h Q := fun b hb1 hb2 => by
      rw [j270_233]
      refine rl_bin (z := nI (cHo hb (p + 1))) (by show some _ = some _; rw [nI_plus (by omega), hb2]) (rl_store rfl (rl_iinc (get_put rfl rfl (by omega) l3) (rl_goto ?_)))
      rw [nI_suc (by omega)]
      exact ih (p + 1) _ (by omega) (get_put rfl rfl (by omega) (get_put rfl rfl (by omega) l0)) (get_put rfl rfl (by omega) rfl) rfl
    rw [j270_211]
    refine rl_load l3 rfl (rl_const (rl_icmpF ?_ (rl_load l2 rfl (rl_load l0 rfl (ra_row hT hm (by rw [f84']; exact t1) f84 fun q47 hq47 => rl_load l3 rfl (ra_ald hT.1 (by omega) (by omega) hq47 (hh p hpl) (by rw [k47]; rfl) (by omega) ?_))))))
    · show some (decide (nI 399 < nI p)) = some false
      rw [decide_eq_false (by rw [tx_lt (by omega) (by omega)]; omega)]
    cases hbp : hb p
    · refine rl_ifT rfl ?_
      show Rt σ 270 (jump 270 232) _ _ _ _
      rw [j270_232]
      exact rl_const (fin 0 (by omega) (by rw [cHo, hbp, cond_false]))
    · refine rl_ifF rfl (rl_const (rl_goto ?_))
      exact fin 1 (by omega) (by rw [cHo, hbp, cond_true])
theorem pr_count (hT : TS ad h np ex ho) (hox : ad 10 0 = some ox) (hm : ad 11 0 = some m) (hF : FtH ad h N kn d) (hA : CtA ad h nk ns nt npp ta dy fi yd) (hB : CtB ad h tl tn hb) : PrC σ h 155 270 ox m [wh] := by
  obtain ⟨⟨⟨⟨f4, f4'⟩, f6, f6'⟩, ⟨f7, f7'⟩, f26, f26'⟩, ⟨⟨f48, f48'⟩, f8, f8'⟩, ⟨f45, f45'⟩, f12, f12'⟩ := ctb_f
  obtain ⟨⟨⟨⟨f137, f137'⟩, f139, f139'⟩, ⟨f141, f141'⟩, f154, f154'⟩, ⟨⟨f150, f150'⟩, f102, f102'⟩, ⟨f149, f149'⟩, f140, f140'⟩ := ctm_f
  obtain ⟨⟨⟨f5, f5'⟩, f19, f19'⟩, ⟨f138, f138'⟩, f91, f91'⟩ := ct_f
  obtain ⟨⟨⟨f11, f11'⟩, -⟩, -⟩ := wd_f
  obtain ⟨⟨-, tty, kty, lty⟩, ⟨t12, t80, c8, c8'⟩, -⟩ := ctt_c
  obtain ⟨⟨⟨⟨c10, c10'⟩, -⟩, -⟩, -⟩ := pm_c
  obtain ⟨⟨⟨c11, c11'⟩, -⟩, -⟩ := m_cls
  obtain ⟨⟨s112, s113⟩, s114, ⟨m156, m157⟩, m158⟩ := ct_sp
  obtain ⟨sw4, sw8⟩ := ct_sw
  obtain ⟨mf1, -⟩ := and2 ml_ff
  have hF0 := hF
  obtain ⟨⟨⟨hN, hl⟩, hLets, hkx, hkm⟩, -⟩ := hF
  obtain ⟨⟨⟨⟨n1, n2⟩, n3⟩, ⟨⟨lk, ls⟩, lt⟩, ⟨mk, ms⟩, mt⟩, hY, ⟨⟨p1, p2⟩, d1, d2⟩, ⟨i1, i2⟩, ⟨qp, qa, mca, eda, ⟨a1, a2⟩, a3, a4⟩, a5⟩ := hA
  obtain ⟨⟨b1, ⟨b2, b3⟩, b4⟩, b5, b6⟩ := hB
  obtain ⟨vx, x1, -⟩ := at_kind hT.1 (by omega) (by omega) d1 hox
  rw [c10'] at x1
  have gx : ∀ {f p pc : Nat} {v : Value} {tk : List (Nat × AI)} {L : LV} {S : List Value} {c : Int} {Q : Option Value → AH → Prop} {M : Nat}, (fks f).contains 10 = true → fpos f = p → At ad h 10 0 p v → Rt σ M tk L (v :: S) h Q → Rt σ M ((pc, (8, f, c)) :: tk) L (.ref ox :: S) h Q := fun {f p pc v tk L S c Q M} e1 e2 ha hk => ra_get hT.1 (by omega) (by omega) hox (by rw [e2]; exact ha) (by rw [c10']; exact e1) hk
  have gm : ∀ {f p pc : Nat} {v : Value} {tk : List (Nat × AI)} {L : LV} {S : List Value} {c : Int} {Q : Option Value → AH → Prop} {M : Nat}, (fks f).contains 11 = true → fpos f = p → At ad h 11 0 p v → Rt σ M tk L (v :: S) h Q → Rt σ M ((pc, (8, f, c)) :: tk) L (.ref m :: S) h Q := fun {f p pc v tk L S c Q M} e1 e2 ha hk => ra_get hT.1 (by omega) (by omega) hm (by rw [e2]; exact ha) (by rw [c11']; exact e1) hk
  have lq : ∀ {f el n : Nat}, LsE ad h f el n → ∃ ql, At ad h 10 0 f (.ref ql) ∧ LsQ ad h ql el n := fun {f el n} hh => by
    obtain ⟨ql, mc, ed, e1, e2, e3⟩ := hh
    exact ⟨ql, e1, mc, ed, e2, e3⟩
  obtain ⟨qlk, lk1, lk2⟩ := lq lk
  obtain ⟨qls, ls1, ls2⟩ := lq ls
  obtain ⟨qlt, lt1, lt2⟩ := lq lt
  obtain ⟨qll, ll1, ll2⟩ := lq hl
  unfold PrC
  rw [head_155, head_270]
  have xs : ∀ {k t : Nat} {Q : Option Value → AH → Prop}, k < 12 → ([64, 69, 77, 85, 90, 98, 103, 111, 116, 121, 132, 137] : List Nat)[k]? = some t → Rt σ 155 (jump 155 t) (am_args 0 [.ref ox, .int (nI k)]) [] h Q → Rt σ 155 ([(0, (1, 1, 0)), (1, (22, 4, 0))] ++ jump 155 64) (am_args 0 [.ref ox, .int (nI k)]) [] h Q := fun {k t Q} hk ht hr => rl_load rfl rfl (rl_sw (k := k) sw4 (nI_tI (by omega)) (by omega) ht hr)
  have mss : ∀ {k t : Nat} {Q : Option Value → AH → Prop}, k < 12 → ([64, 69, 74, 79, 114, 119, 124, 129, 164, 169, 174, 209] : List Nat)[k]? = some t → Rt σ 270 (jump 270 t) (lv_put 2 (.int (nI 0)) (am_args 0 [.ref m, .int (nI k)])) [] h Q → Rt σ 270 ([(0, (0, 0, 0)), (1, (2, 2, 0)), (2, (1, 1, 0)), (3, (22, 8, 0))] ++ jump 270 64) (am_args 0 [.ref m, .int (nI k)]) [] h Q := fun {k t Q} hk ht hr => rl_const (rl_store rfl (rl_load rfl rfl (rl_sw (k := k) sw8 (nI_tI (by omega)) (by omega) ht hr)))
  rcases txW_nat (v := wh) (k := 11) (by omega) with ⟨k, k1, k2, -⟩ | ⟨-, k2⟩
  · subst k2
    rcases (show k = 0 ∨ (k = 1 ∨ (k = 2 ∨ (k = 3 ∨ (k = 4 ∨ (k = 5 ∨ (k = 6 ∨ (k = 7 ∨ (k = 8 ∨ (k = 9 ∨ (k = 10 ∨ k = 11)))))))))) by omega) with rfl | rfl | rfl | rfl | rfl | rfl | rfl | rfl | rfl | rfl | rfl | rfl
    · refine ⟨dy, xs (t := 64) (by omega) rfl ?_, mss (t := 64) (by omega) rfl ?_⟩
      · rw [j155_64]
        exact rl_load rfl rfl (gx f11 f11' d1 (rl_ret1 ⟨rfl, rfl⟩))
      · rw [j270_64]
        exact rl_load rfl rfl (gm f140 f140' d2 (rl_ret1 ⟨rfl, rfl⟩))
    · refine ⟨nI nk, xs (t := 69) (by omega) rfl ?_, mss (t := 69) (by omega) rfl ?_⟩
      · rw [j155_69]
        exact rl_load rfl rfl (gx f4 f4' lk1 (rl_qsz lk2 (by show 0 ≤ 8; omega) (rl_ret1 ⟨rfl, rfl⟩)))
      · rw [j270_69]
        exact rl_load rfl rfl (gm f137 f137' mk (rl_ret1 ⟨rfl, rfl⟩))
    · refine ⟨nI ns, xs (t := 77) (by omega) rfl ?_, mss (t := 74) (by omega) rfl ?_⟩
      · rw [j155_77]
        exact rl_load rfl rfl (gx f5 f5' ls1 (rl_qsz ls2 (by show 0 ≤ 8; omega) (rl_ret1 ⟨rfl, rfl⟩)))
      · rw [j270_74]
        exact rl_load rfl rfl (gm f138 f138' ms (rl_ret1 ⟨rfl, rfl⟩))
    · refine ⟨nI (cY yd ns), xs (t := 85) (by omega) rfl ?_, mss (t := 79) (by omega) rfl ?_⟩
      · rw [j155_85]
        exact rl_load rfl rfl (rl_callv (as := []) (r := []) s112 rfl rfl x1 (by show 0 ≤ 8; omega) (ref_ok m156) (X_yard hT hox ls1 ls2 n2 hY (rl_ret1 ⟨rfl, rfl⟩)))
      · rw [j270_79]
        refine rl_const (rl_store rfl ?_)
        exact M_yard hT hm ms n2 hY ⟨rfl, rfl⟩ ns 0 _ (by omega) rfl rfl rfl
    · refine ⟨nI nt, xs (t := 90) (by omega) rfl ?_, mss (t := 114) (by omega) rfl ?_⟩
      · rw [j155_90]
        exact rl_load rfl rfl (gx f6 f6' lt1 (rl_qsz lt2 (by show 0 ≤ 8; omega) (rl_ret1 ⟨rfl, rfl⟩)))
      · rw [j270_114]
        exact rl_load rfl rfl (gm f139 f139' mt (rl_ret1 ⟨rfl, rfl⟩))
    · refine ⟨npp, xs (t := 98) (by omega) rfl ?_, mss (t := 119) (by omega) rfl ?_⟩
      · rw [j155_98]
        exact rl_load rfl rfl (gx f26 f26' p1 (rl_ret1 ⟨rfl, rfl⟩))
      · rw [j270_119]
        exact rl_load rfl rfl (gm f141 f141' p2 (rl_ret1 ⟨rfl, rfl⟩))
    · refine ⟨nI N, xs (t := 103) (by omega) rfl ?_, mss (t := 124) (by omega) rfl ?_⟩
      · rw [j155_103]
        exact rl_load rfl rfl (gx f7 f7' ll1 (rl_qsz ll2 (by show 0 ≤ 8; omega) (rl_ret1 ⟨rfl, rfl⟩)))
      · rw [j270_124]
        exact rl_load rfl rfl (gm f149 f149' hLets (rl_ret1 ⟨rfl, rfl⟩))
    · refine ⟨nI (cKn d N), xs (t := 111) (by omega) rfl ?_, mss (t := 129) (by omega) rfl ?_⟩
      · rw [j155_111]
        exact rl_load rfl rfl (rl_callv (as := []) (r := []) s113 rfl rfl x1 (by show 0 ≤ 8; omega) (ref_ok m157) (X_loads hT hox hF0 (rl_ret1 ⟨rfl, rfl⟩)))
      · rw [j270_129]
        refine rl_const (rl_store rfl ?_)
        exact M_loads hT hm hF0 ⟨rfl, rfl⟩ N 0 _ (by omega) rfl rfl rfl
    · refine ⟨fi, xs (t := 116) (by omega) rfl ?_, mss (t := 164) (by omega) rfl ?_⟩
      · rw [j155_116]
        exact rl_load rfl rfl (gx f48 f48' i1 (rl_ret1 ⟨rfl, rfl⟩))
      · rw [j270_164]
        exact rl_load rfl rfl (gm f154 f154' i2 (rl_ret1 ⟨rfl, rfl⟩))
    · refine ⟨ta, xs (t := 121) (by omega) rfl ?_, mss (t := 169) (by omega) rfl ?_⟩
      · rw [j155_121]
        exact rl_load rfl rfl (gx f8 f8' a1 (ra_get hT.1 (by omega) (by omega) a2 (by rw [f45']; exact a3) (by rw [c8']; exact f45) (rl_callv (as := []) (r := []) spec_13 rfl rfl a4 (by show 0 ≤ 8; omega) (ref_ok (blet mf1)) (L_size a4 (rl_ret1 ⟨rfl, rfl⟩)))))
      · rw [j270_169]
        exact rl_load rfl rfl (gm f150 f150' a5 (rl_ret1 ⟨rfl, rfl⟩))
    · refine ⟨nI (tl + sB tn 4), xs (t := 132) (by omega) rfl ?_, mss (t := 174) (by omega) rfl ?_⟩
      · rw [j155_132]
        exact rl_load rfl rfl (rl_callv (as := []) (r := []) s114 rfl rfl x1 (by show 0 ≤ 8; omega) (ref_ok m158) (X_bytes hT hox b1 b2 (fun b hb => (b4 b hb).1) (rl_ret1 ⟨rfl, rfl⟩)))
      · rw [j270_174]
        have ty : ∀ {b v pc1 pc2 pc3 pc4 : Nat} {c1 c2 : Int} {tk : List (Nat × AI)} {S : List Value} {L : LV}, b < 5 → lv_get 0 L = some (.ref m) → At ad h kMty 0 b (.int (nI v)) → Rt σ 270 tk L (.int (nI v) :: S) h (fun v h' => v = some (.int (nI (tl + sB tn 4))) ∧ h' = h) → Rt σ 270 ((pc1, (1, 0, 2)) :: (pc2, (8, 102, c1)) :: (pc3, (0, 0, Int.ofNat b)) :: (pc4, (10, 0, c2)) :: tk) L S h (fun v h' => v = some (.int (nI (tl + sB tn 4))) ∧ h' = h) := fun {b v pc1 pc2 pc3 pc4 c1 c2 tk S L} hb l0 ha hr => rl_load l0 rfl (ra_row hT hm (by rw [f102']; exact tty) f102 fun q hq => rl_const (ra_ald (p := b) hT.1 lty (by omega) hq ha (by rw [kty]; rfl) (by omega) hr))
        have t0 := b1.2 0 (by omega)
        have t1 := b1.2 1 (by omega)
        have t2 := b1.2 2 (by omega)
        have t3 := b1.2 3 (by omega)
        have t4 := b1.1
        have es : tl + sB tn 4 = tn 0 + tn 1 + tn 2 + tn 3 + tl := by
          rw [sB, sB, sB, sB, sB]
          omega
        exact ty (b := 0) (by omega) rfl (b4 0 (by omega)).2 (ty (b := 1) (by omega) rfl (b4 1 (by omega)).2 (rl_bin (z := nI (tn 0 + tn 1)) (by show some _ = some _; rw [nI_plus (by omega)]) (ty (b := 2) (by omega) rfl (b4 2 (by omega)).2 (rl_bin (z := nI (tn 0 + tn 1 + tn 2)) (by show some _ = some _; rw [nI_plus (by omega)]) (ty (b := 3) (by omega) rfl (b4 3 (by omega)).2 (rl_bin (z := nI (tn 0 + tn 1 + tn 2 + tn 3)) (by show some _ = some _; rw [nI_plus (by omega)]) (ty (b := 4) (by omega) rfl b3 (rl_bin (z := nI (tn 0 + tn 1 + tn 2 + tn 3 + tl)) (by show some _ = some _; rw [nI_plus (by omega)]) (rl_ret1 ⟨by rw [es], rfl⟩)))))))))
    · refine ⟨nI (cHo hb 400), xs (t := 137) (by omega) rfl ?_, mss (t := 209) (by omega) rfl ?_⟩
      · rw [j155_137]
        exact rl_load rfl rfl (gx f12 f12' b6 (rl_ret1 ⟨rfl, rfl⟩))
      · rw [j270_209]
        refine rl_const (rl_store rfl ?_)
        exact M_hols hT hm b5 ⟨rfl, rfl⟩ 400 0 _ (by omega) rfl rfl rfl
  · have hr : wh.toInt < 0 ∨ 11 < wh.toInt := by
      by_cases e : wh.toInt < 0 ∨ 11 < wh.toInt
      · exact e
      · exfalso
        have hz := i2n_z wh
        exact k2 wh.toInt.toNat (by omega) (r5nI (by omega) (by omega))
    refine ⟨Int32.ofInt (-2), rl_load rfl rfl (rl_swD sw4 hr ?_), rl_const (rl_store rfl (rl_load rfl rfl (rl_swD sw8 hr ?_)))⟩
    · rw [j155_142]
      exact rl_const (rl_ret1 ⟨rfl, rfl⟩)
    · rw [j270_243]
      exact rl_const (rl_ret1 ⟨rfl, rfl⟩)
/-! what the head says -/
theorem sk_form (hT : TS ad h npL (fun _ _ => False) ho) (hs : ad 3 s ≠ none) : ∃ b, PYd ad h s b := by
  obtain ⟨⟨c1, c2⟩, c3, c4⟩ := cpf_2 use_r2
  obtain ⟨⟨l1, l2⟩, -⟩ := ct_l3
  have e54 : ffSl = 54 := rfl
  obtain ⟨V, hV⟩ := fld_any (p := 2) hT (by omega) l1 (by omega) hs
  obtain ⟨dd, gv, e1, e2⟩ := cpl_at (lim := 3) (p := 2) hT c1 c2 c3 c4 List.mem_cons_self hs hV
  rcases List.mem_cons.mp e1 with rfl | e1
  · obtain ⟨E1, e2⟩ := dc_1 e2
    obtain ⟨E2, -⟩ := dc_1 e2
    obtain ⟨x, y1, -, y2, y3⟩ := en_int' (by omega) E2
    have ex : x = nI 0 := r5nI (by omega) (by omega)
    subst ex
    rw [e54] at y1
    exact ⟨true, at_m0 (p := 2) (en_null rfl rfl rfl E1), at_m1 y1⟩
  · have e1 := List.mem_singleton.mp e1
    subst e1
    obtain ⟨E1, e2⟩ := dc_1 e2
    obtain ⟨E2, -⟩ := dc_1 e2
    obtain ⟨j, q, z1, -, -⟩ := en_ref rfl rfl E1
    obtain ⟨x, y1, -, y2, y3⟩ := en_int' (by omega) E2
    obtain ⟨j', hj⟩ : ∃ j', i2n x = 2147483648 + j' := ⟨i2n x - 2147483648, by omega⟩
    have ex : x = nI j' := r5nI hj (by omega)
    subst ex
    rw [e54] at y1
    exact ⟨false, q, j', ⟨at_m0 (p := 2) z1, at_m1 y1⟩, by omega, by omega⟩
theorem hol_pair {p : Nat} {x : Int32} (hT : TS ad h npL (fun _ _ => False) ho) (hV : At ad h 36 0 p (.int x)) : At ad h 47 0 p (.int x) := by
  obtain ⟨⟨c1, c2⟩, c3, c4⟩ := ct_hp
  have hC := hT.2.2.2.2.2 ffH1 p c4 (fun e => e)
  unfold CpAt at hC
  rw [c1, c2, c3] at hC
  obtain ⟨dd, gv, e1, e2⟩ := (hC ⟨(36, 1, 2147483648), .int x, List.mem_cons_self, by unfold AtM; rw [mp1]; exact hV⟩).1 (Or.inl rfl)
  have e1 := List.mem_singleton.mp e1
  subst e1
  obtain ⟨E1, e2⟩ := dc_1 e2
  obtain ⟨E2, -⟩ := dc_1 e2
  obtain ⟨x1, y1, y2, -⟩ := en_int' (by omega) E1
  obtain ⟨x2, z1, z2, -⟩ := en_int' (by omega) E2
  have y1 := at_m1 y1
  have ex : x1 = x := at_int y1 hV
  subst ex
  have ex : x2 = x1 := i2n_inj (z2.trans y2.symm)
  subst ex
  exact at_m1 z1
theorem head_ct (hD : HD σ ad h L i) : ∃ N kn d nk ns nt npp ta dy fi yd tl tn hb, FtH ad h N kn d ∧ (CtA ad h nk ns nt npp ta dy fi yd ∧ CtB ad h tl tn hb) := by
  have hH := hD.1
  have hT := hH.2.1
  obtain ⟨N, kn, d, hF⟩ := head_fth hD
  obtain ⟨⟨-, h12⟩, ⟨h18, h20⟩, h22, hkt⟩ := ct_hc
  obtain ⟨-, -, -, c1, -⟩ := pm_c
  obtain ⟨-, ⟨l5, l4⟩, ⟨c11, c10⟩, -⟩ := wg_c
  obtain ⟨-, l3, t9⟩ := ct_l3
  obtain ⟨-, ⟨t12, t80, m8, k8⟩, l16⟩ := ctt_c
  obtain ⟨⟨⟨⟨m10, k10⟩, -⟩, -⟩, -⟩ := pm_c
  obtain ⟨ox, hox⟩ := hT.2.2.2.1.2.1 10 pm_t.2.2.2
  obtain ⟨nk, k1, ⟨k2, k3⟩, -⟩ := head_kl use_r2 hH
  obtain ⟨nt, t1, ⟨t2, t3⟩, -⟩ := head_tt hH
  obtain ⟨dy, -, d2, d3⟩ := head_day hH
  have hv0 : ∃ u ws, HVs ad h u hcL ws := by
    obtain ⟨-, -, -, -, -, -, u, ws, hv, -⟩ := hH
    exact ⟨u, ws, hv⟩
  obtain ⟨u, ws, hv⟩ := hv0
  obtain ⟨ns, s1, ⟨s2, s3⟩, s4⟩ : ∃ ns, ns ≤ 40 ∧ ((At ad h 13 0 2 (.int (nI ns)) ∧ At ad h 11 0 8 (.int (nI ns))) ∧ ∀ k, ad 3 k ≠ none ↔ k < ns) := by
    obtain ⟨u', hv'⟩ := hvs_drop (j := 3) hv
    have e : hcL.drop 3 = (0, 1666, 2147483648, 2147483648 + 40) :: (2, 3, 1, 0) :: (0, 1416, 1, 0) :: (hcL.drop 3).drop 3 := by
      rw [show hcL.drop 3 = (hcL.drop 3).take 3 ++ (hcL.drop 3).drop 3 from (List.take_append_drop 3 _).symm, ct_hc.1.1]
      rfl
    rw [e] at hv'
    exact hv_list (by omega) hv'
  obtain ⟨npp, ⟨p1, p2⟩, -⟩ : ∃ X, (At ad h 10 0 3 (.int X) ∧ At ad h 11 0 19 (.int X)) ∧ (2147483648 ≤ i2n X ∧ i2n X ≤ 2147483708) := by
    obtain ⟨u', hv'⟩ := hvs_drop (j := 12) hv
    have e : hcL.drop 12 = (0, 1283, 2147483648, 2147483708) :: (0, 1427, 1, 0) :: (hcL.drop 12).drop 2 := by
      rw [show hcL.drop 12 = (hcL.drop 12).take 2 ++ (hcL.drop 12).drop 2 from (List.take_append_drop 2 _).symm, h12]
      rfl
    rw [e] at hv'
    exact hv_pair (by omega) hv'
  obtain ⟨ta, ⟨a1, a2⟩, -⟩ : ∃ X, (At ad h 16 0 2 (.int X) ∧ At ad h 11 0 54 (.int X)) ∧ (2147483648 ≤ i2n X ∧ i2n X ≤ 2147483654) := by
    obtain ⟨u', hv'⟩ := hvs_drop (j := 18) hv
    have e : hcL.drop 18 = (0, 2050, 2147483648, 2147483654) :: (0, 1462, 1, 0) :: (hcL.drop 18).drop 2 := by
      rw [show hcL.drop 18 = (hcL.drop 18).take 2 ++ (hcL.drop 18).drop 2 from (List.take_append_drop 2 _).symm, h18]
      rfl
    rw [e] at hv'
    exact hv_pair (by omega) hv'
  obtain ⟨fi, ⟨i1, i2⟩, -⟩ : ∃ X, (At ad h 10 0 2 (.int X) ∧ At ad h 11 0 70 (.int X)) ∧ (0 ≤ i2n X ∧ i2n X ≤ 4294967295) := by
    obtain ⟨u', hv'⟩ := hvs_drop (j := 20) hv
    have e : hcL.drop 20 = (0, 1282, 0, 4294967295) :: (0, 1478, 1, 0) :: (hcL.drop 20).drop 2 := by
      rw [show hcL.drop 20 = (hcL.drop 20).take 2 ++ (hcL.drop 20).drop 2 from (List.take_append_drop 2 _).symm, h20]
      rfl
    rw [e] at hv'
    exact hv_pair (by omega) hv'
  obtain ⟨tx, ⟨x1, x2⟩, x3, x4⟩ : ∃ X, (At ad h 1 0 1 (.int X) ∧ At ad h 65 0 4 (.int X)) ∧ (2147483648 ≤ i2n X ∧ i2n X ≤ 2147483708) := by
    obtain ⟨u', hv'⟩ := hvs_drop (j := 22) hv
    have e : hcL.drop 22 = (0, 129, 2147483648, 2147483708) :: (0, 8324, 1, 0) :: (hcL.drop 22).drop 2 := by
      rw [show hcL.drop 22 = (hcL.drop 22).take 2 ++ (hcL.drop 22).drop 2 from (List.take_append_drop 2 _).symm, h22]
      rfl
    rw [e] at hv'
    exact hv_pair (by omega) hv'
  rw [← hkt] at x2
  obtain ⟨tl, htl⟩ : ∃ tl, i2n tx = 2147483648 + tl := ⟨i2n tx - 2147483648, by omega⟩
  have etx : tx = nI tl := r5nI htl (by omega)
  subst etx
  obtain ⟨hb, b1, b2⟩ := hD.2.2.2.2.2
  have hy : ∀ s, ∃ b, s < ns → PYd ad h s b := fun s => by
    by_cases hs : s < ns
    · obtain ⟨b, hb⟩ := sk_form hT ((s4 s).mpr hs)
      exact ⟨b, fun _ => hb⟩
    · exact ⟨true, fun e => absurd e hs⟩
  obtain ⟨yd, hyd⟩ := Classical.axiomOfChoice hy
  have ht : ∀ b, ∃ n, b < 4 → n ≤ 60 ∧ (At ad h 0 b 1 (.int (nI n)) ∧ At ad h kMty 0 b (.int (nI n))) := fun b => by
    by_cases hb : b < 4
    · obtain ⟨n, bs, nm, ⟨n1, -⟩, ⟨n2, -⟩, n3, -⟩ := hD.2.1 b hb
      exact ⟨n, fun _ => ⟨n1, n2, n3⟩⟩
    · exact ⟨0, fun e => absurd e hb⟩
  obtain ⟨tn, htn⟩ := Classical.axiomOfChoice ht
  obtain ⟨qp, q1, q2⟩ := fld_sgl hT (by omega) m10 t12 hox
  obtain ⟨ql, q3, q4⟩ := fld_sgl hT (by omega) m8 t80 q2
  obtain ⟨mc, ed, sz, n5, u1, u2, u3⟩ := hT.2.2.2.2.1 16 7 0 6 l16 ql q4
  have esz : sz = ta := by
    obtain ⟨q', k', vs, w1, w2, w3⟩ := a1
    rw [q4] at w1
    cases w1
    rw [u1] at w2
    cases w2
    exact Value.int.inj (Option.some.inj w3)
  subst esz
  exact ⟨N, kn, d, nk, ns, nt, npp, sz, nI dy, fi, yd, tl, tn, hb, hF, ⟨⟨⟨⟨k1, s1⟩, t1⟩, ⟨⟨ls_form hT c1 pm_t.1.1.1 hox k2 (by omega), ls_form hT l3 t9 hox s2 (by omega)⟩, ls_form hT l4 c10 hox t2 (by omega)⟩, ⟨k3, s3⟩, t3⟩, hyd, ⟨⟨p1, p2⟩, d2, d3⟩, ⟨i1, i2⟩, ⟨qp, ql, mc, ed, ⟨q1, q2⟩, q3, u1⟩, a2⟩, ⟨⟨by omega, fun b hb => (htn b hb).1⟩, ⟨x1, x2⟩, fun b hb => (htn b hb).2⟩, fun p hp => hol_pair hT (b1 p hp), b2⟩
end
end
