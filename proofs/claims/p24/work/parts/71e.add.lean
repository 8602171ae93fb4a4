/-! ===== lists: add ===== -/
section
variable {σ : Nat → Nat} {h h' : AH} {Q : Option Value → AH → Prop} {q bq : Nat} {mc sz : Int32} {ed : Value}
theorem L_newlen {c : Nat} (hc : c ≤ 60) (hQ : Q (some (.int (gw_p c))) h) : Rt σ 279 (codeOf 279) (am_args 0 [.int (nI c), .int (nI c + 1 - nI c), .int (nI c >>> ((1 : Int32) &&& 31))]) [] h Q := by
  have e : codeOf 279 = [(0, 1, 0, 0), (1, 1, 1, 0), (2, 1, 2, 0), (3, 32, 0, 0), (6, 4, 0, 0), (7, 2, 3, 0), (8, 0, 0, 0), (9, 1, 3, 0), (10, 5, 3, 21), (13, 1, 3, 0), (14, 0, 0, 2147483639), (16, 5, 4, 21), (19, 1, 3, 0), (20, 13, 1, 0), (21, 1, 0, 0), (22, 1, 1, 0), (23, 99, 0, 0), (26, 13, 1, 0)] := rfl
  obtain ⟨g1, g2⟩ := gw_ok hc
  have hz : i2n (Int32.ofInt 0) = 2147483648 := c_0
  have hm := c_max
  rw [e]
  refine rl_load rfl rfl (rl_load rfl rfl (rl_load rfl rfl (rl_max (Nat.le_of_ble_eq_true rfl) (rl_bin (z := gw_p c) rfl (rl_store rfl (rl_const (rl_load rfl rfl (rl_icmpF ?_ (rl_load rfl rfl (rl_const (rl_icmpF ?_ (rl_load rfl rfl (rl_ret1 hQ)))))))))))))
  · show some (decide (gw_p c ≤ Int32.ofInt 0)) = some false
    rw [decide_eq_false (fun e => by have := (i_le _ _).mp e; omega)]
  · show some (decide (Int32.ofInt 2147483639 < gw_p c)) = some false
    rw [decide_eq_false (fun e => by have := (i_lt _ _).mp e; omega)]
noncomputable def gr_cd : List (Nat × AI) := [(20, 1, 2, 0), (21, 1, 1, 0), (22, 1, 2, 0), (23, 4, 1, 0), (24, 1, 2, 0), (25, 0, 0, 1), (26, 4, 9, 0), (27, 12, 191, 0), (30, 2, 3, 0), (31, 1, 0, 2), (32, 1, 0, 2), (33, 8, 156, 0), (36, 1, 3, 0), (37, 12, 192, 0), (40, 18, 2, 0), (41, 9, 156, 0), (44, 13, 3, 0), (45, 1, 0, 2), (46, 0, 0, 10), (48, 1, 1, 0), (49, 32, 0, 0), (52, 25, 24, 0), (55, 18, 2, 0), (56, 9, 156, 0), (59, 13, 3, 0)]
theorem gr_e : codeOf 278 = [(0, 1, 0, 2), (1, 8, 156, 0), (4, 23, 0, 0), (5, 2, 2, 0), (6, 1, 2, 0), (7, 6, 4, 20), (10, 1, 0, 2), (11, 8, 156, 0), (14, 27, 5, 0), (17, 21, 0, 45)] ++ gr_cd := rfl
theorem gr_20 : jump 278 (20 : Int).toNat = gr_cd := by rw [jump_jmp, gr_e]; rfl
theorem gr_45 : jump 278 (45 : Int).toNat = [(45, 1, 0, 2), (46, 0, 0, 10), (48, 1, 1, 0), (49, 32, 0, 0), (52, 25, 24, 0), (55, 18, 2, 0), (56, 9, 156, 0), (59, 13, 3, 0)] := by rw [jump_jmp, gr_e]; rfl
theorem p156 {e' : Value} : ([.int mc, ed, .int sz] : List Value).set (fpos 156) e' = [.int mc, e', .int sz] := by rw [k156.2.1]; rfl
theorem l156 : fpos 156 < ([.int mc, ed, .int sz] : List Value).length := by rw [k156.2.1]; exact Nat.succ_lt_succ (Nat.zero_lt_succ _)
theorem f156 {a : Nat} : am_fit (dcode (fr 156).2.2.1) (.ref a) = true := by rw [k156.2.2]; rfl
theorem p157 {e' : Value} : ([.int mc, ed, .int sz] : List Value).set (fpos 157) e' = [.int mc, ed, e'] := by rw [k157.2.1]; rfl
theorem l157 : fpos 157 < ([.int mc, ed, .int sz] : List Value).length := by rw [k157.2.1]; exact Nat.lt_succ_self _
theorem f157 {x : Int32} : am_fit (dcode (fr 157).2.2.1) (.int x) = true := by rw [k157.2.2]; rfl
theorem p158 {e' : Value} : ([.int mc, ed, .int sz] : List Value).set (fpos 158) e' = [e', ed, .int sz] := by rw [k158.2.1]; rfl
theorem l158 : fpos 158 < ([.int mc, ed, .int sz] : List Value).length := by rw [k158.2.1]; exact Nat.zero_lt_succ _
theorem f158 {x : Int32} : am_fit (dcode (fr 158).2.2.1) (.int x) = true := by rw [k158.2.2]; rfl
/-- a new row comes in the old one's place -/
noncomputable def GrC (h : AH) (q : Nat) (mc : Int32) (sz : Int32) (us : List Value) (h' : AH) : Prop := ∃ m, us.length < m ∧ (m ≤ 128 ∧ ((∀ a, a ≠ q → a < h.2.1 → h'.1 a = h.1 a) ∧ (h'.1 q = some (12, [.int mc, .ref h.2.1, .int sz]) ∧ (h'.1 h.2.1 = some (24, us ++ List.replicate (m - us.length) .null) ∧ (h'.2.1 = h.2.1 + 1 ∧ h'.2.2 = h.2.2 + m)))))
theorem L_grow {us : List Value} (hq : h.1 q = some (12, [.int mc, .ref bq, .int sz])) (hqlt : q < h.2.1) (hlt : bq < h.2.1) (hbq : bq ≠ q) (hcase : (bq = σ 5 ∧ (us = [] ∧ ∃ k, 20 ≤ k ∧ h.1 bq = some (k, []))) ∨ (bq ≠ σ 5 ∧ (h.1 bq = some (24, us) ∧ (us.length ≤ 60 ∧ ∀ v : Value, v ∈ us → v = .null ∨ ∃ a k fs, v = .ref a ∧ (a < h.2.1 ∧ (h.1 a = some (k, fs) ∧ k < 13))))))
    (hQ : ∀ h', GrC h q mc sz us h' → Q (some (.ref h.2.1)) h') : Rt σ 278 (codeOf 278) (am_args 0 [.ref q, .int (nI us.length + 1)]) [] h Q := by
  rw [gr_e]
  rcases hcase with ⟨rfl, rfl, k, hk, hb⟩ | ⟨hne, hb, hlen, hel⟩
  · have h10 : (if Int32.ofInt 10 < nI ([] : List Value).length + 1 then nI ([] : List Value).length + 1 else Int32.ofInt 10) = Int32.ofInt 10 := by decide +kernel
    have hn : ¬ (Int32.ofInt 10 < 0) ∧ (Int32.ofInt 10).toNatClampNeg = 10 := ⟨by decide +kernel, by decide +kernel⟩
    refine rl_load rfl rfl (rl_get hq k156.1 g156 (rl_len hb hk (by show 0 < _; omega) (rl_store rfl (rl_load rfl rfl (rl_ifF rfl (rl_load rfl rfl (rl_get hq k156.1 g156 (rl_stat (rl_acmpT0 rfl ?_)))))))))
    rw [gr_45]
    refine rl_load rfl rfl (rl_const (rl_load rfl rfl (rl_max (Nat.le_of_ble_eq_true rfl) ?_)))
    rw [h10]
    have hq2 : (am_push h (24, List.replicate 10 (am_def 24)) 10).1 q = some (12, [.int mc, .ref (σ 5), .int sz]) := (if_neg (show ¬ q = h.2.1 by omega)).trans hq
    refine rl_anew (N := 10) hn.1 hn.2 (by omega) (rl_dupx rfl rfl (rl_put hq2 k156.1 l156 f156 (rl_ret3 ?_)))
    rw [p156]
    refine hQ _ ⟨10, by show 0 < 10; omega, by omega, fun a ha hlt => ?_, am_at _ _ _, ?_, rfl, rfl⟩
    · exact (am_ne ha).trans (if_neg (show ¬ a = h.2.1 by omega))
    · exact (am_ne (show ¬ h.2.1 = q by omega)).trans (if_pos rfl)
  · have hI := nI_ok (j := us.length) (by omega)
    refine rl_load rfl rfl (rl_get hq k156.1 g156 (rl_len hb (by omega) (by omega) (rl_store rfl (rl_load rfl rfl ?_))))
    have body : Rt σ 278 gr_cd (lv_put 2 (.int (nI us.length)) (am_args 0 [.ref q, .int (nI us.length + 1)])) [] h Q := by
      refine rl_load rfl rfl (rl_load rfl rfl (rl_load rfl rfl (rl_bin (z := nI us.length + 1 - nI us.length) rfl (rl_load rfl rfl (rl_const (rl_bin (z := nI us.length >>> ((1 : Int32) &&& 31)) rfl (rl_calls (k := 0) (M' := 279) (n := 3) (as := [.int (nI us.length), .int (nI us.length + 1 - nI us.length), .int (nI us.length >>> ((1 : Int32) &&& 31))]) (r := []) (by decide +kernel) rfl rfl (Nat.le_of_ble_eq_true rfl) (by rfl) (L_newlen hlen ?_))))))))
      obtain ⟨g1, g2⟩ := gw_ok hlen
      refine rl_store rfl (rl_load rfl rfl (rl_load rfl rfl (rl_get hq k156.1 g156 (rl_load rfl rfl (rl_calls (k := 0) (M' := 280) (n := 2) (as := [.ref bq, .int (gw_p us.length)]) (r := [.ref q]) (by decide +kernel) rfl rfl (Nat.le_of_ble_eq_true rfl) (by rfl) (L_copy (m := i2n (gw_p us.length) - 2147483648) hb hlt hel (by omega) (by omega) (by omega) fun h1 c1 c2 c3 c4 => ?_))))))
      have hq2 : h1.1 q = some (12, [.int mc, .ref bq, .int sz]) := (c1 q hqlt).trans hq
      refine rl_dupx rfl rfl (rl_put hq2 k156.1 l156 f156 (rl_ret3 ?_))
      rw [p156]
      refine hQ _ ⟨i2n (gw_p us.length) - 2147483648, by omega, by omega, fun a ha hlt => (am_ne ha).trans (c1 a hlt), am_at _ _ _, (am_ne (show ¬ h.2.1 = q by omega)).trans c2, c3, c4⟩
    by_cases h0 : 0 < us.length
    · refine rl_ifT (by show some (decide (0 < nI us.length)) = some true; rw [decide_eq_true ((i_lt _ _).mpr (by rw [c_0]; omega))]) ?_
      rw [gr_20]
      exact body
    · refine rl_ifF (by show some (decide (0 < nI us.length)) = some false; rw [decide_eq_false (fun e => by have := (i_lt _ _).mp e; rw [c_0] at this; omega)]) (rl_load rfl rfl (rl_get hq k156.1 g156 (rl_stat (rl_acmpF0 hne ?_))))
      exact body
/-- what add does to the heap -/
noncomputable def AdC (h : AH) (q : Nat) (mc sz : Int32) (ed e : Value) (N : Nat) (h' : AH) : Prop :=
  (∃ bq us, ed = .ref bq ∧ (h.1 bq = some (24, us) ∧ (N < us.length ∧ (h'.2 = h.2 ∧ ((∀ a, a ≠ q → a ≠ bq → h'.1 a = h.1 a) ∧ (h'.1 q = some (12, [.int (mc + 1), ed, .int (sz + 1)]) ∧ h'.1 bq = some (24, us.set N e))))))) ∨
  (∃ us m, (h.1 (match ed with | .ref b => b | _ => 0) = some (24, us) ∨ us = []) ∧ (us.length = N ∧ (N < m ∧ (m ≤ 128 ∧ ((∀ a, a ≠ q → a < h.2.1 → h'.1 a = h.1 a) ∧ (h'.1 q = some (12, [.int (mc + 1), .ref h.2.1, .int (sz + 1)]) ∧ (h'.1 h.2.1 = some (24, (us ++ List.replicate (m - N) Value.null).set N e) ∧ (h'.2.1 = h.2.1 + 1 ∧ h'.2.2 = h.2.2 + m))))))))
noncomputable def ad_cd : List (Nat × AI) := [(11, 1, 2, 2), (12, 1, 3, 0), (13, 1, 1, 2), (14, 11, 4, 0), (15, 1, 0, 2), (16, 1, 3, 0), (17, 0, 0, 1), (18, 4, 0, 0), (19, 9, 157, 0), (22, 13, 0, 0)]
theorem ad_e : codeOf 276 = [(0, 1, 3, 0), (1, 1, 2, 2), (2, 23, 0, 0), (3, 5, 1, 11), (6, 1, 0, 2), (7, 12, 189, 0), (10, 2, 2, 2)] ++ ad_cd := rfl
theorem ad_11 : jump 276 (11 : Int).toNat = ad_cd := by rw [jump_jmp, ad_e]; rfl
theorem L_add {qe ke N : Nat} {fe us : List Value} (hq : h.1 q = some (12, [.int mc, .ref bq, .int sz])) (hqlt : q < h.2.1) (hlt : bq < h.2.1) (hbq : bq ≠ q) (hsz : i2n sz = 2147483648 + N) (hN : N ≤ 60) (hqe : h.1 qe = some (ke, fe)) (hqel : qe < h.2.1) (hke : ke < 13)
    (hcase : (bq = σ 5 ∧ (us = [] ∧ (N = 0 ∧ ∃ k, 20 ≤ k ∧ h.1 bq = some (k, [])))) ∨ (bq ≠ σ 5 ∧ (h.1 bq = some (24, us) ∧ (N ≤ us.length ∧ (us.length ≤ 1000 ∧ ∀ k, k < N → ∃ a kk fs, us[k]? = some (.ref a) ∧ (a < h.2.1 ∧ (h.1 a = some (kk, fs) ∧ kk < 13)))))))
    (hQ : ∀ h', AdC h q mc sz (.ref bq) (.ref qe) N h' → Q (some (.int 1)) h') : Rt σ mAdd (codeOf mAdd) (am_args 0 [.ref q, .ref qe]) [] h Q := by
  have e : codeOf mAdd = [(0, 1, 0, 2), (1, 18, 0, 0), (2, 8, 158, 0), (5, 0, 0, 1), (6, 4, 0, 0), (7, 9, 158, 0), (10, 1, 0, 2), (11, 1, 1, 2), (12, 1, 0, 2), (13, 8, 156, 0), (16, 1, 0, 2), (17, 8, 157, 0), (20, 12, 188, 0), (23, 0, 0, 1), (24, 13, 4, 0)] := rfl
  have e2 : codeOf 277 = [(0, 1, 0, 2), (1, 1, 0, 2), (2, 8, 157, 0), (5, 0, 0, 1), (6, 4, 0, 0), (7, 12, 190, 0), (10, 13, 3, 0)] := rfl
  obtain ⟨s1, s2⟩ := j_of (j := sz) (by omega)
  have s3 : sz.toNatClampNeg = N := by omega
  rw [e]
  refine rl_load rfl rfl (rl_dup rfl (rl_get hq k158.1 g158 (rl_const (rl_bin (z := mc + 1) rfl (rl_put hq k158.1 l158 f158 ?_)))))
  rw [p158]
  have q1 : (am_set h q (12, [.int (mc + 1), .ref bq, .int sz])).1 q = some (12, [.int (mc + 1), .ref bq, .int sz]) := am_at _ _ _
  have ne1 : ∀ a, a ≠ q → (am_set h q (12, [.int (mc + 1), .ref bq, .int sz])).1 a = h.1 a := fun a ha => am_ne ha
  have n1 : (am_set h q (12, [.int (mc + 1), .ref bq, .int sz])).2 = h.2 := rfl
  generalize am_set h q (12, [.int (mc + 1), .ref bq, .int sz]) = h1 at q1 ne1 n1
  have e5 : h1.2.1 = h.2.1 := by rw [n1]
  have kept : ∀ a kk fs, h.1 a = some (kk, fs) → kk < 13 → ∃ fs', h1.1 a = some (kk, fs') := by
    intro a kk fs ha hk
    by_cases ea : a = q
    · subst ea
      rw [hq] at ha
      cases ha
      exact ⟨_, q1⟩
    · exact ⟨fs, (ne1 a ea).trans ha⟩
  refine rl_load rfl rfl (rl_load rfl rfl (rl_load rfl rfl (rl_get q1 k156.1 g156 (rl_load rfl rfl (rl_get q1 k157.1 g157 (rl_callv (k := 12) (M' := 276) (n := 3) (as := [.ref qe, .ref bq, .int sz]) (r := []) (by decide +kernel) rfl rfl q1 (Nat.le_of_ble_eq_true rfl) (by rfl) ?_))))))
  suffices H : Rt σ 276 (codeOf 276) (am_args 0 [.ref q, .ref qe, .ref bq, .int sz]) [] h1 (fun v h' => v = none ∧ AdC h q mc sz (.ref bq) (.ref qe) N h') by
    refine rt_mono H fun v h' ⟨hv, hA⟩ => ?_
    subst hv
    exact rl_const (rl_ret4 (Or.inr rfl) (hQ h' hA))
  rw [ad_e]
  -- the last instructions: the element comes into the row, the size grows
  have last : ∀ (L : LV) (h2 : AH) (b2 : Nat) (vs : List Value), lv_get 0 L = some (.ref q) → lv_get 1 L = some (.ref qe) → lv_get 2 L = some (.ref b2) → lv_get 3 L = some (.int sz) → b2 ≠ q → h2.1 q = some (12, [.int (mc + 1), .ref b2, .int sz]) → h2.1 b2 = some (24, vs) → N < vs.length → (∃ fs', h2.1 qe = some (ke, fs')) →
      (AdC h q mc sz (.ref bq) (.ref qe) N (am_set (am_set h2 b2 (24, vs.set N (.ref qe))) q (12, [.int (mc + 1), .ref b2, .int (sz + 1)]))) → Rt σ 276 ad_cd L [] h2 (fun v h' => v = none ∧ AdC h q mc sz (.ref bq) (.ref qe) N h') := by
    intro L h2 b2 vs l0 l1 l2 l3 hb2 hq2 hv2 hN2 ⟨fe', he2⟩ hA
    have hst : am_st 4 24 (.ref qe) h2 = true := by
      show (match am_get h2 qe with
        | some (kv, _) => decide (kv < 13) && (24 == 24 || ((24 == 25 && kv == 0) || (24 == 26 && kv == 9)))
        | none => false) = true
      unfold am_get
      rw [he2]
      dsimp only
      rw [decide_eq_true hke]
      rfl
    have hq3 : (am_set h2 b2 (24, vs.set N (.ref qe))).1 q = some (12, [.int (mc + 1), .ref b2, .int sz]) := (am_ne (fun e => hb2 e.symm)).trans hq2
    refine rl_load l2 rfl (rl_load l3 rfl (rl_load l1 rfl (rl_ast hv2 hst s1 (by omega) ?_)))
    rw [s3]
    refine rl_load l0 rfl (rl_load l3 rfl (rl_const (rl_bin (z := sz + 1) rfl (rl_put hq3 k157.1 l157 f157 (rl_ret0 ⟨rfl, ?_⟩)))))
    rw [p157]
    exact hA
  rcases hcase with ⟨c1, c2, c3, k, hk, hb⟩ | ⟨c1, hb, c3, c4, c5⟩
  · -- the first row
    have hb1 : h1.1 bq = some (k, []) := (ne1 bq hbq).trans hb
    have z0 : sz = nI 0 := i2n_inj (by rw [nI_ok (by omega)]; omega)
    have z1 : sz + Int32.ofInt 1 = nI us.length + 1 := by rw [z0, c2]; rfl
    refine rl_load rfl rfl (rl_load rfl rfl (rl_len hb1 hk (by show 0 < _; omega) (rl_icmpF (by show some (decide (¬ sz = nI 0)) = some false; rw [decide_eq_false (fun e => e z0)]) (rl_load rfl rfl (rl_callv (k := 12) (M' := 277) (n := 0) (as := []) (r := []) (by decide +kernel) rfl rfl q1 (Nat.le_of_ble_eq_true rfl) (by rfl) ?_)))))
    rw [e2]
    refine rl_load rfl rfl (rl_load rfl rfl (rl_get q1 k157.1 g157 (rl_const (rl_bin (z := nI us.length + 1) (by rw [← z1]; rfl) (rl_callv (k := 12) (M' := 278) (n := 1) (as := [.int (nI us.length + 1)]) (r := []) (by decide +kernel) rfl rfl q1 (Nat.le_of_ble_eq_true rfl) (by rfl) ?_)))))
    refine L_grow (us := us) q1 (by rw [n1]; exact hqlt) (by rw [n1]; exact hlt) hbq (Or.inl ⟨c1, c2, k, hk, hb1⟩) fun h2 ⟨m, m1, m2, m3, m4, m5, m6, m7⟩ => ?_
    refine rl_ret3 (rl_store rfl ?_)
    rw [n1] at m3 m4 m5 m6 m7
    refine last _ h2 h.2.1 _ rfl rfl (congrArg (fun x => some (Value.ref x)) e5) rfl (by omega) m4 m5 (by rw [List.length_append, List.length_replicate, c2]; show N < 0 + (m - 0); rw [c2] at m1; have : 0 < m := m1; omega) ?_ (Or.inr ⟨us, m, Or.inr c2, by rw [c2]; exact c3.symm, by rw [c2] at m1; have : 0 < m := m1; omega, m2, fun a ha hlt => ?_, am_at _ _ _, ?_, m6, m7⟩)
    · obtain ⟨fs', e9⟩ := kept qe ke fe hqe hke
      by_cases eq : qe = q
      · subst eq
        rw [hq] at hqe
        cases hqe
        exact ⟨_, m4⟩
      · exact ⟨fs', (m3 qe eq hqel).trans e9⟩
    · exact (am_ne ha).trans ((am_ne (by omega)).trans ((m3 a ha hlt).trans (ne1 a ha)))
    · refine (am_ne (by omega)).trans ((am_at _ _ _).trans ?_)
      rw [show us.length = N by rw [c2]; exact c3.symm]
  · have hb1 : h1.1 bq = some (24, us) := (ne1 bq hbq).trans hb
    by_cases hfull : N = us.length
    · -- a longer row
      have z0 : sz = nI us.length := i2n_inj (by rw [nI_ok (by omega)]; omega)
      have z1 : sz + Int32.ofInt 1 = nI us.length + 1 := by rw [z0]; rfl
      refine rl_load rfl rfl (rl_load rfl rfl (rl_len hb1 (by omega) (by omega) (rl_icmpF (by show some (decide (¬ sz = nI us.length)) = some false; rw [decide_eq_false (fun e => e z0)]) (rl_load rfl rfl (rl_callv (k := 12) (M' := 277) (n := 0) (as := []) (r := []) (by decide +kernel) rfl rfl q1 (Nat.le_of_ble_eq_true rfl) (by rfl) ?_)))))
      rw [e2]
      refine rl_load rfl rfl (rl_load rfl rfl (rl_get q1 k157.1 g157 (rl_const (rl_bin (z := nI us.length + 1) (by rw [← z1]; rfl) (rl_callv (k := 12) (M' := 278) (n := 1) (as := [.int (nI us.length + 1)]) (r := []) (by decide +kernel) rfl rfl q1 (Nat.le_of_ble_eq_true rfl) (by rfl) ?_)))))
      refine L_grow (us := us) q1 (by rw [n1]; exact hqlt) (by rw [n1]; exact hlt) hbq (Or.inr ⟨c1, hb1, by omega, fun v hv => ?_⟩) fun h2 ⟨m, m1, m2, m3, m4, m5, m6, m7⟩ => ?_
      · obtain ⟨j, hj⟩ := List.getElem?_of_mem hv
        have hjl := (List.getElem?_eq_some_iff.mp hj).1
        obtain ⟨a, kk, fs, a1, a2, a3, a4⟩ := c5 j (by omega)
        rw [hj] at a1
        cases a1
        obtain ⟨fs', e9⟩ := kept a kk fs a3 a4
        exact Or.inr ⟨a, kk, fs', rfl, by rw [n1]; exact a2, e9, a4⟩
      · refine rl_ret3 (rl_store rfl ?_)
        rw [n1] at m3 m4 m5 m6 m7
        refine last _ h2 h.2.1 _ rfl rfl (congrArg (fun x => some (Value.ref x)) e5) rfl (by omega) m4 m5 (by rw [List.length_append, List.length_replicate]; omega) ?_ (Or.inr ⟨us, m, Or.inl hb, hfull.symm, by omega, m2, fun a ha hlt => ?_, am_at _ _ _, ?_, m6, m7⟩)
        · obtain ⟨fs', e9⟩ := kept qe ke fe hqe hke
          by_cases eq : qe = q
          · subst eq
            rw [hq] at hqe
            cases hqe
            exact ⟨_, m4⟩
          · exact ⟨fs', (m3 qe eq hqel).trans e9⟩
        · exact (am_ne ha).trans ((am_ne (by omega)).trans ((m3 a ha hlt).trans (ne1 a ha)))
        · refine (am_ne (by omega)).trans ((am_at _ _ _).trans ?_)
          rw [← hfull]
    · have hns : ¬ sz = nI us.length := fun e => hfull (by have e9 := nI_ok (j := us.length) (by omega); rw [← e] at e9; omega)
      refine rl_load rfl rfl (rl_load rfl rfl (rl_len hb1 (by omega) (by omega) (rl_icmpT (by show some (decide (¬ sz = nI us.length)) = some true; rw [decide_eq_true hns]) ?_)))
      rw [ad_11]
      refine last _ h1 bq us rfl rfl rfl rfl hbq q1 hb1 (by omega) (kept qe ke fe hqe hke) (Or.inl ⟨bq, us, rfl, hb, by omega, n1, fun a ha hab => (am_ne ha).trans ((am_ne hab).trans (ne1 a ha)), am_at _ _ _, (am_ne hbq).trans (am_at _ _ _)⟩)
end
