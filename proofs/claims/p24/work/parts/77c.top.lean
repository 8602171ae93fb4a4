/-! ===== the symbolic state at the law's head holds ===== -/
section
variable {σ : Nat → Nat} {ad : AD} {h : AH} {L : LV} {i lo hi kb : Nat} {b : Nat} {x : Int32} {vs : List Value}
noncomputable def nuH (i : Nat) (x : Int32) (j : Nat) : Nat := if j = 0 then 2147483648 + i else if j = 1 then i2n x else if j = 2 then i2n (x &&& 63) else 0
theorem i_63 : i2n (63 : Int32) = 2147483711 := by decide +kernel
theorem gtop_ok (hH : HeadOK σ ad h L i) (h1 : lo ≤ i2n (x &&& 63)) (h2 : i2n (x &&& 63) ≤ hi) : RM ((ad, h), no2) (nuH i x, fun _ => 0, ad) (Gtop lo hi) h := by
  obtain ⟨-, hT, -, hi3, -⟩ := hH
  refine ⟨⟨fun j => ?_, fun q hq => ?_, fun q hq => (by cases hq), fun q hq => by cases hq⟩, fun k o hk => (by cases hk), ⟨fun k hk => (by cases hk), fun k j hk => (by cases hk)⟩, ts_ex hT fun t k e => e.elim, fun x hx => (by cases hx), fun x hx => (by cases hx), fun a _ _ => rfl, fun c i a p _ _ _ => rfl, fun c i a _ e => e, fun c i a e => Or.inl e, Nat.le_refl _, Nat.le_refl _, Nat.le_refl _⟩
  · show (e_find j [(2, lo, hi), (1, 0, 4294967295), (0, 2147483648, 2147487232)]).1 ≤ nuH i x j ∧ nuH i x j ≤ (e_find j [(2, lo, hi), (1, 0, 4294967295), (0, 2147483648, 2147487232)]).2
    unfold nuH
    by_cases e0 : j = 0
    · subst e0
      rw [if_pos rfl]
      show 2147483648 ≤ 2147483648 + i ∧ 2147483648 + i ≤ 2147487232
      omega
    · rw [if_neg e0]
      by_cases e1 : j = 1
      · subst e1
        rw [if_pos rfl]
        have := i2n_lt x
        show 0 ≤ i2n x ∧ i2n x ≤ 4294967295
        omega
      · rw [if_neg e1]
        by_cases e2 : j = 2
        · subst e2
          rw [if_pos rfl, e_hit]
          exact ⟨h1, h2⟩
        · rw [if_neg e2, e_miss (by omega), e_miss (by omega), e_miss (by omega)]
          exact ⟨Nat.le_refl 0, Nat.zero_le _⟩
  · have e : q = (2, 5, (1, 1, 0), sk 2147483711) := List.mem_singleton.mp hq
    subst e
    exact ⟨by show 2 < 3; omega, fun _ => by show 1 < 3; omega, fun e => (by cases e), Or.inl ⟨by show 5 < 10; omega, x, 63, x &&& 63, rfl, i_63, rfl, rfl⟩⟩
theorem topL_ok (hH : HeadOK σ ad h L i) (hb : ad kSCR 0 = some b) (hs : h.1 b = some (kb, vs)) (hx : vs[i]? = some (.int x)) (h1 : lo ≤ i2n (x &&& 63)) (h2 : i2n (x &&& 63) ≤ hi) :
    ∃ nu, RM ((ad, h), no2) (nu, fun _ => 0, ad) (topL lo hi) h ∧ (nu 0 = 2147483648 + i ∧ (g_h (topL lo hi) = [] ∧ (g_u (topL lo hi) = 0 ∧ (g_q (topL lo hi) = 0 ∧ (1 ≤ g_n (topL lo hi) ∧ (g_p (topL lo hi) = npL ∧ ((kBL, sk 2147483648, (8, 0, 0), sk 2147483652) ∈ g_c (topL lo hi) ∧ (kSH, sk 2147483648, (8, 0, 0), sk 2147483652) ∈ g_c (topL lo hi)))))))) := by
  have hR := gtop_ok hH h1 h2
  obtain ⟨-, hT, -, hi3, k1, k2, u, ws, hv, hr⟩ := hH
  have lc := law_cls
  obtain ⟨nu1, r1, r2, r3⟩ := tph_ok (hc := hcL) hc_cls hR (u := sk 0) rfl (fun e => by cases e) rfl (hvs_any hv)
  have n0 : nu1 0 = 2147483648 + i := r2.1 0 (by show 0 < 3; omega)
  have n1 : nu1 1 = i2n x := r2.1 1 (by show 1 < 3; omega)
  have g3 : 3 ≤ g_n (tpH (Gtop lo hi) (sk 0) hcL).2 := r2.2.1
  obtain ⟨G3, f1, f2⟩ := tpf_ok (I := (nu1, fun _ => 0, ad)) (i := i) (vs := (tpH (Gtop lo hi) (sk 0) hcL).1) (ws := ws) r1.1 (fun _ => by show 0 < _; omega) n0 r3 (l := rlL) (fun q hq => by
    rw [tph_len]
    have := blet (List.all_eq_true.mp rll_len q hq)
    omega) hr
  have hR3 := rm_nk' (I := (nu1, fun _ => 0, ad)) r1 f2
  have et : topL lo hi = tpS G3 := by
    unfold topL
    rw [f1]
  rw [et]
  have l1 := and2 lc
  have c1 : kSCR ≤ 999 := blet l1.1
  -- the script's length
  obtain ⟨-, kk, ws', y1, -, y3, -⟩ := hT.1 kSCR 0 b (by omega) hb
  rw [hs] at y1
  cases y1
  have len : vs.length ≤ 3584 := by
    refine y3.2.2 ?_
    unfold cdm
    rw [scr_cd]
    show 999999 < 1000000
    omega
  have kf := nk_fresh (G := G3) (lo := 2147483648) (hi := 2147487232) (w := 2147483648 + vs.length) hR3.1 (by omega) (by omega)
  have hR4 := rm_nk hR3 kf
  have p3 : g_n (tpH (Gtop lo hi) (sk 0) hcL).2 ≤ g_n G3 := f2.2.2.1
  have m0 : nset nu1 (g_n G3) (2147483648 + vs.length) 0 = 2147483648 + i := by
    rw [show nset nu1 (g_n G3) (2147483648 + vs.length) 0 = nu1 0 from if_neg (by omega)]
    exact n0
  have m1 : nset nu1 (g_n G3) (2147483648 + vs.length) 1 = i2n x := by
    rw [show nset nu1 (g_n G3) (2147483648 + vs.length) 1 = nu1 1 from if_neg (by omega)]
    exact n1
  have fx := f2.2.2.2
  refine ⟨nset nu1 (g_n G3) (2147483648 + vs.length), ?_, m0, ?_, ?_, ?_, ?_, ?_, ?_, ?_⟩
  · refine rm_cell (rm_cell (rm_cell (rm_cell hR4 ?_) ?_) ?_) ?_
    · refine ⟨fun e => (by cases e), fun e => (by cases e), by show kSCR < 1000; omega, Or.inr (Or.inr (Or.inl ⟨rfl, rfl, fun _ => Nat.lt_succ_self _, 0, b, kb, vs, rfl, hb, hs, nset_at _ _ _⟩))⟩
    · exact ⟨fun e => (by cases e), fun e => (by cases e), by show kBL < 1000; decide +kernel, Or.inr (Or.inl ⟨rfl, rfl, fun e => (by cases e), k1⟩)⟩
    · exact ⟨fun e => (by cases e), fun e => (by cases e), by show kSH < 1000; decide +kernel, Or.inr (Or.inl ⟨rfl, rfl, fun e => (by cases e), k2⟩)⟩
    · refine cell_mk (a := 0) (b := i) (by show kSCR < 1000; omega) (fun e => by cases e) (fun _ => ?_) rfl rfl m0 ⟨b, kb, vs, hb, hs, hx⟩ (sv_of_int ⟨rfl, fun _ => ?_, m1.symm⟩)
      · show 0 < g_n G3 + 1
        omega
      · show 1 < g_n G3 + 1
        omega
  · exact fx.1.trans r2.2.2.1
  · exact fx.2.1.trans r2.2.2.2.1
  · exact fx.2.2.1.trans r2.2.2.2.2.1
  · show 1 ≤ g_n G3 + 1
    omega
  · exact fx.2.2.2.2.2.2.trans r2.2.2.2.2.2.2.2
  · exact List.mem_cons_of_mem _ (List.mem_cons_of_mem _ List.mem_cons_self)
  · exact List.mem_cons_of_mem _ List.mem_cons_self
end
