section
/-! FROM BELOW: at the law's head -/
section
variable {σ : Nat → Nat} {ad : AD} {h : AH} {L : LV} {np n T ox m t i qp o : Nat} {ex ho : Nat → Nat → Prop} {d : Nat → TPD} {tk : Nat → TKD}
theorem lsp_form (hT : TS ad h np ex ho) (hqp : ad 8 0 = some qp) (hX : At ad h 16 0 2 (.int (nI n))) (hN : n < 2147483648) : LsP ad h n := by
  obtain ⟨⟨-, c80, c8m, c8⟩, hl, -⟩ := bd_c.1
  obtain ⟨ql, a1, a2⟩ := fld_sgl hT (by omega) c8m c80 hqp
  obtain ⟨mc, ed, sz, M, u1, u2, u3⟩ := hT.2.2.2.2.1 16 7 1 6 hl ql a2
  have eX : sz = nI n := by
    obtain ⟨q', k', vs, w1, w2, w3⟩ := hX
    rw [a2] at w1
    cases w1
    rw [u1] at w2
    cases w2
    exact Value.int.inj (Option.some.inj w3)
  subst eX
  have eM : M = n := by
    rw [nI_ok hN] at u2
    omega
  subst eM
  refine ⟨ql, mc, ed, a1, u1, ?_⟩
  rcases u3 with ⟨q5, -, -, e⟩ | ⟨bq, us, -, w2, w3, -, -, w6⟩
  · exact Or.inl e
  · refine Or.inr ⟨bq, us, w2, w3, fun s hs => ?_⟩
    obtain ⟨u, v1, v2⟩ := w6 s hs
    rcases v2 with ⟨-, v3⟩ | ⟨e, -⟩
    · rcases v3 with ⟨e, -⟩ | ⟨-, q, v4, rfl⟩
      · omega
      · rw [Nat.add_sub_cancel_left] at v4
        exact ⟨q, v1, v4⟩
    · cases e
/-- the tasks of both sides -/
theorem head_tk (hH : HeadOK σ ad h L i) : ∃ n, n ≤ 6 ∧ ((At ad h 16 0 2 (.int (nI n)) ∧ At ad h 11 0 54 (.int (nI n))) ∧ ∀ k, ad 7 k ≠ none ↔ k < n) := by
  obtain ⟨-, -, -, -, -, -, u, ws, hv, -⟩ := hH
  obtain ⟨u', hv'⟩ := hvs_drop (j := 18) hv
  have e : hcL.drop 18 = (0, 2050, 2147483648, 2147483648 + 6) :: (2, 7, 1, 0) :: (0, 1462, 1, 0) :: (hcL.drop 18).drop 3 := by
    rw [show hcL.drop 18 = (hcL.drop 18).take 3 ++ (hcL.drop 18).drop 3 from (List.take_append_drop 3 _).symm, bd_h]
    rfl
  rw [e] at hv'
  exact hv_list (by omega) hv'
theorem task_p (hT : TS ad h npL (fun _ _ => False) ho) (hk : ad 7 t ≠ none) : ∃ p, PTk ad h t p := by
  obtain ⟨⟨a1, a2⟩, a3, a4⟩ := cpf_s1
  obtain ⟨⟨-, -, c7m, c7, c7l⟩, -, tg, -⟩ := bd_c
  obtain ⟨V, hV⟩ := fld_any (p := 0) hT (by omega) c7m (by omega) hk
  obtain ⟨dd, gv, e7, D7⟩ := cpl_at (lim := 7) (p := 0) hT a1 a2 a3 a4 List.mem_cons_self hk hV
  have e7 := List.mem_singleton.mp e7
  subst e7
  obtain ⟨F2, D7⟩ := dc_1 D7
  obtain ⟨F3, -⟩ := dc_1 D7
  obtain ⟨kj, qk, z1, z2, z3⟩ := en_ref rfl rfl F2
  replace z3 : 2147483648 + kj + 0 = gv 0 := z3
  rw [tg] at z2
  obtain ⟨xs, w1, w2, w3, w4⟩ := en_int' (by omega) F3
  have exs : xs = nI kj := r5nI (by omega) (by omega)
  subst exs
  obtain ⟨x, y, hK⟩ := kerb_xy hT (kk := kj) (by rw [z2]; exact fun e => by cases e)
  obtain ⟨X, hX, -⟩ := cpl_2 (p := 2) hT cpf_s3 (by omega) c7m (by omega) hk
  exact ⟨((x, y), X), ⟨kj, qk, ⟨⟨at_m0 (p := 0) z1, z2⟩, at_m1 w1, by have := nI_ok (show kj < 2147483648 by omega); omega⟩, hK⟩, hX⟩
theorem head_bd (hD : HD σ ad h L i) : ∃ n T tk d, BdH ad h n T tk d := by
  obtain ⟨N, T, d, ⟨⟨⟨-, t6⟩, -, l4⟩, -, t11⟩, -, hd⟩ := head_fnh hD
  have hT := hD.1.2.1
  obtain ⟨n, n1, ⟨n2, n3⟩, n4⟩ := head_tk hD.1
  obtain ⟨⟨t12, -⟩, -⟩ := bd_c.1
  obtain ⟨⟨⟨⟨c10, -⟩, -⟩, -⟩, -⟩ := pm_c
  obtain ⟨ox, hox⟩ := hT.2.2.2.1.2.1 10 pm_t.2.2.2
  obtain ⟨qp, q1, q2⟩ := fld_sgl hT (by omega) c10 t12 hox
  have ht : ∀ t, ∃ p : TKD, t < n → PTk ad h t p := fun t => by
    by_cases h1 : t < n
    · obtain ⟨p, hp⟩ := task_p hT ((n4 t).mpr h1)
      exact ⟨p, fun _ => hp⟩
    · exact ⟨((0, 0), 0), fun h => absurd h h1⟩
  obtain ⟨tk, htk⟩ := Classical.axiomOfChoice ht
  exact ⟨n, T, tk, d, ⟨⟨⟨n1, t6⟩, lsp_form hT q2 n2 (by omega), l4⟩, ⟨n3, t11⟩, qp, q1, q2⟩, htk, hd⟩
theorem pr_bound (hT : TS ad h np ex ho) (hox : ad 10 0 = some ox) (hm : ad 11 0 = some m) (hF : BdH ad h n T tk d) : PrC σ h 142 261 ox m [] := by
  obtain ⟨⟨⟨⟨n6, t6⟩, lp, l4⟩, ⟨n11, t11⟩, qp, q1, q2⟩, hK, hP⟩ := hF
  obtain ⟨⟨⟨f8, f8'⟩, -⟩, -⟩ := bd_f.1
  obtain ⟨⟨-, f6, f6'⟩, -⟩ := wg_f.1
  obtain ⟨⟨-, s105, -⟩, -⟩ := bd_sp
  obtain ⟨⟨-, m143, -⟩, -⟩ := bd_ml
  obtain ⟨⟨⟨⟨c10, c10'⟩, -⟩, -⟩, -⟩ := pm_c
  obtain ⟨⟨-, c80, c8m, c8⟩, -⟩ := bd_c.1
  obtain ⟨ql, mc, ed, e2, e3, e4⟩ := l4
  have hlp := lp
  obtain ⟨qt, mt, et, b1, -⟩ := lp
  obtain ⟨vp, xvp, -⟩ := at_kind hT.1 (by omega) (by omega) b1 q2
  rw [c8] at xvp
  refine ⟨if n = 0 then 0 else bR d tk T n 0, ?_, M_bound hT hm n6 t6 n11 t11 hK hP ⟨rfl, rfl⟩⟩
  rw [code_142]
  refine rl_load rfl rfl (ra_get hT.1 (by omega) (by omega) hox (by rw [f8']; exact q1) (by rw [c10']; exact f8) (rl_load rfl rfl (ra_get hT.1 (by omega) (by omega) hox (by rw [f6']; exact e2) (by rw [c10']; exact f6) (rl_callv (as := [.ref ql]) (r := []) s105 rfl rfl xvp (by show 0 ≤ 8; omega) (ref2_ok m143) ?_))))
  exact X_below hT q2 hlp n6 ⟨mc, ed, e3, e4⟩ t6 hK hP (rl_ret1 ⟨rfl, rfl⟩)
end
end
