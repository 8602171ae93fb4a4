/-! ===== lists: the row grows ===== -/
noncomputable def gw_p (c : Nat) : Int32 := nI c + (if (nI c + 1 - nI c : Int32) < nI c >>> ((1 : Int32) &&& 31) then nI c >>> ((1 : Int32) &&& 31) else nI c + 1 - nI c)
theorem ck_gw : (List.range 61).all (fun c => Nat.ble (2147483648 + c + 1) (i2n (gw_p c)) && Nat.ble (i2n (gw_p c)) 2147483776) = true := by decide +kernel
theorem gw_ok {c : Nat} (h : c ≤ 60) : 2147483648 + c < i2n (gw_p c) ∧ i2n (gw_p c) ≤ 2147483776 := by
  obtain ⟨h1, h2⟩ := and2 (List.all_eq_true.mp ck_gw c (List.mem_range.mpr (by omega)))
  exact ⟨blet h1, blet h2⟩
theorem c_max : i2n (Int32.ofInt 2147483639) = 4294967287 := by decide +kernel
section
variable {σ : Nat → Nat} {h h' : AH} {Q : Option Value → AH → Prop} {q bq : Nat} {mc sz : Int32} {ed : Value}
theorem nI_nn {c : Nat} (h : c < 2147483648) : ¬ (nI c < 0) ∧ (nI c).toNatClampNeg = c := by
  have h1 := nI_ok h
  obtain ⟨a, b⟩ := j_of (j := nI c) (by omega)
  exact ⟨a, by omega⟩
/-- Arrays.copyOf -/
theorem L_copy {us : List Value} {n : Int32} {m : Nat} (hb : h.1 bq = some (24, us)) (hlt : bq < h.2.1) (hel : ∀ v, v ∈ us → v = .null ∨ ∃ a k fs, v = .ref a ∧ (a < h.2.1 ∧ (h.1 a = some (k, fs) ∧ k < 13))) (hn : i2n n = 2147483648 + m) (hm : us.length ≤ m) (hm2 : m ≤ 1000)
    (hQ : ∀ h', (∀ a, a < h.2.1 → h'.1 a = h.1 a) → h'.1 h.2.1 = some (24, us ++ List.replicate (m - us.length) .null) → h'.2.1 = h.2.1 + 1 → h'.2.2 = h.2.2 + m → Q (some (.ref h.2.1)) h') : Rt σ 280 (codeOf 280) (am_args 0 [.ref bq, .int n]) [] h Q := by
  have e : codeOf 280 = [(0, 1, 0, 2), (1, 1, 1, 0), (2, 1, 0, 2), (3, 33, 0, 0), (6, 12, 193, 0), (9, 13, 3, 0)] := rfl
  have e2 : codeOf 281 = [(0, 1, 2, 2), (1, 34, 0, 0), (3, 21, 1, 13), (6, 1, 1, 0), (7, 25, 24, 0), (10, 7, 0, 24), (13, 1, 2, 2), (14, 99, 0, 0), (17, 1, 1, 0), (18, 99, 0, 0), (21, 99, 0, 0), (24, 2, 3, 2), (25, 1, 0, 2), (26, 0, 0, 0), (27, 1, 3, 2), (28, 0, 0, 0), (29, 1, 0, 2), (30, 23, 0, 0), (31, 1, 1, 0), (32, 32, 1, 0), (35, 35, 0, 0), (38, 1, 3, 2), (39, 13, 3, 0)] := rfl
  obtain ⟨n1, n2⟩ := j_of (j := n) (by omega)
  have n3 : n.toNatClampNeg = m := by omega
  rw [e]
  refine rl_load rfl rfl (rl_load rfl rfl (rl_load rfl rfl (rl_gcl hb (Nat.le_of_ble_eq_true rfl) (rl_calls (k := 0) (M' := 281) (n := 3) (as := [.ref bq, .int n, .ref (σ 6)]) (r := []) (by decide +kernel) rfl rfl (Nat.le_of_ble_eq_true rfl) (by rfl) ?_))))
  rw [e2]
  refine rl_load rfl rfl (rl_ldk (rl_acmpF1 rfl (rl_load rfl rfl (rl_anew (N := m) n1 n3 (by omega) (rl_goto ?_)))))
  have e3 : jump 281 (24 : Int).toNat = [(24, 2, 3, 2), (25, 1, 0, 2), (26, 0, 0, 0), (27, 1, 3, 2), (28, 0, 0, 0), (29, 1, 0, 2), (30, 23, 0, 0), (31, 1, 1, 0), (32, 32, 1, 0), (35, 35, 0, 0), (38, 1, 3, 2), (39, 13, 3, 0)] := by rw [jump_jmp, e2]; rfl
  rw [e3]
  have hb2 : (am_push h (24, List.replicate m (am_def 24)) m).1 bq = some (24, us) := (if_neg (by omega)).trans hb
  have hn2 : (am_push h (24, List.replicate m (am_def 24)) m).1 h.2.1 = some (24, List.replicate m (am_def 24)) := if_pos rfl
  have hmin : i2n (if n < nI us.length then n else nI us.length) = 2147483648 + us.length := by
    rw [i_min, nI_ok (by omega)]
    omega
  obtain ⟨m1, m2⟩ := j_of (j := if n < nI us.length then n else nI us.length) (by omega)
  have hz : ¬ (Int32.ofInt 0 < 0) ∧ (Int32.ofInt 0).toNatClampNeg = 0 := ⟨by decide +kernel, by decide +kernel⟩
  refine rl_store rfl (rl_load rfl rfl (rl_const (rl_load rfl rfl (rl_const (rl_load rfl rfl (rl_len hb2 (by omega) (by omega) (rl_load rfl rfl (rl_min (Nat.le_of_ble_eq_true rfl) (rl_acr (ni := 0) (nj := 0) (nn := us.length) hb2 hn2 ?_ hz.1 hz.1 m1 hz.2 hz.2 (by omega) (by omega) (by rw [List.length_replicate]; omega) (Nat.le_of_ble_eq_true rfl) (rl_load rfl rfl (rl_ret3 ?_)))))))))))
  · refine List.all_eq_true.mpr fun v hv => ?_
    rcases hel v hv with rfl | ⟨a, k, fs, rfl, h1, h2, h3⟩
    · rfl
    · unfold am_el
      dsimp only
      unfold am_get
      rw [show (am_push h (24, List.replicate m (am_def 24)) m).1 a = h.1 a from if_neg (show ¬ a = h.2.1 from Nat.ne_of_lt h1), h2]
      exact decide_eq_true h3
  · refine rl_ret3 (hQ _ (fun a ha => ?_) ?_ rfl rfl)
    · exact (am_ne (by omega)).trans (if_neg (by omega))
    · refine (am_at _ _ _).trans ?_
      congr 2
      unfold am_cpy
      rw [List.drop_zero, List.take_length, Nat.zero_add]
      show us ++ List.drop us.length (List.replicate m Value.null) = _
      rw [List.drop_replicate]
end
