/-! ===== the law's run ===== -/
theorem law_h1 : jmp 18 (codeOf lawM) = (18, (1, 3, 0)) :: (jmp 18 (codeOf lawM)).drop 1 := by decide +kernel
theorem law_h2 : (jmp 18 (codeOf lawM)).drop 1 = (19, (1, 0, 2)) :: (20, (23, 0, 0)) :: (21, (0, 0, 7)) :: (23, (4, 1, 0)) :: (24, (5, 4, Int.ofNat exL)) :: (jmp 18 (codeOf lawM)).drop 6 := by decide +kernel
theorem scr_ct (p : Nat) : ct_at kSCR p = some (0, 0, 4294967295) := by
  unfold ct_at cdm
  rw [scr_cd]
  rfl
theorem lawV_kn : KN lawV := by
  unfold lawV
  exact ⟨rfl, rfl, rfl, rfl, True.intro⟩
theorem cn_all (M : Nat) (C : CN) (h : C ∈ cns M) : cn_ok C = true := by
  obtain ⟨l, hl, k, hk, hC⟩ := cns_mem h
  exact cn_tab l hl k hk C hC
section
variable {σ : Nat → Nat} {ad : AD} {h : AH} {L : LV} {i : Nat}
/-- the script and the count, out of the head's locals -/
theorem head_scr (hH : HeadOK σ ad h L i) : ∃ (q kb : Nat) (vs : List Value) (X : Int32), ad kSCR 0 = some q ∧ (lv_get 0 L = some (.ref q) ∧ (h.1 q = some (kb, vs) ∧ (30 ≤ kb ∧ (vs.length ≤ 3584 ∧ ((∀ (p : Nat) (v : Value), vs[p]? = some v → ∃ x, v = .int x) ∧ (lv_get 3 L = some (.int X) ∧ i2n X = 2147483648 + i)))))) := by
  obtain ⟨-, hT, hL, -, -⟩ := hH
  obtain ⟨V, v1, v2⟩ := hL 0 (7, kSCR, 2147483648) rfl
  obtain ⟨-, -, h3⟩ := sv_typ v2 rfl
  have es : sval (fun _ => 2147483648 + i) (y_idx ((7, kSCR, 2147483648) : SV)) = 2147483648 := rfl
  rw [es] at h3
  obtain ⟨V3, w1, w2⟩ := hL 3 (1, 0, 0) rfl
  obtain ⟨X, rfl, hX⟩ := sv_int w2 rfl
  rcases h3 with ⟨h3, -⟩ | ⟨-, q, h3, h4⟩
  · omega
  · rw [Nat.sub_self] at h3
    have h3 : ad kSCR 0 = some q := h3
    have lc := blet (and2 law_cls).1
    obtain ⟨-, kb, vs, y1, y2, y3, y4⟩ := hT.1 kSCR 0 q (by omega) h3
    subst h4
    refine ⟨q, kb, vs, X, h3, v1, y1, ?_, ?_, fun p v hv => ?_, w1, hX.2.2⟩
    · unfold KOK cdk at y2
      rw [scr_cd] at y2
      rcases y2 with e | ⟨-, e⟩
      · rw [e]
        show 30 ≤ 31
        omega
      · omega
    · refine y3.2.2 ?_
      unfold cdm
      rw [scr_cd]
      show 999999 < 1000000
      omega
    · obtain ⟨ty, t1, t2⟩ := y4 p v hv
      rw [scr_ct] at t1
      cases t1
      rcases t2 with ⟨-, x, e, -⟩ | ⟨e, -⟩ | ⟨e, -⟩ | ⟨e, -⟩ | ⟨e, -⟩ | ⟨e, -⟩ | ⟨e, -⟩ | ⟨e, -⟩ | e
      · exact ⟨x, e⟩
      all_goals cases e
theorem and_rng (x : Int32) : 2147483648 ≤ i2n (x &&& 63) ∧ i2n (x &&& 63) ≤ 2147483711 := by
  have h1 := i2n_z (x &&& 63)
  have h3 : (63 : Int32).toInt = 63 := by decide +kernel
  have h2 := and_ok (x := x) (y := 63) (by omega)
  omega
theorem top_case (x : Int32) : ∃ lo hi, lo ≤ i2n (x &&& 63) ∧ (i2n (x &&& 63) ≤ hi ∧ (okO (topL lo hi) = true ∨ ∃ k, k ∈ hoL ∧ (lo = 2147483648 + k ∧ hi = 2147483648 + k))) := by
  obtain ⟨r1, r2⟩ := and_rng x
  obtain ⟨k, hk⟩ : ∃ k, i2n (x &&& 63) = 2147483648 + k := ⟨i2n (x &&& 63) - 2147483648, by omega⟩
  by_cases h : k < 52
  · rcases op_tab k h with h1 | h1
    · exact ⟨_, _, Nat.le_of_eq hk.symm, Nat.le_of_eq hk, Or.inl h1⟩
    · exact ⟨_, _, Nat.le_of_eq hk.symm, Nat.le_of_eq hk, Or.inr ⟨k, h1, rfl, rfl⟩⟩
  · exact ⟨2147483700, 2147483711, by omega, r2, Or.inl op_rest⟩
/-- near the script's end -/
theorem head_end {q kb : Nat} {vs : List Value} {X : Int32} {Q : Option Value → AH → Prop} (h1 : lv_get 0 L = some (.ref q)) (h2 : h.1 q = some (kb, vs)) (h3 : 30 ≤ kb) (h4 : vs.length ≤ 3584) (h5 : lv_get 3 L = some (.int X)) (h6 : i2n X = 2147483648 + i) (hlt : vs.length < i + 7) (hQ : Q (some (.int 1)) h) : Rt σ lawM (jmp 18 (codeOf lawM)) L [] h Q := by
  rw [law_h1, law_h2]
  refine rl_load h5 rfl (rl_load h1 rfl (rl_len h2 (by omega) (by omega) (rl_const (rl_bin rfl (rl_icmpT ?_ ?_)))))
  · show some (decide (nI vs.length - Int32.ofInt 7 < X)) = some true
    congr 1
    refine decide_eq_true ((i_lt _ _).mpr ?_)
    have e1 := nI_ok (j := vs.length) (by omega)
    have e2 : i2n (Int32.ofInt 7) = 2147483655 := by decide +kernel
    rw [kb_sub, e1, e2, h6]
    omega
  · show Rt σ lawM (jump lawM exL) L [] h Q
    rw [jump_jmp, law_exit]
    exact rl_const (rl_ret4 (Or.inr rfl) hQ)
theorem room_up {a b c m n k : Nat} (h1 : a ≤ b + k * (m + 1)) (h2 : b ≤ c + k) (h3 : m + 1 ≤ n) : a ≤ c + k * (n + 1) := by
  have h4 := Nat.mul_le_mul_left k (show m + 1 ≤ n from h3)
  have h5 : k * (n + 1) = k * n + k := Nat.mul_succ k n
  omega
/-- to the jump of the law's switch -/
theorem head_go {q kb : Nat} {vs : List Value} {X x : Int32} {Q : Option Value → AH → Prop} {k t : Nat} (h1 : lv_get 0 L = some (.ref q)) (h2 : h.1 q = some (kb, vs)) (h3 : am_ld 0 kb = true) (h3' : 30 ≤ kb) (h4 : vs.length ≤ 3584) (h5 : lv_get 3 L = some (.int X)) (h6 : i2n X = 2147483648 + i) (hlt : ¬ vs.length < i + 7) (hx : vs[i]? = some (.int x)) (hk : i2n (x &&& 63) = 2147483648 + k) (hk2 : k < 52) (ht : swTs[k]? = some t) (hQ : Rt σ lawM (jump lawM t) L [] h Q) : Rt σ lawM (jmp 18 (codeOf lawM)) L [] h Q := by
  rw [law_h1, law_h2, law_h3]
  refine rl_load h5 rfl (rl_load h1 rfl (rl_len h2 (by omega) (by omega) (rl_const (rl_bin rfl (rl_icmpF ?_ ?_)))))
  · show some (decide (nI vs.length - Int32.ofInt 7 < X)) = some false
    congr 1
    refine decide_eq_false fun hc => ?_
    rw [i_lt] at hc
    have e1 := nI_ok (j := vs.length) (by omega)
    have e2 : i2n (Int32.ofInt 7) = 2147483655 := by decide +kernel
    rw [kb_sub, e1, e2, h6] at hc
    omega
  · have eX := r5nI h6 (by omega)
    have e := nI_nn (show i < 2147483648 by omega)
    refine rl_load h1 rfl (rl_load h5 rfl (rl_ald h2 h3 (by rw [eX]; exact e.1) (by rw [eX, e.2]; exact hx) (rl_const (rl_bin rfl ?_))))
    refine rl_sw (k := k) law_sw ?_ ?_ ht hQ
    · have h7 := i2n_z (x &&& 63)
      rw [hk] at h7
      show (x &&& 63).toInt = 0 + (k : Int)
      omega
    · show (0 : Int) + (k : Int) ≤ 51
      omega
theorem head_runs : ∀ (n : Nat) (ad : AD) (h : AH) (L : LV) (i : Nat), 3584 - i = n → HD σ ad h L i → Rt σ lawM (jmp 18 (codeOf lawM)) L [] h (fun v h' => v = some (.int 1) ∧ (h'.2.1 ≤ h.2.1 + 99 * (n + 1) ∧ h'.2.2 ≤ h.2.2 + 999 * (n + 1))) := by
  intro n
  induction n using Nat.strongRecOn with
  | _ n IH =>
    intro ad h L i hn hD
    obtain ⟨hH, h5, h2, hs5⟩ := hD
    have hD : HD σ ad h L i := ⟨hH, h5, h2, hs5⟩
    obtain ⟨q, kb, vs, X, s1, s2, s3, s4, s5, s6, s7, s8⟩ := head_scr hH
    by_cases hlt : vs.length < i + 7
    · exact head_end s2 s3 s4 s5 s7 s8 hlt ⟨rfl, Nat.le_add_right _ _, Nat.le_add_right _ _⟩
    · have hi : i < vs.length := by omega
      obtain ⟨x, hx⟩ := s6 i _ (List.getElem?_eq_getElem hi)
      have hxi : vs[i]? = some (.int x) := by rw [← hx]; exact List.getElem?_eq_getElem hi
      obtain ⟨lo, hi', c1, c2, c3⟩ := top_case x
      obtain ⟨nu, tR, t0, tH, tu, tq, tn, tp, tB, tS⟩ := topL_ok hH s1 s3 hxi c1 c2
      have hcn : ∀ M C, C ∈ cns M → C.1 < nC → CnOK σ C := fun M C h1 h2 => cn_all_ok cn_all nC (Nat.le_refl _) M C h1 h2
      have hB : ∀ a i, ¬ (((ad, h), no2) : BS).2 a i := fun _ _ e => e
      have hnext : ∀ (ad' : AD) (h' : AH) (L' : LV) (i' : Nat), i + 1 ≤ i' → HD σ ad' h' L' i' → h'.2.1 ≤ h.2.1 + 99 → h'.2.2 ≤ h.2.2 + 999 → Rt σ lawM (jump lawM 18) L' [] h' (fun v h' => v = some (.int 1) ∧ (h'.2.1 ≤ h.2.1 + 99 * (n + 1) ∧ h'.2.2 ≤ h.2.2 + 999 * (n + 1))) := by
        intro ad' h' L' i' b1 b2 b3 b4
        rw [jump_jmp]
        refine rt_mono (IH (3584 - i') (by omega) ad' h' L' i' rfl b2) fun v h2 ⟨e1, e2, e3⟩ => ⟨e1, ?_, ?_⟩
        · exact room_up e2 b3 (by omega)
        · exact room_up e3 b4 (by omega)
      rcases c3 with c3 | ⟨k, hk10, rfl, rfl⟩
      · generalize topL lo hi' = W at *
        unfold okO at c3
        split at c3
        · cases c3
        · rename_i es hes
          rw [law_h1]
          refine rl_load s7 rfl ?_
          have hLV : LVM (nu, fun _ => 0, ad) (g_h W).length (g_n W) lawV L := lvm_up (I' := (nu, fun _ => 0, ad)) hH.2.2.1 (Nat.zero_le _) tn (fun j hj => by
            have : j = 0 := by omega
            rw [this]
            exact t0) (fun j hj => absurd hj (Nat.not_lt_zero _)) (fun _ _ _ _ e => e)
          have hsuf : ∃ a, codeOf lawM = a ++ (jmp 18 (codeOf lawM)).drop 1 := by
            obtain ⟨a, ha⟩ := jmp_suffix 18 (codeOf lawM)
            refine ⟨a ++ (jmp 18 (codeOf lawM)).take 1, ?_⟩
            rw [List.append_assoc, List.take_append_drop]
            exact ha
          refine yrun_ok hB hH.1 (hc_ok hcn hB hH.1 (fun _ => hd_hp hD hcn)) 100000 lawM (lps lawM) _ lawV [(1, 0, 0)] W [lawT W] es hsuf hes (nu, fun _ => 0, ad) L [.int X] h _ tR lawV_kn hLV ⟨sv_of_int ⟨rfl, fun _ => tn, s8.trans t0.symm⟩, True.intro⟩ ?_ ?_
          · intro T hT
            rw [List.mem_singleton.mp hT]
            refine ⟨(nu, fun _ => 0, ad), gr_refl _ _, ?_⟩
            intro I' lv' G' L' h' g1 g2 g3 g4 g5
            have g6 : y_back2 (lawT W) lv' G' = true ∧ (k_dis rbK (g_k (y_close G')) || kb_new W (y_close G')) = true := and2 g5
            obtain ⟨i', b1, b2, b3, b4⟩ := back_head hH t0 tn tp tB tS g1 g2 g4 g6.1
            have g2c := y_close_ok g2
            have g1c := gr_trans g1 (gr_close (I := I') (G := G'))
            have hSc := g2c.2.2.2.2.2.2
            show Rt σ lawM (jump lawM 18) L' [] h' _
            refine hnext I'.2.2 h' L' i' b1 ?_ b3 b4
            rcases Bool.or_eq_true_iff.mp g6.2 with d | d
            · exact hd_rb hD b2 g2c d
            · obtain ⟨⟨d1, d2⟩, d3⟩ := kb_r2 hH tR g1c g2c h2 b2 d
              exact ⟨b2, r5_sc (B := ((ad, h), no2)) h5 d1 hSc, fun _ => d3, st_sc (B := ((ad, h), no2)) hs5 d2 hSc⟩
          · intro p hp I' v h' g1 g2 g3
            obtain ⟨d1, d2⟩ := and2 (List.all_eq_true.mp c3 p hp)
            obtain ⟨d2, d3⟩ := and2 d2
            have d2 := blet d2
            have d3 := blet d3
            have m1 : h'.2.1 ≤ h.2.1 + g_q p.2 := g2.2.2.2.2.2.2.2.2.2.2.1
            have m2 : h'.2.2 ≤ h.2.2 + g_u p.2 := g2.2.2.2.2.2.2.2.2.2.2.2.1
            refine ⟨?_, by omega, by omega⟩
            split at d1
            · rename_i s hs
              rw [hs, veq_ok d1] at g3
              cases v with
              | none => exact g3.elim
              | some v =>
                obtain ⟨y, rfl, hy⟩ := sv_int g3 rfl
                have e : i2n y = i2n 1 := hy.2.2.trans (by show 2147483649 = i2n 1; decide +kernel)
                rw [i2n_inj e]
            · cases d1
      · have ek : i2n (x &&& 63) = 2147483648 + k := by omega
        obtain ⟨x1, hx1⟩ := s6 (i + 1) _ (List.getElem?_eq_getElem (show i + 1 < vs.length by omega))
        obtain ⟨x2, hx2⟩ := s6 (i + 2) _ (List.getElem?_eq_getElem (show i + 2 < vs.length by omega))
        obtain ⟨x3, hx3⟩ := s6 (i + 3) _ (List.getElem?_eq_getElem (show i + 3 < vs.length by omega))
        have hx1' : vs[i + 1]? = some (.int x1) := by rw [← hx1]; exact List.getElem?_eq_getElem _
        have hx2' : vs[i + 2]? = some (.int x2) := by rw [← hx2]; exact List.getElem?_eq_getElem _
        have hx3' : vs[i + 3]? = some (.int x3) := by rw [← hx3]; exact List.getElem?_eq_getElem _
        rcases ho_cases hk10 with rfl | rfl | rfl | hX
        · exact head_go s2 s3 (scr_kind hH s1 s3) s4 s5 s7 s8 hlt hxi ek (by omega) law_t9 (call_9 use_r2 hD hcn tR t0 tn tp tB tS tH s1 s2 s3 s5 (by omega) s7 s8 hx1' hx2' hx3' hnext opT_9 law_t9)
        · exact head_go s2 s3 (scr_kind hH s1 s3) s4 s5 s7 s8 hlt hxi ek (by omega) law_t10 (call_10 hD hcn tR t0 tn tp tB tS tH s1 s2 s3 s5 (by omega) s7 s8 hx1' hx2' hnext opT_10 law_t10)
        · exact head_go s2 s3 (scr_kind hH s1 s3) s4 s5 s7 s8 hlt hxi ek (by omega) law_t11 (call_11 hD hcn tR t0 tn tp tB tS tH s1 s2 s3 s5 (by omega) s7 s8 hx1' hx2' hnext opT_11 law_t11)
        · obtain ⟨t, ⟨hk2, ht⟩, hr⟩ := call_H hX hD hcn tR t0 tn tp tB tS tH s1 s2 s3 (scr_kind hH s1 s3) s5 (by omega) s7 s8 s6 hnext
          exact head_go s2 s3 (scr_kind hH s1 s3) s4 s5 s7 s8 hlt hxi ek hk2 ht hr
end
