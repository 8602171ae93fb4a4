/-! ===== the law's start, run ===== -/
theorem law_pre : codeOf lawM = (0, (26, 10, 0)) :: (3, (18, 0, 0)) :: (4, (12, spX, 0)) :: (7, (2, 1, 2)) :: (8, (26, 11, 0)) :: (11, (18, 0, 0)) :: (12, (12, spM, 0)) :: (15, (2, 2, 2)) :: (16, (0, 0, 0)) :: (17, (2, 3, 0)) :: jmp 18 (codeOf lawM) := by decide +kernel
theorem spec_X : spec spX = (1, 0, [(10, inX)]) := by decide +kernel
theorem spec_M : spec spM = (1, 0, [(11, inM)]) := by decide +kernel
theorem law_m : mLaw = lawM := by decide +kernel
theorem in_ml : (Nat.ble 1 (mL inX) && Nat.ble 1 (mL inM)) = true := by decide +kernel
section
variable {σ : Nat → Nat} {base b : Nat} {xs : List Int32} {h0 h : AH} {A nu : Nat → Nat} {hb : (Nat → Option AO) × Nat} {G G' : qe_SG} {k M q : Nat} {Q : Option Value → AH → Prop} {L : LV}
theorem start_lt (hS : Start base b σ xs h0) : (∀ i, i < 6 → σ i < base) ∧ b < base := by
  obtain ⟨s1, s2, s3, ⟨kb, -, s4⟩, s5⟩ := hS
  refine ⟨fun i hi => ?_, ?_⟩
  · by_cases e : base ≤ σ i
    · have := s3 _ e
      rw [s5 i hi] at this
      cases this
    · omega
  · by_cases e : base ≤ b
    · have := s3 _ e
      rw [s4] at this
      cases this
    · omega
theorem start_aok (hσ : ∀ i, i < 6 → σ i < base) : qe_AOK (qe_al σ (σ 0) base) σ base := by
  refine ⟨fun k hk => al_lt hσ (hσ 0 (by omega)) hk, fun k hk => al_7 hk, fun i hi => ?_⟩
  unfold qe_al
  cases h7 : Nat.ble 7 i
  · rw [cond_false]
    cases h6 : Nat.beq i 6
    · rfl
    · have := beqt h6; omega
  · have := blet h7; omega
theorem start_rm (hS : Start base b σ xs h0) : qe_RM (qe_al σ (σ 0) base) (fun _ => 0) base (h0.1, 0) qe_GW h0 := by
  obtain ⟨hσ, -⟩ := start_lt hS
  have hA := start_aok hσ
  obtain ⟨s1, s2, s3, -, s5⟩ := hS
  have hT : ∀ i, i < 6 → h0.1 (qe_al σ (σ 0) base i) = some (tabK i, iv (Tab i)) := fun i hi => by
    rw [hA.2.2 i hi]; exact s5 i hi
  refine ⟨⟨fun i => ⟨Nat.le_refl 0, Nat.zero_le _⟩, fun d hd => by cases hd⟩, qe_hm_start hT ⟨30, iv (Tab 0), s5 0 (by omega), .inl rfl, qe_tab_m (by omega), Nat.le_refl 30⟩, Nat.le_refl 7, ?_, ?_, fun q _ => rfl⟩
  · rw [s1]; rfl
  · rw [s2]; rfl
theorem rl_new {c : Int} {a pc : Nat} {tl : List (Nat × AI)} {S : List Value} (hk : Rt σ M tl L (.ref h.2.1 :: S) (am_push h (a, am_new a) (kNn a)) Q) : Rt σ M ((pc, (26, a, c)) :: tl) L S h Q := rt_nx rfl hk
theorem push_at {o : AO} {n : Nat} : (am_push h o n).1 h.2.1 = some o := if_pos rfl
theorem e_push (hA : qe_AOK A σ base) (hR : qe_RM A nu base hb G h) : qe_RM A nu base hb (qe_s_mk G (k, .inr (qe_s_obj k)) (kNn k)) (am_push h (k, am_new k) (kNn k)) ∧ qe_LM A nu (qe_g_h (qe_s_mk G (k, .inr (qe_s_obj k)) (kNn k))).length (qe_g_n (qe_s_mk G (k, .inr (qe_s_obj k)) (kNn k))) [qe_sref (qe_g_h G).length] [.ref h.2.1] := by
  have h1 : qe_PN A nu base hb G [] [qe_sref (qe_g_h G).length] (qe_s_mk G (k, .inr (qe_s_obj k)) (kNn k)) nu [] [.ref h.2.1] (am_push h (k, am_new k) (kNn k)) := by
    refine qe_pn_push hA hR True.intro True.intro ?_
    refine qe_lm_map (fun f => ?_) _
    by_cases e : dcode f.2.2.1 = 3
    · rw [if_pos e, if_pos e]; exact (rfl : (4 : Nat) = 4)
    · rw [if_neg e, if_neg e]; exact qe_sk_ok qe_c_0
  exact ⟨h1.2.1, h1.2.2.2⟩
theorem e_init (hA : qe_AOK A σ base) (hW : qe_Ways σ base 1000000 hb A) (hR : qe_RM A nu base hb G h) (hs : qe_srun 8 1000000 M (codeOf M) [(0, qe_sref (qe_g_h G).length)] [] (qe_s_mk G (k, .inr (qe_s_obj k)) (kNn k)) = some [(none, G')]) :
    ∃ nu' h', qe_RM A nu' base hb G' h' ∧ ∀ Q : Option Value → AH → Prop, Q none h' → Rt σ M (codeOf M) (am_args 0 [.ref h.2.1]) [] (am_push h (k, am_new k) (kNn k)) Q := by
  obtain ⟨p1, p2⟩ := e_push (k := k) hA hR
  obtain ⟨q, q1, nu', v, h', r1, r2, r3, -⟩ := qe_srun_ok (K := 1000000) hA (.inr ⟨rfl, hW⟩) 1000000 M (codeOf M) _ [] _ _ nu (am_args 0 [.ref h.2.1]) [] _ qe_code_ai p1 (qe_lvm_args 0 p2) True.intro hs
  have e := List.mem_singleton.mp q1
  subst e
  cases v with
  | some v => exact r2.elim
  | none => exact ⟨nu', h', r3, fun Q hQ => ⟨_, none, h', r1, hQ⟩⟩
theorem ref_ok (hm : 1 ≤ mL M) : am_ok [.ref q] M = true := by
  unfold am_ok
  rw [decide_eq_true (show ([.ref q] : List Value).length ≤ mL M from hm)]
  rfl
theorem one_w (q : Nat) : am_w [.ref q] ≤ 8 := by
  show 1 ≤ 8
  omega
theorem pre_ok (hS : Start base b σ xs h0) : ∃ G2 nu h', ckS tbS G2 = true ∧ (qe_RM (qe_al σ (σ 0) base) nu base (h0.1, 0) G2 h' ∧ ∀ Q : Option Value → AH → Prop, Rt σ lawM (jmp 18 (codeOf lawM)) (lv_put 3 (.int (Int32.ofInt 0)) (lv_put 2 (.ref (qe_al σ b base oM)) (lv_put 1 (.ref (qe_al σ b base oX)) (am_args 0 [.ref b])))) [] h' Q → Rt σ lawM (codeOf lawM) (am_args 0 [.ref b]) [] h0 Q) := by
  obtain ⟨hσ, hb'⟩ := start_lt hS
  have hA := start_aok hσ
  have hR := start_rm hS
  have hW : qe_Ways σ base 1000000 (h0.1, 0) (qe_al σ (σ 0) base) := qe_ways_ok fun i hi => ⟨hσ i hi, hS.2.2.2.2 i hi⟩
  have hp := ok_pre
  unfold okPre at hp
  split at hp
  · rename_i G1 h1
    split at hp
    · rename_i G2 h2
      obtain ⟨g1, g2⟩ := and2 hp
      have g1 := beqt g1
      have o7 : oX = 7 := beqt (and2 (and2 tb_T).2).2
      obtain ⟨m1, m2⟩ := and2 in_ml
      rw [o7] at h1
      obtain ⟨nu1, k1, R1, r1⟩ := e_init (k := 10) hA hW hR h1
      rw [← g1] at h2
      obtain ⟨nu2, k2, R2, r2⟩ := e_init (k := 11) hA hW R1 h2
      refine ⟨G2, nu2, k2, g2, R2, fun Q hQ => ?_⟩
      have eX : qe_al σ b base oX = h0.2.1 := by rw [o7, hS.1]; rfl
      have eM : qe_al σ b base oM = k1.2.1 := by
        have h7 : 7 ≤ (qe_g_h G1).length := R1.2.2.1
        rw [← g1, al_7 h7]
        exact R1.2.2.2.1.symm
      rw [eX, eM] at hQ
      rw [law_pre]
      refine rl_new (rl_dup rfl (rl_callv (as := []) (r := [.ref h0.2.1]) spec_X rfl rfl push_at (one_w _) (ref_ok (blet m1)) (r1 _ ?_)))
      refine rl_store rfl (rl_new (rl_dup rfl (rl_callv (as := []) (r := [.ref k1.2.1]) spec_M rfl rfl push_at (one_w _) (ref_ok (blet m2)) (r2 _ ?_))))
      exact rl_store rfl (rl_const (rl_store rfl hQ))
    · cases hp
  · cases hp
end
