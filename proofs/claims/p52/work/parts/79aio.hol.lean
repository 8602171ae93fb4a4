section
/-! ===== holiday, from the law's head to the next ===== -/
section
variable {σ nu : Nat → Nat} {ad : AD} {h : AH} {L : LV} {i mX mM sX sM na ox om qs : Nat} {W W2 : SG} {I2 : IN} {as : List SV} {As : List Value} {P R : AH → Prop} {kk : List Nat} {Q : Option Value → AH → Prop} {c1 c2 rest : List (Nat × AI)} {xs : List (Nat × Int32)} {p0 p1 p2 p3 p4 p5 p6 : Nat}
theorem two_calls1 (hH : HeadOK σ ad h L i) (hHP : HP σ ((ad, h), no2)) (hcn : ∀ M C, C ∈ cns M → C.1 < nC → CnOK σ C)
    (n0 : nu 0 = 2147483648 + i) (w1 : 1 ≤ g_n W) (wp : g_p W = npL) (wB : (kBL, sk 2147483648, (8, 0, 0), sk 2147483652) ∈ g_c W) (wS : (kSH, sk 2147483648, (8, 0, 0), sk 2147483652) ∈ g_c W) (wh : g_h W = [])
    (hR2 : RM ((ad, h), no2) I2 W2 h) (hg2 : Gr (nu, fun _ => 0, ad) W I2 W2) (hAs : LM I2 (g_h W2).length (g_n W2) as As) (hck : okT2 kk mX mM as W W2 = true)
    (hsX : spec sX = (1, na, [(10, mX)])) (hsM : spec sM = (1, na, [(11, mM)])) (hna : As.length = na) (hokX : ∀ q, am_ok (.ref q :: As) mX = true) (hokM : ∀ q, am_ok (.ref q :: As) mM = true)
    (hX1 : lv_get 1 L = some (.ref ox)) (hX2 : ad kX 0 = some ox) (hM1 : lv_get 2 L = some (.ref om)) (hM2 : ad kM 0 = some om) (hsc : ad kSCR 0 = some qs) (hxs : ScrE h qs i xs) (hxn : xs ≠ [])
    (A1 : ∀ {h' : AH} {S : List Value} {Q' : Option Value → AH → Prop}, ScrE h' qs i xs → Rt σ lawM ((p1, (12, sX, 0)) :: (p2, (18, 1, 0)) :: (p3, (1, 2, 2)) :: (c2 ++ ((p4, (12, sM, 0)) :: (p5, (18, 1, 0)) :: (p6, (7, 0, Int.ofNat enL)) :: rest))) L (As.reverse ++ S) h' Q' → Rt σ lawM (c1 ++ ((p1, (12, sX, 0)) :: (p2, (18, 1, 0)) :: (p3, (1, 2, 2)) :: (c2 ++ ((p4, (12, sM, 0)) :: (p5, (18, 1, 0)) :: (p6, (7, 0, Int.ofNat enL)) :: rest)))) L S h' Q')
    (A2 : ∀ {h' : AH} {S : List Value} {Q' : Option Value → AH → Prop}, ScrE h' qs i xs → Rt σ lawM ((p4, (12, sM, 0)) :: (p5, (18, 1, 0)) :: (p6, (7, 0, Int.ofNat enL)) :: rest) L (As.reverse ++ S) h' Q' → Rt σ lawM (c2 ++ ((p4, (12, sM, 0)) :: (p5, (18, 1, 0)) :: (p6, (7, 0, Int.ofNat enL)) :: rest)) L S h' Q')
    (HX : Rt σ mX (codeOf mX) (am_args 0 (.ref ox :: As)) [] h (IntP P))
    (HM : ∀ (ad1 : AD) (h1 : AH) (np : Nat) (ex ho : Nat → Nat → Prop), TS ad1 h1 np ex ho → (∀ c i q, c < 1000 → ad c i = some q → ad1 c i = some q) → P h1 → Rt σ mM (codeOf mM) (am_args 0 (.ref om :: As)) [] h1 (IntP R))
    (hk : ∀ (I4 : IN) (G' : SG) (h' : AH) (L' : LV) (i' : Nat), i + 1 ≤ i' → HeadOK σ I4.2.2 h' L' i' → RM ((ad, h), no2) I4 G' h' → k_dis kk (g_k G') = true → R h' → h'.2.1 ≤ h.2.1 + 99 → h'.2.2 ≤ h.2.2 + 999 → Rt σ lawM (jump lawM 18) L' [] h' Q) :
    Rt σ lawM ((p0, (1, 1, 2)) :: (c1 ++ ((p1, (12, sX, 0)) :: (p2, (18, 1, 0)) :: (p3, (1, 2, 2)) :: (c2 ++ ((p4, (12, sM, 0)) :: (p5, (18, 1, 0)) :: (p6, (7, 0, Int.ofNat enL)) :: rest))))) L [] h Q := by
  have hB : ∀ a i, ¬ (((ad, h), no2) : BS).2 a i := fun _ _ e => e
  have hσ := hH.1
  have hL := hH.2.2.1
  obtain ⟨kx, km⟩ := kxm
  have hX2' : ad 10 0 = some ox := by rw [← kx]; exact hX2
  have hM2' : ad 11 0 = some om := by rw [← km]; exact hM2
  obtain ⟨vx, -, -, -, ⟨fx, -, -⟩, -⟩ := x_form hH.2.1 hX2'
  unfold okT2 at hck
  split at hck
  case h_2 => cases hck
  rename_i es hes
  have refv : ∀ {I : IN} {n m c q : Nat}, c < 1000 → I.2.2 c 0 = some q → SVm I n m (7, c, 2147483648) (.ref q) := fun {I n m c q} hc hq => Or.inr (Or.inr (Or.inr (Or.inr ⟨rfl, (fun e => by cases e), hc, Or.inr ⟨Nat.le_refl _, q, (by show I.2.2 c (2147483648 - 2147483648) = some q; rw [Nat.sub_self]; exact hq), rfl⟩⟩)))
  have e1 := eng_call hHP hcn hB hσ hR2 (as := (7, kX, 2147483648) :: as) (As := .ref ox :: As) ⟨refv (c := kX) (by rw [kx]; omega) (hg2.2.2.2.2 kX 0 ox (by rw [kx]; omega) hX2), hAs⟩ hes
  refine rl_load hX1 rfl (A1 hxs (rl_callv (as := As) (r := []) hsX rfl hna fx (by show 0 ≤ 8; omega) (hokX ox) (rt_mono (rt_and e1 HX) fun v h1 ⟨⟨q, hq, I1, g1, r1⟩, ⟨y, ey⟩, hP⟩ => ?_)))
  subst ey
  obtain ⟨ck1, hck⟩ := and2 (List.all_eq_true.mp hck q hq)
  split at hck
  case h_2 => cases hck
  rename_i es2 hes2
  have up1 : ∀ c i q, c < 1000 → ad c i = some q → I1.2.2 c i = some q := r1.2.2.2.2.2.2.2.2.1
  have hxs1 := scr_stay hsc hxs r1 ck1 hxn
  obtain ⟨m', ot, oy, vm, ty, yy, hmt⟩ := mt_form r1.2.2.2.1
  have em : m' = om := Option.some.inj (hmt.1.1.1.symm.trans (up1 _ _ _ (by omega) hM2'))
  subst em
  have e2 := eng_call hHP hcn hB hσ r1 (as := (7, kM, 2147483648) :: as) (As := .ref m' :: As) ⟨refv (c := kM) (by rw [km]; omega) (up1 kM 0 m' (by rw [km]; omega) hM2), lm_gr g1 hAs⟩ hes2
  refine rl_pop rfl (rl_load hM1 rfl (A2 hxs1 (rl_callv (as := As) (r := []) hsM rfl hna hmt.1.2.1 (by show 0 ≤ 8; omega) (hokM m') (rt_mono (rt_and e2 (HM I1.2.2 h1 _ _ _ r1.2.2.2.1 up1 hP)) fun v h2 ⟨⟨q2, hq2, I3, g3, r3⟩, ⟨y2, ey2⟩, hR5⟩ => ?_))))
  subst ey2
  have hck2 := List.all_eq_true.mp hck q2 hq2
  split at hck2
  case h_2 => cases hck2
  rename_i lv' G' hy
  obtain ⟨ck3, ck4⟩ := and2 hck2
  have gW : Gr (nu, fun _ => 0, ad) W I3 q2.2 := gr_trans (gr_trans hg2 g1) g3
  have hLW : LVM (nu, fun _ => 0, ad) (g_h W).length (g_n W) lawV L := lvm_up (I' := (nu, fun _ => 0, ad)) hL (Nat.zero_le _) w1 (fun j hj => by
    have : j = 0 := by omega
    rw [this]
    exact n0) (fun j hj => absurd hj (Nat.not_lt_zero _)) (fun _ _ _ _ e => e)
  obtain ⟨o, ho, I4, x, s1, s2⟩ := Y_iinc_ok r3 lawV_kn2 (lvm_gr gW hLW) (S := []) (st := []) True.intro (c := 7) (a := 3) (by omega) (by omega) hy
  rw [List.mem_singleton.mp ho] at s2
  refine rl_pop rfl (rl_goto ?_)
  show Rt σ lawM (jump lawM enL) L [] h2 Q
  rw [law_fin]
  obtain ⟨X, l3⟩ : ∃ X, lv_get 3 L = some (.int X) := by
    obtain ⟨V3, w1', w2'⟩ := hL 3 (1, 0, 0) rfl
    obtain ⟨X, rfl, -⟩ := sv_int w2' rfl
    exact ⟨X, w1'⟩
  refine rl_iinc l3 (rl_goto ?_)
  show Rt σ lawM (jump lawM 18) _ [] h2 Q
  have es : s_iinc 3 7 L [] h2 = nx (lv_put 3 (.int (X + Int32.ofInt 7)) L) [] h2 := by
    unfold s_iinc
    rw [l3]
  rw [es] at s1
  have ex : x = .inl (none, lv_put 3 (.int (X + Int32.ofInt 7)) L, [], h2) := (Option.some.inj s1).symm
  subst ex
  obtain ⟨-, g4, r4, k4, l4, -⟩ := s2
  obtain ⟨i', b1, b2, b3, b4⟩ := back_head hH n0 w1 wp wB wS (gr_trans gW g4) r4 l4 ck3
  exact hk I4 G' h2 _ i' b1 b2 r4 ck4 hR5 b3 b4
end
/-- what holiday leaves alone -/
noncomputable def kkV : List Nat := (((r5K ++ stK) ++ r2K) ++ (wnK ++ wlK))
theorem hp_rng {b : Bool} : 2147483648 ≤ i2n (hpI b) ∧ i2n (hpI b) ≤ 2147483649 := by
  cases b
  · decide +kernel
  · decide +kernel
section
variable {σ : Nat → Nat} {ad : AD} {h : AH} {L : LV} {i : Nat}
theorem hd_hol {I4 : IN} {G' : SG} {h' : AH} {L' : LV} {i' : Nat} (hD : HD σ ad h L i) (hH' : HeadOK σ I4.2.2 h' L' i') (hR : RM ((ad, h), no2) I4 G' h') (hk : k_dis kkV (g_k G') = true) (hX : XR ad h') : HD σ I4.2.2 h' L' i' := by
  obtain ⟨d, d4⟩ := k_dis_app hk
  obtain ⟨d, d3⟩ := k_dis_app d
  obtain ⟨d1, d2⟩ := k_dis_app d
  have hSc := hR.2.2.2.2.2.2
  exact ⟨hH', r5_sc (B := ((ad, h), no2)) hD.2.1 d1 hSc, fun hu => r2_sc (B := ((ad, h), no2)) (hD.2.2.1 hu) (head_kn hu hD.1) (head_kn hu hH') d3 hSc, st_sc (B := ((ad, h), no2)) hD.2.2.2.1 d2 hSc, rw_sc hD.1 hD.2.2.2.2.1 hR hH' d4, xr_up hSc.2.2.1 hX⟩
end
end
