section
/-! ===== two calls at the law's level, taken by hand ===== -/
noncomputable def ycall (M : Nat) (as : List SV) (G : SG) : Option (List (Option SV × SG)) := match y_con nC M as G with
  | some r => r
  | none => yrun nC 100000 M (lps M) (codeOf M) (s_args 0 as) [] G []
/-- what is kept from head to head -/
noncomputable def HD (σ : Nat → Nat) (ad : AD) (h : AH) (L : LV) (i : Nat) : Prop := HeadOK σ ad h L i ∧ (R5 ad h ∧ ((useR2 = true → R2 ad h) ∧ St5 ad h))
theorem np_eq : npH = npL := by decide +kernel
theorem st_codes : (1 ≤ cdm kSCR ∧ kSCR < 1000) ∧ (stK.contains (kSCR * 128) = true ∧ ∀ i, i < 5 → (1 ≤ cdm (stc i) ∧ stc i < 1000) ∧ stK.contains (stc i * 128) = true) := by decide +kernel
section
variable {B : BS} {I I' : IN} {G G' : SG} {σ : Nat → Nat} {ad : AD} {h h' : AH} {L : LV} {S vs fs : List Value} {i j k t a d q M pc p0 p1 p2 p3 p4 p5 : Nat} {x X : Int32} {c lo hi : Int} {ts : List Nat} {tl : List (Nat × AI)} {Q : Option Value → AH → Prop} {K : List Nat} {u : Nat}
theorem st_sc (hs : St5 B.1.1 B.1.2) (hk : k_dis stK K = true) (hS : Sc B.1 I K u q h) : St5 I.2.2 h := fun i hi p hp => by
  obtain ⟨⟨c1, c2⟩, c3⟩ := st_codes.2.2 i hi
  refine at_sc (hs i hi p hp) c2 ?_ hS
  rw [kcode_r c1]
  exact kdis_ok hk _ (List.contains_iff_mem.mp c3)
theorem scr_sc {p : Nat} {v : Value} (ha : At B.1.1 B.1.2 kSCR 0 p v) (hk : k_dis stK K = true) (hS : Sc B.1 I K u q h) : At I.2.2 h kSCR 0 p v := by
  obtain ⟨⟨c1, c2⟩, c3, -⟩ := st_codes
  refine at_sc ha c2 ?_ hS
  rw [kcode_r c1]
  exact kdis_ok hk _ (List.contains_iff_mem.mp c3)
theorem r5_up {ad' : AD} (hup : ∀ c i q, c < 1000 → ad c i = some q → ad' c i = some q) (h5 : R5 ad h) : R5 ad' h := fun b hb => by
  have rc := r5_cls
  obtain ⟨n, bs, nm, h1, ⟨h2, h3, h4⟩, h6, h7⟩ := h5 b hb
  exact ⟨n, bs, nm, h1, ⟨at_up hup (by omega) h2, fun p hp => at_up hup (by omega) (h3 p hp), fun w hw => at_up hup (by omega) (h4 w hw)⟩, at_up hup rc.2.2.1 h6, fun j hj => at_up hup rc.2.2.2 (h7 j hj)⟩
/-- as long as nothing of it is written; said with the start's addresses -/
theorem r5_sc0 (h5 : R5 B.1.1 B.1.2) (hk : k_dis r5K K = true) (hS : Sc B.1 I K u q h) : R5 B.1.1 h := by
  have key : ∀ {c i p : Nat} {v : Value}, c < 1000 → B.1.1 c i ≠ none → At I.2.2 h c i p v → At B.1.1 h c i p v := fun {c i p v} hc hn ha => by
    obtain ⟨a, k, vs, a1, a2, a3⟩ := ha
    cases e : B.1.1 c i
    · exact absurd e hn
    · rename_i a'
      have := hS.2.2.1 c i a' hc e
      rw [a1] at this
      cases this
      exact ⟨a, k, vs, e, a2, a3⟩
  have ex : ∀ {c i p : Nat} {v : Value}, At B.1.1 B.1.2 c i p v → B.1.1 c i ≠ none := fun {c i p v} ⟨a, k, vs, a1, _, _⟩ e => by rw [a1] at e; cases e
  obtain ⟨⟨⟨c1, c2, c3⟩, c4, c5⟩, c6, c7, c8⟩ := r5_cls
  have hd := kdis_ok hk
  rw [c6] at hd
  intro b hb
  obtain ⟨n, bs, nm, h1, ⟨h2, h3, h4⟩, h6, h7⟩ := h5 b hb
  refine ⟨n, bs, nm, h1, ⟨?_, fun p hp => ?_, fun w hw => ?_⟩, ?_, fun j hj => ?_⟩
  · exact key (by omega) (ex h2) (at_sc h2 (by omega) (by rw [kcode_o c1]; exact hd _ (by simp)) hS)
  · exact key (by omega) (ex (h3 p hp)) (at_sc (h3 p hp) (by omega) (by rw [kcode_r c2]; exact hd _ (by simp)) hS)
  · exact key (by omega) (ex (h4 w hw)) (at_sc (h4 w hw) (by omega) (by rw [kcode_r c3]; exact hd _ (by simp)) hS)
  · exact key c7 (ex h6) (at_sc h6 c7 (by rw [kcode_r c4]; exact hd _ (by simp)) hS)
  · exact key c8 (ex (h7 j hj)) (at_sc (h7 j hj) c8 (by rw [kcode_r c5]; exact hd _ (by simp)) hS)
theorem rl_sw (hs : swt[a]? = some (lo, hi, d, ts)) (hx : x.toInt = lo + k) (hk : lo + k ≤ hi) (ht : ts[k]? = some t) (hr : Rt σ M (jump M t) L S h Q) : Rt σ M ((pc, (22, a, c)) :: tl) L (.int x :: S) h Q := by
  refine rt_jp (t := t) ?_ hr
  show s_sw a L (.int x :: S) h = _
  unfold s_sw
  dsimp only
  rw [hs]
  dsimp only
  rw [if_neg (by omega), show (x.toInt - lo).toNat = k by omega, ht]
  rfl
/-- an int of the script, as an argument -/
theorem rl_arg (h0 : lv_get 0 L = some (.ref q)) (h3 : lv_get 3 L = some (.int X)) (hX : i2n X = 2147483648 + i) (hi : i ≤ 3584) (hj : j < 100) (hc : Int32.ofInt c = nI j) (hr : h.1 q = some (k, fs)) (hk : am_ld 0 k = true) (hx : fs[i + j]? = some (.int x)) (hq : Rt σ M tl L (.int x :: S) h Q) : Rt σ M ((p0, (1, 0, 2)) :: (p1, (1, 3, 0)) :: (p2, (0, 0, c)) :: (p3, (4, 0, 0)) :: (p4, (10, 0, 0)) :: tl) L S h Q := by
  have eX := r5nI hX (by omega)
  have e := nI_nn (show i + j < 2147483648 by omega)
  refine rl_load h0 rfl (rl_load h3 rfl (rl_const (rl_bin rfl ?_)))
  rw [hc, eX, nI_plus (by omega)]
  exact rl_ald hr hk e.1 (by rw [e.2]; exact hx) hq
/-- an object of the law's, out of the head's locals -/
theorem head_ref {σ : Nat → Nat} {j c : Nat} (hH : HeadOK σ ad h L i) (hc : (j, ((7, c, 2147483648) : SV)) = (1, (7, kX, 2147483648)) ∨ (j, ((7, c, 2147483648) : SV)) = (2, (7, kM, 2147483648))) : ∃ q, lv_get j L = some (.ref q) ∧ ad c 0 = some q := by
  obtain ⟨-, -, hL, -, -⟩ := hH
  have key : s_find j lawV = some (7, c, 2147483648) := by
    rcases hc with e | e
    · cases e; rfl
    · cases e; rfl
  obtain ⟨V, v1, v2⟩ := hL j (7, c, 2147483648) key
  obtain ⟨-, -, h3⟩ := sv_typ v2 rfl
  rcases h3 with ⟨h3, -⟩ | ⟨-, q, h3, h4⟩
  · have : (2147483648 : Nat) = 2147483647 := h3
    omega
  · replace h3 : ad c (2147483648 - 2147483648) = some q := h3
    rw [Nat.sub_self] at h3
    exact ⟨q, by rw [v1, h4], h3⟩
/-- what the symbolic machine says of a call, said of its end -/
theorem eng_call {as : List SV} {As : List Value} {es : List (Option SV × SG)} (hHP : HP σ B) (hcn : ∀ M C, C ∈ cns M → C.1 < nC → CnOK σ C) (hB : ∀ a i, ¬ B.2 a i) (hσ : ∀ i, i < 6 → B.1.1 (stc i) 0 = some (σ i)) (hR : RM B I G h) (hAs : LM I (g_h G).length (g_n G) as As) (hs : ycall M as G = some es) : Rt σ M (codeOf M) (am_args 0 As) [] h (fun _ h' => ∃ q, q ∈ es ∧ ∃ I', Gr I G I' q.2 ∧ RM B I' q.2 h') := by
  unfold ycall at hs
  split at hs
  · rename_i r hr
    rw [hs] at hr
    exact hc_ok hcn hB hσ (fun _ => hHP) M as As G es I h _ hR hAs hr fun q hq I' _ h' a1 a2 _ => ⟨q, hq, I', a1, a2⟩
  · exact yrun_ok hB hσ (hc_ok hcn hB hσ (fun _ => hHP)) 100000 M (lps M) (codeOf M) (s_args 0 as) [] G [] es ⟨[], rfl⟩ hs I (am_args 0 As) [] h _ hR args_kn (lvm_args 0 hAs) True.intro (fun T hT => by cases hT) fun q hq I' _ h' a1 a2 _ => ⟨q, hq, I', a1, a2⟩
theorem hd_hp {i : Nat} (hD : HD σ ad h L i) (hcn : ∀ M C, C ∈ cns M → C.1 < nC → CnOK σ C) : HP σ ((ad, h), no2) := hp_ok (B := ((ad, h), no2)) hD.2.1 (fun hu => ⟨hD.2.2.1 hu, head_kn hu hD.1, np_eq⟩) hcn (fun _ _ e => e) hD.1.1
theorem r2_up {ad' : AD} (hup : ∀ c i q, c < 1000 → ad c i = some q → ad' c i = some q) (hk : ∀ k, ad' 2 k ≠ none → ad 2 k ≠ none) (h2 : R2 ad h) : R2 ad' h := by
  obtain ⟨n, pk, pf, pt, ⟨p1, p2⟩, p3, p4⟩ := h2
  have some' : ∀ {k : Nat}, ad 2 k ≠ none → ad' 2 k ≠ none := fun {k} hk => by
    cases e : ad 2 k
    · exact absurd e hk
    · rw [hup 2 k _ (by omega) e]
      exact fun e => by cases e
  refine ⟨n, pk, pf, pt, ⟨p1, at_up hup (by omega) p2⟩, fun p hp => ?_, fun k hk' d hd => at_up hup (by omega) (p4 k (hk k hk') d hd)⟩
  obtain ⟨x1, x2, x3, k, x4, x5, x6⟩ := p3 p hp
  exact ⟨at_up hup (by omega) x1, at_up hup (by omega) x2, at_up hup (by omega) x3, k, x4, x5, some' x6⟩
end
end
section
/-! ===== two calls by hand, from the jump to the next head ===== -/
noncomputable def ScrE (h : AH) (q i : Nat) (xs : List (Nat × Int32)) : Prop := ∃ k fs, h.1 q = some (k, fs) ∧ (am_ld 0 k = true ∧ ∀ j x, (j, x) ∈ xs → fs[i + j]? = some (.int x))
noncomputable def okT2 (kk : List Nat) (mX mM : Nat) (as : List SV) (W W2 : SG) : Bool := match ycall mX ((7, kX, 2147483648) :: as) W2 with
  | some es => es.all (fun q => k_dis stK (g_k q.2) && (match ycall mM ((7, kM, 2147483648) :: as) q.2 with
    | some es2 => es2.all (fun q2 => match Y_iinc 3 7 lawV [] q2.2 with
      | some [.inl (none, lv', [], G')] => y_back2 (lawT W) lv' G' && k_dis kk (g_k G')
      | _ => false)
    | none => false))
  | none => false
section
variable {σ nu : Nat → Nat} {ad : AD} {h : AH} {L : LV} {i mX mM sX sM na ox om qs : Nat} {W W2 : SG} {I2 : IN} {as : List SV} {As : List Value} {P R : AH → Prop} {kk : List Nat} {Q : Option Value → AH → Prop} {c1 c2 rest : List (Nat × AI)} {xs : List (Nat × Int32)} {p0 p1 p2 p3 p4 p5 p6 : Nat}
theorem lawV_kn2 : KN lawV := by
  unfold lawV
  exact ⟨rfl, rfl, rfl, rfl, True.intro⟩
theorem kxm : kX = 10 ∧ kM = 11 := by decide +kernel
/-- what stays of the script -/
theorem scr_stay {G : SG} {I : IN} {h1 : AH} (hsc : ad kSCR 0 = some qs) (hx : ScrE h qs i xs) (hR : RM ((ad, h), no2) I G h1) (hk : k_dis stK (g_k G) = true) (hne : xs ≠ []) : ScrE h1 qs i xs := by
  obtain ⟨k, fs, a1, a2, a3⟩ := hx
  have hq : I.2.2 kSCR 0 = some qs := hR.2.2.2.2.2.2.2.2.1 kSCR 0 qs st_codes.1.2 hsc
  obtain ⟨-, k1, vs1, y1, y2, y3, y4⟩ := hR.2.2.2.1.1 kSCR 0 qs st_codes.1.2 hq
  refine ⟨k1, vs1, y1, ?_, fun j x hj => ?_⟩
  · have hd : cdk kSCR = 31 := by unfold cdk; rw [scr_cd]
    rcases y2 with e | ⟨-, e⟩
    · rw [e, hd]; rfl
    · rw [e]; rfl
  · have ha : At ad h kSCR 0 (i + j) (.int x) := ⟨qs, k, fs, hsc, a1, a3 j x hj⟩
    obtain ⟨q', k', vs', b1, b2, b3⟩ := scr_sc (B := ((ad, h), no2)) ha hk hR.2.2.2.2.2.2
    rw [hq] at b1
    cases b1
    rw [y1] at b2
    cases b2
    exact b3
theorem two_calls (hH : HeadOK σ ad h L i) (hHP : HP σ ((ad, h), no2)) (hcn : ∀ M C, C ∈ cns M → C.1 < nC → CnOK σ C)
    (n0 : nu 0 = 2147483648 + i) (w1 : 1 ≤ g_n W) (wp : g_p W = npL) (wB : (kBL, sk 2147483648, (8, 0, 0), sk 2147483652) ∈ g_c W) (wS : (kSH, sk 2147483648, (8, 0, 0), sk 2147483652) ∈ g_c W) (wh : g_h W = [])
    (hR2 : RM ((ad, h), no2) I2 W2 h) (hg2 : Gr (nu, fun _ => 0, ad) W I2 W2) (hAs : LM I2 (g_h W2).length (g_n W2) as As) (hck : okT2 kk mX mM as W W2 = true)
    (hsX : spec sX = (1, na, [(10, mX)])) (hsM : spec sM = (1, na, [(11, mM)])) (hna : As.length = na) (hokX : ∀ q, am_ok (.ref q :: As) mX = true) (hokM : ∀ q, am_ok (.ref q :: As) mM = true)
    (hX1 : lv_get 1 L = some (.ref ox)) (hX2 : ad kX 0 = some ox) (hM1 : lv_get 2 L = some (.ref om)) (hM2 : ad kM 0 = some om) (hsc : ad kSCR 0 = some qs) (hxs : ScrE h qs i xs) (hxn : xs ≠ [])
    (A1 : ∀ {h' : AH} {S : List Value} {tl : List (Nat × AI)} {Q' : Option Value → AH → Prop}, ScrE h' qs i xs → Rt σ lawM tl L (As.reverse ++ S) h' Q' → Rt σ lawM (c1 ++ tl) L S h' Q')
    (A2 : ∀ {h' : AH} {S : List Value} {tl : List (Nat × AI)} {Q' : Option Value → AH → Prop}, ScrE h' qs i xs → Rt σ lawM tl L (As.reverse ++ S) h' Q' → Rt σ lawM (c2 ++ tl) L S h' Q')
    (HX : Rt σ mX (codeOf mX) (am_args 0 (.ref ox :: As)) [] h (IntP P))
    (HM : ∀ (ad1 : AD) (h1 : AH) (np : Nat) (ex ho : Nat → Nat → Prop), TS ad1 h1 np ex ho → (∀ c i q, c < 1000 → ad c i = some q → ad1 c i = some q) → P h1 → Rt σ mM (codeOf mM) (am_args 0 (.ref om :: As)) [] h1 (IntP R))
    (hk : ∀ (I4 : IN) (G' : SG) (h' : AH) (L' : LV) (i' : Nat), i + 1 ≤ i' → HeadOK σ I4.2.2 h' L' i' → RM ((ad, h), no2) I4 G' h' → k_dis kk (g_k G') = true → R h' → h'.2.1 ≤ h.2.1 + 99 → h'.2.2 ≤ h.2.2 + 999 → Rt σ lawM (jump lawM 18) L' [] h' Q) :
    Rt σ lawM ((p0, (1, 1, 2)) :: (c1 ++ ((p1, (12, sX, 0)) :: (p2, (18, 1, 0)) :: (p3, (1, 2, 2)) :: (c2 ++ ((p4, (12, sM, 0)) :: (p5, (18, 1, 0)) :: (p6, (7, 0, Int.ofNat enL)) :: rest))))) L [] h Q := by
  have hB : ∀ a i, ¬ (((ad, h), no2) : BS).2 a i := fun _ _ e => e
  have hσ := hH.1
  have hL := hH.2.2.1
  obtain ⟨kx, km⟩ := kxm
  have hX2' : ad 10 0 = some ox := by rw [← kx]; exact hX2
  have hM2' : ad 11 0 = some om := by rw [← km]; exact hM2
  obtain ⟨vx, -, -, -, ⟨fx, -, -⟩, -⟩ := x_form hH.2.1 hX2'
  unfold okT2 at hck
  split at hck
  case h_2 => cases hck
  rename_i es hes
  have refv : ∀ {I : IN} {n m c q : Nat}, c < 1000 → I.2.2 c 0 = some q → SVm I n m (7, c, 2147483648) (.ref q) := fun {I n m c q} hc hq => Or.inr (Or.inr (Or.inr (Or.inr ⟨rfl, (fun e => by cases e), hc, Or.inr ⟨Nat.le_refl _, q, (by show I.2.2 c (2147483648 - 2147483648) = some q; rw [Nat.sub_self]; exact hq), rfl⟩⟩)))
  have e1 := eng_call hHP hcn hB hσ hR2 (as := (7, kX, 2147483648) :: as) (As := .ref ox :: As) ⟨refv (c := kX) (by rw [kx]; omega) (hg2.2.2.2.2 kX 0 ox (by rw [kx]; omega) hX2), hAs⟩ hes
  refine rl_load hX1 rfl (A1 hxs (rl_callv (as := As) (r := []) hsX rfl hna fx (by show 0 ≤ 8; omega) (hokX ox) (rt_mono (rt_and e1 HX) fun v h1 ⟨⟨q, hq, I1, g1, r1⟩, ⟨y, ey⟩, hP⟩ => ?_)))
  subst ey
  obtain ⟨ck1, hck⟩ := and2 (List.all_eq_true.mp hck q hq)
  split at hck
  case h_2 => cases hck
  rename_i es2 hes2
  have up1 : ∀ c i q, c < 1000 → ad c i = some q → I1.2.2 c i = some q := r1.2.2.2.2.2.2.2.2.1
  have hxs1 := scr_stay hsc hxs r1 ck1 hxn
  obtain ⟨m', ot, oy, vm, ty, yy, hmt⟩ := mt_form r1.2.2.2.1
  have em : m' = om := Option.some.inj (hmt.1.1.1.symm.trans (up1 _ _ _ (by omega) hM2'))
  subst em
  have e2 := eng_call hHP hcn hB hσ r1 (as := (7, kM, 2147483648) :: as) (As := .ref m' :: As) ⟨refv (c := kM) (by rw [km]; omega) (up1 kM 0 m' (by rw [km]; omega) hM2), lm_gr g1 hAs⟩ hes2
  refine rl_pop rfl (rl_load hM1 rfl (A2 hxs1 (rl_callv (as := As) (r := []) hsM rfl hna hmt.1.2.1 (by show 0 ≤ 8; omega) (hokM m') (rt_mono (rt_and e2 (HM I1.2.2 h1 _ _ _ r1.2.2.2.1 up1 hP)) fun v h2 ⟨⟨q2, hq2, I3, g3, r3⟩, ⟨y2, ey2⟩, hR5⟩ => ?_))))
  subst ey2
  have hck2 := List.all_eq_true.mp hck q2 hq2
  split at hck2
  case h_2 => cases hck2
  rename_i lv' G' hy
  obtain ⟨ck3, ck4⟩ := and2 hck2
  have gW : Gr (nu, fun _ => 0, ad) W I3 q2.2 := gr_trans (gr_trans hg2 g1) g3
  have hLW : LVM (nu, fun _ => 0, ad) (g_h W).length (g_n W) lawV L := lvm_up (I' := (nu, fun _ => 0, ad)) hL (Nat.zero_le _) w1 (fun j hj => by
    have : j = 0 := by omega
    rw [this]
    exact n0) (fun j hj => absurd hj (Nat.not_lt_zero _)) (fun _ _ _ _ e => e)
  obtain ⟨o, ho, I4, x, s1, s2⟩ := Y_iinc_ok r3 lawV_kn2 (lvm_gr gW hLW) (S := []) (st := []) True.intro (c := 7) (a := 3) (by omega) (by omega) hy
  rw [List.mem_singleton.mp ho] at s2
  refine rl_pop rfl (rl_goto ?_)
  show Rt σ lawM (jump lawM enL) L [] h2 Q
  rw [law_fin]
  obtain ⟨X, l3⟩ : ∃ X, lv_get 3 L = some (.int X) := by
    obtain ⟨V3, w1', w2'⟩ := hL 3 (1, 0, 0) rfl
    obtain ⟨X, rfl, -⟩ := sv_int w2' rfl
    exact ⟨X, w1'⟩
  refine rl_iinc l3 (rl_goto ?_)
  show Rt σ lawM (jump lawM 18) _ [] h2 Q
  have es : s_iinc 3 7 L [] h2 = nx (lv_put 3 (.int (X + Int32.ofInt 7)) L) [] h2 := by
    unfold s_iinc
    rw [l3]
  rw [es] at s1
  have ex : x = .inl (none, lv_put 3 (.int (X + Int32.ofInt 7)) L, [], h2) := (Option.some.inj s1).symm
  subst ex
  obtain ⟨-, g4, r4, k4, l4, -⟩ := s2
  obtain ⟨i', b1, b2, b3, b4⟩ := back_head hH n0 w1 wp wB wS (gr_trans gW g4) r4 l4 ck3
  exact hk I4 G' h2 _ i' b1 b2 r4 ck4 hR5 b3 b4
end
end
section
/-! ===== type and wipe, from the law's head to the next ===== -/
noncomputable def okTX (mA : Nat) (as : List SV) (W2 : SG) : Bool := match y_con0 nC mA ((7, 1, 2147483648) :: as) W2 with
  | some (some es) => es.all (fun q => (match q.1 with | some s => isI s | none => false) && k_dis r5K (g_k q.2))
  | _ => false
/-- texts change, permits don't -/
noncomputable def kk10 : List Nat := stK ++ (bif useR2 then r2K else [])
noncomputable def okT10 (W : SG) : Bool := okT2 kk10 35 189 [(1, g_n W, 0), (1, g_n W + 1, 0)] W (y_fresh (y_fresh (y_know W (1, 0, 0) 2147483648 2147487225) 0 4294967295) 0 4294967295) && okTX 37 [(1, g_n W, 0)] (y_fresh W 2147483648 2147483903)
noncomputable def okT11 (W : SG) : Bool := okT2 kk10 49 191 [(1, g_n W, 0)] W (y_fresh (y_know W (1, 0, 0) 2147483648 2147487225) 0 4294967295) && okTX 50 [] W
theorem ml_law : (Nat.ble 3 (mL 35) && (Nat.ble 3 (mL 189) && (Nat.ble 2 (mL 49) && Nat.ble 2 (mL 191)))) = true := by decide +kernel
section
variable {σ nu : Nat → Nat} {ad : AD} {h : AH} {L : LV} {i : Nat} {W : SG} {Q : Option Value → AH → Prop} {x x1 x2 : Int32} {mA : Nat} {as : List SV} {As : List Value} {W2 : SG} {I2 : IN} {q kb : Nat} {vs : List Value} {X : Int32}
/-- the text of TAX takes nothing of the relation away -/
theorem tx_call (hH : HeadOK σ ad h L i) (h5 : R5 ad h) (hcn : ∀ M C, C ∈ cns M → C.1 < nC → CnOK σ C) (hR2 : RM ((ad, h), no2) I2 W2 h) (hAs : LM I2 (g_h W2).length (g_n W2) as As) (hck : okTX mA as W2 = true) (q : Nat) (hq : ad 1 0 = some q) : Rt σ mA (codeOf mA) (am_args 0 (.ref q :: As)) [] h (IntP (R5 ad)) := by
  have hB : ∀ a i, ¬ (((ad, h), no2) : BS).2 a i := fun _ _ e => e
  unfold okTX at hck
  split at hck
  case h_2 => cases hck
  rename_i es hes
  have up : ∀ c i q, c < 1000 → ad c i = some q → I2.2.2 c i = some q := hR2.2.2.2.2.2.2.2.2.1
  have hr : SVm I2 (g_h W2).length (g_n W2) (7, 1, 2147483648) (.ref q) := Or.inr (Or.inr (Or.inr (Or.inr ⟨rfl, (fun e => by cases e), (by show 1 < 1000; omega), Or.inr ⟨Nat.le_refl _, q, (by show I2.2.2 1 (2147483648 - 2147483648) = some q; rw [Nat.sub_self]; exact up 1 0 q (by omega) hq), rfl⟩⟩)))
  refine hc_ok0 hcn hB hH.1 hR2 (as := (7, 1, 2147483648) :: as) (As := .ref q :: As) ⟨hr, hAs⟩ hes fun p hp I' v h' a1 a2 a3 => ?_
  obtain ⟨c1, c2⟩ := and2 (List.all_eq_true.mp hck p hp)
  refine ⟨?_, r5_sc0 (B := ((ad, h), no2)) h5 c2 a2.2.2.2.2.2.2⟩
  split at c1
  · rename_i s hs
    rw [hs] at a3
    cases v with
    | none => exact a3.elim
    | some v =>
      obtain ⟨y, rfl, -⟩ := sv_int a3 c1
      exact ⟨y, rfl⟩
  · cases c1
theorem scr_kind (hH : HeadOK σ ad h L i) (hq : ad kSCR 0 = some q) (hv : h.1 q = some (kb, vs)) : am_ld 0 kb = true := by
  obtain ⟨-, k1, vs1, y1, y2, -⟩ := hH.2.1.1 kSCR 0 q st_codes.1.2 hq
  rw [hv] at y1
  cases y1
  have hd : cdk kSCR = 31 := by unfold cdk; rw [scr_cd]
  rcases y2 with e | ⟨-, e⟩
  · rw [e, hd]; rfl
  · rw [e]; rfl
theorem w_rng (e : txW x (nI 0) (nI 255) = 1) : 2147483648 ≤ i2n x ∧ i2n x ≤ 2147483903 := by
  rcases txW_nat (v := x) (k := 255) (by omega) with ⟨b, b1, b2, -⟩ | ⟨b1, -⟩
  · have := nI_ok (show b < 2147483648 by omega)
    rw [b2]
    omega
  · rw [b1] at e
    exact absurd e (by decide)
theorem hd_fin {I4 : IN} {G' : SG} {h' : AH} {L' : LV} {i' : Nat} (hD : HD σ ad h L i) (hH' : HeadOK σ I4.2.2 h' L' i') (hR : RM ((ad, h), no2) I4 G' h') (hk : k_dis kk10 (g_k G') = true) (h5 : R5 ad h') : HD σ I4.2.2 h' L' i' := by
  obtain ⟨k1, k2⟩ := k_dis_app hk
  have hSc := hR.2.2.2.2.2.2
  refine ⟨hH', r5_up hSc.2.2.1 h5, fun hu => ?_, st_sc (B := ((ad, h), no2)) hD.2.2.2 k1 hSc⟩
  rw [hu, cond_true] at k2
  exact r2_sc (B := ((ad, h), no2)) (hD.2.2.1 hu) (head_kn hu hD.1) (head_kn hu hH') k2 hSc
theorem call_10 (hD : HD σ ad h L i) (hcn : ∀ M C, C ∈ cns M → C.1 < nC → CnOK σ C)
    (tR : RM ((ad, h), no2) (nu, fun _ => 0, ad) W h) (n0 : nu 0 = 2147483648 + i) (w1 : 1 ≤ g_n W) (wp : g_p W = npL) (wB : (kBL, sk 2147483648, (8, 0, 0), sk 2147483652) ∈ g_c W) (wS : (kSH, sk 2147483648, (8, 0, 0), sk 2147483652) ∈ g_c W) (wh : g_h W = [])
    (s1 : ad kSCR 0 = some q) (s2 : lv_get 0 L = some (.ref q)) (s3 : h.1 q = some (kb, vs)) (s5 : vs.length ≤ 3584) (s6 : i + 7 ≤ vs.length) (s7 : lv_get 3 L = some (.int X)) (s8 : i2n X = 2147483648 + i) (hx1 : vs[i + 1]? = some (.int x1)) (hx2 : vs[i + 2]? = some (.int x2))
    (hk : ∀ (ad' : AD) (h' : AH) (L' : LV) (i' : Nat), i + 1 ≤ i' → HD σ ad' h' L' i' → h'.2.1 ≤ h.2.1 + 99 → h'.2.2 ≤ h.2.2 + 999 → Rt σ lawM (jump lawM 18) L' [] h' Q) (hck : okT10 W = true) {t : Nat} (ht : swTs[10]? = some t) : Rt σ lawM (jump lawM t) L [] h Q := by
  rw [law_t10] at ht
  cases ht
  obtain ⟨hH, h5, h2, hs5⟩ := hD
  have hD : HD σ ad h L i := ⟨hH, h5, h2, hs5⟩
  obtain ⟨k1, k2⟩ := and2 hck
  obtain ⟨ox, o1, o2⟩ := head_ref hH (Or.inl rfl)
  obtain ⟨om, m1, m2⟩ := head_ref hH (Or.inr rfl)
  have hi := hH.2.2.2.1
  have ml := ml_law
  have e0 : sval nu ((1, 0, 0) : SV) = 2147483648 + i := n0
  have k0 := nk_know (v := ((1, 0, 0) : SV)) (lo := 2147483648) (hi := 2147487225) tR.1 (by show 2147483648 ≤ sval nu ((1, 0, 0) : SV); omega) (by show sval nu ((1, 0, 0) : SV) ≤ 2147487225; omega)
  have tK := rm_nk' (I := (nu, fun _ => 0, ad)) tR k0
  have gn : g_n (y_know W (1, 0, 0) 2147483648 2147487225) = g_n W := rfl
  have ka := nk_fresh (G := y_know W (1, 0, 0) 2147483648 2147487225) (lo := 0) (hi := 4294967295) (w := i2n x1) tK.1 (Nat.zero_le _) (by have := i2n_lt x1; omega)
  have rA := rm_nk tK ka
  have kb' := nk_fresh (G := y_fresh (y_know W (1, 0, 0) 2147483648 2147487225) 0 4294967295) (lo := 0) (hi := 4294967295) (w := i2n x2) rA.1 (Nat.zero_le _) (by have := i2n_lt x2; omega)
  have rB := rm_nk rA kb'
  have gg : Gr (nu, fun _ => 0, ad) W _ _ := gr_trans (gr_trans (gr_nk (I := (nu, fun _ => 0, ad)) k0) (gr_nk (I := (nu, fun _ => 0, ad)) ka)) (gr_nk (I := (nset nu (g_n W) (i2n x1), fun _ => 0, ad)) kb')
  have kc := fun (e : txW x2 (nI 0) (nI 255) = 1) => nk_fresh (G := W) (lo := 2147483648) (hi := 2147483903) (w := i2n x2) tR.1 (w_rng e).1 (w_rng e).2
  have hX := X_type (x := x2) (t := x1) hH.1 hH.2.1 hs5 h5 (by have := kxm.1; rw [← this]; exact o2) (fun _ e q hq => tx_call (as := [(1, g_n W, 0)]) (As := [.int x2]) hH h5 hcn (rm_nk tR (kc e)) ⟨sv_of_int ⟨rfl, fun _ => Nat.lt_succ_self _, (nset_at _ _ _).symm⟩, True.intro⟩ k2 q hq)
  have hM : ∀ (ad1 : AD) (h1 : AH) (np : Nat) (ex ho : Nat → Nat → Prop), TS ad1 h1 np ex ho → (∀ c i q, c < 1000 → ad c i = some q → ad1 c i = some q) → Md (fT x1 x2) ad h1 → Rt σ 189 (codeOf 189) (am_args 0 (.ref om :: [.int x1, .int x2])) [] h1 (IntP (R5 ad)) := fun ad1 h1 np ex ho hT hup hMd => by
    have sg := hH.2.1.2.2.2.1.2.1
    have c3 : sgl 11 = true ∧ (sgl kMty = true ∧ sgl kMby = true) := by decide +kernel
    refine M_type hT hup ⟨?_, ?_, ?_⟩ (by have := kxm.2; rw [← this]; exact m2) hMd
    · obtain ⟨q, hq⟩ := sg 11 c3.1; rw [hq]; exact fun e => by cases e
    · obtain ⟨q, hq⟩ := sg _ c3.2.1; rw [hq]; exact fun e => by cases e
    · obtain ⟨q, hq⟩ := sg _ c3.2.2; rw [hq]; exact fun e => by cases e
  rw [law_10]
  refine two_calls (as := [(1, g_n W, 0), (1, g_n W + 1, 0)]) (xs := [(1, x1), (2, x2)]) (As := [.int x1, .int x2]) (c1 := (_, (1, 0, 2)) :: (_, (1, 3, 0)) :: (_, (0, 0, 1)) :: (_, (4, 0, 0)) :: (_, (10, 0, 0)) :: (_, (1, 0, 2)) :: (_, (1, 3, 0)) :: (_, (0, 0, 2)) :: (_, (4, 0, 0)) :: [(_, (10, 0, 0))]) (c2 := (_, (1, 0, 2)) :: (_, (1, 3, 0)) :: (_, (0, 0, 1)) :: (_, (4, 0, 0)) :: (_, (10, 0, 0)) :: (_, (1, 0, 2)) :: (_, (1, 3, 0)) :: (_, (0, 0, 2)) :: (_, (4, 0, 0)) :: [(_, (10, 0, 0))]) hH (hd_hp hD hcn) hcn n0 w1 wp wB wS wh rB gg ⟨?_, ?_, True.intro⟩ k1 law_x10 law_m10 rfl (fun q => three_ok (blet (and2 ml).1)) (fun q => three_ok (blet (and2 (and2 ml).2).1)) o1 o2 m1 m2 s1 ⟨kb, vs, s3, scr_kind hH s1 s3, ?_⟩ (fun e => by cases e) ?_ ?_ hX hM (fun I4 G' h' L' i' b1 b2 b3 b4 b5 b6 b7 => hk I4.2.2 h' L' i' b1 (hd_fin hD b2 b3 b4 b5) b6 b7)
  · refine sv_of_int ⟨rfl, fun _ => ?_, ?_⟩
    · show g_n W < g_n W + 1 + 1
      omega
    · show i2n x1 = nset (nset nu (g_n W) (i2n x1)) (g_n W + 1) (i2n x2) (g_n W)
      unfold nset
      rw [if_neg (by omega), if_pos rfl]
  · refine sv_of_int ⟨rfl, fun _ => ?_, ?_⟩
    · show g_n W + 1 < g_n W + 1 + 1
      omega
    · exact (nset_at _ _ _).symm
  · intro j x hj
    rcases List.mem_cons.mp hj with e | hj
    · cases e; exact hx1
    · cases List.mem_singleton.mp hj; exact hx2
  · intro h' S tl Q' hsc hq
    obtain ⟨k', fs, f1, f2, f3⟩ := hsc
    exact rl_arg s2 s7 s8 hi (j := 1) (by omega) rfl f1 f2 (f3 1 x1 (by simp)) (rl_arg s2 s7 s8 hi (j := 2) (by omega) rfl f1 f2 (f3 2 x2 (by simp)) hq)
  · intro h' S tl Q' hsc hq
    obtain ⟨k', fs, f1, f2, f3⟩ := hsc
    exact rl_arg s2 s7 s8 hi (j := 1) (by omega) rfl f1 f2 (f3 1 x1 (by simp)) (rl_arg s2 s7 s8 hi (j := 2) (by omega) rfl f1 f2 (f3 2 x2 (by simp)) hq)
theorem call_11 (hD : HD σ ad h L i) (hcn : ∀ M C, C ∈ cns M → C.1 < nC → CnOK σ C)
    (tR : RM ((ad, h), no2) (nu, fun _ => 0, ad) W h) (n0 : nu 0 = 2147483648 + i) (w1 : 1 ≤ g_n W) (wp : g_p W = npL) (wB : (kBL, sk 2147483648, (8, 0, 0), sk 2147483652) ∈ g_c W) (wS : (kSH, sk 2147483648, (8, 0, 0), sk 2147483652) ∈ g_c W) (wh : g_h W = [])
    (s1 : ad kSCR 0 = some q) (s2 : lv_get 0 L = some (.ref q)) (s3 : h.1 q = some (kb, vs)) (s5 : vs.length ≤ 3584) (s6 : i + 7 ≤ vs.length) (s7 : lv_get 3 L = some (.int X)) (s8 : i2n X = 2147483648 + i) (hx1 : vs[i + 1]? = some (.int x1)) (hx2 : vs[i + 2]? = some (.int x2))
    (hk : ∀ (ad' : AD) (h' : AH) (L' : LV) (i' : Nat), i + 1 ≤ i' → HD σ ad' h' L' i' → h'.2.1 ≤ h.2.1 + 99 → h'.2.2 ≤ h.2.2 + 999 → Rt σ lawM (jump lawM 18) L' [] h' Q) (hck : okT11 W = true) {t : Nat} (ht : swTs[11]? = some t) : Rt σ lawM (jump lawM t) L [] h Q := by
  rw [law_t11] at ht
  cases ht
  obtain ⟨hH, h5, h2, hs5⟩ := hD
  have hD : HD σ ad h L i := ⟨hH, h5, h2, hs5⟩
  obtain ⟨k1, k2⟩ := and2 hck
  obtain ⟨ox, o1, o2⟩ := head_ref hH (Or.inl rfl)
  obtain ⟨om, m1, m2⟩ := head_ref hH (Or.inr rfl)
  have hi := hH.2.2.2.1
  have ml := ml_law
  have e0 : sval nu ((1, 0, 0) : SV) = 2147483648 + i := n0
  have k0 := nk_know (v := ((1, 0, 0) : SV)) (lo := 2147483648) (hi := 2147487225) tR.1 (by show 2147483648 ≤ sval nu ((1, 0, 0) : SV); omega) (by show sval nu ((1, 0, 0) : SV) ≤ 2147487225; omega)
  have tK := rm_nk' (I := (nu, fun _ => 0, ad)) tR k0
  have gn : g_n (y_know W (1, 0, 0) 2147483648 2147487225) = g_n W := rfl
  have ka := nk_fresh (G := y_know W (1, 0, 0) 2147483648 2147487225) (lo := 0) (hi := 4294967295) (w := i2n x1) tK.1 (Nat.zero_le _) (by have := i2n_lt x1; omega)
  have rA := rm_nk tK ka
  have gg : Gr (nu, fun _ => 0, ad) W _ _ := gr_trans (gr_nk (I := (nu, fun _ => 0, ad)) k0) (gr_nk (I := (nu, fun _ => 0, ad)) ka)
  have hX := X_wipe (t := x1) hH.1 hH.2.1 hs5 h5 (by have := kxm.1; rw [← this]; exact o2) (fun _ q hq => tx_call (as := []) (As := []) hH h5 hcn tR True.intro k2 q hq)
  have hM : ∀ (ad1 : AD) (h1 : AH) (np : Nat) (ex ho : Nat → Nat → Prop), TS ad1 h1 np ex ho → (∀ c i q, c < 1000 → ad c i = some q → ad1 c i = some q) → Md (fW x1) ad h1 → Rt σ 191 (codeOf 191) (am_args 0 (.ref om :: [.int x1])) [] h1 (IntP (R5 ad)) := fun ad1 h1 np ex ho hT hup hMd => by
    have sg := hH.2.1.2.2.2.1.2.1
    have c3 : sgl 11 = true ∧ (sgl kMty = true ∧ sgl kMby = true) := by decide +kernel
    refine M_wipe hT hup ⟨?_, ?_, ?_⟩ (by have := kxm.2; rw [← this]; exact m2) hMd
    · obtain ⟨q, hq⟩ := sg 11 c3.1; rw [hq]; exact fun e => by cases e
    · obtain ⟨q, hq⟩ := sg _ c3.2.1; rw [hq]; exact fun e => by cases e
    · obtain ⟨q, hq⟩ := sg _ c3.2.2; rw [hq]; exact fun e => by cases e
  rw [law_11]
  refine two_calls (as := [(1, g_n W, 0)]) (xs := [(1, x1)]) (As := [.int x1]) (c1 := (_, (1, 0, 2)) :: (_, (1, 3, 0)) :: (_, (0, 0, 1)) :: (_, (4, 0, 0)) :: [(_, (10, 0, 0))]) (c2 := (_, (1, 0, 2)) :: (_, (1, 3, 0)) :: (_, (0, 0, 1)) :: (_, (4, 0, 0)) :: [(_, (10, 0, 0))]) hH (hd_hp hD hcn) hcn n0 w1 wp wB wS wh rA gg ⟨?_, True.intro⟩ k1 law_x11 law_m11 rfl (fun q => two_ok (blet (and2 (and2 (and2 ml).2).2).1)) (fun q => two_ok (blet (and2 (and2 (and2 ml).2).2).2)) o1 o2 m1 m2 s1 ⟨kb, vs, s3, scr_kind hH s1 s3, ?_⟩ (fun e => by cases e) ?_ ?_ hX hM (fun I4 G' h' L' i' b1 b2 b3 b4 b5 b6 b7 => hk I4.2.2 h' L' i' b1 (hd_fin hD b2 b3 b4 b5) b6 b7)
  · exact sv_of_int ⟨rfl, fun _ => Nat.lt_succ_self _, (nset_at _ _ _).symm⟩
  · intro j x hj
    cases List.mem_singleton.mp hj
    exact hx1
  · intro h' S tl Q' hsc hq
    obtain ⟨k', fs, f1, f2, f3⟩ := hsc
    exact rl_arg s2 s7 s8 hi (j := 1) (by omega) rfl f1 f2 (f3 1 x1 (by simp)) hq
  · intro h' S tl Q' hsc hq
    obtain ⟨k', fs, f1, f2, f3⟩ := hsc
    exact rl_arg s2 s7 s8 hi (j := 1) (by omega) rfl f1 f2 (f3 1 x1 (by simp)) hq
end
end
section
/-! ===== permit, from the law's head to the next ===== -/
theorem pmc : useR2 = true → (hcL.drop 12).take 2 = [(0, 1283, 2147483648, 2147483708), (0, 1427, 1, 0)] := by decide +kernel
theorem four_ok {q : Nat} {x y z : Int32} {M : Nat} (hm : 4 ≤ mL M) : am_ok [.ref q, .int x, .int y, .int z] M = true := by
  unfold am_ok
  rw [decide_eq_true (show ([.ref q, .int x, .int y, .int z] : List Value).length ≤ mL M from hm)]
  rfl
theorem ml_9 : 4 ≤ mL 33 ∧ 4 ≤ mL 179 := by decide +kernel
noncomputable def kk9 : List Nat := (11 * 128 + 2) :: stK
noncomputable def okT9 (W : SG) : Bool := okT2 kk9 33 179 [(1, g_n W, 0), (1, g_n W + 1, 0), (1, g_n W + 2, 0)] W (y_fresh (y_fresh (y_fresh (y_know W (1, 0, 0) 2147483648 2147487225) 0 4294967295) 0 4294967295) 0 4294967295)
section
variable {σ nu : Nat → Nat} {ad : AD} {h : AH} {L : LV} {i : Nat} {W : SG} {Q : Option Value → AH → Prop} {x x1 x2 x3 : Int32} {q kb : Nat} {vs : List Value} {X : Int32}
theorem head_pms (hu : useR2 = true) (hD : HD σ ad h L i) : ∃ N n, PmS ad h N n := by
  obtain ⟨hH, h5, h2, -⟩ := hD
  obtain ⟨N, n1, ⟨n2, n3⟩, n4⟩ := head_kl hu hH
  have hT := hH.2.1
  obtain ⟨-, -, -, -, -, -, u, ws, hv, -⟩ := hH
  obtain ⟨u', hv'⟩ := hvs_drop (j := 12) hv
  have e : hcL.drop 12 = (0, 1283, 2147483648, 2147483708) :: (0, 1427, 1, 0) :: (hcL.drop 12).drop 2 := by
    rw [show hcL.drop 12 = (hcL.drop 12).take 2 ++ (hcL.drop 12).drop 2 from (List.take_append_drop 2 _).symm, pmc hu]
    rfl
  rw [e] at hv'
  obtain ⟨Y, ⟨y1, y2⟩, y3, y4⟩ := hv_pair (by omega) hv'
  obtain ⟨n, en⟩ : ∃ n, i2n Y = 2147483648 + n := ⟨i2n Y - 2147483648, by omega⟩
  have hn : n ≤ 60 := by omega
  have eY : Y = nI n := r5nI en (by omega)
  subst eY
  obtain ⟨-, -, -, c1, -⟩ := pm_c
  obtain ⟨ox, hox⟩ := hT.2.2.2.1.2.1 10 pm_t.2.2.2
  exact ⟨N, n, ⟨⟨n1, hn⟩, ls_form hT c1 pm_t.1.1.1 hox n2 (by omega), y1, n3, y2⟩, n4, h2 hu, h5, fun kk hk => kerb_law hu hT ((n4 kk).mpr hk)⟩
theorem call_9 (hu : useR2 = true) (hD : HD σ ad h L i) (hcn : ∀ M C, C ∈ cns M → C.1 < nC → CnOK σ C)
    (tR : RM ((ad, h), no2) (nu, fun _ => 0, ad) W h) (n0 : nu 0 = 2147483648 + i) (w1 : 1 ≤ g_n W) (wp : g_p W = npL) (wB : (kBL, sk 2147483648, (8, 0, 0), sk 2147483652) ∈ g_c W) (wS : (kSH, sk 2147483648, (8, 0, 0), sk 2147483652) ∈ g_c W) (wh : g_h W = [])
    (s1 : ad kSCR 0 = some q) (s2 : lv_get 0 L = some (.ref q)) (s3 : h.1 q = some (kb, vs)) (s5 : vs.length ≤ 3584) (s6 : i + 7 ≤ vs.length) (s7 : lv_get 3 L = some (.int X)) (s8 : i2n X = 2147483648 + i) (hx1 : vs[i + 1]? = some (.int x1)) (hx2 : vs[i + 2]? = some (.int x2)) (hx3 : vs[i + 3]? = some (.int x3))
    (hk : ∀ (ad' : AD) (h' : AH) (L' : LV) (i' : Nat), i + 1 ≤ i' → HD σ ad' h' L' i' → h'.2.1 ≤ h.2.1 + 99 → h'.2.2 ≤ h.2.2 + 999 → Rt σ lawM (jump lawM 18) L' [] h' Q) (hck : okT9 W = true) {t : Nat} (ht : swTs[9]? = some t) : Rt σ lawM (jump lawM t) L [] h Q := by
  rw [law_t9] at ht
  cases ht
  have k1 := hck
  unfold okT9 at k1
  have hH := hD.1
  obtain ⟨N, n, hP⟩ := head_pms hu hD
  obtain ⟨ox, o1, o2⟩ := head_ref hH (Or.inl rfl)
  obtain ⟨om, m1, m2⟩ := head_ref hH (Or.inr rfl)
  have hi := hH.2.2.2.1
  have e0 : sval nu ((1, 0, 0) : SV) = 2147483648 + i := n0
  have k0 := nk_know (v := ((1, 0, 0) : SV)) (lo := 2147483648) (hi := 2147487225) tR.1 (by show 2147483648 ≤ sval nu ((1, 0, 0) : SV); omega) (by show sval nu ((1, 0, 0) : SV) ≤ 2147487225; omega)
  have tK := rm_nk' (I := (nu, fun _ => 0, ad)) tR k0
  have ka := nk_fresh (G := y_know W (1, 0, 0) 2147483648 2147487225) (lo := 0) (hi := 4294967295) (w := i2n x1) tK.1 (Nat.zero_le _) (by have := i2n_lt x1; omega)
  have rA := rm_nk tK ka
  have kb' := nk_fresh (G := y_fresh (y_know W (1, 0, 0) 2147483648 2147487225) 0 4294967295) (lo := 0) (hi := 4294967295) (w := i2n x2) rA.1 (Nat.zero_le _) (by have := i2n_lt x2; omega)
  have rB := rm_nk rA kb'
  have kc' := nk_fresh (G := y_fresh (y_fresh (y_know W (1, 0, 0) 2147483648 2147487225) 0 4294967295) 0 4294967295) (lo := 0) (hi := 4294967295) (w := i2n x3) rB.1 (Nat.zero_le _) (by have := i2n_lt x3; omega)
  have rC := rm_nk rB kc'
  have gg : Gr (nu, fun _ => 0, ad) W _ _ := gr_trans (gr_trans (gr_trans (gr_nk (I := (nu, fun _ => 0, ad)) k0) (gr_nk (I := (nu, fun _ => 0, ad)) ka)) (gr_nk (I := (nset nu (g_n W) (i2n x1), fun _ => 0, ad)) kb')) (gr_nk (I := (nset (nset nu (g_n W) (i2n x1)) (g_n W + 1) (i2n x2), fun _ => 0, ad)) kc')
  have hX := X_permit (σ := σ) (k := x1) (f := x2) (t := x3) hH.2.1 (by have := kxm.1; rw [← this]; exact o2) hP
  have hM : ∀ (ad1 : AD) (h1 : AH) (np : Nat) (ex ho : Nat → Nat → Prop), TS ad1 h1 np ex ho → (∀ c i q, c < 1000 → ad c i = some q → ad1 c i = some q) → PmP ad x1 x2 x3 h1 → Rt σ 179 (codeOf 179) (am_args 0 (.ref om :: [.int x1, .int x2, .int x3])) [] h1 (IntP fun h' => R5 ad h' ∧ R2 ad h') := fun ad1 h1 np ex ho hT hup hMd => by
    refine M_permit hT hup (fun c hc => ?_) (by have := kxm.2; rw [← this]; exact m2) hMd
    obtain ⟨q, hq⟩ := hH.2.1.2.2.2.1.2.1 c hc
    rw [hq]
    exact fun e => by cases e
  rw [law_9]
  refine two_calls (as := [(1, g_n W, 0), (1, g_n W + 1, 0), (1, g_n W + 2, 0)]) (xs := [(1, x1), (2, x2), (3, x3)]) (As := [.int x1, .int x2, .int x3]) (c1 := (_, (1, 0, 2)) :: (_, (1, 3, 0)) :: (_, (0, 0, 1)) :: (_, (4, 0, 0)) :: (_, (10, 0, 0)) :: (_, (1, 0, 2)) :: (_, (1, 3, 0)) :: (_, (0, 0, 2)) :: (_, (4, 0, 0)) :: (_, (10, 0, 0)) :: (_, (1, 0, 2)) :: (_, (1, 3, 0)) :: (_, (0, 0, 3)) :: (_, (4, 0, 0)) :: [(_, (10, 0, 0))]) (c2 := (_, (1, 0, 2)) :: (_, (1, 3, 0)) :: (_, (0, 0, 1)) :: (_, (4, 0, 0)) :: (_, (10, 0, 0)) :: (_, (1, 0, 2)) :: (_, (1, 3, 0)) :: (_, (0, 0, 2)) :: (_, (4, 0, 0)) :: (_, (10, 0, 0)) :: (_, (1, 0, 2)) :: (_, (1, 3, 0)) :: (_, (0, 0, 3)) :: (_, (4, 0, 0)) :: [(_, (10, 0, 0))]) hH (hd_hp hD hcn) hcn n0 w1 wp wB wS wh rC gg ⟨?_, ?_, ?_, True.intro⟩ k1 law_x9 law_m9 rfl (fun q => four_ok ml_9.1) (fun q => four_ok ml_9.2) o1 o2 m1 m2 s1 ⟨kb, vs, s3, scr_kind hH s1 s3, ?_⟩ (fun e => by cases e) ?_ ?_ hX hM ?_
  · refine sv_of_int ⟨rfl, fun _ => ?_, ?_⟩
    · show g_n W < g_n W + 1 + 1 + 1
      omega
    · show i2n x1 = nset (nset (nset nu (g_n W) (i2n x1)) (g_n W + 1) (i2n x2)) (g_n W + 1 + 1) (i2n x3) (g_n W)
      unfold nset
      rw [if_neg (by omega), if_neg (by omega), if_pos rfl]
  · refine sv_of_int ⟨rfl, fun _ => ?_, ?_⟩
    · show g_n W + 1 < g_n W + 1 + 1 + 1
      omega
    · show i2n x2 = nset (nset (nset nu (g_n W) (i2n x1)) (g_n W + 1) (i2n x2)) (g_n W + 1 + 1) (i2n x3) (g_n W + 1)
      unfold nset
      rw [if_neg (by omega), if_pos rfl]
  · refine sv_of_int ⟨rfl, fun _ => ?_, ?_⟩
    · show g_n W + 2 < g_n W + 1 + 1 + 1
      omega
    · exact (nset_at _ _ _).symm
  · intro j x hj
    rcases List.mem_cons.mp hj with e | hj
    · cases e; exact hx1
    · rcases List.mem_cons.mp hj with e | hj
      · cases e; exact hx2
      · cases List.mem_singleton.mp hj; exact hx3
  · intro h' S tl Q' hsc hq
    obtain ⟨k', fs, f1, f2, f3⟩ := hsc
    exact rl_arg s2 s7 s8 hi (j := 1) (by omega) rfl f1 f2 (f3 1 x1 (by simp)) (rl_arg s2 s7 s8 hi (j := 2) (by omega) rfl f1 f2 (f3 2 x2 (by simp)) (rl_arg s2 s7 s8 hi (j := 3) (by omega) rfl f1 f2 (f3 3 x3 (by simp)) hq))
  · intro h' S tl Q' hsc hq
    obtain ⟨k', fs, f1, f2, f3⟩ := hsc
    exact rl_arg s2 s7 s8 hi (j := 1) (by omega) rfl f1 f2 (f3 1 x1 (by simp)) (rl_arg s2 s7 s8 hi (j := 2) (by omega) rfl f1 f2 (f3 2 x2 (by simp)) (rl_arg s2 s7 s8 hi (j := 3) (by omega) rfl f1 f2 (f3 3 x3 (by simp)) hq))
  · intro I4 G' h' L' i' b1 b2 b3 b4 b5 b6 b7
    refine hk I4.2.2 h' L' i' b1 ⟨b2, ?_⟩ b6 b7
    have hSc := b3.2.2.2.2.2.2
    have kA : k_dis [11 * 128 + 2] (g_k G') = true ∧ k_dis stK (g_k G') = true := k_dis_app (a := [11 * 128 + 2]) b4
    obtain ⟨M1, u1, u2, u3⟩ := head_kn hu hH
    obtain ⟨M2, v1, v2, v3⟩ := head_kn hu b2
    have e := kn_eq v1 u1 v2 (at_sc (B := ((ad, h), no2)) u2 (by omega) (by rw [kcode_o r2_ck.1.1]; exact kdis_ok kA.1 _ List.mem_cons_self) hSc)
    subst e
    exact ⟨r5_up hSc.2.2.1 b5.1, fun _ => r2_up hSc.2.2.1 (fun k hk => (u3 k).mpr ((v3 k).mp hk)) b5.2, st_sc (B := ((ad, h), no2)) hD.2.2.2 kA.2 hSc⟩
end
end
