section
/-! ===== a call of each side, by the symbolic machine, outcome by outcome ===== -/
/-- seven ints are left of the script -/
noncomputable def topK (W : SG) : SG := y_know W (1, 0, 0) 2147483648 2147487225
noncomputable def okE1 (kk : List Nat) (mM : Nat) (as : List SV) (W : SG) (cm : Bool) (q : Option SV × SG) : Bool := (match q.1 with
  | some s => isI s
  | none => false) && (k_dis stK (g_k q.2) && (match ycall mM ((7, kM, 2147483648) :: as) q.2 with
    | some es2 => es2.all (fun q2 => (match q2.1 with
        | some s2 => isI s2 && (bif cm then (match q.1 with
          | some s => y_eqB q2.2 s s2
          | none => false) else true)
        | none => false) && (match Y_iinc 3 7 lawV [] q2.2 with
      | some [.inl (none, lv', [], G')] => y_back2 (lawT W) lv' G' && k_dis kk (g_k G')
      | _ => false))
    | none => false))
noncomputable def okEp (kk : List Nat) (mX mM : Nat) (as : List SV) (W W2 : SG) (cm : Bool) (lo n : Nat) : Bool := match ycall mX ((7, kX, 2147483648) :: as) W2 with
  | some es => ((es.drop lo).take n).all (okE1 kk mM as W cm)
  | none => false
noncomputable def okEl (mX : Nat) (as : List SV) (W2 : SG) (N : Nat) : Bool := match ycall mX ((7, kX, 2147483648) :: as) W2 with
  | some es => Nat.ble es.length N
  | none => false
theorem okE_all {kk : List Nat} {mX mM : Nat} {as : List SV} {W W2 : SG} {cm : Bool} {n k : Nat} (hl : okEl mX as W2 (k * n) = true) (hp : ∀ j, j < k → okEp kk mX mM as W W2 cm (j * n) n = true) : ∃ es, ycall mX ((7, kX, 2147483648) :: as) W2 = some es ∧ ∀ q, q ∈ es → okE1 kk mM as W cm q = true := by
  unfold okEl at hl
  split at hl
  case h_2 => cases hl
  rename_i es hes
  have hl := blet hl
  refine ⟨es, hes, fun q hq => ?_⟩
  obtain ⟨i, hi⟩ := List.getElem?_of_mem hq
  have hil : i < es.length := (List.getElem?_eq_some_iff.mp hi).1
  have hn : 0 < n := by
    rcases Nat.eq_zero_or_pos n with e | e
    · rw [e, Nat.mul_zero] at hl
      omega
    · exact e
  have hj : i / n < k := Nat.div_lt_of_lt_mul (by rw [Nat.mul_comm]; omega)
  have h1 := hp (i / n) hj
  unfold okEp at h1
  rw [hes] at h1
  have hdm := Nat.div_add_mod i n
  have hm := Nat.mod_lt i hn
  have e1 : i / n * n + i % n = i := by rw [Nat.mul_comm]; exact hdm
  refine List.all_eq_true.mp h1 q (List.mem_of_getElem? (i := i % n) ?_)
  rw [List.getElem?_take_of_lt hm, List.getElem?_drop, e1]
  exact hi
noncomputable def enF (j : Nat) (xs : List Int32) : List (Nat × Int32) := match xs with
  | [] => []
  | x :: r => (j, x) :: enF (j + 1) r
theorem enF_at : ∀ {xs : List Int32} {j k : Nat} {x : Int32}, xs[k]? = some x → (j + k, x) ∈ enF j xs := by
  intro xs
  induction xs with
  | nil => intro j k x hx; cases hx
  | cons y r ih =>
    intro j k x hx
    cases k with
    | zero =>
      cases hx
      exact List.mem_cons_self
    | succ k =>
      have := ih (j := j + 1) (k := k) (x := x) (by rw [List.getElem?_cons_succ] at hx; exact hx)
      rw [show j + 1 + k = j + (k + 1) by omega] at this
      exact List.mem_cons_of_mem _ this
theorem enF_get : ∀ {xs : List Int32} {j p : Nat} {x : Int32}, (p, x) ∈ enF j xs → ∃ k, p = j + k ∧ xs[k]? = some x := by
  intro xs
  induction xs with
  | nil => intro j p x hx; cases hx
  | cons y r ih =>
    intro j p x hx
    rcases List.mem_cons.mp hx with e | hx
    · cases e
      exact ⟨0, rfl, rfl⟩
    · obtain ⟨k, h1, h2⟩ := ih hx
      exact ⟨k + 1, by omega, by rw [List.getElem?_cons_succ]; exact h2⟩
section
variable {σ nu : Nat → Nat} {ad : AD} {h : AH} {L : LV} {i q kb : Nat} {X : Int32} {vs : List Value} {Q : Option Value → AH → Prop} {kk : List Nat} {mX mM na sX sM t p0 p1 p2 p3 p4 p5 p6 : Nat} {ps1 ps2 : List (Nat × Nat × Nat × Nat × Nat)} {rest : List (Nat × AI)} {W : SG} {es : List (Option SV × SG)}
theorem two_eng {cm : Bool} {code1 code2 : List (Nat × AI)} (hc1 : code1 = (bif cm then [] else [(p5, (18, 1, 0))])) (hc2 : code2 = (bif cm then [(p4, (5, 0, Int.ofNat enL))] else [(p6, (18, 1, 0)), (p4, (7, 0, Int.ofNat enL))])) (hes : ycall mX ((7, kX, 2147483648) :: fra (g_n W) na) (frG (topK W) na) = some es) (hck : ∀ q, q ∈ es → okE1 kk mM (fra (g_n W) na) W cm q = true)
    (hlaw : jump lawM t = (p0, (1, 1, 2)) :: (acs ps1 1 ++ ((p1, (12, sX, 0)) :: (code1 ++ ((p2, (1, 2, 2)) :: (acs ps2 1 ++ ((p3, (12, sM, 0)) :: (code2 ++ rest)))))))) (hl1 : ps1.length = na) (hl2 : ps2.length = na) (hna0 : 0 < na) (hna : na ≤ 6) (hsX : spec sX = (1, na, [(10, mX)])) (hsM : spec sM = (1, na, [(11, mM)])) (hlX : na + 1 ≤ mL mX) (hlM : na + 1 ≤ mL mM)
    (hD : HD σ ad h L i) (hcn : ∀ M C, C ∈ cns M → C.1 < nC → CnOK σ C) (tR : RM ((ad, h), no2) (nu, fun _ => 0, ad) W h)
    (n0 : nu 0 = 2147483648 + i) (w1 : 1 ≤ g_n W) (wp : g_p W = npL) (wB : (kBL, sk 2147483648, (8, 0, 0), sk 2147483652) ∈ g_c W) (wS : (kSH, sk 2147483648, (8, 0, 0), sk 2147483652) ∈ g_c W) (wh : g_h W = [])
    (s1 : ad kSCR 0 = some q) (s2 : lv_get 0 L = some (.ref q)) (s3 : h.1 q = some (kb, vs)) (s3' : am_ld 0 kb = true) (s5 : vs.length ≤ 3584) (s6 : i + 7 ≤ vs.length) (s7 : lv_get 3 L = some (.int X)) (s8 : i2n X = 2147483648 + i) (s9 : ∀ (p : Nat) (v : Value), vs[p]? = some v → ∃ x, v = .int x)
    (hk : ∀ (I4 : IN) (G' : SG) (h' : AH) (L' : LV) (i' : Nat), i + 1 ≤ i' → HeadOK σ I4.2.2 h' L' i' → RM ((ad, h), no2) I4 G' h' → k_dis kk (g_k G') = true → h'.2.1 ≤ h.2.1 + 99 → h'.2.2 ≤ h.2.2 + 999 → Rt σ lawM (jump lawM 18) L' [] h' Q) : Rt σ lawM (jump lawM t) L [] h Q := by
  have hH := hD.1
  have hHP := hd_hp hD hcn
  have hσ := hH.1
  have hL := hH.2.2.1
  have hB : ∀ a i, ¬ (((ad, h), no2) : BS).2 a i := fun _ _ e => e
  obtain ⟨ox, o1, o2⟩ := head_ref hH (Or.inl rfl)
  obtain ⟨om, m1', m2'⟩ := head_ref hH (Or.inr rfl)
  obtain ⟨kx, km⟩ := kxm
  obtain ⟨xs, hxl, hxs⟩ : ∃ xs : List Int32, xs.length = na ∧ ∀ k x, xs[k]? = some x → vs[i + (1 + k)]? = some (.int x) := by
    obtain ⟨l, hl⟩ := ints_of s9
    refine ⟨(l.drop (i + 1)).take na, ?_, fun k x hx => ?_⟩
    · rw [List.length_take, List.length_drop]
      have : l.length = vs.length := by rw [hl, List.length_map]
      omega
    · have hkn : k < na := by
        have := (List.getElem?_eq_some_iff.mp hx).1
        rw [List.length_take] at this
        omega
      rw [List.getElem?_take_of_lt hkn, List.getElem?_drop] at hx
      rw [hl, List.getElem?_map, show i + (1 + k) = i + 1 + k by omega, hx]
      rfl
  have hX2' : ad 10 0 = some ox := by rw [← kx]; exact o2
  have hM2' : ad 11 0 = some om := by rw [← km]; exact m2'
  obtain ⟨vx, -, -, -, ⟨fx, -, -⟩, -⟩ := x_form hH.2.1 hX2'
  have k0 := nk_know (v := ((1, 0, 0) : SV)) (lo := 2147483648) (hi := 2147487225) tR.1 (by show 2147483648 ≤ sval nu ((1, 0, 0) : SV); have e0 : sval nu ((1, 0, 0) : SV) = 2147483648 + i := n0; omega) (by show sval nu ((1, 0, 0) : SV) ≤ 2147487225; have e0 : sval nu ((1, 0, 0) : SV) = 2147483648 + i := n0; omega)
  have tK : RM ((ad, h), no2) (nu, fun _ => 0, ad) (topK W) h := rm_nk' (I := (nu, fun _ => 0, ad)) tR k0
  obtain ⟨I2, a1, a2', a3, a4⟩ := frG_ok xs _ _ tK
  have a2 := gr_trans (show Gr (nu, fun _ => 0, ad) W (nu, fun _ => 0, ad) (topK W) from gr_nk (I := (nu, fun _ => 0, ad)) k0) a2'
  rw [hxl] at a1 a2 a4
  have refv : ∀ {I : IN} {n m c q : Nat}, c < 1000 → I.2.2 c 0 = some q → SVm I n m (7, c, 2147483648) (.ref q) := fun {I n m c q} hc hq => Or.inr (Or.inr (Or.inr (Or.inr ⟨rfl, (fun e => by cases e), hc, Or.inr ⟨Nat.le_refl _, q, (by show I.2.2 c (2147483648 - 2147483648) = some q; rw [Nat.sub_self]; exact hq), rfl⟩⟩)))
  have ok : ∀ {q M : Nat}, na + 1 ≤ mL M → am_ok (.ref q :: xs.map .int) M = true := fun {q M} hl => by
    unfold am_ok
    rw [decide_eq_true (show (Value.ref q :: xs.map .int).length ≤ mL M by rw [List.length_cons, List.length_map]; omega), Bool.and_true]
    refine List.all_eq_true.mpr fun v hv => ?_
    rcases List.mem_cons.mp hv with rfl | hv
    · rfl
    · obtain ⟨x, -, rfl⟩ := List.mem_map.mp hv
      rfl
  have hE : ScrE h q i (enF 1 xs) := ⟨kb, vs, s3, s3', fun j x hj => by
    obtain ⟨k, k1, k2⟩ := enF_get hj
    rw [k1]
    exact hxs k x k2⟩
  have hEn : enF 1 xs ≠ [] := by
    cases xs with
    | nil => rw [List.length_nil] at hxl; omega
    | cons => exact fun e => by cases e
  have e1 := eng_call2 hHP hcn hB hσ a1 (as := (7, kX, 2147483648) :: fra (g_n W) na) (As := .ref ox :: xs.map .int) ⟨refv (c := kX) (by rw [kx]; omega) (a2.2.2.2.2 kX 0 ox (by rw [kx]; omega) o2), a4⟩ hes
  rw [hlaw]
  refine rl_load o1 rfl (rl_args s2 s7 s8 hH.2.2.2.1 s3 s3' xs ps1 1 _ (by omega) (by omega) hxs (rl_callv (as := xs.map .int) (r := []) hsX rfl (by rw [List.length_map]; exact hxl) fx (by show 0 ≤ 8; omega) (ok hlX) (rt_mono e1 fun v h1 ⟨p, hp, I1, g1, r1, ov⟩ => ?_)))
  have hc := hck p hp
  unfold okE1 at hc
  obtain ⟨c1, hc⟩ := and2 hc
  obtain ⟨c2, hc⟩ := and2 hc
  split at hc
  case h_2 => cases hc
  rename_i es2 hes2
  obtain ⟨sx, hsx, isx⟩ : ∃ s, p.1 = some s ∧ isI s = true := by
    split at c1
    · rename_i s hs
      exact ⟨s, hs, c1⟩
    · cases c1
  obtain ⟨Y, rfl, hY⟩ : ∃ Y, v = some (.int Y) ∧ IV I1.1 (g_n p.2) sx Y := by
    rw [hsx] at ov
    cases v with
    | none => exact ov.elim
    | some v =>
      obtain ⟨Y, rfl, hY⟩ := sv_int ov isx
      exact ⟨Y, rfl, hY⟩
  have up1 : ∀ c i q, c < 1000 → ad c i = some q → I1.2.2 c i = some q := r1.2.2.2.2.2.2.2.2.1
  obtain ⟨k1, fs, b1, b2, b3⟩ := scr_stay s1 hE r1 c2 hEn
  have hxs1 : ∀ k x, xs[k]? = some x → fs[i + (1 + k)]? = some (.int x) := fun k x hx => b3 _ _ (enF_at hx)
  obtain ⟨m', ot, oy, vm, ty, yy, hmt⟩ := mt_form r1.2.2.2.1
  have em : m' = om := Option.some.inj (hmt.1.1.1.symm.trans (up1 _ _ _ (by omega) hM2'))
  subst em
  have e2 := eng_call2 hHP hcn hB hσ r1 (as := (7, kM, 2147483648) :: fra (g_n W) na) (As := .ref m' :: xs.map .int) ⟨refv (c := kM) (by rw [km]; omega) (up1 kM 0 m' (by rw [km]; omega) m2'), lm_gr g1 a4⟩ hes2
  -- behind the second call
  have fin : ∀ (p2 : Option SV × SG) (I3 : IN) (h2 : AH) (s2' : SV) (Y2 : Int32), p2 ∈ es2 → Gr I1 p.2 I3 p2.2 → RM ((ad, h), no2) I3 p2.2 h2 → p2.1 = some s2' → IV I3.1 (g_n p2.2) s2' Y2 → (cm = true → Y2 = Y) ∧ Rt σ lawM (jump lawM enL) L [] h2 Q := by
    intro q2 I3 h2 s2' Y2 hq2 g3 r3 hs2 hY2
    obtain ⟨d1, d2⟩ := and2 (List.all_eq_true.mp hc q2 hq2)
    rw [hs2] at d1
    obtain ⟨-, d1⟩ := and2 d1
    split at d2
    case h_2 => cases d2
    rename_i lv' G' hy
    obtain ⟨ck3, ck4⟩ := and2 d2
    refine ⟨fun ec => ?_, ?_⟩
    · rw [ec, cond_true, hsx] at d1
      have hYs : IV I3.1 (g_n q2.2) sx Y := ⟨hY.1, okn_up hY.2.1 g3.2.1, by rw [sval_ag hY.2.1 g3.1]; exact hY.2.2⟩
      exact i2n_inj (by rw [hY2.2.2, hYs.2.2]; exact (eqB_ok r3 hYs.2.1 hY2.2.1 d1).symm)
    · have gW : Gr (nu, fun _ => 0, ad) W I3 q2.2 := gr_trans (gr_trans a2 g1) g3
      have hLW : LVM (nu, fun _ => 0, ad) (g_h W).length (g_n W) lawV L := lvm_up (I' := (nu, fun _ => 0, ad)) hL (Nat.zero_le _) w1 (fun j hj => by
        have : j = 0 := by omega
        rw [this]
        exact n0) (fun j hj => absurd hj (Nat.not_lt_zero _)) (fun _ _ _ _ e => e)
      obtain ⟨o, ho, I4, x, s1', s2''⟩ := Y_iinc_ok r3 lawV_kn2 (lvm_gr gW hLW) (S := []) (st := []) True.intro (c := 7) (a := 3) (by omega) (by omega) hy
      rw [List.mem_singleton.mp ho] at s2''
      rw [law_fin]
      refine rl_iinc s7 (rl_goto ?_)
      show Rt σ lawM (jump lawM 18) _ [] h2 Q
      have es' : s_iinc 3 7 L [] h2 = nx (lv_put 3 (.int (X + Int32.ofInt 7)) L) [] h2 := by
        unfold s_iinc
        rw [s7]
      rw [es'] at s1'
      have ex : x = .inl (none, lv_put 3 (.int (X + Int32.ofInt 7)) L, [], h2) := (Option.some.inj s1').symm
      subst ex
      obtain ⟨-, g4, r4, k4, l4, -⟩ := s2''
      obtain ⟨i', b1, b2, b3, b4⟩ := back_head hH n0 w1 wp wB wS (gr_trans gW g4) r4 l4 ck3
      exact hk I4 G' h2 _ i' b1 b2 r4 ck4 b3 b4
  have mid : Rt σ lawM ((p2, (1, 2, 2)) :: (acs ps2 1 ++ ((p3, (12, sM, 0)) :: (code2 ++ rest)))) L (bif cm then [.int Y] else []) h1 Q := by
    refine rl_load m1' rfl (rl_args s2 s7 s8 hH.2.2.2.1 b1 b2 xs ps2 1 _ (by omega) (by omega) hxs1 (rl_callv (as := xs.map .int) (r := bif cm then [.int Y] else []) hsM rfl (by rw [List.length_map]; exact hxl) hmt.1.2.1 (by cases cm <;> exact Nat.le_of_ble_eq_true rfl) (ok hlM) (rt_mono e2 fun v h2 ⟨q2, hq2, I3, g3, r3, ov2⟩ => ?_)))
    obtain ⟨d1, -⟩ := and2 (List.all_eq_true.mp hc q2 hq2)
    split at d1
    case h_2 => cases d1
    rename_i s2' hs2
    obtain ⟨d1, -⟩ := and2 d1
    rw [hs2] at ov2
    cases v with
    | none => exact ov2.elim
    | some v =>
      obtain ⟨Y2, rfl, hY2⟩ := sv_int ov2 d1
      obtain ⟨f1, f2⟩ := fin q2 I3 h2 s2' Y2 hq2 g3 r3 hs2 hY2
      subst hc2
      cases cm with
      | false =>
        refine rl_pop rfl (rl_goto ?_)
        exact f2
      | true =>
        have e := f1 rfl
        subst e
        refine rl_icmpT (by show some (decide (Y2 = Y2)) = some true; rw [decide_eq_true rfl]) ?_
        exact f2
  subst hc1
  cases cm with
  | false => exact rl_pop rfl mid
  | true => exact mid
end
theorem use_r2 : useR2 = true := by decide +kernel
theorem rb_eq : rbK = (r5K ++ stK) ++ r2K := by decide +kernel
section
variable {σ : Nat → Nat} {ad : AD} {h : AH} {L : LV} {i : Nat}
/-- nothing of the relation is written -/
theorem hd_rb {I4 : IN} {G' : SG} {h' : AH} {L' : LV} {i' : Nat} (hD : HD σ ad h L i) (hH' : HeadOK σ I4.2.2 h' L' i') (hR : RM ((ad, h), no2) I4 G' h') (hk : k_dis rbK (g_k G') = true) : HD σ I4.2.2 h' L' i' := by
  rw [rb_eq] at hk
  obtain ⟨d, d3⟩ := k_dis_app hk
  obtain ⟨d1, d2⟩ := k_dis_app d
  have hSc := hR.2.2.2.2.2.2
  exact ⟨hH', r5_sc (B := ((ad, h), no2)) hD.2.1 d1 hSc, fun hu => r2_sc (B := ((ad, h), no2)) (hD.2.2.1 hu) (head_kn hu hD.1) (head_kn hu hH') d3 hSc, st_sc (B := ((ad, h), no2)) hD.2.2.2 d2 hSc⟩
end
end
