section
/-! ===== two calls that change nothing and answer alike, at the law's level ===== -/
noncomputable def frG (G : SG) (k : Nat) : SG := match k with
  | 0 => G
  | k + 1 => frG (y_fresh G 0 4294967295) k
noncomputable def fra (n k : Nat) : List SV := match k with
  | 0 => []
  | k + 1 => (1, n, 0) :: fra (n + 1) k
/-- so many ints of the script, pushed -/
noncomputable def acs (ps : List (Nat × Nat × Nat × Nat × Nat)) (j : Nat) : List (Nat × AI) := match ps with
  | [] => []
  | p :: r => (p.1, (1, 0, 2)) :: (p.2.1, (1, 3, 0)) :: (p.2.2.1, (0, 0, Int.ofNat j)) :: (p.2.2.2.1, (4, 0, 0)) :: (p.2.2.2.2, (10, 0, 0)) :: acs r (j + 1)
noncomputable def ppN : PPF := fun _ _ _ _ _ => none
noncomputable def okP (pcs : List PCT) (p1s p2s : List Nat) (m1 m2 na : Nat) (W : SG) : Bool := yprod pcs p1s p2s [] [] ppN 50 m1 m2 false (codeOf m1) (s_args 0 ((7, kX, 2147483648) :: fra (g_n W) na)) [] false (codeOf m2) (s_args 0 ((7, kM, 2147483648) :: fra (g_n W) na)) [] (frG W na) []
section
variable {B : BS} {σ nu : Nat → Nat} {ad : AD} {h : AH} {L : LV} {i M q kb : Nat} {X : Int32} {fs vs : List Value} {tl : List (Nat × AI)} {Q : Option Value → AH → Prop}
theorem frG_ok : ∀ (xs : List Int32) (I : IN) (G : SG), RM B I G h → ∃ I', RM B I' (frG G xs.length) h ∧ (Gr I G I' (frG G xs.length) ∧ (I'.2 = I.2 ∧ LM I' (g_h (frG G xs.length)).length (g_n (frG G xs.length)) (fra (g_n G) xs.length) (xs.map .int))) := by
  intro xs
  induction xs with
  | nil => intro I G hR; exact ⟨I, hR, gr_refl _ _, rfl, True.intro⟩
  | cons x r ih =>
    intro I G hR
    have k1 := nk_fresh (G := G) (lo := 0) (hi := 4294967295) (w := i2n x) hR.1 (Nat.zero_le _) (by have := i2n_lt x; omega)
    have r1 := rm_nk hR k1
    obtain ⟨I', a1, a2, a3, a4⟩ := ih _ _ r1
    refine ⟨I', a1, gr_trans (gr_nk k1) a2, a3, ?_⟩
    show SVm I' (g_h (frG (y_fresh G 0 4294967295) r.length)).length (g_n (frG (y_fresh G 0 4294967295) r.length)) (1, g_n G, 0) (.int x) ∧ LM I' (g_h (frG (y_fresh G 0 4294967295) r.length)).length (g_n (frG (y_fresh G 0 4294967295) r.length)) (fra (g_n G + 1) r.length) (r.map .int)
    exact ⟨sv_gr a2 (sv_of_int ⟨rfl, fun _ => Nat.lt_succ_self _, (nset_at _ _ _).symm⟩), a4⟩
theorem nI_oj {j : Nat} : Int32.ofInt (Int.ofNat j) = nI j := rfl
theorem rl_args (h0 : lv_get 0 L = some (.ref q)) (h3 : lv_get 3 L = some (.int X)) (hX : i2n X = 2147483648 + i) (hi : i ≤ 3584) (hr : h.1 q = some (kb, fs)) (hk : am_ld 0 kb = true) : ∀ (xs : List Int32) (ps : List (Nat × Nat × Nat × Nat × Nat)) (j : Nat) (S : List Value), xs.length = ps.length → j + ps.length < 100 → (∀ k x, xs[k]? = some x → fs[i + (j + k)]? = some (.int x)) → Rt σ M tl L ((xs.map Value.int).reverse ++ S) h Q → Rt σ M (acs ps j ++ tl) L S h Q := by
  intro xs
  induction xs with
  | nil =>
    intro ps j S hl _ _ hq
    cases ps with
    | nil => exact hq
    | cons => cases hl
  | cons x r ih =>
    intro ps j S hl hj hx hq
    cases ps with
    | nil => cases hl
    | cons p ps =>
      rw [List.length_cons] at hj
      refine rl_arg h0 h3 hX hi (j := j) (by omega) nI_oj hr hk (hx 0 x rfl) (ih ps (j + 1) (.int x :: S) (Nat.succ.inj hl) (by omega) (fun k y hy => ?_) ?_)
      · have := hx (k + 1) y (by rw [List.getElem?_cons_succ]; exact hy)
        rw [show i + (j + 1 + k) = i + (j + (k + 1)) by omega]
        exact this
      · rw [List.map_cons, List.reverse_cons, List.append_assoc] at hq
        exact hq
theorem hd_next (hD : HD σ ad h L i) (h7 : i + 7 ≤ 3584) (l3 : lv_get 3 L = some (.int X)) (hX : i2n X = 2147483648 + i) : HD σ ad h (lv_put 3 (.int (X + Int32.ofInt 7)) L) (i + 7) := by
  obtain ⟨⟨a1, a2, a3, a4, a5, a6, u, ws, a7, a8⟩, h5, h2, hs⟩ := hD
  refine ⟨⟨a1, a2, fun j s hs => ?_, h7, a5, a6, u, ws, a7, fun q hq w hw => ?_⟩, h5, h2, hs⟩
  · obtain ⟨v, v1, v2⟩ := a3 j s hs
    rcases lawV_find hs with ⟨rfl, rfl⟩ | ⟨rfl, rfl⟩ | ⟨rfl, rfl⟩ | ⟨rfl, rfl⟩
    · exact ⟨v, get_put (by rw [sv_cat v2]; rfl) rfl (by omega) v1, v2⟩
    · exact ⟨v, get_put (by rw [sv_cat v2]; rfl) rfl (by omega) v1, v2⟩
    · exact ⟨v, get_put (by rw [sv_cat v2]; rfl) rfl (by omega) v1, v2⟩
    · refine ⟨_, rfl, Or.inl ⟨rfl, fun _ => Nat.lt_succ_self 0, _, rfl, ?_⟩⟩
      show i2n (X + Int32.ofInt 7) = 2147483648 + (i + 7)
      have e2 : i2n (Int32.ofInt 7) = 2147483655 := by decide +kernel
      rw [kb_add, e2, hX]
      omega
  · have := a8 q hq w hw
    omega
/-- what the state at the head says of two calls, from the jump to the next head -/
theorem call_pr {pcs : List PCT} {p1s p2s PM : List Nat} {m1 m2 mX mM na sX sM t p0 p1 p2 p3 p4 : Nat} {ps1 ps2 : List (Nat × Nat × Nat × Nat × Nat)} {rest : List (Nat × AI)} {W : SG} (hP : pureM PM = true) (hm1 : nmem m1 PM = true) (hm2 : nmem m2 PM = true) (hck : okP pcs p1s p2s m1 m2 na W = true)
    (hlaw : jump lawM t = (p0, (1, 1, 2)) :: (acs ps1 1 ++ ((p1, (12, sX, 0)) :: (p2, (1, 2, 2)) :: (acs ps2 1 ++ ((p3, (12, sM, 0)) :: (p4, (5, 0, Int.ofNat enL)) :: rest))))) (hl1 : ps1.length = na) (hl2 : ps2.length = na) (hna : na ≤ 6) (hsX : spec sX = (1, na, [(10, mX)])) (hsM : spec sM = (1, na, [(11, mM)])) (hlX : na + 1 ≤ mL mX) (hlM : na + 1 ≤ mL mM)
    (hwX : ∀ (q : Nat) (vx : List Value) (xs : List Int32) (Q : Option Value → AH → Prop), h.1 q = some (10, vx) → xs.length = na → Rt σ m1 (codeOf m1) (am_args 0 (.ref q :: xs.map .int)) [] h (fun v h' => (∃ Y, v = some (.int Y)) ∧ (h' = h ∧ Q v h)) → Rt σ mX (codeOf mX) (am_args 0 (.ref q :: xs.map .int)) [] h (fun v h' => h' = h ∧ Q v h))
    (hwM : ∀ (q : Nat) (vx : List Value) (xs : List Int32) (Q : Option Value → AH → Prop), h.1 q = some (11, vx) → xs.length = na → Rt σ m2 (codeOf m2) (am_args 0 (.ref q :: xs.map .int)) [] h (fun v h' => (∃ Y, v = some (.int Y)) ∧ (h' = h ∧ Q v h)) → Rt σ mM (codeOf mM) (am_args 0 (.ref q :: xs.map .int)) [] h (fun v h' => h' = h ∧ Q v h))
    (hD : HD σ ad h L i) (hcn : ∀ M C, C ∈ cns M → C.1 < nC → CnOK σ C) (tR : RM ((ad, h), no2) (nu, fun _ => 0, ad) W h)
    (s2 : lv_get 0 L = some (.ref q)) (s3 : h.1 q = some (kb, vs)) (s3' : am_ld 0 kb = true) (s5 : vs.length ≤ 3584) (s6 : i + 7 ≤ vs.length) (s7 : lv_get 3 L = some (.int X)) (s8 : i2n X = 2147483648 + i) (s9 : ∀ (p : Nat) (v : Value), vs[p]? = some v → ∃ x, v = .int x)
    (hk : ∀ (ad' : AD) (h' : AH) (L' : LV) (i' : Nat), i + 1 ≤ i' → HD σ ad' h' L' i' → h'.2.1 ≤ h.2.1 + 99 → h'.2.2 ≤ h.2.2 + 999 → Rt σ lawM (jump lawM 18) L' [] h' Q) : Rt σ lawM (jump lawM t) L [] h Q := by
  have hH := hD.1
  have hB : ∀ a i, ¬ (((ad, h), no2) : BS).2 a i := fun _ _ e => e
  obtain ⟨ox, o1, o2⟩ := head_ref hH (Or.inl rfl)
  obtain ⟨om, m1', m2'⟩ := head_ref hH (Or.inr rfl)
  obtain ⟨kx, km⟩ := kxm
  -- the ints of the script
  obtain ⟨xs, hxl, hxs⟩ : ∃ xs : List Int32, xs.length = na ∧ ∀ k x, xs[k]? = some x → vs[i + (1 + k)]? = some (.int x) := by
    obtain ⟨l, hl⟩ := ints_of s9
    refine ⟨(l.drop (i + 1)).take na, ?_, fun k x hx => ?_⟩
    · rw [List.length_take, List.length_drop]
      have : l.length = vs.length := by rw [hl, List.length_map]
      omega
    · have hkn : k < na := by
        have := (List.getElem?_eq_some_iff.mp hx).1
        rw [List.length_take] at this
        omega
      rw [List.getElem?_take_of_lt hkn, List.getElem?_drop] at hx
      rw [hl, List.getElem?_map, show i + (1 + k) = i + 1 + k by omega, hx]
      rfl
  obtain ⟨vx, -, -, -, ⟨fx, -, -⟩, -⟩ := x_form hH.2.1 (by rw [← kx]; exact o2)
  obtain ⟨m', ot, oy, vm, ty, yy, hmt⟩ := mt_form hH.2.1
  have em : m' = om := Option.some.inj (hmt.1.1.1.symm.trans (by rw [← km]; exact m2'))
  subst em
  have fm := hmt.1.2.1
  -- side by side
  have hpr : ∃ Y : Int32, Rt σ m1 (codeOf m1) (am_args 0 (.ref ox :: xs.map .int)) [] h (fun v h' => v = some (.int Y) ∧ h' = h) ∧ Rt σ m2 (codeOf m2) (am_args 0 (.ref m' :: xs.map .int)) [] h (fun v h' => v = some (.int Y) ∧ h' = h) := by
    obtain ⟨I', a1, a2, a3, a4⟩ := frG_ok xs _ _ tR
    rw [hxl] at a1 a2 a4
    have refv : ∀ {c q : Nat}, c < 1000 → ad c 0 = some q → SVm I' (g_h (frG W na)).length (g_n (frG W na)) (7, c, 2147483648) (.ref q) := fun {c q} hc hq => Or.inr (Or.inr (Or.inr (Or.inr ⟨rfl, (fun e => by cases e), hc, Or.inr ⟨Nat.le_refl _, q, (by show I'.2.2 c (2147483648 - 2147483648) = some q; rw [Nat.sub_self, a3]; exact hq), rfl⟩⟩)))
    exact yprod_ok hP (nmem_ok hm1) (nmem_ok hm2) (hd_hp hD hcn) (fun _ _ _ _ _ _ e => by cases e) hcn hB hH.1 50 false (codeOf m1) _ [] false (codeOf m2) _ [] _ [] ⟨[], rfl⟩ ⟨[], rfl⟩ hck I' (am_args 0 (.ref ox :: xs.map .int)) (am_args 0 (.ref m' :: xs.map .int)) [] [] a1 ⟨args_kn, args_kn⟩ (lvm_args 0 ⟨refv (by rw [kx]; omega) o2, a4⟩) True.intro (lvm_args 0 ⟨refv (by rw [km]; omega) m2', a4⟩) True.intro (fun T hT => by cases hT)
  obtain ⟨Y, y1, y2⟩ := hpr
  have ok : ∀ {q M : Nat}, na + 1 ≤ mL M → am_ok (.ref q :: xs.map .int) M = true := fun {q M} hl => by
    unfold am_ok
    rw [decide_eq_true (show (Value.ref q :: xs.map .int).length ≤ mL M by rw [List.length_cons, List.length_map]; omega), Bool.and_true]
    refine List.all_eq_true.mpr fun v hv => ?_
    rcases List.mem_cons.mp hv with rfl | hv
    · rfl
    · obtain ⟨x, -, rfl⟩ := List.mem_map.mp hv
      rfl
  rw [hlaw]
  refine rl_load o1 rfl (rl_args s2 s7 s8 hH.2.2.2.1 s3 s3' xs ps1 1 _ (by omega) (by omega) hxs (rl_callv (as := xs.map .int) (r := []) hsX rfl (by rw [List.length_map]; exact hxl) fx (by show 0 ≤ 8; omega) (ok hlX) (rt_mono (hwX ox vx xs (fun v h' => v = some (.int Y)) fx hxl (rt_mono y1 fun v h' ⟨e1, e2⟩ => ⟨⟨Y, e1⟩, e2, e1⟩)) fun v h' ⟨e1, e2⟩ => ?_)))
  subst e1
  subst e2
  refine rl_load m1' rfl (rl_args s2 s7 s8 hH.2.2.2.1 s3 s3' xs ps2 1 _ (by omega) (by omega) hxs (rl_callv (as := xs.map .int) (r := [.int Y]) hsM rfl (by rw [List.length_map]; exact hxl) fm (by show 1 ≤ 8; omega) (ok hlM) (rt_mono (hwM m' vm xs (fun v h' => v = some (.int Y)) fm hxl (rt_mono y2 fun v h' ⟨e1, e2⟩ => ⟨⟨Y, e1⟩, e2, e1⟩)) fun v h'' ⟨e1, e2⟩ => ?_)))
  subst e1
  subst e2
  refine rl_icmpT (by show some (decide (Y = Y)) = some true; rw [decide_eq_true rfl]) ?_
  show Rt σ lawM (jump lawM enL) L [] _ Q
  rw [law_fin]
  refine rl_iinc s7 (rl_goto ?_)
  show Rt σ lawM (jump lawM 18) _ [] _ Q
  exact hk ad _ _ (i + 7) (by omega) (hd_next hD (by omega) s7 s8) (Nat.le_add_right _ _) (Nat.le_add_right _ _)
end
end
