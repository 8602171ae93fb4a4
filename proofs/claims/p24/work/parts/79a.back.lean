/-! ===== back at the law's head ===== -/
theorem kk_no : (nmem (kBL * 128 + 126) (hcL.map (fun h => h_code h.1 h.2.1 lawV)) || nmem (kSH * 128 + 126) (hcL.map (fun h => h_code h.1 h.2.1 lawV))) = false := by decide +kernel
theorem rl_shape : rlL.all (fun q => Nat.beq q.1.1 2 && (Nat.beq q.2.1.1 0 && Nat.beq q.2.1.2 3)) = true := by decide +kernel
theorem hc_mode : hcL.all (fun hh => Nat.beq hh.1 0 || Nat.beq hh.1 2) = true := by decide +kernel
section
variable {σ : Nat → Nat} {B : BS} {ad : AD} {h h' : AH} {L L' : LV} {I I' : IN} {G G' W : SG} {lv lv' : SLV} {i : Nat} {hh : Nat × Nat × Nat × Nat} {v : SV}
theorem fit_num {v : SV} {lo hi : Nat} (hg : GK I.1 G) (ov : okn (g_n G) v) (hf : y_fitI G v lo hi = true) : lo ≤ sval I.1 v ∧ sval I.1 v ≤ hi := by
  have bv := itv_ok hg.1 v
  obtain ⟨h1, h2⟩ := and2 hf
  constructor
  · cases hb : Nat.ble lo (itv G v).1
    · rw [hb, cond_false] at h1
      have := y_le_ok hg sk_okn ov h1
      rw [sk_val] at this
      omega
    · have := blet hb
      omega
  · cases hb : Nat.ble (itv G v).2 hi
    · rw [hb, cond_false] at h2
      have := y_le_ok hg ov sk_okn h2
      rw [sk_val] at this
      omega
    · have := blet hb
      omega
/-- what the symbolic state knows of a place is so -/
theorem find_pw (hR : RM B I G h) (hm : hh.1 = 0 ∨ hh.1 = 2) (hf : y_find G (h_place hh.1 hh.2.1 lawV).1 (h_place hh.1 hh.2.1 lawV).2.1 (h_place hh.1 hh.2.1 lawV).2.2 = some v) (iv : isI v = true) : okn (g_n G) v ∧ PW I.2.2 h hh (sval I.1 v) := by
  have hc := hR.2.2.2.2.2.1 _ (c_find_ok hf)
  obtain ⟨c1, c2, c3, c4⟩ := hc
  rcases hm with e | e
  · rw [e] at c1 c2 c3 c4
    have ep : h_place 0 hh.2.1 lawV = (hh.2.1 / 128, sk 2147483648, sk (2147483648 + hh.2.1 % 128)) := rfl
    rw [ep] at c4
    rcases c4 with ⟨d1, a, b, V, d2, d3, d4, d5⟩ | ⟨d1, -⟩ | ⟨d1, -⟩ | ⟨d1, -⟩
    · obtain ⟨X, rfl, hX⟩ := sv_int d5 iv
      have d2 : 2147483648 = 2147483648 + a := d2
      have d3 : 2147483648 + hh.2.1 % 128 = 2147483648 + b := d3
      have ea : a = 0 := by omega
      have eb : b = hh.2.1 % 128 := by omega
      rw [ea, eb] at d4
      exact ⟨hX.2.1, Or.inl ⟨e, X, d4, hX.2.2⟩⟩
    · exact absurd d1 (by show ¬ (0 : Nat) = 8; omega)
    · exact absurd d1 (by show ¬ (0 : Nat) = 9; omega)
    · exact absurd d1 (by show ¬ 10 ≤ (0 : Nat); omega)
  · rw [e] at c1 c2 c3 c4
    have ep : h_place 2 hh.2.1 lawV = (hh.2.1, sk 2147483648, (8, 0, 0)) := rfl
    rw [ep] at c4
    rcases c4 with ⟨d1, -⟩ | ⟨-, d2, d3, d4⟩ | ⟨d1, -⟩ | ⟨d1, -⟩
    · cases d1
    · exact ⟨d3, Or.inr ⟨e, d4⟩⟩
    · exact absurd d1 (by show ¬ (8 : Nat) = 9; omega)
    · exact absurd d1 (by show ¬ 10 ≤ (8 : Nat); omega)
theorem bk_gr_ok (hR : RM B I G h) : ∀ {hc : List (Nat × Nat × Nat × Nat)} {u : SV}, hc.all (fun hh => Nat.beq hh.1 0 || Nat.beq hh.1 2) = true → okn (g_n G) u → bk_gr u lawV G hc = true →
    ∃ ws, HVs I.2.2 h (sval I.1 u) hc ws ∧ ∀ (j : Nat) (hh : Nat × Nat × Nat × Nat), hc[j]? = some hh → ∃ v w, y_find G (h_place hh.1 hh.2.1 lawV).1 (h_place hh.1 hh.2.1 lawV).2.1 (h_place hh.1 hh.2.1 lawV).2.2 = some v ∧ (okn (g_n G) v ∧ (ws[j]? = some w ∧ sval I.1 v = w)) := by
  intro hc
  induction hc with
  | nil => intro u _ _ _; exact ⟨[], True.intro, fun j hh hj => by cases hj⟩
  | cons hh r ih =>
    intro u hm ou hb
    rw [List.all_cons] at hm
    obtain ⟨m1, m2⟩ := and2 hm
    have m1 : hh.1 = 0 ∨ hh.1 = 2 := (or2 m1).imp beqt beqt
    rw [bk_gr] at hb
    split at hb
    · cases hb
    · rename_i v hv
      obtain ⟨b1, b2⟩ := bifb hb
      obtain ⟨b1, b3⟩ := and2 b1
      obtain ⟨ov, hp⟩ := find_pw hR m1 hv b1
      obtain ⟨ws, w1, w2⟩ := ih m2 ov b2
      refine ⟨sval I.1 v :: ws, ⟨hp, ?_, w1⟩, fun j p hj => ?_⟩
      · unfold rngB
        cases hr : Nat.ble hh.2.2.1 hh.2.2.2
        · rw [hr, cond_false] at b3
          rw [cond_false]
          have e : sval I.1 v = sval I.1 u := by
            cases hs : y_same G u v
            · rw [hs, cond_false] at b3
              obtain ⟨l1, l2⟩ := and2 b3
              have := y_le_ok hR.1 ou ov l1
              have := y_le_ok hR.1 ov ou l2
              omega
            · exact (same_ok hR hs).symm
          rw [e]
          exact Nat.beq_refl _
        · rw [hr, cond_true] at b3
          rw [cond_true]
          obtain ⟨f1, f2⟩ := fit_num hR.1 ov b3
          rw [Nat.ble_eq_true_of_le f1, Nat.ble_eq_true_of_le f2]
          rfl
      · cases j with
        | zero =>
          cases hj
          exact ⟨v, _, hv, ov, rfl, rfl⟩
        | succ j => exact w2 j p hj
/-- a count that stays -/
theorem cnt_back {c : Nat} (hR : RM B I G h) (hm : (c, sk 2147483648, (8, 0, 0), sk 2147483652) ∈ g_c W) (hno : nmem (c * 128 + 126) (hcL.map (fun h => h_code h.1 h.2.1 lawV)) = false) (hb : bk_c (hcL.map (fun h => h_code h.1 h.2.1 lawV)) G (g_c W) = true) : ∀ k, I.2.2 c k ≠ none ↔ 2147483648 + k < 2147483652 := by
  rcases bk_c_ok hb _ hm with h1 | ⟨h1, -⟩ | ⟨-, h1⟩
  · obtain ⟨-, -, -, c4⟩ := hR.2.2.2.2.2.1 _ h1
    rcases c4 with ⟨d1, -⟩ | ⟨-, d2, d3, d4⟩ | ⟨d1, -⟩ | ⟨d1, -⟩
    · cases d1
    · exact d4
    · exact absurd d1 (by show ¬ (8 : Nat) = 9; omega)
    · exact absurd d1 (by show ¬ 10 ≤ (8 : Nat); omega)
  · exact absurd h1 (by show ¬ (8 : Nat) ≤ 7; omega)
  · rw [nmem_in h1] at hno
    cases hno
theorem back_head {nu : Nat → Nat} (hH : HeadOK σ ad h L i) (n0 : nu 0 = 2147483648 + i) (w1 : 1 ≤ g_n W) (wp : g_p W = npL) (wB : (kBL, sk 2147483648, (8, 0, 0), sk 2147483652) ∈ g_c W) (wS : (kSH, sk 2147483648, (8, 0, 0), sk 2147483652) ∈ g_c W)
    (hg : Gr (nu, fun _ => 0, ad) W I' G') (hR : RM ((ad, h), no2) I' G' h') (hL : LVM I' (g_h G').length (g_n G') lv' L') (hbk : y_back2 (lawT W) lv' G' = true) :
    ∃ i', i + 1 ≤ i' ∧ (HeadOK σ I'.2.2 h' L' i' ∧ (h'.2.1 ≤ h.2.1 + 99 ∧ h'.2.2 ≤ h.2.2 + 999)) := by
  have hRc := y_close_ok hR
  have hLc : LVM I' (g_h (y_close G')).length (g_n (y_close G')) lv' L' := hL
  have hgc : Gr (nu, fun _ => 0, ad) W I' (y_close G') := gr_trans hg gr_close
  unfold y_back2 lawT lawL at hbk
  dsimp only at hbk
  generalize hGc : y_close G' = Gc at *
  obtain ⟨a1, b1⟩ := and2 hbk
  obtain ⟨a1, a2⟩ := and2 a1
  obtain ⟨a2, a3⟩ := and2 a2
  obtain ⟨a3, a4⟩ := and2 a3
  obtain ⟨a4, a5⟩ := and2 a4
  obtain ⟨b1, b2⟩ := and2 b1
  obtain ⟨b2, b3⟩ := and2 b2
  obtain ⟨b3, b4⟩ := and2 b3
  have hX : g_x Gc = [] := by
    cases hx : g_x Gc with
    | nil => rfl
    | cons => rw [hx] at a4; cases a4
  have hp : g_p Gc = npL := (beqt a5).trans wp
  have hgcc := hgc
  obtain ⟨ag, gn, -, -, -⟩ := hgcc
  -- the loop's count
  obtain ⟨v3, f3, t3⟩ := bk_lv_ok b1 (3, (1, 0, 0)) (by unfold lawV; exact List.mem_cons_of_mem _ (List.mem_cons_of_mem _ (List.mem_cons_of_mem _ List.mem_cons_self)))
  rcases t3 with ⟨t3, -⟩ | ⟨p, t3, t4⟩
  · cases t3
  have ep : p = (0, 2147483648, 2147487232) := (Option.some.inj t3).symm
  subst ep
  have t5 : isI v3 = true ∧ y_fitI Gc v3 2147483648 2147487232 = true := by
    rcases t4 with ⟨-, t5⟩ | ⟨t4, -⟩
    · exact t5
    · exact absurd rfl t4
  obtain ⟨iv3, ft3⟩ := t5
  obtain ⟨V3, g3, s3⟩ := hLc 3 v3 f3
  obtain ⟨X, rfl, hX3⟩ := sv_int s3 iv3
  obtain ⟨x1, x2⟩ := fit_ok hRc.1 hX3 ft3
  -- it grew
  obtain ⟨x, y, hx, hy, ix, iy, hle⟩ := ck_rel_ok b4 ((1, 3), (0, 3), 1) (List.mem_append_right _ List.mem_cons_self)
  have ex : x = (1, 0, 0) := (Option.some.inj hx).symm
  subst ex
  have ey : y = v3 := by
    have h1 : s_find 3 lv' = some y := hy
    rw [f3] at h1
    exact (Option.some.inj h1).symm
  rw [ey] at hle
  have ox : okn (g_n Gc) ((1, 0, 0) : SV) := fun _ => by show 0 < g_n Gc; omega
  have hgt : sval I'.1 ((1, 0, 0) : SV) + 1 ≤ sval I'.1 v3 := y_le_ok hRc.1 ox hX3.2.1 hle
  have sx : sval I'.1 ((1, 0, 0) : SV) = 2147483648 + i := by
    show I'.1 0 = _
    rw [ag 0 (by omega)]
    exact n0
  rw [sx, ← hX3.2.2] at hgt
  obtain ⟨hst, hT, hLv, hi, hd⟩ := hH
  obtain ⟨r1, r2, r3, r4, r5, r6⟩ := hRc.2
  obtain ⟨ws, z1, z2⟩ := bk_gr_ok hRc hc_mode (u := sfull) (fun e => by cases e) b2
  have kn := Bool.or_eq_false_iff.mp kk_no
  obtain ⟨i', hi'⟩ : ∃ i', i2n X = 2147483648 + i' := ⟨i2n X - 2147483648, by omega⟩
  refine ⟨i', by omega, ⟨fun k hk => ?_, ?_, fun j s hj => ?_, by omega, cnt_back hRc wB kn.1 b3, cnt_back hRc wS kn.2 b3, _, ws, z1, fun q hq w hw => ?_⟩, ?_, ?_⟩
  · exact r6.2.2.1 _ _ _ (by unfold stc; omega) (hst k hk)
  · rw [hp, hX] at r3
    exact ts_ex r3 fun t k ⟨e, e1, _⟩ => by cases e1
  · have lc := law_cls
    obtain ⟨l1, l2⟩ := and2 lc
    obtain ⟨l2, l3⟩ := and2 l2
    have cls : ∀ {j c : Nat}, (j, ((7, c, 2147483648) : SV)) ∈ lawV → j ≠ 3 → Nat.ble c 999 = true → ∃ V, lv_get j L' = some V ∧ SVm (fun _ => 2147483648 + i', fun _ => 0, I'.2.2) 0 1 (7, c, 2147483648) V := by
      intro j c hm hj hc
      obtain ⟨v, f, t⟩ := bk_lv_ok b1 _ hm
      have ev : v = (7, c, 2147483648) := by
        rcases t with ⟨-, e⟩ | ⟨p, e, -⟩
        · exact e
        · rw [hv_find] at e
          cases e3 : Nat.beq 3 j
          · dsimp only at e
            rw [e3] at e
            cases e
          · exact absurd (beqt e3).symm hj
      subst ev
      obtain ⟨V, h1, h2⟩ := hLc j _ f
      obtain ⟨-, -, h3⟩ := sv_typ h2 rfl
      have es : ∀ nu : Nat → Nat, sval nu (y_idx ((7, c, 2147483648) : SV)) = 2147483648 := fun _ => rfl
      rw [es] at h3
      have h3 : RefV I'.2.2 c (sval (fun _ => 2147483648 + i') (y_idx ((7, c, 2147483648) : SV))) V := by rw [es]; exact h3
      exact ⟨V, h1, Or.inr (Or.inr (Or.inr (Or.inr ⟨rfl, (fun e => by cases e), (by have := blet hc; show c < 1000; omega), h3⟩)))⟩
    rcases lawV_find hj with ⟨rfl, rfl⟩ | ⟨rfl, rfl⟩ | ⟨rfl, rfl⟩ | ⟨rfl, rfl⟩
    · exact cls (by unfold lawV; exact List.mem_cons_self) (by omega) l1
    · exact cls (by unfold lawV; exact List.mem_cons_of_mem _ List.mem_cons_self) (by omega) l2
    · exact cls (by unfold lawV; exact List.mem_cons_of_mem _ (List.mem_cons_of_mem _ List.mem_cons_self)) (by omega) l3
    · exact ⟨.int X, g3, Or.inl ⟨rfl, fun _ => Nat.lt_succ_self 0, X, rfl, hi'⟩⟩
  · obtain ⟨xq, yq, hxq, hyq, -, -, hleq⟩ := ck_rel_ok b4 q (List.mem_append_left _ hq)
    have sh := List.all_eq_true.mp rl_shape q hq
    obtain ⟨⟨a, t⟩, ⟨c, d⟩, k⟩ := q
    dsimp only at sh
    obtain ⟨s1, s2⟩ := and2 sh
    obtain ⟨s2, s4⟩ := and2 s2
    have s1 := beqt s1
    have s2 := beqt s2
    have s4 := beqt s4
    subst s1; subst s2; subst s4
    have e3 : yq = v3 := by
      have h1 : s_find 3 lv' = some yq := hyq
      rw [f3] at h1
      exact (Option.some.inj h1).symm
    rw [e3] at hleq
    unfold rf_val at hxq
    dsimp only at hxq hleq hw
    rw [show Nat.beq 2 0 = false from rfl, cond_false, show Nat.beq 2 1 = false from rfl, cond_false, show Nat.beq 2 2 = true from rfl, cond_true] at hxq
    split at hxq
    · rename_i hh hhh
      obtain ⟨v, w', q1, q2, q3, q4⟩ := z2 t hh hhh
      rw [q1] at hxq
      have exv := Option.some.inj hxq
      subst exv
      rw [hw] at q3
      have eww := Option.some.inj q3
      have := y_le_ok hRc.1 q2 hX3.2.1 hleq
      rw [← hX3.2.2] at this
      dsimp only
      omega
    · cases hxq
  · have m1 : h'.2.1 ≤ h.2.1 + g_q Gc := r6.2.2.2.2.1
    have := blet a3
    omega
  · have m1 : h'.2.2 ≤ h.2.2 + g_u Gc := r6.2.2.2.2.2.1
    have := blet a2
    omega
end
