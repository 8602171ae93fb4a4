/-! ===== a list's own object changes ===== -/
theorem ck_cpl : cpt.all (fun c => c.2.1.all (fun m => lstt.all (fun x => !(Nat.beq x.1 m.1)))) = true := by decide +kernel
theorem cp_nl {t l el ident mx : Nat} {m : Nat × Nat × Nat} (hl : (l, el, ident, mx) ∈ lstt) (hm : m ∈ (cp_at t).2.1) : m.1 ≠ l := by
  unfold cp_at at hm
  by_cases ht : t < cpt.length
  · rw [List.getD_eq_getElem?_getD, List.getElem?_eq_getElem ht, Option.getD_some] at hm
    have h1 := List.all_eq_true.mp (List.all_eq_true.mp (List.all_eq_true.mp ck_cpl _ (List.getElem_mem ht)) m hm) _ hl
    intro e
    dsimp only at h1
    rw [e, Nat.beq_refl] at h1
    exact Bool.noConfusion h1
  · rw [List.getD_eq_getElem?_getD, List.getElem?_eq_none (by omega)] at hm
    cases hm
theorem ck_lst : lstt.all (fun x => lstt.all (fun y => !(Nat.beq x.1 y.1) || (Nat.beq x.2.1 y.2.1 && (Nat.beq x.2.2.1 y.2.2.1 && Nat.beq x.2.2.2 y.2.2.2))) && (Nat.ble x.2.2.1 1 && (match (cd x.1).2.2 with
    | [a, b, s] => Nat.beq a.1 0 && (Nat.beq a.2.1 0 && (Nat.beq a.2.2 4294967295 && (Nat.beq b.1 9 && (Nat.beq s.1 0 && (Nat.beq s.2.1 2147483648 && Nat.ble s.2.2 2147483708)))))
    | _ => false))) = true := by decide +kernel
theorem lst_row {l el ident mx : Nat} (hl : (l, el, ident, mx) ∈ lstt) : (∀ el' ident' mx', (l, el', ident', mx') ∈ lstt → el' = el ∧ ident' = ident) ∧ (ident ≤ 1 ∧ ∃ a b s, (cd l).2.2 = [a, b, s] ∧ (a = (0, 0, 4294967295) ∧ (b.1 = 9 ∧ (s.1 = 0 ∧ (s.2.1 = 2147483648 ∧ s.2.2 ≤ 2147483708))))) := by
  obtain ⟨h1, h2⟩ := and2 (List.all_eq_true.mp ck_lst _ hl)
  obtain ⟨h2, h3⟩ := and2 h2
  refine ⟨fun el' ident' mx' hl' => ?_, blet h2, ?_⟩
  · have h4 := List.all_eq_true.mp h1 _ hl'
    rcases or2 h4 with h4 | h4
    · rw [Nat.beq_refl] at h4; cases h4
    · obtain ⟨h5, h6⟩ := and2 h4
      exact ⟨(beqt h5).symm, (beqt (and2 h6).1).symm⟩
  · split at h3
    · rename_i a b s e
      obtain ⟨g1, h3⟩ := and2 h3
      obtain ⟨g2, h3⟩ := and2 h3
      obtain ⟨g3, h3⟩ := and2 h3
      obtain ⟨g4, h3⟩ := and2 h3
      obtain ⟨g5, h3⟩ := and2 h3
      obtain ⟨g6, g7⟩ := and2 h3
      exact ⟨a, b, s, e, Prod.ext (beqt g1) (Prod.ext (beqt g2) (beqt g3)), beqt g4, beqt g5, beqt g6, blet g7⟩
    · cases h3
theorem lst_at {l el ident mx : Nat} (hl : (l, el, ident, mx) ∈ lstt) : cdm l = 0 → ∃ b s, ct_at l 0 = some (0, 0, 4294967295) ∧ (ct_at l 1 = some b ∧ (b.1 = 9 ∧ (ct_at l 2 = some s ∧ (s.1 = 0 ∧ (s.2.1 = 2147483648 ∧ (s.2.2 ≤ 2147483708 ∧ (∀ p, 3 ≤ p → ct_at l p = none) ∧ (cd l).2.2.length = 3)))))) := by
  intro hm
  obtain ⟨-, -, a, b, s, e, rfl, h1, h2, h3, h4⟩ := lst_row hl
  have key : ∀ p, ct_at l p = (cd l).2.2[p]? := fun p => by
    unfold ct_at
    rw [hm]
    rfl
  refine ⟨b, s, ?_, ?_, h1, ?_, h2, h3, h4, fun p hp => ?_, ?_⟩
  · rw [key, e]; rfl
  · rw [key, e]; rfl
  · rw [key, e]; rfl
  · rw [key, e]
    exact List.getElem?_eq_none (by simpa using hp)
  · rw [e]; rfl
theorem ck_lm : lstt.all (fun x => Nat.beq (cdm x.1) 0) = true := by decide +kernel
theorem lst_m {l el ident mx : Nat} (hl : (l, el, ident, mx) ∈ lstt) : cdm l = 0 := beqt (List.all_eq_true.mp ck_lm _ hl)
theorem x_open_no {c : Nat} {i j : SV} : ∀ {ts : List Nat} {X : List (Nat × SV)}, (∀ t, t ∈ ts → cp_mem (cp_at t).2.1 c i j = none) → x_open c i j X ts = X := by
  intro ts
  induction ts with
  | nil => intro X _; rfl
  | cons t r ih =>
    intro X h
    rw [x_open, h t List.mem_cons_self]
    exact ih (fun t' ht' => h t' (List.mem_cons_of_mem _ ht'))
section
variable {B : BS} {I I' : IN} {n m n' m' : Nat} {G G' : SG} {h h' h0 h1 : AH} {lv lv' lv0 : SLV} {L L' L1 : LV} {c : Int} {a k kd i f : Nat} {s : SV} {v : Value}
theorem lst_set {l el ident mx q du dq : Nat} {w : SV} {sz mc : Int32} {ed : Value} {ad' : AD} {ty : TY} (hl : (l, el, ident, mx) ∈ lstt) (hR : RM B I G h) (hq : I.2.2 l 0 = some q) (hw : IV I.1 (g_n G) w sz) (hty : ct_at l 2 = some ty) (hfit : ty.2.1 ≤ i2n sz ∧ i2n sz ≤ ty.2.2)
    (A1 : ∀ c i, ¬ (c = bkc l ∧ i = 0) → ad' c i = I.2.2 c i) (A2 : ad' (bkc l) 0 = I.2.2 (bkc l) 0 ∨ (ad' (bkc l) 0 = some h.2.1 ∧ h'.2.1 = h.2.1 + 1)) (A3 : ∀ a, a ≠ q → I.2.2 (bkc l) 0 ≠ some a → a < h.2.1 → h'.1 a = h.1 a) (A4 : h'.1 q = some (12, [.int mc, ed, .int sz])) (A5 : h.2.1 ≤ h'.2.1 ∧ (h'.2.1 ≤ h.2.1 + dq ∧ h'.2.2 ≤ h.2.2 + du)) (A6 : ListOK ad' h' l el ident q) :
    RM B (I.1, I.2.1, ad') (upX (upU (y_set (upC G (c_del l (g_c G))) l (sk 2147483648) (sk 2147483650) w) (g_u G + du) (g_q G + dq)) (g_x (y_set (upC G (c_del l (g_c G))) l (sk 2147483648) (sk 2147483650) w)) ((l * 128 + 1) :: l * 128 :: g_k (y_set (upC G (c_del l (g_c G))) l (sk 2147483648) (sk 2147483650) w))) h' := by
  obtain ⟨hg, hH, hRa, ⟨t1, t2, t3, t4, t5, t6⟩, hX, hC, s1, s2, s3, s4, s5, s6, s7⟩ := hR
  obtain ⟨hk12, hl1000, hel⟩ := ck_l hl
  have hm := lst_m hl
  obtain ⟨tb, ts, r0, r1, r1', r2, r3, r4, r5, r6, r7⟩ := lst_at hl hm
  have hx : g_x (y_set (upC G (c_del l (g_c G))) l (sk 2147483648) (sk 2147483650) w) = g_x G := by
    refine x_open_no fun t ht => ?_
    cases e : cp_mem (cp_at t).2.1 l (sk 2147483648) (sk 2147483650) with
    | none => rfl
    | some x =>
      obtain ⟨m, m1, m2, -⟩ := cp_mem_ok e
      exact absurd m2 (cp_nl hl m1)
  rw [hx]
  have hb1 : 1000 ≤ bkc l := by unfold bkc; omega
  have eqad : ∀ c i, c < 1000 → ad' c i = I.2.2 c i := fun c i hc => A1 c i (fun e => by omega)
  -- what of the old heap stays
  have hbk : ∀ {c i a : Nat}, c < 1000 → I.2.2 c i = some a → I.2.2 (bkc l) 0 ≠ some a := by
    intro c i a hc e e2
    rcases t2 _ _ _ _ _ e e2 with ⟨e3, -⟩ | ⟨-, -, e3⟩ <;> omega
  have hqt : ∀ {c' i' : Nat}, I.2.2 c' i' = some q → c' = l ∧ i' = 0 := fun h' => own_at t2 hq (Or.inl (by omega)) h'
  have stay : ∀ {c i a : Nat}, c < 1000 → I.2.2 c i = some a → c ≠ l → h'.1 a = h.1 a := by
    intro c i a hc e hne
    exact A3 a (fun e2 => hne (hqt (by rw [← e2]; exact e)).1) (hbk hc e) (t3 c i a e)
  have at_ne : ∀ {c i p : Nat} {V : Value}, c < 1000 → c ≠ l → (At ad' h' c i p V ↔ At I.2.2 h c i p V) := by
    intro c i p V hc hne
    constructor
    · rintro ⟨a, k, vs, e1, e2, e3⟩
      rw [eqad c i hc] at e1
      exact ⟨a, k, vs, e1, (stay hc e1 hne).symm.trans e2, e3⟩
    · rintro ⟨a, k, vs, e1, e2, e3⟩
      exact ⟨a, k, vs, by rw [eqad c i hc]; exact e1, (stay hc e1 hne).trans e2, e3⟩
  have up3 : ∀ c i a, c < 1000 → I.2.2 c i = some a → ad' c i = some a := fun c i a hc e => by rw [eqad c i hc]; exact e
  have hup : ∀ {n m : Nat} {s : SV} {v : Value}, SVm I n m s v → SVm (I.1, I.2.1, ad') n m s v := fun hs => sv_up hs (Nat.le_refl _) (Nat.le_refl _) (fun _ _ => rfl) (fun _ _ => rfl) up3
  have new_ne : ∀ {c i a : Nat}, ad' c i = some a → I.2.2 c i = some a ∨ (c = bkc l ∧ (i = 0 ∧ (a = h.2.1 ∧ h'.2.1 = h.2.1 + 1))) := by
    intro c i a e
    by_cases hci : c = bkc l ∧ i = 0
    · obtain ⟨e1, e2⟩ := hci
      subst e1; subst e2
      rcases A2 with e3 | ⟨e3, e4⟩
      · rw [e3] at e; exact Or.inl e
      · rw [e3] at e
        cases e
        exact Or.inr ⟨rfl, rfl, rfl, e4⟩
    · rw [A1 c i hci] at e
      exact Or.inl e
  refine ⟨hg, fun k o hk => ?_, ⟨fun k hk => ?_, hRa.2⟩, ⟨fun c i a hc e => ?_, fun c i c' i' a e e' => ?_, fun c i a e => ?_, ⟨fun c p ty hc h0 ht h45 i a e => ?_, fun c hc => ?_, fun c p ty hc ht h5 i hA => ?_⟩, fun l2 el2 id2 mx2 hl2 q2 hq2 => ?_, fun t k ht he => ?_⟩, fun x hx => hX x hx, fun x hx => ?_, fun a ha hb => ?_, fun c i a p hc hb hp => ?_, fun c i a hc hb => ?_, fun c i a e => ?_, ?_, ?_, ?_⟩
  · have hlt : k < (g_h G).length := (List.getElem?_eq_some_iff.mp hk).1
    have hra := (hRa.1 k hlt)
    rcases hH k o hk with ⟨a1, w, a2, a3, a4⟩ | ⟨a1, a2, vs, a3, a4⟩
    · exact Or.inl ⟨a1, w, a2, a3, hup a4⟩
    · refine Or.inr ⟨a1, fun c i e => ?_, vs, (A3 _ (fun e => a2 l 0 (by rw [hq, e])) (a2 _ _) hra.2).trans a3, ?_⟩
      · rcases new_ne e with e2 | ⟨-, -, e2, -⟩
        · exact a2 c i e2
        · dsimp only at e2; omega
      · obtain ⟨o1, o2⟩ := o
        cases o2 with
        | inl q => exact a4
        | inr l' => exact lm_up (I := I) (I' := (I.1, I.2.1, ad')) (l := l') a4 (Nat.le_refl _) (Nat.le_refl _) (fun _ _ => rfl) (fun _ _ => rfl) up3
  · have := hRa.1 k hk
    exact ⟨this.1, Nat.lt_of_lt_of_le this.2 A5.1⟩
  · replace e : ad' c i = some a := e
    rw [eqad c i hc] at e
    obtain ⟨u1, k', vs, u2, u3, u4, u5⟩ := t1 c i a hc e
    refine ⟨u1, ?_⟩
    by_cases hcl : c = l
    · subst hcl
      by_cases hi0 : i = 0
      · subst hi0
        rw [hq] at e
        cases e
        refine ⟨12, _, A4, Or.inl hk12.symm, ⟨fun _ => r7.symm, fun h0 => (by omega), fun h0 => by omega⟩, fun p v hv => ?_⟩
        match p, hv with
        | 0, hv => cases hv; exact ⟨_, r0, Or.inl ⟨rfl, mc, rfl, Nat.zero_le _, by have := i2n_lt mc; show i2n mc ≤ 4294967295; omega⟩⟩
        | 1, hv => exact ⟨tb, r1, Or.inr (Or.inr (Or.inr (Or.inr (Or.inr (Or.inr (Or.inr (Or.inr r1')))))))⟩
        | 2, hv =>
          cases hv
          rw [r2] at hty
          cases hty
          exact ⟨_, r2, Or.inl ⟨r3, sz, rfl, hfit⟩⟩
        | p + 3, hv => cases hv
      · have ha : a ≠ q := fun e2 => hi0 (hqt (by rw [← e2]; exact e)).2
        refine ⟨k', vs, (A3 a ha (hbk hc e) (t3 c i a e)).trans u2, u3, u4, fun p v hv => ?_⟩
        obtain ⟨ty', v1, v2⟩ := u5 p v hv
        exact ⟨ty', v1, tv_up (fun h2 => ty_cls v1 h2) up3 v2⟩
    · refine ⟨k', vs, (stay hc e hcl).trans u2, u3, u4, fun p v hv => ?_⟩
      obtain ⟨ty', v1, v2⟩ := u5 p v hv
      exact ⟨ty', v1, tv_up (fun h2 => ty_cls v1 h2) up3 v2⟩
  · rcases new_ne e with e1 | ⟨e1, e2, e3, -⟩
    · rcases new_ne e' with f1 | ⟨f1, f2, f3, -⟩
      · exact t2 c i c' i' a e1 f1
      · have := t3 c i a e1; omega
    · rcases new_ne e' with f1 | ⟨f1, f2, f3, -⟩
      · have := t3 c' i' a f1; omega
      · exact Or.inl ⟨by omega, by omega⟩
  · rcases new_ne e with e1 | ⟨-, -, e3, e4⟩
    · exact Nat.lt_of_lt_of_le (t3 c i a e1) A5.1
    · omega
  · have hc2 := ty_cls ht (by rcases h45 with h4 | h4 <;> omega)
    show ad' c i ≠ none
    rw [eqad c i hc]
    exact t4.1 c p ty hc h0 ht h45 i a (by rw [← eqad _ i hc2]; exact e)
  · obtain ⟨a, ha⟩ := t4.2.1 c hc
    exact ⟨a, up3 c 0 a (sgl_lt hc) ha⟩
  · have hc2 := ty_cls ht (by omega)
    have hne : c ≠ l := by
      intro e
      subst e
      match p, ht with
      | 0, ht => rw [r0] at ht; cases ht; cases h5
      | 1, ht => rw [r1] at ht; cases ht; omega
      | 2, ht => rw [r2] at ht; cases ht; omega
      | p + 3, ht => rw [r6 (p + 3) (by omega)] at ht; cases ht
    rcases t4.2.2 c p ty hc ht h5 i ((at_ne hc hne).mp hA) with e | e
    · exact Or.inl (by show ad' ty.2.1 i = none; rw [eqad _ i hc2]; exact e)
    · exact Or.inr e
  · obtain ⟨hk2, hl21000, -⟩ := ck_l hl2
    replace hq2 : ad' l2 0 = some q2 := hq2
    rw [eqad l2 0 hl21000] at hq2
    by_cases hne : l2 = l
    · subst hne
      rw [hq] at hq2
      cases hq2
      obtain ⟨e1, e2⟩ := (lst_row hl).1 el2 id2 mx2 hl2
      rw [e1, e2]
      exact A6
    · obtain ⟨mc2, ed2, sz2, N, g1, g2, g3⟩ := t5 l2 el2 id2 mx2 hl2 q2 hq2
      refine ⟨mc2, ed2, sz2, N, (stay hl21000 hq2 hne).trans g1, g2, ?_⟩
      rcases g3 with ⟨q5, e1, e2, e3⟩ | ⟨bq, us, f1, f2, f3, f4, f5, f6⟩
      · exact Or.inl ⟨q5, up3 _ _ _ (by unfold stc; omega) e1, e2, e3⟩
      · have hb2 : ¬ (bkc l2 = bkc l ∧ (0 : Nat) = 0) := fun e => hne (by have := e.1; unfold bkc at this; omega)
        refine Or.inr ⟨bq, us, (A1 _ _ hb2).trans f1, f2, ?_, f4, f5, fun k hk => ?_⟩
        · refine (A3 bq (fun e => ?_) (fun e => ?_) (t3 _ _ _ f1)).trans f3
          · rw [e] at f1
            have := (hqt f1).1
            unfold bkc at this
            omega
          · rcases t2 _ _ _ _ _ f1 e with ⟨e3, -⟩ | ⟨⟨-, e3⟩, -⟩
            · exact hb2 ⟨e3, rfl⟩
            · unfold bkc at e3; omega
        · obtain ⟨u, v1, v2⟩ := f6 k hk
          have hel2 := (ck_l hl2).2.2
          refine ⟨u, v1, ?_⟩
          rcases v2 with ⟨v2, v3⟩ | ⟨v2, j, v3, v4⟩
          · exact Or.inl ⟨v2, ref_up hel2 up3 v3⟩
          · exact Or.inr ⟨v2, j, v3, ref_up hel2 up3 v4⟩
  · refine cpat_cong2 up3 (fun m m1 W => ?_) ?_ (t6 t k ht he)
    · exact at_ne (by rw [mplace_1]; exact (cp_ok m1).2.1) (by rw [mplace_1]; exact cp_nl hl m1)
    · unfold Inb
      by_cases e : (cp_at t).1 = 0
      · exact ⟨fun _ => Or.inl e, fun _ => Or.inl e⟩
      · show _ ∨ ad' _ k ≠ none ↔ _
        rw [eqad _ k (lim_lt e)]
  · have hx : x ∈ (l, sk 2147483648, sk 2147483650, w) :: cell_del (upC G (c_del l (g_c G))) l (sk 2147483648) (sk 2147483650) (c_del l (g_c G)) := hx
    rcases List.mem_cons.mp hx with rfl | hx
    · refine cell_mk (I := (I.1, I.2.1, ad')) (a := 0) (b := 2) hl1000 sk_okn sk_okn rfl rfl rfl ⟨q, 12, _, up3 l 0 q hl1000 hq, A4, rfl⟩ (sv_of_int hw)
    · obtain ⟨x1, x2⟩ := c_del_mem (cell_del_mem hx).1
      obtain ⟨y1, y2, y3, y4⟩ := hC x x1
      refine ⟨y1, y2, y3, ?_⟩
      rcases y4 with ⟨d1, i, j, V, d2, d3, d4, d5⟩ | ⟨d1, d2, d3, d4⟩ | ⟨d1, d2, d3, i, a, k, vs, d4, d5, d6, d7⟩ | ⟨d1, d2, d3, d4⟩
      · have ht := tag_I d1
        exact Or.inl ⟨d1, i, j, V, d2, d3, (at_ne y3 (fun e => x2 e (by omega))).mpr d4, hup d5⟩
      · refine Or.inr (Or.inl ⟨d1, d2, d3, fun k => ?_⟩)
        show ad' x.1 k ≠ none ↔ _
        rw [eqad _ k y3]
        exact d4 k
      · by_cases hne : x.1 = l ∧ i = 0
        · obtain ⟨e1, e2⟩ := hne
          subst e2
          rw [e1, hq] at d5
          cases d5
          refine Or.inr (Or.inr (Or.inl ⟨d1, d2, d3, 0, q, 12, _, d4, by rw [e1]; exact up3 _ _ _ hl1000 hq, A4, ?_⟩))
          obtain ⟨-, k', vs', u2, -, u4, -⟩ := t1 l 0 q hl1000 hq
          rw [d6] at u2
          cases u2
          have := u4.1 hm
          rw [d7, this, r7]
          rfl
        · refine Or.inr (Or.inr (Or.inl ⟨d1, d2, d3, i, a, k, vs, d4, up3 _ _ _ y3 d5, (A3 a (fun e => hne ?_) (hbk y3 d5) (t3 _ _ _ d5)).trans d6, d7⟩))
          rw [e] at d5
          exact hqt d5
      · have hno := c_del_mem2 (cell_del_mem hx).1 d1
        refine Or.inr (Or.inr (Or.inr ⟨d1, d2, d3, px_mono y3 (fun c' i' p W hc' hk' hA => (at_ne hc' fun e => ?_).mpr hA) d4⟩))
        subst e
        refine hno _ hk' ?_
        obtain ⟨q', k', vs', a1, a2, a3⟩ := hA
        obtain ⟨-, k2, vs2, u2, -, u4, -⟩ := t1 c' i' q' hc' a1
        rw [a2] at u2
        cases u2
        have := u4.1 hm
        have hp := (List.getElem?_eq_some_iff.mp a3).1
        rw [this, r7] at hp
        have ek : kcode c' p = c' * 128 + p := by unfold kcode; rw [hm]; rfl
        rw [ek]
        omega
  · have h1 : a ≠ q := fun e => by
      rw [e] at ha hb
      rcases s4 l 0 q hq with e2 | e2
      · exact hb l 0 e2
      · omega
    have h2 : I.2.2 (bkc l) 0 ≠ some a := fun e => by
      rcases s4 _ 0 a e with e2 | e2
      · exact hb _ 0 e2
      · omega
    exact (A3 a h1 h2 (Nat.lt_of_lt_of_le ha s7)).trans (s1 a ha hb)
  · have e1 := s3 c i a hc hb
    have hp : kcode c p ∉ (l * 128 + 1) :: l * 128 :: y_code l (sk 2147483650) :: g_k G := hp
    rw [← s2 c i a p hc hb (fun e => hp (List.mem_cons_of_mem _ (List.mem_cons_of_mem _ (List.mem_cons_of_mem _ e))))]
    by_cases hne : a = q
    · subst hne
      obtain ⟨e2, e3⟩ := hqt e1
      subst e2
      obtain ⟨-, k', vs', u2, -, u4, -⟩ := t1 c i a hc e1
      have hlen := u4.1 hm
      rw [r7] at hlen
      have hcode : ∀ p, kcode c p = c * 128 + p := fun p => by
        unfold kcode
        rw [hm]
        rfl
      unfold sl
      rw [A4, u2]
      match p, hp with
      | 0, hp => exact absurd (by rw [hcode]; exact List.mem_cons_of_mem _ List.mem_cons_self) hp
      | 1, hp => exact absurd (by rw [hcode]; exact List.mem_cons_self) hp
      | 2, hp =>
        refine absurd ?_ hp
        rw [hcode]
        have : y_code c (sk 2147483650) = c * 128 + 2 := by
          unfold y_code
          rw [hm]
          rfl
        rw [this]
        exact List.mem_cons_of_mem _ (List.mem_cons_of_mem _ List.mem_cons_self)
      | p + 3, hp =>
        show none = vs'[p + 3]?
        rw [List.getElem?_eq_none (by omega)]
    · exact sl_ne (A3 a hne (hbk hc e1) (t3 _ _ _ e1))
  · exact up3 c i a hc (s3 c i a hc hb)
  · rcases new_ne e with e1 | ⟨-, -, e3, -⟩
    · exact s4 c i a e1
    · exact Or.inr (by omega)
  · show h'.2.1 ≤ _ + (g_q G + dq)
    omega
  · show h'.2.2 ≤ _ + (g_u G + du)
    omega
  · omega
end
