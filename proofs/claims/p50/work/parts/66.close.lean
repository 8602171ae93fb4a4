/-! ===== couplings that hold again are closed ===== -/
section
variable {B : BS} {I : IN} {G G' : SG} {h : AH} {nu' : Nat → Nat}
theorem same_ok {v w : SV} (hR : RM B I G h) (hs : y_same G v w = true) : sval I.1 v = sval I.1 w := by
  unfold y_same at hs
  cases e : veq v w
  · rw [e, cond_false] at hs
    obtain ⟨h1, h2⟩ := and2 hs
    obtain ⟨h2, h3⟩ := and2 h2
    have b1 := itv_ok hR.1.1 v
    have b2 := itv_ok hR.1.1 w
    have := beqt h1
    have := beqt h2
    have := beqt h3
    omega
  · rw [veq_ok e]
theorem dc_gv {ad : AD} {all : Bool} {k g x : Nat} {gv : Nat → Nat} : ∀ {ms ds : List (Nat × Nat × Nat)}, grp1 g ds = 0 → DC all ad h k gv ms ds → DC all ad h k (fun i => if i = g then x else gv i) ms ds := by
  intro ms
  induction ms with
  | nil => intro ds _ _; cases ds <;> exact True.intro
  | cons m ms ih =>
    intro ds hg hD
    cases ds with
    | nil => exact True.intro
    | cons d ds =>
      unfold grp1 at hg
      cases hb : Nat.beq d.1 g
      · rw [hb, cond_false, Nat.zero_add] at hg
        refine ⟨fun ha => ?_, ih hg hD.2⟩
        obtain ⟨y, y1, y2, y3⟩ := hD.1 ha
        refine ⟨y, y1, ?_, y3⟩
        show i2n y = if d.1 = g then x else gv d.1
        rw [if_neg (beqf hb)]; exact y2
      · rw [hb, cond_true] at hg; omega
theorem sat1_ok {all : Bool} {t k : Nat} {e : SV} (hR : RM B I G h) (ie : isI e = true) (oe : okn (g_n G) e) (he : sval I.1 e = 2147483648 + k) (hpl : ∀ m, m ∈ (cp_at t).2.1 → ∀ v, y_find G (cp_place m e).1 (cp_place m e).2.1 (cp_place m e).2.2 = some v → isI v = true → ∃ x, AtM I.2.2 h m k (.int x) ∧ i2n x = sval I.1 v) : ∀ {ms ds : List (Nat × Nat × Nat)} {gs : List (Nat × SV)} {gv0 : Nat → Nat}, (∀ m, m ∈ ms → m ∈ (cp_at t).2.1) → (∀ g w, v_find g gs = some w → sval I.1 w = gv0 g) → sat1 all G e gs ms ds = true → ∃ gv, (∀ g w, v_find g gs = some w → gv g = gv0 g) ∧ DC all I.2.2 h k gv ms ds := by
  intro ms
  induction ms with
  | nil => intro ds gs gv0 _ _ _; exact ⟨gv0, fun _ _ _ => rfl, by cases ds <;> exact True.intro⟩
  | cons m ms ih =>
    intro ds gs gv0 hm hg hs
    cases ds with
    | nil => exact ⟨gv0, fun _ _ _ => rfl, True.intro⟩
    | cons d ds =>
      have hm' : ∀ m, m ∈ ms → m ∈ (cp_at t).2.1 := fun m hm2 => hm m (List.mem_cons_of_mem _ hm2)
      unfold sat1 at hs
      cases ha : all || Nat.beq m.2.1 1
      · rw [ha, cond_false] at hs
        obtain ⟨gv, g1, g2⟩ := ih hm' hg hs
        exact ⟨gv, g1, (fun hh => by rw [ha] at hh; cases hh), g2⟩
      · rw [ha, cond_true] at hs
        dsimp only at hs
        split at hs
        · rename_i v hv
          replace hs := bifb hs
          obtain ⟨s0, hs⟩ := hs
          obtain ⟨s1, s2⟩ := and2 s0
          obtain ⟨x, x1, x2⟩ := hpl m (hm m List.mem_cons_self) v hv s1
          have ov : okn (g_n G) v := by
            obtain ⟨-, -, -, h4⟩ := hR.2.2.2.2.2.1 _ (c_find_ok hv)
            rcases h4 with ⟨-, i, j, V, -, -, -, h5⟩ | ⟨-, -, h5, -⟩ | ⟨-, -, h5, -⟩
            · obtain ⟨X, -, hX⟩ := sv_int h5 s1
              exact hX.2.1
            · exact h5
            · exact h5
          have hr := fit_ok (X := x) hR.1 ⟨s1, ov, x2⟩ s2
          split at hs
          · rename_i hvf
            obtain ⟨gv, g1, g2⟩ := ih (gs := (d.1, v) :: gs) (gv0 := fun i => if i = d.1 then sval I.1 v else gv0 i) hm' (fun g w hw => by
              unfold v_find at hw
              cases hb : Nat.beq d.1 g
              · rw [hb, cond_false] at hw
                show _ = if g = d.1 then _ else _
                rw [if_neg (fun e => beqf hb e.symm)]
                exact hg g w hw
              · rw [hb, cond_true] at hw
                cases hw
                show _ = if g = d.1 then _ else _
                rw [if_pos (beqt hb).symm]) hs
            refine ⟨gv, fun g w hw => ?_, fun _ => ⟨x, x1, ?_, hr⟩, g2⟩
            · have hne : ¬ g = d.1 := fun e => by rw [e, hvf] at hw; cases hw
              have := g1 g w (by
                unfold v_find
                have hb : Nat.beq d.1 g = false := by
                  cases hb : Nat.beq d.1 g
                  · rfl
                  · exact absurd (beqt hb).symm hne
                rw [hb]; exact hw)
              rw [this]
              exact if_neg hne
            · have := g1 d.1 v (by unfold v_find; rw [Nat.beq_refl]; rfl)
              rw [this]
              show i2n x = if d.1 = d.1 then _ else _
              rw [if_pos rfl]; exact x2
          · rename_i w hw
            replace hs := bifb hs
            obtain ⟨s3, hs⟩ := hs
            obtain ⟨gv, g1, g2⟩ := ih hm' hg hs
            refine ⟨gv, g1, fun _ => ⟨x, x1, ?_, hr⟩, g2⟩
            rw [g1 d.1 w hw, ← hg d.1 w hw, same_ok hR s3]
            exact x2
        · replace hs := bifb hs
          obtain ⟨s0, hs⟩ := hs
          obtain ⟨s0, s1⟩ := and2 s0
          obtain ⟨s0, s2⟩ := and2 s0
          obtain ⟨s0, s3⟩ := and2 s0
          obtain ⟨s3, s4⟩ := and2 s3
          obtain ⟨s2, s5⟩ := and2 s2
          obtain ⟨s1, s6⟩ := and2 s1
          obtain ⟨s1, s7⟩ := and2 s1
          obtain ⟨s7, s8⟩ := and2 s7
          have a0 := beqt s0
          have a3 := beqt s3
          have a7 := blet s7
          have a8 := blet s8
          have be := itv_ok hR.1.1 e
          have hT := hR.2.2.2.1
          obtain ⟨q0, hq0⟩ := hT.2.2.2.1.2.1 m.1 s4
          obtain ⟨-, kk, vs, u2, -, u4, u5⟩ := hT.1 m.1 0 q0 (sgl_lt s4) hq0
          have hlen : k < vs.length := by
            have h0 : 0 < cdm m.1 := by omega
            have := u4.2.1 h0 a8
            omega
          have hmp : mplace m k = (m.1, 0, k) := by
            unfold mplace
            rw [a0, a3, Nat.sub_self]
            rfl
          obtain ⟨ty, y1, y2⟩ := u5 k vs[k] (List.getElem?_eq_getElem hlen)
          have hx : ∃ x, vs[k] = .int x ∧ (d.2.1 ≤ i2n x ∧ i2n x ≤ d.2.2) := by
            split at s6
            · rename_i t0 ht0
              obtain ⟨s6, s9⟩ := and2 s6
              obtain ⟨s9, s10⟩ := and2 s9
              have b9 := blet s9
              have b10 := blet s10
              have b6 := beqt s6
              have ety : ty = t0 := by
                unfold ct_at at y1
                have hz : Nat.beq (cdm m.1) 0 = false := by
                  cases hz : Nat.beq (cdm m.1) 0
                  · rfl
                  · have := beqt hz; omega
                rw [hz, cond_false, ht0] at y1
                exact (Option.some.inj y1).symm
              rw [ety] at y2
              rcases y2 with ⟨-, x, z1, z2, z3⟩ | ⟨z, -⟩ | ⟨z, -⟩ | ⟨z, -⟩ | ⟨z, -⟩ | ⟨z, -⟩ | ⟨z, -⟩ | ⟨z, -⟩ | z <;> first | omega | exact ⟨x, z1, by omega, by omega⟩
            · cases s6
          obtain ⟨x, x1, x2⟩ := hx
          have hA : AtM I.2.2 h m k (.int x) := by
            unfold AtM
            rw [hmp]
            exact ⟨q0, kk, vs, hq0, u2, by rw [← x1]; exact List.getElem?_eq_getElem hlen⟩
          obtain ⟨gv, g1, g2⟩ := ih hm' hg hs
          refine ⟨fun i => if i = d.1 then i2n x else gv i, fun g w hw => ?_, fun _ => ⟨x, hA, ?_, x2⟩, dc_gv (beqt s2) g2⟩
          · have hne : ¬ g = d.1 := by
              intro e1
              rw [e1] at hw
              rw [hw] at s5
              cases s5
            show (if g = d.1 then _ else _) = _
            rw [if_neg hne]; exact g1 g w hw
          · show i2n x = if d.1 = d.1 then _ else _
            rw [if_pos rfl]
theorem sats_ok {all : Bool} {t k : Nat} {e : SV} (hR : RM B I G h) (ie : isI e = true) (oe : okn (g_n G) e) (he : sval I.1 e = 2147483648 + k) : ∀ {dd : List (List (Nat × Nat × Nat))}, sats all G e (cp_at t).2.1 dd = true → ∃ d gv, d ∈ dd ∧ DC all I.2.2 h k gv (cp_at t).2.1 d := by
  intro dd
  induction dd with
  | nil => intro h; cases h
  | cons d r ih =>
    intro hs
    unfold sats at hs
    cases hb : sat1 all G e [] (cp_at t).2.1 d
    · rw [hb, cond_false] at hs
      obtain ⟨d', gv, h1, h2⟩ := ih hs
      exact ⟨d', gv, List.mem_cons_of_mem _ h1, h2⟩
    · have hpl : ∀ m, m ∈ (cp_at t).2.1 → ∀ v, y_find G (cp_place m e).1 (cp_place m e).2.1 (cp_place m e).2.2 = some v → isI v = true → ∃ x, AtM I.2.2 h m k (.int x) ∧ i2n x = sval I.1 v := by
        intro m hm v hv iv
        obtain ⟨p1, p2, p3, p4, p5, p6, p7, p8⟩ := pl_ok (nu := I.1) hm ie oe he
        obtain ⟨-, -, -, h4⟩ := hR.2.2.2.2.2.1 _ (c_find_ok hv)
        rcases h4 with ⟨-, i', j', V', e1, e2, e3, e4⟩ | ⟨e1, -⟩ | ⟨e1, -⟩
        · obtain ⟨x, rfl, hx⟩ := sv_int e4 iv
          refine ⟨x, ?_, hx.2.2⟩
          have a1 : i' = (mplace m k).2.1 := by
            have : sval I.1 (cp_place m e).2.1 = 2147483648 + i' := e1
            omega
          have a2 : j' = (mplace m k).2.2 := by
            have : sval I.1 (cp_place m e).2.2 = 2147483648 + j' := e2
            omega
          unfold AtM
          rw [← a1, ← a2, ← p1]
          exact e3
        · exact absurd e1 (isI_8 p5).1
        · exact absurd e1 (isI_8 p5).2
      obtain ⟨gv, -, g2⟩ := sat1_ok (t := t) (gs := []) (gv0 := fun _ => 0) hR ie oe he hpl (fun m hm => hm) (fun g w hw => by cases hw) hb
      exact ⟨d, gv, List.mem_cons_self, g2⟩
theorem dc_get {ad : AD} {k : Nat} {gv : Nat → Nat} {m : Nat × Nat × Nat} : ∀ {ms ds : List (Nat × Nat × Nat)}, ms.length ≤ ds.length → m ∈ ms → DC true ad h k gv ms ds → ∃ x, AtM ad h m k (.int x) := by
  intro ms
  induction ms with
  | nil => intro ds _ hm; cases hm
  | cons m' ms ih =>
    intro ds hl hm hD
    cases ds with
    | nil => exact absurd hl (by rw [List.length_cons]; exact Nat.not_succ_le_zero _)
    | cons d ds =>
      rcases List.mem_cons.mp hm with e | hm
      · rw [e]
        obtain ⟨x, x1, -⟩ := hD.1 rfl
        exact ⟨x, x1⟩
      · exact ih (Nat.le_of_succ_le_succ hl) hm hD.2
theorem ck_lim : cpt.all (fun c => (Nat.beq c.1 0 || c.2.1.any (fun m => Nat.beq (m.1 + 1) c.1)) && c.2.2.1.all (fun d => Nat.ble c.2.1.length d.length)) = true := by decide +kernel
theorem sat_inb {t k : Nat} {ad : AD} {d : List (Nat × Nat × Nat)} {gv : Nat → Nat} (hd : d ∈ (cp_at t).2.2.1) (hD : DC true ad h k gv (cp_at t).2.1 d) : Inb ad (cp_at t).1 k := by
  have hk : (Nat.beq (cp_at t).1 0 || (cp_at t).2.1.any (fun m => Nat.beq (m.1 + 1) (cp_at t).1)) = true ∧ Nat.ble (cp_at t).2.1.length d.length = true := by
    unfold cp_at at hd ⊢
    by_cases ht : t < cpt.length
    · rw [List.getD_eq_getElem?_getD, List.getElem?_eq_getElem ht, Option.getD_some] at hd ⊢
      obtain ⟨h1, h2⟩ := and2 (List.all_eq_true.mp ck_lim _ (List.getElem_mem ht))
      exact ⟨h1, List.all_eq_true.mp h2 d hd⟩
    · rw [List.getD_eq_getElem?_getD, List.getElem?_eq_none (by omega)] at hd
      cases hd
  rcases or2 hk.1 with e | e
  · exact Or.inl (beqt e)
  · obtain ⟨m, m1, m2⟩ := List.any_eq_true.mp e
    have m2 := beqt m2
    obtain ⟨x, q, kk, vs, a1, -⟩ := dc_get (blet hk.2) m1 hD
    obtain ⟨-, -, -, p4, -⟩ := cp_ok m1
    refine Or.inr ?_
    have e2 : mplace m k = (m.1, k, m.2.2 - 2147483648) := by unfold mplace; rw [p4 m2]; rfl
    rw [e2] at a1
    rw [← m2, Nat.add_sub_cancel]
    intro e3
    rw [e3] at a1; cases a1
theorem x_done_ok {t k : Nat} {e : SV} (hR : RM B I G h) (ie : isI e = true) (oe : okn (g_n G) e) (he : sval I.1 e = 2147483648 + k) (hs : x_done G t e = true) : CpAt I.2.2 h t k := by
  unfold x_done at hs
  intro hm
  cases h1 : sats true G e (cp_at t).2.1 (cp_at t).2.2.1
  · rw [h1, cond_false] at hs
    cases h2 : Nat.beq (cp_at t).1 0
    · rw [h2, cond_false] at hs
      split at hs
      · cases hs
      · rename_i n hn
        obtain ⟨s1, s2⟩ := and2 hs
        obtain ⟨-, n1, n2, n3⟩ := cnt_ok hR hn
        have := y_le_ok hR.1 n2 oe s1
        have hno : ¬ Inb I.2.2 (cp_at t).1 k := by
          rintro (w | w)
          · exact beqf h2 w
          · have := (n3 k).mp w; omega
        obtain ⟨d, gv, d1, d2⟩ := sats_ok hR ie oe he s2
        exact ⟨fun hi => absurd hi hno, fun _ => ⟨d, gv, d1, d2⟩⟩
    · rw [h2, cond_true] at hs; cases hs
  · obtain ⟨d, gv, d1, d2⟩ := sats_ok hR ie oe he h1
    by_cases hi : Inb I.2.2 (cp_at t).1 k
    · exact ⟨fun _ => ⟨d, gv, d1, d2⟩, fun hn => absurd hi hn⟩
    · exact absurd (sat_inb d1 d2) hi
theorem x_rest_mem {x : Nat × SV} : ∀ {X : List (Nat × SV)}, (x ∈ x_rest G X → x ∈ X) ∧ (x ∈ X → x ∈ x_rest G X ∨ (isI x.2 = true ∧ x_done G x.1 x.2 = true)) := by
  intro X
  induction X with
  | nil => exact ⟨fun h => h, fun h => by cases h⟩
  | cons q r ih =>
    unfold x_rest
    cases hb : isI q.2 && x_done G q.1 q.2
    · rw [cond_false]
      refine ⟨fun h => ?_, fun h => ?_⟩
      · rcases List.mem_cons.mp h with e | h
        · rw [e]; exact List.mem_cons_self
        · exact List.mem_cons_of_mem _ (ih.1 h)
      · rcases List.mem_cons.mp h with e | h
        · rw [e]; exact Or.inl List.mem_cons_self
        · rcases ih.2 h with h | h
          · exact Or.inl (List.mem_cons_of_mem _ h)
          · exact Or.inr h
    · rw [cond_true]
      refine ⟨fun h => List.mem_cons_of_mem _ (ih.1 h), fun h => ?_⟩
      rcases List.mem_cons.mp h with e | h
      · rw [e]; exact Or.inr (and2 hb)
      · exact ih.2 h
theorem y_close_ok (hR : RM B I G h) : RM B I (y_close G) h := by
  have hR0 := hR
  obtain ⟨hg, hH, hRa, ⟨t1, t2, t3, t4, t5, t6⟩, hX, hC, hS⟩ := hR
  refine ⟨hg, hH, hRa, ⟨t1, t2, t3, t4, t5, fun t k ht hex => ?_⟩, fun x hx => hX x (x_rest_mem.1 hx), hC, hS⟩
  by_cases hold : ExG I.1 (g_x G) t k
  · obtain ⟨e, e1, e2⟩ := hold
    rcases x_rest_mem.2 e1 with w | w
    · exact absurd ⟨e, w, e2⟩ hex
    · exact x_done_ok hR0 w.1 (hX _ e1) e2 w.2
  · exact t6 t k ht hold
end
