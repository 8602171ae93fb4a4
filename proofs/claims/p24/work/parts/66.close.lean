/-! ===== couplings that hold again are closed ===== -/
section
variable {B : BS} {I : IN} {G G' : SG} {h : AH} {nu' : Nat → Nat}
theorem same_ok {v w : SV} (hR : RM B I G h) (hs : y_same G v w = true) : sval I.1 v = sval I.1 w := by
  unfold y_same at hs
  cases e : veq v w
  · rw [e, cond_false] at hs
    obtain ⟨h1, h2⟩ := and2 hs
    obtain ⟨h2, h3⟩ := and2 h2
    have b1 := itv_ok hR.1.1 v
    have b2 := itv_ok hR.1.1 w
    have := beqt h1
    have := beqt h2
    have := beqt h3
    omega
  · rw [veq_ok e]
theorem dc_gv {ad : AD} {all : Bool} {k g x : Nat} {gv : Nat → Nat} : ∀ {ms ds : List (Nat × Nat × Nat)}, grp1 g ds = 0 → DC all ad h k gv ms ds → DC all ad h k (fun i => if i = g then x else gv i) ms ds := by
  intro ms
  induction ms with
  | nil => intro ds _ _; cases ds <;> exact True.intro
  | cons m ms ih =>
    intro ds hg hD
    cases ds with
    | nil => exact True.intro
    | cons d ds =>
      unfold grp1 at hg
      cases hb : Nat.beq (d.1 % 100) g
      · rw [hb, cond_false, Nat.zero_add] at hg
        refine ⟨fun ha => ?_, ih hg hD.2⟩
        have hE := hD.1 ha
        have eg : (fun i => if i = g then x else gv i) (d.1 % 100) = gv (d.1 % 100) := if_neg (beqf hb)
        unfold EnOK at hE ⊢
        rw [eg]
        exact hE
      · rw [hb, cond_true] at hg; omega
theorem fit_sv {v : SV} {lo hi : Nat} (hR : RM B I G h) (ov : okn (g_n G) v) (hf : y_fitI G v lo hi = true) : lo ≤ sval I.1 v ∧ sval I.1 v ≤ hi := by
  have bv := itv_ok hR.1.1 v
  obtain ⟨h1, h2⟩ := and2 hf
  constructor
  · cases hb : Nat.ble lo (itv G v).1
    · rw [hb, cond_false] at h1
      have := y_le_ok hR.1 sk_okn ov h1
      rw [sk_val] at this
      omega
    · have := blet hb
      omega
  · cases hb : Nat.ble (itv G v).2 hi
    · rw [hb, cond_false] at h2
      have := y_le_ok hR.1 ov sk_okn h2
      rw [sk_val] at this
      omega
    · have := blet hb
      omega
theorem mm_suc_ok {u n : SV} (hR : RM B I G h) (iu : isI u = true) (ou : okn (g_n G) u) (hs : mm_suc G u = some n) : isI n = true ∧ (okn (g_n G) n ∧ sval I.1 n = sval I.1 u + 1) := by
  have bu := itv_ok hR.1.1 u
  unfold mm_suc at hs
  obtain ⟨g1, hs⟩ := bif_some hs
  have g1 := blet g1
  cases g2 : Nat.beq (itv G u).1 (itv G u).2
  · rw [g2, cond_false] at hs
    split at hs
    · rename_i i hi
      have e := Option.some.inj hs
      subst e
      obtain ⟨d1, d2, d3, d4⟩ := hR.1.2.1 _ (s_def_ok hi)
      refine ⟨rfl, fun _ => d1, ?_⟩
      show I.1 i = sval I.1 u + 1
      unfold OpR at d4
      rcases d4 with ⟨-, X, Y, z, e1, e2, e3, e4⟩ | d4
      · have ez : z = X + Y := (Option.some.inj e3).symm
        rw [← e4, ez, kb_add, e1, e2]
        show (sval I.1 u + 2147483649 + 2147483648) % 4294967296 = sval I.1 u + 1
        omega
      · exfalso
        revert d4
        simp
    · cases hs
  · rw [g2, cond_true] at hs
    have e := Option.some.inj hs
    subst e
    have := beqt g2
    refine ⟨rfl, sk_okn, ?_⟩
    rw [sk_val]
    omega
theorem en_num_ok {m d : Nat × Nat × Nat} {v n : SV} {V : Value} (hR : RM B I G h) (hs : SVm I (g_h G).length (g_n G) v V) (ht : (Nat.ble d.1 99 || Nat.beq v.2.1 (tgc m)) = true) (hn : en_num G d v = some n) : isI n = true ∧ (okn (g_n G) n ∧ EV I.2.2 m d V (sval I.1 n)) := by
  unfold en_num at hn
  cases b0 : Nat.ble d.1 99
  · rw [b0, cond_false] at hn
    rw [b0] at ht
    have ht := beqt (or2 ht |>.resolve_left (fun e => by cases e))
    replace hn := bif_some hn
    obtain ⟨n1, hn⟩ := hn
    obtain ⟨n2, n3⟩ := and2 n1
    have n3 := blet n3
    obtain ⟨o1, o2, o3⟩ := sv_typ hs n2
    have bv := itv_ok hR.1.1 (y_idx v)
    rcases o3 with ⟨o4, -⟩ | ⟨o4, q, o5, rfl⟩
    · omega
    · rw [ht] at o5
      cases b1 : Nat.ble d.1 199
      · rw [b1, cond_false] at hn
        obtain ⟨m1, m2, m3⟩ := mm_suc_ok hR (idx_I' v) o1 hn
        refine ⟨m1, m2, Or.inr ⟨b0, _, q, rfl, o5, ?_⟩⟩
        have eo : en_off d = 1 := by unfold en_off; rw [b1]; rfl
        rw [eo, m3]
        omega
      · rw [b1, cond_true] at hn
        have e := Option.some.inj hn
        subst e
        refine ⟨idx_I' v, o1, Or.inr ⟨b0, _, q, rfl, o5, ?_⟩⟩
        have eo : en_off d = 0 := by unfold en_off; rw [b1]; rfl
        rw [eo]
        omega
  · rw [b0, cond_true] at hn
    replace hn := bif_some hn
    obtain ⟨n1, hn⟩ := hn
    have e := Option.some.inj hn
    subst e
    obtain ⟨x, rfl, hx⟩ := sv_int hs n1
    exact ⟨n1, hx.2.1, Or.inl ⟨b0, x, rfl, hx.2.2⟩⟩
theorem sat1_ok {all : Bool} {t k : Nat} {e : SV} (hR : RM B I G h) (ie : isI e = true) (oe : okn (g_n G) e) (he : sval I.1 e = 2147483648 + k) (hpl : ∀ m, m ∈ (cp_at t).2.1 → ∀ v, y_find G (cp_place m e).1 (cp_place m e).2.1 (cp_place m e).2.2 = some v → ∃ V, AtM I.2.2 h m k V ∧ SVm I (g_h G).length (g_n G) v V) : ∀ {ms ds : List (Nat × Nat × Nat)} {gs : List (Nat × SV)} {gv0 : Nat → Nat}, (∀ m, m ∈ ms → m ∈ (cp_at t).2.1) → (∀ g w, v_find g gs = some w → sval I.1 w = gv0 g) → sat1 all G e gs ms ds = true → ∃ gv, (∀ g w, v_find g gs = some w → gv g = gv0 g) ∧ DC all I.2.2 h k gv ms ds := by
  intro ms
  induction ms with
  | nil => intro ds gs gv0 _ _ _; exact ⟨gv0, fun _ _ _ => rfl, by cases ds <;> exact True.intro⟩
  | cons m ms ih =>
    intro ds gs gv0 hm hg hs
    cases ds with
    | nil => exact ⟨gv0, fun _ _ _ => rfl, True.intro⟩
    | cons d ds =>
      have hm' : ∀ m, m ∈ ms → m ∈ (cp_at t).2.1 := fun m hm2 => hm m (List.mem_cons_of_mem _ hm2)
      unfold sat1 at hs
      cases ha : all || Nat.beq m.2.1 1
      · rw [ha, cond_false] at hs
        obtain ⟨gv, g1, g2⟩ := ih hm' hg hs
        exact ⟨gv, g1, (fun hh => by rw [ha] at hh; cases hh), g2⟩
      · rw [ha, cond_true] at hs
        cases b9 : Nat.ble 601 d.1
        · rw [b9, cond_false] at hs
          dsimp only at hs
          split at hs
          · rename_i v hv
            obtain ⟨V, x1, x2⟩ := hpl m (hm m List.mem_cons_self) v hv
            cases b1 : Nat.ble d.1 299
            · rw [b1, cond_false] at hs
              have b0 : Nat.ble d.1 99 = false := by
                cases b0 : Nat.ble d.1 99
                · rfl
                · rw [b99 b0] at b1; cases b1
              have fin : EnOK I.2.2 h k gv0 m d → (∃ gv, (∀ g w, v_find g gs = some w → gv g = gv0 g) ∧ DC all I.2.2 h k gv ms ds) → (∀ gv : Nat → Nat, EnOK I.2.2 h k gv m d) → ∃ gv, (∀ g w, v_find g gs = some w → gv g = gv0 g) ∧ DC all I.2.2 h k gv (m :: ms) (d :: ds) := fun _ ⟨gv, g1, g2⟩ hall => ⟨gv, g1, fun _ => hall gv, g2⟩
              have opn9 : ∀ {P : Prop} (gv : Nat → Nat), (EnOK I.2.2 h k gv m d = (bif Nat.beq d.1 300 then AtM I.2.2 h m k .null else bif Nat.beq d.1 400 then (∃ q, AtM I.2.2 h m k (.ref q) ∧ I.2.2 (tgc m) k = some q) else bif Nat.beq d.1 600 then (∃ x, AtM I.2.2 h m k (.int x) ∧ i2n x = 2147483648 + k) else True)) := fun {P} gv => by
                unfold EnOK
                rw [b0, cond_false, b1, cond_false]
              cases b3 : Nat.beq d.1 300
              · rw [b3, cond_false] at hs
                cases b4 : Nat.beq d.1 400
                · rw [b4, cond_false] at hs
                  cases b6 : Nat.beq d.1 600
                  · rw [b6, cond_false] at hs; cases hs
                  · rw [b6, cond_true] at hs
                    replace hs := bifb hs
                    obtain ⟨s1, hs⟩ := hs
                    obtain ⟨s1, s2⟩ := and2 s1
                    obtain ⟨x, rfl, hx⟩ := sv_int x2 s1
                    have hE : ∀ gv : Nat → Nat, EnOK I.2.2 h k gv m d := fun gv => by
                      rw [opn9 (P := True) gv, b3, cond_false, b4, cond_false, b6, cond_true]
                      exact ⟨x, x1, by rw [hx.2.2, same_ok hR s2]; exact he⟩
                    exact fin (hE _) (ih hm' hg hs) hE
                · rw [b4, cond_true] at hs
                  replace hs := bifb hs
                  obtain ⟨s1, hs⟩ := hs
                  obtain ⟨s1, s2⟩ := and2 s1
                  obtain ⟨s2, s3⟩ := and2 s2
                  obtain ⟨s4, s5⟩ := and2 s1
                  have s5 := blet s5
                  have s2 := veq_ok s2
                  have s3 := beqt s3
                  obtain ⟨o1, o2, o3⟩ := sv_typ x2 s4
                  have bv := itv_ok hR.1.1 (y_idx v)
                  rw [s2] at o3
                  rcases o3 with ⟨o4, -⟩ | ⟨o4, q, o5, rfl⟩
                  · rw [he] at o4
                    omega
                  · have hE : ∀ gv : Nat → Nat, EnOK I.2.2 h k gv m d := fun gv => by
                      rw [opn9 (P := True) gv, b3, cond_false, b4, cond_true]
                      refine ⟨q, x1, ?_⟩
                      rw [s3, he, Nat.add_sub_cancel_left] at o5
                      exact o5
                    exact fin (hE _) (ih hm' hg hs) hE
              · rw [b3, cond_true] at hs
                replace hs := bifb hs
                obtain ⟨s1, hs⟩ := hs
                have := sv_null x2 (beqt s1)
                subst this
                have hE : ∀ gv : Nat → Nat, EnOK I.2.2 h k gv m d := fun gv => by
                  rw [opn9 (P := True) gv, b3, cond_true]
                  exact x1
                exact fin (hE _) (ih hm' hg hs) hE
            · rw [b1, cond_true] at hs
              split at hs
              · cases hs
              · rename_i n hn
                replace hs := bifb hs
                obtain ⟨s0, hs⟩ := hs
                obtain ⟨s1, s2⟩ := and2 s0
                obtain ⟨n1, n2, n3⟩ := en_num_ok (m := m) hR x2 s2 hn
                have hr := fit_sv hR n2 s1
                split at hs
                · rename_i hvf
                  obtain ⟨gv, g1, g2⟩ := ih (gs := (d.1 % 100, n) :: gs) (gv0 := fun i => if i = d.1 % 100 then sval I.1 n else gv0 i) hm' (fun g w hw => by
                    unfold v_find at hw
                    cases hb : Nat.beq (d.1 % 100) g
                    · rw [hb, cond_false] at hw
                      show _ = if g = d.1 % 100 then _ else _
                      rw [if_neg (fun e => beqf hb e.symm)]
                      exact hg g w hw
                    · rw [hb, cond_true] at hw
                      cases hw
                      show _ = if g = d.1 % 100 then _ else _
                      rw [if_pos (beqt hb).symm]) hs
                  refine ⟨gv, fun g w hw => ?_, fun _ => (enok_lo b1).mpr ⟨V, sval I.1 n, x1, n3, ?_, hr⟩, g2⟩
                  · have hne : ¬ g = d.1 % 100 := fun e => by rw [e, hvf] at hw; cases hw
                    have := g1 g w (by
                      unfold v_find
                      have hb : Nat.beq (d.1 % 100) g = false := by
                        cases hb : Nat.beq (d.1 % 100) g
                        · rfl
                        · exact absurd (beqt hb).symm hne
                      rw [hb]; exact hw)
                    rw [this]
                    exact if_neg hne
                  · have := g1 (d.1 % 100) n (by unfold v_find; rw [Nat.beq_refl]; rfl)
                    rw [this]
                    show sval I.1 n = if d.1 % 100 = d.1 % 100 then _ else _
                    rw [if_pos rfl]
                · rename_i w hw
                  replace hs := bifb hs
                  obtain ⟨s3, hs⟩ := hs
                  obtain ⟨gv, g1, g2⟩ := ih hm' hg hs
                  refine ⟨gv, g1, fun _ => (enok_lo b1).mpr ⟨V, sval I.1 n, x1, n3, ?_, hr⟩, g2⟩
                  rw [g1 _ w hw, ← hg _ w hw, same_ok hR s3]
          · replace hs := bifb hs
            obtain ⟨s0, hs⟩ := hs
            obtain ⟨b0, s0⟩ := and2 s0
            have em : d.1 % 100 = d.1 := Nat.mod_eq_of_lt (by have := blet b0; omega)
            obtain ⟨s0, s1⟩ := and2 s0
            obtain ⟨s0, s2⟩ := and2 s0
            obtain ⟨s0, s3⟩ := and2 s0
            obtain ⟨s3, s4⟩ := and2 s3
            obtain ⟨s2, s5⟩ := and2 s2
            obtain ⟨s1, s6⟩ := and2 s1
            obtain ⟨s1, s7⟩ := and2 s1
            obtain ⟨s7, s8⟩ := and2 s7
            have a0 := beqt s0
            have a3 := beqt s3
            have a7 := blet s7
            have a8 := blet s8
            have be := itv_ok hR.1.1 e
            have hT := hR.2.2.2.1
            obtain ⟨q0, hq0⟩ := hT.2.2.2.1.2.1 m.1 s4
            obtain ⟨-, kk, vs, u2, -, u4, u5⟩ := hT.1 m.1 0 q0 (sgl_lt s4) hq0
            have hlen : k < vs.length := by
              have h0 : 0 < cdm m.1 := by omega
              have := u4.2.1 h0 a8
              omega
            have hmp : mplace m k = (m.1, 0, k) := by
              unfold mplace
              rw [a0, a3, Nat.sub_self]
              rfl
            obtain ⟨ty, y1, y2⟩ := u5 k vs[k] (List.getElem?_eq_getElem hlen)
            have hx : ∃ x, vs[k] = .int x ∧ (d.2.1 ≤ i2n x ∧ i2n x ≤ d.2.2) := by
              split at s6
              · rename_i t0 ht0
                obtain ⟨s6, s9⟩ := and2 s6
                obtain ⟨s9, s10⟩ := and2 s9
                have b9 := blet s9
                have b10 := blet s10
                have b6 := beqt s6
                have ety : ty = t0 := by
                  unfold ct_at at y1
                  have hz : Nat.beq (cdm m.1) 0 = false := by
                    cases hz : Nat.beq (cdm m.1) 0
                    · rfl
                    · have := beqt hz; omega
                  rw [hz, cond_false, ht0] at y1
                  exact (Option.some.inj y1).symm
                rw [ety] at y2
                rcases y2 with ⟨-, x, z1, z2, z3⟩ | ⟨z, -⟩ | ⟨z, -⟩ | ⟨z, -⟩ | ⟨z, -⟩ | ⟨z, -⟩ | ⟨z, -⟩ | ⟨z, -⟩ | z <;> first | omega | exact ⟨x, z1, by omega, by omega⟩
              · cases s6
            obtain ⟨x, x1, x2⟩ := hx
            have hA : AtM I.2.2 h m k (.int x) := by
              unfold AtM
              rw [hmp]
              exact ⟨q0, kk, vs, hq0, u2, by rw [← x1]; exact List.getElem?_eq_getElem hlen⟩
            obtain ⟨gv, g1, g2⟩ := ih hm' hg hs
            refine ⟨fun i => if i = d.1 then i2n x else gv i, fun g w hw => ?_, fun _ => ?_, dc_gv (beqt s2) g2⟩
            · have hne : ¬ g = d.1 := by
                intro e1
                rw [e1] at hw
                rw [hw] at s5
                cases s5
              show (if g = d.1 then _ else _) = _
              rw [if_neg hne]; exact g1 g w hw
            · unfold EnOK
              rw [b0, cond_true]
              refine ⟨x, hA, ?_, x2⟩
              show i2n x = if d.1 % 100 = d.1 then _ else _
              rw [if_pos em]
        · rw [b9, cond_true] at hs
          obtain ⟨gv, g1, g2⟩ := ih hm' hg hs
          refine ⟨gv, g1, fun _ => ?_, g2⟩
          have b9 := blet b9
          have n1 : Nat.ble d.1 99 = false := by cases e : Nat.ble d.1 99 with | false => rfl | true => exact absurd (blet e) (by omega)
          have n2 : Nat.ble d.1 299 = false := by cases e : Nat.ble d.1 299 with | false => rfl | true => exact absurd (blet e) (by omega)
          have n3 : Nat.beq d.1 300 = false := by cases e : Nat.beq d.1 300 with | false => rfl | true => exact absurd (beqt e) (by omega)
          have n4 : Nat.beq d.1 400 = false := by cases e : Nat.beq d.1 400 with | false => rfl | true => exact absurd (beqt e) (by omega)
          have n5 : Nat.beq d.1 600 = false := by cases e : Nat.beq d.1 600 with | false => rfl | true => exact absurd (beqt e) (by omega)
          unfold EnOK
          rw [n1, cond_false, n2, cond_false, n3, cond_false, n4, cond_false, n5, cond_false]
          exact True.intro
theorem sats_ok {all : Bool} {t k : Nat} {e : SV} (hR : RM B I G h) (ie : isI e = true) (oe : okn (g_n G) e) (he : sval I.1 e = 2147483648 + k) : ∀ {dd : List (List (Nat × Nat × Nat))}, sats all G e (cp_at t).2.1 dd = true → ∃ d gv, d ∈ dd ∧ DC all I.2.2 h k gv (cp_at t).2.1 d := by
  intro dd
  induction dd with
  | nil => intro h; cases h
  | cons d r ih =>
    intro hs
    unfold sats at hs
    cases hb : sat1 all G e [] (cp_at t).2.1 d
    · rw [hb, cond_false] at hs
      obtain ⟨d', gv, h1, h2⟩ := ih hs
      exact ⟨d', gv, List.mem_cons_of_mem _ h1, h2⟩
    · have hpl : ∀ m, m ∈ (cp_at t).2.1 → ∀ v, y_find G (cp_place m e).1 (cp_place m e).2.1 (cp_place m e).2.2 = some v → ∃ V, AtM I.2.2 h m k V ∧ SVm I (g_h G).length (g_n G) v V := by
        intro m hm v hv
        obtain ⟨p1, p2, p3, p4, p5, p6, p7, p8⟩ := pl_ok (nu := I.1) hm ie oe he
        obtain ⟨-, -, -, h4⟩ := hR.2.2.2.2.2.1 _ (c_find_ok hv)
        rcases h4 with ⟨-, i', j', V', e1, e2, e3, e4⟩ | ⟨e1, -⟩ | ⟨e1, -⟩ | ⟨e1, -⟩
        · refine ⟨V', ?_, e4⟩
          have a1 : i' = (mplace m k).2.1 := by
            have : sval I.1 (cp_place m e).2.1 = 2147483648 + i' := e1
            omega
          have a2 : j' = (mplace m k).2.2 := by
            have : sval I.1 (cp_place m e).2.2 = 2147483648 + j' := e2
            omega
          unfold AtM
          rw [← a1, ← a2, ← p1]
          exact e3
        · exact absurd e1 (isI_8 p5).1
        · exact absurd e1 (isI_8 p5).2
        · exact absurd e1 (isI_10 p5)
      obtain ⟨gv, -, g2⟩ := sat1_ok (t := t) (gs := []) (gv0 := fun _ => 0) hR ie oe he hpl (fun m hm => hm) (fun g w hw => by cases hw) hb
      exact ⟨d, gv, List.mem_cons_self, g2⟩
noncomputable def en_has (d : Nat × Nat × Nat) : Bool := Nat.ble d.1 299 || (Nat.beq d.1 300 || (Nat.beq d.1 400 || Nat.beq d.1 600))
noncomputable def lim_any (lim : Nat) (ms ds : List (Nat × Nat × Nat)) : Bool := match ms, ds with
  | m :: ms, d :: ds => (Nat.beq (m.1 + 1) lim && en_has d) || lim_any lim ms ds
  | _, _ => false
theorem enok_at {ad : AD} {k : Nat} {gv : Nat → Nat} {m d : Nat × Nat × Nat} (hh : en_has d = true) (hE : EnOK ad h k gv m d) : ∃ V, AtM ad h m k V := by
  unfold EnOK at hE
  cases b0 : Nat.ble d.1 99
  · rw [b0, cond_false] at hE
    cases b1 : Nat.ble d.1 299
    · rw [b1, cond_false] at hE
      cases b3 : Nat.beq d.1 300
      · rw [b3, cond_false] at hE
        cases b4 : Nat.beq d.1 400
        · rw [b4, cond_false] at hE
          cases b6 : Nat.beq d.1 600
          · unfold en_has at hh
            rw [b1, b3, b4, b6] at hh
            cases hh
          · rw [b6, cond_true] at hE
            obtain ⟨x, x1, -⟩ := hE
            exact ⟨_, x1⟩
        · rw [b4, cond_true] at hE
          obtain ⟨q, x1, -⟩ := hE
          exact ⟨_, x1⟩
      · rw [b3, cond_true] at hE
        exact ⟨_, hE⟩
    · rw [b1, cond_true] at hE
      obtain ⟨j, q, x1, -⟩ := hE
      exact ⟨_, x1⟩
  · rw [b0, cond_true] at hE
    obtain ⟨x, x1, -⟩ := hE
    exact ⟨_, x1⟩
theorem dc_get {ad : AD} {k lim : Nat} {gv : Nat → Nat} : ∀ {ms ds : List (Nat × Nat × Nat)}, lim_any lim ms ds = true → DC true ad h k gv ms ds → ∃ m V, m ∈ ms ∧ (m.1 + 1 = lim ∧ AtM ad h m k V) := by
  intro ms
  induction ms with
  | nil => intro ds hm; cases ds <;> cases hm
  | cons m' ms ih =>
    intro ds hl hD
    cases ds with
    | nil => cases hl
    | cons d ds =>
      unfold lim_any at hl
      rcases or2 hl with hl | hl
      · obtain ⟨l1, l2⟩ := and2 hl
        obtain ⟨V, x1⟩ := enok_at l2 (hD.1 rfl)
        exact ⟨m', V, List.mem_cons_self, beqt l1, x1⟩
      · obtain ⟨m, V, x1, x2⟩ := ih hl hD.2
        exact ⟨m, V, List.mem_cons_of_mem _ x1, x2⟩
theorem ck_lim : cpt.all (fun c => c.2.2.1.all (fun d => Nat.beq c.1 0 || lim_any c.1 c.2.1 d)) = true := by decide +kernel
theorem sat_inb {t k : Nat} {ad : AD} {d : List (Nat × Nat × Nat)} {gv : Nat → Nat} (hd : d ∈ (cp_at t).2.2.1) (hD : DC true ad h k gv (cp_at t).2.1 d) : Inb ad (cp_at t).1 k := by
  have hk : (Nat.beq (cp_at t).1 0 || lim_any (cp_at t).1 (cp_at t).2.1 d) = true := by
    unfold cp_at at hd ⊢
    by_cases ht : t < cpt.length
    · rw [List.getD_eq_getElem?_getD, List.getElem?_eq_getElem ht, Option.getD_some] at hd ⊢
      exact List.all_eq_true.mp (List.all_eq_true.mp ck_lim _ (List.getElem_mem ht)) d hd
    · rw [List.getD_eq_getElem?_getD, List.getElem?_eq_none (by omega)] at hd
      cases hd
  rcases or2 hk with e | e
  · exact Or.inl (beqt e)
  · obtain ⟨m, V, m1, m2, q, kk, vs, a1, -⟩ := dc_get e hD
    obtain ⟨-, -, -, p4, -⟩ := cp_ok m1
    refine Or.inr ?_
    have e2 : mplace m k = (m.1, k, m.2.2 - 2147483648) := by unfold mplace; rw [p4 m2]; rfl
    rw [e2] at a1
    rw [← m2, Nat.add_sub_cancel]
    intro e3
    rw [e3] at a1; cases a1
theorem x_done_ok {t k : Nat} {e : SV} (hR : RM B I G h) (ie : isI e = true) (oe : okn (g_n G) e) (he : sval I.1 e = 2147483648 + k) (hs : x_done G t e = true) : CpAt I.2.2 h t k := by
  unfold x_done at hs
  intro hm
  cases h1 : sats true G e (cp_at t).2.1 (cp_at t).2.2.1
  · rw [h1, cond_false] at hs
    cases h2 : Nat.beq (cp_at t).1 0
    · rw [h2, cond_false] at hs
      split at hs
      · cases hs
      · rename_i n hn
        obtain ⟨s1, s2⟩ := and2 hs
        obtain ⟨-, n1, n2, n3⟩ := cnt_ok hR hn
        have := y_le_ok hR.1 n2 oe s1
        have hno : ¬ Inb I.2.2 (cp_at t).1 k := by
          rintro (w | w)
          · exact beqf h2 w
          · have := (n3 k).mp w; omega
        obtain ⟨d, gv, d1, d2⟩ := sats_ok hR ie oe he s2
        exact ⟨fun hi => absurd hi hno, fun _ => ⟨d, gv, d1, d2⟩⟩
    · rw [h2, cond_true] at hs; cases hs
  · obtain ⟨d, gv, d1, d2⟩ := sats_ok hR ie oe he h1
    by_cases hi : Inb I.2.2 (cp_at t).1 k
    · exact ⟨fun _ => ⟨d, gv, d1, d2⟩, fun hn => absurd hi hn⟩
    · exact absurd (sat_inb d1 d2) hi
theorem x_done2_ok {X : List (Nat × SV)} {t k : Nat} {e : SV} (hR : RM B I G h) (hX : ∀ x, x ∈ X → okn (g_n G) x.2) (ie : isI e = true) (oe : okn (g_n G) e) (he : sval I.1 e = 2147483648 + k) (hs : x_done2 G X t e = true) : CpAt I.2.2 h t k := by
  unfold x_done2 at hs
  cases h1 : x_done G t e
  · rw [h1, cond_false] at hs
    obtain ⟨q, q1, q2⟩ := List.any_eq_true.mp hs
    replace q2 := bifb q2
    obtain ⟨q3, q2⟩ := q2
    replace q2 := bifb q2
    obtain ⟨q4, q2⟩ := q2
    obtain ⟨q5, q6⟩ := and2 q3
    obtain ⟨q7, q8⟩ := and2 q4
    have a1 := y_le_ok hR.1 oe (hX q q1) q7
    have a2 := y_le_ok hR.1 (hX q q1) oe q8
    exact x_done_ok hR q6 (hX q q1) (by omega) q2
  · exact x_done_ok hR ie oe he h1
theorem x_rest_mem {X0 : List (Nat × SV)} {x : Nat × SV} : ∀ {X : List (Nat × SV)}, (x ∈ x_rest G X0 X → x ∈ X) ∧ (x ∈ X → x ∈ x_rest G X0 X ∨ (isI x.2 = true ∧ x_done2 G X0 x.1 x.2 = true)) := by
  intro X
  induction X with
  | nil => exact ⟨fun h => h, fun h => by cases h⟩
  | cons q r ih =>
    unfold x_rest
    cases hb : isI q.2 && x_done2 G X0 q.1 q.2
    · rw [cond_false]
      refine ⟨fun h => ?_, fun h => ?_⟩
      · rcases List.mem_cons.mp h with e | h
        · rw [e]; exact List.mem_cons_self
        · exact List.mem_cons_of_mem _ (ih.1 h)
      · rcases List.mem_cons.mp h with e | h
        · rw [e]; exact Or.inl List.mem_cons_self
        · rcases ih.2 h with h | h
          · exact Or.inl (List.mem_cons_of_mem _ h)
          · exact Or.inr h
    · rw [cond_true]
      refine ⟨fun h => List.mem_cons_of_mem _ (ih.1 h), fun h => ?_⟩
      rcases List.mem_cons.mp h with e | h
      · rw [e]; exact Or.inr (and2 hb)
      · exact ih.2 h
theorem y_close_ok (hR : RM B I G h) : RM B I (y_close G) h := by
  have hR0 := hR
  obtain ⟨hg, hH, hRa, ⟨t1, t2, t3, t4, t5, t6⟩, hX, hC, hS⟩ := hR
  refine ⟨hg, hH, hRa, ⟨t1, t2, t3, t4, t5, fun t k ht hex => ?_⟩, fun x hx => hX x (x_rest_mem.1 hx), hC, hS⟩
  by_cases hold : ExG I.1 (g_x G) t k
  · obtain ⟨e, e1, e2⟩ := hold
    rcases x_rest_mem.2 e1 with w | w
    · exact absurd ⟨e, w, e2⟩ hex
    · exact x_done2_ok hR0 hX w.1 (hX _ e1) e2 w.2
  · exact t6 t k ht hold
end
