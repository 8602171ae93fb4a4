/-! ===== publishing, whole ===== -/
section
variable {B : BS} {I : IN} {G G' : SG} {h : AH} {nu' : Nat → Nat}
theorem sgl_lt {c : Nat} (h : sgl c = true) : c < 1000 := by
  have h1 : sgs.all (fun c => Nat.ble c 999) = true := by decide +kernel
  have := blet (List.all_eq_true.mp h1 c (List.contains_iff_mem.mp h))
  omega
/-- couplings at a new index: what stood behind the bound is known, and they stand open -/
theorem pb_cps_ok {c E : Nat} {e : SV} (ie : isI e = true) : ∀ {ts : List Nat} {I : IN} {G G' : SG}, (∀ t, t ∈ ts → t < g_p G) → ts.Nodup → RM B I G h → okn (g_n G) e → sval I.1 e = 2147483648 + E → I.2.2 c E = none → pb_cps c e G ts = some G' → ∃ nu', RM B (nu', I.2) G' h ∧ (Ag (g_n G) I.1 nu' ∧ (g_n G ≤ g_n G' ∧ (g_h G' = g_h G ∧ (g_u G' = g_u G ∧ (g_q G' = g_q G ∧ (g_k G' = g_k G ∧ (g_p G' = g_p G ∧ ((∀ x, x ∈ g_x G → x ∈ g_x G') ∧ ∀ t, t ∈ ts → (cp_at t).1 = c + 1 → (t, e) ∈ g_x G')))))))) := by
  intro ts
  induction ts with
  | nil =>
    intro I G G' _ _ hR _ _ _ hs
    cases hs
    exact ⟨I.1, hR, fun _ _ => rfl, Nat.le_refl _, rfl, rfl, rfl, rfl, rfl, fun x hx => hx, fun t ht => by cases ht⟩
  | cons t r ih =>
    intro I G G' hts hnd hR oe he hfree hs
    have hts' : ∀ t, t ∈ r → t < g_p G := fun t ht => hts t (List.mem_cons_of_mem _ ht)
    have hnd' := (List.nodup_cons.mp hnd).2
    rw [pb_cps] at hs
    cases hb : Nat.beq (cp_at t).1 (c + 1)
    · rw [hb, cond_false] at hs
      obtain ⟨nu', r1, r2, r3, r4, r5, r6, r7, r8, r9, r10⟩ := ih hts' hnd' hR oe he hfree hs
      refine ⟨nu', r1, r2, r3, r4, r5, r6, r7, r8, r9, fun t' ht' hl => ?_⟩
      rcases List.mem_cons.mp ht' with e1 | ht'
      · rw [e1] at hl; exact absurd hl (beqf hb)
      · exact r10 t' ht' hl
    · rw [hb, cond_true] at hs
      have hl := beqt hb
      split at hs
      · rename_i G2 hG2
        split at hs
        · rename_i G3 hG3
          cases hs
          cases hc : x_free G t e (g_x G) && (cp_at t).2.1.any (fun m => Nat.beq m.2.1 1 && (Nat.beq m.2.2 2147483648 && (Nat.ble (cdm m.1) 999999 && (Nat.ble ((itv G e).2 + 2) (2147483648 + cdm m.1) && sgl m.1))))
          · rw [hc, cond_false] at hG2; cases hG2
          · rw [hc, cond_true] at hG2
            obtain ⟨c1, c2⟩ := and2 hc
            obtain ⟨m, m1, m2⟩ := List.any_eq_true.mp c2
            obtain ⟨m2, m3⟩ := and2 m2
            obtain ⟨m3, m4⟩ := and2 m3
            obtain ⟨m4, m5⟩ := and2 m4
            obtain ⟨m5, m6⟩ := and2 m5
            have a2 := beqt m2
            have a3 := beqt m3
            have a4 := blet m4
            have a5 := blet m5
            have be := itv_ok hR.1.1 e
            have hT := hR.2.2.2.1
            obtain ⟨q0, hq0⟩ := hT.2.2.2.1.2.1 m.1 m6
            obtain ⟨-, kk, vs, u2, -, u4, -⟩ := hT.1 m.1 0 q0 (sgl_lt m6) hq0
            have hlen : E < vs.length := by
              have h0 : 0 < cdm m.1 := by omega
              have := u4.2.1 h0 a4
              omega
            have hmp : mplace m E = (m.1, 0, E) := by
              unfold mplace
              rw [a2, a3, Nat.sub_self]
              rfl
            have hA : AtM I.2.2 h m E vs[E] := by
              unfold AtM
              rw [hmp]
              exact ⟨q0, kk, vs, hq0, u2, List.getElem?_eq_getElem hlen⟩
            have hfree2 := x_free_ok hR oe he hR.2.2.2.2.1 c1
            have hC := hT.2.2.2.2.2 t E (hts t List.mem_cons_self) hfree2 ⟨m, _, m1, hA⟩
            have hnb : ¬ Inb I.2.2 (cp_at t).1 E := by
              rintro (w | w)
              · omega
              · rw [hl, Nat.add_sub_cancel] at w
                exact w hfree
            obtain ⟨d, gv, d1, d2⟩ := hC.2 hnb
            obtain ⟨G1, g1, nu1, g2, g3⟩ := mt_all_ok ie hR oe he d2 d1
            rw [hG2] at g1
            have e1 := List.mem_singleton.mp g1
            subst e1
            obtain ⟨nu', r1, r2, r3, r4, r5, r6, r7, r8, r9, r10⟩ := ih (I := (nu1, I.2)) (fun t' ht' => by rw [g3.2.2.2.2.2.2.2]; exact hts' t' ht') hnd' g2 (okn_up oe g3.2.1) (by show sval nu1 e = _; rw [sval_ag oe g3.1]; exact he) hfree hG3
            have oe3 : okn (g_n G3) e := okn_up (okn_up oe g3.2.1) r3
            refine ⟨nu', ?_, fun i hi => (r2 i (Nat.lt_of_lt_of_le hi g3.2.1)).trans (g3.1 i hi), Nat.le_trans g3.2.1 r3, r4.trans g3.2.2.1, r5.trans g3.2.2.2.1, r6.trans g3.2.2.2.2.1, r7.trans g3.2.2.2.2.2.2.1, r8.trans g3.2.2.2.2.2.2.2, fun x hx => ?_, fun t' ht' hl' => ?_⟩
            · obtain ⟨p0, p1, p2, p3, p4, p5, p6⟩ := r1
              refine ⟨p0, p1, p2, ts_ex p3 fun t k hx => ?_, fun x hx => ?_, p5, p6⟩
              · obtain ⟨e', x1, x2⟩ := hx
                exact ⟨e', List.mem_cons_of_mem _ x1, x2⟩
              · rcases List.mem_cons.mp hx with rfl | hx
                · exact oe3
                · exact p4 x hx
            · exact List.mem_cons_of_mem _ (r9 x (by rw [g3.2.2.2.2.2.1]; exact hx))
            · rcases List.mem_cons.mp ht' with e1 | ht'
              · rw [e1]; exact List.mem_cons_self
              · exact List.mem_cons_of_mem _ (r10 t' ht' hl')
        · cases hs
      · cases hs
theorem ck_ow : ctt.all (fun l => l.all (fun c => !(Nat.beq c.2.1 0) || c.2.2.all (fun t => !(Nat.beq t.1 4) || Nat.ble 20 (cdk t.2.1)))) = true := by decide +kernel
theorem own_20 {c f a : Nat} {ty : TY} (hm : cdm c = 0) (h : ct_at c f = some ty) (h4 : ty.1 = 4) (ha : ty.2.1 = a) : 20 ≤ cdk a := by
  have h1 := cd_all ck_ow (ct_mem h)
  have hm2 : (cd c).2.1 = 0 := hm
  rw [hm2] at h1
  have h2 := List.all_eq_true.mp h1 ty (ct_mem h)
  rw [h4, ha] at h2
  exact blet h2
theorem ck_cl : ctt.all (fun l => l.all (fun c => Nat.ble c.2.2.length 1000)) = true := by decide +kernel
theorem cd_len (c : Nat) : (cd c).2.2.length ≤ 1000 := by
  cases hl : (cd c).2.2 with
  | nil => exact Nat.zero_le _
  | cons t r =>
    have h1 := cd_all ck_cl (c := c) (ty := t) (by rw [hl]; exact List.mem_cons_self)
    rw [← hl]
    exact blet h1
theorem tu_tv {ad : AD} {t ty : TY} {i p : Nat} {v : Value} (hf : fitU t ty = true) (h : TU t v) : TV ad ty i p v := by
  obtain ⟨f1, f2⟩ := and2 hf
  have e1 := beqt f1
  rcases h with ⟨t0, x, rfl, b1, b2⟩ | ⟨t1, x, rfl⟩
  · rcases or2 f2 with f2 | f2
    · have := beqt f2; omega
    · obtain ⟨f3, f4⟩ := and2 f2
      obtain ⟨f4, f5⟩ := and2 f4
      have a4 := blet f4
      have a5 := blet f5
      exact Or.inl ⟨e1.symm.trans t0, x, rfl, by omega, by omega⟩
  · exact Or.inr (Or.inl ⟨e1.symm.trans t1, x, rfl⟩)
theorem hmr_more {I' : IN} {n m : Nat} {H : List SO} (hI : I'.1 = I.1 ∧ I'.2.1 = I.2.1) (hH : HMr I n m H h) (h3 : ∀ c i q, c < 1000 → I.2.2 c i = some q → I'.2.2 c i = some q) {k : Nat} {o : SO} (ho : H[k]? = some o) (hno : o.1 = 99 ∨ ∀ c i, I'.2.2 c i ≠ some (I.2.1 k)) :
    (o.1 = 99 ∧ ∃ w, o.2 = .inr [w] ∧ (isT w = true ∧ SVm I' n m w (.ref (I'.2.1 k)))) ∨ (o.1 < 30 ∧ ((∀ c i, I'.2.2 c i ≠ some (I'.2.1 k)) ∧ ∃ vs, h.1 (I'.2.1 k) = some (o.1, vs) ∧ CMr I' n m o.2 vs)) := by
  have hu : Ag m I.1 I'.1 := fun i _ => by rw [hI.1]
  have hr : Ag n I.2.1 I'.2.1 := fun i _ => by rw [hI.2]
  rcases hH k o ho with ⟨a, w, b, c, d⟩ | ⟨a, b, vs, c, d⟩
  · exact Or.inl ⟨a, w, b, c, by rw [hI.2]; exact sv_up d (Nat.le_refl _) (Nat.le_refl _) hu hr h3⟩
  · refine Or.inr ⟨a, ?_, vs, by rw [hI.2]; exact c, ?_⟩
    · rcases hno with e | hno
      · omega
      · rw [hI.2]; exact hno
    · cases ho2 : o.2 with
      | inl q => rw [ho2] at d; exact d
      | inr l => rw [ho2] at d; exact lm_up (l := l) d (Nat.le_refl _) (Nat.le_refl _) hu hr h3
theorem lt1000_of_200 {c : Nat} (h : Nat.ble c 199 = true) : c < 1000 ∧ c < 200 := by
  have := blet h
  omega
/-- the object and its rows are of their classes from now on -/
theorem y_pub0_ok {k c ow op E : Nat} {e : SV} (hR : RM B I G h) (hs : y_pub0 G k c e ow op = some G') (oe : okn (g_n G) e) (he : sval I.1 e = 2147483648 + E) (hfree : I.2.2 c E = none) (how : ow < 1000 → I.2.2 ow E ≠ none) :
    ∃ I', RM (B.1, fun a i => B.2 a i ∨ (ow < 1000 ∧ (a = c ∧ i = E))) I' G' h ∧ (Gr I G I' G' ∧ (I'.2.1 = I.2.1 ∧ (I'.2.2 c E = some (I.2.1 k) ∧ ((∀ a i, i ≠ E → I'.2.2 a i = I.2.2 a i) ∧ (c < 1000 ∧ (isI e = true ∧ (g_p G' = g_p G ∧ (n5x c ow op = true ∧ cdm c = 0)))))))) := by
  unfold y_pub0 at hs
  split at hs
  · rename_i kd l hk
    replace hs := bif_some hs
    obtain ⟨c0, hs⟩ := hs
    obtain ⟨c1, c2⟩ := and2 c0
    obtain ⟨c1, c3⟩ := and2 c1
    obtain ⟨c1, c4⟩ := and2 c1
    obtain ⟨c3, c5⟩ := and2 c3
    obtain ⟨c5, ie⟩ := and2 c5
    obtain ⟨c2, c6⟩ := and2 c2
    have ekd := beqt c1
    have hkd := blet c4
    have hmode := beqt c3
    obtain ⟨hc1000, hc200⟩ := lt1000_of_200 c5
    have hE1 := blet c2
    have be := itv_ok hR.1.1 e
    rw [he] at be
    split at hs
    · cases hs
    · rename_i G1 hG1
      obtain ⟨nu1, r1, r2, r3, r4, r5, r6, r7, r8, r9, r10⟩ := pb_cps_ok ie (fun t ht => List.mem_range.mp ht) List.nodup_range hR oe he hfree hG1
      dsimp only at hs
      replace hs := bif_some hs
      obtain ⟨d0, hs⟩ := hs
      obtain ⟨d1, d2⟩ := and2 d0
      obtain ⟨d1, d3⟩ := and2 d1
      obtain ⟨d2, d4⟩ := and2 d2
      obtain ⟨d2, d5⟩ := and2 d2
      obtain ⟨d4, d6⟩ := and2 d4
      obtain ⟨k1, k2⟩ := chk_get d1
      have oe1 : okn (g_n G1) e := okn_up oe r3
      have he1 : sval nu1 e = 2147483648 + E := (sval_ag oe r2).trans he
      obtain ⟨p0, p1, p2, p3, p4, p5, p6⟩ := r1
      have hR1 : RM B (nu1, I.2) G1 h := ⟨p0, p1, p2, p3, p4, p5, p6⟩
      have hk1 : (g_h G1)[k]? = some (kd, .inr l) := by rw [r4]; exact hk
      have hklt : k < (g_h G1).length := (List.getElem?_eq_some_iff.mp hk1).1
      obtain ⟨hraw, vs, v1, v2⟩ : (∀ c i, I.2.2 c i ≠ some (I.2.1 k)) ∧ ∃ vs, h.1 (I.2.1 k) = some (kd, vs) ∧ LM (nu1, I.2) (g_h G1).length (g_n G1) l vs := by
        rcases p1 k _ hk1 with ⟨e1, -⟩ | ⟨-, e2, vs, e3, e4⟩
        · have : kd = 99 := e1
          omega
        · exact ⟨e2, vs, e3, e4⟩
      have hlen : vs.length = (cd c).2.2.length := (lm_len v2).trans k1.symm
      -- the rows
      have own1 : ∀ a kk, (a, kk) ∈ pb_own (cd c).2.2 l → ∃ (f : Nat) (ty t : TY) (n u : Nat), (cd c).2.2[f]? = some ty ∧ (ty.1 = 4 ∧ (ty.2.1 = a ∧ (l[f]? = some (5, kk, u) ∧ ((g_h G1)[kk]? = some (cdk a, .inl (n, t)) ∧ (cdk a ≤ 29 ∧ (n + 1 = cdm a ∧ (cdm a ≤ 999999 ∧ ∃ t2, (cd a).2.2 = [t2] ∧ fitU t t2 = true))))))) := by
        intro a kk ha
        obtain ⟨f, ty, v, f1, f2, f3, f4, f5⟩ := own_get ha
        have g := k2 f ty v f1 f2
        obtain ⟨V, V1, V2⟩ := lm_get v2 f2
        obtain ⟨w1, w2⟩ := fwd_ok hR1 V2
        unfold pb_ok at g
        rw [f3] at g
        have g : (Nat.beq (y_fwd G1 v).1 5 && (match (g_h G1)[(y_fwd G1 v).2.1]? with
          | some (kd, .inl q) => (match (cd ty.2.1).2.2 with
            | [t] => (Nat.beq kd (cdk ty.2.1) && Nat.ble kd 29) && (Nat.beq (q.1 + 1) (cdm ty.2.1) && (fitU q.2 t && Nat.ble (cdm ty.2.1) 999999))
            | _ => false)
          | _ => false)) = true := g
        obtain ⟨g1, g2⟩ := and2 g
        have e5 := w2 (beqt g1)
        rw [e5] at g1 g2
        rw [f5, f4] at g2
        split at g2
        · rename_i kd2 q hq
          split at g2
          · rename_i t2 ht2
            obtain ⟨g2, g3⟩ := and2 g2
            obtain ⟨g2, g4⟩ := and2 g2
            obtain ⟨g3, g5⟩ := and2 g3
            obtain ⟨g5, g6⟩ := and2 g5
            have e6 := beqt g2
            have e7 : v = (5, kk, v.2.2) := Prod.ext (beqt g1) (Prod.ext f5 rfl)
            refine ⟨f, ty, q.2, q.1, v.2.2, f1, f3, f4, by rw [← e7]; exact f2, by rw [← e6]; exact hq, by rw [← e6]; exact blet g4, beqt g3, blet g6, t2, ht2, g5⟩
          · cases g2
        · cases g2
      have hnf : ∀ kk o, (g_h G1)[kk]? = some o → o.1 ≠ 99 → (∀ c i, I.2.2 c i ≠ some (I.2.1 kk)) ∧ ∃ vs, h.1 (I.2.1 kk) = some (o.1, vs) ∧ CMr (nu1, I.2) (g_h G1).length (g_n G1) o.2 vs := by
        intro kk o ho hn
        rcases p1 kk o ho with ⟨e1, -⟩ | ⟨-, e2, e3⟩
        · exact absurd e1 hn
        · exact ⟨e2, e3⟩
      have nofree : ∀ a kk, (a, kk) ∈ pb_own (cd c).2.2 l → I.2.2 a E = none := by
        intro a kk ha
        obtain ⟨f, ty, t, n, u, f1, f2, f3, -⟩ := own1 a kk ha
        cases e2 : I.2.2 a E with
        | none => rfl
        | some q2 =>
          have hct : ct_at c f = some ty := by unfold ct_at; rw [hmode]; exact f1
          exact absurd hfree (p3.2.2.2.1.1 c f ty hc1000 hmode hct (Or.inl f2) E q2 (by rw [f3]; exact e2))
      have inO : ∀ a kk, (a, kk) ∈ (c, k) :: pb_own (cd c).2.2 l → kk < (g_h G1).length ∧ ((∀ c i, I.2.2 c i ≠ some (I.2.1 kk)) ∧ I.2.2 a E = none) := by
        intro a kk ha
        rcases List.mem_cons.mp ha with e1 | ha
        · have e2 := congrArg Prod.fst e1
          have e3 := congrArg Prod.snd e1
          dsimp only at e2 e3
          subst e2; subst e3
          exact ⟨hklt, hraw, hfree⟩
        · obtain ⟨f, ty, t, n, u, f1, f2, f3, f4, f5, f6, -⟩ := own1 a kk ha
          exact ⟨(List.getElem?_eq_some_iff.mp f5).1, (hnf kk _ f5 (by show cdk a ≠ 99; omega)).1, nofree a kk ha⟩
      have hP : PbOK I.2.2 I.2.1 h (g_p G) E c ((c, k) :: pb_own (cd c).2.2 l) := by
        have atE : ∀ a kk, (a, kk) ∈ (c, k) :: pb_own (cd c).2.2 l → adp I.2.2 I.2.1 E ((c, k) :: pb_own (cd c).2.2 l) a E = some (I.2.1 kk) := fun a kk ha => adp_at d3 ha
        have oldE : ∀ c' i q, I.2.2 c' i = some q → adp I.2.2 I.2.1 E ((c, k) :: pb_own (cd c).2.2 l) c' i = some q := by
          intro c' i q hq
          unfold adp
          split
          · rename_i e1
            split
            · rename_i kk hkk
              have := (inO c' kk (n_find_mem hkk)).2.2
              rw [e1, this] at hq; cases hq
            · exact hq
          · exact hq
        refine ⟨by omega, fun a kk ha => ?_, fun a kk a' kk' ha ha' hr => ?_, fun c0 p ty kk hc0 hm0 hty h45 hkk => ?_, fun t m kk ht hm hkk => ?_, fun t kk ht h0 hkk => ?_⟩
        · obtain ⟨i1, i2, i3⟩ := inO a kk ha
          refine ⟨?_, i3, i2, (p2.1 kk i1).2, ?_⟩
          · rcases List.mem_cons.mp ha with e1 | ha
            · have e2 := congrArg Prod.fst e1
              dsimp only at e2
              subst e2
              exact ⟨hc1000, by omega, by omega⟩
            · obtain ⟨f, ty, t, n, u, f1, f2, f3, f4, f5, f6, f7, -⟩ := own1 a kk ha
              refine ⟨by rw [← f3]; exact ty_cls (show ct_at c f = some ty by unfold ct_at; rw [hmode]; exact f1) (by omega), f6, ?_⟩
              intro e12
              have hd := List.all_eq_true.mp d4 (a, kk) ha
              have h20 : 20 ≤ cdk a := own_20 hmode (show ct_at c f = some ty by unfold ct_at; rw [hmode]; exact f1) f2 f3
              omega
          · rcases List.mem_cons.mp ha with e1 | ha
            · have e2 := congrArg Prod.fst e1
              have e3 := congrArg Prod.snd e1
              dsimp only at e2 e3
              subst e2; subst e3
              refine ⟨vs, by rw [← ekd]; exact v1, ⟨fun _ => hlen, fun h0 => by omega, fun h0 => by omega⟩, fun p v hv => ?_⟩
              have hp : p < (cd a).2.2.length := by rw [← hlen]; exact (List.getElem?_eq_some_iff.mp hv).1
              have hty : (cd a).2.2[p]? = some (cd a).2.2[p] := List.getElem?_eq_getElem hp
              refine ⟨_, by unfold ct_at; rw [hmode]; exact hty, ?_⟩
              generalize (cd a).2.2[p] = ty at hty
              have hlp : p < l.length := by rw [← k1]; exact hp
              have hl : l[p]? = some l[p] := List.getElem?_eq_getElem hlp
              generalize l[p] = s at hl
              obtain ⟨V, V1, V2⟩ := lm_get v2 hl
              rw [hv] at V1
              cases V1
              obtain ⟨w1, w2⟩ := fwd_ok hR1 V2
              have g := k2 p ty s hty hl
              unfold pb_ok at g
              cases e0 : Nat.beq ty.1 0
              · rw [e0, cond_false] at g
                cases e2 : Nat.beq ty.1 2
                · rw [e2, cond_false] at g
                  cases e3 : Nat.beq ty.1 3
                  · rw [e3, cond_false] at g
                    cases e4 : Nat.beq ty.1 4
                    · rw [e4, cond_false] at g
                      replace g := bifb g
                      have := sv_null w1 (beqt g.2)
                      exact Or.inr (Or.inr (Or.inr (Or.inr (Or.inr (Or.inl ⟨beqt g.1, Or.inl this⟩)))))
                    · rw [e4, cond_true] at g
                      have h4 := beqt e4
                      have ho := own_put hty hl h4
                      obtain ⟨g1, -⟩ := and2 g
                      have e5 := w2 (beqt g1)
                      rw [e5] at g1
                      obtain ⟨-, rfl⟩ := sv_raw V2 (beqt g1)
                      refine Or.inr (Or.inr (Or.inr (Or.inr (Or.inl ⟨h4, Or.inr ⟨by omega, I.2.1 s.2.1, ?_, rfl⟩⟩))))
                      rw [show 2147483648 + E - 2147483648 = E by omega]
                      exact atE _ _ (List.mem_cons_of_mem _ ho)
                  · rw [e3, cond_true] at g
                    have h3 := beqt e3
                    obtain ⟨g1, g2⟩ := and2 g
                    obtain ⟨g1, g3⟩ := and2 g1
                    obtain ⟨s1, s2, s3⟩ := sv_typ w1 g1
                    have b := itv_ok p0.1 (y_idx (y_fwd G1 s))
                    have b2 := blet g2
                    rw [beqt g3] at s3 s2
                    exact Or.inr (Or.inr (Or.inr (Or.inl ⟨h3, _, by have := b.1; omega, ref_up s2 (fun c' i q _ => oldE c' i q) s3⟩)))
                · rw [e2, cond_true] at g
                  have h2 := beqt e2
                  cases e5 : Nat.beq (y_fwd G1 s).1 4
                  · rw [e5, cond_false] at g
                    obtain ⟨g1, g2⟩ := and2 g
                    obtain ⟨s1, s2, s3⟩ := sv_typ w1 g1
                    rw [beqt g2] at s3 s2
                    exact Or.inr (Or.inr (Or.inl ⟨h2, _, ref_up s2 (fun c' i q _ => oldE c' i q) s3⟩))
                  · have := sv_null w1 (beqt e5)
                    exact Or.inr (Or.inr (Or.inl ⟨h2, 2147483647, Or.inl ⟨rfl, this⟩⟩))
              · rw [e0, cond_true] at g
                obtain ⟨g1, g2⟩ := and2 g
                obtain ⟨X, rfl, hX⟩ := sv_int w1 g1
                have := fit_ok p0 hX g2
                exact Or.inl ⟨beqt e0, X, rfl, this⟩
            · obtain ⟨f, ty, t, n, u, f1, f2, f3, f4, f5, f6, f7, f8, t2, f9, f10⟩ := own1 a kk ha
              obtain ⟨-, vs2, g1, g2, g3⟩ := hnf kk _ f5 (by show cdk a ≠ 99; omega)
              have g2 : vs2.length = n := g2
              refine ⟨vs2, g1, ⟨fun h0 => by omega, fun _ _ => by omega, fun h0 => by omega⟩, fun p v hv => ⟨t2, ?_, ?_⟩⟩
              · unfold ct_at
                have hz : Nat.beq (cdm a) 0 = false := by
                  cases hz : Nat.beq (cdm a) 0
                  · rfl
                  · have := beqt hz; omega
                rw [hz, cond_false, f9]
                rfl
              · exact tu_tv f10 (g3 v (List.mem_of_getElem? hv))
        · have i1 := (inO a kk ha).1
          have i2 := (inO a' kk' ha').1
          have := p2.2 kk kk' i1 i2 hr
          have e1 := dis_uni d3 _ _ ha ha' (Or.inr this)
          exact congrArg Prod.fst e1
        · rcases List.mem_cons.mp hkk with e1 | hkk
          · have e2 := congrArg Prod.fst e1
            dsimp only at e2
            have e3 := own_by_ok d2 hty h45 e2
            rw [e3]
            rw [e3] at hc0
            have := how hc0
            intro e4
            cases e5 : I.2.2 ow E with
            | none => exact this e5
            | some q5 => rw [oldE _ _ _ e5] at e4; cases e4
          · have hd := List.all_eq_true.mp d4 _ hkk
            obtain ⟨hd1, -⟩ := and2 hd
            have e3 := own_by_ok hd1 hty h45 rfl
            rw [e3, atE c k List.mem_cons_self]
            intro e4; cases e4
        · have hd := List.all_eq_true.mp d6 t (List.mem_range.mpr ht)
          obtain ⟨hd1, -⟩ := and2 hd
          have hd2 := List.all_eq_true.mp hd1 m hm
          have hin : in_o m.1 ((c, k) :: pb_own (cd c).2.2 l) = true := List.any_eq_true.mpr ⟨_, hkk, Nat.beq_refl _⟩
          rw [hin, cond_true] at hd2
          obtain ⟨x1, x2⟩ := and2 hd2
          refine ⟨beqt x1, ?_⟩
          rcases Bool.or_eq_true_iff.mp x2 with x2 | x2
          · obtain ⟨x2, x3⟩ := and2 x2
            exact Or.inl ⟨beqt x2, beqt x3⟩
          · obtain ⟨m0, m1, m2⟩ := List.any_eq_true.mp x2
            obtain ⟨m2, m3⟩ := and2 m2
            obtain ⟨m3, m4⟩ := and2 m3
            obtain ⟨m4, m5⟩ := and2 m4
            obtain ⟨m5, m6⟩ := and2 m5
            have a2 := beqt m2
            have a3 := beqt m3
            have a4 := blet m4
            have a5 := blet m5
            have be1 := itv_ok p0.1 e
            rw [he1] at be1
            obtain ⟨q0, hq0⟩ := p3.2.2.2.1.2.1 m0.1 m6
            obtain ⟨-, kk', vs', u2, -, u4, -⟩ := p3.1 m0.1 0 q0 (sgl_lt m6) hq0
            have hlen' : E < vs'.length := by
              have h0 : 0 < cdm m0.1 := by omega
              have := u4.2.1 h0 a4
              omega
            have hmp : mplace m0 E = (m0.1, 0, E) := by
              unfold mplace
              rw [a2, a3, Nat.sub_self]
              rfl
            refine Or.inr ⟨m0, vs'[E], m1, ?_⟩
            unfold AtM
            rw [hmp]
            exact ⟨q0, kk', vs', hq0, u2, List.getElem?_eq_getElem hlen'⟩
        · have hd := List.all_eq_true.mp d6 t (List.mem_range.mpr ht)
          obtain ⟨-, hd2⟩ := and2 hd
          have hz : Nat.beq (cp_at t).1 0 = false := by
            cases hz : Nat.beq (cp_at t).1 0
            · rfl
            · exact absurd (beqt hz) h0
          have hin : in_o ((cp_at t).1 - 1) ((c, k) :: pb_own (cd c).2.2 l) = true := List.any_eq_true.mpr ⟨_, hkk, Nat.beq_refl _⟩
          rw [hz, cond_false, hin, cond_true] at hd2
          exact beqt hd2
      -- the new state
      generalize hO : (c, k) :: pb_own (cd c).2.2 l = o at hs d3 d6 hP inO
      have hco : (c, k) ∈ o := by rw [← hO]; exact List.mem_cons_self
      have adO := adp_old hP
      have mono : ∀ c' i q, c' < 1000 → I.2.2 c' i = some q → adp I.2.2 I.2.1 E o c' i = some q := fun c' i q _ => adO c' i q
      have hcE : adp I.2.2 I.2.1 E o c E = some (I.2.1 k) := adp_at d3 hco
      have hadne : ∀ a i, i ≠ E → adp I.2.2 I.2.1 E o a i = I.2.2 a i := fun a i hi => adp_ne hi
      have hcell : ∀ x, CellOK2 (nu1, I.2) (g_h G1).length (g_n G1) h x → (∀ kk, (x.1, kk) ∈ o → x.2.2.1.1 ≠ 8) → CellOK2 (nu1, I.2.1, adp I.2.2 I.2.1 E o) (g_h G1).length (g_n G1) h x := by
        rintro x ⟨x1, x2, x3, x4⟩ hno
        refine ⟨x1, x2, x3, ?_⟩
        rcases x4 with ⟨y1, i, j, V, y2, y3, y4, y5⟩ | ⟨y1, y2, y3, y4⟩ | ⟨y1, y2, y3, i, a, kk, vs', y4, y5, y6, y7⟩ | ⟨y1, y2, y3, y4⟩
        · exact Or.inl ⟨y1, i, j, V, y2, y3, at_adp hP y4, sv_up y5 (Nat.le_refl _) (Nat.le_refl _) (fun _ _ => rfl) (fun _ _ => rfl) mono⟩
        · refine Or.inr (Or.inl ⟨y1, y2, y3, fun kk => ?_⟩)
          have e1 : adp I.2.2 I.2.1 E o x.1 kk = I.2.2 x.1 kk := adp_none fun k2 hk2 => hno k2 hk2 y1
          show adp I.2.2 I.2.1 E o x.1 kk ≠ none ↔ _
          rw [e1]
          exact y4 kk
        · exact Or.inr (Or.inr (Or.inl ⟨y1, y2, y3, i, a, kk, vs', y4, adO _ _ _ y5, y6, y7⟩))
        · exact Or.inr (Or.inr (Or.inr ⟨y1, y2, y3, px_mono x3 (fun c' i' p W _ _ hA => at_adp hP hA) y4⟩))
      have hR2 : RM (B.1, fun a i => B.2 a i ∨ (i = E ∧ ∃ kk, (a, kk) ∈ o)) (nu1, I.2.1, adp I.2.2 I.2.1 E o) (upC (upH G1 (pb_h e o (g_h G1))) (cnt_dels o (pb_cells G1 c e 0 (cd c).2.2 l (g_c G1)))) h := by
        have hlenH : (pb_h e o (g_h G1)).length = (g_h G1).length := pbh_len
        refine ⟨p0, ?_⟩
        show HK _ _ (pb_h e o (g_h G1)).length (g_n G1) (pb_h e o (g_h G1)) (cnt_dels o (pb_cells G1 c e 0 (cd c).2.2 l (g_c G1))) (g_x G1) (g_k G1) (g_u G1) (g_q G1) (g_p G1) h
        rw [hlenH]
        refine ⟨?_, p2, ?_, p4, ?_, ?_⟩
        · intro kk ob hob
          by_cases hin : ∃ a, (a, kk) ∈ o
          · obtain ⟨a, ha⟩ := hin
            rw [pbh_in d3 ha (inO a kk ha).1] at hob
            cases hob
            obtain ⟨y1, y2, y3⟩ := yref_idx (c := a) ie
            refine Or.inl ⟨rfl, _, rfl, y1, sv_yref ie oe1 (hP.2.1 a kk ha).1.1 ?_⟩
            show RefV (adp I.2.2 I.2.1 E o) a (sval nu1 e) (.ref (I.2.1 kk))
            rw [he1]
            refine Or.inr ⟨by omega, I.2.1 kk, ?_, rfl⟩
            rw [show 2147483648 + E - 2147483648 = E by omega]
            exact adp_at d3 ha
          · have hout : ∀ p, p ∈ o → p.2 ≠ kk := fun p hp e1 => hin ⟨p.1, by rw [← e1]; exact hp⟩
            rw [pbh_out hout] at hob
            refine hmr_more (I := (nu1, I.2)) (I' := (nu1, I.2.1, adp I.2.2 I.2.1 E o)) ⟨rfl, rfl⟩ p1 mono hob ?_
            by_cases h99 : ob.1 = 99
            · exact Or.inl h99
            · refine Or.inr fun c' i hq => ?_
              rcases adp_new hq with hq | ⟨e1, k2, hk2, e2⟩
              · exact (hnf kk ob hob h99).1 c' i hq
              · have i1 := (inO c' k2 hk2).1
                have i2 := (List.getElem?_eq_some_iff.mp hob).1
                exact hout _ hk2 (p2.2 kk k2 i2 i1 e2).symm
        · have hT := pub_ts (o := o) (c := c) (E := E) (ra := I.2.1) (show TS I.2.2 h (g_p G) (ExG nu1 (g_x G1)) B.2 by rw [← r8]; exact p3) hP d3
          obtain ⟨t1, t2, t3, t4, t5, t6⟩ := hT
          rw [r8]
          refine ⟨t1, t2, t3, t4, t5, fun t kk ht hex => t6 t kk ht fun hex2 => hex ?_⟩
          rcases hex2 with w | ⟨w1, w2⟩
          · exact w
          · exact ⟨e, r10 t (List.mem_range.mpr ht) w2, by rw [w1]; exact he1⟩
        · intro x hx
          obtain ⟨x1, x2⟩ := dels_mem hx
          rcases cells_get x1 with x1 | ⟨g, ty, v, g1, g2, g3, g4⟩
          · exact hcell x (p5 x x1) x2
          · rw [g4]
            have hgl : g < vs.length := by rw [hlen]; exact (List.getElem?_eq_some_iff.mp g1).1
            obtain ⟨V, V1, V2⟩ := lm_get v2 g2
            obtain ⟨w1, -⟩ := fwd_ok hR1 V2
            have hA : At (adp I.2.2 I.2.1 E o) h c E g V := ⟨I.2.1 k, kd, vs, hcE, v1, V1⟩
            refine cell_mk (a := E) (b := g) hc1000 oe1 sk_okn rfl he1 ?_ hA (sv_up w1 (Nat.le_refl _) (Nat.le_refl _) (fun _ _ => rfl) (fun _ _ => rfl) mono)
            rw [sk_val]; omega
        · obtain ⟨s1, s2, s3, s4, s5⟩ := p6
          refine ⟨s1, s2, fun c' i a hc' ha => adO _ _ _ (s3 c' i a hc' ha), fun c' i a ha => ?_, s5⟩
          rcases adp_new ha with ha | ⟨e1, k2, hk2, e2⟩
          · exact s4 c' i a ha
          · exact Or.inr (by rw [e2]; exact (p2.1 k2 (inO c' k2 hk2).1).1)
      have hR3 : RM (B.1, fun a i => B.2 a i ∨ (ow < 1000 ∧ (a = c ∧ i = E))) (nu1, I.2.1, adp I.2.2 I.2.1 E o) (upC (upH G1 (pb_h e o (g_h G1))) (cnt_dels o (pb_cells G1 c e 0 (cd c).2.2 l (g_c G1)))) h := by
        refine rm_ho hR2 fun c' p ty hty h5 i hA hh => ?_
        rcases hh with w | ⟨w1, kk, w2⟩
        · exact Or.inr (Or.inl w)
        · have hp9 : p < 99999 := by
            have hm5 := ck_5 hty h5
            unfold ct_at at hty
            rw [hm5] at hty
            have hl9 : p < (cd c').2.2.length := (List.getElem?_eq_some_iff.mp (show (cd c').2.2[p]? = some ty from hty)).1
            have := cd_len c'
            omega
          rw [← hO] at w2
          rcases List.mem_cons.mp w2 with e1 | w2
          · have e2 := congrArg Prod.fst e1
            dsimp only at e2
            obtain ⟨z1, -⟩ := n5x_ok d5 hty h5 e2 hp9
            refine Or.inr (Or.inr ⟨?_, e2, w1⟩)
            rw [← z1]
            have := cdn_200 (ct_mem hty)
            omega
          · have hd := List.all_eq_true.mp d4 _ w2
            obtain ⟨z1, -⟩ := n5x_ok (and2 hd).2 hty h5 rfl hp9
            have := cdn_200 (ct_mem hty)
            omega
      have gr1 : Gr I G (nu1, I.2.1, adp I.2.2 I.2.1 E o) (upC (upH G1 (pb_h e o (g_h G1))) (cnt_dels o (pb_cells G1 c e 0 (cd c).2.2 l (g_c G1)))) :=
        ⟨r2, r3, fun _ _ => rfl, Nat.le_of_eq (by
          show _ = (pb_h e o (g_h G1)).length
          rw [pbh_len, r4]), mono⟩
      split at hs
      · cases hs
        exact ⟨_, hR3, gr1, rfl, hcE, hadne, hc1000, ie, r8, d5, hmode⟩
      · rename_i n hn
        replace hs := bif_some hs
        obtain ⟨hne, hs⟩ := hs
        have hne := veq_ok hne
        subst hne
        split at hs
        · cases hs
        · rename_i q hq
          cases hs
          obtain ⟨-, n1, n2, n3⟩ := cnt_ok hR1 hn
          have n3 : ∀ kk, I.2.2 c kk ≠ none ↔ 2147483648 + kk < sval nu1 n := n3
          obtain ⟨v, Gq⟩ := q
          obtain ⟨X, hX⟩ : ∃ X : Int32, IV nu1 (g_n G1) n X := by
            refine ⟨Int32.ofInt (E : Int), n1, n2, ?_⟩
            rw [he1]
            have h1 := i2n_z (Int32.ofInt (E : Int))
            rw [Int32.toInt_ofInt_of_le (by omega) (by omega)] at h1
            omega
          obtain ⟨nu2, Y, q1, q2, q3⟩ := y_bin_ok (nu := nu1) (G := upC (upH G1 (pb_h n o (g_h G1))) (cnt_dels o (pb_cells G1 c n 0 (cd c).2.2 l (g_c G1)))) p0 hX (sk_IV c_1) hq
          have hY : i2n Y = 2147483648 + E + 1 := by
            have e1 : X + 1 = Y := Option.some.inj q1
            have e2 := kb_add X 1
            rw [e1, c_1, hX.2.2, he1] at e2
            omega
          have hR4 := rm_nk hR3 q2
          have hv : sval nu2 v = 2147483648 + E + 1 := q3.2.2.symm.trans hY
          have hR5 := rm_cell (c := c) (i := sk 2147483648) (j := (8, 0, 0)) (v := v) hR4 ⟨sk_okn, fun hh => Bool.noConfusion hh, hc1000, Or.inr (Or.inl ⟨rfl, q3.1, q3.2.1, fun kk => by
            show adp I.2.2 I.2.1 E o c kk ≠ none ↔ 2147483648 + kk < sval nu2 v
            rw [hv]
            by_cases hkk : kk = E
            · rw [hkk, hcE]
              exact ⟨fun _ => by omega, fun _ hh => by cases hh⟩
            · rw [hadne c kk hkk, n3 kk, he1]
              omega⟩)⟩
          refine ⟨_, hR5, gr_trans gr1 ?_, rfl, hcE, hadne, hc1000, ie, ?_, d5, hmode⟩
          · exact ⟨q2.2.1, q2.2.2.1, fun _ _ => rfl, Nat.le_of_eq (by
              show _ = (g_h Gq).length
              rw [q2.2.2.2.1]), fun _ _ _ _ hh => hh⟩
          · show g_p Gq = g_p G
            rw [q2.2.2.2.2.2.2.2.2.2]
            exact r8
  · cases hs
theorem ck_om : ctt.all (fun l => l.all (fun c => c.2.2.all (fun t => bif Nat.beq t.1 4 then Nat.ble (cdm t.2.1) 999999 else true))) = true := by decide +kernel
theorem ck_own_m {c f : Nat} {ty : TY} (h : ct_at c f = some ty) (h4 : ty.1 = 4) : cdm ty.2.1 ≤ 999999 := by
  have h1 := List.all_eq_true.mp (cd_all ck_om (ct_mem h)) ty (ct_mem h)
  rw [h4] at h1
  exact blet h1
/-- what the state says of new rows -/
theorem row_put {e : SV} {E a lo : Nat} (hR : RM B I G h) (oe : okn (g_n G) e) (he : sval I.1 e = 2147483648 + E) (ha : a < 1000) (hrow : ∀ p, p + 1 < cdm a → ∃ x, At I.2.2 h a E p (.int x) ∧ i2n x = lo) : RM B I (y_put G a e (11, 0, 0) (sk lo)) h := by
  refine rm_cell hR ⟨oe, fun e => (by cases e), ha, Or.inr (Or.inr (Or.inr ⟨by show 10 ≤ 11; omega, rfl, sk_okn, ?_⟩))⟩
  show PX 11 I.2.2 h a (sval I.1 e) lo
  unfold PX
  rw [show Nat.beq 11 10 = false from rfl, cond_false, show Nat.beq 11 15 = false from rfl, cond_false, he, Nat.add_sub_cancel_left]
  exact hrow
theorem row_all {e : SV} {E c : Nat} {H : List SO} (P : TY → SV → Prop) (hP : ∀ t v, P t v → Nat.beq t.1 4 = true → Nat.beq v.1 5 = true → ∀ kd q, H[v.2.1]? = some (kd, .inl q) → Nat.beq q.2.1 0 = true → Nat.beq q.2.2.1 q.2.2.2 = true → t.2.1 < 1000 ∧ ∀ p, p + 1 < cdm t.2.1 → ∃ x, At I.2.2 h t.2.1 E p (.int x) ∧ i2n x = q.2.2.1) : ∀ {ts : List TY} {l : List SV} {G : SG}, RM B I G h → okn (g_n G) e → sval I.1 e = 2147483648 + E → (∀ (f : Nat) (t : TY) (v : SV), ts[f]? = some t → l[f]? = some v → P t v) → RM B I (row_c H e ts l G) h ∧ (g_n (row_c H e ts l G) = g_n G ∧ (g_h (row_c H e ts l G) = g_h G ∧ (g_p (row_c H e ts l G) = g_p G ∧ (g_u (row_c H e ts l G) = g_u G ∧ (g_q (row_c H e ts l G) = g_q G ∧ (g_x (row_c H e ts l G) = g_x G ∧ g_k (row_c H e ts l G) = g_k G)))))) := by
  intro ts
  induction ts with
  | nil => intro l G hR _ _ _; cases l <;> exact ⟨hR, rfl, rfl, rfl, rfl, rfl, rfl, rfl⟩
  | cons t ts ih =>
    intro l G hR oe he hall
    cases l with
    | nil => exact ⟨hR, rfl, rfl, rfl, rfl, rfl, rfl, rfl⟩
    | cons v l =>
      rw [row_c]
      have hP0 := hall 0 t v rfl rfl
      have hall' : ∀ (f : Nat) (t : TY) (v : SV), ts[f]? = some t → l[f]? = some v → P t v := fun f t v h1 h2 => hall (f + 1) t v h1 h2
      cases hb : Nat.beq t.1 4 && Nat.beq v.1 5
      · rw [cond_false]
        exact ih hR oe he hall'
      · rw [cond_true]
        obtain ⟨b1, b2⟩ := and2 hb
        split
        · rename_i kd q hq
          cases hc : Nat.beq q.2.1 0 && Nat.beq q.2.2.1 q.2.2.2
          · rw [cond_false]
            exact ih hR oe he hall'
          · rw [cond_true]
            obtain ⟨c1, c2⟩ := and2 hc
            obtain ⟨d1, d2⟩ := hP t v hP0 b1 b2 kd q hq c1 c2
            exact ih (row_put hR oe he d1 d2) oe he hall'
        · exact ih hR oe he hall'
theorem y_pub_ok {k c ow op E : Nat} {e : SV} (hR : RM B I G h) (hs : y_pub G k c e ow op = some G') (oe : okn (g_n G) e) (he : sval I.1 e = 2147483648 + E) (hfree : I.2.2 c E = none) (how : ow < 1000 → I.2.2 ow E ≠ none) :
    ∃ I', RM (B.1, fun a i => B.2 a i ∨ (ow < 1000 ∧ (a = c ∧ i = E))) I' G' h ∧ (Gr I G I' G' ∧ (I'.2.1 = I.2.1 ∧ (I'.2.2 c E = some (I.2.1 k) ∧ ((∀ a i, i ≠ E → I'.2.2 a i = I.2.2 a i) ∧ (c < 1000 ∧ (isI e = true ∧ (g_p G' = g_p G ∧ (n5x c ow op = true ∧ cdm c = 0)))))))) := by
  unfold y_pub at hs
  split at hs
  · cases hs
  · rename_i G2 hG2
    obtain ⟨I', p1, p2, p3, p4, p5, p6, p7, p8, p9, p10⟩ := y_pub0_ok hR hG2 oe he hfree how
    split at hs
    · rename_i kd l hk
      have e' := Option.some.inj hs
      subst e'
      have oe2 : okn (g_n G2) e := okn_up oe p2.2.1
      have he2 : sval I'.1 e = 2147483648 + E := by rw [sval_ag oe p2.1]; exact he
      -- the object as it is
      have hkl : k < (g_h G).length := (List.getElem?_eq_some_iff.mp hk).1
      obtain ⟨-, k1, vs, y1, y2, y3, y4⟩ := p1.2.2.2.1.1 c E _ p6 p4
      have hobj : kd < 30 ∧ LM I (g_h G).length (g_n G) l vs := by
        rcases hR.2.1 k _ hk with ⟨e9, w, e1, e2, e3⟩ | ⟨a1, a2, ws, a3, a4⟩
        · exfalso
          unfold y_pub0 at hG2
          rw [hk] at hG2
          dsimp only at hG2 e9
          replace hG2 := (bif_some hG2).1
          have := blet (and2 (and2 (and2 hG2).1).1).2
          omega
        · rw [a3] at y1
          cases y1
          exact ⟨a1, a4⟩
      obtain ⟨r1, r2, r3, r4, r5, r6, r7, r8⟩ := row_all (B := (B.1, fun a i => B.2 a i ∨ (ow < 1000 ∧ (a = c ∧ i = E)))) (I := I') (h := h) (H := g_h G) (E := E) (c := c) (e := e) (fun (t : TY) (v : SV) => ∃ (f : Nat) (V : Value), (cd c).2.2[f]? = some t ∧ (vs[f]? = some V ∧ SVm I (g_h G).length (g_n G) v V)) (fun t v hf b4 b5 kd' q hq c1 c2 => by
        obtain ⟨f, V, f1, f2, f3⟩ := hf
        have b4 := beqt b4
        have b5 := beqt b5
        have hct : ct_at c f = some t := by unfold ct_at; rw [p10]; exact f1
        obtain ⟨ty, t1, t2⟩ := y4 f V f2
        rw [hct] at t1
        cases t1
        obtain ⟨v1, v2⟩ := sv_raw f3 b5
        have hcl : t.2.1 < 1000 := ty_cls hct (by omega)
        rcases t2 with ⟨z, -⟩ | ⟨z, -⟩ | ⟨z, -⟩ | ⟨z, -⟩ | ⟨-, z⟩ | ⟨z, -⟩ | ⟨z, -⟩ | ⟨z, -⟩ | z
        case inr.inr.inr.inr.inl =>
          rcases z with ⟨z1, -⟩ | ⟨-, qa, z2, z3⟩
          · omega
          · rw [Nat.add_sub_cancel_left] at z2
            rw [v2] at z3
            cases z3
            rcases hR.2.1 v.2.1 _ hq with ⟨-, w, e1, -⟩ | ⟨a1, a2, ws, a3, a4⟩
            · cases e1
            · obtain ⟨a5, a6⟩ : ws.length = q.1 ∧ ∀ v, v ∈ ws → TU q.2 v := a4
              refine ⟨hcl, fun p hp => ?_⟩
              obtain ⟨-, k2, vs2, u1, u2, u3, -⟩ := p1.2.2.2.1.1 t.2.1 E _ hcl z2
              rw [a3] at u1
              cases u1
              have hlen : p < ws.length := by
                by_cases m9 : cdm t.2.1 ≤ 999999
                · have := u3.2.1 (by omega) m9
                  omega
                · exfalso
                  have := ck_own_m hct b4
                  omega
              have hTU := a6 _ (List.getElem_mem hlen)
              rcases hTU with ⟨-, x, hx, x1, x2⟩ | ⟨c3, -⟩
              · have := beqt c2
                exact ⟨x, ⟨_, _, ws, z2, a3, by rw [List.getElem?_eq_getElem hlen, hx]⟩, by omega⟩
              · have := beqt c1
                omega
        all_goals omega) (ts := (cd c).2.2) (l := l) p1 oe2 he2 (fun f t v f1 f2 => by
          obtain ⟨V, w1, w2⟩ := lm_get hobj.2 f2
          exact ⟨f, V, f1, w1, w2⟩)
      refine ⟨I', r1, ?_, p3, p4, p5, p6, p7, r4.trans p8, p9, p10⟩
      exact ⟨p2.1, by rw [r2]; exact p2.2.1, p2.2.2.1, by rw [r3]; exact p2.2.2.2.1, p2.2.2.2.2⟩
    · have e' := Option.some.inj hs
      subst e'
      exact ⟨I', p1, p2, p3, p4, p5, p6, p7, p8, p9, p10⟩
end
