/-! ===== rows of classes: cloned, copied into one another ===== -/
theorem ck_k20 : ctt.all (fun l => l.all (fun c => !(Nat.beq c.1 20) || !(Nat.beq c.2.1 0))) = true := by decide +kernel
theorem k20_m {c : Nat} (h : cdk c = 20) : cdm c ≠ 0 := by
  intro e
  by_cases hc : c / 16 < ctt.length
  · by_cases hd : c % 16 < (ctt[c / 16]).length
    · have h1 : cd c = (ctt[c / 16])[c % 16] := by
        unfold cd
        rw [List.getD_eq_getElem?_getD (l := ctt), List.getElem?_eq_getElem hc, Option.getD_some, List.getD_eq_getElem?_getD, List.getElem?_eq_getElem hd, Option.getD_some]
      have h2 := List.all_eq_true.mp (List.all_eq_true.mp ck_k20 _ (List.getElem_mem hc)) _ (List.getElem_mem hd)
      rw [← h1] at h2
      have e1 : (cd c).1 = 20 := h
      have e2 : (cd c).2.1 = 0 := e
      rw [e1, e2] at h2
      exact Bool.noConfusion h2
    · have h1 : cd c = (99, 0, []) := by
        unfold cd
        rw [List.getD_eq_getElem?_getD (l := ctt), List.getElem?_eq_getElem hc, Option.getD_some, List.getD_eq_getElem?_getD, List.getElem?_eq_none (by omega)]
        rfl
      unfold cdk at h
      rw [h1] at h
      exact absurd h (by decide)
  · have h1 : cd c = (99, 0, []) := by
      unfold cd
      rw [List.getD_eq_getElem?_getD (l := ctt), List.getElem?_eq_none (by omega)]
      rfl
    unfold cdk at h
    rw [h1] at h
    exact absurd h (by decide)
theorem ct_one {c p : Nat} {t : TY} (hm : cdm c ≠ 0) (h : (cd c).2.2 = [t]) : ct_at c p = some t := by
  unfold ct_at
  cases e : Nat.beq (cdm c) 0
  · rw [cond_false, h]; rfl
  · exact absurd (beqt e) hm
section
variable {B : BS} {I I' : IN} {n m : Nat} {G G' : SG} {h h' : AH} {os : List SOUT} {lv lv' : SLV} {st st' r : List SV} {L L' : LV} {S S' R : List Value} {c : Int} {a k kd i f : Nat}
theorem Y_clone_ok (hR : RM B I G h) (hK : KN lv) (hL : LVM I (g_h G).length (g_n G) lv L) (hS : LM I (g_h G).length (g_n G) st S) (hs : Y_clone lv st G = some os) : Cc B I G h os (s_clone L S h) := by
  unfold Y_clone at hs
  split at hs
  · rename_i x r
    obtain ⟨V, R1, rfl, g1, g2⟩ := lm_cons hS
    replace hs := bif_some hs
    obtain ⟨f0, hs⟩ := hs
    obtain ⟨f0, f1⟩ := and2 f0
    obtain ⟨f0, f2⟩ := and2 f0
    obtain ⟨f1, f3⟩ := and2 f1
    obtain ⟨f3, f4⟩ := and2 f3
    have f2 := beqt f2
    have f1 := blet f1
    have f4 := blet f4
    split at hs
    · rename_i t ht
      replace hs := bif_some hs
      obtain ⟨f5, hs⟩ := hs
      obtain ⟨f5, f6⟩ := and2 f5
      have f5 := beqt f5
      have f6 := blet f6
      obtain ⟨o1, o2, o3⟩ := sv_typ g1 f0
      have b := (itv_ok hR.1.1 (y_idx x)).1
      rcases o3 with ⟨e, -⟩ | ⟨e, q, e1, rfl⟩
      · omega
      · obtain ⟨-, k, vs, h1, h2, h3, h4⟩ := hR.2.2.2.1.1 _ _ _ o2 e1
        have hk : k = 30 := by
          rcases h2 with h2 | ⟨h2, -⟩
          · omega
          · omega
        subst hk
        have hlen := h3.2.1 (by omega) f4
        have hall : ∀ v, v ∈ vs → ∃ x, v = .int x ∧ (t.2.1 ≤ i2n x ∧ i2n x ≤ t.2.2) := by
          intro v hv
          obtain ⟨p, hp⟩ := List.getElem?_of_mem hv
          obtain ⟨ty, ht2, hT⟩ := h4 p v hp
          rw [ct_one (by omega) ht] at ht2
          cases ht2
          rcases hT with ⟨-, hT⟩ | ⟨e9, -⟩ | ⟨e9, -⟩ | ⟨e9, -⟩ | ⟨e9, -⟩ | ⟨e9, -⟩ | ⟨e9, -⟩ | ⟨e9, -⟩ | e9
          · exact hT
          all_goals omega
        have hall2 : vs.all (am_ty 0) = true := List.all_eq_true.mpr fun v hv => by
          obtain ⟨x, rfl, -⟩ := hall v hv
          rfl
        unfold s_clone am_get
        dsimp only
        rw [h1]
        dsimp only
        rw [if_pos ⟨rfl, hall2, by rw [lm_w g2]; exact blet f3⟩]
        have e9 : cdm x.2.1 - 1 = vs.length := by omega
        rw [e9] at hs
        exact c_push (o := .inl (vs.length, t)) hR hK hL g2 (by omega) ⟨rfl, fun v hv => Or.inl ⟨f5, hall v hv⟩⟩ hs
    · cases hs
  · cases hs
theorem c_del_mem {y : Nat} : ∀ {l : List CE} {x : CE}, x ∈ c_del y l → x ∈ l ∧ (x.1 = y → ¬ x.2.2.1.1 ≤ 7) := by
  intro l
  induction l with
  | nil => intro x hx; cases hx
  | cons z r ih =>
    intro x hx
    rw [c_del] at hx
    cases hb : (Nat.beq z.1 y && Nat.ble z.2.2.1.1 7) || (Nat.ble 10 z.2.2.1.1 && (pxK z.2.2.1.1 z.1).any (fun a => Nat.beq (a / 128) y))
    · rw [hb, cond_false] at hx
      rcases List.mem_cons.mp hx with rfl | hx
      · refine ⟨List.mem_cons_self, fun h1 h2 => ?_⟩
        have hb := (Bool.or_eq_false_iff.mp hb).1
        rw [h1, Nat.beq_refl, Nat.ble_eq_true_of_le h2] at hb
        cases hb
      · exact ⟨List.mem_cons_of_mem _ (ih hx).1, (ih hx).2⟩
    · rw [hb, cond_true] at hx
      exact ⟨List.mem_cons_of_mem _ (ih hx).1, (ih hx).2⟩
theorem c_del_mem2 {y : Nat} : ∀ {l : List CE} {x : CE}, x ∈ c_del y l → 10 ≤ x.2.2.1.1 → ∀ a, a ∈ pxK x.2.2.1.1 x.1 → a / 128 ≠ y := by
  intro l
  induction l with
  | nil => intro x hx; cases hx
  | cons z r ih =>
    intro x hx
    rw [c_del] at hx
    cases hb : (Nat.beq z.1 y && Nat.ble z.2.2.1.1 7) || (Nat.ble 10 z.2.2.1.1 && (pxK z.2.2.1.1 z.1).any (fun a => Nat.beq (a / 128) y))
    · rw [hb, cond_false] at hx
      rcases List.mem_cons.mp hx with rfl | hx
      · intro h10 a ha e
        have hb := (Bool.or_eq_false_iff.mp hb).2
        rw [Nat.ble_eq_true_of_le h10, Bool.true_and] at hb
        have h1 : (pxK x.2.2.1.1 x.1).any (fun a => Nat.beq (a / 128) y) = true := List.any_eq_true.mpr ⟨a, ha, by rw [e]; exact Nat.beq_refl _⟩
        rw [h1] at hb
        cases hb
      · exact ih hx
    · rw [hb, cond_true] at hx
      exact ih hx
/-- a row that stands in no coupling has other contents of its type -/
theorem row_ok {y b q : Nat} {vs vs' : List Value} (hR : RM B I G h) (hc : y < 1000) (hk20 : cdk y = 20) (hq : I.2.2 y b = some q) (hh : h.1 q = some (20, vs)) (hlen : vs'.length = vs.length) (hty : ∀ p v, vs'[p]? = some v → ∃ ty, ct_at y p = some ty ∧ TV I.2.2 ty b p v) (h5 : ∀ p v ty, vs'[p]? = some v → ct_at y p = some ty → ty.1 = 0) (hcp : ∀ t, t < g_p G → ∀ m, m ∈ (cp_at t).2.1 → m.1 ≠ y) :
    RM B I (upX (upC G (c_del y (g_c G))) (g_x G) (y * 128 :: g_k G)) (am_set h q (20, vs')) := by
  obtain ⟨hg, hH, hRa, ⟨t1, t2, t3, t4, t5, t6⟩, hX, hC, s1, s2, s3, s4, s5, s6, s7⟩ := hR
  have hqt : ∀ {c' i' : Nat}, I.2.2 c' i' = some q → c' = y ∧ i' = b := fun h' => own_at t2 hq (Or.inl (by omega)) h'
  have ne_at : ∀ {c' i' p' : Nat} {W : Value}, ¬ c' = y → (At I.2.2 (am_set h q (20, vs')) c' i' p' W ↔ At I.2.2 h c' i' p' W) := by
    intro c' i' p' W hne
    constructor
    · rintro ⟨q', k', ws, a1, a2, a3⟩
      rw [am_ne (fun e => hne (hqt (by rw [← e]; exact a1)).1)] at a2
      exact ⟨q', k', ws, a1, a2, a3⟩
    · rintro ⟨q', k', ws, a1, a2, a3⟩
      exact ⟨q', k', ws, a1, (am_ne (fun e => hne (hqt (by rw [← e]; exact a1)).1)).trans a2, a3⟩
  refine ⟨hg, ?_, hRa, ⟨?_, t2, t3, ⟨t4.1, t4.2.1, ?_⟩, ?_, ?_⟩, hX, ?_, ?_, ?_, s3, s4, s5, s6, s7⟩
  · intro kk o ho
    rcases hH kk o ho with h1 | ⟨h1, h2, ws, h3, h4⟩
    · exact Or.inl h1
    · exact Or.inr ⟨h1, h2, ws, (am_ne (fun e => h2 y b (by rw [e]; exact hq))).trans h3, h4⟩
  · intro c' i' q' hc' h'
    obtain ⟨u1, k', ws, u2, u3, u4, u5⟩ := t1 c' i' q' hc' h'
    refine ⟨u1, ?_⟩
    by_cases e : q' = q
    · subst e
      obtain ⟨e1, e2⟩ := hqt h'
      subst e1; subst e2
      rw [hh] at u2
      cases u2
      exact ⟨20, vs', am_at _ _ _, u3, by rw [hlen]; exact u4, hty⟩
    · exact ⟨k', ws, (am_ne e).trans u2, u3, u4, u5⟩
  · intro c' p' ty' hc' ht' h5' i' hA
    by_cases e : c' = y
    · subst e
      obtain ⟨q', k', ws, a1, a2, a3⟩ := hA
      by_cases e : q' = q
      · subst e
        rw [am_at] at a2
        cases a2
        have := h5 p' _ ty' a3 ht'
        omega
      · rw [am_ne e] at a2
        exact t4.2.2 c' p' ty' hc' ht' h5' i' ⟨q', k', ws, a1, a2, a3⟩
    · exact t4.2.2 c' p' ty' hc' ht' h5' i' ((ne_at e).mp hA)
  · intro l el ident mx hl ql hql
    obtain ⟨mc, ed, sz, N, g1, g2, g3⟩ := t5 l el ident mx hl ql hql
    have hne : ¬ ql = q := by
      intro e
      subst e
      rw [hh] at g1
      cases g1
    refine ⟨mc, ed, sz, N, (am_ne hne).trans g1, g2, ?_⟩
    rcases g3 with g3 | ⟨bq, us, f1, f2, f3, f4⟩
    · exact Or.inl g3
    · refine Or.inr ⟨bq, us, f1, f2, (am_ne fun e => ?_).trans f3, f4⟩
      rw [e] at f1
      have := (hqt f1).1
      unfold bkc at this
      omega
  · intro t kk ht hex
    refine cpat_cong (fun m m1 W => ?_) (t6 t kk ht hex)
    exact ne_at (by rw [mplace_1]; exact hcp t ht m m1)
  · intro x hx
    obtain ⟨x1, x2⟩ := c_del_mem hx
    obtain ⟨y1, y2, y3, y4⟩ := hC x x1
    refine ⟨y1, y2, y3, ?_⟩
    rcases y4 with ⟨z1, i', j', V', z2, z3, z4, z5⟩ | z | ⟨z1, z2, z3, i', a', k', ws, z4, z5, z6, z7⟩ | ⟨z1, z2, z3, z4⟩
    · have ht := tag_I z1
      exact Or.inl ⟨z1, i', j', V', z2, z3, (ne_at fun e => x2 e (by omega)).mpr z4, z5⟩
    · exact Or.inr (Or.inl z)
    · by_cases e : a' = q
      · subst e
        rw [hh] at z6
        cases z6
        exact Or.inr (Or.inr (Or.inl ⟨z1, z2, z3, i', a', 20, vs', z4, z5, am_at _ _ _, by rw [hlen]; exact z7⟩))
      · exact Or.inr (Or.inr (Or.inl ⟨z1, z2, z3, i', a', k', ws, z4, z5, (am_ne e).trans z6, z7⟩))
    · have hno := c_del_mem2 hx z1
      refine Or.inr (Or.inr (Or.inr ⟨z1, z2, z3, px_mono y3 (fun c' i' p W hc' hk' hA => (ne_at fun e1 => ?_).mpr hA) z4⟩))
      subst e1
      have e3 : kcode c' p = c' * 128 := by
        unfold kcode
        cases e3 : Nat.beq (cdm c') 0
        · rfl
        · exact absurd (beqt e3) (k20_m hk20)
      exact hno _ hk' (by rw [e3]; omega)
  · intro q' hq' hno
    have : ¬ q' = q := by
      intro e
      subst e
      rcases s4 y b q' hq with e2 | e2
      · exact hno y b e2
      · omega
    exact (am_ne this).trans (s1 q' hq' hno)
  · intro c' i' q' p hc' h0 hno
    have hno' : kcode c' p ∉ g_k G := fun e => hno (List.mem_cons_of_mem _ e)
    rw [← s2 c' i' q' p hc' h0 hno']
    refine sl_ne (am_ne fun e => hno ?_)
    subst e
    obtain ⟨e1, -⟩ := hqt (s3 c' i' q' hc' h0)
    subst e1
    have e2 : kcode c' p = c' * 128 := by
      unfold kcode
      cases e3 : Nat.beq (cdm c') 0
      · rfl
      · exact absurd (beqt e3) (k20_m hk20)
    rw [e2]
    exact List.mem_cons_self
theorem cpy_mem {xs ys : List Value} {i j n p : Nat} {v : Value} (h : (am_cpy xs ys i j n)[p]? = some v) : v ∈ xs ∨ v ∈ ys := by
  have h1 := List.mem_of_getElem? h
  unfold am_cpy at h1
  rcases List.mem_append.mp h1 with h1 | h1
  · exact Or.inr (List.mem_of_mem_take h1)
  · rcases List.mem_append.mp h1 with h1 | h1
    · exact Or.inl (List.mem_of_mem_drop (List.mem_of_mem_take h1))
    · exact Or.inr (List.mem_of_mem_drop h1)
theorem row_int {y b q k : Nat} {vs : List Value} {t : TY} (hR : RM B I G h) (hc : y < 1000) (hk20 : cdk y = 20) (ht : (cd y).2.2 = [t]) (h0 : t.1 = 0) (hm : cdm y ≤ 999999) (hq : I.2.2 y b = some q) (hh : h.1 q = some (k, vs)) : k = 20 ∧ (vs.length + 1 = cdm y ∧ ∀ v, v ∈ vs → ∃ x, v = .int x ∧ (t.2.1 ≤ i2n x ∧ i2n x ≤ t.2.2)) := by
  obtain ⟨-, k', vs', h1, h2, h3, h4⟩ := hR.2.2.2.1.1 _ _ _ hc hq
  rw [hh] at h1
  cases h1
  have hm0 := k20_m hk20
  refine ⟨?_, h3.2.1 (by omega) hm, fun v hv => ?_⟩
  · rcases h2 with h2 | ⟨h2, -⟩ <;> omega
  · obtain ⟨p, hp⟩ := List.getElem?_of_mem hv
    obtain ⟨ty, ht2, hT⟩ := h4 p v hp
    rw [ct_one hm0 ht] at ht2
    cases ht2
    rcases hT with ⟨-, hT⟩ | ⟨e9, -⟩ | ⟨e9, -⟩ | ⟨e9, -⟩ | ⟨e9, -⟩ | ⟨e9, -⟩ | ⟨e9, -⟩ | ⟨e9, -⟩ | e9
    · exact hT
    all_goals omega
theorem Y_acp_ok (hR : RM B I G h) (hK : KN lv) (hL : LVM I (g_h G).length (g_n G) lv L) (hS : LM I (g_h G).length (g_n G) st S) (hs : Y_acp lv st G = some os) : Cc B I G h os (s_acp L S h) := by
  unfold Y_acp at hs
  split at hs
  · rename_i n j y0 i x0 r
    obtain ⟨Vn, R1, rfl, gn, g1⟩ := lm_cons hS
    obtain ⟨Vj, R2, rfl, gj, g2⟩ := lm_cons g1
    obtain ⟨Vy, R3, rfl, gy, g3⟩ := lm_cons g2
    obtain ⟨Vi, R4, rfl, gi, g4⟩ := lm_cons g3
    obtain ⟨Vx, R5, rfl, gx, g5⟩ := lm_cons g4
    replace hs := bif_some hs
    obtain ⟨f0, hs⟩ := hs
    obtain ⟨fn, f0⟩ := and2 f0
    obtain ⟨fj, fi⟩ := and2 f0
    obtain ⟨N, rfl, hn⟩ := sv_int gn fn
    obtain ⟨J, rfl, hj⟩ := sv_int gj fj
    obtain ⟨Ii, rfl, hi⟩ := sv_int gi fi
    split at hs
    · rename_i x y hx hy
      obtain ⟨nx1, nx2⟩ := nn_ok hR gx hx
      obtain ⟨ny1, ny2⟩ := nn_ok hR gy hy
      replace hs := bif_some hs
      obtain ⟨f1, hs⟩ := hs
      obtain ⟨fx, fy⟩ := and2 f1
      replace hs := bif_some hs
      obtain ⟨f2, hs⟩ := hs
      obtain ⟨f2, f3⟩ := and2 f2
      obtain ⟨f2, f4⟩ := and2 f2
      obtain ⟨f2, f5⟩ := and2 f2
      obtain ⟨f4, f6⟩ := and2 f4
      obtain ⟨f3, f7⟩ := and2 f3
      obtain ⟨fn0, f3⟩ := and2 f3
      obtain ⟨fj0, fi0⟩ := and2 f3
      obtain ⟨f7, f8⟩ := and2 f7
      obtain ⟨fsx, fsy⟩ := and2 f7
      obtain ⟨fw, fcp⟩ := and2 f8
      have f2 := beqt f2
      have f5 := beqt f5
      have f4 := blet f4
      have f6 := blet f6
      rcases nx2 with ⟨-, x2, x3, xi, qx, x4, x5, rfl⟩ | ⟨e, -⟩
      · rcases ny2 with ⟨-, y2, y3, yi, qy, y4, y5, rfl⟩ | ⟨e, -⟩
        · split at hs
          · rename_i t u ht hu
            replace hs := bif_some hs
            obtain ⟨f9, hs⟩ := hs
            obtain ⟨f9, f10⟩ := and2 f9
            obtain ⟨f9, f11⟩ := and2 f9
            obtain ⟨f10, f12⟩ := and2 f10
            have f9 := beqt f9
            have f11 := beqt f11
            have f10 := blet f10
            have f12 := blet f12
            obtain ⟨-, kx, xs, hqx, -⟩ := hR.2.2.2.1.1 _ _ _ x3 x5
            obtain ⟨-, ky, ys, hqy, -⟩ := hR.2.2.2.1.1 _ _ _ y3 y5
            obtain ⟨rfl, lx, ax⟩ := row_int hR x3 f2 ht f9 f4 x5 hqx
            obtain ⟨rfl, ly, ay⟩ := row_int hR y3 f5 hu f11 f6 y5 hqy
            have hall2 : xs.all (am_ty 0) = true := List.all_eq_true.mpr fun v hv => by
              obtain ⟨x, rfl, -⟩ := ax v hv
              rfl
            have zn := y_le_ok hR.1 sk_okn hn.2.1 fn0
            have zj := y_le_ok hR.1 sk_okn hj.2.1 fj0
            have zi := y_le_ok hR.1 sk_okn hi.2.1 fi0
            rw [sk_val] at zn zj zi
            have sx := y_sum_ok hR.1 hi.2.1 hn.2.1 fsx
            have sy := y_sum_ok hR.1 hj.2.1 hn.2.1 fsy
            have en := hn.2.2
            have ej := hj.2.2
            have ei := hi.2.2
            obtain ⟨n1, n2⟩ := j_of (j := N) (by omega)
            obtain ⟨j1, j2⟩ := j_of (j := J) (by omega)
            obtain ⟨i1, i2⟩ := j_of (j := Ii) (by omega)
            have b1 : Ii.toNatClampNeg + N.toNatClampNeg ≤ xs.length := by omega
            have b2 : J.toNatClampNeg + N.toNatClampNeg ≤ ys.length := by omega
            unfold s_acp am_get
            dsimp only
            rw [hqx, hqy]
            dsimp only
            rw [if_pos ⟨rfl, rfl, hall2, ⟨i1, j1, n1⟩, b1, b2, by rw [lm_w g5]; exact blet fw⟩]
            have hty : ∀ p v, (am_cpy xs ys Ii.toNatClampNeg J.toNatClampNeg N.toNatClampNeg)[p]? = some v → ∃ ty, ct_at y.2.1 p = some ty ∧ TV I.2.2 ty yi p v := by
              intro p v hv
              refine ⟨u, ct_one (k20_m f5) hu, Or.inl ⟨f11, ?_⟩⟩
              rcases cpy_mem hv with hv | hv
              · obtain ⟨z, rfl, z1, z2⟩ := ax v hv
                exact ⟨z, rfl, by omega, by omega⟩
              · exact ay v hv
            have hcp : ∀ t, t < g_p G → ∀ m, m ∈ (cp_at t).2.1 → m.1 ≠ y.2.1 := by
              intro t ht m hm e
              have h1 := List.all_eq_true.mp (List.all_eq_true.mp fcp t (List.mem_range.mpr ht)) m hm
              rw [e, Nat.beq_refl] at h1
              exact Bool.noConfusion h1
            have hR2 := row_ok (vs' := am_cpy xs ys Ii.toNatClampNeg J.toNatClampNeg N.toNatClampNeg) hR y3 f5 y5 hqy (cpy_len b1 b2) hty (fun p v ty _ h9 => by rw [ct_one (k20_m f5) hu] at h9; cases h9; exact f11) hcp
            have hg : Gr I G I (upX (upC G (c_del y.2.1 (g_c G))) (g_x G) (y.2.1 * 128 :: g_k G)) := ⟨fun _ _ => rfl, Nat.le_refl _, fun _ _ => rfl, Nat.le_refl _, fun _ _ _ _ e => e⟩
            exact c_nx hs ⟨hg, hR2, hK, lvm_gr hg hL, lm_gr hg g5⟩
          · cases hs
        · rw [e] at fy; cases fy
      · rw [e] at fx; cases fx
    · cases hs
  · cases hs
end
