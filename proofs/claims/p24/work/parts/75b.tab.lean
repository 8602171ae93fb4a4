/-! ===== the start's objects keep the classes' tables: all of them ===== -/
noncomputable def tA (T : List (Nat × Nat × Nat)) (G : qe_SG) : Bool := T.all (fun q => Nat.ble q.2.1 1000 && (bif Nat.beq q.2.2 6 then Nat.beq q.1 kSCR && Nat.beq q.2.1 0 else (match (qe_g_h G)[q.2.2]? with
  | some o => obS T q.1 q.2.1 o
  | none => false)))
noncomputable def tB (T : List (Nat × Nat × Nat)) : Bool := T.all (fun x => T.all (fun y => bif Nat.beq x.2.2 y.2.2 || (Nat.ble x.2.2 6 && Nat.ble y.2.2 6) then (Nat.beq x.1 y.1 && Nat.beq x.2.1 y.2.1) || ((Nat.ble 30 (cdk x.1) && Nat.ble x.1 999) && (Nat.ble 30 (cdk y.1) && Nat.ble y.1 999)) else true))
noncomputable def tC (T : List (Nat × Nat × Nat)) : Bool := (List.range 1000).all (fun c => (bif Nat.beq (cdm c) 0 then (cd c).2.2.all (fun ty => bif Nat.beq ty.1 4 || Nat.beq ty.1 5 then T.all (fun q => bif Nat.beq q.1 ty.2.1 then tb_has c q.2.1 T else true) else true) else true) && (bif sgl c then tb_has c 0 T else true))
noncomputable def isLst (o : qe_SO) : Bool := Nat.beq o.1 12 && (match o.2 with
  | .inr [s0, s1, s2] => Nat.beq s0.1 0 && ((Nat.beq s1.1 5 && Nat.beq s1.2.1 5) && (Nat.beq s2.1 0 && (Nat.beq s2.2.1 2147483648 && Nat.beq s2.2.2 2147483648)))
  | _ => false)
noncomputable def tE (T : List (Nat × Nat × Nat)) (G : qe_SG) : Bool := (match tb_at (stc 5) 0 T with
  | some k => Nat.beq k 5
  | none => false) && lstt.all (fun x => match tb_at x.1 0 T with
  | none => true
  | some k => !(Nat.beq k 6) && (match (qe_g_h G)[k]? with
    | some o => isLst o
    | none => false))
noncomputable def vlS (T : List (Nat × Nat × Nat)) (G : qe_SG) (c i p : Nat) : Option Nat := match tb_at c i T with
  | none => none
  | some k => bif Nat.beq k 6 then none else (match (qe_g_h G)[k]? with
    | none => none
    | some o => (match obV o p with
      | none => none
      | some s => bif Nat.beq s.1 0 && Nat.beq s.2.1 s.2.2 then some s.2.1 else none))
noncomputable def exS (T : List (Nat × Nat × Nat)) (G : qe_SG) (c i p : Nat) : Bool := match tb_at c i T with
  | none => false
  | some k => bif Nat.beq k 6 then true else (match (qe_g_h G)[k]? with
    | none => true
    | some o => Nat.ble (p + 1) (obN o))
noncomputable def gvS (T : List (Nat × Nat × Nat)) (G : qe_SG) (k : Nat) (ms ds : List (Nat × Nat × Nat)) : List (Nat × Nat) := match ms, ds with
  | m :: ms, d :: ds => (match vlS T G (mplace m k).1 (mplace m k).2.1 (mplace m k).2.2 with
    | some x => (d.1, x) :: gvS T G k ms ds
    | none => gvS T G k ms ds)
  | _, _ => []
noncomputable def gvF (l : List (Nat × Nat)) (g : Nat) : Nat := match l with
  | [] => 0
  | q :: r => bif Nat.beq q.1 g then q.2 else gvF r g
noncomputable def dcS (T : List (Nat × Nat × Nat)) (G : qe_SG) (all : Bool) (k : Nat) (gv : Nat → Nat) (ms ds : List (Nat × Nat × Nat)) : Bool := match ms, ds with
  | m :: ms, d :: ds => (bif all || Nat.beq m.2.1 1 then (match vlS T G (mplace m k).1 (mplace m k).2.1 (mplace m k).2.2 with
    | some x => Nat.ble d.1 99 && (Nat.beq x (gv (d.1 % 100)) && (Nat.ble d.2.1 x && Nat.ble x d.2.2))
    | none => false) else true) && dcS T G all k gv ms ds
  | _, _ => true
noncomputable def cpS (T : List (Nat × Nat × Nat)) (G : qe_SG) (t k : Nat) : Bool :=
  bif (cp_at t).2.1.any (fun m => exS T G (mplace m k).1 (mplace m k).2.1 (mplace m k).2.2) then
    (bif Nat.beq (cp_at t).1 0 || tb_has ((cp_at t).1 - 1) k T then (cp_at t).2.2.1.any (fun d => dcS T G true k (gvF (gvS T G k (cp_at t).2.1 d)) (cp_at t).2.1 d)
    else (cp_at t).2.2.2.any (fun d => dcS T G false k (gvF (gvS T G k (cp_at t).2.1 d)) (cp_at t).2.1 d))
  else true
noncomputable def mbS (T : List (Nat × Nat × Nat)) (G : qe_SG) (N : Nat) (m : Nat × Nat × Nat) : Bool := bif Nat.beq m.2.1 0 then T.all (fun q => bif Nat.beq q.1 m.1 then Nat.ble (q.2.1 + 1) N else true) else (match tb_at m.1 (m.2.2 - 2147483648) T with
  | none => true
  | some k => !(Nat.beq k 6) && (match (qe_g_h G)[k]? with
    | none => false
    | some o => Nat.ble (obN o) N))
/-- how far a coupling reaches, by its rows -/
noncomputable def tbN (t : Nat) : Nat := (cp_at t).2.1.foldr (fun m n => bif Nat.beq m.2.1 0 then nmax n 4 else nmax n (cdm m.1 - 1)) 0
noncomputable def tF (T : List (Nat × Nat × Nat)) (G : qe_SG) : Bool := (List.range npL).all (fun t => (cp_at t).2.1.all (mbS T G (tbN t)) && (List.range (tbN t)).all (fun k => cpS T G t k))
theorem scr_cd : cd kSCR = (31, 1000000, [(0, 0, 4294967295)]) := by decide +kernel
section
variable {nu σ : Nat → Nat} {base b kb k c i p : Nat} {hb : (Nat → Option AO) × Nat} {G : qe_SG} {h : AH} {T : List (Nat × Nat × Nat)} {xs : List Int32} {s : SV} {v : Value} {ty : TY} {o : qe_SO} {vs : List Value}
theorem al_n6 (h6 : k ≠ 6) : qe_al σ (σ 0) base k = qe_al σ b base k := by
  unfold qe_al
  cases Nat.ble 7 k
  · rw [cond_false, cond_false]
    cases e : Nat.beq k 6
    · rfl
    · exact absurd (beqt e) h6
  · rfl
theorem al_6 : qe_al σ b base 6 = b := rfl
theorem al_7 (h7 : 7 ≤ k) : qe_al σ b base k = base + (k - 7) := by
  unfold qe_al
  rw [Nat.ble_eq_true_of_le h7]
  rfl
theorem al_lt (hσ : ∀ i, i < 6 → σ i < base) (hb' : b < base) (h7 : k < 7) : qe_al σ b base k < base := by
  unfold qe_al
  have e7 : Nat.ble 7 k = false := by
    cases e : Nat.ble 7 k
    · rfl
    · have := blet e; omega
  rw [e7, cond_false]
  cases e : Nat.beq k 6
  · have := beqf e
    exact hσ k (by omega)
  · exact hb'
theorem ob_at (hR : qe_RM (qe_al σ (σ 0) base) nu base hb G h) (h6 : k ≠ 6) (ho : (qe_g_h G)[k]? = some o) : ∃ vs, h.1 (qe_al σ b base k) = some (o.1, vs) ∧ qe_CM (qe_al σ (σ 0) base) nu (qe_g_h G).length (qe_g_n G) o.2 vs := by
  obtain ⟨c, vs, h1, h2, h3, -⟩ := hR.2.1 k o ho
  rw [al_n6 h6 (b := b)] at h1
  rcases h2 with h2 | ⟨h2, -⟩
  · rw [h2] at h1
    exact ⟨vs, h1, h3⟩
  · exact absurd h2 h6
theorem tA_get (hc : tA T G = true) (hk : tb_at c i T = some k) (h6 : k ≠ 6) : ∃ o, (qe_g_h G)[k]? = some o ∧ obS T c i o = true := by
  obtain ⟨-, h1⟩ := and2 (List.all_eq_true.mp hc _ (tb_mem hk))
  cases e : Nat.beq k 6
  · rw [e, cond_false] at h1
    split at h1
    · rename_i o ho
      exact ⟨o, ho, h1⟩
    · cases h1
  · exact absurd (beqt e) h6
theorem t1_start (hR : qe_RM (qe_al σ (σ 0) base) nu base hb G h) (hs : h.1 b = some (kb, xs.map .int)) (hkb : kb = 30 ∨ kb = 31) (hx : xs.length ≤ 3584) (hc : tA T G = true) : T1 (adS (qe_al σ b base) T) h := by
  intro c i q _ hq
  obtain ⟨k, hk, rfl⟩ := ads_some hq
  obtain ⟨h0, h1⟩ := and2 (List.all_eq_true.mp hc _ (tb_mem hk))
  refine ⟨by have h9 : i ≤ 1000 := blet h0; omega, ?_⟩
  by_cases h6 : k = 6
  · subst h6
    obtain ⟨e1, e2⟩ := and2 h1
    have e1 : c = kSCR := beqt e1
    subst e1
    refine ⟨kb, _, hs, ?_, ?_, fun p v hv => ⟨(0, 0, 4294967295), ?_, Or.inl ⟨rfl, ?_⟩⟩⟩
    · unfold KOK cdk
      rw [scr_cd]
      rcases hkb with e | e
      · exact Or.inr ⟨rfl, e⟩
      · exact Or.inl e
    · unfold LenOK cdm
      rw [scr_cd, List.length_map]
      exact ⟨fun e => (by cases e), fun _ e => absurd e (by show ¬ 1000000 ≤ 999999; omega), fun _ => hx⟩
    · unfold ct_at cdm
      rw [scr_cd]
      rfl
    · rw [List.getElem?_map] at hv
      obtain ⟨x, -, e⟩ := Option.map_eq_some_iff.mp hv
      exact ⟨x, e.symm, Nat.zero_le _, by have := i2n_lt x; show i2n x ≤ 4294967295; omega⟩
  · obtain ⟨o, ho, hos⟩ := tA_get hc hk h6
    obtain ⟨vs, v1, v2⟩ := ob_at (b := b) hR h6 ho
    obtain ⟨⟨k1, k2⟩, k3, k4⟩ := obs_ok hos
    refine ⟨o.1, vs, v1, Or.inl k1, by rw [ob_len v2]; exact k3, fun p v hv => ?_⟩
    obtain ⟨s, s1, s2⟩ := ob_val v2 hv
    obtain ⟨ty, y1, y2⟩ := k4 p s s1
    exact ⟨ty, y1, (fits_ok (fun k h6 => al_n6 h6) s2 y2).1⟩
theorem t2_start (hσ : ∀ i, i < 6 → σ i < base) (hb' : b < base) (hc : tB T = true) : T2 (adS (qe_al σ b base) T) := by
  intro c i c' i' q h1 h2
  obtain ⟨k, hk, e1⟩ := ads_some h1
  obtain ⟨k', hk', e2⟩ := ads_some h2
  have e : k = k' ∨ (k ≤ 6 ∧ k' ≤ 6) := by
    by_cases h7 : 7 ≤ k
    · by_cases h8 : 7 ≤ k'
      · rw [al_7 h7] at e1
        rw [al_7 h8] at e2
        omega
      · rw [al_7 h7] at e1
        have := al_lt (k := k') hσ hb' (by omega)
        omega
    · by_cases h8 : 7 ≤ k'
      · rw [al_7 h8] at e2
        have := al_lt (k := k) hσ hb' (by omega)
        omega
      · omega
  have hcc := List.all_eq_true.mp (List.all_eq_true.mp hc _ (tb_mem hk)) _ (tb_mem hk')
  have e3 : (Nat.beq k k' || (Nat.ble k 6 && Nat.ble k' 6)) = true := by
    rcases e with e | ⟨e, e'⟩
    · rw [e, Nat.beq_refl]; rfl
    · rw [Nat.ble_eq_true_of_le e, Nat.ble_eq_true_of_le e']
      cases Nat.beq k k' <;> rfl
  rw [e3, cond_true] at hcc
  rcases or2 hcc with h | h
  · obtain ⟨a1, a2⟩ := and2 h
    exact Or.inl ⟨beqt a1, beqt a2⟩
  · obtain ⟨a1, a2⟩ := and2 h
    obtain ⟨b1, b2⟩ := and2 a1
    obtain ⟨b3, b4⟩ := and2 a2
    exact Or.inr ⟨⟨blet b1, by have := blet b2; omega⟩, blet b3, by have := blet b4; omega⟩
theorem t3_start (hσ : ∀ i, i < 6 → σ i < base) (hb' : b < base) (hR : qe_RM (qe_al σ (σ 0) base) nu base hb G h) (hc : tA T G = true) : T3 (adS (qe_al σ b base) T) h := by
  intro c i q hq
  obtain ⟨k, hk, rfl⟩ := ads_some hq
  obtain ⟨-, -, r3, r4, -⟩ := hR
  by_cases h7 : 7 ≤ k
  · obtain ⟨o, ho, -⟩ := tA_get hc hk (by omega)
    have := (List.getElem?_eq_some_iff.mp ho).1
    rw [al_7 h7]
    omega
  · have := al_lt (k := k) hσ hb' (by omega)
    omega
theorem at_ob (hR : qe_RM (qe_al σ (σ 0) base) nu base hb G h) (hc : tA T G = true) (hV : At (adS (qe_al σ b base) T) h c i p v) : ∃ k, tb_at c i T = some k ∧ (k = 6 ∨ ∃ o s, (qe_g_h G)[k]? = some o ∧ (obS T c i o = true ∧ (obV o p = some s ∧ (qe_SVm (qe_al σ (σ 0) base) nu (qe_g_h G).length (qe_g_n G) s v ∧ p < obN o)))) := by
  obtain ⟨q, k1, vs, h1, h2, h3⟩ := hV
  obtain ⟨k, hk, rfl⟩ := ads_some h1
  refine ⟨k, hk, ?_⟩
  by_cases h6 : k = 6
  · exact Or.inl h6
  · obtain ⟨o, ho, hos⟩ := tA_get hc hk h6
    obtain ⟨ws, v1, v2⟩ := ob_at (b := b) hR h6 ho
    rw [h2] at v1
    have e : vs = ws := by
      have := Option.some.inj v1
      exact (Prod.mk.inj this).2
    subst e
    obtain ⟨s, s1, s2⟩ := ob_val v2 h3
    refine Or.inr ⟨o, s, ho, hos, s1, s2, ?_⟩
    rw [← ob_len v2]
    exact (List.getElem?_eq_some_iff.mp h3).1
theorem t4_start (hR : qe_RM (qe_al σ (σ 0) base) nu base hb G h) (hs : h.1 b = some (kb, xs.map .int)) (hA : tA T G = true) (hc : tC T = true) : T4 (adS (qe_al σ b base) T) h no2 := by
  refine ⟨fun c p ty hc0 hm ht h45 i q hq => ?_, fun c hcs => ?_, fun c p ty hc0 ht h5 i hV => ?_⟩
  · obtain ⟨h1, -⟩ := and2 (List.all_eq_true.mp hc c (List.mem_range.mpr hc0))
    have e0 : Nat.beq (cdm c) 0 = true := by rw [hm]; rfl
    rw [e0, cond_true] at h1
    unfold ct_at at ht
    rw [e0, cond_true] at ht
    have h2 := List.all_eq_true.mp h1 ty (List.mem_of_getElem? ht)
    have e4 : (Nat.beq ty.1 4 || Nat.beq ty.1 5) = true := by
      rcases h45 with e | e <;> rw [e] <;> rfl
    rw [e4, cond_true] at h2
    obtain ⟨k, hk, -⟩ := ads_some hq
    have h3 := List.all_eq_true.mp h2 _ (tb_mem hk)
    dsimp only at h3
    rw [Nat.beq_refl, cond_true] at h3
    exact ads_has.mpr h3
  · obtain ⟨-, h1⟩ := and2 (List.all_eq_true.mp hc c (List.mem_range.mpr (sgl_lt hcs)))
    rw [hcs, cond_true] at h1
    obtain ⟨k, hk⟩ := tb_has_ok h1
    exact ⟨_, ads_of hk⟩
  · refine Or.inl ?_
    obtain ⟨k, hk, h6 | ⟨o, s, ho, hos, s1, s2, -⟩⟩ := at_ob hR hA hV
    · subst h6
      obtain ⟨q, k1, vs, h1, h2, h3⟩ := hV
      rw [ads_of hk] at h1
      have e : b = q := Option.some.inj h1
      rw [← e, hs] at h2
      cases h2
      rw [List.getElem?_map] at h3
      obtain ⟨x, -, e⟩ := Option.map_eq_some_iff.mp h3
      cases e
    · obtain ⟨-, -, k4⟩ := obs_ok hos
      obtain ⟨ty', y1, y2⟩ := k4 p s s1
      rw [ht] at y1
      cases y1
      exact (fits_ok (fun k h6 => al_n6 h6) s2 y2).2 h5 rfl
theorem t5_start (hR : qe_RM (qe_al σ (σ 0) base) nu base hb G h) (hc : tE T G = true) : T5 (adS (qe_al σ b base) T) h := by
  intro l el ident mx hm q hq
  obtain ⟨k, hk, rfl⟩ := ads_some hq
  obtain ⟨c1, c2⟩ := and2 hc
  have c3 := List.all_eq_true.mp c2 _ hm
  dsimp only at c3
  rw [hk] at c3
  dsimp only at c3
  obtain ⟨c4, c5⟩ := and2 c3
  have h6 : k ≠ 6 := fun e => by
    rw [e] at c4
    exact Bool.noConfusion c4
  split at c5
  · rename_i o ho
    obtain ⟨vs, v1, v2⟩ := ob_at (b := b) hR h6 ho
    obtain ⟨kd, o⟩ := o
    unfold isLst at c5
    obtain ⟨d1, d2⟩ := and2 c5
    have d1 : kd = 12 := beqt d1
    subst d1
    dsimp only at d2
    split at d2
    · rename_i s0 s1 s2
      have v2 : qe_LM (qe_al σ (σ 0) base) nu (qe_g_h G).length (qe_g_n G) [s0, s1, s2] vs := v2
      obtain ⟨w0, t0, rfl, x0, y0⟩ := qe_lm_cons v2
      obtain ⟨w1, t1, rfl, x1, y1⟩ := qe_lm_cons y0
      obtain ⟨w2, t2, rfl, x2, y2⟩ := qe_lm_cons y1
      rw [qe_lm_nil y2] at v1
      obtain ⟨e1, e2⟩ := and2 d2
      obtain ⟨e2, e3⟩ := and2 e2
      obtain ⟨e2, e4⟩ := and2 e2
      obtain ⟨e3, e5⟩ := and2 e3
      obtain ⟨e5, e6⟩ := and2 e5
      obtain ⟨mc, rfl, -⟩ := qs_int x0 (beqt e1)
      obtain ⟨sz, rfl, z1, z2⟩ := qs_int x2 (beqt e3)
      have r1 := qs_raw x1 (beqt e2)
      rw [beqt e4] at r1
      rw [beqt e5] at z1
      rw [beqt e6] at z2
      refine ⟨mc, w1, sz, 0, v1, by omega, Or.inl ?_⟩
      split at c1
      · rename_i k5 hk5
        rw [beqt c1] at hk5
        exact ⟨_, ads_of hk5, r1, rfl⟩
      · cases c1
    · cases d2
  · cases c5
theorem vls_ok (hR : qe_RM (qe_al σ (σ 0) base) nu base hb G h) {w : Nat} (hs : vlS T G c i p = some w) : ∃ x, At (adS (qe_al σ b base) T) h c i p (.int x) ∧ i2n x = w := by
  unfold vlS at hs
  split at hs
  · cases hs
  · rename_i k hk
    cases e : Nat.beq k 6
    · rw [e, cond_false] at hs
      split at hs
      · cases hs
      · rename_i o ho
        split at hs
        · cases hs
        · rename_i s hv
          obtain ⟨b1, b2⟩ := bif_some hs
          cases b2
          obtain ⟨b1, b2⟩ := and2 b1
          obtain ⟨vs, v1, v2⟩ := ob_at (b := b) hR (beqf e) ho
          obtain ⟨v, v3, v4⟩ := ob_val' v2 hv
          obtain ⟨x, rfl, x1, x2⟩ := qs_int v4 (beqt b1)
          have := beqt b2
          exact ⟨x, ⟨_, _, vs, ads_of hk, v1, v3⟩, by omega⟩
    · rw [e, cond_true] at hs
      cases hs
theorem exs_ok (hR : qe_RM (qe_al σ (σ 0) base) nu base hb G h) (hA : tA T G = true) (hV : At (adS (qe_al σ b base) T) h c i p v) : exS T G c i p = true := by
  obtain ⟨k, hk, h6 | ⟨o, s, ho, -, -, -, hp⟩⟩ := at_ob hR hA hV
  · unfold exS
    rw [hk, h6]
    rfl
  · unfold exS
    rw [hk]
    dsimp only
    cases Nat.beq k 6
    · rw [cond_false, ho]
      exact Nat.ble_eq_true_of_le hp
    · rfl
theorem dcs_ok (hR : qe_RM (qe_al σ (σ 0) base) nu base hb G h) {all : Bool} {gv : Nat → Nat} : ∀ {ms ds : List (Nat × Nat × Nat)}, dcS T G all k gv ms ds = true → DC all (adS (qe_al σ b base) T) h k gv ms ds := by
  intro ms
  induction ms with
  | nil => intro ds _; cases ds <;> exact True.intro
  | cons m ms ih =>
    intro ds hd
    cases ds with
    | nil => exact True.intro
    | cons d ds =>
      rw [dcS] at hd
      obtain ⟨h1, h2⟩ := and2 hd
      refine ⟨fun ha => ?_, ih h2⟩
      rw [ha, cond_true] at h1
      split at h1
      · rename_i x hx
        obtain ⟨y, y1, y2⟩ := vls_ok (b := b) hR hx
        obtain ⟨d0, d1⟩ := and2 h1
        obtain ⟨d1, d2⟩ := and2 d1
        obtain ⟨d2, d3⟩ := and2 d2
        unfold EnOK
        rw [d0, cond_true]
        exact ⟨y, y1, by rw [y2]; exact beqt d1, by rw [y2]; exact blet d2, by rw [y2]; exact blet d3⟩
      · cases h1
theorem t6_start (hR : qe_RM (qe_al σ (σ 0) base) nu base hb G h) (hA : tA T G = true) (hc : tF T G = true) : T6 (adS (qe_al σ b base) T) h npL (fun _ _ => False) := by
  intro t k ht _ hex
  obtain ⟨c1, c2⟩ := and2 (List.all_eq_true.mp hc t (List.mem_range.mpr ht))
  obtain ⟨m, v, hm, hV⟩ := hex
  have hk : k < tbN t := by
    have hmb := List.all_eq_true.mp c1 m hm
    unfold mbS at hmb
    unfold AtM mplace at hV
    cases e : Nat.beq m.2.1 0
    · rw [e, cond_false] at hmb hV
      obtain ⟨k', hk', h6 | ⟨o, s, ho, -, -, -, hp⟩⟩ := at_ob hR hA hV
      · rw [hk', h6] at hmb
        exact Bool.noConfusion hmb
      · rw [hk'] at hmb
        dsimp only at hmb
        obtain ⟨-, g2⟩ := and2 hmb
        rw [ho] at g2
        have := blet g2
        dsimp only at hp
        omega
    · rw [e, cond_true] at hmb hV
      obtain ⟨k', hk', -⟩ := at_ob hR hA hV
      have := List.all_eq_true.mp hmb _ (tb_mem hk')
      dsimp only at this
      rw [Nat.beq_refl, cond_true] at this
      have := blet this
      omega
  have h1 := List.all_eq_true.mp c2 k (List.mem_range.mpr hk)
  unfold cpS at h1
  have e : (cp_at t).2.1.any (fun m => exS T G (mplace m k).1 (mplace m k).2.1 (mplace m k).2.2) = true := List.any_eq_true.mpr ⟨m, hm, exs_ok hR hA hV⟩
  rw [e, cond_true] at h1
  have hin : Inb (adS (qe_al σ b base) T) (cp_at t).1 k ↔ (Nat.beq (cp_at t).1 0 || tb_has ((cp_at t).1 - 1) k T) = true := by
    unfold Inb
    rw [ads_has]
    constructor
    · rintro (e | e)
      · rw [e]; rfl
      · rw [e]; cases Nat.beq (cp_at t).1 0 <;> rfl
    · intro e
      rcases or2 e with e | e
      · exact Or.inl (beqt e)
      · exact Or.inr e
  refine ⟨fun hi => ?_, fun hi => ?_⟩
  · rw [hin.mp hi, cond_true] at h1
    obtain ⟨d, hd, hq⟩ := List.any_eq_true.mp h1
    exact ⟨d, _, hd, dcs_ok hR hq⟩
  · have e2 : (Nat.beq (cp_at t).1 0 || tb_has ((cp_at t).1 - 1) k T) = false := by
      cases e3 : (Nat.beq (cp_at t).1 0 || tb_has ((cp_at t).1 - 1) k T)
      · rfl
      · exact absurd (hin.mpr e3) hi
    rw [e2, cond_false] at h1
    obtain ⟨d, hd, hq⟩ := List.any_eq_true.mp h1
    exact ⟨d, _, hd, dcs_ok hR hq⟩
end
