/-! ===== two methods side by side: to the next head, call or return ===== -/
/-- a stop: a head; a call that is taken together with the other side's; a return -/
abbrev STP : Type := (Nat × SLV × SG) ⊕ ((Nat × List SV × List SV × List (Nat × AI) × SLV × SG) ⊕ (Option SV × SG))
noncomputable def yrs (ps pm : List Nat) (f : Nat) : Nat → Bool → List (Nat × AI) → SLV → List SV → SG → Option (List STP) :=
  Nat.rec (fun _ _ _ _ _ _ => none) (fun _ ih M fst cd lv st G => match cd with
    | [] => none
    | (pc, ai) :: tl => bif !fst && nmem pc ps then (match st with
        | [] => some [.inl (pc, lv, G)]
        | _ => none)
      else (match ystep ai lv st G with
        | none => none
        | some os => os.foldr (fun o acc => cat2 (match o with
          | .inl (none, lv', st', G') => ih M false tl lv' st' G'
          | .inl (some t, lv', st', G') => ih M false (jmp t (codeOf M)) lv' st' G'
          | .inr (.inl (M', as, r, G')) => bif nmem M' pm then some [.inr (.inl (M', as, r, tl, lv, G'))] else (match ycall M' as G' with
            | none => none
            | some es => es.foldr (fun q acc => cat2 (ih M false tl lv (q.1.toList ++ r) q.2) acc) (some []))
          | .inr (.inr q) => some [.inr (.inr q)]) acc) (some []))) f
noncomputable def yrgo (pm : List Nat) (ih : Nat → Bool → List (Nat × AI) → SLV → List SV → SG → Option (List STP)) (M : Nat) (tl : List (Nat × AI)) (lv : SLV) (o : SOUT) : Option (List STP) := match o with
  | .inl (none, lv', st', G') => ih M false tl lv' st' G'
  | .inl (some t, lv', st', G') => ih M false (jmp t (codeOf M)) lv' st' G'
  | .inr (.inl (M', as, r, G')) => bif nmem M' pm then some [.inr (.inl (M', as, r, tl, lv, G'))] else (match ycall M' as G' with
    | none => none
    | some es => es.foldr (fun q acc => cat2 (ih M false tl lv (q.1.toList ++ r) q.2) acc) (some []))
  | .inr (.inr q) => some [.inr (.inr q)]
theorem yrs_zero (ps pm : List Nat) (M : Nat) (fst : Bool) (cd : List (Nat × AI)) (lv : SLV) (st : List SV) (G : SG) : yrs ps pm 0 M fst cd lv st G = none := rfl
theorem yrs_nil (ps pm : List Nat) (f M : Nat) (fst : Bool) (lv : SLV) (st : List SV) (G : SG) : yrs ps pm f M fst [] lv st G = none := by
  cases f <;> rfl
theorem yrs_succ (ps pm : List Nat) (f M : Nat) (fst : Bool) (pc : Nat) (ai : AI) (tl : List (Nat × AI)) (lv : SLV) (st : List SV) (G : SG) : yrs ps pm (f + 1) M fst ((pc, ai) :: tl) lv st G = bif !fst && nmem pc ps then (match st with
        | [] => some [.inl (pc, lv, G)]
        | _ => none)
      else (match ystep ai lv st G with
        | none => none
        | some os => os.foldr (fun o acc => cat2 (yrgo pm (yrs ps pm f) M tl lv o) acc) (some [])) := rfl
section
variable {B : BS} {I I' : IN} {G G' : SG} {h h' : AH} {σ : Nat → Nat} {PM ps pm : List Nat} {M : Nat} {lv : SLV} {st : List SV} {L : LV} {S : List Value} {cd : List (Nat × AI)}
noncomputable def StpOK (σ : Nat → Nat) (B : BS) (PM ps pm : List Nat) (M : Nat) (h : AH) (I : IN) (G : SG) (cd : List (Nat × AI)) (L : LV) (S : List Value) (I' : IN) (s : STP) : Prop := match s with
  | .inl (pc, lv', G') => (Gr I G I' G' ∧ RM B I' G' h) ∧ ((KN lv' ∧ pc ∈ ps) ∧ ∃ L', LVM I' (g_h G').length (g_n G') lv' L' ∧ ∀ Q, Rt σ M (jump M pc) L' [] h Q → Rt σ M cd L S h Q)
  | .inr (.inl (M', as, r, tl, lv', G')) => (Gr I G I' G' ∧ RM B I' G' h) ∧ ((KN lv' ∧ (M' ∈ pm ∧ (M' ∈ PM ∧ ∃ a, codeOf M = a ++ tl))) ∧ ∃ L' As R, (LVM I' (g_h G').length (g_n G') lv' L' ∧ (LM I' (g_h G').length (g_n G') as As ∧ LM I' (g_h G').length (g_n G') r R)) ∧ ∀ (v : Option Value), Rt σ M' (codeOf M') (am_args 0 As) [] h (fun v' h' => v' = v ∧ h' = h) → ∀ Q, Rt σ M tl L' (v.toList ++ R) h Q → Rt σ M cd L S h Q)
  | .inr (.inr (q, G')) => (Gr I G I' G' ∧ RM B I' G' h) ∧ ∃ v, OVM I' (g_h G').length (g_n G') q v ∧ ∀ Q : Option Value → AH → Prop, Q v h → Rt σ M cd L S h Q
/-- what the symbolic machine says of a call, its answer too -/
theorem eng_call2 {as : List SV} {As : List Value} {es : List (Option SV × SG)} (hHP : HP σ B) (hcn : ∀ M C, C ∈ cns M → C.1 < nC → CnOK σ C) (hB : ∀ a i, ¬ B.2 a i) (hσ : ∀ i, i < 6 → B.1.1 (stc i) 0 = some (σ i)) (hR : RM B I G h) (hAs : LM I (g_h G).length (g_n G) as As) (hs : ycall M as G = some es) : Rt σ M (codeOf M) (am_args 0 As) [] h (fun v h' => ∃ q, q ∈ es ∧ ∃ I', Gr I G I' q.2 ∧ (RM B I' q.2 h' ∧ OVM I' (g_h q.2).length (g_n q.2) q.1 v)) := by
  unfold ycall at hs
  split at hs
  · rename_i r hr
    rw [hs] at hr
    exact hc_ok hcn hB hσ (fun _ => hHP) M as As G es I h _ hR hAs hr fun q hq I' _ h' a1 a2 a3 => ⟨q, hq, I', a1, a2, a3⟩
  · exact yrun_ok hB hσ (hc_ok hcn hB hσ (fun _ => hHP)) 100000 M (lps M) (codeOf M) (s_args 0 as) [] G [] es ⟨[], rfl⟩ hs I (am_args 0 As) [] h _ hR args_kn (lvm_args 0 hAs) True.intro (fun T hT => by cases hT) fun q hq I' _ h' a1 a2 a3 => ⟨q, hq, I', a1, a2, a3⟩
theorem stp_up {I0 : IN} {G0 : SG} {cd0 : List (Nat × AI)} {L0 : LV} {S0 : List Value} {s : STP} (hg : Gr I0 G0 I G) (hr : ∀ Q, Rt σ M cd L S h Q → Rt σ M cd0 L0 S0 h Q) (hs : StpOK σ B PM ps pm M h I G cd L S I' s) : StpOK σ B PM ps pm M h I0 G0 cd0 L0 S0 I' s := by
  unfold StpOK at hs ⊢
  split at hs
  · obtain ⟨⟨g1, g2⟩, g3, L', g4, g5⟩ := hs
    exact ⟨⟨gr_trans hg g1, g2⟩, g3, L', g4, fun Q hq => hr Q (g5 Q hq)⟩
  · obtain ⟨⟨g1, g2⟩, g3, L', As, R, g4, g5⟩ := hs
    exact ⟨⟨gr_trans hg g1, g2⟩, g3, L', As, R, g4, fun v hv Q hq => hr Q (g5 v hv Q hq)⟩
  · obtain ⟨⟨g1, g2⟩, v, g4, g5⟩ := hs
    exact ⟨⟨gr_trans hg g1, g2⟩, v, g4, fun Q hq => hr Q (g5 Q hq)⟩
theorem yrs_ok (hP : pureM PM = true) (hM : M ∈ PM) (hHP : HP σ B) (hcn : ∀ M C, C ∈ cns M → C.1 < nC → CnOK σ C) (hB : ∀ a i, ¬ B.2 a i) (hσ : ∀ i, i < 6 → B.1.1 (stc i) 0 = some (σ i)) : ∀ (f : Nat) (fst : Bool) (cd : List (Nat × AI)) (lv : SLV) (st : List SV) (G : SG) (ss : List STP), (∃ a, codeOf M = a ++ cd) → yrs ps pm f M fst cd lv st G = some ss →
    ∀ (I : IN) (L : LV) (S : List Value), RM B I G h → KN lv → LVM I (g_h G).length (g_n G) lv L → LM I (g_h G).length (g_n G) st S → ∃ s, s ∈ ss ∧ ∃ I', StpOK σ B PM ps pm M h I G cd L S I' s := by
  intro f
  induction f with
  | zero => intro fst cd lv st G ss _ hs; rw [yrs_zero] at hs; cases hs
  | succ f ih =>
    intro fst cd lv st G ss hsuf hs I L S hR hK hL hS
    cases cd with
    | nil => rw [yrs_nil] at hs; cases hs
    | cons x tl =>
      obtain ⟨pc, ai⟩ := x
      rw [yrs_succ] at hs
      have hjump : jump M pc = (pc, ai) :: tl := by
        obtain ⟨a, ha⟩ := hsuf
        rw [jump_jmp, ha]
        exact jmp_suf (by rw [← ha]; exact (code_in M).1)
      cases hb : (!fst && nmem pc ps)
      · rw [hb, cond_false] at hs
        obtain ⟨a, ha⟩ := hsuf
        have hmem : (pc, ai) ∈ codeOf M := by rw [ha]; exact List.mem_append_right _ List.mem_cons_self
        have hai : aiOK ai = true := (code_in M).2 (pc, ai) hmem
        have hpu : pureOp PM ai = true := pure_in hP hM (pc, ai) hmem
        have htl : ∃ a, codeOf M = a ++ tl := ⟨a ++ [(pc, ai)], by rw [ha, List.append_assoc]; rfl⟩
        split at hs
        · cases hs
        · rename_i os hst
          obtain ⟨o, ho, I1, x, h1, h2⟩ := ystep_ok hB hσ hai hR hK hL hS hst
          obtain ⟨e, he, hsub⟩ := cat_mem hs o ho
          unfold SOK at h2
          split at h2
          · rename_i t lv' st' G' t' L' S' h'
            obtain ⟨rfl, hg, hR', hK', hL', hS'⟩ := h2
            have eh := step_pure hpu h1
            subst eh
            cases t with
            | none =>
              obtain ⟨s, s1, I2, s2⟩ := ih false tl lv' st' G' e htl he I1 L' S' hR' hK' hL' hS'
              exact ⟨s, hsub s s1, I2, stp_up hg (fun Q hq => rt_nx h1 hq) s2⟩
            | some t =>
              obtain ⟨s, s1, I2, s2⟩ := ih false (jmp t (codeOf M)) lv' st' G' e (jmp_suffix t _) he I1 L' S' hR' hK' hL' hS'
              exact ⟨s, hsub s s1, I2, stp_up hg (fun Q hq => rt_jp h1 (by rw [jump_jmp]; exact hq)) s2⟩
          · rename_i M' as r G' M'' As R
            obtain ⟨rfl, hg, hR', hAs, hr⟩ := h2
            have hM' := pure_call hpu h1
            unfold yrgo at he
            dsimp only at he
            cases hpm : nmem M' pm
            · rw [hpm, cond_false] at he
              split at he
              · cases he
              · rename_i es hes
                obtain ⟨f1, v, h2', e1, hh, q, hq, I2, a1, a2, a3⟩ := rt_pure hP hM' (eng_call2 hHP hcn hB hσ hR' hAs hes)
                subst hh
                obtain ⟨e2, k1, k2⟩ := cat_mem he q hq
                have gg := gr_trans hg a1
                obtain ⟨s, s1, I3, s2⟩ := ih false tl lv (q.1.toList ++ r) q.2 e2 htl k1 I2 L (v.toList ++ R) a2 hK (lvm_gr gg hL) (ovm_list a3 (lm_gr a1 hr))
                exact ⟨s, hsub s (k2 s s1), I3, stp_up gg (fun Q hq => rt_call h1 ⟨f1, v, _, e1, hq⟩) s2⟩
            · rw [hpm, cond_true] at he
              have e1 := Option.some.inj he
              refine ⟨.inr (.inl (M', as, r, tl, lv, G')), hsub _ (by rw [← e1]; exact List.mem_cons_self), I1, ⟨hg, hR'⟩, ⟨hK, nmem_ok hpm, hM', htl⟩, L, As, R, ⟨lvm_gr hg hL, hAs, hr⟩, fun v hv Q hq => rt_call h1 (rt_mono hv fun v' h' ⟨e2, e3⟩ => by rw [e2, e3]; exact hq)⟩
          · rename_i q G' v
            obtain ⟨hg, hR', hv⟩ := h2
            have e1 : [.inr (.inr (q, G'))] = e := Option.some.inj he
            exact ⟨.inr (.inr (q, G')), hsub _ (by rw [← e1]; exact List.mem_cons_self), I1, ⟨hg, hR'⟩, v, hv, fun Q hq => rt_ret h1 hq⟩
          · exact h2.elim
      · rw [hb, cond_true] at hs
        obtain ⟨b1, b2⟩ := and2 hb
        split at hs
        · rw [lm_nil hS]
          cases hs
          exact ⟨_, List.mem_cons_self, I, ⟨gr_refl _ _, hR⟩, ⟨hK, nmem_ok b2⟩, L, hL, fun Q hq => by rw [hjump] at hq; exact hq⟩
        · cases hs
end
/-! ===== both sides' locals in one row ===== -/
abbrev PCT : Type := Nat × Nat × LC × List (Nat × Nat)
abbrev PST : Type := PCT × ST
noncomputable def mgS (lv1 lv2 : SLV) (mir : List (Nat × Nat)) : SLV := lv1 ++ (lv2.filter (fun q => !(mir.any (fun m => Nat.beq m.2 q.1)))).map (fun q => (q.1 + 100, q.2))
noncomputable def sp1 (lw : SLV) : SLV := lw.filter (fun q => Nat.ble q.1 99)
noncomputable def sp2 (lw : SLV) (mir : List (Nat × Nat)) : SLV := mir.filterMap (fun m => match s_find m.1 lw with | some v => some (m.2, v) | none => none) ++ (lw.filter (fun q => Nat.ble 100 q.1)).map (fun q => (q.1 - 100, q.2))
noncomputable def knB (l : SLV) : Bool := match l with
  | [] => true
  | q :: r => (match s_find q.1 r with | none => true | some _ => false) && knB r
noncomputable def mgL (L1 L2 : LV) : LV := L1.filter (fun q => Nat.ble q.1 99) ++ L2.map (fun q => (q.1 + 100, q.2))
noncomputable def y_eqB (G : SG) (x y : SV) : Bool := bif y_same G x y then true else y_le G x y 0 2 && y_le G y x 0 2
noncomputable def mirB (lv1 lv2 : SLV) (G : SG) (mir : List (Nat × Nat)) : Bool := mir.all (fun m => Nat.ble m.1 99 && (match s_find m.1 lv1 with
  | none => false
  | some x => (match s_find m.2 lv2 with
    | none => false
    | some y => isI x && (isI y && y_eqB G x y))))
noncomputable def l1B (lv1 : SLV) : Bool := lv1.all (fun q => Nat.ble q.1 99)
noncomputable def Mir (L1 L2 : LV) (mir : List (Nat × Nat)) : Prop := ∀ m, m ∈ mir → m.1 ≤ 99 ∧ ∃ X, lv_get m.1 L1 = some (.int X) ∧ lv_get m.2 L2 = some (.int X)
section
variable {B : BS} {I I' : IN} {G G' : SG} {h h' : AH} {n m i : Nat} {lv1 lv2 lw : SLV} {mir : List (Nat × Nat)} {L L1 L2 : LV} {s : SV}
theorem knB_ok : ∀ {l : SLV}, knB l = true → KN l := by
  intro l
  induction l with
  | nil => intro _; exact True.intro
  | cons q r ih =>
    intro hk
    obtain ⟨h1, h2⟩ := and2 hk
    refine ⟨?_, ih h2⟩
    split at h1
    · assumption
    · cases h1
theorem s_find_mem : ∀ {l : SLV}, s_find i l = some s → (i, s) ∈ l := by
  intro l
  induction l with
  | nil => intro h; cases h
  | cons q r ih =>
    intro h
    by_cases e : q.1 = i
    · rw [s_find, e, Nat.beq_refl, cond_true] at h
      have : q = (i, s) := Prod.ext e (Option.some.inj h)
      rw [this]
      exact List.mem_cons_self
    · rw [s_miss e] at h
      exact List.mem_cons_of_mem _ (ih h)
theorem s_find_app {a b : SLV} (hs : s_find i (a ++ b) = some s) : s_find i a = some s ∨ (s_find i a = none ∧ s_find i b = some s) := by
  induction a with
  | nil => exact Or.inr ⟨rfl, hs⟩
  | cons q r ih =>
    by_cases e : q.1 = i
    · have e1 : s_find i (q :: r) = some q.2 := by rw [s_find, e, Nat.beq_refl, cond_true]
      have e2 : s_find i (q :: r ++ b) = some q.2 := by
        show s_find i (q :: (r ++ b)) = _
        rw [s_find, e, Nat.beq_refl, cond_true]
      rw [e2] at hs
      exact Or.inl (e1.trans hs)
    · have e2 : s_find i (q :: r ++ b) = s_find i (r ++ b) := s_miss (r := r ++ b) e
      rw [e2] at hs
      rw [s_miss e]
      exact ih hs
theorem s_find_fil {p : Nat → Bool} : ∀ {l : SLV}, s_find i (l.filter (fun q => p q.1)) = some s → p i = true ∧ s_find i l = some s := by
  intro l
  induction l with
  | nil => intro h; cases h
  | cons q r ih =>
    intro h
    rw [List.filter_cons] at h
    by_cases e : q.1 = i
    · cases hp : p q.1
      · rw [hp] at h
        obtain ⟨h1, -⟩ := ih h
        rw [e, h1] at hp
        cases hp
      · rw [hp] at h
        have e1 : s_find i (q :: r.filter (fun q => p q.1)) = some q.2 := by rw [s_find, e, Nat.beq_refl, cond_true]
        rw [if_pos rfl, e1] at h
        refine ⟨by rw [← e]; exact hp, ?_⟩
        rw [s_find, e, Nat.beq_refl, cond_true]
        exact h
    · rw [s_miss e]
      cases hp : p q.1
      · rw [hp] at h
        exact ih h
      · rw [hp, if_pos rfl, s_miss e] at h
        exact ih h
theorem s_find_sh : ∀ {l : SLV}, s_find i (l.map (fun q => (q.1 + 100, q.2))) = some s → ∃ j, i = j + 100 ∧ s_find j l = some s := by
  intro l
  induction l with
  | nil => intro h; cases h
  | cons q r ih =>
    intro h
    rw [List.map_cons] at h
    by_cases e : q.1 + 100 = i
    · have e1 : s_find i ((q.1 + 100, q.2) :: r.map (fun q => (q.1 + 100, q.2))) = some q.2 := by rw [e, s_hit]
      rw [e1] at h
      refine ⟨q.1, e.symm, ?_⟩
      rw [s_find, Nat.beq_refl, cond_true]
      exact h
    · rw [s_miss (q := (q.1 + 100, q.2)) e] at h
      obtain ⟨j, h1, h2⟩ := ih h
      refine ⟨j, h1, ?_⟩
      rw [s_miss (by omega)]
      exact h2
theorem s_find_dn : ∀ {l : SLV}, (∀ q, q ∈ l → 100 ≤ q.1) → s_find i (l.map (fun q => (q.1 - 100, q.2))) = some s → s_find (i + 100) l = some s := by
  intro l
  induction l with
  | nil => intro _ h; cases h
  | cons q r ih =>
    intro hq h
    have h1 := hq q List.mem_cons_self
    rw [List.map_cons] at h
    by_cases e : q.1 - 100 = i
    · have e1 : s_find i ((q.1 - 100, q.2) :: r.map (fun q => (q.1 - 100, q.2))) = some q.2 := by rw [e, s_hit]
      rw [e1] at h
      have e2 : q.1 = i + 100 := by omega
      rw [s_find, e2, Nat.beq_refl, cond_true]
      exact h
    · rw [s_miss (q := (q.1 - 100, q.2)) e] at h
      rw [s_miss (by omega)]
      exact ih (fun q hq' => hq q (List.mem_cons_of_mem _ hq')) h
theorem lg_cons {q : Nat × Value} {r : LV} : lv_get i (q :: r) = if q.1 = i then some q.2 else lv_get i r := by
  unfold lv_get
  rw [List.find?_cons]
  by_cases e : q.1 = i
  · rw [show (q.1 == i) = true from beq_iff_eq.mpr e, if_pos e]
    rfl
  · rw [show (q.1 == i) = false from beq_false_of_ne e, if_neg e]
theorem lg_map : ∀ {L2 : LV}, lv_get (i + 100) (L2.map (fun q => (q.1 + 100, q.2))) = lv_get i L2 ∧ (i ≤ 99 → lv_get i (L2.map (fun q => (q.1 + 100, q.2))) = none) := by
  intro L2
  induction L2 with
  | nil => exact ⟨rfl, fun _ => rfl⟩
  | cons q r ih =>
    rw [List.map_cons, lg_cons, lg_cons, lg_cons]
    refine ⟨?_, fun h => ?_⟩
    · by_cases e : q.1 = i
      · rw [if_pos (by dsimp only; omega), if_pos e]
      · rw [if_neg (by dsimp only; omega), if_neg e]
        exact ih.1
    · rw [if_neg (by dsimp only; omega)]
      exact ih.2 h
theorem lg_mg1 (hi : i ≤ 99) : ∀ {L1 : LV}, lv_get i (mgL L1 L2) = lv_get i L1 := by
  intro L1
  induction L1 with
  | nil => exact lg_map.2 hi
  | cons q r ih =>
    unfold mgL at ih ⊢
    rw [List.filter_cons]
    cases hq : Nat.ble q.1 99
    · rw [if_neg (fun e => Bool.noConfusion e), ih, lg_cons, if_neg]
      intro e
      rw [e, Nat.ble_eq_true_of_le hi] at hq
      cases hq
    · rw [if_pos rfl, List.cons_append, lg_cons, lg_cons, ih]
theorem lg_mg2 : ∀ {L1 : LV}, lv_get (i + 100) (mgL L1 L2) = lv_get i L2 := by
  intro L1
  induction L1 with
  | nil => exact lg_map.1
  | cons q r ih =>
    unfold mgL at ih ⊢
    rw [List.filter_cons]
    cases hq : Nat.ble q.1 99
    · rw [if_neg (fun e => Bool.noConfusion e), ih]
    · rw [if_pos rfl, List.cons_append, lg_cons, if_neg (by have := blet hq; omega), ih]
theorem mg_lvm (hl : l1B lv1 = true) (h1 : LVM I n m lv1 L1) (h2 : LVM I n m lv2 L2) : LVM I n m (mgS lv1 lv2 mir) (mgL L1 L2) := by
  intro i s hs
  rcases s_find_app hs with hs | ⟨-, hs⟩
  · obtain ⟨v, v1, v2⟩ := h1 i s hs
    have hi : i ≤ 99 := blet (List.all_eq_true.mp hl _ (s_find_mem hs))
    exact ⟨v, by rw [lg_mg1 hi]; exact v1, v2⟩
  · obtain ⟨j, rfl, hs2⟩ := s_find_sh hs
    obtain ⟨-, hs3⟩ := s_find_fil (p := fun j => !(mir.any (fun m => Nat.beq m.2 j))) hs2
    obtain ⟨v, v1, v2⟩ := h2 j s hs3
    exact ⟨v, by rw [lg_mg2]; exact v1, v2⟩
theorem sp1_lvm (h1 : LVM I n m lw (mgL L1 L2)) : LVM I n m (sp1 lw) L1 := by
  intro i s hs
  obtain ⟨p, hs⟩ := s_find_fil (p := fun j => Nat.ble j 99) hs
  obtain ⟨v, v1, v2⟩ := h1 i s hs
  rw [lg_mg1 (blet p)] at v1
  exact ⟨v, v1, v2⟩
theorem sp2_lvm (hm : Mir L1 L2 mir) (h1 : LVM I n m lw (mgL L1 L2)) : LVM I n m (sp2 lw mir) L2 := by
  intro i s hs
  rcases s_find_app hs with hs | ⟨-, hs⟩
  · obtain ⟨q, q1, q2⟩ := List.mem_filterMap.mp (s_find_mem hs)
    split at q2
    · rename_i v hv
      cases q2
      obtain ⟨m1, X, x1, x2⟩ := hm q q1
      obtain ⟨V, v1, v2⟩ := h1 q.1 _ hv
      rw [lg_mg1 m1, x1] at v1
      cases v1
      exact ⟨_, x2, v2⟩
    · cases q2
  · have hs := s_find_dn (fun q hq => blet (List.mem_filter.mp hq).2) hs
    obtain ⟨-, hs⟩ := s_find_fil (p := fun j => Nat.ble 100 j) hs
    obtain ⟨v, v1, v2⟩ := h1 _ s hs
    rw [lg_mg2] at v1
    exact ⟨v, v1, v2⟩
theorem eqB_ok {x y : SV} (hR : RM B I G h) (ox : okn (g_n G) x) (oy : okn (g_n G) y) (hs : y_eqB G x y = true) : sval I.1 x = sval I.1 y := by
  unfold y_eqB at hs
  cases hb : y_same G x y
  · rw [hb, cond_false] at hs
    obtain ⟨l1, l2⟩ := and2 hs
    have := y_le_ok hR.1 ox oy l1
    have := y_le_ok hR.1 oy ox l2
    omega
  · exact same_ok hR hb
theorem mir_ok (hR : RM B I G h) (h1 : LVM I (g_h G).length (g_n G) lv1 L1) (h2 : LVM I (g_h G).length (g_n G) lv2 L2) (hs : mirB lv1 lv2 G mir = true) : Mir L1 L2 mir := by
  intro m hm
  obtain ⟨b0, b⟩ := and2 (List.all_eq_true.mp hs m hm)
  split at b
  · cases b
  · rename_i x hx
    split at b
    · cases b
    · rename_i y hy
      obtain ⟨b1, b⟩ := and2 b
      obtain ⟨b2, b3⟩ := and2 b
      obtain ⟨V, v1, v2⟩ := h1 _ _ hx
      obtain ⟨U, u1, u2⟩ := h2 _ _ hy
      obtain ⟨X, rfl, hX⟩ := sv_int v2 b1
      obtain ⟨Y, rfl, hY⟩ := sv_int u2 b2
      have e := eqB_ok hR hX.2.1 hY.2.1 b3
      have e2 : Y = X := i2n_inj (by rw [hX.2.2, hY.2.2, e])
      rw [e2] at u1
      exact ⟨blet b0, X, v1, u1⟩
end
/-! ===== two methods side by side ===== -/
noncomputable def pst_find (p1 p2 : Nat) (l : List PST) : Option PST := match l with
  | [] => none
  | T :: r => bif Nat.beq T.1.1 p1 && Nat.beq T.1.2.1 p2 then some T else pst_find p1 p2 r
noncomputable def pc_find (p1 p2 : Nat) (l : List PCT) : Option PCT := match l with
  | [] => none
  | C :: r => bif Nat.beq C.1 p1 && Nat.beq C.2.1 p2 then some C else pc_find p1 p2 r
noncomputable def pr_enter (C : PCT) (lv1 lv2 : SLV) (G : SG) : Option PST := bif (l1B lv1 && knB (mgS lv1 lv2 C.2.2.2)) && mirB lv1 lv2 G C.2.2.2 then (match l_enter C.2.2.1 (mgS lv1 lv2 C.2.2.2) G with
    | none => none
    | some T => bif knB (sp1 T.2.2.1) && knB (sp2 T.2.2.1 C.2.2.2) then some (C, T) else none) else none
noncomputable def pr_back (T : PST) (lv1 lv2 : SLV) (G : SG) : Bool := (l1B lv1 && mirB lv1 lv2 G T.1.2.2.2) && y_back T.2 (mgS lv1 lv2 T.1.2.2.2) G
noncomputable def stpG (s : STP) : SG := match s with
  | .inl q => q.2.2
  | .inr (.inl q) => q.2.2.2.2.2
  | .inr (.inr q) => q.2
/-- calls that are taken together: what they answer -/
abbrev PPF : Type := Nat → List SV → Nat → List SV → SG → Option (Nat × Nat)
noncomputable def yprod (pcs : List PCT) (p1s p2s pm1 pm2 : List Nat) (pp : PPF) (f : Nat) : Nat → Nat → Bool → List (Nat × AI) → SLV → List SV → Bool → List (Nat × AI) → SLV → List SV → SG → List PST → Bool :=
  Nat.rec (fun _ _ _ _ _ _ _ _ _ _ _ _ => false) (fun _ ih M1 M2 f1 cd1 lv1 st1 f2 cd2 lv2 st2 G S => match yrs p1s pm1 100000 M1 f1 cd1 lv1 st1 G with
    | none => false
    | some ss => ss.all (fun s1 => match yrs p2s pm2 100000 M2 f2 cd2 lv2 st2 (stpG s1) with
      | none => false
      | some ts => ts.all (fun s2 => match s1, s2 with
        | .inl (p1, lv1', _), .inl (p2, lv2', G') => (match pst_find p1 p2 S with
          | some T => pr_back T lv1' lv2' G'
          | none => (match pc_find p1 p2 pcs with
            | none => false
            | some C => (match pr_enter C lv1' lv2' G' with
              | none => false
              | some T => ih M1 M2 true (jmp p1 (codeOf M1)) (sp1 T.2.2.2.1) [] true (jmp p2 (codeOf M2)) (sp2 T.2.2.2.1 C.2.2.2) [] T.2.2.2.2.1 (T :: S))))
        | .inr (.inl (m1, as1, r1, tl1, lv1', _)), .inr (.inl (m2, as2, r2, tl2, lv2', G')) => (match pp m1 as1 m2 as2 G' with
          | none => false
          | some q => ih M1 M2 false tl1 lv1' ((1, g_n G', 0) :: r1) false tl2 lv2' ((1, g_n G', 0) :: r2) (y_fresh G' q.1 q.2) S)
        | .inr (.inr (some x, _)), .inr (.inr (some y, G')) => isI x && (isI y && y_eqB G' x y)
        | _, _ => false))) f
noncomputable def pgo (pcs : List PCT) (pp : PPF) (ih : Nat → Nat → Bool → List (Nat × AI) → SLV → List SV → Bool → List (Nat × AI) → SLV → List SV → SG → List PST → Bool) (M1 M2 : Nat) (S : List PST) (s1 s2 : STP) : Bool := match s1, s2 with
  | .inl (p1, lv1', _), .inl (p2, lv2', G') => (match pst_find p1 p2 S with
    | some T => pr_back T lv1' lv2' G'
    | none => (match pc_find p1 p2 pcs with
      | none => false
      | some C => (match pr_enter C lv1' lv2' G' with
        | none => false
        | some T => ih M1 M2 true (jmp p1 (codeOf M1)) (sp1 T.2.2.2.1) [] true (jmp p2 (codeOf M2)) (sp2 T.2.2.2.1 C.2.2.2) [] T.2.2.2.2.1 (T :: S))))
  | .inr (.inl (m1, as1, r1, tl1, lv1', _)), .inr (.inl (m2, as2, r2, tl2, lv2', G')) => (match pp m1 as1 m2 as2 G' with
    | none => false
    | some q => ih M1 M2 false tl1 lv1' ((1, g_n G', 0) :: r1) false tl2 lv2' ((1, g_n G', 0) :: r2) (y_fresh G' q.1 q.2) S)
  | .inr (.inr (some x, _)), .inr (.inr (some y, G')) => isI x && (isI y && y_eqB G' x y)
  | _, _ => false
theorem yprod_zero (pcs : List PCT) (p1s p2s pm1 pm2 : List Nat) (pp : PPF) (M1 M2 : Nat) (f1 : Bool) (cd1 : List (Nat × AI)) (lv1 : SLV) (st1 : List SV) (f2 : Bool) (cd2 : List (Nat × AI)) (lv2 : SLV) (st2 : List SV) (G : SG) (S : List PST) : yprod pcs p1s p2s pm1 pm2 pp 0 M1 M2 f1 cd1 lv1 st1 f2 cd2 lv2 st2 G S = false := rfl
theorem yprod_succ (pcs : List PCT) (p1s p2s pm1 pm2 : List Nat) (pp : PPF) (f M1 M2 : Nat) (f1 : Bool) (cd1 : List (Nat × AI)) (lv1 : SLV) (st1 : List SV) (f2 : Bool) (cd2 : List (Nat × AI)) (lv2 : SLV) (st2 : List SV) (G : SG) (S : List PST) : yprod pcs p1s p2s pm1 pm2 pp (f + 1) M1 M2 f1 cd1 lv1 st1 f2 cd2 lv2 st2 G S = (match yrs p1s pm1 100000 M1 f1 cd1 lv1 st1 G with
    | none => false
    | some ss => ss.all (fun s1 => match yrs p2s pm2 100000 M2 f2 cd2 lv2 st2 (stpG s1) with
      | none => false
      | some ts => ts.all (fun s2 => pgo pcs pp (yprod pcs p1s p2s pm1 pm2 pp f) M1 M2 S s1 s2))) := rfl
/-- both end with one int, and change nothing -/
noncomputable def Pr (σ : Nat → Nat) (h : AH) (M1 : Nat) (cd1 : List (Nat × AI)) (L1 : LV) (S1 : List Value) (M2 : Nat) (cd2 : List (Nat × AI)) (L2 : LV) (S2 : List Value) : Prop := ∃ X : Int32, Rt σ M1 cd1 L1 S1 h (fun v h' => v = some (.int X) ∧ h' = h) ∧ Rt σ M2 cd2 L2 S2 h (fun v h' => v = some (.int X) ∧ h' = h)
theorem pst_in {p1 p2 : Nat} {T : PST} : ∀ {l : List PST}, pst_find p1 p2 l = some T → T ∈ l ∧ (T.1.1 = p1 ∧ T.1.2.1 = p2) := by
  intro l
  induction l with
  | nil => intro h; cases h
  | cons q r ih =>
    intro h
    rw [pst_find] at h
    cases hb : Nat.beq q.1.1 p1 && Nat.beq q.1.2.1 p2
    · rw [hb, cond_false] at h
      exact ⟨List.mem_cons_of_mem _ (ih h).1, (ih h).2⟩
    · rw [hb, cond_true] at h
      cases h
      obtain ⟨b1, b2⟩ := and2 hb
      exact ⟨List.mem_cons_self, beqt b1, beqt b2⟩
theorem pc_in {p1 p2 : Nat} {C : PCT} : ∀ {l : List PCT}, pc_find p1 p2 l = some C → C.1 = p1 ∧ C.2.1 = p2 := by
  intro l
  induction l with
  | nil => intro h; cases h
  | cons q r ih =>
    intro h
    rw [pc_find] at h
    cases hb : Nat.beq q.1 p1 && Nat.beq q.2.1 p2
    · rw [hb, cond_false] at h
      exact ih h
    · rw [hb, cond_true] at h
      cases h
      obtain ⟨b1, b2⟩ := and2 hb
      exact ⟨beqt b1, beqt b2⟩
section
variable {B : BS} {h : AH} {σ : Nat → Nat} {PM p1s p2s pm1 pm2 : List Nat} {M1 M2 : Nat} {pcs : List PCT} {pp : PPF}
/-- what stands on the stack of loops -/
noncomputable def PStOK (σ : Nat → Nat) (B : BS) (h : AH) (M1 M2 : Nat) (S : List PST) (I : IN) (G : SG) : Prop := ∀ T, T ∈ S → ∃ IW, Gr IW T.2.2.2.2.1 I G ∧ ∀ (I' : IN) (lv1 lv2 : SLV) (G' : SG) (L1 L2 : LV), Gr IW T.2.2.2.2.1 I' G' → RM B I' G' h → LVM I' (g_h G').length (g_n G') lv1 L1 → LVM I' (g_h G').length (g_n G') lv2 L2 → pr_back T lv1 lv2 G' = true → Pr σ h M1 (jump M1 T.1.1) L1 [] M2 (jump M2 T.1.2.1) L2 []
theorem pst_gr {S : List PST} {I I' : IN} {G G' : SG} (hS : PStOK σ B h M1 M2 S I G) (hg : Gr I G I' G') : PStOK σ B h M1 M2 S I' G' := fun T hT => by
  obtain ⟨IW, g1, g2⟩ := hS T hT
  exact ⟨IW, gr_trans g1 hg, g2⟩
noncomputable def PPOK (σ : Nat → Nat) (B : BS) (h : AH) (pp : PPF) : Prop := ∀ m1 as1 m2 as2 G q, pp m1 as1 m2 as2 G = some q → ∀ I As1 As2, RM B I G h → LM I (g_h G).length (g_n G) as1 As1 → LM I (g_h G).length (g_n G) as2 As2 → ∃ X : Int32, (q.1 ≤ i2n X ∧ i2n X ≤ q.2) ∧ (Rt σ m1 (codeOf m1) (am_args 0 As1) [] h (fun v h' => v = some (.int X) ∧ h' = h) ∧ Rt σ m2 (codeOf m2) (am_args 0 As2) [] h (fun v h' => v = some (.int X) ∧ h' = h))
theorem jump_suf (M t : Nat) : ∃ a, codeOf M = a ++ jump M t := by
  rw [jump_jmp]
  exact jmp_suffix t _
theorem yprod_ok (hP : pureM PM = true) (hM1 : M1 ∈ PM) (hM2 : M2 ∈ PM) (hHP : HP σ B) (hPP : PPOK σ B h pp) (hcn : ∀ M C, C ∈ cns M → C.1 < nC → CnOK σ C) (hB : ∀ a i, ¬ B.2 a i) (hσ : ∀ i, i < 6 → B.1.1 (stc i) 0 = some (σ i)) : ∀ (f : Nat) (f1 : Bool) (cd1 : List (Nat × AI)) (lv1 : SLV) (st1 : List SV) (f2 : Bool) (cd2 : List (Nat × AI)) (lv2 : SLV) (st2 : List SV) (G : SG) (S : List PST), (∃ a, codeOf M1 = a ++ cd1) → (∃ a, codeOf M2 = a ++ cd2) → yprod pcs p1s p2s pm1 pm2 pp f M1 M2 f1 cd1 lv1 st1 f2 cd2 lv2 st2 G S = true →
    ∀ (I : IN) (L1 L2 : LV) (S1 S2 : List Value), RM B I G h → (KN lv1 ∧ KN lv2) → LVM I (g_h G).length (g_n G) lv1 L1 → LM I (g_h G).length (g_n G) st1 S1 → LVM I (g_h G).length (g_n G) lv2 L2 → LM I (g_h G).length (g_n G) st2 S2 → PStOK σ B h M1 M2 S I G → Pr σ h M1 cd1 L1 S1 M2 cd2 L2 S2 := by
  intro f
  induction f with
  | zero => intro f1 cd1 lv1 st1 f2 cd2 lv2 st2 G S _ _ hs; rw [yprod_zero] at hs; cases hs
  | succ f ih =>
    intro f1 cd1 lv1 st1 f2 cd2 lv2 st2 G S hsuf1 hsuf2 hs I L1 L2 S1 S2 hR hK hL1 hS1 hL2 hS2 hSt
    rw [yprod_succ] at hs
    split at hs
    · cases hs
    rename_i ss hss
    obtain ⟨s1, m1, I1, o1⟩ := yrs_ok hP hM1 hHP hcn hB hσ 100000 f1 cd1 lv1 st1 G ss hsuf1 hss I L1 S1 hR hK.1 hL1 hS1
    replace hs := List.all_eq_true.mp hs s1 m1
    split at hs
    · cases hs
    rename_i ts hts
    have g1 : Gr I G I1 (stpG s1) ∧ RM B I1 (stpG s1) h := by
      unfold StpOK at o1
      split at o1
      · exact o1.1
      · exact o1.1
      · exact o1.1
    obtain ⟨s2, m2, I2, o2⟩ := yrs_ok hP hM2 hHP hcn hB hσ 100000 f2 cd2 lv2 st2 (stpG s1) ts hsuf2 hts I1 L2 S2 g1.2 hK.2 (lvm_gr g1.1 hL2) (lm_gr g1.1 hS2)
    replace hs := List.all_eq_true.mp hs s2 m2
    clear m1 m2 hss hts
    unfold pgo at hs
    split at hs
    · -- two heads
      rename_i p1 lv1' G1 p2 lv2' G'
      obtain ⟨-, ⟨k1, -⟩, L1', a1, a2⟩ := o1
      obtain ⟨⟨gg, hR'⟩, ⟨k2, -⟩, L2', b1, b2⟩ := o2
      have gIG : Gr I G I2 G' := gr_trans g1.1 gg
      have a1 := lvm_gr gg a1
      have key : Pr σ h M1 (jump M1 p1) L1' [] M2 (jump M2 p2) L2' [] → Pr σ h M1 cd1 L1 S1 M2 cd2 L2 S2 := fun ⟨X, x1, x2⟩ => ⟨X, a2 _ x1, b2 _ x2⟩
      refine key ?_
      split at hs
      · rename_i T hT
        obtain ⟨t1, t2, t3⟩ := pst_in hT
        obtain ⟨IW, w1, w2⟩ := hSt T t1
        have := w2 I2 lv1' lv2' G' L1' L2' (gr_trans w1 gIG) hR' a1 b1 hs
        rw [t2, t3] at this
        exact this
      · split at hs
        · cases hs
        rename_i C hC
        obtain ⟨c1, c2⟩ := pc_in hC
        split at hs
        · cases hs
        rename_i T hT
        unfold pr_enter at hT
        obtain ⟨e1, hT⟩ := bif_some hT
        obtain ⟨e1, e3⟩ := and2 e1
        obtain ⟨e1, e2⟩ := and2 e1
        split at hT
        · cases hT
        rename_i T0 hT0
        obtain ⟨e4, hT⟩ := bif_some hT
        cases hT
        obtain ⟨e4, e5⟩ := and2 e4
        have hm := mir_ok hR' a1 b1 e3
        obtain ⟨c0, G0, W, nu0, rfl, u1, hLB, hLH, hms⟩ := enter_ok hR' (knB_ok e2) (mg_lvm (mir := C.2.2.2) e1 a1 b1) hT0
        obtain ⟨nuW, n1, n2, n3, n4⟩ := gen_ok hLB hLH
        have key2 : ∀ (k : Nat) (IW : IN) (X1 X2 : LV), LI B (nu0, I2.2) C.2.2.1 (mgS lv1' lv2' C.2.2.2) G0 W IW h (mgL X1 X2) → Mir X1 X2 C.2.2.2 → meas C.2.2.1 (l_A C.2.2.1 (mgS lv1' lv2' C.2.2.2) G0).1 (mgS lv1' lv2' C.2.2.2) c0 W IW = k → Pr σ h M1 (jump M1 p1) X1 [] M2 (jump M2 p2) X2 [] := by
          intro k
          induction k using Nat.strongRecOn with
          | _ k IHk =>
            intro IW X1 X2 hLI hMi hk
            have hgr := gr_trans u1 (li_gr hLI)
            have q1 := ih true (jmp p1 (codeOf M1)) _ [] true (jmp p2 (codeOf M2)) _ [] W _ (jmp_suffix p1 _) (jmp_suffix p2 _) hs IW X1 X2 [] [] hLI.1 ⟨knB_ok e4, knB_ok e5⟩ (sp1_lvm hLI.2.2.2.2.2) True.intro (sp2_lvm hMi hLI.2.2.2.2.2) True.intro
            rw [jump_jmp, jump_jmp]
            refine q1 ?_
            intro T' hT'
            rcases List.mem_cons.mp hT' with rfl | hT'
            · refine ⟨IW, gr_refl _ _, ?_⟩
              intro I' v1 v2 G'' Y1 Y2 r1 r2 r3 r4 r5
              obtain ⟨r5, r7⟩ := and2 r5
              obtain ⟨r5, r6⟩ := and2 r5
              obtain ⟨nu', l1, x, x1, x2⟩ := back_ok hLB hLH.1 hLI r1 r2 (mg_lvm (mir := C.2.2.2) r5 r3 r4) r7 hms
              show Pr σ h M1 (jump M1 C.1) Y1 [] M2 (jump M2 C.2.1) Y2 []
              rw [c1, c2]
              refine IHk _ ?_ _ Y1 Y2 l1 (mir_ok r2 r3 r4 r6) rfl
              rw [← hk]
              unfold meas
              rw [x1]
              dsimp only
              have b := (itv_ok l1.1.1.1 x).2
              dsimp only at b
              rcases x2 with ⟨e, x2⟩ | ⟨e, x2⟩
              · rw [if_pos e, if_pos e]
                omega
              · rw [if_neg e, if_neg e]
                omega
            · exact pst_gr hSt (gr_trans gIG hgr) T' hT'
        exact key2 _ (nuW, I2.2) L1' L2' ⟨n1, n2, rfl, fun c i q _ hq => hq, n3, n4⟩ hm rfl
    · -- two calls
      rename_i m1 as1 r1 tl1 lv1' G1 m2 as2 r2 tl2 lv2' G'
      obtain ⟨-, ⟨k1, -, -, sf1⟩, L1', As1, R1, ⟨a1, a2, a3⟩, a4⟩ := o1
      obtain ⟨⟨gg, hR'⟩, ⟨k2, -, -, sf2⟩, L2', As2, R2, ⟨b1, b2, b3⟩, b4⟩ := o2
      have gIG : Gr I G I2 G' := gr_trans g1.1 gg
      split at hs
      · cases hs
      rename_i q hq
      obtain ⟨X, ⟨x1, x2⟩, x3, x4⟩ := hPP m1 as1 m2 as2 G' q hq I2 As1 As2 hR' (lm_gr gg a2) b2
      have kf := nk_fresh (G := G') (lo := q.1) (hi := q.2) (w := i2n X) hR'.1 x1 x2
      have rF := rm_nk hR' kf
      have gF : Gr I2 G' (nset I2.1 (g_n G') (i2n X), I2.2) (y_fresh G' q.1 q.2) := gr_nk kf
      have hv : SVm (nset I2.1 (g_n G') (i2n X), I2.2) (g_h (y_fresh G' q.1 q.2)).length (g_n (y_fresh G' q.1 q.2)) (1, g_n G', 0) (.int X) := sv_of_int ⟨rfl, fun _ => Nat.lt_succ_self _, (nset_at _ _ _).symm⟩
      obtain ⟨Y, y1, y2⟩ := ih false tl1 lv1' ((1, g_n G', 0) :: r1) false tl2 lv2' ((1, g_n G', 0) :: r2) (y_fresh G' q.1 q.2) S sf1 sf2 hs (nset I2.1 (g_n G') (i2n X), I2.2) L1' L2' (.int X :: R1) (.int X :: R2) rF ⟨k1, k2⟩ (lvm_gr (gr_trans gg gF) a1) ⟨hv, lm_gr (gr_trans gg gF) a3⟩ (lvm_gr gF b1) ⟨hv, lm_gr gF b3⟩ (pst_gr hSt (gr_trans gIG gF))
      exact ⟨Y, a4 (some (.int X)) x3 _ y1, b4 (some (.int X)) x4 _ y2⟩
    · -- two answers
      rename_i x G1 y G'
      obtain ⟨-, v, a1, a2⟩ := o1
      obtain ⟨⟨gg, hR'⟩, w, b1, b2⟩ := o2
      obtain ⟨i1, hs⟩ := and2 hs
      obtain ⟨i2, hs⟩ := and2 hs
      cases v with
      | none => exact a1.elim
      | some v => cases w with
        | none => exact b1.elim
        | some w =>
          obtain ⟨X, rfl, hX⟩ := sv_int (sv_gr gg a1) i1
          obtain ⟨Y, rfl, hY⟩ := sv_int b1 i2
          have e : X = Y := i2n_inj (by rw [hX.2.2, hY.2.2]; exact eqB_ok hR' hX.2.1 hY.2.1 hs)
          subst e
          exact ⟨X, a2 _ ⟨rfl, rfl⟩, b2 _ ⟨rfl, rfl⟩⟩
    · cases hs
end
