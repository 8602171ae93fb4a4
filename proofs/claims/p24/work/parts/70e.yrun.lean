/-! ===== the symbolic machine's word holds for every run ===== -/
noncomputable def ygo (w : Nat) (ih : Nat → List LC → List (Nat × AI) → SLV → List SV → SG → List ST → Option (List (Option SV × SG))) (M : Nat) (lp : List LC) (tl : List (Nat × AI)) (lv : SLV) (S : List ST) (o : SOUT) : Option (List (Option SV × SG)) := match o with
  | .inl (none, lv', st', G') => ih M lp tl lv' st' G' S
  | .inl (some t, lv', st', G') => ih M lp (jmp t (codeOf M)) lv' st' G' S
  | .inr (.inl (M', as, r, G')) => (match (match y_con w M' as G' with | some r => r | none => ih M' (lps M') (codeOf M') (s_args 0 as) [] G' []) with
    | none => none
    | some es => es.foldr (fun q acc => cat2 (ih M lp tl lv (q.1.toList ++ r) q.2 S) acc) (some []))
  | .inr (.inr q) => some [q]
noncomputable def yact (w : Nat) (ih : Nat → List LC → List (Nat × AI) → SLV → List SV → SG → List ST → Option (List (Option SV × SG))) (M : Nat) (lp : List LC) (ai : AI) (tl : List (Nat × AI)) (lv : SLV) (st : List SV) (G : SG) (S : List ST) : Option (List (Option SV × SG)) := match ystep ai lv st G with
  | none => none
  | some [o] => ygo w ih M lp tl lv S o
  | some os => os.foldr (fun o acc => cat2 (ygo w ih M lp tl lv S o) acc) (some [])
theorem yrun_zero (w M : Nat) (lp : List LC) (cd : List (Nat × AI)) (lv : SLV) (st : List SV) (G : SG) (S : List ST) : yrun w 0 M lp cd lv st G S = none := rfl
theorem yrun_nil (w f M : Nat) (lp : List LC) (lv : SLV) (st : List SV) (G : SG) (S : List ST) : yrun w f M lp [] lv st G S = none := by
  cases f <;> rfl
theorem yrun_succ (w f M : Nat) (lp : List LC) (pc : Nat) (ai : AI) (tl : List (Nat × AI)) (lv : SLV) (st : List SV) (G : SG) (S : List ST) : yrun w (f + 1) M lp ((pc, ai) :: tl) lv st G S = match lp_find2 pc lv lp with
    | none => yact w (yrun w f) M lp ai tl lv st G S
    | some Lc => match st with
      | [] => (match st_find pc S with
        | some T => bif y_back T lv G then some [] else none
        | none => match l_enter Lc lv G with
          | none => none
          | some T => yact w (yrun w f) M lp ai tl T.2.2.1 [] T.2.2.2.1 (T :: S))
      | _ => none := by
  cases st <;> rfl
theorem cat_mem {α β : Type} {g : α → Option (List β)} {os : List α} : ∀ {es : List β}, os.foldr (fun o acc => cat2 (g o) acc) (some []) = some es → ∀ o, o ∈ os → ∃ e, g o = some e ∧ ∀ x, x ∈ e → x ∈ es := by
  induction os with
  | nil => intro es _ o ho; cases ho
  | cons x r ih =>
    intro es hs o ho
    rw [List.foldr_cons] at hs
    unfold cat2 at hs
    split at hs
    · cases hs
    · rename_i a ha
      split at hs
      · cases hs
      · rename_i b hb
        cases hs
        rcases List.mem_cons.mp ho with rfl | ho
        · exact ⟨a, ha, fun x hx => List.mem_append_left _ hx⟩
        · obtain ⟨e, h1, h2⟩ := ih hb o ho
          exact ⟨e, h1, fun x hx => List.mem_append_right _ (h2 x hx)⟩
theorem ovm_list {I : IN} {n m : Nat} {q : Option SV} {v : Option Value} {r : List SV} {R : List Value} (h : OVM I n m q v) (hr : LM I n m r R) : LM I n m (q.toList ++ r) (v.toList ++ R) := by
  cases q with
  | none => cases v with
    | none => exact hr
    | some v => exact h.elim
  | some s => cases v with
    | none => exact h.elim
    | some v => exact ⟨h, hr⟩
theorem lp_find_pc {pc : Nat} {lv : SLV} {Lc : LC} : ∀ {l : List LC}, lp_find2 pc lv l = some Lc → Lc.1 = pc := by
  intro l
  induction l with
  | nil => intro h; cases h
  | cons q r ih =>
    intro h
    rw [lp_find2] at h
    cases hb : Nat.beq q.1 pc
    · rw [hb, cond_false] at h
      exact ih h
    · rw [hb, cond_true] at h
      cases hc : lp_cls (lp_cof lv) q.2.2.1
      · rw [hc, cond_false] at h
        exact ih h
      · rw [hc, cond_true] at h
        cases h
        exact beqt hb
theorem st_find_pc {pc : Nat} {T : ST} : ∀ {l : List ST}, st_find pc l = some T → T.1 = pc ∧ T ∈ l := by
  intro l
  induction l with
  | nil => intro h; cases h
  | cons q r ih =>
    intro h
    rw [st_find] at h
    cases hb : Nat.beq q.1 pc
    · rw [hb, cond_false] at h
      exact ⟨(ih h).1, List.mem_cons_of_mem _ (ih h).2⟩
    · rw [hb, cond_true] at h
      cases h
      exact ⟨beqt hb, List.mem_cons_self⟩
/-- all ends of the symbolic machine are good -/
noncomputable def Ends (B : BS) (I : IN) (G : SG) (es : List (Option SV × SG)) (Q : Option Value → AH → Prop) : Prop := ∀ q, q ∈ es → ∀ I' v h', Gr I G I' q.2 → RM B I' q.2 h' → OVM I' (g_h q.2).length (g_n q.2) q.1 v → Q v h'
/-- calls that are answered at once -/
noncomputable def HC (σ : Nat → Nat) (B : BS) (w : Nat) : Prop := ∀ (M : Nat) (as : List SV) (As : List Value) (G : SG) (es : List (Option SV × SG)) (I : IN) (h : AH) (Q : Option Value → AH → Prop), RM B I G h → LM I (g_h G).length (g_n G) as As → y_con w M as G = some (some es) → Ends B I G es Q → Rt σ M (codeOf M) (am_args 0 As) [] h Q
/-- the loops that one is in: back at the head all is well -/
noncomputable def SH (σ : Nat → Nat) (B : BS) (M : Nat) (Q : Option Value → AH → Prop) (T : ST) (IT : IN) : Prop := ∀ (I' : IN) (lv' : SLV) (G' : SG) (L' : LV) (h' : AH), Gr IT T.2.2.2.1 I' G' → RM B I' G' h' → KN lv' → LVM I' (g_h G').length (g_n G') lv' L' → y_back T lv' G' = true → Rt σ M (jump M T.1) L' [] h' Q
noncomputable def StOK (σ : Nat → Nat) (B : BS) (M : Nat) (Q : Option Value → AH → Prop) (S : List ST) (I : IN) (G : SG) : Prop := ∀ T, T ∈ S → ∃ IT, Gr IT T.2.2.2.1 I G ∧ SH σ B M Q T IT
section
variable {σ : Nat → Nat} {B : BS} {w : Nat} {I I' : IN} {G G' : SG} {h h' : AH} {Q : Option Value → AH → Prop} {S : List ST} {es es' : List (Option SV × SG)} {M : Nat}
theorem stok_gr (hs : StOK σ B M Q S I G) (hg : Gr I G I' G') : StOK σ B M Q S I' G' := fun T hT => by
  obtain ⟨IT, h1, h2⟩ := hs T hT
  exact ⟨IT, gr_trans h1 hg, h2⟩
theorem ends_gr (he : Ends B I G es Q) (hg : Gr I G I' G') (hsub : ∀ x, x ∈ es' → x ∈ es) : Ends B I' G' es' Q := fun q hq I2 v h2 g1 g2 g3 => he q (hsub q hq) I2 v h2 (gr_trans hg g1) g2 g3
noncomputable def YOK (σ : Nat → Nat) (B : BS) (w f : Nat) : Prop := ∀ (M : Nat) (lp : List LC) (cd : List (Nat × AI)) (lv : SLV) (st : List SV) (G : SG) (S : List ST) (es : List (Option SV × SG)), (∃ a, codeOf M = a ++ cd) → yrun w f M lp cd lv st G S = some es →
    ∀ (I : IN) (L : LV) (Sv : List Value) (h : AH) (Q : Option Value → AH → Prop), RM B I G h → KN lv → LVM I (g_h G).length (g_n G) lv L → LM I (g_h G).length (g_n G) st Sv → StOK σ B M Q S I G → Ends B I G es Q → Rt σ M cd L Sv h Q
theorem yact_ok {f : Nat} (hB : ∀ a i, ¬ B.2 a i) (hσ : ∀ i, i < 6 → B.1.1 (stc i) 0 = some (σ i)) (hC : HC σ B w) (ih : YOK σ B w f) {lp : List LC} {pc : Nat} {ai : AI} {tl : List (Nat × AI)} {lv : SLV} {st : List SV} (hsuf : ∃ a, codeOf M = a ++ (pc, ai) :: tl) (hs : yact w (yrun w f) M lp ai tl lv st G S = some es)
    {L : LV} {Sv : List Value} (hR : RM B I G h) (hK : KN lv) (hL : LVM I (g_h G).length (g_n G) lv L) (hS : LM I (g_h G).length (g_n G) st Sv) (hSt : StOK σ B M Q S I G) (hE : Ends B I G es Q) : Rt σ M ((pc, ai) :: tl) L Sv h Q := by
  obtain ⟨a, ha⟩ := hsuf
  have hai : aiOK ai = true := (code_in M).2 (pc, ai) (by rw [ha]; exact List.mem_append_right _ List.mem_cons_self)
  have htl : ∃ a, codeOf M = a ++ tl := ⟨a ++ [(pc, ai)], by rw [ha, List.append_assoc]; rfl⟩
  have key : ∃ os, ystep ai lv st G = some os ∧ ∀ o, o ∈ os → ∃ e, ygo w (yrun w f) M lp tl lv S o = some e ∧ ∀ x, x ∈ e → x ∈ es := by
    unfold yact at hs
    split at hs
    · cases hs
    · rename_i o ho
      refine ⟨[o], ho, fun o' ho' => ?_⟩
      rw [List.mem_singleton.mp ho']
      exact ⟨es, hs, fun x hx => hx⟩
    · rename_i os _ ho
      exact ⟨os, ho, cat_mem hs⟩
  clear hs
  obtain ⟨os, hst, hgo⟩ := key
  obtain ⟨o, ho, I1, x, h1, h2⟩ := ystep_ok hB hσ hai hR hK hL hS hst
  obtain ⟨e, he, hsub⟩ := hgo o ho
  unfold SOK at h2
  split at h2
  · rename_i t lv' st' G' t' L' S' h'
    obtain ⟨rfl, hg, hR', hK', hL', hS'⟩ := h2
    cases t with
    | none => exact rt_nx h1 (ih M lp tl lv' st' G' S e htl he I1 L' S' h' Q hR' hK' hL' hS' (stok_gr hSt hg) (ends_gr hE hg hsub))
    | some t =>
      refine rt_jp h1 ?_
      rw [jump_jmp]
      exact ih M lp (jmp t (codeOf M)) lv' st' G' S e (jmp_suffix t _) he I1 L' S' h' Q hR' hK' hL' hS' (stok_gr hSt hg) (ends_gr hE hg hsub)
  · rename_i M' as r G' M'' As R
    obtain ⟨rfl, hg, hR', hAs, hr⟩ := h2
    unfold ygo at he
    dsimp only at he
    refine rt_call h1 ?_
    have rest : ∀ {es1 : List (Option SV × SG)}, es1.foldr (fun q acc => cat2 (yrun w f M lp tl lv (q.1.toList ++ r) q.2 S) acc) (some []) = some e → Ends B I1 G' es1 (fun v h' => Rt σ M tl L (v.toList ++ R) h' Q) := by
      intro es1 hes q hq I2 v h2 g1 g2 g3
      obtain ⟨e2, k1, k2⟩ := cat_mem hes q hq
      have gg := gr_trans hg g1
      exact ih M lp tl lv (q.1.toList ++ r) q.2 S e2 htl k1 I2 L (v.toList ++ R) h2 Q g2 hK (lvm_gr gg hL) (ovm_list g3 (lm_gr g1 hr)) (stok_gr hSt gg) (ends_gr hE gg (fun x hx => hsub x (k2 x hx)))
    split at he
    · cases he
    · rename_i es1 hes
      split at hes
      · rename_i r1 hr1
        subst hes
        exact hC M' as As G' es1 I1 h _ hR' hAs hr1 (rest he)
      · exact ih M' (lps M') (codeOf M') (s_args 0 as) [] G' [] es1 ⟨[], rfl⟩ hes I1 (am_args 0 As) [] h _ hR' args_kn (lvm_args 0 hAs) True.intro (fun T hT => by cases hT) (rest he)
  · rename_i q G' v
    obtain ⟨hg, hR', hv⟩ := h2
    have e1 : [(q, G')] = e := Option.some.inj he
    exact rt_ret h1 (hE (q, G') (hsub _ (by rw [← e1]; exact List.mem_cons_self)) I1 v h hg hR' hv)
  · exact h2.elim
noncomputable def meas (Lc : LC) (lw lv : SLV) (c0 : List SV) (W : SG) (IW : IN) : Nat := match rf_val Lc.2.2.2.2.2.2.1 lw lv W Lc.2.2.2.2.1 c0 none with
  | none => 0
  | some x => if Lc.2.2.2.2.2.2.2 = 1 then (itv W x).2 - sval IW.1 x else sval IW.1 x
theorem yrun_ok (hB : ∀ a i, ¬ B.2 a i) (hσ : ∀ i, i < 6 → B.1.1 (stc i) 0 = some (σ i)) (hC : HC σ B w) : ∀ f, YOK σ B w f := by
  intro f
  induction f with
  | zero => intro M lp cd lv st G S es _ hs; rw [yrun_zero] at hs; cases hs
  | succ f ih =>
    intro M lp cd lv st G S es hsuf hs I L Sv h Q hR hK hL hS hSt hE
    cases cd with
    | nil => rw [yrun_nil] at hs; cases hs
    | cons x tl =>
      obtain ⟨pc, ai⟩ := x
      rw [yrun_succ] at hs
      have hjump : jump M pc = (pc, ai) :: tl := by
        obtain ⟨a, ha⟩ := hsuf
        rw [jump_jmp, ha]
        exact jmp_suf (by rw [← ha]; exact (code_in M).1)
      split at hs
      · exact yact_ok hB hσ hC ih hsuf hs hR hK hL hS hSt hE
      · rename_i Lc hLc
        split at hs
        · rw [lm_nil hS]
          split at hs
          · rename_i T hT
            replace hs := bif_some hs
            obtain ⟨t1, t2⟩ := st_find_pc hT
            obtain ⟨IT, g1, g2⟩ := hSt T t2
            have := g2 I lv G L h g1 hR hK hL hs.1
            rw [t1, hjump] at this
            exact this
          · split at hs
            · cases hs
            · rename_i T hT
              obtain ⟨c0, G0, W, nu0, rfl, g1, hLB, hLH, hms⟩ := enter_ok hR hK hL hT
              obtain ⟨nuW, n1, n2, n3, n4⟩ := gen_ok hLB hLH
              have hpc := lp_find_pc hLc
              have key : ∀ (k : Nat) (IW : IN) (h1 : AH) (L1 : LV), LI B (nu0, I.2) Lc lv G0 W IW h1 L1 → meas Lc (l_A Lc lv G0).1 lv c0 W IW = k → Rt σ M ((pc, ai) :: tl) L1 [] h1 Q := by
                intro k
                induction k using Nat.strongRecOn with
                | _ k IHk =>
                  intro IW h1 L1 hLI hk
                  have hgr := gr_trans g1 (li_gr hLI)
                  refine yact_ok hB hσ hC ih hsuf hs hLI.1 hLI.2.2.2.2.1 hLI.2.2.2.2.2 True.intro ?_ (ends_gr hE hgr (fun x hx => hx))
                  intro T' hT'
                  rcases List.mem_cons.mp hT' with rfl | hT'
                  · refine ⟨IW, gr_refl _ _, ?_⟩
                    intro I' lv' G' L' h' q1 q2 q3 q4 q5
                    obtain ⟨nu', l1, x, x1, x2⟩ := back_ok hLB hLH.1 hLI q1 q2 q4 q5 hms
                    show Rt σ M (jump M Lc.1) L' [] h' Q
                    rw [hpc, hjump]
                    refine IHk _ ?_ _ h' L' l1 rfl
                    rw [← hk]
                    unfold meas
                    rw [x1]
                    dsimp only
                    have b := (itv_ok l1.1.1.1 x).2
                    dsimp only at b
                    rcases x2 with ⟨e, x2⟩ | ⟨e, x2⟩
                    · rw [if_pos e, if_pos e]
                      omega
                    · rw [if_neg e, if_neg e]
                      omega
                  · exact stok_gr hSt hgr T' hT'
              exact key _ (nuW, I.2) h L ⟨n1, n2, rfl, fun c i q _ hq => hq, n3, n4⟩ rfl
        · cases hs
end
