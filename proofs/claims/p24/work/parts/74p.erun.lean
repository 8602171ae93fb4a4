/-! ===== the symbolic machine's word holds for every run ===== -/
noncomputable def qe_Ways (σ : Nat → Nat) (base K : Nat) (hb : (Nat → Option AO) × Nat) (A : Nat → Nat) : Prop := ∀ (f : Nat) (nu : Nat → Nat) (G : qe_SG) (h : AH), qe_RM A nu base hb G h → ∃ vs h', run σ (f + K) 8 (codeOf 8) [] [] h = some (some (.ref h.2.1), h') ∧ (vs.length = 1891 ∧ ((∀ v, v ∈ vs → ∃ x, v = .long x) ∧ ((∀ q, q < h.2.1 → h'.1 q = h.1 q) ∧ (h'.1 h.2.1 = some (21, vs) ∧ (h'.2.1 = h.2.1 + 1 ∧ h'.2.2 = h.2.2 + 1891)))))
theorem qe_ovm_list {A nu : Nat → Nat} {n m : Nat} {q : Option qe_SV} {v : Option Value} {r : List qe_SV} {R : List Value} (h : qe_OVM A nu n m q v) (hr : qe_LM A nu n m r R) : qe_LM A nu n m (q.toList ++ r) (v.toList ++ R) := by
  cases q with
  | none => cases v with
    | none => exact hr
    | some v => exact h.elim
  | some s => cases v with
    | none => exact h.elim
    | some v => exact ⟨h, hr⟩
section
variable {A : Nat → Nat} {σ : Nat → Nat} {base K w : Nat} {hb : (Nat → Option AO) × Nat}
theorem qe_pn_way {nu : Nat → Nat} {G : qe_SG} {h h' : AH} {lv : qe_SLV} {st : List qe_SV} {L : LV} {S vs : List Value} (hA : qe_AOK A σ base) (hR : qe_RM A nu base hb G h) (hL : qe_LVM A nu (qe_g_h G).length (qe_g_n G) lv L) (hS : qe_LM A nu (qe_g_h G).length (qe_g_n G) st S)
    (w1 : vs.length = 1891) (w2 : ∀ v, v ∈ vs → ∃ x, v = .long x) (w3 : ∀ q, q < h.2.1 → h'.1 q = h.1 q) (w4 : h'.1 h.2.1 = some (21, vs)) (w5 : h'.2.1 = h.2.1 + 1) (w6 : h'.2.2 = h.2.2 + 1891) :
    qe_PN A nu base hb G lv (qe_sref (qe_g_h G).length :: st) (qe_s_mk G (21, .inl (1891, qe_slany)) 1891) nu L (.ref h.2.1 :: S) h' := by
  obtain ⟨r1, r2, r3, r4, r5, r6⟩ := hR
  have hl2 : (G.1 ++ [((21, .inl (1891, qe_slany)) : qe_SO)]).length = (qe_g_h G).length + 1 := by rw [List.length_append]; rfl
  have hg : qe_Gr nu G nu (qe_s_mk G (21, .inl (1891, qe_slany)) 1891) := ⟨fun _ _ => rfl, Nat.le_refl _, by
    show (qe_g_h G).length ≤ (G.1 ++ [_]).length
    rw [hl2]; exact Nat.le_succ _⟩
  have ea : A (qe_g_h G).length = h.2.1 := by rw [hA.2.1 _ r3]; exact r4.symm
  refine ⟨hg, ⟨r1, ?_, ?_⟩, qe_lvm_gr hg hL, ⟨rfl, ?_, ea.symm⟩, qe_lm_gr hg hS⟩
  · show qe_HM A _ (G.1 ++ [_]).length (qe_g_n G) (G.1 ++ [_]) _
    rw [hl2]
    intro j p hj
    replace hj : (qe_g_h G ++ [((21, .inl (1891, qe_slany)) : qe_SO)])[j]? = some p := hj
    by_cases e : j < (qe_g_h G).length
    · rw [List.getElem?_append_left e] at hj
      obtain ⟨c', vs', g1, g2, g3, g4⟩ := r2 j p hj
      refine ⟨c', vs', (w3 _ ?_).trans g1, g2, qe_cm_more g3 (Nat.le_succ _) (Nat.le_refl _) (fun _ _ => rfl), g4⟩
      by_cases e7 : j < 7
      · have := hA.1 j e7; omega
      · have := hA.2.1 j (by omega); omega
    · have hj' := (List.getElem?_eq_some_iff.mp hj).1
      have : j < (qe_g_h G).length + 1 := by rw [← hl2]; exact hj'
      have : j = (qe_g_h G).length := by omega
      subst this
      rw [List.getElem?_append_right (Nat.le_refl _), Nat.sub_self] at hj
      cases hj
      refine ⟨21, vs, by rw [ea]; exact w4, .inl rfl, ⟨w1, fun v hv => ?_⟩, fun h => absurd h (by omega)⟩
      obtain ⟨x, rfl⟩ := w2 v hv
      exact .inr rfl
  · show 7 ≤ (G.1 ++ [_]).length ∧ (_ = base + ((G.1 ++ [_]).length - 7) ∧ (h'.2.2 = hb.2 + (qe_g_u G + 1891) ∧ _))
    rw [hl2, w5, w6]
    exact ⟨by omega, by omega, by omega, fun q hq => (w3 q (by omega)).trans (r6 q hq)⟩
  · show (qe_g_h G).length < (G.1 ++ [_]).length
    rw [hl2]; exact Nat.lt_succ_self _
theorem qe_srun_ok (hA : qe_AOK A σ base) (hw : w = 999 ∨ (w = 8 ∧ qe_Ways σ base K hb A)) : ∀ (f M : Nat) (cd : List (Nat × AI)) (lv : qe_SLV) (st : List qe_SV) (G : qe_SG) (es : List (Option qe_SV × qe_SG)) (nu : Nat → Nat) (L : LV) (S : List Value) (h : AH),
    (∀ x, x ∈ cd → qe_aiOK x.2 = true) → qe_RM A nu base hb G h → qe_LVM A nu (qe_g_h G).length (qe_g_n G) lv L → qe_LM A nu (qe_g_h G).length (qe_g_n G) st S → qe_srun w f M cd lv st G = some es →
    ∃ q, q ∈ es ∧ ∃ nu' v h', run σ (f + K) M cd L S h = some (v, h') ∧ (qe_OVM A nu' (qe_g_h q.2).length (qe_g_n q.2) q.1 v ∧ (qe_RM A nu' base hb q.2 h' ∧ qe_Gr nu G nu' q.2)) := by
  intro f
  induction f with
  | zero => intro M cd lv st G es nu L S h _ _ _ _ hs; cases hs
  | succ f ih =>
    intro M cd lv st G es nu L S h hc hR hL hS hs
    cases cd with
    | nil => rw [qe_srun_nil] at hs; cases hs
    | cons x tl =>
      obtain ⟨pc, ai⟩ := x
      rw [qe_srun_succ] at hs
      have hct : ∀ x, x ∈ tl → qe_aiOK x.2 = true := fun x hx => hc x (List.mem_cons_of_mem _ hx)
      have key : ∃ os, qe_sstep ai lv st G = some os ∧ ∀ o, o ∈ os → ∃ e, qe_sgo w (qe_srun w f) M tl lv o = some e ∧ ∀ x, x ∈ e → x ∈ es := by
        split at hs
        · cases hs
        · rename_i o ho
          refine ⟨[o], ho, fun o' ho' => ?_⟩
          rw [List.mem_singleton.mp ho']
          exact ⟨es, hs, fun x hx => hx⟩
        · rename_i os _ ho
          exact ⟨os, ho, qe_cat_mem hs⟩
      clear hs
      obtain ⟨os, hst, hgo⟩ := key
      obtain ⟨o, ho, nu1, a, h1, h2⟩ := qe_sstep_ok hA (hc _ List.mem_cons_self) hR hL hS hst
      obtain ⟨e, he, hsub⟩ := hgo o ho
      rw [show f + 1 + K = f + K + 1 by omega, run, h1]
      unfold qe_SOK at h2
      split at h2
      · rename_i t lv' st' G' t' L' S' h'
        obtain ⟨rfl, hg, hR', hL', hS'⟩ := h2
        cases t' with
        | none =>
          obtain ⟨q, q1, nu2, v, h3, q2, q3, q4, q5⟩ := ih M tl lv' st' G' e nu1 L' S' h' hct hR' hL' hS' he
          exact ⟨q, hsub q q1, nu2, v, h3, q2, q3, q4, qe_gr_trans hg q5⟩
        | some t =>
          obtain ⟨q, q1, nu2, v, h3, q2, q3, q4, q5⟩ := ih M (qe_jmp t (codeOf M)) lv' st' G' e nu1 L' S' h' (fun x hx => qe_code_ai x (qe_jmp_sub t _ x hx)) hR' hL' hS' he
          rw [qe_jmp_eq] at q2
          exact ⟨q, hsub q q1, nu2, v, h3, q2, q3, q4, qe_gr_trans hg q5⟩
      · rename_i M' as r G' M'' As R
        obtain ⟨rfl, hg, hR', hAs, hr, h8, h999⟩ := h2
        unfold qe_sgo at he
        dsimp only at he
        cases hM : Nat.beq M'' w
        · rw [hM, cond_false] at he
          split at he
          · cases he
          · rename_i es' hes
            obtain ⟨q, q1, nu2, v, h3, q2, q3, q4, q5⟩ := ih M'' (codeOf M'') (qe_s_args 0 as) [] G' es' nu1 (am_args 0 As) [] h qe_code_ai hR' (qe_lvm_args 0 hAs) True.intro hes
            obtain ⟨e2, k1, k2⟩ := qe_cat_mem he q q1
            obtain ⟨p, p1, nu3, u, h4, p2, p3, p4, p5⟩ := ih M tl lv (q.1.toList ++ r) q.2 e2 nu2 L (v.toList ++ R) h3 hct q4 (qe_lvm_gr (qe_gr_trans hg q5) hL) (qe_ovm_list q3 (qe_lm_gr q5 hr)) k1
            refine ⟨p, hsub p (k2 p p1), nu3, u, h4, ?_, p3, p4, qe_gr_trans hg (qe_gr_trans q5 p5)⟩
            dsimp only
            rw [q2]
            exact p2
        · rw [hM, cond_true] at he
          have eM := qe_beqt hM
          rcases hw with e9 | ⟨e8, hW⟩
          · exact absurd (eM.trans e9) h999
          · have e1 : M'' = 8 := eM.trans e8
            have e2 := h8 e1
            subst e2
            obtain ⟨vs, h3, w0, w1, w2, w3, w4, w5, w6⟩ := hW f nu1 G' h hR'
            obtain ⟨g1, g2, g3, g4⟩ := qe_pn_way (lv := lv) (st := r) (L := L) (S := R) hA hR' (qe_lvm_gr hg hL) hr w1 w2 w3 w4 w5 w6
            obtain ⟨p, p1, nu3, u, h4, p2, p3, p4, p5⟩ := ih M tl lv _ _ e nu1 L (.ref h.2.1 :: R) h3 hct g2 g3 g4 he
            refine ⟨p, hsub p p1, nu3, u, h4, ?_, p3, p4, qe_gr_trans hg (qe_gr_trans g1 p5)⟩
            dsimp only
            rw [e1]
            rw [show am_args 0 [] = [] from rfl, w0]
            exact p2
      · rename_i q G' v
        obtain ⟨hg, hR', hv⟩ := h2
        have e1 : [(q, G')] = e := Option.some.inj he
        refine ⟨(q, G'), hsub _ (by rw [← e1]; exact List.mem_cons_self), nu1, v, h, rfl, hv, hR', hg⟩
      · exact h2.elim
/-- more fuel: the same end -/
theorem qe_run_more {r : Option Value × AH} (d : Nat) : ∀ (f M : Nat) (cd : List (Nat × AI)) (L : LV) (S : List Value) (h : AH), run σ f M cd L S h = some r → run σ (f + d) M cd L S h = some r := by
  suffices H : ∀ (f M : Nat) (cd : List (Nat × AI)) (L : LV) (S : List Value) (h : AH) (r : Option Value × AH), run σ f M cd L S h = some r → run σ (f + d) M cd L S h = some r from fun f M cd L S h => H f M cd L S h r
  intro f
  induction f with
  | zero => intro M cd L S h r hs; cases hs
  | succ f ih =>
    intro M cd L S h r hs
    rw [show f + 1 + d = f + d + 1 by omega]
    cases cd with
    | nil => cases hs
    | cons x tl =>
      obtain ⟨pc, ai⟩ := x
      rw [run] at hs ⊢
      split at hs
      · cases hs
      · exact ih _ _ _ _ _ _ hs
      · exact ih _ _ _ _ _ _ hs
      · split at hs
        · cases hs
        · rename_i v h' hv
          rw [ih _ _ _ _ _ _ hv]
          exact ih _ _ _ _ _ _ hs
      · exact hs
end
