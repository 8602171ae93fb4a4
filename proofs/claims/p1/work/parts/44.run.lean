/-! ===== the symbolic machine's word holds for every run ===== -/
noncomputable def Ways (σ : Nat → Nat) (base K : Nat) (hb : (Nat → Option AO) × Nat) (A : Nat → Nat) : Prop := ∀ (f : Nat) (nu : Nat → Nat) (G : SG) (h : AH), RM A nu base hb G h → ∃ vs h', run σ (f + K) 8 (codeOf 8) [] [] h = some (some (.ref h.2.1), h') ∧ (vs.length = 1891 ∧ ((∀ v, v ∈ vs → ∃ x, v = .long x) ∧ ((∀ q, q < h.2.1 → h'.1 q = h.1 q) ∧ (h'.1 h.2.1 = some (21, vs) ∧ (h'.2.1 = h.2.1 + 1 ∧ h'.2.2 = h.2.2 + 1891)))))
theorem ovm_list {A nu : Nat → Nat} {n m : Nat} {q : Option SV} {v : Option Value} {r : List SV} {R : List Value} (h : OVM A nu n m q v) (hr : LM A nu n m r R) : LM A nu n m (q.toList ++ r) (v.toList ++ R) := by
  cases q with
  | none => cases v with
    | none => exact hr
    | some v => exact h.elim
  | some s => cases v with
    | none => exact h.elim
    | some v => exact ⟨h, hr⟩
section
variable {A : Nat → Nat} {σ : Nat → Nat} {base K w : Nat} {hb : (Nat → Option AO) × Nat}
theorem pn_way {nu : Nat → Nat} {G : SG} {h h' : AH} {lv : SLV} {st : List SV} {L : LV} {S vs : List Value} (hA : AOK A σ base) (hR : RM A nu base hb G h) (hL : LVM A nu (g_h G).length (g_n G) lv L) (hS : LM A nu (g_h G).length (g_n G) st S)
    (w1 : vs.length = 1891) (w2 : ∀ v, v ∈ vs → ∃ x, v = .long x) (w3 : ∀ q, q < h.2.1 → h'.1 q = h.1 q) (w4 : h'.1 h.2.1 = some (21, vs)) (w5 : h'.2.1 = h.2.1 + 1) (w6 : h'.2.2 = h.2.2 + 1891) :
    PN A nu base hb G lv (sref (g_h G).length :: st) (s_mk G (21, .inl (1891, slany)) 1891) nu L (.ref h.2.1 :: S) h' := by
  obtain ⟨r1, r2, r3, r4, r5, r6⟩ := hR
  have hl2 : (G.1 ++ [((21, .inl (1891, slany)) : SO)]).length = (g_h G).length + 1 := by rw [List.length_append]; rfl
  have hg : Gr nu G nu (s_mk G (21, .inl (1891, slany)) 1891) := ⟨fun _ _ => rfl, Nat.le_refl _, by
    show (g_h G).length ≤ (G.1 ++ [_]).length
    rw [hl2]; exact Nat.le_succ _⟩
  have ea : A (g_h G).length = h.2.1 := by rw [hA.2.1 _ r3]; exact r4.symm
  refine ⟨hg, ⟨r1, ?_, ?_⟩, lvm_gr hg hL, ⟨rfl, ?_, ea.symm⟩, lm_gr hg hS⟩
  · show HM A _ (G.1 ++ [_]).length (g_n G) (G.1 ++ [_]) _
    rw [hl2]
    intro j p hj
    replace hj : (g_h G ++ [((21, .inl (1891, slany)) : SO)])[j]? = some p := hj
    by_cases e : j < (g_h G).length
    · rw [List.getElem?_append_left e] at hj
      obtain ⟨c', vs', g1, g2, g3, g4⟩ := r2 j p hj
      refine ⟨c', vs', (w3 _ ?_).trans g1, g2, cm_more g3 (Nat.le_succ _) (Nat.le_refl _) (fun _ _ => rfl), g4⟩
      by_cases e7 : j < 7
      · have := hA.1 j e7; omega
      · have := hA.2.1 j (by omega); omega
    · have hj' := (List.getElem?_eq_some_iff.mp hj).1
      have : j < (g_h G).length + 1 := by rw [← hl2]; exact hj'
      have : j = (g_h G).length := by omega
      subst this
      rw [List.getElem?_append_right (Nat.le_refl _), Nat.sub_self] at hj
      cases hj
      refine ⟨21, vs, by rw [ea]; exact w4, .inl rfl, ⟨w1, fun v hv => ?_⟩, fun h => absurd h (by omega)⟩
      obtain ⟨x, rfl⟩ := w2 v hv
      exact .inr rfl
  · show 7 ≤ (G.1 ++ [_]).length ∧ (_ = base + ((G.1 ++ [_]).length - 7) ∧ (h'.2.2 = hb.2 + (g_u G + 1891) ∧ _))
    rw [hl2, w5, w6]
    exact ⟨by omega, by omega, by omega, fun q hq => (w3 q (by omega)).trans (r6 q hq)⟩
  · show (g_h G).length < (G.1 ++ [_]).length
    rw [hl2]; exact Nat.lt_succ_self _
theorem srun_ok (hA : AOK A σ base) (hw : w = 999 ∨ (w = 8 ∧ Ways σ base K hb A)) : ∀ (f M : Nat) (cd : List (Nat × AI)) (lv : SLV) (st : List SV) (G : SG) (es : List (Option SV × SG)) (nu : Nat → Nat) (L : LV) (S : List Value) (h : AH),
    (∀ x, x ∈ cd → aiOK x.2 = true) → RM A nu base hb G h → LVM A nu (g_h G).length (g_n G) lv L → LM A nu (g_h G).length (g_n G) st S → srun w f M cd lv st G = some es →
    ∃ q, q ∈ es ∧ ∃ nu' v h', run σ (f + K) M cd L S h = some (v, h') ∧ (OVM A nu' (g_h q.2).length (g_n q.2) q.1 v ∧ (RM A nu' base hb q.2 h' ∧ Gr nu G nu' q.2)) := by
  intro f
  induction f with
  | zero => intro M cd lv st G es nu L S h _ _ _ _ hs; cases hs
  | succ f ih =>
    intro M cd lv st G es nu L S h hc hR hL hS hs
    cases cd with
    | nil => rw [srun_nil] at hs; cases hs
    | cons x tl =>
      obtain ⟨pc, ai⟩ := x
      rw [srun_succ] at hs
      have hct : ∀ x, x ∈ tl → aiOK x.2 = true := fun x hx => hc x (List.mem_cons_of_mem _ hx)
      have key : ∃ os, sstep ai lv st G = some os ∧ ∀ o, o ∈ os → ∃ e, sgo w (srun w f) M tl lv o = some e ∧ ∀ x, x ∈ e → x ∈ es := by
        split at hs
        · cases hs
        · rename_i o ho
          refine ⟨[o], ho, fun o' ho' => ?_⟩
          rw [List.mem_singleton.mp ho']
          exact ⟨es, hs, fun x hx => hx⟩
        · rename_i os _ ho
          exact ⟨os, ho, cat_mem hs⟩
      clear hs
      obtain ⟨os, hst, hgo⟩ := key
      obtain ⟨o, ho, nu1, a, h1, h2⟩ := sstep_ok hA (hc _ List.mem_cons_self) hR hL hS hst
      obtain ⟨e, he, hsub⟩ := hgo o ho
      rw [show f + 1 + K = f + K + 1 by omega, run, h1]
      unfold SOK at h2
      split at h2
      · rename_i t lv' st' G' t' L' S' h'
        obtain ⟨rfl, hg, hR', hL', hS'⟩ := h2
        cases t' with
        | none =>
          obtain ⟨q, q1, nu2, v, h3, q2, q3, q4, q5⟩ := ih M tl lv' st' G' e nu1 L' S' h' hct hR' hL' hS' he
          exact ⟨q, hsub q q1, nu2, v, h3, q2, q3, q4, gr_trans hg q5⟩
        | some t =>
          obtain ⟨q, q1, nu2, v, h3, q2, q3, q4, q5⟩ := ih M (jmp t (codeOf M)) lv' st' G' e nu1 L' S' h' (fun x hx => code_ai x (jmp_sub t _ x hx)) hR' hL' hS' he
          rw [jmp_eq] at q2
          exact ⟨q, hsub q q1, nu2, v, h3, q2, q3, q4, gr_trans hg q5⟩
      · rename_i M' as r G' M'' As R
        obtain ⟨rfl, hg, hR', hAs, hr, h8, h999⟩ := h2
        unfold sgo at he
        dsimp only at he
        cases hM : Nat.beq M'' w
        · rw [hM, cond_false] at he
          split at he
          · cases he
          · rename_i es' hes
            obtain ⟨q, q1, nu2, v, h3, q2, q3, q4, q5⟩ := ih M'' (codeOf M'') (s_args 0 as) [] G' es' nu1 (am_args 0 As) [] h code_ai hR' (lvm_args 0 hAs) True.intro hes
            obtain ⟨e2, k1, k2⟩ := cat_mem he q q1
            obtain ⟨p, p1, nu3, u, h4, p2, p3, p4, p5⟩ := ih M tl lv (q.1.toList ++ r) q.2 e2 nu2 L (v.toList ++ R) h3 hct q4 (lvm_gr (gr_trans hg q5) hL) (ovm_list q3 (lm_gr q5 hr)) k1
            refine ⟨p, hsub p (k2 p p1), nu3, u, h4, ?_, p3, p4, gr_trans hg (gr_trans q5 p5)⟩
            dsimp only
            rw [q2]
            exact p2
        · rw [hM, cond_true] at he
          have eM := beqt hM
          rcases hw with e9 | ⟨e8, hW⟩
          · exact absurd (eM.trans e9) h999
          · have e1 : M'' = 8 := eM.trans e8
            have e2 := h8 e1
            subst e2
            obtain ⟨vs, h3, w0, w1, w2, w3, w4, w5, w6⟩ := hW f nu1 G' h hR'
            obtain ⟨g1, g2, g3, g4⟩ := pn_way (lv := lv) (st := r) (L := L) (S := R) hA hR' (lvm_gr hg hL) hr w1 w2 w3 w4 w5 w6
            obtain ⟨p, p1, nu3, u, h4, p2, p3, p4, p5⟩ := ih M tl lv _ _ e nu1 L (.ref h.2.1 :: R) h3 hct g2 g3 g4 he
            refine ⟨p, hsub p p1, nu3, u, h4, ?_, p3, p4, gr_trans hg (gr_trans g1 p5)⟩
            dsimp only
            rw [e1]
            rw [show am_args 0 [] = [] from rfl, w0]
            exact p2
      · rename_i q G' v
        obtain ⟨hg, hR', hv⟩ := h2
        have e1 : [(q, G')] = e := Option.some.inj he
        refine ⟨(q, G'), hsub _ (by rw [← e1]; exact List.mem_cons_self), nu1, v, h, rfl, hv, hR', hg⟩
      · exact h2.elim
/-- more fuel: the same end -/
theorem run_more {r : Option Value × AH} (d : Nat) : ∀ (f M : Nat) (cd : List (Nat × AI)) (L : LV) (S : List Value) (h : AH), run σ f M cd L S h = some r → run σ (f + d) M cd L S h = some r := by
  suffices H : ∀ (f M : Nat) (cd : List (Nat × AI)) (L : LV) (S : List Value) (h : AH) (r : Option Value × AH), run σ f M cd L S h = some r → run σ (f + d) M cd L S h = some r from fun f M cd L S h => H f M cd L S h r
  intro f
  induction f with
  | zero => intro M cd L S h r hs; cases hs
  | succ f ih =>
    intro M cd L S h r hs
    rw [show f + 1 + d = f + d + 1 by omega]
    cases cd with
    | nil => cases hs
    | cons x tl =>
      obtain ⟨pc, ai⟩ := x
      rw [run] at hs ⊢
      split at hs
      · cases hs
      · exact ih _ _ _ _ _ _ hs
      · exact ih _ _ _ _ _ _ hs
      · split at hs
        · cases hs
        · rename_i v h' hv
          rw [ih _ _ _ _ _ _ hv]
          exact ih _ _ _ _ _ _ hs
      · exact hs
end
