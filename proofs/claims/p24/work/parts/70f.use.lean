/-! ===== contracts: what they say, and how they are used ===== -/
noncomputable def no2 : Nat → Nat → Prop := fun _ _ => False
noncomputable def cA (C : CN) : List SV × SG := at_new C.2.2.2.1 G0c
noncomputable def cB (C : CN) : List SV × SG := gen_pre (cA C).2 C.2.2.2.2.1
noncomputable def cH (C : CN) : List (Nat × Nat × Nat × Nat) := pre4 C.2.2.2.2.2.2.1
noncomputable def cK (C : CN) : List Nat := C.2.2.2.2.2.1 ++ (cH C).map (fun h => h_code h.1 h.2.1 [])
noncomputable def CO (C : CN) (q : Option SV) (G : SG) : Prop := g_h G = [] ∧ (g_x G = [] ∧ (g_u G = 0 ∧ ((g_q G = 0 ∧ 1 ≤ g_p G) ∧ (k_sub (g_k G) (cK C) = true ∧ (rt_fit C.2.2.2.2.2.2.2.1 G q = true ∧ (bk_hc [] G (cH C) = true ∧ ck_rel 5 [] (s_args 0 (cA C).1) G (cH C) (cB C).1 (match q with | some v => some (y_fwd G v) | none => none) C.2.2.2.2.2.2.2.2 = true))))))
noncomputable def CnOK (σ : Nat → Nat) (C : CN) : Prop := ∀ (ad : AD) (h : AH) (I0 : IN) (As : List Value), (∀ i, i < 6 → ad (stc i) 0 = some (σ i)) → RM ((ad, h), no2) I0 (cB C).2 h → I0.2.2 = ad → LM I0 (g_h (cB C).2).length (g_n (cB C).2) (cA C).1 As →
  Rt σ C.2.1 (codeOf C.2.1) (am_args 0 As) [] h (fun v h' => ∃ q G' I', Gr I0 (cB C).2 I' G' ∧ (RM ((ad, h), no2) I' G' h' ∧ (OVM I' (g_h G').length (g_n G') q v ∧ CO C q G')))
theorem cn_out_ok {C : CN} {lv0 : SLV} {c0 : List SV} : ∀ {es : List (Option SV × SG)}, cn_out C lv0 c0 es = true → ∀ q, q ∈ es → g_h (y_close q.2) = [] ∧ (g_x (y_close q.2) = [] ∧ (g_u (y_close q.2) = 0 ∧ ((g_q (y_close q.2) = 0 ∧ 1 ≤ g_p (y_close q.2)) ∧ (k_sub (g_k (y_close q.2)) (cK C) = true ∧ (rt_fit C.2.2.2.2.2.2.2.1 (y_close q.2) q.1 = true ∧ (bk_hc [] (y_close q.2) (cH C) = true ∧ ck_rel 5 [] lv0 (y_close q.2) (cH C) c0 (match q.1 with | some v => some (y_fwd (y_close q.2) v) | none => none) C.2.2.2.2.2.2.2.2 = true)))))) := by
  intro es
  induction es with
  | nil => intro _ q h; cases h
  | cons p r ih =>
    intro h q hq
    rw [cn_out] at h
    obtain ⟨h1, h2⟩ := bifb h
    rcases List.mem_cons.mp hq with rfl | hq
    · obtain ⟨a1, a2⟩ := and2 h1
      obtain ⟨a3, a4⟩ := and2 a1
      obtain ⟨a5, a6⟩ := and2 a4
      obtain ⟨a7, a8⟩ := and2 a6
      obtain ⟨b1, b2⟩ := and2 a2
      obtain ⟨b3, b4⟩ := and2 b2
      obtain ⟨b5, b6⟩ := and2 b4
      have n3 : g_h (y_close q.2) = [] := by
        revert a3
        cases g_h (y_close q.2) with
        | nil => intro _; rfl
        | cons => intro h; cases h
      have n5 : g_x (y_close q.2) = [] := by
        revert a5
        cases g_x (y_close q.2) with
        | nil => intro _; rfl
        | cons => intro h; cases h
      exact ⟨n3, n5, beqt a7, ⟨beqt (and2 a8).1, blet (and2 a8).2⟩, b1, b3, b5, b6⟩
    · exact ih h2 q hq
theorem cn_sem {σ : Nat → Nat} {C : CN} (hC : ∀ B : BS, (∀ a i, ¬ B.2 a i) → (∀ i, i < 6 → B.1.1 (stc i) 0 = some (σ i)) → HC σ B C.1) (hk : cn_ok C = true) : CnOK σ C := by
  intro ad h I0 As hσ hR ha hAs
  have hk0 : (match yrun C.1 100000 C.2.1 (lps C.2.1) (codeOf C.2.1) (s_args 0 (cA C).1) [] (cB C).2 [] with
    | none => false
    | some es => cn_out C (s_args 0 (cA C).1) (cB C).1 es) = true := hk
  split at hk0
  · cases hk0
  · rename_i es hes
    have hB : ∀ a i, ¬ (((ad, h), no2) : BS).2 a i := fun _ _ h => h
    refine yrun_ok hB hσ (hC ((ad, h), no2) hB hσ) 100000 C.2.1 (lps C.2.1) (codeOf C.2.1) (s_args 0 (cA C).1) [] (cB C).2 [] es ⟨[], rfl⟩ hes I0 (am_args 0 As) [] h _ hR args_kn (lvm_args 0 hAs) True.intro (fun T hT => by cases hT) ?_
    intro q hq I' v h' g1 g2 g3
    exact ⟨q.1, y_close q.2, I', gr_trans g1 gr_close, y_close_ok g2, g3, cn_out_ok hk0 q hq⟩
theorem at_sl {ad : AD} {h : AH} {c i p : Nat} {v : Value} : At ad h c i p v ↔ ∃ q, ad c i = some q ∧ sl h q p = some v := by
  constructor
  · rintro ⟨q, k, vs, h1, h2, h3⟩
    refine ⟨q, h1, ?_⟩
    unfold sl
    rw [h2]
    exact h3
  · rintro ⟨q, h1, h2⟩
    unfold sl at h2
    split at h2
    · rename_i o ho
      exact ⟨q, o.1, o.2, h1, ho, h2⟩
    · cases h2
theorem cpat_cong2 {ad ad' : AD} {h h' : AH} {t kk : Nat} (hu : ∀ c i q, c < 1000 → ad c i = some q → ad' c i = some q) (hm : ∀ m, m ∈ (cp_at t).2.1 → ∀ W, AtM ad' h' m kk W ↔ AtM ad h m kk W) (hi : Inb ad' (cp_at t).1 kk ↔ Inb ad (cp_at t).1 kk) (hC : CpAt ad h t kk) : CpAt ad' h' t kk := by
  rintro ⟨m, v, h1, h2⟩
  obtain ⟨c1, c2⟩ := hC ⟨m, v, h1, (hm m h1 v).mp h2⟩
  constructor
  · intro hin
    obtain ⟨d, gv, d1, d2⟩ := c1 (hi.mp hin)
    exact ⟨d, gv, d1, dc_cong2 (fun m hmm i q e => hu _ i q (cp_tg hmm).1 e) (fun m hmm W hW => (hm m hmm W).mpr hW) d2⟩
  · intro hin
    obtain ⟨d, gv, d1, d2⟩ := c2 (fun e => hin (hi.mpr e))
    exact ⟨d, gv, d1, dc_cong2 (fun m hmm i q e => hu _ i q (cp_tg hmm).1 e) (fun m hmm W hW => (hm m hmm W).mpr hW) d2⟩
theorem ck_lim2 : cpt.all (fun c => Nat.ble c.1 1000) = true := by decide +kernel
theorem lim_lt {t : Nat} (h : (cp_at t).1 ≠ 0) : (cp_at t).1 - 1 < 1000 := by
  unfold cp_at at h ⊢
  by_cases ht : t < cpt.length
  · rw [List.getD_eq_getElem?_getD, List.getElem?_eq_getElem ht, Option.getD_some] at h ⊢
    have h1 := blet (List.all_eq_true.mp ck_lim2 _ (List.getElem_mem ht))
    omega
  · rw [List.getD_eq_getElem?_getD, List.getElem?_eq_none (by omega)] at h
    exact absurd rfl h
theorem x_in_ok : ∀ {X : List (Nat × SV)}, x_in X = true → ∀ q, q ∈ X → q.1 ≠ 0 := by
  intro X
  induction X with
  | nil => intro _ q h; cases h
  | cons p r ih =>
    intro h q hq
    rw [x_in] at h
    cases e : Nat.beq p.1 0
    · rw [e, cond_false] at h
      rcases List.mem_cons.mp hq with rfl | hq
      · exact beqf e
      · exact ih h q hq
    · rw [e, cond_true] at h
      cases h
theorem mcode_ok {t k : Nat} {m : Nat × Nat × Nat} (hm : m ∈ (cp_at t).2.1) : kcode (mplace m k).1 (mplace m k).2.2 = mcode m := by
  obtain ⟨-, -, h3, -, h5⟩ := cp_ok hm
  rw [mplace_1]
  unfold kcode mcode mplace
  cases e : Nat.beq m.2.1 0
  · have : cdm m.1 ≠ 0 := fun e2 => beqf e (h5.mpr e2)
    have e2 : Nat.beq (cdm m.1) 0 = false := by
      cases e2 : Nat.beq (cdm m.1) 0
      · rfl
      · exact absurd (beqt e2) this
    rw [e2, cond_false, cond_false]
  · rw [h5.mp (beqt e)]
    rfl
section
variable {B : BS} {I I' : IN} {n m n' m' : Nat} {G G' : SG} {h h' h0 h1 : AH} {lv lv' lv0 : SLV} {L L' L1 : LV} {c : Int} {a k kd i f : Nat} {s : SV} {v : Value}
/-- the state behind a call, but for what the call tells -/
theorem use_state {K kk : List Nat} (hB : ∀ a i, ¬ B.2 a i) (hR : RM B I G h) (hX : x_in (g_x G) = true) (hnc : kk.all (ncoupled G) = true) (hS : Sc (I.2.2, h) I' K 0 0 h') (hT : TS I'.2.2 h' 1 (ExG I'.1 []) no2) (hK : ∀ x, x ∈ K → x ∈ kk) : RM B (I.1, I.2.1, I'.2.2) (upX (upC G (c_kill kk (g_c G))) (g_x G) (kk ++ g_k G)) h' := by
  obtain ⟨hg, hH, hRa, ⟨t1, t2, t3, t4, t5, t6⟩, hXn, hC, z1, z2, z3, z4, z5, z6, z7⟩ := hR
  obtain ⟨s1, s2, s3, s4, s5, s6, s7⟩ := hS
  obtain ⟨q1, q2, q3, q4, q5, q6⟩ := hT
  dsimp only at s1 s2 s3 s4 s5 s6 s7
  have s4' : ∀ c i a, I'.2.2 c i = some a → I.2.2 c i = some a := by
    intro c i a e
    rcases s4 c i a e with e2 | e2
    · exact e2
    · have := q3 c i a e
      omega
  have eqad : ∀ c i, c < 1000 → I'.2.2 c i = I.2.2 c i := by
    intro c i hc
    cases e : I.2.2 c i with
    | some a => exact s3 c i a hc e
    | none =>
      cases e2 : I'.2.2 c i with
      | none => rfl
      | some a => rw [s4' c i a e2] at e; cases e
  have at_eq : ∀ {c i p : Nat} {V : Value}, c < 1000 → kcode c p ∉ K → (At I'.2.2 h' c i p V ↔ At I.2.2 h c i p V) := by
    intro c i p V hc hk
    rw [at_sl, at_sl, eqad c i hc]
    constructor
    · rintro ⟨q, e1, e2⟩
      exact ⟨q, e1, by rw [← s2 c i q p hc e1 hk]; exact e2⟩
    · rintro ⟨q, e1, e2⟩
      exact ⟨q, e1, by rw [s2 c i q p hc e1 hk]; exact e2⟩
  have h3 : ∀ c i q, c < 1000 → I.2.2 c i = some q → I'.2.2 c i = some q := s3
  have hup : ∀ {n m : Nat} {s : SV} {v : Value}, SVm I n m s v → SVm (I.1, I.2.1, I'.2.2) n m s v := fun hs => sv_up hs (Nat.le_refl _) (Nat.le_refl _) (fun _ _ => rfl) (fun _ _ => rfl) h3
  refine ⟨hg, fun k o hk => ?_, ⟨fun k hk => ?_, hRa.2⟩, ⟨q1, q2, q3, ⟨q4.1, q4.2.1, fun c p ty hc ht h5 i hA => ?_⟩, q5, fun t k ht he => ?_⟩, hXn, fun x hx => ?_, fun a ha hb => ?_, fun c i a p hc hb hp => ?_, fun c i a hc hb => ?_, fun c i a e => ?_, ?_, ?_, ?_⟩
  · have hlt : k < (g_h G).length := (List.getElem?_eq_some_iff.mp hk).1
    rcases hH k o hk with ⟨a1, w, a2, a3, a4⟩ | ⟨a1, a2, vs, a3, a4⟩
    · exact Or.inl ⟨a1, w, a2, a3, hup a4⟩
    · refine Or.inr ⟨a1, fun c i e => a2 c i (s4' c i _ e), vs, (s1 _ (hRa.1 k hlt).2 a2).trans a3, ?_⟩
      obtain ⟨o1, o2⟩ := o
      cases o2 with
      | inl q => exact a4
      | inr l => exact lm_up (I := I) (I' := (I.1, I.2.1, I'.2.2)) (l := l) a4 (Nat.le_refl _) (Nat.le_refl _) (fun _ _ => rfl) (fun _ _ => rfl) h3
  · have := hRa.1 k hk
    exact ⟨this.1, Nat.lt_of_lt_of_le this.2 s7⟩
  · rcases q4.2.2 c p ty hc ht h5 i hA with e | e
    · exact Or.inl e
    · exact e.elim
  · by_cases h0 : t = 0
    · subst h0
      exact q6 0 k (by omega) (fun ⟨e, e1, _⟩ => by cases e1)
    · refine cpat_cong2 h3 (fun m m1 W => ?_) ?_ (t6 t k ht he)
      · have hm := (cp_ok m1).2.1
        refine at_eq (by rw [mplace_1]; exact hm) fun e => ?_
        rw [mcode_ok m1] at e
        have h2 := List.all_eq_true.mp hnc _ (hK _ e)
        unfold ncoupled at h2
        have h4 := List.all_eq_true.mp h2 t (List.mem_range.mpr ht)
        have h6 : Nat.beq t 0 = false := by
          cases h6 : Nat.beq t 0
          · rfl
          · exact absurd (beqt h6) h0
        rw [h6, cond_false] at h4
        have h7 := List.all_eq_true.mp h4 m m1
        rw [Nat.beq_refl] at h7
        exact Bool.noConfusion h7
      · unfold Inb
        by_cases e : (cp_at t).1 = 0
        · exact ⟨fun _ => Or.inl e, fun _ => Or.inl e⟩
        · rw [eqad _ k (lim_lt e)]
  · obtain ⟨x1, x2, x3⟩ := c_kill_mem hx
    obtain ⟨y1, y2, y3, y4⟩ := hC x x1
    refine ⟨y1, y2, y3, ?_⟩
    rcases y4 with ⟨d1, i, j, V, d2, d3, d4, d5⟩ | ⟨d1, d2, d3, d4⟩ | ⟨d1, d2, d3, i, a, k, vs, d4, d5, d6, d7⟩ | ⟨d1, d2, d3, d4⟩
    · have ht := tag_I d1
      obtain ⟨e1, e2⟩ := x2 (by omega)
      refine Or.inl ⟨d1, i, j, V, d2, d3, (at_eq y3 fun e => e1 (hK _ ?_)).mpr d4, hup d5⟩
      have e3 : c_code x = kcode x.1 j := by
        unfold c_code kcode
        cases e4 : Nat.beq (cdm x.1) 0
        · rw [cond_false, cond_false]
        · have e5 : x.2.2.1.1 = 0 := by
            have := fun q => e2 ⟨beqt e4, q⟩
            apply Classical.byContradiction
            intro hh
            exact this (by omega)
          have e6 : sval I.1 x.2.2.1 = x.2.2.1.2.1 := by unfold sval isN; rw [e5]; rfl
          rw [cond_true, cond_true]
          omega
      rw [e3]
      exact e
    · refine Or.inr (Or.inl ⟨d1, d2, d3, fun k => ?_⟩)
      show I'.2.2 x.1 k ≠ none ↔ _
      rw [eqad _ k y3]
      exact d4 k
    · have e9 := x3 d1
      obtain ⟨-, k', vs', u1, u2, u3, -⟩ := q1 x.1 i a y3 (h3 _ _ _ y3 d5)
      obtain ⟨-, k2, vs2, w1, w2, w3, -⟩ := t1 x.1 i a y3 d5
      rw [d6] at w1
      cases w1
      have hlen : vs'.length = vs.length := by
        by_cases m0 : cdm x.1 = 0
        · rw [u3.1 m0, w3.1 m0]
        · by_cases m1 : cdm x.1 ≤ 999999
          · have := u3.2.1 (by omega) m1
            have := w3.2.1 (by omega) m1
            omega
          · have key : ∀ p : Nat, vs'[p]? = vs[p]? := by
              intro p
              have e2 := s2 x.1 i a p y3 d5 (fun e => e9 (by
                have e3 : kcode x.1 p = x.1 * 128 := by
                  unfold kcode
                  cases e4 : Nat.beq (cdm x.1) 0
                  · rw [cond_false]
                  · exact absurd (beqt e4) m0
                rw [e3] at e
                exact hK _ e))
              unfold sl at e2
              rw [u1, d6] at e2
              exact e2
            rw [List.ext_getElem? key]
      exact Or.inr (Or.inr (Or.inl ⟨d1, d2, d3, i, a, k', vs', d4, h3 _ _ _ y3 d5, u1, by rw [hlen]; exact d7⟩))
    · have hno := px_no (c_kill_mem2 hx d1) d1
      exact Or.inr (Or.inr (Or.inr ⟨d1, d2, d3, px_mono y3 (fun c' i' p W hc' hk' hA => (at_eq hc' fun e => hno _ hk' (hK _ e)).mpr hA) d4⟩))
  · have hno : ∀ c i, I.2.2 c i ≠ some a := fun c i e => by
      rcases z4 c i a e with e2 | e2
      · exact hb c i e2
      · omega
    exact (s1 a (Nat.lt_of_lt_of_le ha z7) hno).trans (z1 a ha hb)
  · have e1 := z3 c i a hc hb
    exact (s2 c i a p hc e1 (fun e => hp (List.mem_append_left _ (hK _ e)))).trans (z2 c i a p hc hb (fun e => hp (List.mem_append_right _ e)))
  · exact s3 c i a hc (z3 c i a hc hb)
  · exact z4 c i a (s4' c i a e)
  · show h'.2.1 ≤ _ + g_q G
    omega
  · show h'.2.2 ≤ _ + g_u G
    omega
  · omega
end
