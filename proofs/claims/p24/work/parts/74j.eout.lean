/-! ===== what a step gives; the steps that leave the heap ===== -/
noncomputable def qe_PN (A nu : Nat → Nat) (base : Nat) (hb : (Nat → Option AO) × Nat) (G : qe_SG) (lv : qe_SLV) (st : List qe_SV) (G' : qe_SG) (nu' : Nat → Nat) (L : LV) (S : List Value) (h' : AH) : Prop :=
  qe_Gr nu G nu' G' ∧ (qe_RM A nu' base hb G' h' ∧ (qe_LVM A nu' (qe_g_h G').length (qe_g_n G') lv L ∧ qe_LM A nu' (qe_g_h G').length (qe_g_n G') st S))
noncomputable def qe_OVM (A nu : Nat → Nat) (n m : Nat) (q : Option qe_SV) (v : Option Value) : Prop := match q, v with
  | none, none => True
  | some s, some v => qe_SVm A nu n m s v
  | _, _ => False
noncomputable def qe_SOK (A nu : Nat → Nat) (base : Nat) (hb : (Nat → Option AO) × Nat) (G : qe_SG) (h : AH) (nu' : Nat → Nat) (o : qe_SOUT) (a : ACT) : Prop := match o, a with
  | .inl (t, lv, st, G'), .inl (t', L, S, h') => t' = t ∧ qe_PN A nu base hb G lv st G' nu' L S h'
  | .inr (.inl (M, as, r, G')), .inr (.inl (M', As, R)) => M' = M ∧ (qe_Gr nu G nu' G' ∧ (qe_RM A nu' base hb G' h ∧ (qe_LM A nu' (qe_g_h G').length (qe_g_n G') as As ∧ (qe_LM A nu' (qe_g_h G').length (qe_g_n G') r R ∧ ((M = 8 → As = []) ∧ M ≠ 999)))))
  | .inr (.inr (q, G')), .inr (.inr q') => qe_Gr nu G nu' G' ∧ (qe_RM A nu' base hb G' h ∧ qe_OVM A nu' (qe_g_h G').length (qe_g_n G') q q')
  | _, _ => False
noncomputable def qe_Cc (A nu : Nat → Nat) (base : Nat) (hb : (Nat → Option AO) × Nat) (G : qe_SG) (h : AH) (os : List qe_SOUT) (res : Option ACT) : Prop := ∃ o, o ∈ os ∧ ∃ nu' a, res = some a ∧ qe_SOK A nu base hb G h nu' o a
section
variable {A nu nu' : Nat → Nat} {base : Nat} {hb : (Nat → Option AO) × Nat} {G G' : qe_SG} {h h' : AH} {os : List qe_SOUT} {lv lv' : qe_SLV} {st st' : List qe_SV} {L L' : LV} {S S' : List Value} {c : Int} {a : Nat}
theorem qe_c_nx (hs : qe_o_nx lv' st' G' = some os) (hp : qe_PN A nu base hb G lv' st' G' nu' L' S' h') : qe_Cc A nu base hb G h os (nx L' S' h') := by
  have e : [Sum.inl (none, lv', st', G')] = os := Option.some.inj hs
  refine ⟨.inl (none, lv', st', G'), by rw [← e]; exact List.mem_cons_self, nu', .inl (none, L', S', h'), rfl, rfl, hp⟩
theorem qe_c_jp (hs : qe_o_jp c lv' st' G' = some os) (hp : qe_PN A nu base hb G lv' st' G' nu' L' S' h') : qe_Cc A nu base hb G h os (jp c L' S' h') := by
  have e : [Sum.inl (some c.toNat, lv', st', G')] = os := Option.some.inj hs
  refine ⟨.inl (some c.toNat, lv', st', G'), by rw [← e]; exact List.mem_cons_self, nu', .inl (some c.toNat, L', S', h'), rfl, rfl, hp⟩
theorem qe_pn_id (hR : qe_RM A nu base hb G h) (hL : qe_LVM A nu (qe_g_h G).length (qe_g_n G) lv L) (hS : qe_LM A nu (qe_g_h G).length (qe_g_n G) st S) : qe_PN A nu base hb G lv st G nu L S h := ⟨qe_gr_refl _ _, hR, hL, hS⟩
theorem qe_lvm_gr (hg : qe_Gr nu G nu' G') (hL : qe_LVM A nu (qe_g_h G).length (qe_g_n G) lv L) : qe_LVM A nu' (qe_g_h G').length (qe_g_n G') lv L := qe_lvm_more hL hg.2.2 hg.2.1 hg.1
theorem qe_lm_gr (hg : qe_Gr nu G nu' G') (hS : qe_LM A nu (qe_g_h G).length (qe_g_n G) st S) : qe_LM A nu' (qe_g_h G').length (qe_g_n G') st S := qe_lm_more hS hg.2.2 hg.2.1 hg.1
theorem qe_sv_gr {s : qe_SV} {v : Value} (hg : qe_Gr nu G nu' G') (hS : qe_SVm A nu (qe_g_h G).length (qe_g_n G) s v) : qe_SVm A nu' (qe_g_h G').length (qe_g_n G') s v := qe_sv_more hS hg.2.2 hg.2.1 hg.1
theorem qe_sok_gr {nu2 : Nat → Nat} {o : qe_SOUT} {x : ACT} (hg : qe_Gr nu G nu' G') (ho : qe_SOK A nu' base hb G' h nu2 o x) : qe_SOK A nu base hb G h nu2 o x := by
  unfold qe_SOK at ho ⊢
  split at ho
  · exact ⟨ho.1, qe_gr_trans hg ho.2.1, ho.2.2⟩
  · exact ⟨ho.1, qe_gr_trans hg ho.2.1, ho.2.2⟩
  · exact ⟨qe_gr_trans hg ho.1, ho.2⟩
  · exact ho.elim
theorem qe_cc_gr {res : Option ACT} (hg : qe_Gr nu G nu' G') (ho : qe_Cc A nu' base hb G' h os res) : qe_Cc A nu base hb G h os res := by
  obtain ⟨o, h1, nu2, x, h2, h3⟩ := ho
  exact ⟨o, h1, nu2, x, h2, qe_sok_gr hg h3⟩
theorem qe_cc_sub {res : Option ACT} {os' : List qe_SOUT} (hg : ∀ o, o ∈ os' → o ∈ os) (ho : qe_Cc A nu base hb G h os' res) : qe_Cc A nu base hb G h os res := by
  obtain ⟨o, h1, h2⟩ := ho
  exact ⟨o, hg o h1, h2⟩
theorem qe_sv_long {n m : Nat} {s : qe_SV} {v : Value} (h : qe_SVm A nu n m s v) (hi : qe_isL s = true) : ∃ x, v = .long x := by
  unfold qe_isL at hi
  cases v with
  | int x => rcases h with ⟨h, _⟩ | ⟨h, _⟩ <;> rw [h] at hi <;> exact Bool.noConfusion hi
  | long x => exact ⟨x, rfl⟩
  | null => have h : s.1 = 4 := h
            rw [h] at hi; exact Bool.noConfusion hi
  | ref q => have h := h.1
             rw [h] at hi; exact Bool.noConfusion hi
  | _ => exact h.elim
theorem qe_sv_ref {n m : Nat} {s : qe_SV} {v : Value} (h : qe_SVm A nu n m s v) (hi : qe_isR s = true) : v = .null ∨ ∃ q, v = .ref q := by
  unfold qe_isR at hi
  cases v with
  | int x => rcases h with ⟨h, _⟩ | ⟨h, _⟩ <;> rw [h] at hi <;> exact Bool.noConfusion hi
  | long x => rcases h with ⟨h, _⟩ | h <;> rw [h] at hi <;> exact Bool.noConfusion hi
  | null => exact .inl rfl
  | ref q => exact .inr ⟨q, rfl⟩
  | _ => exact h.elim
theorem qe_sv_obj {n m : Nat} {s : qe_SV} {v : Value} (h : qe_SVm A nu n m s v) (hi : qe_isO s = true) : v = .ref (A s.2.1) ∧ s.2.1 < n := by
  have h5 : s.1 = 5 := qe_beqt hi
  cases v with
  | int x => rcases h with ⟨h, _⟩ | ⟨h, _⟩ <;> omega
  | long x => rcases h with ⟨h, _⟩ | h <;> omega
  | null => have h : s.1 = 4 := h
            omega
  | ref q => exact ⟨by rw [← h.2.2], h.2.1⟩
  | _ => exact h.elim
theorem qe_sv_null {n m : Nat} {s : qe_SV} {v : Value} (h : qe_SVm A nu n m s v) (h5 : s.1 = 4) : v = .null := by
  cases v with
  | int x => rcases h with ⟨h, _⟩ | ⟨h, _⟩ <;> omega
  | long x => rcases h with ⟨h, _⟩ | h <;> omega
  | null => rfl
  | ref q => have := h.1; omega
  | _ => exact h.elim
theorem qe_tyc_ok {n m : Nat} {s : qe_SV} {v : Value} (h : qe_SVm A nu n m s v) (hc : qe_s_tyc c s = true) : am_ty c v = true := by
  unfold qe_s_tyc at hc
  by_cases h0 : c = 0
  · rw [decide_eq_true h0, cond_true] at hc
    obtain ⟨x, rfl⟩ := qe_sv_int h hc
    rw [h0]; rfl
  · rw [decide_eq_false h0, cond_false] at hc
    by_cases h1 : c = 1
    · rw [decide_eq_true h1, cond_true] at hc
      obtain ⟨x, rfl⟩ := qe_sv_long h hc
      rw [h1]; rfl
    · rw [decide_eq_false h1, cond_false] at hc
      by_cases h2 : c = 2
      · rw [decide_eq_true h2, cond_true] at hc
        rcases qe_sv_ref h hc with rfl | ⟨q, rfl⟩ <;> rw [h2] <;> rfl
      · rw [decide_eq_false h2, cond_false] at hc
        exact Bool.noConfusion hc
theorem qe_S_load_ok (hR : qe_RM A nu base hb G h) (hL : qe_LVM A nu (qe_g_h G).length (qe_g_n G) lv L) (hS : qe_LM A nu (qe_g_h G).length (qe_g_n G) st S) (hs : qe_S_load a c lv st G = some os) : qe_Cc A nu base hb G h os (s_load a c L S h) := by
  unfold qe_S_load at hs
  split at hs
  · rename_i v hv
    replace hs := qe_bif_some hs
    obtain ⟨hc, hs⟩ := hs
    obtain ⟨V, e1, e2⟩ := qe_lvm_find hL hv
    unfold s_load
    rw [e1]
    dsimp only
    rw [if_pos (qe_tyc_ok e2 hc)]
    exact qe_c_nx hs (qe_pn_id hR hL ⟨e2, hS⟩)
  · cases hs
theorem qe_S_store_ok (hR : qe_RM A nu base hb G h) (hL : qe_LVM A nu (qe_g_h G).length (qe_g_n G) lv L) (hS : qe_LM A nu (qe_g_h G).length (qe_g_n G) st S) (hs : qe_S_store a c lv st G = some os) : qe_Cc A nu base hb G h os (s_store a c L S h) := by
  unfold qe_S_store at hs
  split at hs
  · obtain ⟨V, R, rfl, e1, e2⟩ := qe_lm_cons hS
    replace hs := qe_bif_some hs
    obtain ⟨hc, hs⟩ := hs
    unfold s_store
    dsimp only
    rw [if_pos (qe_tyc_ok e1 hc)]
    exact qe_c_nx hs (qe_pn_id hR (qe_lvm_put a hL e1) e2)
  · cases hs
theorem qe_zi_of {c : Int} (h1 : -2147483648 ≤ c) (h2 : c < 2147483648) : qe_i2n (Int32.ofInt c) = qe_zi c := by
  rw [← qe_zi_i2n, Int32.toInt_ofInt_of_le h1 h2]
theorem qe_k_ok {n m : Nat} {c : Int} (h1 : -2147483648 ≤ c) (h2 : c < 2147483648) : qe_SVm A nu n m (qe_sk (qe_zi c)) (.int (Int32.ofInt c)) := qe_sk_ok (qe_zi_of h1 h2)
theorem qe_s_bin_I {k : Nat} {x y v : qe_SV} (h : qe_s_bin k x y G = some (v, G')) : qe_isI x = true ∧ qe_isI y = true := by
  unfold qe_s_bin at h
  obtain ⟨h0, _⟩ := qe_bif_some h
  exact qe_and2 h0
theorem qe_s_cond_I {k : Nat} {x y : qe_SV} {l : List (Bool × qe_SG)} (h : qe_s_cond k x y G = some l) : qe_isI x = true ∧ qe_isI y = true := by
  unfold qe_s_cond at h
  obtain ⟨h0, _⟩ := qe_bif_some h
  exact qe_and2 h0
theorem qe_S_iinc_ok (hR : qe_RM A nu base hb G h) (hL : qe_LVM A nu (qe_g_h G).length (qe_g_n G) lv L) (hS : qe_LM A nu (qe_g_h G).length (qe_g_n G) st S) (h1 : -2147483648 ≤ c) (h2 : c < 2147483648) (hs : qe_S_iinc a c lv st G = some os) : qe_Cc A nu base hb G h os (s_iinc a c L S h) := by
  unfold qe_S_iinc at hs
  split at hs
  · rename_i v hv
    obtain ⟨V, e1, e2⟩ := qe_lvm_find hL hv
    split at hs
    · rename_i q hq
      obtain ⟨x, rfl⟩ := qe_sv_int e2 (qe_s_bin_I (v := q.1) (G' := q.2) hq).1
      obtain ⟨nu', z, g1, g2, g3, g4⟩ := qe_s_bin_ok (v := q.1) (G' := q.2) hR.1 e2 (qe_k_ok h1 h2) hq
      have hg := qe_gr_ext g4
      unfold s_iinc
      rw [e1]
      dsimp only
      have : z = x + Int32.ofInt c := (Option.some.inj g1).symm
      subst this
      refine qe_c_nx hs ⟨hg, qe_rm_ext hR g3 g4, qe_lvm_put a (qe_lvm_gr hg hL) ?_, qe_lm_gr hg hS⟩
      rw [g4.2.2.1]; exact g2
    · cases hs
  · cases hs
theorem qe_S_ibin_ok (hR : qe_RM A nu base hb G h) (hL : qe_LVM A nu (qe_g_h G).length (qe_g_n G) lv L) (hS : qe_LM A nu (qe_g_h G).length (qe_g_n G) st S) (hs : qe_S_ibin a lv st G = some os) : qe_Cc A nu base hb G h os (s_ibin a L S h) := by
  unfold qe_S_ibin at hs
  split at hs
  · split at hs
    · rename_i q hq
      obtain ⟨Y, R, rfl, e1, e2⟩ := qe_lm_cons hS
      obtain ⟨X, R, rfl, e3, e4⟩ := qe_lm_cons e2
      have hi := qe_s_bin_I (v := q.1) (G' := q.2) hq
      obtain ⟨x, rfl⟩ := qe_sv_int e3 hi.1
      obtain ⟨y, rfl⟩ := qe_sv_int e1 hi.2
      obtain ⟨nu', z, g1, g2, g3, g4⟩ := qe_s_bin_ok (v := q.1) (G' := q.2) hR.1 e3 e1 hq
      have hg := qe_gr_ext g4
      unfold s_ibin
      dsimp only
      rw [g1]
      refine qe_c_nx hs ⟨hg, qe_rm_ext hR g3 g4, qe_lvm_gr hg hL, ?_, qe_lm_gr hg e4⟩
      rw [g4.2.2.1]; exact g2
    · cases hs
  · cases hs
theorem qe_c_br {l : List (Bool × qe_SG)} {q : Bool × qe_SG} {x : Option ACT} (hq : q ∈ l) (hos : some (qe_o_br c lv' st' l) = some os) (hp : qe_PN A nu base hb G lv' st' q.2 nu' L' S' h') (hx : x = if q.1 then jp c L' S' h' else nx L' S' h') : qe_Cc A nu base hb G h os x := by
  rw [← Option.some.inj hos]
  obtain ⟨b, g⟩ := q
  cases b
  · refine ⟨.inl (none, lv', st', g), List.mem_map.mpr ⟨_, hq, rfl⟩, nu', .inl (none, L', S', h'), hx, rfl, hp⟩
  · refine ⟨.inl (some c.toNat, lv', st', g), List.mem_map.mpr ⟨_, hq, rfl⟩, nu', .inl (some c.toNat, L', S', h'), hx, rfl, hp⟩
theorem qe_S_icmp_ok (hR : qe_RM A nu base hb G h) (hL : qe_LVM A nu (qe_g_h G).length (qe_g_n G) lv L) (hS : qe_LM A nu (qe_g_h G).length (qe_g_n G) st S) (hs : qe_S_icmp a c lv st G = some os) : qe_Cc A nu base hb G h os (s_icmp a c L S h) := by
  unfold qe_S_icmp at hs
  split at hs
  · split at hs
    · rename_i l hl
      obtain ⟨Y, R, rfl, e1, e2⟩ := qe_lm_cons hS
      obtain ⟨X, R, rfl, e3, e4⟩ := qe_lm_cons e2
      have hi := qe_s_cond_I hl
      obtain ⟨x, rfl⟩ := qe_sv_int e3 hi.1
      obtain ⟨y, rfl⟩ := qe_sv_int e1 hi.2
      obtain ⟨q, g1, g2, g3⟩ := qe_s_cond_ok hR.1 e3 e1 hl
      have hg := qe_gr_same g3
      refine qe_c_br g1 hs ⟨hg, qe_rm_same hR g3, qe_lvm_gr hg hL, qe_lm_gr hg e4⟩ ?_
      unfold s_icmp
      dsimp only
      rw [g2]
      cases q.1 <;> rfl
    · cases hs
  · cases hs
theorem qe_S_if_ok (hR : qe_RM A nu base hb G h) (hL : qe_LVM A nu (qe_g_h G).length (qe_g_n G) lv L) (hS : qe_LM A nu (qe_g_h G).length (qe_g_n G) st S) (hs : qe_S_if a c lv st G = some os) : qe_Cc A nu base hb G h os (s_if a c L S h) := by
  unfold qe_S_if at hs
  split at hs
  · split at hs
    · rename_i l hl
      obtain ⟨X, R, rfl, e3, e4⟩ := qe_lm_cons hS
      have hi := qe_s_cond_I hl
      obtain ⟨x, rfl⟩ := qe_sv_int e3 hi.1
      obtain ⟨q, g1, g2, g3⟩ := qe_s_cond_ok (Y := 0) hR.1 e3 (qe_sk_ok ((qe_i2n_zero 0).2 rfl)) hl
      have hg := qe_gr_same g3
      refine qe_c_br g1 hs ⟨hg, qe_rm_same hR g3, qe_lvm_gr hg hL, qe_lm_gr hg e4⟩ ?_
      unfold s_if
      dsimp only
      rw [g2]
      cases q.1 <;> rfl
    · cases hs
  · cases hs
end
