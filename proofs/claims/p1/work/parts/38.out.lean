/-! ===== what a step gives; the steps that leave the heap ===== -/
noncomputable def PN (A nu : Nat → Nat) (base : Nat) (hb : (Nat → Option AO) × Nat) (G : SG) (lv : SLV) (st : List SV) (G' : SG) (nu' : Nat → Nat) (L : LV) (S : List Value) (h' : AH) : Prop :=
  Gr nu G nu' G' ∧ (RM A nu' base hb G' h' ∧ (LVM A nu' (g_h G').length (g_n G') lv L ∧ LM A nu' (g_h G').length (g_n G') st S))
noncomputable def OVM (A nu : Nat → Nat) (n m : Nat) (q : Option SV) (v : Option Value) : Prop := match q, v with
  | none, none => True
  | some s, some v => SVm A nu n m s v
  | _, _ => False
noncomputable def SOK (A nu : Nat → Nat) (base : Nat) (hb : (Nat → Option AO) × Nat) (G : SG) (h : AH) (nu' : Nat → Nat) (o : SOUT) (a : ACT) : Prop := match o, a with
  | .inl (t, lv, st, G'), .inl (t', L, S, h') => t' = t ∧ PN A nu base hb G lv st G' nu' L S h'
  | .inr (.inl (M, as, r, G')), .inr (.inl (M', As, R)) => M' = M ∧ (Gr nu G nu' G' ∧ (RM A nu' base hb G' h ∧ (LM A nu' (g_h G').length (g_n G') as As ∧ (LM A nu' (g_h G').length (g_n G') r R ∧ ((M = 8 → As = []) ∧ M ≠ 999)))))
  | .inr (.inr (q, G')), .inr (.inr q') => Gr nu G nu' G' ∧ (RM A nu' base hb G' h ∧ OVM A nu' (g_h G').length (g_n G') q q')
  | _, _ => False
noncomputable def Cc (A nu : Nat → Nat) (base : Nat) (hb : (Nat → Option AO) × Nat) (G : SG) (h : AH) (os : List SOUT) (res : Option ACT) : Prop := ∃ o, o ∈ os ∧ ∃ nu' a, res = some a ∧ SOK A nu base hb G h nu' o a
section
variable {A nu nu' : Nat → Nat} {base : Nat} {hb : (Nat → Option AO) × Nat} {G G' : SG} {h h' : AH} {os : List SOUT} {lv lv' : SLV} {st st' : List SV} {L L' : LV} {S S' : List Value} {c : Int} {a : Nat}
theorem c_nx (hs : o_nx lv' st' G' = some os) (hp : PN A nu base hb G lv' st' G' nu' L' S' h') : Cc A nu base hb G h os (nx L' S' h') := by
  have e : [Sum.inl (none, lv', st', G')] = os := Option.some.inj hs
  refine ⟨.inl (none, lv', st', G'), by rw [← e]; exact List.mem_cons_self, nu', .inl (none, L', S', h'), rfl, rfl, hp⟩
theorem c_jp (hs : o_jp c lv' st' G' = some os) (hp : PN A nu base hb G lv' st' G' nu' L' S' h') : Cc A nu base hb G h os (jp c L' S' h') := by
  have e : [Sum.inl (some c.toNat, lv', st', G')] = os := Option.some.inj hs
  refine ⟨.inl (some c.toNat, lv', st', G'), by rw [← e]; exact List.mem_cons_self, nu', .inl (some c.toNat, L', S', h'), rfl, rfl, hp⟩
theorem pn_id (hR : RM A nu base hb G h) (hL : LVM A nu (g_h G).length (g_n G) lv L) (hS : LM A nu (g_h G).length (g_n G) st S) : PN A nu base hb G lv st G nu L S h := ⟨gr_refl _ _, hR, hL, hS⟩
theorem lvm_gr (hg : Gr nu G nu' G') (hL : LVM A nu (g_h G).length (g_n G) lv L) : LVM A nu' (g_h G').length (g_n G') lv L := lvm_more hL hg.2.2 hg.2.1 hg.1
theorem lm_gr (hg : Gr nu G nu' G') (hS : LM A nu (g_h G).length (g_n G) st S) : LM A nu' (g_h G').length (g_n G') st S := lm_more hS hg.2.2 hg.2.1 hg.1
theorem sv_gr {s : SV} {v : Value} (hg : Gr nu G nu' G') (hS : SVm A nu (g_h G).length (g_n G) s v) : SVm A nu' (g_h G').length (g_n G') s v := sv_more hS hg.2.2 hg.2.1 hg.1
theorem sok_gr {nu2 : Nat → Nat} {o : SOUT} {x : ACT} (hg : Gr nu G nu' G') (ho : SOK A nu' base hb G' h nu2 o x) : SOK A nu base hb G h nu2 o x := by
  unfold SOK at ho ⊢
  split at ho
  · exact ⟨ho.1, gr_trans hg ho.2.1, ho.2.2⟩
  · exact ⟨ho.1, gr_trans hg ho.2.1, ho.2.2⟩
  · exact ⟨gr_trans hg ho.1, ho.2⟩
  · exact ho.elim
theorem cc_gr {res : Option ACT} (hg : Gr nu G nu' G') (ho : Cc A nu' base hb G' h os res) : Cc A nu base hb G h os res := by
  obtain ⟨o, h1, nu2, x, h2, h3⟩ := ho
  exact ⟨o, h1, nu2, x, h2, sok_gr hg h3⟩
theorem cc_sub {res : Option ACT} {os' : List SOUT} (hg : ∀ o, o ∈ os' → o ∈ os) (ho : Cc A nu base hb G h os' res) : Cc A nu base hb G h os res := by
  obtain ⟨o, h1, h2⟩ := ho
  exact ⟨o, hg o h1, h2⟩
theorem sv_long {n m : Nat} {s : SV} {v : Value} (h : SVm A nu n m s v) (hi : isL s = true) : ∃ x, v = .long x := by
  unfold isL at hi
  cases v with
  | int x => rcases h with ⟨h, _⟩ | ⟨h, _⟩ <;> rw [h] at hi <;> exact Bool.noConfusion hi
  | long x => exact ⟨x, rfl⟩
  | null => have h : s.1 = 4 := h
            rw [h] at hi; exact Bool.noConfusion hi
  | ref q => have h := h.1
             rw [h] at hi; exact Bool.noConfusion hi
  | _ => exact h.elim
theorem sv_ref {n m : Nat} {s : SV} {v : Value} (h : SVm A nu n m s v) (hi : isR s = true) : v = .null ∨ ∃ q, v = .ref q := by
  unfold isR at hi
  cases v with
  | int x => rcases h with ⟨h, _⟩ | ⟨h, _⟩ <;> rw [h] at hi <;> exact Bool.noConfusion hi
  | long x => rcases h with ⟨h, _⟩ | h <;> rw [h] at hi <;> exact Bool.noConfusion hi
  | null => exact .inl rfl
  | ref q => exact .inr ⟨q, rfl⟩
  | _ => exact h.elim
theorem sv_obj {n m : Nat} {s : SV} {v : Value} (h : SVm A nu n m s v) (hi : isO s = true) : v = .ref (A s.2.1) ∧ s.2.1 < n := by
  have h5 : s.1 = 5 := beqt hi
  cases v with
  | int x => rcases h with ⟨h, _⟩ | ⟨h, _⟩ <;> omega
  | long x => rcases h with ⟨h, _⟩ | h <;> omega
  | null => have h : s.1 = 4 := h
            omega
  | ref q => exact ⟨by rw [← h.2.2], h.2.1⟩
  | _ => exact h.elim
theorem sv_null {n m : Nat} {s : SV} {v : Value} (h : SVm A nu n m s v) (h5 : s.1 = 4) : v = .null := by
  cases v with
  | int x => rcases h with ⟨h, _⟩ | ⟨h, _⟩ <;> omega
  | long x => rcases h with ⟨h, _⟩ | h <;> omega
  | null => rfl
  | ref q => have := h.1; omega
  | _ => exact h.elim
theorem tyc_ok {n m : Nat} {s : SV} {v : Value} (h : SVm A nu n m s v) (hc : s_tyc c s = true) : am_ty c v = true := by
  unfold s_tyc at hc
  by_cases h0 : c = 0
  · rw [decide_eq_true h0, cond_true] at hc
    obtain ⟨x, rfl⟩ := sv_int h hc
    rw [h0]; rfl
  · rw [decide_eq_false h0, cond_false] at hc
    by_cases h1 : c = 1
    · rw [decide_eq_true h1, cond_true] at hc
      obtain ⟨x, rfl⟩ := sv_long h hc
      rw [h1]; rfl
    · rw [decide_eq_false h1, cond_false] at hc
      by_cases h2 : c = 2
      · rw [decide_eq_true h2, cond_true] at hc
        rcases sv_ref h hc with rfl | ⟨q, rfl⟩ <;> rw [h2] <;> rfl
      · rw [decide_eq_false h2, cond_false] at hc
        exact Bool.noConfusion hc
theorem S_load_ok (hR : RM A nu base hb G h) (hL : LVM A nu (g_h G).length (g_n G) lv L) (hS : LM A nu (g_h G).length (g_n G) st S) (hs : S_load a c lv st G = some os) : Cc A nu base hb G h os (s_load a c L S h) := by
  unfold S_load at hs
  split at hs
  · rename_i v hv
    replace hs := bif_some hs
    obtain ⟨hc, hs⟩ := hs
    obtain ⟨V, e1, e2⟩ := lvm_find hL hv
    unfold s_load
    rw [e1]
    dsimp only
    rw [if_pos (tyc_ok e2 hc)]
    exact c_nx hs (pn_id hR hL ⟨e2, hS⟩)
  · cases hs
theorem S_store_ok (hR : RM A nu base hb G h) (hL : LVM A nu (g_h G).length (g_n G) lv L) (hS : LM A nu (g_h G).length (g_n G) st S) (hs : S_store a c lv st G = some os) : Cc A nu base hb G h os (s_store a c L S h) := by
  unfold S_store at hs
  split at hs
  · obtain ⟨V, R, rfl, e1, e2⟩ := lm_cons hS
    replace hs := bif_some hs
    obtain ⟨hc, hs⟩ := hs
    unfold s_store
    dsimp only
    rw [if_pos (tyc_ok e1 hc)]
    exact c_nx hs (pn_id hR (lvm_put a hL e1) e2)
  · cases hs
theorem zi_of {c : Int} (h1 : -2147483648 ≤ c) (h2 : c < 2147483648) : i2n (Int32.ofInt c) = zi c := by
  rw [← zi_i2n, Int32.toInt_ofInt_of_le h1 h2]
theorem k_ok {n m : Nat} {c : Int} (h1 : -2147483648 ≤ c) (h2 : c < 2147483648) : SVm A nu n m (sk (zi c)) (.int (Int32.ofInt c)) := sk_ok (zi_of h1 h2)
theorem s_bin_I {k : Nat} {x y v : SV} (h : s_bin k x y G = some (v, G')) : isI x = true ∧ isI y = true := by
  unfold s_bin at h
  obtain ⟨h0, _⟩ := bif_some h
  exact and2 h0
theorem s_cond_I {k : Nat} {x y : SV} {l : List (Bool × SG)} (h : s_cond k x y G = some l) : isI x = true ∧ isI y = true := by
  unfold s_cond at h
  obtain ⟨h0, _⟩ := bif_some h
  exact and2 h0
theorem S_iinc_ok (hR : RM A nu base hb G h) (hL : LVM A nu (g_h G).length (g_n G) lv L) (hS : LM A nu (g_h G).length (g_n G) st S) (h1 : -2147483648 ≤ c) (h2 : c < 2147483648) (hs : S_iinc a c lv st G = some os) : Cc A nu base hb G h os (s_iinc a c L S h) := by
  unfold S_iinc at hs
  split at hs
  · rename_i v hv
    obtain ⟨V, e1, e2⟩ := lvm_find hL hv
    split at hs
    · rename_i q hq
      obtain ⟨x, rfl⟩ := sv_int e2 (s_bin_I (v := q.1) (G' := q.2) hq).1
      obtain ⟨nu', z, g1, g2, g3, g4⟩ := s_bin_ok (v := q.1) (G' := q.2) hR.1 e2 (k_ok h1 h2) hq
      have hg := gr_ext g4
      unfold s_iinc
      rw [e1]
      dsimp only
      have : z = x + Int32.ofInt c := (Option.some.inj g1).symm
      subst this
      refine c_nx hs ⟨hg, rm_ext hR g3 g4, lvm_put a (lvm_gr hg hL) ?_, lm_gr hg hS⟩
      rw [g4.2.2.1]; exact g2
    · cases hs
  · cases hs
theorem S_ibin_ok (hR : RM A nu base hb G h) (hL : LVM A nu (g_h G).length (g_n G) lv L) (hS : LM A nu (g_h G).length (g_n G) st S) (hs : S_ibin a lv st G = some os) : Cc A nu base hb G h os (s_ibin a L S h) := by
  unfold S_ibin at hs
  split at hs
  · split at hs
    · rename_i q hq
      obtain ⟨Y, R, rfl, e1, e2⟩ := lm_cons hS
      obtain ⟨X, R, rfl, e3, e4⟩ := lm_cons e2
      have hi := s_bin_I (v := q.1) (G' := q.2) hq
      obtain ⟨x, rfl⟩ := sv_int e3 hi.1
      obtain ⟨y, rfl⟩ := sv_int e1 hi.2
      obtain ⟨nu', z, g1, g2, g3, g4⟩ := s_bin_ok (v := q.1) (G' := q.2) hR.1 e3 e1 hq
      have hg := gr_ext g4
      unfold s_ibin
      dsimp only
      rw [g1]
      refine c_nx hs ⟨hg, rm_ext hR g3 g4, lvm_gr hg hL, ?_, lm_gr hg e4⟩
      rw [g4.2.2.1]; exact g2
    · cases hs
  · cases hs
theorem c_br {l : List (Bool × SG)} {q : Bool × SG} {x : Option ACT} (hq : q ∈ l) (hos : some (o_br c lv' st' l) = some os) (hp : PN A nu base hb G lv' st' q.2 nu' L' S' h') (hx : x = if q.1 then jp c L' S' h' else nx L' S' h') : Cc A nu base hb G h os x := by
  rw [← Option.some.inj hos]
  obtain ⟨b, g⟩ := q
  cases b
  · refine ⟨.inl (none, lv', st', g), List.mem_map.mpr ⟨_, hq, rfl⟩, nu', .inl (none, L', S', h'), hx, rfl, hp⟩
  · refine ⟨.inl (some c.toNat, lv', st', g), List.mem_map.mpr ⟨_, hq, rfl⟩, nu', .inl (some c.toNat, L', S', h'), hx, rfl, hp⟩
theorem S_icmp_ok (hR : RM A nu base hb G h) (hL : LVM A nu (g_h G).length (g_n G) lv L) (hS : LM A nu (g_h G).length (g_n G) st S) (hs : S_icmp a c lv st G = some os) : Cc A nu base hb G h os (s_icmp a c L S h) := by
  unfold S_icmp at hs
  split at hs
  · split at hs
    · rename_i l hl
      obtain ⟨Y, R, rfl, e1, e2⟩ := lm_cons hS
      obtain ⟨X, R, rfl, e3, e4⟩ := lm_cons e2
      have hi := s_cond_I hl
      obtain ⟨x, rfl⟩ := sv_int e3 hi.1
      obtain ⟨y, rfl⟩ := sv_int e1 hi.2
      obtain ⟨q, g1, g2, g3⟩ := s_cond_ok hR.1 e3 e1 hl
      have hg := gr_same g3
      refine c_br g1 hs ⟨hg, rm_same hR g3, lvm_gr hg hL, lm_gr hg e4⟩ ?_
      unfold s_icmp
      dsimp only
      rw [g2]
      cases q.1 <;> rfl
    · cases hs
  · cases hs
theorem S_if_ok (hR : RM A nu base hb G h) (hL : LVM A nu (g_h G).length (g_n G) lv L) (hS : LM A nu (g_h G).length (g_n G) st S) (hs : S_if a c lv st G = some os) : Cc A nu base hb G h os (s_if a c L S h) := by
  unfold S_if at hs
  split at hs
  · split at hs
    · rename_i l hl
      obtain ⟨X, R, rfl, e3, e4⟩ := lm_cons hS
      have hi := s_cond_I hl
      obtain ⟨x, rfl⟩ := sv_int e3 hi.1
      obtain ⟨q, g1, g2, g3⟩ := s_cond_ok (Y := 0) hR.1 e3 (sk_ok ((i2n_zero 0).2 rfl)) hl
      have hg := gr_same g3
      refine c_br g1 hs ⟨hg, rm_same hR g3, lvm_gr hg hL, lm_gr hg e4⟩ ?_
      unfold s_if
      dsimp only
      rw [g2]
      cases q.1 <;> rfl
    · cases hs
  · cases hs
end
