/-! ===== a step's outcomes: the simple instructions ===== -/
noncomputable def OVM (I : IN) (n m : Nat) (q : Option SV) (v : Option Value) : Prop := match q, v with
  | none, none => True
  | some s, some v => SVm I n m s v
  | _, _ => False
noncomputable def PN (B : BS) (I : IN) (G : SG) (lv : SLV) (st : List SV) (G' : SG) (I' : IN) (L : LV) (S : List Value) (h' : AH) : Prop :=
  Gr I G I' G' ∧ (RM B I' G' h' ∧ (KN lv ∧ (LVM I' (g_h G').length (g_n G') lv L ∧ LM I' (g_h G').length (g_n G') st S)))
noncomputable def SOK (B : BS) (I : IN) (G : SG) (h : AH) (I' : IN) (o : SOUT) (x : ACT) : Prop := match o, x with
  | .inl (t, lv, st, G'), .inl (t', L, S, h') => t = t' ∧ PN B I G lv st G' I' L S h'
  | .inr (.inl (M, as, r, G')), .inr (.inl (M', As, R)) => M = M' ∧ (Gr I G I' G' ∧ (RM B I' G' h ∧ (LM I' (g_h G').length (g_n G') as As ∧ LM I' (g_h G').length (g_n G') r R)))
  | .inr (.inr (q, G')), .inr (.inr v) => Gr I G I' G' ∧ (RM B I' G' h ∧ OVM I' (g_h G').length (g_n G') q v)
  | _, _ => False
noncomputable def Cc (B : BS) (I : IN) (G : SG) (h : AH) (os : List SOUT) (res : Option ACT) : Prop := ∃ o, o ∈ os ∧ ∃ I' x, res = some x ∧ SOK B I G h I' o x
section
variable {B : BS} {I I' : IN} {G G' : SG} {h h' : AH} {os : List SOUT} {lv lv' : SLV} {st st' r : List SV} {L L' : LV} {S S' R : List Value} {c : Int} {a k kd i : Nat}
theorem lm_gr {l : List SV} {vs : List Value} (hg : Gr I G I' G') (hS : LM I (g_h G).length (g_n G) l vs) : LM I' (g_h G').length (g_n G') l vs := lm_up hS hg.2.2.2.1 hg.2.1 hg.1 hg.2.2.1 hg.2.2.2.2
theorem lvm_gr {l : SLV} {vs : LV} (hg : Gr I G I' G') (hS : LVM I (g_h G).length (g_n G) l vs) : LVM I' (g_h G').length (g_n G') l vs := lvm_up hS hg.2.2.2.1 hg.2.1 hg.1 hg.2.2.1 hg.2.2.2.2
theorem sv_gr {s : SV} {v : Value} (hg : Gr I G I' G') (hS : SVm I (g_h G).length (g_n G) s v) : SVm I' (g_h G').length (g_n G') s v := sv_up hS hg.2.2.2.1 hg.2.1 hg.1 hg.2.2.1 hg.2.2.2.2
theorem c_nx (hs : o_nx lv' st' G' = some os) (hp : PN B I G lv' st' G' I' L' S' h') : Cc B I G h os (nx L' S' h') := by
  cases hs
  exact ⟨_, List.mem_cons_self, I', _, rfl, rfl, hp⟩
theorem c_jp (hs : o_jp c lv' st' G' = some os) (hp : PN B I G lv' st' G' I' L' S' h') : Cc B I G h os (jp c L' S' h') := by
  cases hs
  exact ⟨_, List.mem_cons_self, I', _, rfl, rfl, hp⟩
theorem pn_id (hR : RM B I G h) (hK : KN lv') (hL : LVM I (g_h G).length (g_n G) lv' L') (hS : LM I (g_h G).length (g_n G) st' S') : PN B I G lv' st' G I L' S' h := ⟨gr_refl I G, hR, hK, hL, hS⟩
theorem pn_nk {nu' : Nat → Nat} {v : SV} {V : Value} (hR : RM B I G h) (hK : KN lv) (hL : LVM I (g_h G).length (g_n G) lv L) (hS : LM I (g_h G).length (g_n G) r R) (k : NK I.1 G nu' G') (hv : SVm (nu', I.2) (g_h G').length (g_n G') v V) : PN B I G lv (v :: r) G' (nu', I.2) L (V :: R) h :=
  ⟨gr_nk k, rm_nk hR k, hK, lvm_gr (gr_nk k) hL, hv, lm_gr (gr_nk k) hS⟩
theorem tyc_ok {n m : Nat} {s : SV} {v : Value} (h : SVm I n m s v) (hc : s_tyc c s = true) : am_ty c v = true := by
  unfold s_tyc at hc
  by_cases h0 : c = 0
  · rw [decide_eq_true h0, cond_true] at hc
    obtain ⟨x, rfl, -⟩ := sv_int h hc
    rw [h0]; rfl
  · rw [decide_eq_false h0, cond_false] at hc
    by_cases h1 : c = 1
    · rw [decide_eq_true h1, cond_true] at hc
      obtain ⟨x, rfl, -⟩ := sv_long h hc
      rw [h1]; rfl
    · rw [decide_eq_false h1, cond_false] at hc
      by_cases h2 : c = 2
      · rw [decide_eq_true h2, cond_true] at hc
        rcases sv_ref h hc with rfl | ⟨q, rfl⟩ <;> rw [h2] <;> rfl
      · rw [decide_eq_false h2, cond_false] at hc
        exact Bool.noConfusion hc
theorem Y_load_ok (hR : RM B I G h) (hK : KN lv) (hL : LVM I (g_h G).length (g_n G) lv L) (hS : LM I (g_h G).length (g_n G) st S) (hs : Y_load a c lv st G = some os) : Cc B I G h os (s_load a c L S h) := by
  unfold Y_load at hs
  split at hs
  · rename_i v hv
    replace hs := bif_some hs
    obtain ⟨hc, hs⟩ := hs
    obtain ⟨V, e1, e2⟩ := hL a v hv
    unfold s_load
    rw [e1]
    dsimp only
    rw [if_pos (tyc_ok e2 hc)]
    exact c_nx hs (pn_id hR hK hL ⟨e2, hS⟩)
  · cases hs
theorem Y_store_ok (hR : RM B I G h) (hK : KN lv) (hL : LVM I (g_h G).length (g_n G) lv L) (hS : LM I (g_h G).length (g_n G) st S) (hs : Y_store a c lv st G = some os) : Cc B I G h os (s_store a c L S h) := by
  unfold Y_store at hs
  split at hs
  · obtain ⟨V, R, rfl, e1, e2⟩ := lm_cons hS
    replace hs := bif_some hs
    obtain ⟨hc, hs⟩ := hs
    unfold s_store
    dsimp only
    rw [if_pos (tyc_ok e1 hc)]
    exact c_nx hs (pn_id hR (put_kn hK) (lvm_put hK hL e1) e2)
  · cases hs
theorem zi_of {c : Int} (h1 : -2147483648 ≤ c) (h2 : c < 2147483648) : i2n (Int32.ofInt c) = zi c := by
  rw [← zi_i2n, Int32.toInt_ofInt_of_le h1 h2]
theorem k_ok {n m : Nat} {c : Int} (h1 : -2147483648 ≤ c) (h2 : c < 2147483648) : SVm I n m (sk (zi c)) (.int (Int32.ofInt c)) := sv_of_int (sk_IV (zi_of h1 h2))
theorem bin_I {k : Nat} {x y v : SV} (h : y_bin k x y G = some (v, G')) : isI x = true ∧ isI y = true := by
  unfold y_bin at h
  exact and2 (bif_some h).1
theorem Y_iinc_ok (hR : RM B I G h) (hK : KN lv) (hL : LVM I (g_h G).length (g_n G) lv L) (hS : LM I (g_h G).length (g_n G) st S) (h1 : -2147483648 ≤ c) (h2 : c < 2147483648) (hs : Y_iinc a c lv st G = some os) : Cc B I G h os (s_iinc a c L S h) := by
  unfold Y_iinc at hs
  split at hs
  · rename_i v hv
    obtain ⟨V, e1, e2⟩ := hL a v hv
    split at hs
    · rename_i q hq
      obtain ⟨x, rfl, hx⟩ := sv_int e2 (bin_I (v := q.1) (G' := q.2) hq).1
      obtain ⟨nu', z, g1, g2, g3⟩ := y_bin_ok (v := q.1) (G' := q.2) hR.1 hx (sk_IV (zi_of h1 h2)) hq
      have hg := gr_nk g2
      unfold s_iinc
      rw [e1]
      dsimp only
      have : z = x + Int32.ofInt c := (Option.some.inj g1).symm
      subst this
      exact c_nx hs ⟨hg, rm_nk hR g2, put_kn hK, lvm_put hK (lvm_gr hg hL) (sv_of_int g3), lm_gr hg hS⟩
    · cases hs
  · cases hs
theorem Y_ibin_ok (hR : RM B I G h) (hK : KN lv) (hL : LVM I (g_h G).length (g_n G) lv L) (hS : LM I (g_h G).length (g_n G) st S) (hs : Y_ibin a lv st G = some os) : Cc B I G h os (s_ibin a L S h) := by
  unfold Y_ibin at hs
  split at hs
  · split at hs
    · rename_i q hq
      obtain ⟨Y, R, rfl, e1, e2⟩ := lm_cons hS
      obtain ⟨X, R, rfl, e3, e4⟩ := lm_cons e2
      have hi := bin_I (v := q.1) (G' := q.2) hq
      obtain ⟨x, rfl, hx⟩ := sv_int e3 hi.1
      obtain ⟨y, rfl, hy⟩ := sv_int e1 hi.2
      obtain ⟨nu', z, g1, g2, g3⟩ := y_bin_ok (v := q.1) (G' := q.2) hR.1 hx hy hq
      unfold s_ibin
      dsimp only
      rw [g1]
      exact c_nx hs (pn_nk hR hK hL e4 g2 (sv_of_int g3))
    · cases hs
  · cases hs
theorem lbin_L {k : Nat} {x y v : SV} (h : y_lbin k x y G = some (v, G')) : isL x = true ∧ isL y = true := by
  unfold y_lbin at h
  exact and2 (bif_some h).1
theorem Y_lbin_ok (hR : RM B I G h) (hK : KN lv) (hL : LVM I (g_h G).length (g_n G) lv L) (hS : LM I (g_h G).length (g_n G) st S) (hs : Y_lbin a lv st G = some os) : Cc B I G h os (s_lbin a L S h) := by
  unfold Y_lbin at hs
  split at hs
  · split at hs
    · rename_i q hq
      obtain ⟨Y, R, rfl, e1, e2⟩ := lm_cons hS
      obtain ⟨X, R, rfl, e3, e4⟩ := lm_cons e2
      have hi := lbin_L (v := q.1) (G' := q.2) hq
      obtain ⟨x, rfl, hx⟩ := sv_long e3 hi.1
      obtain ⟨y, rfl, hy⟩ := sv_long e1 hi.2
      obtain ⟨nu', z, g1, g2, g3⟩ := y_lbin_ok (v := q.1) (G' := q.2) hR.1 hx hy hq
      unfold s_lbin
      dsimp only
      rw [g1]
      exact c_nx hs (pn_nk hR hK hL e4 g2 (sv_of_long g3))
    · cases hs
  · cases hs
theorem Y_conv_ok (hR : RM B I G h) (hK : KN lv) (hL : LVM I (g_h G).length (g_n G) lv L) (hS : LM I (g_h G).length (g_n G) st S) (hs : Y_conv a lv st G = some os) : Cc B I G h os (s_conv a L S h) := by
  unfold Y_conv at hs
  split at hs
  · rename_i x r
    split at hs
    · rename_i q hq
      obtain ⟨X, R, rfl, e3, e4⟩ := lm_cons hS
      have hv : (∃ Y, X = .int Y ∧ IV I.1 (g_n G) x Y) ∨ (∃ Y, X = .long Y ∧ LV' I.1 (g_n G) x Y) := by
        have h0 := hq
        unfold y_conv at h0
        dsimp only at h0
        cases hb : Nat.beq a 1
        · rw [hb, cond_false] at h0
          exact Or.inl (sv_int e3 (bif_some h0).1)
        · rw [hb, cond_true] at h0
          exact Or.inr (sv_long e3 (bif_some h0).1)
      obtain ⟨nu', U, g1, g2, g3⟩ := y_conv_ok (v := q.1) (G' := q.2) hR.1 hv hq
      unfold s_conv
      dsimp only
      rw [g1]
      refine c_nx hs (pn_nk hR hK hL e4 g2 ?_)
      rcases g3 with ⟨Z, rfl, hZ⟩ | ⟨Z, rfl, hZ⟩
      · exact sv_of_int hZ
      · exact sv_of_long hZ
    · cases hs
  · cases hs
theorem c_br {l : List (Bool × SG)} {q : Bool × SG} {x : Option ACT} (hq : q ∈ l) (hos : some (o_br c lv' st' l) = some os) (hp : PN B I G lv' st' q.2 I' L' S' h') (hx : x = if q.1 then jp c L' S' h' else nx L' S' h') : Cc B I G h os x := by
  rw [← Option.some.inj hos]
  obtain ⟨b, g⟩ := q
  cases b
  · exact ⟨.inl (none, lv', st', g), List.mem_map.mpr ⟨_, hq, rfl⟩, I', .inl (none, L', S', h'), hx, rfl, hp⟩
  · exact ⟨.inl (some c.toNat, lv', st', g), List.mem_map.mpr ⟨_, hq, rfl⟩, I', .inl (some c.toNat, L', S', h'), hx, rfl, hp⟩
theorem cond_I {k : Nat} {x y : SV} {l : List (Bool × SG)} (h : y_cond k x y G = some l) : isI x = true ∧ isI y = true := by
  unfold y_cond at h
  exact and2 (bif_some h).1
theorem pn_k (hR : RM B I G h) (hK : KN lv) (hL : LVM I (g_h G).length (g_n G) lv L) (hS : LM I (g_h G).length (g_n G) r R) (k : NK I.1 G I.1 G') : PN B I G lv r G' I L R h :=
  ⟨gr_nk k, rm_nk' hR k, hK, lvm_gr (I' := I) (gr_nk k) hL, lm_gr (I' := I) (gr_nk k) hS⟩
theorem Y_icmp_ok (hR : RM B I G h) (hK : KN lv) (hL : LVM I (g_h G).length (g_n G) lv L) (hS : LM I (g_h G).length (g_n G) st S) (hs : Y_icmp a c lv st G = some os) : Cc B I G h os (s_icmp a c L S h) := by
  unfold Y_icmp at hs
  split at hs
  · split at hs
    · rename_i l hl
      obtain ⟨Y, R, rfl, e1, e2⟩ := lm_cons hS
      obtain ⟨X, R, rfl, e3, e4⟩ := lm_cons e2
      have hi := cond_I hl
      obtain ⟨x, rfl, hx⟩ := sv_int e3 hi.1
      obtain ⟨y, rfl, hy⟩ := sv_int e1 hi.2
      obtain ⟨q, g1, g2, g3⟩ := y_cond_ok hR.1 hx hy hl
      refine c_br g1 hs (pn_k hR hK hL e4 g3) ?_
      unfold s_icmp
      dsimp only
      rw [g2]
      cases q.1 <;> rfl
    · cases hs
  · cases hs
theorem Y_if_ok (hR : RM B I G h) (hK : KN lv) (hL : LVM I (g_h G).length (g_n G) lv L) (hS : LM I (g_h G).length (g_n G) st S) (hs : Y_if a c lv st G = some os) : Cc B I G h os (s_if a c L S h) := by
  unfold Y_if at hs
  split at hs
  · split at hs
    · rename_i l hl
      obtain ⟨X, R, rfl, e3, e4⟩ := lm_cons hS
      have hi := cond_I hl
      obtain ⟨x, rfl, hx⟩ := sv_int e3 hi.1
      obtain ⟨q, g1, g2, g3⟩ := y_cond_ok (Y := 0) hR.1 hx (sk_IV c_0) hl
      refine c_br g1 hs (pn_k hR hK hL e4 g3) ?_
      unfold s_if
      dsimp only
      rw [g2]
      cases q.1 <;> rfl
    · cases hs
  · cases hs
theorem lc1_mem {x y : SV} {q : Bool × SG} : ∀ {l : List (Bool × SG)}, q ∈ l → ∀ o, o ∈ (bif q.1 then [.inl (none, lv, sk 2147483647 :: r, q.2)] else lc_2 lv r (y_lt q.2 y x true false) : List SOUT) → o ∈ lc_1 x y lv r l := by
  intro l
  induction l with
  | nil => intro h; cases h
  | cons p t ih =>
    intro hq o ho
    unfold lc_1
    rcases List.mem_cons.mp hq with e | hq
    · rw [e] at ho; exact List.mem_append_left _ ho
    · exact List.mem_append_right _ (ih hq o ho)
theorem Y_lcmp_ok (hR : RM B I G h) (hK : KN lv) (hL : LVM I (g_h G).length (g_n G) lv L) (hS : LM I (g_h G).length (g_n G) st S) (hs : Y_lcmp lv st G = some os) : Cc B I G h os (s_lcmp L S h) := by
  unfold Y_lcmp at hs
  split at hs
  · rename_i y x r
    obtain ⟨Y, R, rfl, e1, e2⟩ := lm_cons hS
    obtain ⟨X, R, rfl, e3, e4⟩ := lm_cons e2
    replace hs := bif_some hs
    obtain ⟨hi, hs⟩ := hs
    obtain ⟨f1, f2⟩ := and2 hi
    obtain ⟨u, rfl, hu1, hu2, hu3⟩ := sv_long e3 f1
    obtain ⟨w, rfl, hw1, hw2, hw3⟩ := sv_long e1 f2
    rw [← Option.some.inj hs]
    obtain ⟨q, q1, q2, q3⟩ := y_lt_ok (x := x) (y := y) true false hR.1 hu2 hw2
    have hlt : u < w ↔ sval I.1 x < sval I.1 y := by rw [l_lt, hu3, hw3]
    have hgt : w < u ↔ sval I.1 y < sval I.1 x := by rw [l_lt, hu3, hw3]
    have heq : u = w ↔ sval I.1 x = sval I.1 y := ⟨fun e => by rw [← hu3, ← hw3, e], fun e => l_inj (by rw [hu3, hw3, e])⟩
    unfold s_lcmp
    dsimp only
    by_cases c1 : sval I.1 x < sval I.1 y
    · rw [if_pos c1] at q2
      refine ⟨.inl (none, lv, sk 2147483647 :: r, q.2), lc1_mem q1 _ (by rw [q2]; exact List.mem_cons_self), I, _, rfl, rfl, ?_⟩
      have e5 : lg_cmp u w = -1 := by
        unfold lg_cmp
        rw [if_neg (fun e => by have := hgt.mp e; omega), if_neg (fun e => by have := heq.mp e; omega)]
      rw [e5]
      have p := pn_k hR hK hL e4 q3
      exact ⟨p.1, p.2.1, p.2.2.1, p.2.2.2.1, sv_of_int (sk_IV c_m1), p.2.2.2.2⟩
    · rw [if_neg c1] at q2
      obtain ⟨q', r1, r2, r3⟩ := y_lt_ok (x := y) (y := x) true false q3.1 (okn_nk hw2 q3) (okn_nk hu2 q3)
      have k2 := nk_trans q3 r3
      have p := pn_k hR hK hL e4 k2
      refine ⟨.inl (none, lv, sk (bif q'.1 then 2147483649 else 2147483648) :: r, q'.2), lc1_mem q1 _ (by rw [q2, cond_false]; exact List.mem_map.mpr ⟨q', r1, rfl⟩), I, _, rfl, rfl, p.1, p.2.1, p.2.2.1, p.2.2.2.1, ?_, p.2.2.2.2⟩
      by_cases c2 : sval I.1 y < sval I.1 x
      · rw [r2, if_pos c2, cond_true]
        have e5 : lg_cmp u w = 1 := by
          unfold lg_cmp
          rw [if_pos (hgt.mpr c2)]
        rw [e5]
        exact sv_of_int (sk_IV c_1)
      · rw [r2, if_neg c2, cond_false]
        have e5 : lg_cmp u w = 0 := by
          unfold lg_cmp
          rw [if_neg (fun e => c2 (hgt.mp e)), if_pos (heq.mpr (by omega))]
        rw [e5]
        exact sv_of_int (sk_IV c_0)
  · cases hs
end
