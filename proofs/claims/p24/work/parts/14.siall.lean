theorem s_call_no {i : Nat} {st : List Value} {h : AH} {z : Option Nat × LV × List Value × AH} (h9 : s_call i st h = some (.inl z)) : False := by
  unfold s_call at h9
  dsimp only at h9
  split at h9
  · split at h9
    · split at h9
      · split at h9 <;> cases h9
      · cases h9
    · split at h9
      · split at h9
        · split at h9
          · split at h9 <;> cases h9
          · cases h9
        · cases h9
      · cases h9
    · cases h9
  · cases h9
theorem s_ret_no {a : Nat} {st : List Value} {z : Option Nat × LV × List Value × AH} (h9 : s_ret a st = some (.inl z)) : False := by
  unfold s_ret at h9
  split at h9 <;> first | (cases h9; done) | (split at h9 <;> cases h9)
/-! ===== the machine follows the plain machine: any own step of a method ===== -/
section SIALL
variable {p : Program} {l : Launch} {e : Env} {R : Room} {s : State} {m : MethodId} {args : Array Value} {below : List Frame} {meth : Method} {c : Code} {Q : State → Prop} {base c0 s0 M pc nxp : Nat} {D : va_G} {σ : Nat → Nat} {lv lv' : LV} {st st' : List Value} {h h' : AH} {j : Option Nat} {ai : AI}
theorem tgt_spec {pc a op : Nat} {off : Int} {ai : AI} (h : tgt pc off a op = some ai) : 0 ≤ (pc : Int) + off ∧ ai = (op, a, (pc : Int) + off) := by
  unfold tgt at h
  split at h
  · rename_i h1; cases h; exact ⟨h1, rfl⟩
  · cases h
set_option maxHeartbeats 4000000 in
theorem si_all (C : Ctx p s m args meth c base D σ M) (hL : Lk M pc nxp ai) (hst : step1 σ ai lv st h = some (.inl (j, lv', st', h'))) (hF : 29 ≤ ai.1 → 1 ≤ R.frames ∧ 30 ≤ R.locals) (hrm : h'.2.1 - c0 ≤ R.cells ∧ h'.2.2 - s0 ≤ R.slots) (hc : c0 ≤ h.2.1 ∧ s0 ≤ h.2.2) (kk : KK p l e R s m args below meth c Q base D M c0 s0 (j.getD nxp) lv' st' h') : KK p l e R s m args below meth c Q base D M c0 s0 pc lv st h := by
  have hx := C.1
  have hb := C.2.1
  have ho := C.2.2.2.1
  have hts := C.2.2.2.2.1
  rcases hL with ⟨i, hd, hn, ht⟩ | ⟨hop, hw⟩ | hop
  · subst hn
    unfold tr at ht
    split at ht
    · cases ht; exact si_iconst hx hb hd hst kk
    · split at ht
      · rename_i hv; cases ht; exact si_bipush hx hb hd hv hst kk
      · cases ht
    · split at ht
      · rename_i hv; cases ht; exact si_sipush hx hb hd hv hst kk
      · cases ht
    · split at ht
      · rename_i v hv; cases ht; obtain ⟨q, hm⟩ := lki_mem hv; exact si_ldc hx hb hd ho (hts _ (gt_of ck_cit (List.mem_map.mpr ⟨_, hm, rfl⟩) rfl)) hst kk
      · obtain ⟨f, hf, e1⟩ := Option.map_eq_some_iff.mp ht; cases e1; exact si_ldk C hd hf hst kk
    · obtain ⟨v, hv, e1⟩ := Option.map_eq_some_iff.mp ht; cases e1; obtain ⟨q, hm⟩ := lki_mem hv; exact si_ldc_w hx hb hd ho (hts _ (gt_of ck_cit (List.mem_map.mpr ⟨_, hm, rfl⟩) rfl)) hst kk
    · cases ht; exact si_lconst hx hb hd hst kk
    · obtain ⟨v, hv, e1⟩ := Option.map_eq_some_iff.mp ht; cases e1; obtain ⟨q, hm⟩ := lki_mem hv; exact si_ldc2 hx hb hd ho (hts _ (gt_of ck_clt (List.mem_map.mpr ⟨_, hm, rfl⟩) rfl)) hst kk
    · cases ht; exact si_iload_n hx hb hd hst kk
    · cases ht; exact si_iload hx hb hd hst kk
    · cases ht; exact si_lload_n hx hb hd hst kk
    · cases ht; exact si_lload hx hb hd hst kk
    · cases ht; exact si_aload_n hx hb hd hst kk
    · cases ht; exact si_aload hx hb hd hst kk
    · split at ht
      · rename_i hk; cases ht; exact si_istore_n hx hb hd hk hst kk
      · cases ht
    · split at ht
      · rename_i hk; cases ht; exact si_istore hx hb hd hk hst kk
      · cases ht
    · split at ht
      · rename_i hk; cases ht; exact si_lstore_n hx hb hd hk hst kk
      · cases ht
    · split at ht
      · rename_i hk; cases ht; exact si_lstore hx hb hd hk hst kk
      · cases ht
    · split at ht
      · rename_i hk; cases ht; exact si_astore_n hx hb hd hk hst kk
      · cases ht
    · split at ht
      · rename_i hk; cases ht; exact si_astore hx hb hd hk hst kk
      · cases ht
    · split at ht
      · rename_i hk; cases ht; exact si_iinc hx hb hd hk hst kk
      · cases ht
    · cases ht; exact si_iadd hx hb hd hst kk
    · cases ht; exact si_isub hx hb hd hst kk
    · cases ht; exact si_imul hx hb hd hst kk
    · cases ht; exact si_idiv hx hb hd hst kk
    · cases ht; exact si_irem hx hb hd hst kk
    · cases ht; exact si_iand hx hb hd hst kk
    · cases ht; exact si_ior hx hb hd hst kk
    · cases ht; exact si_ixor hx hb hd hst kk
    · cases ht; exact si_ishl hx hb hd hst kk
    · cases ht; exact si_ishr hx hb hd hst kk
    · rename_i cn off
      obtain ⟨h1, e1⟩ := tgt_spec ht
      subst e1
      cases cn
      · exact si_icmp_eq hx hb hd h1 hst kk
      · exact si_icmp_ne hx hb hd h1 hst kk
      · exact si_icmp_lt hx hb hd h1 hst kk
      · exact si_icmp_ge hx hb hd h1 hst kk
      · exact si_icmp_gt hx hb hd h1 hst kk
      · exact si_icmp_le hx hb hd h1 hst kk
    · rename_i cn off
      obtain ⟨h1, e1⟩ := tgt_spec ht
      subst e1
      cases cn
      · exact si_if_eq hx hb hd h1 hst kk
      · exact si_if_ne hx hb hd h1 hst kk
      · exact si_if_lt hx hb hd h1 hst kk
      · exact si_if_ge hx hb hd h1 hst kk
      · exact si_if_gt hx hb hd h1 hst kk
      · exact si_if_le hx hb hd h1 hst kk
    · obtain ⟨h1, e1⟩ := tgt_spec ht; subst e1; exact si_goto hx hb hd h1 hst kk
    · obtain ⟨f, hf, e1⟩ := Option.map_eq_some_iff.mp ht; cases e1; exact si_get C hd hf hst kk
    · split at ht
      · rename_i f hf
        split at ht
        · rename_i hfin; cases ht; exact si_put C hd hf hfin hst kk
        · cases ht
      · cases ht
    · cases ht; exact si_ald C 0 _ (Or.inl ⟨rfl, rfl⟩) hd hst kk
    · cases ht; exact si_ald C 1 _ (Or.inr (Or.inl ⟨rfl, rfl⟩)) hd hst kk
    · cases ht; exact si_ald C 2 _ (Or.inr (Or.inr (Or.inl ⟨rfl, rfl⟩))) hd hst kk
    · cases ht; exact si_ald C 3 _ (Or.inr (Or.inr (Or.inr (Or.inl ⟨rfl, rfl⟩)))) hd hst kk
    · cases ht; exact si_ald C 4 _ (Or.inr (Or.inr (Or.inr (Or.inr ⟨rfl, rfl⟩)))) hd hst kk
    · cases ht; exact si_ast C 0 _ (Or.inl ⟨rfl, rfl⟩) hd hst kk
    · cases ht; exact si_ast C 1 _ (Or.inr (Or.inl ⟨rfl, rfl⟩)) hd hst kk
    · cases ht; exact si_ast C 2 _ (Or.inr (Or.inr ⟨rfl, rfl⟩)) hd hst kk
    · cases ht; exact si_aast C hd hst kk
    · split at ht
      · cases ht; exact absurd hst (by intro h9; exact s_call_no h9)
      · split at ht
        · cases ht; exact absurd hst (by intro h9; exact s_call_no h9)
        · split at ht
          · rename_i a9 hlk; cases ht; exact si_math C hd hlk hst (hF (Nat.le_of_ble_eq_true rfl)) hrm kk
          · split at ht
            · rename_i f hf; cases ht; exact si_acp C hd hf hst (hF (Nat.le_of_ble_eq_true rfl)) kk
            · obtain ⟨f, hf, e1⟩ := Option.map_eq_some_iff.mp ht; cases e1; exact si_acr C hd hf hst (hF (Nat.le_of_ble_eq_true rfl)) kk
    · split at ht
      · cases ht; exact absurd hst (by intro h9; exact s_call_no h9)
      · split at ht
        · cases ht; exact absurd hst (by intro h9; exact s_call_no h9)
        · obtain ⟨f, hf, e1⟩ := Option.map_eq_some_iff.mp ht; cases e1; exact si_oinit C hd hf hst (hF (Nat.le_of_ble_eq_true rfl)) kk
    · split at ht
      · cases ht; exact absurd hst (by intro h9; exact s_call_no h9)
      · split at ht
        · rename_i f hf; cases ht; exact si_clone C hd hf hst (hF (Nat.le_of_ble_eq_true rfl)) hrm hc kk
        · obtain ⟨f, hf, e1⟩ := Option.map_eq_some_iff.mp ht; cases e1; exact si_gcl C hd hf hst (hF (Nat.le_of_ble_eq_true rfl)) kk
    · split at ht
      · cases ht; exact absurd hst (by intro h9; exact s_ret_no h9)
      · cases ht
    · split at ht
      · cases ht; exact absurd hst (by intro h9; exact s_ret_no h9)
      · split at ht
        · cases ht; exact absurd hst (by intro h9; exact s_ret_no h9)
        · cases ht
    · split at ht
      · cases ht; exact absurd hst (by intro h9; exact s_ret_no h9)
      · cases ht
    · split at ht
      · cases ht; exact absurd hst (by intro h9; exact s_ret_no h9)
      · cases ht; exact absurd hst (by intro h9; exact s_ret_no h9)
      · cases ht
    · cases ht; exact si_ladd hx hb hd hst kk
    · cases ht; exact si_lsub hx hb hd hst kk
    · cases ht; exact si_lmul hx hb hd hst kk
    · cases ht; exact si_ldiv hx hb hd hst kk
    · cases ht; exact si_i2l hx hb hd hst kk
    · cases ht; exact si_l2i hx hb hd hst kk
    · cases ht; exact si_i2b hx hb hd hst kk
    · cases ht; exact si_i2s hx hb hd hst kk
    · cases ht; exact si_ineg hx hb hd hst kk
    · cases ht; exact si_lcmp hx hb hd hst kk
    · cases ht; exact si_dup hx hb hd hst kk
    · cases ht; exact si_pop hx hb hd hst kk
    · cases ht; exact si_pop2 hx hb hd hst kk
    · cases ht; exact si_dup_x1 hx hb hd hst kk
    · cases ht; exact si_dup2 hx hb hd hst kk
    · cases ht; exact si_null hx hb hd hst kk
    · obtain ⟨h1, e1⟩ := tgt_spec ht; subst e1; exact si_ifnull hx hb hd h1 hst kk
    · obtain ⟨h1, e1⟩ := tgt_spec ht; subst e1; exact si_ifnonnull hx hb hd h1 hst kk
    · rename_i cn off
      obtain ⟨h1, e1⟩ := tgt_spec ht
      subst e1
      cases cn
      · exact si_acmp_eq hx hb hd h1 hst kk
      · exact si_acmp_ne hx hb hd h1 hst kk
    · cases ht; exact si_len C hd hst kk
    · split at ht
      · cases ht; exact si_newa C 20 _ (Or.inl ⟨rfl, rfl⟩) hd hst hrm hc kk
      · cases ht; exact si_newa C 21 _ (Or.inr (Or.inl ⟨rfl, rfl⟩)) hd hst hrm hc kk
      · cases ht; exact si_newa C 22 _ (Or.inr (Or.inr ⟨rfl, rfl⟩)) hd hst hrm hc kk
      · cases ht
    · obtain ⟨f, hf, e1⟩ := Option.map_eq_some_iff.mp ht; cases e1; exact si_anew C hd hf hst hrm hc kk
    · obtain ⟨f, hf, e1⟩ := Option.map_eq_some_iff.mp ht; cases e1; exact si_new C hd hf hst hrm hc kk
    · obtain ⟨f, hf, e1⟩ := Option.map_eq_some_iff.mp ht; cases e1; exact si_gets C hd hf hst kk
    · split at ht
      · rename_i k9 hlk; cases ht; exact si_cast C hd hlk hst kk
      · obtain ⟨f, hf, e1⟩ := Option.map_eq_some_iff.mp ht; cases e1; exact si_castI C hd hf hst kk
    · cases ht
  · obtain ⟨o1, a1, c1⟩ := ai
    dsimp only at hop hw
    subst hop
    exact si_sw C hw hst kk
  · obtain ⟨o1, a1, c1⟩ := ai
    dsimp only at hop
    subst hop
    cases hst
end SIALL
