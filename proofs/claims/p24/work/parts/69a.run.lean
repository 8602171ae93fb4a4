/-! ===== runs of the plain machine, an instruction at a time ===== -/
theorem run_more {σ : Nat → Nat} {r : Option Value × AH} (d : Nat) : ∀ (f M : Nat) (cd : List (Nat × AI)) (L : LV) (S : List Value) (h : AH), run σ f M cd L S h = some r → run σ (f + d) M cd L S h = some r := by
  suffices H : ∀ (f M : Nat) (cd : List (Nat × AI)) (L : LV) (S : List Value) (h : AH) (r : Option Value × AH), run σ f M cd L S h = some r → run σ (f + d) M cd L S h = some r from fun f M cd L S h => H f M cd L S h r
  intro f
  induction f with
  | zero => intro M cd L S h r hs; cases hs
  | succ f ih =>
    intro M cd L S h r hs
    rw [show f + 1 + d = f + d + 1 by omega]
    cases cd with
    | nil => cases hs
    | cons x tl =>
      obtain ⟨pc, ai⟩ := x
      rw [run] at hs ⊢
      split at hs
      · cases hs
      · exact ih _ _ _ _ _ _ hs
      · exact ih _ _ _ _ _ _ hs
      · split at hs
        · cases hs
        · rename_i v h' hv
          rw [ih _ _ _ _ _ _ hv]
          exact ih _ _ _ _ _ _ hs
      · exact hs
/-- it ends, and the end is so -/
noncomputable def Rt (σ : Nat → Nat) (M : Nat) (cd : List (Nat × AI)) (L : LV) (S : List Value) (h : AH) (Q : Option Value → AH → Prop) : Prop := ∃ f v h', run σ f M cd L S h = some (v, h') ∧ Q v h'
section
variable {σ : Nat → Nat} {M M' pc t : Nat} {ai : AI} {tl cd : List (Nat × AI)} {L L' : LV} {S S' : List Value} {h h' : AH} {Q Q' : Option Value → AH → Prop}
theorem rt_mono (hr : Rt σ M cd L S h Q) (hq : ∀ v h', Q v h' → Q' v h') : Rt σ M cd L S h Q' := by
  obtain ⟨f, v, h', e, q⟩ := hr
  exact ⟨f, v, h', e, hq _ _ q⟩
theorem rt_nx (h1 : step1 σ ai L S h = some (.inl (none, L', S', h'))) (h2 : Rt σ M tl L' S' h' Q) : Rt σ M ((pc, ai) :: tl) L S h Q := by
  obtain ⟨f, v, h2', e, q⟩ := h2
  refine ⟨f + 1, v, h2', ?_, q⟩
  rw [run, h1]
  exact e
theorem rt_jp (h1 : step1 σ ai L S h = some (.inl (some t, L', S', h'))) (h2 : Rt σ M (jump M t) L' S' h' Q) : Rt σ M ((pc, ai) :: tl) L S h Q := by
  obtain ⟨f, v, h2', e, q⟩ := h2
  refine ⟨f + 1, v, h2', ?_, q⟩
  rw [run, h1]
  exact e
theorem rt_call {As R : List Value} (h1 : step1 σ ai L S h = some (.inr (.inl (M', As, R)))) (h2 : Rt σ M' (codeOf M') (am_args 0 As) [] h (fun v h' => Rt σ M tl L (v.toList ++ R) h' Q)) : Rt σ M ((pc, ai) :: tl) L S h Q := by
  obtain ⟨f1, v1, g1, e1, f2, v2, g2, e2, q⟩ := h2
  refine ⟨f1 + f2 + 1, v2, g2, ?_, q⟩
  rw [run, h1]
  dsimp only
  rw [run_more f2 _ _ _ _ _ _ e1]
  dsimp only
  have := run_more f1 _ _ _ _ _ _ e2
  rw [Nat.add_comm f2 f1] at this
  exact this
theorem rt_ret {v : Option Value} (h1 : step1 σ ai L S h = some (.inr (.inr v))) (h2 : Q v h) : Rt σ M ((pc, ai) :: tl) L S h Q := by
  refine ⟨1, v, h, ?_, h2⟩
  rw [run, h1]
end
/-! a method's code is in order -/
noncomputable def incr (l : List (Nat × AI)) : Bool := match l with
  | [] => true
  | x :: r => (match r with
    | [] => true
    | y :: _ => Nat.ble (x.1 + 1) y.1) && incr r
theorem incr_tl {x : Nat × AI} {r : List (Nat × AI)} (h : incr (x :: r) = true) : incr r = true := by
  rw [incr.eq_def] at h
  exact (and2 h).2
theorem incr_lt {x : Nat × AI} : ∀ {r : List (Nat × AI)}, incr (x :: r) = true → ∀ y, y ∈ r → x.1 < y.1 := by
  intro r
  induction r generalizing x with
  | nil => intro _ y hy; cases hy
  | cons z r ih =>
    intro h y hy
    have h1 := h
    rw [incr.eq_def] at h1
    have h2 := blet (and2 h1).1
    rcases List.mem_cons.mp hy with rfl | hy
    · omega
    · have := ih (incr_tl h) y hy
      omega
theorem jmp_suf {pc : Nat} {ai : AI} {tl : List (Nat × AI)} : ∀ {a : List (Nat × AI)}, incr (a ++ (pc, ai) :: tl) = true → jmp pc (a ++ (pc, ai) :: tl) = (pc, ai) :: tl := by
  intro a
  induction a with
  | nil =>
    intro _
    show jmp pc ((pc, ai) :: tl) = _
    rw [jmp, Nat.beq_refl, cond_true]
  | cons x a ih =>
    intro h
    have h1 := incr_lt (r := a ++ (pc, ai) :: tl) h (pc, ai) (List.mem_append_right _ List.mem_cons_self)
    show jmp pc (x :: (a ++ (pc, ai) :: tl)) = _
    have e : Nat.beq x.1 pc = false := by
      cases e : Nat.beq x.1 pc
      · rfl
      · have := beqt e
        dsimp only at h1
        omega
    rw [jmp, e, cond_false]
    exact ih (incr_tl (r := a ++ (pc, ai) :: tl) h)
theorem jmp_eq (t : Nat) (l : List (Nat × AI)) : jmp t l = l.dropWhile (fun x => !(x.1 == t)) := by
  induction l with
  | nil => rfl
  | cons x r ih =>
    rw [jmp, List.dropWhile_cons, nbeq]
    cases Nat.beq x.1 t
    · exact ih
    · rfl
theorem jump_jmp (M t : Nat) : jump M t = jmp t (codeOf M) := (jmp_eq t _).symm
theorem jmp_suffix (t : Nat) (l : List (Nat × AI)) : ∃ a, l = a ++ jmp t l := by
  induction l with
  | nil => exact ⟨[], rfl⟩
  | cons x r ih =>
    rw [jmp]
    cases Nat.beq x.1 t
    · obtain ⟨a, ha⟩ := ih
      refine ⟨x :: a, ?_⟩
      rw [cond_false]
      show x :: r = x :: (a ++ jmp t r)
      rw [← ha]
    · exact ⟨[], rfl⟩
noncomputable def aiOK (ai : AI) : Bool := bif Nat.beq ai.1 0 || Nat.beq ai.1 3 then decide (-2147483648 ≤ ai.2.2) && decide (ai.2.2 < 2147483648) else bif Nat.beq ai.1 14 then decide (-9223372036854775808 ≤ ai.2.2) && decide (ai.2.2 < 9223372036854775808) else bif Nat.ble 24 ai.1 && Nat.ble ai.1 26 then Nat.ble ai.2.1 29 else bif Nat.beq ai.1 27 then Nat.ble ai.2.1 5 else bif Nat.beq ai.1 32 then Nat.ble ai.2.1 2 else true
theorem ck_ai : codes.all (fun x => x.all (fun y => incr y && y.all (fun z => aiOK z.2))) = true := by decide +kernel
theorem code_in (M : Nat) : incr (codeOf M) = true ∧ ∀ x, x ∈ codeOf M → aiOK x.2 = true := by
  unfold codeOf
  by_cases h1 : M / 16 < codes.length
  · rw [List.getD_eq_getElem?_getD (l := codes), List.getElem?_eq_getElem h1, Option.getD_some]
    by_cases h2 : M % 16 < (codes[M / 16]).length
    · rw [List.getD_eq_getElem?_getD, List.getElem?_eq_getElem h2, Option.getD_some]
      obtain ⟨k1, k2⟩ := and2 (List.all_eq_true.mp (List.all_eq_true.mp ck_ai _ (List.getElem_mem h1)) _ (List.getElem_mem h2))
      exact ⟨k1, fun x hx => List.all_eq_true.mp k2 x hx⟩
    · rw [List.getD_eq_getElem?_getD, List.getElem?_eq_none (by omega)]
      exact ⟨rfl, fun x hx => by cases hx⟩
  · have e : codes.getD (M / 16) [] = [] := by
      rw [List.getD_eq_getElem?_getD, List.getElem?_eq_none (by omega)]
      rfl
    rw [e]
    exact ⟨rfl, fun x hx => by cases hx⟩
theorem zl_of {c : Int} (h1 : -9223372036854775808 ≤ c) (h2 : c < 9223372036854775808) : l2n (Int64.ofInt c) = zl c := by
  have h := l2n_z (Int64.ofInt c)
  rw [Int64.toInt_ofInt_of_le h1 h2] at h
  unfold zl
  split
  · rename_i n
    have : (Int.ofNat n : Int) = (n : Int) := rfl
    omega
  · rename_i n
    have : Int.negSucc n = -((n : Int) + 1) := by omega
    omega
/-! ===== a step of the symbolic machine ===== -/
section
variable {B : BS} {I I' : IN} {n m : Nat} {G G' : SG} {h h' : AH} {os : List SOUT} {lv lv' : SLV} {st st' r : List SV} {L L' : LV} {S S' R : List Value} {c : Int} {a k kd i f : Nat}
theorem stk4 (L : LV) (V : Value) (R : List Value) (h : AH) : s_stk 4 L (V :: R) h = if V.category = 2 then nx L R h else none := rfl
theorem Y_stk_ok' (hR : RM B I G h) (hK : KN lv) (hL : LVM I (g_h G).length (g_n G) lv L) (hS : LM I (g_h G).length (g_n G) st S) (hs : Y_stk a lv st G = some os) : Cc B I G h os (s_stk a L S h) := by
  by_cases h4 : a = 4
  · subst h4
    unfold Y_stk at hs
    split at hs
    · cases hs
    · rename_i v r
      obtain ⟨V, R2, rfl, g1, g2⟩ := lm_cons hS
      replace hs : (bif isL v then o_nx lv r G else none) = some os := hs
      replace hs := bif_some hs
      obtain ⟨f1, hs⟩ := hs
      rw [stk4, if_pos ((cat_L g1).mpr f1)]
      exact c_nx hs (pn_id hR hK hL g2)
  · exact Y_stk_ok h4 hR hK hL hS hs
theorem ystep_ok {σ : Nat → Nat} {ai : AI} (hB : ∀ a i, ¬ B.2 a i) (hσ : ∀ i, i < 6 → B.1.1 (stc i) 0 = some (σ i)) (hok : aiOK ai = true) (hR : RM B I G h) (hK : KN lv) (hL : LVM I (g_h G).length (g_n G) lv L) (hS : LM I (g_h G).length (g_n G) st S) (hs : ystep ai lv st G = some os) : Cc B I G h os (step1 σ ai L S h) := by
  obtain ⟨o, a, c⟩ := ai
  by_cases ho : o ≤ 32
  · have hc : o = 0 ∨ o = 1 ∨ o = 2 ∨ o = 3 ∨ o = 4 ∨ o = 5 ∨ o = 6 ∨ o = 7 ∨ o = 8 ∨ o = 9 ∨ o = 10 ∨ o = 11 ∨ o = 12 ∨ o = 13 ∨ o = 14 ∨ o = 15 ∨ o = 16 ∨ o = 17 ∨ o = 18 ∨ o = 19 ∨ o = 20 ∨ o = 21 ∨ o = 22 ∨ o = 23 ∨ o = 24 ∨ o = 25 ∨ o = 26 ∨ o = 27 ∨ o = 28 ∨ o = 29 ∨ o = 30 ∨ o = 31 ∨ o = 32 := by omega
    rcases hc with rfl | rfl | rfl | rfl | rfl | rfl | rfl | rfl | rfl | rfl | rfl | rfl | rfl | rfl | rfl | rfl | rfl | rfl | rfl | rfl | rfl | rfl | rfl | rfl | rfl | rfl | rfl | rfl | rfl | rfl | rfl | rfl | rfl
    · exact c_nx hs (pn_id hR hK hL ⟨k_ok (of_decide_eq_true (and2 hok).1) (of_decide_eq_true (and2 hok).2), hS⟩)
    · exact Y_load_ok hR hK hL hS hs
    · exact Y_store_ok hR hK hL hS hs
    · exact Y_iinc_ok hR hK hL hS (of_decide_eq_true (and2 hok).1) (of_decide_eq_true (and2 hok).2) hs
    · exact Y_ibin_ok hR hK hL hS hs
    · exact Y_icmp_ok hR hK hL hS hs
    · exact Y_if_ok hR hK hL hS hs
    · exact c_jp hs (pn_id hR hK hL hS)
    · exact Y_get_ok hR hK hL hS hs
    · exact Y_put_ok hB hR hK hL hS hs
    · exact Y_ald_ok hR hK hL hS hs
    · exact Y_ast_ok hB hR hK hL hS hs
    · exact Y_call_ok hR hS hs
    · exact Y_ret_ok hR hS hs
    · exact c_nx hs (pn_id hR hK hL ⟨Or.inr (Or.inl ⟨rfl, fun hq => Bool.noConfusion hq, _, rfl, zl_of (of_decide_eq_true (and2 hok).1) (of_decide_eq_true (and2 hok).2)⟩), hS⟩)
    · exact Y_lbin_ok hR hK hL hS hs
    · exact Y_conv_ok hR hK hL hS hs
    · exact Y_lcmp_ok hR hK hL hS hs
    · exact Y_stk_ok' hR hK hL hS hs
    · exact c_nx hs (pn_id hR hK hL ⟨Or.inr (Or.inr (Or.inl ⟨rfl, rfl⟩)), hS⟩)
    · exact Y_null_ok hR hK hL hS hs
    · exact Y_acmp_ok hR hK hL hS hs
    · exact Y_sw_ok hR hK hL hS hs
    · exact Y_len_ok hR hK hL hS hs
    · have b : a ≤ 29 := blet hok
      exact Y_newa_ok (show a < 30 by omega) hR hK hL hS hs
    · have b : a ≤ 29 := blet hok
      exact Y_newa_ok (show a < 30 by omega) hR hK hL hS hs
    · have b : a ≤ 29 := blet hok
      exact new_ok (show a < 30 by omega) hR hK hL hS hs
    · have b : a ≤ 5 := blet hok
      exact stat_okk hσ (show a < 6 by omega) hR hK hL hS hs
    · exact Y_cast_ok hR hK hL hS hs
    · exact Y_acp_ok hR hK hL hS hs
    · exact Y_oinit_ok hR hK hL hS hs
    · exact Y_clone_ok hR hK hL hS hs
    · have b : a ≤ 2 := blet hok
      exact Y_math_ok (show a < 3 by omega) hR hK hL hS hs
  · unfold ystep at hs
    have e : Nat.ble o 32 = false := by
      cases hq : Nat.ble o 32
      · rfl
      · exact absurd (blet hq) ho
    rw [e, cond_false] at hs
    cases hs
end
