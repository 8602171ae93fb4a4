/-! ===== a step; a run ===== -/
noncomputable def qe_aiOK (ai : AI) : Bool := bif Nat.beq ai.1 0 || Nat.beq ai.1 3 then decide (-2147483648 ≤ ai.2.2) && decide (ai.2.2 < 2147483648) else bif Nat.beq ai.1 14 then decide (-9223372036854775808 ≤ ai.2.2) && decide (ai.2.2 < 9223372036854775808) else bif Nat.beq ai.1 27 then Nat.ble ai.2.1 5 else bif Nat.beq ai.1 28 then Nat.ble ai.2.1 30 else true
theorem qe_ck_ai : codes.all (fun x => x.all (fun y => y.all (fun z => qe_aiOK z.2))) = true := by decide +kernel
theorem qe_code_ai {M : Nat} : ∀ x, x ∈ codeOf M → qe_aiOK x.2 = true := by
  intro x hx
  unfold codeOf at hx
  by_cases h1 : M / 16 < codes.length
  · rw [List.getD_eq_getElem?_getD (l := codes), List.getElem?_eq_getElem h1, Option.getD_some] at hx
    by_cases h2 : M % 16 < (codes[M / 16]).length
    · rw [List.getD_eq_getElem?_getD, List.getElem?_eq_getElem h2, Option.getD_some] at hx
      exact List.all_eq_true.mp (List.all_eq_true.mp (List.all_eq_true.mp qe_ck_ai _ (List.getElem_mem h1)) _ (List.getElem_mem h2)) x hx
    · rw [List.getD_eq_getElem?_getD, List.getElem?_eq_none (by omega)] at hx
      cases hx
  · have e : codes.getD (M / 16) [] = [] := by
      rw [List.getD_eq_getElem?_getD, List.getElem?_eq_none (by omega)]
      rfl
    rw [e] at hx
    cases hx
theorem qe_zl_of {c : Int} (h1 : -9223372036854775808 ≤ c) (h2 : c < 9223372036854775808) : qe_l2n (Int64.ofInt c) = qe_zl c := by
  have h := qe_l2n_z (Int64.ofInt c)
  rw [Int64.toInt_ofInt_of_le h1 h2] at h
  unfold qe_zl
  split
  · rename_i n
    have : (Int.ofNat n : Int) = (n : Int) := rfl
    omega
  · rename_i n
    have : Int.negSucc n = -((n : Int) + 1) := by omega
    omega
section
variable {A nu nu' : Nat → Nat} {base n m : Nat} {hb : (Nat → Option AO) × Nat} {G G' : qe_SG} {h h' : AH} {os : List qe_SOUT} {lv lv' : qe_SLV} {st st' r : List qe_SV} {L L' : LV} {S S' R : List Value} {c : Int} {a k kd i : Nat}
theorem qe_sstep_ok {σ : Nat → Nat} {ai : AI} (hA : qe_AOK A σ base) (hok : qe_aiOK ai = true) (hR : qe_RM A nu base hb G h) (hL : qe_LVM A nu (qe_g_h G).length (qe_g_n G) lv L) (hS : qe_LM A nu (qe_g_h G).length (qe_g_n G) st S) (hs : qe_sstep ai lv st G = some os) : qe_Cc A nu base hb G h os (step1 σ ai L S h) := by
  obtain ⟨o, a, c⟩ := ai
  by_cases ho : o ≤ 32
  · have hc : o = 0 ∨ o = 1 ∨ o = 2 ∨ o = 3 ∨ o = 4 ∨ o = 5 ∨ o = 6 ∨ o = 7 ∨ o = 8 ∨ o = 9 ∨ o = 10 ∨ o = 11 ∨ o = 12 ∨ o = 13 ∨ o = 14 ∨ o = 15 ∨ o = 16 ∨ o = 17 ∨ o = 18 ∨ o = 19 ∨ o = 20 ∨ o = 21 ∨ o = 22 ∨ o = 23 ∨ o = 24 ∨ o = 25 ∨ o = 26 ∨ o = 27 ∨ o = 28 ∨ o = 29 ∨ o = 30 ∨ o = 31 ∨ o = 32 := by omega
    rcases hc with rfl | rfl | rfl | rfl | rfl | rfl | rfl | rfl | rfl | rfl | rfl | rfl | rfl | rfl | rfl | rfl | rfl | rfl | rfl | rfl | rfl | rfl | rfl | rfl | rfl | rfl | rfl | rfl | rfl | rfl | rfl | rfl | rfl
    · exact qe_c_nx hs (qe_pn_id hR hL ⟨qe_k_ok (of_decide_eq_true (qe_and2 hok).1) (of_decide_eq_true (qe_and2 hok).2), hS⟩)
    · exact qe_S_load_ok hR hL hS hs
    · exact qe_S_store_ok hR hL hS hs
    · exact qe_S_iinc_ok hR hL hS (of_decide_eq_true (qe_and2 hok).1) (of_decide_eq_true (qe_and2 hok).2) hs
    · exact qe_S_ibin_ok hR hL hS hs
    · exact qe_S_icmp_ok hR hL hS hs
    · exact qe_S_if_ok hR hL hS hs
    · exact qe_c_jp hs (qe_pn_id hR hL hS)
    · exact qe_S_get_ok hR hL hS hs
    · exact qe_S_put_ok hA hR hL hS hs
    · exact qe_S_ald_ok hR hL hS hs
    · exact qe_S_ast_ok hA hR hL hS hs
    · exact qe_S_call_ok hR hS hs
    · exact qe_S_ret_ok hR hS hs
    · exact qe_c_nx hs (qe_pn_id hR hL ⟨.inl ⟨rfl, qe_zl_of (of_decide_eq_true (qe_and2 hok).1) (of_decide_eq_true (qe_and2 hok).2)⟩, hS⟩)
    · exact qe_S_lbin_ok hR hL hS hs
    · exact qe_S_conv_ok hR hL hS hs
    · exact qe_S_lcmp_ok hR hL hS hs
    · exact qe_S_stk_ok hR hL hS hs
    · exact qe_c_nx hs (qe_pn_id hR hL ⟨(rfl : (4 : Nat) = 4), hS⟩)
    · exact qe_S_null_ok hR hL hS hs
    · exact qe_S_acmp_ok hA hR hL hS hs
    · exact qe_S_sw_ok hR hL hS hs
    · exact qe_S_len_ok hR hL hS hs
    · exact qe_S_newa_ok hA hR hL hS hs
    · exact qe_S_newa_ok hA hR hL hS hs
    · exact qe_new_ok hA hR hL hS hs
    · have b : a ≤ 5 := qe_blet hok
      exact qe_c_nx hs (qe_pn_id hR hL ⟨⟨rfl, Nat.lt_of_lt_of_le (by show a < 7; omega) hR.2.2.1, (hA.2.2 a (by omega)).symm⟩, hS⟩)
    · have b : a ≤ 30 := qe_blet hok
      exact qe_S_cast_ok (k := a) (by omega) hR hL hS hs
    · exact qe_S_acp_ok hA hR hL hS hs
    · exact qe_S_oinit_ok hR hL hS hs
    · exact qe_S_clone_ok hA hR hL hS hs
    · exact qe_S_math_ok hR hL hS hs
  · unfold qe_sstep at hs
    have e : Nat.ble o 32 = false := by
      cases hq : Nat.ble o 32
      · rfl
      · exact absurd (qe_blet hq) ho
    rw [e, cond_false] at hs
    cases hs
end
theorem qe_jmp_eq (t : Nat) (l : List (Nat × AI)) : qe_jmp t l = l.dropWhile (fun x => !(x.1 == t)) := by
  induction l with
  | nil => rfl
  | cons x r ih =>
    rw [qe_jmp, List.dropWhile_cons, qe_nbeq]
    cases Nat.beq x.1 t
    · exact ih
    · rfl
theorem qe_jmp_sub (t : Nat) (l : List (Nat × AI)) : ∀ x, x ∈ qe_jmp t l → x ∈ l := by
  induction l with
  | nil => intro x hx; exact hx
  | cons y r ih =>
    intro x hx
    rw [qe_jmp] at hx
    cases hb : Nat.beq y.1 t
    · rw [hb, cond_false] at hx
      exact List.mem_cons_of_mem _ (ih x hx)
    · rw [hb, cond_true] at hx
      exact hx
noncomputable def qe_sgo (w : Nat) (ih : Nat → List (Nat × AI) → qe_SLV → List qe_SV → qe_SG → Option (List (Option qe_SV × qe_SG))) (M : Nat) (tl : List (Nat × AI)) (lv : qe_SLV) (o : qe_SOUT) : Option (List (Option qe_SV × qe_SG)) := match o with
  | .inl (none, lv', st', G') => ih M tl lv' st' G'
  | .inl (some t, lv', st', G') => ih M (qe_jmp t (codeOf M)) lv' st' G'
  | .inr (.inl (M', as, r, G')) => bif Nat.beq M' w then ih M tl lv (qe_sref (qe_g_h G').length :: r) (qe_s_mk G' (21, .inl (1891, qe_slany)) 1891) else (match ih M' (codeOf M') (qe_s_args 0 as) [] G' with
    | none => none
    | some es => es.foldr (fun q acc => qe_cat2 (ih M tl lv (q.1.toList ++ r) q.2) acc) (some []))
  | .inr (.inr q) => some [q]
theorem qe_srun_nil (w f M : Nat) (lv : qe_SLV) (st : List qe_SV) (G : qe_SG) : qe_srun w f M [] lv st G = none := by
  cases f <;> rfl
theorem qe_srun_succ (w f M pc : Nat) (ai : AI) (tl : List (Nat × AI)) (lv : qe_SLV) (st : List qe_SV) (G : qe_SG) : qe_srun w (f + 1) M ((pc, ai) :: tl) lv st G = match qe_sstep ai lv st G with
    | none => none
    | some [o] => qe_sgo w (qe_srun w f) M tl lv o
    | some os => os.foldr (fun o acc => qe_cat2 (qe_sgo w (qe_srun w f) M tl lv o) acc) (some []) := rfl
theorem qe_cat_mem {α β : Type} {g : α → Option (List β)} {os : List α} : ∀ {es : List β}, os.foldr (fun o acc => qe_cat2 (g o) acc) (some []) = some es → ∀ o, o ∈ os → ∃ e, g o = some e ∧ ∀ x, x ∈ e → x ∈ es := by
  induction os with
  | nil => intro es _ o ho; cases ho
  | cons x r ih =>
    intro es hs o ho
    rw [List.foldr_cons] at hs
    unfold qe_cat2 at hs
    split at hs
    · cases hs
    · rename_i a ha
      split at hs
      · cases hs
      · rename_i b hb
        cases hs
        rcases List.mem_cons.mp ho with rfl | ho
        · exact ⟨a, ha, fun x hx => List.mem_append_left _ hx⟩
        · obtain ⟨e, h1, h2⟩ := ih hb o ho
          exact ⟨e, h1, fun x hx => List.mem_append_right _ (h2 x hx)⟩
