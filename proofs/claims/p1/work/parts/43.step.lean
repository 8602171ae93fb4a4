/-! ===== a step; a run ===== -/
noncomputable def aiOK (ai : AI) : Bool := bif Nat.beq ai.1 0 || Nat.beq ai.1 3 then decide (-2147483648 ≤ ai.2.2) && decide (ai.2.2 < 2147483648) else bif Nat.beq ai.1 14 then decide (-9223372036854775808 ≤ ai.2.2) && decide (ai.2.2 < 9223372036854775808) else bif Nat.beq ai.1 27 then Nat.ble ai.2.1 5 else bif Nat.beq ai.1 28 then Nat.ble ai.2.1 30 else true
theorem ck_ai : codes.all (fun x => x.all (fun y => y.all (fun z => aiOK z.2))) = true := by decide +kernel
theorem code_ai {M : Nat} : ∀ x, x ∈ codeOf M → aiOK x.2 = true := by
  intro x hx
  unfold codeOf at hx
  by_cases h1 : M / 16 < codes.length
  · rw [List.getD_eq_getElem?_getD (l := codes), List.getElem?_eq_getElem h1, Option.getD_some] at hx
    by_cases h2 : M % 16 < (codes[M / 16]).length
    · rw [List.getD_eq_getElem?_getD, List.getElem?_eq_getElem h2, Option.getD_some] at hx
      exact List.all_eq_true.mp (List.all_eq_true.mp (List.all_eq_true.mp ck_ai _ (List.getElem_mem h1)) _ (List.getElem_mem h2)) x hx
    · rw [List.getD_eq_getElem?_getD, List.getElem?_eq_none (by omega)] at hx
      cases hx
  · have e : codes.getD (M / 16) [] = [] := by
      rw [List.getD_eq_getElem?_getD, List.getElem?_eq_none (by omega)]
      rfl
    rw [e] at hx
    cases hx
theorem zl_of {c : Int} (h1 : -9223372036854775808 ≤ c) (h2 : c < 9223372036854775808) : l2n (Int64.ofInt c) = zl c := by
  have h := l2n_z (Int64.ofInt c)
  rw [Int64.toInt_ofInt_of_le h1 h2] at h
  unfold zl
  split
  · rename_i n
    have : (Int.ofNat n : Int) = (n : Int) := rfl
    omega
  · rename_i n
    have : Int.negSucc n = -((n : Int) + 1) := by omega
    omega
section
variable {A nu nu' : Nat → Nat} {base n m : Nat} {hb : (Nat → Option AO) × Nat} {G G' : SG} {h h' : AH} {os : List SOUT} {lv lv' : SLV} {st st' r : List SV} {L L' : LV} {S S' R : List Value} {c : Int} {a k kd i : Nat}
theorem sstep_ok {σ : Nat → Nat} {ai : AI} (hA : AOK A σ base) (hok : aiOK ai = true) (hR : RM A nu base hb G h) (hL : LVM A nu (g_h G).length (g_n G) lv L) (hS : LM A nu (g_h G).length (g_n G) st S) (hs : sstep ai lv st G = some os) : Cc A nu base hb G h os (step1 σ ai L S h) := by
  obtain ⟨o, a, c⟩ := ai
  by_cases ho : o ≤ 32
  · have hc : o = 0 ∨ o = 1 ∨ o = 2 ∨ o = 3 ∨ o = 4 ∨ o = 5 ∨ o = 6 ∨ o = 7 ∨ o = 8 ∨ o = 9 ∨ o = 10 ∨ o = 11 ∨ o = 12 ∨ o = 13 ∨ o = 14 ∨ o = 15 ∨ o = 16 ∨ o = 17 ∨ o = 18 ∨ o = 19 ∨ o = 20 ∨ o = 21 ∨ o = 22 ∨ o = 23 ∨ o = 24 ∨ o = 25 ∨ o = 26 ∨ o = 27 ∨ o = 28 ∨ o = 29 ∨ o = 30 ∨ o = 31 ∨ o = 32 := by omega
    rcases hc with rfl | rfl | rfl | rfl | rfl | rfl | rfl | rfl | rfl | rfl | rfl | rfl | rfl | rfl | rfl | rfl | rfl | rfl | rfl | rfl | rfl | rfl | rfl | rfl | rfl | rfl | rfl | rfl | rfl | rfl | rfl | rfl | rfl
    · exact c_nx hs (pn_id hR hL ⟨k_ok (of_decide_eq_true (and2 hok).1) (of_decide_eq_true (and2 hok).2), hS⟩)
    · exact S_load_ok hR hL hS hs
    · exact S_store_ok hR hL hS hs
    · exact S_iinc_ok hR hL hS (of_decide_eq_true (and2 hok).1) (of_decide_eq_true (and2 hok).2) hs
    · exact S_ibin_ok hR hL hS hs
    · exact S_icmp_ok hR hL hS hs
    · exact S_if_ok hR hL hS hs
    · exact c_jp hs (pn_id hR hL hS)
    · exact S_get_ok hR hL hS hs
    · exact S_put_ok hA hR hL hS hs
    · exact S_ald_ok hR hL hS hs
    · exact S_ast_ok hA hR hL hS hs
    · exact S_call_ok hR hS hs
    · exact S_ret_ok hR hS hs
    · exact c_nx hs (pn_id hR hL ⟨.inl ⟨rfl, zl_of (of_decide_eq_true (and2 hok).1) (of_decide_eq_true (and2 hok).2)⟩, hS⟩)
    · exact S_lbin_ok hR hL hS hs
    · exact S_conv_ok hR hL hS hs
    · exact S_lcmp_ok hR hL hS hs
    · exact S_stk_ok hR hL hS hs
    · exact c_nx hs (pn_id hR hL ⟨(rfl : (4 : Nat) = 4), hS⟩)
    · exact S_null_ok hR hL hS hs
    · exact S_acmp_ok hA hR hL hS hs
    · exact S_sw_ok hR hL hS hs
    · exact S_len_ok hR hL hS hs
    · exact S_newa_ok hA hR hL hS hs
    · exact S_newa_ok hA hR hL hS hs
    · exact new_ok hA hR hL hS hs
    · have b : a ≤ 5 := blet hok
      exact c_nx hs (pn_id hR hL ⟨⟨rfl, Nat.lt_of_lt_of_le (by show a < 7; omega) hR.2.2.1, (hA.2.2 a (by omega)).symm⟩, hS⟩)
    · have b : a ≤ 30 := blet hok
      exact S_cast_ok (k := a) (by omega) hR hL hS hs
    · exact S_acp_ok hA hR hL hS hs
    · exact S_oinit_ok hR hL hS hs
    · exact S_clone_ok hA hR hL hS hs
    · exact S_math_ok hR hL hS hs
  · unfold sstep at hs
    have e : Nat.ble o 32 = false := by
      cases hq : Nat.ble o 32
      · rfl
      · exact absurd (blet hq) ho
    rw [e, cond_false] at hs
    cases hs
end
theorem jmp_eq (t : Nat) (l : List (Nat × AI)) : jmp t l = l.dropWhile (fun x => !(x.1 == t)) := by
  induction l with
  | nil => rfl
  | cons x r ih =>
    rw [jmp, List.dropWhile_cons, nbeq]
    cases Nat.beq x.1 t
    · exact ih
    · rfl
theorem jmp_sub (t : Nat) (l : List (Nat × AI)) : ∀ x, x ∈ jmp t l → x ∈ l := by
  induction l with
  | nil => intro x hx; exact hx
  | cons y r ih =>
    intro x hx
    rw [jmp] at hx
    cases hb : Nat.beq y.1 t
    · rw [hb, cond_false] at hx
      exact List.mem_cons_of_mem _ (ih x hx)
    · rw [hb, cond_true] at hx
      exact hx
noncomputable def sgo (w : Nat) (ih : Nat → List (Nat × AI) → SLV → List SV → SG → Option (List (Option SV × SG))) (M : Nat) (tl : List (Nat × AI)) (lv : SLV) (o : SOUT) : Option (List (Option SV × SG)) := match o with
  | .inl (none, lv', st', G') => ih M tl lv' st' G'
  | .inl (some t, lv', st', G') => ih M (jmp t (codeOf M)) lv' st' G'
  | .inr (.inl (M', as, r, G')) => bif Nat.beq M' w then ih M tl lv (sref (g_h G').length :: r) (s_mk G' (21, .inl (1891, slany)) 1891) else (match ih M' (codeOf M') (s_args 0 as) [] G' with
    | none => none
    | some es => es.foldr (fun q acc => cat2 (ih M tl lv (q.1.toList ++ r) q.2) acc) (some []))
  | .inr (.inr q) => some [q]
theorem srun_nil (w f M : Nat) (lv : SLV) (st : List SV) (G : SG) : srun w f M [] lv st G = none := by
  cases f <;> rfl
theorem srun_succ (w f M pc : Nat) (ai : AI) (tl : List (Nat × AI)) (lv : SLV) (st : List SV) (G : SG) : srun w (f + 1) M ((pc, ai) :: tl) lv st G = match sstep ai lv st G with
    | none => none
    | some [o] => sgo w (srun w f) M tl lv o
    | some os => os.foldr (fun o acc => cat2 (sgo w (srun w f) M tl lv o) acc) (some []) := rfl
theorem cat_mem {α β : Type} {g : α → Option (List β)} {os : List α} : ∀ {es : List β}, os.foldr (fun o acc => cat2 (g o) acc) (some []) = some es → ∀ o, o ∈ os → ∃ e, g o = some e ∧ ∀ x, x ∈ e → x ∈ es := by
  induction os with
  | nil => intro es _ o ho; cases ho
  | cons x r ih =>
    intro es hs o ho
    rw [List.foldr_cons] at hs
    unfold cat2 at hs
    split at hs
    · cases hs
    · rename_i a ha
      split at hs
      · cases hs
      · rename_i b hb
        cases hs
        rcases List.mem_cons.mp ho with rfl | ho
        · exact ⟨a, ha, fun x hx => List.mem_append_left _ hx⟩
        · obtain ⟨e, h1, h2⟩ := ih hb o ho
          exact ⟨e, h1, fun x hx => List.mem_append_right _ (h2 x hx)⟩
