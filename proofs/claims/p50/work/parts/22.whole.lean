/-! ===== the claim out of a run of the plain machine ===== -/
def LawRuns (N : Nat) : Prop := ∀ (base b : Nat) (σ : Nat → Nat) (xs : List Int32) (h0 : AH), xs.length ≤ N → Start base b σ xs h0 → ∃ (f : Nat) (h' : AH), run σ f mLaw (codeOf mLaw) (am_args 0 [.ref b]) [] h0 = some (some (.int 1), h') ∧ h'.2.1 - base ≤ 600000 ∧ h'.2.2 ≤ 7302249
theorem k_of {s : State} {args : Array Value} (hts : ∀ w ∈ gt, w.before args s = true) : ∃ D : va_G, va_K D cls [] s := by
  have h : ∀ k, ∃ (cC : ClassId) (iS : Nat → Nat), k < 13 → u_Kn s (kNm k) (kT k) (kNn k) cC iS := by
    intro k
    by_cases hk : k < 13
    · obtain ⟨cC, iS, h⟩ := u_known (n := kNn k) hts (k_in hk) (hts _ (gt_of ck_kil (List.mem_map.mpr ⟨_, List.contains_iff_mem.mp (k_row hk).1, rfl⟩) rfl))
      exact ⟨cC, iS, fun _ => h⟩
    · exact ⟨0, fun _ => 0, fun h => absurd h hk⟩
  refine ⟨(fun k => Classical.choose (h k), fun k => Classical.choose (Classical.choose_spec (h k))), fun k q hq => ?_, fun k q h => by simp at h⟩
  have hk : k < 13 := by
    have := (List.getElem?_eq_some_iff.mp hq).1
    simpa [cls] using this
  rw [cls_at hk] at hq
  cases hq
  exact Classical.choose_spec (Classical.choose_spec (h k)) hk
theorem law_end {p : Program} {l : Launch} {e : Env} {s : State} {m : MethodId} {below : List Frame} {meth : Method} {c : Code} {b c0 s0 : Nat} {D : va_G} {σ : Nat → Nat} {h' : AH} (C : Ctx p s m #[Value.ref b] meth c s.heap.size D σ mLaw) (hr : meth.sig.returnType = ret) (hlocks : meth.locks = false) (h1 : h'.2.1 - c0 ≤ 600000) (h2 : h'.2.2 - s0 ≤ 7302249) : EndOf p l e room_1 s m #[Value.ref b] below meth c (lw_Z below #[Value.ref b] s) s.heap.size D σ mLaw c0 s0 (some (.int 1)) h' := by
  intro pc nxp ai lv st hL hst H locs ls hR hS hl
  have hop : ai.1 = 13 := by
    rcases step_call hst with h9 | h9
    · unfold step1 at hst
      rw [h9] at hst
      change s_call _ _ _ = _ at hst
      exact (s_call_spec' hst).elim
    · exact h9
  obtain ⟨o9, a9, c9⟩ := ai
  dsimp only at hop
  subst hop
  change s_ret a9 st = _ at hst
  obtain ⟨hx, hb, -⟩ := C
  rcases hL with ⟨i, hd, hn, ht⟩ | ⟨hop, -⟩ | hop
  · have hst1 : st = [.int 1] := by
      unfold s_ret at hst
      split at hst <;> first | (cases hst; done) | (cases hst; rfl) | (split at hst <;> first | (cases hst; done) | (cases hst; rfl))
    subst hst1
    have hi : i = .ireturn := by
      cases i with
      | ireturn => rfl
      | return_ =>
        unfold tr at ht
        dsimp only at ht
        rw [law_r, if_neg (by decide)] at ht
        cases ht
      | lreturn =>
        unfold tr at ht
        dsimp only at ht
        rw [law_r, if_neg (by decide)] at ht
        cases ht
      | areturn =>
        unfold tr at ht
        dsimp only at ht
        rw [law_r] at ht
        cases ht
      | _ =>
        exfalso
        unfold tr at ht
        first
          | (cases ht; done)
          | (obtain ⟨-, e1⟩ := tgt_spec ht; cases e1; done)
          | (obtain ⟨_, -, e1⟩ := Option.map_eq_some_iff.mp ht; cases e1; done)
          | (dsimp only at ht; split at ht <;> first | (cases ht; done) | (split at ht <;> first | (cases ht; done) | (split at ht <;> first | (cases ht; done) | (split at ht <;> first | (cases ht; done) | (obtain ⟨_, -, e1⟩ := Option.map_eq_some_iff.mp ht; cases e1; done)) | (obtain ⟨_, -, e1⟩ := Option.map_eq_some_iff.mp ht; cases e1; done)) | (obtain ⟨_, -, e1⟩ := Option.map_eq_some_iff.mp ht; cases e1; done)) | (obtain ⟨_, -, e1⟩ := Option.map_eq_some_iff.mp ht; cases e1; done))
    subst hi
    rw [law_b] at hd
    refine va_forget (fun q hq => hS.2.2 q hq) ?_
    refine W.widen (k := 600000) (n := 7302249) h1 h2 ?_
    exact lw_ret hx (hb.trans law_b) hr hlocks hd
  · cases hop
  · cases hop
theorem whole_of {N : Nat} (hN : LawRuns N) {p : Program} {e : Env} {s : State} {m : MethodId} {below : List Frame} {meth : Method} {c : Code} (l : Launch) {b L : Nat} {xs : Nat → Int32} (hL : L ≤ N) (C0 : lw_At p s m meth c b L xs) : W p l e room_1 s m #[Value.ref b] below meth c s.heap [] 0 0 (lw_Z below #[Value.ref b] s) (entryFrame m ([Value.ref b] : List Value).toArray 4) := by
  have hts := C0.2.2.2.2.2.1
  have htb : ∀ w ∈ gt, w.before #[Value.ref b] s = true := fun w hw => (List.mem_append.mp (List.mem_filter.mp hw).1).elim (hts w) (sel_ok hts w)
  obtain ⟨D, hK⟩ := k_of htb
  obtain ⟨σ, h0, C, hR, hS0⟩ := start_of C0 hK
  obtain ⟨f, h', hrun, h1, h2⟩ := hN _ b σ _ h0 (by simpa using hL) hS0
  have e1 : h0.2.1 = s.heap.size := hS0.1
  have e2 : h0.2.2 = 0 := hS0.2.1
  have hl := lv_entry [Value.ref b] (n := 4) (Nat.le_of_ble_eq_true rfl)
  rw [lg_entry_eq]
  have hg := goodC_all law_n
  have E := law_end (below := below) (e := e) (l := l) (c0 := h0.2.1) (s0 := h0.2.2) (h' := h') C C0.2.2.1 C0.2.2.2.2.2.2.2.2.1 (by omega) (by omega)
  have := sim_run (e := e) (R := room_1) (below := below) C f (fun f' _ => met_all l s.heap.size D σ f') law_room (some (.int 1)) h' ⟨(show h'.2.1 - h0.2.1 ≤ 600000 by omega), (show h'.2.2 - h0.2.2 ≤ 7302249 by omega)⟩ E f (Nat.le_refl _) 0 (codeOf mLaw) (am_args 0 [.ref b]) [] h0 (fun x hx => hx) hg.1 hg.2 ⟨Nat.le_refl _, Nat.le_refl _⟩ hrun s.heap [] _ hR va_S.rf (by rw [law_l]; exact hl)
  rw [Nat.sub_self, Nat.sub_self] at this
  exact this
