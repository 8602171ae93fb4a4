/-! ===== returns; every method's contract ===== -/
theorem s_call_spec' {i : Nat} {st : List Value} {h : AH} {r : Option Value} (hst : s_call i st h = some (.inr (.inr r))) : False := by
  unfold s_call at hst
  dsimp only at hst
  split at hst
  · split at hst
    · split at hst
      · split at hst <;> cases hst
      · cases hst
    · split at hst
      · split at hst
        · split at hst
          · split at hst <;> cases hst
          · cases hst
        · cases hst
      · cases hst
    · cases hst
  · cases hst
section META
variable {p : Program} {l : Launch} {e : Env} {R : Room} {s : State} {m : MethodId} {args : Array Value} {below : List Frame} {meth : Method} {c : Code} {H : Heap} {locs : List Loc} {Q : State → Prop} {base c0 s0 M pc nxp : Nat} {D : va_G} {σ : Nat → Nat} {ls : Array Slot} {lv lv' : LV} {st st' : List Value} {h h' : AH} {j : Option Nat} {ai : AI}
theorem ret_post (hR : Rep base D s H h) (hS : va_S (fun q => base ≤ q) s.heap H locs) {r : Option Value} : ∀ t : State, t.heap = H → s.WarmedH t.vm → MPost base D r h args s (.returned r) t := by
  intro t ht hW
  exact ⟨rfl, by rw [ht]; exact hR.moved hW.alike, hS.F ht⟩
theorem end_of (C : Ctx p s m args meth c base D σ M) (hr : meth.sig.returnType = mR M) (hlocks : meth.locks = false) (r : Option Value) (h' : AH) : EndOf p l e R s m args below meth c (MQ below (MPost base D r h') args s (h'.2.1 - c0) (h'.2.2 - s0) (fun q => base ≤ q)) base D σ M c0 s0 r h' := by
  intro pc nxp ai lv st hL hst H locs ls hR hS hl
  have hop : ai.1 = 13 := by
    rcases step_call hst with h9 | h9
    · unfold step1 at hst
      rw [h9] at hst
      change s_call _ _ _ = _ at hst
      exact (s_call_spec' hst).elim
    · exact h9
  obtain ⟨o9, a9, c9⟩ := ai
  dsimp only at hop
  subst hop
  change s_ret a9 st = _ at hst
  obtain ⟨hx, hb, -⟩ := C
  have hpost := fun (r9 : Option Value) => ret_post (r := r9) (args := args) hR hS
  rcases hL with ⟨i, hd, hn, ht⟩ | ⟨hop, -⟩ | hop
  · cases i with
    | return_ =>
      unfold tr at ht
      dsimp only at ht
      split at ht
      · rename_i hm
        cases ht
        unfold s_ret at hst
        split at hst <;> first | (cases hst; done) | skip
        all_goals first | (cases hst; exact W.vret hx hb (hr.trans hm) (hpost _) hS.2.2 hd) | (exfalso; omega)
      · cases ht
    | ireturn =>
      unfold tr at ht
      dsimp only at ht
      split at ht
      · rename_i hm
        cases ht
        unfold s_ret at hst
        split at hst <;> first | (cases hst; done) | skip
        all_goals first | (cases hst; exact W.iret hx hb (hr.trans hm) (hpost _) hS.2.2 hd) | (exfalso; omega)
      · split at ht
        · rename_i hm
          cases ht
          unfold s_ret at hst
          split at hst <;> first | (cases hst; done) | skip
          all_goals first | (exfalso; omega) | skip
          split at hst
          · rename_i h01
            cases hst
            exact W.zret hx hb (hr.trans hm) (by rcases h01 with rfl | rfl <;> rfl) (hpost _) hS.2.2 hd
          · cases hst
        · cases ht
    | lreturn =>
      unfold tr at ht
      dsimp only at ht
      split at ht
      · rename_i hm
        cases ht
        unfold s_ret at hst
        split at hst <;> first | (cases hst; done) | skip
        all_goals first | (cases hst; exact W.lret hx hb (hr.trans hm) (hpost _) hS.2.2 hd) | (exfalso; omega)
      · cases ht
    | areturn =>
      unfold tr at ht
      dsimp only at ht
      have hm : ∃ rt, mR M = some rt ∧ ((∃ n, rt = .object n) ∨ ∃ t, rt = .array t) ∧ a9 = 3 := by
        split at ht
        · rename_i z hm; cases ht; exact ⟨_, hm, Or.inl ⟨_, rfl⟩, rfl⟩
        · rename_i z hm; cases ht; exact ⟨_, hm, Or.inr ⟨_, rfl⟩, rfl⟩
        · cases ht
      obtain ⟨rt, hm, hrt, rfl⟩ := hm
      unfold s_ret at hst
      split at hst <;> first | (cases hst; done) | skip
      all_goals first | (cases hst; exact W.aret hx hb (hr.trans hm) hrt (by first | exact Or.inr ⟨_, rfl⟩ | exact Or.inl rfl) (hpost _) hS.2.2 hd) | (exfalso; omega)
    | _ =>
      exfalso
      unfold tr at ht
      first
        | (cases ht; done)
        | (obtain ⟨-, e1⟩ := tgt_spec ht; cases e1; done)
        | (obtain ⟨_, -, e1⟩ := Option.map_eq_some_iff.mp ht; cases e1; done)
        | (dsimp only at ht; split at ht <;> first | (cases ht; done) | (split at ht <;> first | (cases ht; done) | (split at ht <;> first | (cases ht; done) | (split at ht <;> first | (cases ht; done) | (obtain ⟨_, -, e1⟩ := Option.map_eq_some_iff.mp ht; cases e1; done)) | (obtain ⟨_, -, e1⟩ := Option.map_eq_some_iff.mp ht; cases e1; done)) | (obtain ⟨_, -, e1⟩ := Option.map_eq_some_iff.mp ht; cases e1; done)) | (obtain ⟨_, -, e1⟩ := Option.map_eq_some_iff.mp ht; cases e1; done))
  · cases hop
  · cases hop
end META
