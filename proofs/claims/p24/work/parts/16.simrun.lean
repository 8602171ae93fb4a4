/-! ===== calls and returns of the machine; a method's whole run; its contract ===== -/
theorem room_ok {a b c r : Nat} (h1 : c ≤ a) (h2 : a ≤ b) (h3 : b - c ≤ r) : a - c + (b - a) ≤ r := by omega
section SIMR
variable {p : Program} {l : Launch} {e : Env} {R : Room} {s : State} {m : MethodId} {args : Array Value} {below : List Frame} {meth : Method} {c : Code} {H : Heap} {locs : List Loc} {Q : State → Prop} {base c0 s0 M pc nxp : Nat} {D : va_G} {σ : Nat → Nat} {ls : Array Slot} {lv lv' : LV} {st st' : List Value} {h h' : AH} {j : Option Nat} {ai : AI}
theorem am_call {cells slots mc ms : Nat} {Qa : State → Outcome → State → Prop} {free : Addr → Prop} {rest st0 : List Value} {A0 : Nat → Prop} (hr : va_Run p l e R s m args below meth c H locs cells slots mc ms (F0 m pc ls st0) rest Qa free) (hS : va_S A0 s.heap H locs) (hf : ∀ q, free q → A0 q) (hQ : ∀ st₀ v t, Qa st₀ (.returned v) t → va_F A0 st₀ t)
    (kk : ∀ (v : Option Value) (st₀ t : State) (H1 : Heap) (locs1 : List Loc), st₀.heap = H → t.heap = H1 → s.vm.Alike t.vm → Qa st₀ (.returned v) t → va_S A0 s.heap H1 locs1 → W p l e R s m args below meth c H1 locs1 (cells + mc) (slots + ms) Q (F0 m (pc + 3) ls (v.toList ++ rest))) : W p l e R s m args below meth c H locs cells slots Q (F0 m pc ls st0) := by
  intro T hT X
  obtain ⟨v, st₀, t, T', L, h0, X', hL, e1, e2, hq, st9⟩ := hr T hT X
  obtain ⟨hz, hk⟩ := hQ _ _ _ hq
  rw [h0] at hz hk
  obtain ⟨t2, a1, b1⟩ := kk v st₀ t T'.heap (locs ++ L) h0 e1.symm (by rw [← e2]; exact X'.warmed.alike) hq
    ⟨Nat.le_trans hS.1 (by rw [e1]; exact hz), fun q h1 h2 => by rw [e1, hk q (Nat.lt_of_lt_of_le h1 hS.1) h2]; exact hS.2.1 q h1 h2, fun q hq => by
      rcases List.mem_append.mp hq with h | h
      · exact hS.2.2 q h
      · exact hf _ (hL q h)⟩ T' rfl X'
  exact ⟨t2, st9 t2 a1, b1⟩
/-- what a called method's contract is -/
def MetA (l : Launch) (base : Nat) (D : va_G) (σ : Nat → Nat) (f : Nat) : Prop := ∀ (M : Nat) (as : List Value) (h : AH) (r : Option Value) (h' : AH), M < nM → M ≠ mLaw → am_ok as M = true → run σ f M (codeOf M) (am_args 0 as) [] h = some (r, h') → h.2.1 ≤ h'.2.1 ∧ h.2.2 ≤ h'.2.2 ∧ Met l (mY M) (wsM M) (rmM M (h'.2.1 - h.2.1) (h'.2.2 - h.2.2)) (MPre base D σ as h) (MPost base D r h') (h'.2.1 - h.2.1) (h'.2.2 - h.2.2) (fun q => base ≤ q)
theorem mpre_at (C : Ctx p s m args meth c base D σ M) (hR : Rep base D s H h) (hS : va_S (fun q => base ≤ q) s.heap H locs) (as : List Value) : ∀ U : State, U.heap = H → s.WarmedH U.vm → MPre base D σ as h as.toArray U := by
  obtain ⟨hx, hb, hml, hown, hts, hxw, hK, hini, hZ, hMn, hMi⟩ := C
  intro U hU hW
  exact ⟨rfl, fun w hw => xw_warm (List.mem_filter.mp hw).2 hW (hxw w hw), va_K.moved hW.alike hK, fun i hi => by rw [hU]; exact va_Z.moved hW.alike (va_Z_kept (hZ i hi) hS), by rw [hU]; exact hR.moved hW.alike, hMi.moved hW.alike⟩
theorem call_fin {as r0 st0 : List Value} {v : Option Value} {h1 : AH} (hR : Rep base D s H h) (hS : va_S (fun q => base ≤ q) s.heap H locs) (hl : lv_has ls (mL M) lv) (hc : c0 ≤ h.2.1 ∧ s0 ≤ h.2.2) (hm : h.2.1 ≤ h1.2.1 ∧ h.2.2 ≤ h1.2.2)
    (hr : va_Run p l e R s m args below meth c H locs (h.2.1 - c0) (h.2.2 - s0) (h1.2.1 - h.2.1) (h1.2.2 - h.2.2) (F0 m pc ls st0) r0 (MPost base D v h1 as.toArray) (fun q => base ≤ q))
    (kk : KK p l e R s m args below meth c Q base D M c0 s0 (pc + 3) lv (v.toList ++ r0) h1) : W p l e R s m args below meth c H locs (h.2.1 - c0) (h.2.2 - s0) Q (F0 m pc ls st0) := by
  refine am_call hr hS (fun _ h => h) (fun st₀ v t h => h.2.2) fun v9 st₀ t H1 locs1 e1 e2 hvm hq hS1 => ?_
  obtain ⟨ev, hR1, hF1⟩ := hq
  cases ev
  rw [e2] at hR1
  have := kk H1 locs1 ls (hR1.moved hvm.symm) hS1 hl
  rw [show h.2.1 - c0 + (h1.2.1 - h.2.1) = h1.2.1 - c0 by omega, show h.2.2 - s0 + (h1.2.2 - h.2.2) = h1.2.2 - s0 by omega]
  exact this
theorem si_call (C : Ctx p s m args meth c base D σ M) {i M' : Nat} {c9 : Int} {as r0 : List Value} {v : Option Value} {h1 : AH} (hL : Lk M pc nxp (12, i, c9)) (hst : s_call i st h = some (.inr (.inl (M', as, r0)))) (hfr : ∀ t ∈ (spec i).2.2, mF t.2 + 1 ≤ R.frames ∧ 8 + (mL t.2 + 11) + mW t.2 ≤ R.locals) (hc : c0 ≤ h.2.1 ∧ s0 ≤ h.2.2) (hrm : h1.2.1 - c0 ≤ R.cells ∧ h1.2.2 - s0 ≤ R.slots) (hM : M' < nM → M' ≠ mLaw → am_ok as M' = true → h.2.1 ≤ h1.2.1 ∧ h.2.2 ≤ h1.2.2 ∧ Met l (mY M') (wsM M') (rmM M' (h1.2.1 - h.2.1) (h1.2.2 - h.2.2)) (MPre base D σ as h) (MPost base D v h1) (h1.2.1 - h.2.1) (h1.2.2 - h.2.2) (fun q => base ≤ q))
    (kk : KK p l e R s m args below meth c Q base D M c0 s0 nxp lv (v.toList ++ r0) h1) : KK p l e R s m args below meth c Q base D M c0 s0 pc lv st h := by
  intro H locs ls hR hS hl
  have hpre := mpre_at C hR hS as
  have hok9 := s_call_ok hst
  obtain ⟨hx, hb, hml, hown, hts, hxw, hK, hini, hZ, -⟩ := C
  rcases hL with ⟨ins, hd, hn, ht⟩ | ⟨hop, -⟩ | hop
  · subst hn
    have hSp := s_call_spec hst
    -- the site
    have key : ∀ (e9 : Nat × Nat × Nat × Nat) (st9 : Nat) (fo : List Nat), siteOK e9 st9 fo = true → e9.2.2.1 = i → ∃ t ∈ (site e9.2.2.2).2, (∃ k, t.1 = k ∧ t.2.1 = M' ∧ (k, M') ∈ (spec i).2.2 ∧ (st9 = 1 → ∃ as' q fs, as = .ref q :: as' ∧ as'.length = (spec i).2.1 ∧ st = as'.reverse ++ .ref q :: r0 ∧ am_w r0 ≤ 8 ∧ h.1 q = some (k, fs)) ∧ (st9 = 0 → as.length = (spec i).2.1 ∧ st = as.reverse ++ r0 ∧ am_w r0 ≤ 8)) ∧ fo.contains t.2.2 = true ∧ M' < nM ∧ M' ≠ mLaw ∧ t.1 < 13 ∧ siteT (site e9.2.2.2).1 t = true ∧ (parseMethodDescriptor (site e9.2.2.2).1.desc).map (fun d => d.parameters.length) = some (spec i).2.1 := by
      intro e9 st9 fo hs he
      unfold siteOK at hs
      rw [he] at hs
      simp only [Bool.and_eq_true, beq_iff_eq, decide_eq_true_eq] at hs
      obtain ⟨g1, g2, g3, g4⟩ := hs
      have fin : ∀ k, (k, M') ∈ (spec i).2.2 → ∃ t ∈ (site e9.2.2.2).2, t.1 = k ∧ t.2.1 = M' := by
        intro k hk
        rw [g2] at hk
        obtain ⟨t, ht9, et⟩ := List.mem_map.mp hk
        exact ⟨t, ht9, congrArg Prod.fst et, congrArg Prod.snd et⟩
      rcases hSp with ⟨a0, a1, a2, a3, k, a4⟩ | ⟨a0, as', q, k, fs, a1, a2, a3, a4, a5, a6⟩
      · obtain ⟨t, ht9, et1, et2⟩ := fin k a4
        have g5 := List.all_eq_true.mp g4 t ht9
        simp only [Bool.and_eq_true, decide_eq_true_eq] at g5
        rw [et2] at g5
        exact ⟨t, ht9, ⟨k, et1, et2, a4, fun h => by omega, fun _ => ⟨a1, a2, a3⟩⟩, g5.1, g5.2.1, g5.2.2.1, g5.2.2.2.1, g5.2.2.2.2, g3⟩
      · obtain ⟨t, ht9, et1, et2⟩ := fin k a6
        have g5 := List.all_eq_true.mp g4 t ht9
        simp only [Bool.and_eq_true, decide_eq_true_eq] at g5
        rw [et2] at g5
        exact ⟨t, ht9, ⟨k, et1, et2, a6, fun _ => ⟨as', q, fs, a1, a2, a3, a4, a5⟩, fun h => by omega⟩, g5.1, g5.2.1, g5.2.2.1, g5.2.2.2.1, g5.2.2.2.2, g3⟩
    have wsin : ∀ M', M' < nM → M' ≠ mLaw → ∀ w ∈ wsM M', w ∈ gt := by
      intro M' a b w hw
      rcases List.mem_cons.mp hw with rfl | hw
      · exact (m_row a b).1
      · exact hw
    have hW8 : ∀ r9 : List Value, am_w r9 ≤ 8 → 2 * (F0 m pc ls st).monitorRoom + (r9.map fun v => v.category).sum ≤ 8 := fun r9 h => lv_room h
    have recv : ∀ {q k : Nat} {fs : List Value}, k < 13 → h.1 q = some (k, fs) → ∃ cellB : Cell, H[q]? = some cellB ∧ cellB.vm.isStatics = false ∧ s.vm.findClass (kNm k) = some cellB.cls := by
      intro q k fs hk hq
      obtain ⟨hSl, hfc, kC, hkC, hkind⟩ := hK.1 k _ (cls_at hk)
      rcases hR.2.2 q k fs hq with ⟨g1, g2, g3, cv, g4, g5, g6, g7⟩ | ⟨g1, -⟩ | ⟨g1, -⟩
      · exact ⟨cv, g4, by rw [g6]; rfl, by rw [g5]; exact hfc⟩
      · omega
      · omega
    cases ins with
    | invokestatic x =>
      unfold tr at ht
      dsimp only at ht
      split at ht
      · rename_i i9 hlk
        cases ht
        obtain ⟨q, hm⟩ := lk4_mem hlk
        obtain ⟨t, ht1, ⟨k, et1, et2, hk1, hk2, hk3⟩, hfo, hM1, hM2, hk13, hsT, hpd⟩ := key _ _ _ (List.all_eq_true.mp cs_vS0 _ hm) rfl
        have e0 : t.2.2 = 0 := by simpa using hfo
        unfold siteT at hsT
        rw [e0, et2] at hsT
        simp only [Bool.and_eq_true, decide_eq_true_eq] at hsT
        obtain ⟨a1, a2, a3⟩ := hk3 rfl
        obtain ⟨m1, m2, m3⟩ := hM hM1 hM2 hok9
        have hR9 := hfr _ hk1
        have hT : GoodIn gt (va_wsS (on (mO M)) x (mY M') (wsM M')) := goodIn_gt (by
          intro w hw
          rcases List.mem_append.mp hw with hw | hw
          · simp only [List.mem_cons, List.not_mem_nil, or_false] at hw
            rcases hw with rfl | rfl | rfl
            · rw [hsT.1]; exact gt_of ck_vS0 (List.mem_map.mpr ⟨_, hm, rfl⟩) rfl
            · exact gt_of ck_sml (List.mem_map.mpr ⟨_, List.contains_iff_mem.mp hsT.2, rfl⟩) rfl
            · exact (m_row hM1 hM2).2
          · exact wsin _ hM1 hM2 w hw)
        have cw := va_cwS (R := R) (bytes := mB M') (maxL := mL M') (ret := mR M') (rm := rmM M' (h1.2.1 - h.2.1) (h1.2.2 - h.2.2)) (spec i).2.1 hts hT rfl rfl rfl ⟨(m_row2 hM1).2.1.1, (m_row2 hM1).2.1.2, by rw [hsT.1]; exact hpd⟩ hR9
        exact call_fin hR hS hl hc ⟨m1, m2⟩ (va_runS ⟨hx, hb, hml, hown, hts⟩ m3 cw ⟨mpre_blind, hpre⟩ rfl a1 hl.1 a2 (hW8 _ a3) hd ⟨room_ok hc.1 m1 hrm.1, room_ok hc.2 m2 hrm.2⟩) kk
      · split at ht
        · rename_i i9 hlk
          cases ht
          obtain ⟨q, hm⟩ := lk4_mem hlk
          obtain ⟨t, ht1, ⟨k, et1, et2, hk1, hk2, hk3⟩, hfo, hM1, hM2, hk13, hsT, hpd⟩ := key _ _ _ (List.all_eq_true.mp cs_vS1 _ hm) rfl
          have e0 : t.2.2 = 1 := by simpa using hfo
          unfold siteT at hsT
          rw [e0, et2] at hsT
          simp only [Bool.and_eq_true, decide_eq_true_eq] at hsT
          obtain ⟨a1, a2, a3⟩ := hk3 rfl
          obtain ⟨m1, m2, m3⟩ := hM hM1 hM2 hok9
          have hR9 := hfr _ hk1
          have hnest : va_Nw (.methodLinkNest (on (mO M)) x (mY M') "SkipCity") s := hxw _ (by rw [hsT.1]; exact xw_of ck_vS1 (List.mem_map.mpr ⟨_, hm, rfl⟩) rfl)
          have cw := va_cnB (R := R) (bytes := mB M') (maxL := mL M') (ret := mR M') (rm := rmM M' (h1.2.1 - h.2.1) (h1.2.2 - h.2.2)) (spec i).2.1 hts (goodIn_gt (wsin _ hM1 hM2)) rfl rfl rfl hnest (hts _ (m_row hM1 hM2).2) ⟨(m_row2 hM1).2.1.1, (m_row2 hM1).2.1.2, by rw [hsT.1]; exact hpd⟩ hR9
          exact call_fin hR hS hl hc ⟨m1, m2⟩ (va_runSN ⟨hx, hb, hml, hown, hts⟩ m3 ⟨cw, hts _ (gt_of ck_sml (List.mem_map.mpr ⟨_, List.contains_iff_mem.mp hsT.2, rfl⟩) rfl), trivial⟩ ⟨mpre_blind, hpre⟩ rfl a1 hl.1 a2 (hW8 _ a3) hd ⟨room_ok hc.1 m1 hrm.1, room_ok hc.2 m2 hrm.2⟩) kk
        · split at ht
          · cases ht
          · split at ht
            · cases ht
            · obtain ⟨_, -, e1⟩ := Option.map_eq_some_iff.mp ht; cases e1
    | invokespecial x =>
      unfold tr at ht
      dsimp only at ht
      split at ht
      · rename_i i9 hlk
        cases ht
        obtain ⟨q, hm⟩ := lk4_mem hlk
        obtain ⟨t, ht1, ⟨k, et1, et2, hk1, hk2, hk3⟩, hfo, hM1, hM2, hk13, hsT, hpd⟩ := key _ _ _ (List.all_eq_true.mp cs_vP2 _ hm) rfl
        have e0 : t.2.2 = 2 := by simpa using hfo
        unfold siteT at hsT
        rw [e0, et2] at hsT
        simp only [Bool.and_eq_true, decide_eq_true_eq] at hsT
        obtain ⟨g1, g2, g3, g4⟩ := hsT
        obtain ⟨as', q9, fs, rfl, a1, a2, a3, a4⟩ := hk2 rfl
        obtain ⟨m1, m2, m3⟩ := hM hM1 hM2 hok9
        have hR9 := hfr _ hk1
        have hin := hts _ (gt_of ck_iml (List.mem_map.mpr ⟨_, List.contains_iff_mem.mp g2, rfl⟩) rfl)
        have cw := cwI (R := R) (own := on (mO M)) (index := x) (y := mY M') (bytes := mB M') (maxL := mL M') (rm := rmM M' (h1.2.1 - h.2.1) (h1.2.2 - h.2.2)) (spec i).2.1 hts (goodIn_gt (wsin _ hM1 hM2)) (by unfold wsM; rw [g4]) rfl rfl (hts _ (m_row hM1 hM2).2) (hts _ (by rw [g1]; exact gt_of ck_vP2 (List.mem_map.mpr ⟨_, hm, rfl⟩) rfl)) hin (by rw [g1]; exact g3) ⟨(m_row2 hM1).2.1.1, (m_row2 hM1).2.1.2, by rw [g1]; exact hpd⟩ hR9
        exact call_fin hR hS hl hc ⟨m1, m2⟩ (va_runI ⟨hx, hb, hml, hown, hts⟩ m3 cw ⟨mpre_blind, hpre⟩ rfl a1 hl.1 a2 (hW8 _ a3) hd ⟨room_ok hc.1 m1 hrm.1, room_ok hc.2 m2 hrm.2⟩) kk
      · split at ht
        · rename_i i9 hlk
          cases ht
          obtain ⟨q, hm⟩ := lk4_mem hlk
          obtain ⟨t, ht1, ⟨k, et1, et2, hk1, hk2, hk3⟩, hfo, hM1, hM2, hk13, hsT, hpd⟩ := key _ _ _ (List.all_eq_true.mp cs_vP3 _ hm) rfl
          have e0 : t.2.2 = 3 := by simpa using hfo
          unfold siteT at hsT
          rw [e0, et2] at hsT
          simp only [Bool.and_eq_true, decide_eq_true_eq] at hsT
          obtain ⟨g1, g2, g3, g4⟩ := hsT
          obtain ⟨as', q9, fs, rfl, a1, a2, a3, a4⟩ := hk2 rfl
          obtain ⟨m1, m2, m3⟩ := hM hM1 hM2 hok9
          have hR9 := hfr _ hk1
          have hin := hts _ (gt_of ck_iml (List.mem_map.mpr ⟨_, List.contains_iff_mem.mp g2, rfl⟩) rfl)
          have hnest : va_Nw (.methodLinkNest (on (mO M)) x (mY M') "SkipCity") s := hxw _ (by rw [g1]; exact xw_of ck_vP3 (List.mem_map.mpr ⟨_, hm, rfl⟩) rfl)
          have cw := va_cnB (R := R) (bytes := mB M') (maxL := mL M') (ret := none) (rm := rmM M' (h1.2.1 - h.2.1) (h1.2.2 - h.2.2)) (spec i).2.1 hts (goodIn_gt (wsin _ hM1 hM2)) (by unfold wsM; rw [g4]) rfl rfl hnest (hts _ (m_row hM1 hM2).2) ⟨(m_row2 hM1).2.1.1, (m_row2 hM1).2.1.2, by rw [g1]; exact hpd⟩ hR9
          exact call_fin hR hS hl hc ⟨m1, m2⟩ (va_runIN ⟨hx, hb, hml, hown, hts⟩ m3 ⟨cw, by rw [g1]; exact g3, hin⟩ ⟨mpre_blind, hpre⟩ rfl a1 hl.1 a2 (hW8 _ a3) hd ⟨room_ok hc.1 m1 hrm.1, room_ok hc.2 m2 hrm.2⟩) kk
        · obtain ⟨_, -, e1⟩ := Option.map_eq_some_iff.mp ht; cases e1
    | invokevirtual x =>
      unfold tr at ht
      dsimp only at ht
      split at ht
      · rename_i i9 hlk
        cases ht
        obtain ⟨q, hm⟩ := lk4_mem hlk
        obtain ⟨t, ht1, ⟨k, et1, et2, hk1, hk2, hk3⟩, hfo, hM1, hM2, hk13, hsT, hpd⟩ := key _ _ _ (List.all_eq_true.mp cs_vVV _ hm) rfl
        subst et1
        obtain ⟨as', q9, fs, rfl, a1, a2, a3, a4⟩ := hk2 rfl
        obtain ⟨m1, m2, m3⟩ := hM hM1 hM2 hok9
        have hR9 := hfr _ hk1
        have hrec := recv hk13 a4
        have selin : ∀ {x9 : MethodName}, selIn t.1 x9 M' = true → Cond.selects (kNm t.1) x9 (mY M') ∈ gt := by
          intro x9 hs9
          obtain ⟨z, hz, e⟩ := List.any_eq_true.mp hs9
          simp only [Bool.and_eq_true, beq_iff_eq, decide_eq_true_eq] at e
          obtain ⟨z1, z2, z3⟩ := z
          obtain ⟨e1, e2, e3⟩ := e
          dsimp only at e1 e2 e3
          subst e1; subst e2; subst e3
          exact gt_of ck_sll (List.mem_map.mpr ⟨_, hz, rfl⟩) rfl
        have smein : ∀ {x9 : MethodName} {o9 : String}, smeIn x9 o9 = true → Cond.sameMethod x9.cls o9 x9.name x9.desc ∈ gt := by
          intro x9 o9 hs9
          obtain ⟨z, hz, e⟩ := List.any_eq_true.mp hs9
          simp only [Bool.and_eq_true, decide_eq_true_eq] at e
          obtain ⟨z1, z2⟩ := z
          obtain ⟨e1, e2⟩ := e
          dsimp only at e1 e2
          subst e1; subst e2
          exact gt_of ck_sme (List.mem_map.mpr ⟨_, hz, rfl⟩) rfl
        have hlink := gt_of ck_vVV (List.mem_map.mpr ⟨_, hm, rfl⟩) rfl
        have e0 : t.2.2 = 4 ∨ t.2.2 = 5 ∨ t.2.2 = 6 := by simpa using hfo
        unfold siteT at hsT
        rw [et2] at hsT
        rcases e0 with e0 | e0 | e0
        · rw [e0] at hsT
          simp only [Bool.and_eq_true, decide_eq_true_eq] at hsT
          obtain ⟨g1, g2, g3, g4⟩ := hsT
          have hcl : (mY M').cls = kNm t.1 := by rw [g1]; exact g4
          have hT : GoodIn gt (wsV (on (mO M)) x (kNm t.1) (mY M') (wsM M')) := goodIn_gt (by
            intro w hw
            rcases List.mem_append.mp hw with hw | hw
            · simp only [List.mem_cons, List.not_mem_nil, or_false] at hw
              rcases hw with rfl | rfl | rfl | rfl
              · rw [g1]; exact hlink
              · exact gt_of ck_iml (List.mem_map.mpr ⟨_, List.contains_iff_mem.mp g2, rfl⟩) rfl
              · exact selin (by rw [g1]; exact g3)
              · rw [← hcl]; exact (m_row hM1 hM2).2
            · exact wsin _ hM1 hM2 w hw)
          have cw := cwV (R := R) (bytes := mB M') (maxL := mL M') (ret := mR M') (rm := rmM M' (h1.2.1 - h.2.1) (h1.2.2 - h.2.2)) (spec i).2.1 hts hT rfl rfl rfl ⟨hcl, (m_row2 hM1).2.1.1, (m_row2 hM1).2.1.2, by rw [g1]; exact hpd⟩ hR9
          exact call_fin hR hS hl hc ⟨m1, m2⟩ (va_runV ⟨hx, hb, hml, hown, hts⟩ m3 cw ⟨mpre_blind, hrec, hpre⟩ rfl a1 hl.1 a2 (hW8 _ a3) hd ⟨room_ok hc.1 m1 hrm.1, room_ok hc.2 m2 hrm.2⟩) kk
        · rw [e0] at hsT
          simp only [Bool.and_eq_true, decide_eq_true_eq] at hsT
          obtain ⟨g1, g2, g3, g4⟩ := hsT
          have hT : GoodIn gt (va_wsU (on (mO M)) x (kNm t.1) (mY M').cls (site q).1 (mY M') (wsM M')) := goodIn_gt (by
            intro w hw
            rcases List.mem_append.mp hw with hw | hw
            · simp only [List.mem_cons, List.not_mem_nil, or_false] at hw
              rcases hw with rfl | rfl | rfl | rfl | rfl
              · exact hlink
              · exact smein g4
              · exact selin g3
              · exact gt_of ck_iml (List.mem_map.mpr ⟨_, List.contains_iff_mem.mp g2, rfl⟩) rfl
              · exact (m_row hM1 hM2).2
            · exact wsin _ hM1 hM2 w hw)
          have cw := va_cwU (R := R) (bytes := mB M') (maxL := mL M') (ret := mR M') (rm := rmM M' (h1.2.1 - h.2.1) (h1.2.2 - h.2.2)) (spec i).2.1 hts hT rfl rfl rfl g1 ⟨(m_row2 hM1).2.1.1, (m_row2 hM1).2.1.2, hpd⟩ hR9
          exact call_fin hR hS hl hc ⟨m1, m2⟩ (va_runU ⟨hx, hb, hml, hown, hts⟩ m3 cw ⟨mpre_blind, hrec, hpre⟩ rfl a1 hl.1 a2 (hW8 _ a3) hd ⟨room_ok hc.1 m1 hrm.1, room_ok hc.2 m2 hrm.2⟩) kk
        · rw [e0] at hsT
          simp only [Bool.and_eq_true, decide_eq_true_eq] at hsT
          obtain ⟨g2, g3, g4, g5, g6, g7⟩ := hsT
          have hT : GoodIn gt (va_wsU (on (mO M)) x (kNm t.1) (site q).1.cls (site q).1 (mY M') (wsM M')) := goodIn_gt (by
            intro w hw
            rcases List.mem_append.mp hw with hw | hw
            · simp only [List.mem_cons, List.not_mem_nil, or_false] at hw
              rcases hw with rfl | rfl | rfl | rfl | rfl
              · exact hlink
              · exact smein g4
              · exact selin g3
              · exact gt_of ck_iml (List.mem_map.mpr ⟨_, List.contains_iff_mem.mp g2, rfl⟩) rfl
              · exact (m_row hM1 hM2).2
            · exact wsin _ hM1 hM2 w hw)
          have hz : va_Nw (.declares (site q).1) s := hxw _ (xw_of ck_dcl (List.mem_map.mpr ⟨_, List.contains_iff_mem.mp g5, rfl⟩) rfl)
          have cw := va_cwA (R := R) (bytes := mB M') (maxL := mL M') (ret := mR M') (rm := rmM M' (h1.2.1 - h.2.1) (h1.2.2 - h.2.2)) (spec i).2.1 hts hT rfl rfl rfl hz ⟨g6, g7, hpd⟩ hR9
          exact call_fin hR hS hl hc ⟨m1, m2⟩ (va_runU ⟨hx, hb, hml, hown, hts⟩ m3 cw ⟨mpre_blind, hrec, hpre⟩ rfl a1 hl.1 a2 (hW8 _ a3) hd ⟨room_ok hc.1 m1 hrm.1, room_ok hc.2 m2 hrm.2⟩) kk
      · split at ht
        · cases ht
        · obtain ⟨_, -, e1⟩ := Option.map_eq_some_iff.mp ht; cases e1
    | _ =>
      exfalso
      unfold tr at ht
      first
        | (cases ht; done)
        | (obtain ⟨-, e1⟩ := tgt_spec ht; cases e1; done)
        | (obtain ⟨_, -, e1⟩ := Option.map_eq_some_iff.mp ht; cases e1; done)
        | (dsimp only at ht; split at ht <;> first | (cases ht; done) | (split at ht <;> (cases ht; done)) | (obtain ⟨_, -, e1⟩ := Option.map_eq_some_iff.mp ht; cases e1; done))
  · cases hop
  · cases hop
end SIMR
