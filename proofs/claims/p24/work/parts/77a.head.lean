/-! ===== what holds at the law's head ===== -/
noncomputable def lawV : SLV := [(0, (7, kSCR, 2147483648)), (1, (7, kX, 2147483648)), (2, (7, kM, 2147483648)), (3, (1, 0, 0))]
noncomputable def lawT (W : SG) : ST := (18, lawL, lawV, W, lawV, [])
noncomputable def PW (ad : AD) (h : AH) (hh : Nat × Nat × Nat × Nat) (w : Nat) : Prop := (hh.1 = 0 ∧ ∃ X, At ad h (hh.2.1 / 128) 0 (hh.2.1 % 128) (.int X) ∧ i2n X = w) ∨ (hh.1 = 2 ∧ ∀ k, ad hh.2.1 k ≠ none ↔ 2147483648 + k < w)
noncomputable def rngB (hh : Nat × Nat × Nat × Nat) (u w : Nat) : Bool := bif Nat.ble hh.2.2.1 hh.2.2.2 then Nat.ble hh.2.2.1 w && Nat.ble w hh.2.2.2 else Nat.beq w u
noncomputable def HVs (ad : AD) (h : AH) (u : Nat) (hc : List (Nat × Nat × Nat × Nat)) (ws : List Nat) : Prop := match hc, ws with
  | [], [] => True
  | hh :: r, w :: ws => PW ad h hh w ∧ (rngB hh u w = true ∧ HVs ad h w r ws)
  | _, _ => False
noncomputable def RLs (i : Nat) (ws : List Nat) : Prop := ∀ q, q ∈ rlL → ∀ w, ws[q.1.2]? = some w → w + q.2.2 ≤ 2147483648 + i
noncomputable def HdV (ad : AD) (h : AH) (i : Nat) : Prop := (∀ k, ad kBL k ≠ none ↔ 2147483648 + k < 2147483652) ∧ ((∀ k, ad kSH k ≠ none ↔ 2147483648 + k < 2147483652) ∧ ∃ u ws, HVs ad h u hcL ws ∧ RLs i ws)
noncomputable def HeadOK (σ : Nat → Nat) (ad : AD) (h : AH) (L : LV) (i : Nat) : Prop := (∀ k, k < 6 → ad (stc k) 0 = some (σ k)) ∧ (TS ad h npL (fun _ _ => False) no2 ∧ (LVM (fun _ => 2147483648 + i, fun _ => 0, ad) 0 1 lawV L ∧ (i ≤ 3584 ∧ HdV ad h i)))
theorem lawV_find {i : Nat} {s : SV} (hs : s_find i lawV = some s) : (i = 0 ∧ s = (7, kSCR, 2147483648)) ∨ ((i = 1 ∧ s = (7, kX, 2147483648)) ∨ ((i = 2 ∧ s = (7, kM, 2147483648)) ∨ (i = 3 ∧ s = (1, 0, 0)))) := by
  unfold lawV at hs
  by_cases e0 : (0 : Nat) = i
  · rw [← e0, s_hit] at hs
    exact Or.inl ⟨e0.symm, (Option.some.inj hs).symm⟩
  · rw [s_miss e0] at hs
    by_cases e1 : (1 : Nat) = i
    · rw [← e1, s_hit] at hs
      exact Or.inr (Or.inl ⟨e1.symm, (Option.some.inj hs).symm⟩)
    · rw [s_miss e1] at hs
      by_cases e2 : (2 : Nat) = i
      · rw [← e2, s_hit] at hs
        exact Or.inr (Or.inr (Or.inl ⟨e2.symm, (Option.some.inj hs).symm⟩))
      · rw [s_miss e2] at hs
        by_cases e3 : (3 : Nat) = i
        · rw [← e3, s_hit] at hs
          exact Or.inr (Or.inr (Or.inr ⟨e3.symm, (Option.some.inj hs).symm⟩))
        · rw [s_miss e3] at hs
          cases hs
theorem law_cls : (Nat.ble kSCR 999 && (Nat.ble kX 999 && Nat.ble kM 999)) = true := by decide +kernel
section
variable {σ nu : Nat → Nat} {base b kb : Nat} {xs : List Int32} {h0 h : AH} {hb : (Nat → Option AO) × Nat} {G : qe_SG} {T : List (Nat × Nat × Nat)} {hh : Nat × Nat × Nat × Nat}
theorem pws_ok {w : Nat} (hR : qe_RM (qe_al σ (σ 0) base) nu base hb G h) (hs : pwS T G hh = some w) : PW (adS (qe_al σ b base) T) h hh w := by
  unfold pwS at hs
  cases e0 : Nat.beq hh.1 0
  · rw [e0, cond_false] at hs
    cases e2 : Nat.beq hh.1 2
    · rw [e2, cond_false] at hs
      cases hs
    · rw [e2, cond_true] at hs
      obtain ⟨b1, b2⟩ := bif_some hs
      cases b2
      obtain ⟨b1, b2⟩ := and2 b1
      refine Or.inr ⟨beqt e2, fun k => ?_⟩
      rw [ads_has]
      constructor
      · intro hk
        obtain ⟨j, hj⟩ := tb_has_ok hk
        have := List.all_eq_true.mp b1 _ (tb_mem hj)
        dsimp only at this
        rw [Nat.beq_refl, cond_true] at this
        have := blet this
        omega
      · intro hk
        exact List.all_eq_true.mp b2 k (List.mem_range.mpr (by omega))
  · rw [e0, cond_true] at hs
    obtain ⟨x, x1, x2⟩ := vls_ok (b := b) hR hs
    exact Or.inl ⟨beqt e0, x, x1, x2⟩
theorem hvs_ok (hR : qe_RM (qe_al σ (σ 0) base) nu base hb G h) : ∀ {hc : List (Nat × Nat × Nat × Nat)} {u : Nat} {ws : List Nat}, hvS T G u hc = some ws → HVs (adS (qe_al σ b base) T) h u hc ws := by
  intro hc
  induction hc with
  | nil => intro u ws hs; cases hs; exact True.intro
  | cons hh r ih =>
    intro u ws hs
    rw [hvS] at hs
    split at hs
    · cases hs
    · rename_i w hw
      obtain ⟨b1, b2⟩ := bif_some hs
      split at b2
      · rename_i ws' hws
        cases b2
        exact ⟨pws_ok hR hw, b1, ih hws⟩
      · cases b2
theorem isat_ok {c k : Nat} (h : isAt c k T = true) : tb_at c 0 T = some k := by
  unfold isAt at h
  split at h
  · rename_i j hj
    rw [hj, beqt h]
  · cases h
theorem start_head (hS : Start base b σ xs h0) (hx : xs.length ≤ 3584) (hR : qe_RM (qe_al σ (σ 0) base) nu base (h0.1, 0) G h) (hc : ckS0 tbS G = true) : HeadOK σ (adS (qe_al σ b base) tbS) h (lv_put 3 (.int (Int32.ofInt 0)) (lv_put 2 (.ref (qe_al σ b base oM)) (lv_put 1 (.ref (qe_al σ b base oX)) (am_args 0 [.ref b])))) 0 ∧ (h.2.1 ≤ base + 200 ∧ h.2.2 ≤ 10000) := by
  obtain ⟨hσ, hb'⟩ := start_lt hS
  have hA := start_aok hσ
  obtain ⟨c1, c2⟩ := and2 hc
  obtain ⟨c2, c3⟩ := and2 c2
  obtain ⟨c3, c4⟩ := and2 c3
  obtain ⟨d1, d2⟩ := and2 c4
  obtain ⟨d3, d4⟩ := and2 d1
  obtain ⟨d4, d5⟩ := and2 d4
  obtain ⟨d5, d6⟩ := and2 d5
  obtain ⟨f1, f2⟩ := and2 d2
  obtain ⟨f2, f3⟩ := and2 f2
  obtain ⟨f3, f4⟩ := and2 f3
  obtain ⟨f4, f5⟩ := and2 f4
  obtain ⟨u1, u2⟩ := and2 tb_T
  obtain ⟨u2, u3⟩ := and2 u2
  obtain ⟨l1, l2⟩ := and2 law_cls
  obtain ⟨l2, l3⟩ := and2 l2
  obtain ⟨kb, hkb, hkb2⟩ := hS.2.2.2.1
  have hs : h.1 b = some (kb, xs.map .int) := by rw [hR.2.2.2.2.2 b hb']; exact hkb2
  refine ⟨⟨fun k hk => ?_, ⟨t1_start hR hs hkb hx c1, t2_start hσ hb' u1, t3_start hσ hb' hR c1, t4_start hR hs c1 u2, t5_start hR c2, t6_start hR c1 c3⟩, ?_, Nat.zero_le _, ?_⟩, ?_, ?_⟩
  · have := isat_ok (List.all_eq_true.mp d6 k (List.mem_range.mpr hk))
    rw [ads_of this, ← al_n6 (by omega), hA.2.2 k hk]
  · intro i s hi
    have cls : ∀ {c k : Nat}, Nat.ble c 999 = true → isAt c k tbS = true → SVm (fun _ => 2147483648 + 0, fun _ => 0, adS (qe_al σ b base) tbS) 0 1 (7, c, 2147483648) (.ref (qe_al σ b base k)) := by
      intro c k h1 h2
      refine Or.inr (Or.inr (Or.inr (Or.inr ⟨rfl, (fun e => by cases e), (by have := blet h1; show c < 1000; omega), Or.inr ⟨Nat.le_refl _, _, ?_, rfl⟩⟩)))
      show adS (qe_al σ b base) tbS c (2147483648 - 2147483648) = _
      rw [Nat.sub_self]
      exact ads_of (isat_ok h2)
    rcases lawV_find hi with ⟨rfl, rfl⟩ | ⟨rfl, rfl⟩ | ⟨rfl, rfl⟩ | ⟨rfl, rfl⟩
    · exact ⟨.ref b, rfl, cls l1 d5⟩
    · exact ⟨.ref (qe_al σ b base oX), rfl, cls l2 d3⟩
    · exact ⟨.ref (qe_al σ b base oM), rfl, cls l3 d4⟩
    · exact ⟨.int (Int32.ofInt 0), rfl, Or.inl ⟨rfl, fun _ => Nat.lt_succ_self 0, _, rfl, by show i2n (Int32.ofInt 0) = 2147483648 + 0; decide +kernel⟩⟩
  · have cnt : ∀ {c : Nat}, (match pwS tbS G (2, c, 0, 0) with | some w => Nat.beq w 2147483652 | none => false) = true → ∀ k, adS (qe_al σ b base) tbS c k ≠ none ↔ 2147483648 + k < 2147483652 := by
      intro c h1
      split at h1
      · rename_i w hw
        rw [beqt h1] at hw
        rcases pws_ok (b := b) hR hw with ⟨e, -⟩ | ⟨-, h2⟩
        · cases e
        · exact h2
      · cases h1
    refine ⟨cnt f2, cnt f3, ?_⟩
    split at f1
    · rename_i ws hws
      refine ⟨_, ws, hvs_ok hR hws, fun q hq w hw => ?_⟩
      have := List.all_eq_true.mp f1 q hq
      rw [hw] at this
      exact blet this
    · cases f1
  · have := hR.2.2.2.1
    have := blet f4
    omega
  · have e := hR.2.2.2.2.1
    have := blet f5
    have e : h.2.2 = 0 + qe_g_u G := e
    omega
end
