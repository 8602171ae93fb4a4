/-! ===== the symbolic state at the law's head ===== -/
noncomputable def tpH (G : SG) (u : SV) (hc : List (Nat × Nat × Nat × Nat)) : List SV × SG := match hc with
  | [] => ([], G)
  | hh :: r => (let p := h_place hh.1 hh.2.1 lawV
    bif Nat.ble hh.2.2.1 hh.2.2.2 then (let o := tpH (y_put (y_fresh G hh.2.2.1 hh.2.2.2) p.1 p.2.1 p.2.2 (1, g_n G, 0)) (1, g_n G, 0) r; ((1, g_n G, 0) :: o.1, o.2))
    else (let o := tpH (y_put G p.1 p.2.1 p.2.2 u) u r; (u :: o.1, o.2)))
noncomputable def tpF (vs : List SV) (G : SG) (l : List (RF × RF × Nat)) : Option SG := match l with
  | [] => some G
  | q :: r => (match vs[q.1.2]? with
    | none => none
    | some x => (match y_fact G x (1, 0, 0) q.2.2 with
      | none => none
      | some G2 => tpF vs G2 r))
noncomputable def Gtop (lo hi : Nat) : SG := ([], [(2, lo, hi), (1, 0, 4294967295), (0, 2147483648, 2147487232)], [(2, 5, (1, 1, 0), sk 2147483711)], 3, 0, 0, [], [], [], [], [], npL)
noncomputable def tpS (G : SG) : SG := y_put (y_put (y_put (y_put (y_fresh G 2147483648 2147487232) kSCR (sk 2147483648) (9, 0, 0) (1, g_n G, 0)) kBL (sk 2147483648) (8, 0, 0) (sk 2147483652)) kSH (sk 2147483648) (8, 0, 0) (sk 2147483652)) kSCR (sk 2147483648) (1, 0, 0) (1, 1, 0)
noncomputable def topL (lo hi : Nat) : SG := match tpF (tpH (Gtop lo hi) (sk 0) hcL).1 (tpH (Gtop lo hi) (sk 0) hcL).2 rlL with
  | none => Gtop lo hi
  | some G => tpS G
theorem hc_cls : hcL.all (fun hh => Nat.ble (bif Nat.beq hh.1 0 then hh.2.1 / 128 else hh.2.1) 999) = true := by decide +kernel
theorem hc_head : (match hcL with | hh :: _ => Nat.ble hh.2.2.1 hh.2.2.2 | [] => true) = true := by decide +kernel
theorem rll_len : rlL.all (fun q => Nat.ble (q.1.2 + 1) hcL.length) = true := by decide +kernel
theorem hvs_any {ad : AD} {h : AH} {u u' : Nat} {ws : List Nat} (hv : HVs ad h u hcL ws) : HVs ad h u' hcL ws := by
  have h1 := hc_head
  generalize hcL = hc at *
  cases hc with
  | nil => cases ws <;> exact hv
  | cons hh r => cases ws with
    | nil => exact hv
    | cons w ws =>
      obtain ⟨v1, v2, v3⟩ := hv
      refine ⟨v1, ?_, v3⟩
      dsimp only at h1
      unfold rngB at v2 ⊢
      rw [h1, cond_true] at v2 ⊢
      exact v2
section
variable {B : BS} {I : IN} {G G' : SG} {h : AH} {hh : Nat × Nat × Nat × Nat} {w i : Nat} {s : SV}
theorem tph_len : ∀ {hc : List (Nat × Nat × Nat × Nat)} {G : SG} {u : SV}, (tpH G u hc).1.length = hc.length := by
  intro hc
  induction hc with
  | nil => intro G u; rfl
  | cons hh r ih =>
    intro G u
    rw [tpH]
    dsimp only
    cases Nat.ble hh.2.2.1 hh.2.2.2
    · rw [cond_false, List.length_cons, List.length_cons, ih]
    · rw [cond_true, List.length_cons, List.length_cons, ih]
/-- a place that the head knows, as a cell -/
theorem pw_cell (hc : Nat.ble (bif Nat.beq hh.1 0 then hh.2.1 / 128 else hh.2.1) 999 = true) (hp : PW I.2.2 h hh w) {n m : Nat} (is : isI s = true) (os : okn m s) (es : sval I.1 s = w) : CellOK2 I n m h ((h_place hh.1 hh.2.1 lawV).1, (h_place hh.1 hh.2.1 lawV).2.1, (h_place hh.1 hh.2.1 lawV).2.2, s) := by
  have hc := blet hc
  rcases hp with ⟨e0, X, x1, x2⟩ | ⟨e2, hk⟩
  · rw [e0] at hc ⊢
    have hc : hh.2.1 / 128 ≤ 999 := hc
    have ep : h_place 0 hh.2.1 lawV = (hh.2.1 / 128, sk 2147483648, sk (2147483648 + hh.2.1 % 128)) := rfl
    rw [ep]
    exact cell_mk (a := 0) (b := hh.2.1 % 128) (by omega) (fun e => by cases e) (fun e => by cases e) rfl rfl rfl x1 (sv_of_int ⟨is, os, by rw [x2]; exact es.symm⟩)
  · rw [e2] at hc ⊢
    have hc : hh.2.1 ≤ 999 := hc
    have ep : h_place 2 hh.2.1 lawV = (hh.2.1, sk 2147483648, (8, 0, 0)) := rfl
    rw [ep]
    refine ⟨fun e => (by cases e), fun e => (by cases e), by show hh.2.1 < 1000; omega, Or.inr (Or.inl ⟨rfl, is, os, fun k => ?_⟩)⟩
    show I.2.2 hh.2.1 k ≠ none ↔ 2147483648 + k < sval I.1 s
    rw [es]
    exact hk k
theorem tph_ok : ∀ {hc : List (Nat × Nat × Nat × Nat)} {I : IN} {G : SG} {u : SV} {u0 : Nat} {ws : List Nat}, hc.all (fun hh => Nat.ble (bif Nat.beq hh.1 0 then hh.2.1 / 128 else hh.2.1) 999) = true → RM B I G h → isI u = true → okn (g_n G) u → sval I.1 u = u0 → HVs I.2.2 h u0 hc ws →
    ∃ nu', RM B (nu', I.2) (tpH G u hc).2 h ∧ (NH I G nu' (tpH G u hc).2 ∧ ∀ (j : Nat) (s : SV), (tpH G u hc).1[j]? = some s → okn (g_n (tpH G u hc).2) s ∧ ∃ w, ws[j]? = some w ∧ sval nu' s = w) := by
  intro hc
  induction hc with
  | nil => intro I G u u0 ws _ hR _ _ _ _; exact ⟨I.1, hR, nh_refl I G, fun j s h => by cases h⟩
  | cons hh r ih =>
    intro I G u u0 ws hcl hR iu ou eu hv
    cases ws with
    | nil => exact hv.elim
    | cons w ws =>
      obtain ⟨v1, v2, v3⟩ := hv
      rw [List.all_cons] at hcl
      obtain ⟨c1, c2⟩ := and2 hcl
      rw [tpH]
      dsimp only
      unfold rngB at v2
      cases hr : Nat.ble hh.2.2.1 hh.2.2.2
      · rw [hr, cond_false] at v2
        rw [cond_false]
        have ew : sval I.1 u = w := by rw [eu]; exact (beqt v2).symm
        have hR2 := rm_cell hR (pw_cell c1 v1 iu ou ew)
        obtain ⟨nu', r1, r2, r3⟩ := ih c2 hR2 iu ou ew v3
        refine ⟨nu', r1, r2, fun j s hj => ?_⟩
        cases j with
        | zero =>
          cases hj
          exact ⟨okn_up ou r2.2.1, w, rfl, by rw [sval_ag ou r2.1]; exact ew⟩
        | succ j => exact r3 j s hj
      · rw [hr, cond_true] at v2
        rw [cond_true]
        obtain ⟨b1, b2⟩ := and2 v2
        have k1 := nk_fresh (lo := hh.2.2.1) (hi := hh.2.2.2) (w := w) hR.1 (blet b1) (blet b2)
        have hR1 := rm_nk hR k1
        have on : okn (g_n (y_fresh G hh.2.2.1 hh.2.2.2)) ((1, g_n G, 0) : SV) := fun _ => Nat.lt_succ_self _
        have en : sval (nset I.1 (g_n G) w) ((1, g_n G, 0) : SV) = w := nset_at _ _ _
        have hR2 := rm_cell hR1 (pw_cell (I := (nset I.1 (g_n G) w, I.2)) c1 v1 rfl on en)
        obtain ⟨nu', r1, r2, r3⟩ := ih (I := (nset I.1 (g_n G) w, I.2)) c2 hR2 rfl on en v3
        refine ⟨nu', r1, nh_trans (nh_put (nh_nk k1)) r2, fun j s hj => ?_⟩
        cases j with
        | zero =>
          cases hj
          exact ⟨okn_up on r2.2.1, w, rfl, by rw [sval_ag on r2.1]; exact en⟩
        | succ j => exact r3 j s hj
theorem tpf_ok {vs : List SV} {ws : List Nat} : ∀ {l : List (RF × RF × Nat)} {G : SG}, GK I.1 G → okn (g_n G) ((1, 0, 0) : SV) → I.1 0 = 2147483648 + i → (∀ (j : Nat) (s : SV), vs[j]? = some s → okn (g_n G) s ∧ ∃ w, ws[j]? = some w ∧ sval I.1 s = w) → (∀ q, q ∈ l → q.1.2 < vs.length) → (∀ q, q ∈ l → ∀ w, ws[q.1.2]? = some w → w + q.2.2 ≤ 2147483648 + i) → ∃ G', tpF vs G l = some G' ∧ NK I.1 G I.1 G' := by
  intro l
  induction l with
  | nil => intro G hg _ _ _ _ _; exact ⟨G, rfl, nk_refl hg⟩
  | cons q r ih =>
    intro G hg o0 e0 hv hl hw
    have h1 := hl q List.mem_cons_self
    have h2 : vs[q.1.2]? = some vs[q.1.2] := List.getElem?_eq_getElem h1
    obtain ⟨o1, w, w1, w2⟩ := hv _ _ h2
    have h3 := hw q List.mem_cons_self w w1
    have e1 : sval I.1 ((1, 0, 0) : SV) = 2147483648 + i := e0
    obtain ⟨G2, g1, g2⟩ := y_fact_ok (k := q.2.2) hg o1 o0 (by rw [w2, e1]; exact h3)
    obtain ⟨G3, g3, g4⟩ := ih g2.1 (okn_nk o0 g2) e0 (fun j s hj => ⟨okn_nk (hv j s hj).1 g2, (hv j s hj).2⟩) (fun p hp => hl p (List.mem_cons_of_mem _ hp)) (fun p hp => hw p (List.mem_cons_of_mem _ hp))
    refine ⟨G3, ?_, nk_trans g2 g4⟩
    rw [tpF, h2]
    dsimp only
    rw [g1]
    exact g3
end
