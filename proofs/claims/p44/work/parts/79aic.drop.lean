section
/-! ===== the tasks are forgotten: class 7 has no objects more ===== -/
noncomputable def adC (ad : AD) : AD := fun c k => bif Nat.beq c 7 then none else ad c k
theorem adC_ne {ad : AD} {c k : Nat} (hc : c ≠ 7) : adC ad c k = ad c k := by
  unfold adC
  cases e : Nat.beq c 7
  · rfl
  · exact absurd (Nat.eq_of_beq_eq_true e) hc
theorem adC_7 {ad : AD} {k : Nat} : adC ad 7 k = none := rfl
theorem adC_some {ad : AD} {c k q : Nat} (h : adC ad c k = some q) : c ≠ 7 ∧ ad c k = some q := by
  have hc : c ≠ 7 := fun e => by
    rw [e, adC_7] at h
    cases h
  rw [adC_ne hc] at h
  exact ⟨hc, h⟩
theorem at_C {ad : AD} {h : AH} {c i p : Nat} {v : Value} (hc : c ≠ 7) (ha : At ad h c i p v) : At (adC ad) h c i p v := by
  obtain ⟨q, k, vs, a1, a2, a3⟩ := ha
  exact ⟨q, k, vs, by rw [adC_ne hc]; exact a1, a2, a3⟩
theorem at_C' {ad : AD} {h : AH} {c i p : Nat} {v : Value} (ha : At (adC ad) h c i p v) : c ≠ 7 ∧ At ad h c i p v := by
  obtain ⟨q, k, vs, a1, a2, a3⟩ := ha
  obtain ⟨b1, b2⟩ := adC_some a1
  exact ⟨b1, q, k, vs, b2, a2, a3⟩
theorem rf_C {ad : AD} {c e : Nat} {v : Value} (hc : c ≠ 7) (hr : RefV ad c e v) : RefV (adC ad) c e v := by
  rcases hr with hr | ⟨e1, q, e2, e3⟩
  · exact Or.inl hr
  · exact Or.inr ⟨e1, q, by rw [adC_ne hc]; exact e2, e3⟩
set_option maxRecDepth 100000 in
theorem dr_ck : (List.range 1000).all (fun c => (cd c).2.2.all (fun ty => !(Nat.beq ty.2.1 7) || (Nat.ble ty.1 1 || Nat.beq ty.1 9))) = true := by decide +kernel
theorem dr_7 : (cd 7).2.2.all (fun ty => !(Nat.beq ty.1 4 || Nat.beq ty.1 5)) = true := by decide +kernel
theorem dr_s : sgl 7 = false := by decide +kernel
theorem dr_l : lstt.all (fun x => !(Nat.beq x.1 7) && (!(Nat.beq x.2.1 7) || Nat.beq x.1 16)) = true := by decide +kernel
theorem dr_st : ∀ i, i < 6 → stc i ≠ 7 := by decide +kernel
noncomputable def drP (K : Nat × List (Nat × Nat × Nat) × List (List (Nat × Nat × Nat)) × List (List (Nat × Nat × Nat))) : Bool := !(Nat.beq K.1 8) && K.2.1.all (fun m => !(Nat.beq m.1 7) && !(Nat.beq (tgc m) 7))
noncomputable def drS (K : Nat × List (Nat × Nat × Nat) × List (List (Nat × Nat × Nat)) × List (List (Nat × Nat × Nat))) : Bool := Nat.beq K.1 8 && (match K.2.1, K.2.2.1, K.2.2.2 with
  | [m1, m2], [[_, e1]], [[_, e2]] => (Nat.beq m1.1 7 && (Nat.beq m1.2.1 0 && (Nat.beq m2.2.1 1 && !(Nat.beq m2.1 7)))) && ((Nat.beq e1.1 0 && Nat.beq e2.1 0) && (Nat.ble e2.2.1 e1.2.1 && Nat.ble e1.2.2 e2.2.2))
  | _, _, _ => false)
set_option maxRecDepth 100000 in
theorem dr_cp : (List.range npL).all (fun t => drP (cp_at t) || drS (cp_at t)) = true := by decide +kernel
section
variable {σ : Nat → Nat} {ad : AD} {h : AH} {L : LV} {i np t k : Nat} {ex ho : Nat → Nat → Prop}
theorem tv_C {ty : TY} {j p : Nat} {v : Value} (hty : ¬ (ty.2.1 = 7) ∨ (ty.1 ≤ 1 ∨ ty.1 = 9)) (hv : TV ad ty j p v) : TV (adC ad) ty j p v := by
  unfold TV at hv ⊢
  rcases hv with hv | hv | ⟨e, x, hv⟩ | ⟨e, x, h1, hv⟩ | ⟨e, hv⟩ | ⟨e, hv⟩ | ⟨e, hv⟩ | ⟨e, hv⟩ | hv
  · exact Or.inl hv
  · exact Or.inr (Or.inl hv)
  · exact Or.inr (Or.inr (Or.inl ⟨e, x, rf_C (by omega) hv⟩))
  · exact Or.inr (Or.inr (Or.inr (Or.inl ⟨e, x, h1, rf_C (by omega) hv⟩)))
  · exact Or.inr (Or.inr (Or.inr (Or.inr (Or.inl ⟨e, rf_C (by omega) hv⟩))))
  · exact Or.inr (Or.inr (Or.inr (Or.inr (Or.inr (Or.inl ⟨e, hv.imp id (rf_C (by omega))⟩)))))
  · exact Or.inr (Or.inr (Or.inr (Or.inr (Or.inr (Or.inr (Or.inl ⟨e, rf_C (by omega) hv⟩))))))
  · exact Or.inr (Or.inr (Or.inr (Or.inr (Or.inr (Or.inr (Or.inr (Or.inl ⟨e, rf_C (by omega) hv⟩)))))))
  · exact Or.inr (Or.inr (Or.inr (Or.inr (Or.inr (Or.inr (Or.inr (Or.inr hv)))))))
theorem ty_C {c p : Nat} {ty : TY} (hc : c < 1000) (hty : ct_at c p = some ty) : ¬ (ty.2.1 = 7) ∨ (ty.1 ≤ 1 ∨ ty.1 = 9) := by
  have h1 := List.all_eq_true.mp (List.all_eq_true.mp dr_ck c (List.mem_range.mpr hc)) ty (ct_mem hty)
  rcases or2 h1 with h1 | h1
  · left
    intro e
    rw [e] at h1
    cases h1
  · rcases or2 h1 with h1 | h1
    · exact Or.inr (Or.inl (blet h1))
    · exact Or.inr (Or.inr (beqt h1))
theorem mp_1 {m : Nat × Nat × Nat} : (mplace m k).1 = m.1 := by
  unfold mplace
  cases Nat.beq m.2.1 0
  · rw [cond_false]
  · rw [cond_true]
theorem atm_C {m : Nat × Nat × Nat} {v : Value} (hm : m.1 ≠ 7) (ha : AtM ad h m k v) : AtM (adC ad) h m k v := at_C (by rw [mp_1]; exact hm) ha
theorem atm_C' {m : Nat × Nat × Nat} {v : Value} (ha : AtM (adC ad) h m k v) : m.1 ≠ 7 ∧ AtM ad h m k v := by
  obtain ⟨h1, h2⟩ := at_C' ha
  rw [mp_1] at h1
  exact ⟨h1, h2⟩
theorem en_C {m d : Nat × Nat × Nat} {gv : Nat → Nat} (hm : m.1 ≠ 7) (ht : tgc m ≠ 7) (hE : EnOK ad h k gv m d) : EnOK (adC ad) h k gv m d := by
  unfold EnOK at hE ⊢
  cases e1 : Nat.ble d.1 99
  · rw [e1, cond_false] at hE
    rw [cond_false]
    cases e2 : Nat.ble d.1 299
    · rw [e2, cond_false] at hE
      rw [cond_false]
      cases e3 : Nat.beq d.1 300
      · rw [e3, cond_false] at hE
        rw [cond_false]
        cases e4 : Nat.beq d.1 400
        · rw [e4, cond_false] at hE
          rw [cond_false]
          cases e5 : Nat.beq d.1 600
          · rw [cond_false]
            exact True.intro
          · rw [e5, cond_true] at hE
            rw [cond_true]
            obtain ⟨x, x1, x2⟩ := hE
            exact ⟨x, atm_C hm x1, x2⟩
        · rw [e4, cond_true] at hE
          rw [cond_true]
          obtain ⟨q, x1, x2⟩ := hE
          exact ⟨q, atm_C hm x1, by rw [adC_ne ht]; exact x2⟩
      · rw [e3, cond_true] at hE
        rw [cond_true]
        exact atm_C hm hE
    · rw [e2, cond_true] at hE
      rw [cond_true]
      obtain ⟨j, q, x1, x2, x3⟩ := hE
      exact ⟨j, q, atm_C hm x1, by rw [adC_ne ht]; exact x2, x3⟩
  · rw [e1, cond_true] at hE
    rw [cond_true]
    obtain ⟨x, x1, x2⟩ := hE
    exact ⟨x, atm_C hm x1, x2⟩
theorem dc_C {all : Bool} {gv : Nat → Nat} : ∀ {ms ds : List (Nat × Nat × Nat)}, ms.all (fun m => !(Nat.beq m.1 7) && !(Nat.beq (tgc m) 7)) = true → DC all ad h k gv ms ds → DC all (adC ad) h k gv ms ds := by
  intro ms
  induction ms with
  | nil => intro ds _ _; cases ds <;> exact True.intro
  | cons m ms ih =>
    intro ds hm hD
    cases ds with
    | nil => exact True.intro
    | cons d ds =>
      rw [List.all_cons] at hm
      obtain ⟨m1, m2⟩ := and2 hm
      obtain ⟨m1, m3⟩ := and2 m1
      have n1 : m.1 ≠ 7 := fun e => by rw [e] at m1; cases m1
      have n3 : tgc m ≠ 7 := fun e => by rw [e] at m3; cases m3
      exact ⟨fun ha => en_C n1 n3 (hD.1 ha), ih m2 hD.2⟩
theorem cp_C (hC : CpAt ad h t k) (ht : t < npL) : CpAt (adC ad) h t k := by
  have hck := List.all_eq_true.mp dr_cp t (List.mem_range.mpr ht)
  unfold CpAt at hC ⊢
  generalize cp_at t = K at *
  obtain ⟨lim, ms, dA, dB⟩ := K
  dsimp only at hC ⊢
  rcases or2 hck with hp | hs
  · unfold drP at hp
    obtain ⟨p1, p2⟩ := and2 hp
    dsimp only at p1 p2
    have l8 : lim ≠ 8 := fun e => by rw [e] at p1; cases p1
    have hI : Inb (adC ad) lim k ↔ Inb ad lim k := by
      unfold Inb
      by_cases l0 : lim = 0
      · exact ⟨fun _ => Or.inl l0, fun _ => Or.inl l0⟩
      · rw [adC_ne (by omega)]
    rintro ⟨m, v, hm, hv⟩
    obtain ⟨x1, x2⟩ := hC ⟨m, v, hm, (atm_C' hv).2⟩
    refine ⟨fun hi => ?_, fun hi => ?_⟩
    · obtain ⟨d, gv, y1, y2⟩ := x1 (hI.mp hi)
      exact ⟨d, gv, y1, dc_C p2 y2⟩
    · obtain ⟨d, gv, y1, y2⟩ := x2 fun hj => hi (hI.mpr hj)
      exact ⟨d, gv, y1, dc_C p2 y2⟩
  · unfold drS at hs
    obtain ⟨p1, p2⟩ := and2 hs
    dsimp only at p1 p2
    have l8 := beqt p1
    subst l8
    split at p2
    case h_2 => cases p2
    rename_i m1 m2 d1 e1 d2 e2
    obtain ⟨q1, q2⟩ := and2 p2
    obtain ⟨q3, q4⟩ := and2 q1
    obtain ⟨q4, q5⟩ := and2 q4
    obtain ⟨q5, q6⟩ := and2 q5
    obtain ⟨r1, r2⟩ := and2 q2
    obtain ⟨r1, r3⟩ := and2 r1
    obtain ⟨r2, r4⟩ := and2 r2
    have n2 : m2.1 ≠ 7 := fun e => by rw [e] at q6; cases q6
    have z1 := beqt r1
    have z3 := beqt r3
    have z2 := blet r2
    have z4 := blet r4
    have a1 := beqt q3
    have b1 := beqt q4
    have b2 := beqt q5
    rintro ⟨m, v, hm, hv⟩
    have hx : ∃ x, AtM ad h m2 k (.int x) ∧ (e2.2.1 ≤ i2n x ∧ i2n x ≤ e2.2.2) := by
      obtain ⟨x1, x2⟩ := hC ⟨m, v, hm, (atm_C' hv).2⟩
      by_cases hi : Inb ad 8 k
      · obtain ⟨d, gv, y1, y2⟩ := x1 hi
        have y1 := List.mem_singleton.mp y1
        subst y1
        have y3 := y2.2.1 rfl
        unfold EnOK at y3
        rw [z1, show Nat.ble 0 99 = true from rfl, cond_true] at y3
        obtain ⟨x, u1, -, u2, u3⟩ := y3
        exact ⟨x, u1, by omega, by omega⟩
      · obtain ⟨d, gv, y1, y2⟩ := x2 hi
        have y1 := List.mem_singleton.mp y1
        subst y1
        have y3 := y2.2.1 (by rw [b2]; rfl)
        unfold EnOK at y3
        rw [z3, show Nat.ble 0 99 = true from rfl, cond_true] at y3
        obtain ⟨x, u1, -, u2, u3⟩ := y3
        exact ⟨x, u1, u2, u3⟩
    refine ⟨fun hi => ?_, fun _ => ?_⟩
    · rcases hi with hi | hi
      · cases hi
      · exact absurd adC_7 hi
    · obtain ⟨x, u1, u2⟩ := hx
      refine ⟨_, fun _ => i2n x, List.mem_singleton.mpr rfl, fun ha => ?_, fun _ => ?_, True.intro⟩
      · rw [b1] at ha
        cases ha
      · unfold EnOK
        rw [z3, show Nat.ble 0 99 = true from rfl, cond_true]
        exact ⟨x, atm_C n2 u1, rfl, u2⟩
theorem ts_C (hT : TS ad h npL ex ho) (h0 : At ad h 16 0 2 (.int 0)) : TS (adC ad) h npL ex ho := by
  obtain ⟨t1, t2, t3, ⟨t4, t4', t4''⟩, t5, t6⟩ := hT
  refine ⟨fun c j q hc hq => ?_, fun c j c' j' q h1 h2 => ?_, fun c j q hq => t3 c j q (adC_some hq).2, ⟨fun c p ty hc hm hty h45 j q hq => ?_, fun c hs => ?_, fun c p ty hc hty h5 j hn => ?_⟩, fun l el ident mx hl q hq => ?_, fun t k ht he => cp_C (t6 t k ht he) ht⟩
  · obtain ⟨c7, hq⟩ := adC_some hq
    obtain ⟨x1, kk, vs, x2, x3, x4, x5⟩ := t1 c j q hc hq
    exact ⟨x1, kk, vs, x2, x3, x4, fun p v hv => by
      obtain ⟨ty, y1, y2⟩ := x5 p v hv
      exact ⟨ty, y1, tv_C (ty_C hc y1) y2⟩⟩
  · exact t2 c j c' j' q (adC_some h1).2 (adC_some h2).2
  · obtain ⟨c7, hq⟩ := adC_some hq
    have hn : c ≠ 7 := fun e => by
      subst e
      have h1 := List.all_eq_true.mp dr_7 ty (ct_mem hty)
      rcases h45 with e | e
      · rw [e] at h1; cases h1
      · rw [e] at h1; cases h1
    rw [adC_ne hn]
    exact t4 c p ty hc hm hty h45 j q hq
  · have hn : c ≠ 7 := fun e => by
      rw [e, dr_s] at hs
      cases hs
    obtain ⟨q, hq⟩ := t4' c hs
    exact ⟨q, by rw [adC_ne hn]; exact hq⟩
  · rcases t4'' c p ty hc hty h5 j (at_C' hn).2 with h1 | h1
    · left
      cases e : adC ad ty.2.1 j
      · rfl
      · rw [(adC_some e).2] at h1
        cases h1
    · exact Or.inr h1
  · obtain ⟨l7, hq⟩ := adC_some hq
    obtain ⟨-, d2⟩ := and2 (List.all_eq_true.mp dr_l _ hl)
    dsimp only at d2
    obtain ⟨mc, ed, sz, N, x1, x2, x3⟩ := t5 l el ident mx hl q hq
    refine ⟨mc, ed, sz, N, x1, x2, ?_⟩
    rcases x3 with ⟨q5, y1, y2⟩ | ⟨bq, us, y1, y2, y3, y4, y5, y6⟩
    · exact Or.inl ⟨q5, by rw [adC_ne (dr_st 5 (by omega))]; exact y1, y2⟩
    · refine Or.inr ⟨bq, us, by rw [adC_ne (by unfold bkc; omega)]; exact y1, y2, y3, y4, y5, fun j hj => ?_⟩
      obtain ⟨u, u1, u2⟩ := y6 j hj
      refine ⟨u, u1, ?_⟩
      by_cases e7 : el = 7
      · exfalso
        rcases or2 d2 with d2 | d2
        · rw [e7] at d2; cases d2
        · have e16 := beqt d2
          subst e16
          obtain ⟨q', k', vs', a1, a2, a3⟩ := h0
          rw [hq] at a1
          cases a1
          rw [x1] at a2
          cases a2
          have ez : sz = 0 := Value.int.inj (Option.some.inj a3)
          rw [ez, c_0] at x2
          omega
      · rcases u2 with ⟨a1, a2⟩ | ⟨a1, j', a2, a3⟩
        · exact Or.inl ⟨a1, rf_C e7 a2⟩
        · exact Or.inr ⟨a1, j', a2, rf_C e7 a3⟩
theorem pw_C {hh : Nat × Nat × Nat × Nat} {w : Nat} (hn : (bif Nat.beq hh.1 0 then hh.2.1 / 128 else hh.2.1) ≠ 7) (hp : PW ad h hh w) : PW (adC ad) h hh w := by
  rcases hp with ⟨e, X, x1, x2⟩ | ⟨e, x1⟩
  · rw [e] at hn
    exact Or.inl ⟨e, X, at_C hn x1, x2⟩
  · rw [e] at hn
    have hn' : hh.2.1 ≠ 7 := hn
    refine Or.inr ⟨e, fun k => ?_⟩
    rw [adC_ne hn']
    exact x1 k
theorem hvs_C {b b' : List (Nat × Nat × Nat × Nat)} (hb : ∀ u w, HVs ad h u b w → ∃ w', HVs (adC ad) h u b' w') : ∀ {a : List (Nat × Nat × Nat × Nat)} {u : Nat} {ws : List Nat}, a.all (fun hh => !(Nat.beq (bif Nat.beq hh.1 0 then hh.2.1 / 128 else hh.2.1) 7)) = true → HVs ad h u (a ++ b) ws → ∃ ws', HVs (adC ad) h u (a ++ b') ws' := by
  intro a
  induction a with
  | nil => intro u ws _ hv; exact hb u ws hv
  | cons hh a ih =>
    intro u ws ha hv
    rw [List.all_cons] at ha
    obtain ⟨a1, a2⟩ := and2 ha
    have hn : (bif Nat.beq hh.1 0 then hh.2.1 / 128 else hh.2.1) ≠ 7 := fun e => by rw [e] at a1; cases a1
    match ws, hv with
    | w :: ws, ⟨p1, p2, p3⟩ =>
      obtain ⟨ws', q⟩ := ih a2 p3
      exact ⟨w :: ws', pw_C hn p1, p2, q⟩
theorem hc_T7 : hcT.all (fun hh => !(Nat.beq (bif Nat.beq hh.1 0 then hh.2.1 / 128 else hh.2.1) 7)) = true := by decide +kernel
theorem rl_nil : rlL = [] := by decide +kernel
theorem r5_m7 : kMty ≠ 7 ∧ kMby ≠ 7 := by decide +kernel
theorem c_bs : (kBL ≠ 7 ∧ kSH ≠ 7) ∧ (kSCR ≠ 7 ∧ (kX ≠ 7 ∧ kM ≠ 7)) := by decide +kernel
theorem headC_0 (hH : HeadC σ ad h L i) : At ad h 16 0 2 (.int 0) := by
  obtain ⟨-, -, -, -, -, -, u, ws, hv, -⟩ := hH
  obtain ⟨u', hv'⟩ := hvs_drop (j := hcT.length) hv
  have e : hcC.drop hcT.length = hcE := by unfold hcC; exact List.drop_left
  rw [e] at hv'
  unfold hcE at hv'
  obtain ⟨X, ⟨x1, -⟩, x2⟩ := hv_pair (by omega) hv'
  have ex : X = 0 := i2n_inj (by rw [c_0]; omega)
  rw [ex] at x1
  exact x1
theorem headC_ok (hH : HeadC σ ad h L i) : HeadOK σ (adC ad) h L i := by
  have h0 := headC_0 hH
  obtain ⟨⟨b1, b2⟩, b3, b4, b5⟩ := c_bs
  obtain ⟨a1, a2, a3, a4, a5, a6, u, ws, hv, -⟩ := hH
  have hw : ∃ ws', HVs (adC ad) h u hcL ws' := by
    rw [hc_split]
    refine hvs_C (fun u w hv => ?_) hc_T7 (show HVs ad h u (hcT ++ hcE) ws from hv)
    unfold hcE at hv
    match w, hv with
    | [w0, w1, w2], ⟨p0, r0, p1, r1, _⟩ =>
      have e0 : w0 = 2147483648 := by
        unfold rngB at r0
        rw [show Nat.ble 2147483648 2147483648 = true from rfl, cond_true] at r0
        obtain ⟨z1, z2⟩ := and2 r0
        have z3 : 2147483648 ≤ w0 := blet z1
        have z4 : w0 ≤ 2147483648 := blet z2
        omega
      subst e0
      have e1 : w1 = 2147483648 := beqt r1
      subst e1
      refine ⟨[2147483648, 2147483648, 2147483648], pw_C (by decide +kernel) (show PW ad h (0, 2050, 2147483648, 2147483654) 2147483648 from p0), (show rngB (0, 2050, 2147483648, 2147483654) u 2147483648 = true from rfl), Or.inr ⟨rfl, fun k => ?_⟩, by decide +kernel, pw_C (by decide +kernel) p1, by decide +kernel, True.intro⟩
      show adC ad 7 k ≠ none ↔ _
      rw [adC_7]
      exact ⟨fun e => absurd rfl e, fun e => absurd e (by omega)⟩
  obtain ⟨ws', hv'⟩ := hw
  refine ⟨fun k hk => by rw [adC_ne (dr_st k hk)]; exact a1 k hk, ts_C a2 h0, fun j s hj => ?_, a4, fun k => by rw [adC_ne b1]; exact a5 k, fun k => by rw [adC_ne b2]; exact a6 k, u, ws', hv', fun q hq => by rw [rl_nil] at hq; cases hq⟩
  obtain ⟨V, v1, v2⟩ := a3 j s hj
  refine ⟨V, v1, ?_⟩
  have key : ∀ {c : Nat}, c ≠ 7 → SVm (fun _ => 2147483648 + i, fun _ => 0, ad) 0 1 (7, c, 2147483648) V → SVm (fun _ => 2147483648 + i, fun _ => 0, adC ad) 0 1 (7, c, 2147483648) V := fun {c} hc hs => by
    obtain ⟨c1, c2, c3⟩ := sv_typ hs rfl
    exact Or.inr (Or.inr (Or.inr (Or.inr ⟨rfl, c1, c2, rf_C hc c3⟩)))
  rcases lawV_find hj with ⟨-, rfl⟩ | ⟨-, rfl⟩ | ⟨-, rfl⟩ | ⟨-, rfl⟩
  · exact key b3 v2
  · exact key b4 v2
  · exact key b5 v2
  · obtain ⟨X, x1, x2⟩ := sv_int v2 rfl
    exact Or.inl ⟨rfl, x2.2.1, X, x1, x2.2.2⟩
theorem r5_C (h5 : R5 ad h) : R5 (adC ad) h := fun b hb => by
  have rc := r5_m7
  obtain ⟨n, bs, nm, h1, ⟨h2, h3, h4⟩, h6, h7⟩ := h5 b hb
  exact ⟨n, bs, nm, h1, ⟨at_C (by omega) h2, fun p hp => at_C (by omega) (h3 p hp), fun w hw => at_C (by omega) (h4 w hw)⟩, at_C rc.1 h6, fun j hj => at_C rc.2 (h7 j hj)⟩
theorem r2_C (h2 : R2 ad h) : R2 (adC ad) h := by
  obtain ⟨n, pk, pf, pt, ⟨p1, p2⟩, p3, p4⟩ := h2
  refine ⟨n, pk, pf, pt, ⟨p1, at_C (by omega) p2⟩, fun p hp => ?_, fun k hk' d hd => at_C (by omega) (p4 k (by rw [adC_ne (by omega)] at hk'; exact hk') d hd)⟩
  obtain ⟨x1, x2, x3, k, x4, x5, x6⟩ := p3 p hp
  exact ⟨at_C (by omega) x1, at_C (by omega) x2, at_C (by omega) x3, k, x4, x5, by rw [adC_ne (by omega)]; exact x6⟩
theorem rw_C (hW : RLw ad h) : RLw (adC ad) h := by
  intro e h6
  rw [adC_ne (by omega)] at h6
  obtain ⟨n, ws, ts, ds, w0, w1, w2, w3, w4⟩ := hW e h6
  exact ⟨n, ws, ts, ds, w0, at_C (by omega) w1, fun j hj => ⟨⟨at_C (by omega) (w2 j hj).1.1, at_C (by omega) (w2 j hj).1.2⟩, (w2 j hj).2⟩, fun j hj => ⟨⟨at_C (by omega) (w3 j hj).1.1, at_C (by omega) (w3 j hj).1.2⟩, (w3 j hj).2⟩, fun j hj => ⟨⟨at_C (by omega) (w4 j hj).1.1, at_C (by omega) (w4 j hj).1.2⟩, (w4 j hj).2⟩⟩
theorem st_C (hs : St5 ad h) : St5 (adC ad) h := fun j hj p hp => at_C (dr_st j (by omega)) (hs j hj p hp)
end
end
