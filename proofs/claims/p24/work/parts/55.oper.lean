/-! ===== operations of the second machine ===== -/
theorem opR_fun {k a c r r' : Nat} (h : OpR k a c r) (h' : OpR k a c r') : r = r' := by
  unfold OpR at h h'
  rcases h with ⟨h0, x, y, z, h1, h2, h3, h4⟩ | ⟨h0, x, y, z, h1, h2, h3, h4⟩ | ⟨h0, x, h1, h2⟩ | ⟨h0, x, h1, h2⟩ | ⟨h0, x, h1, h2⟩ | ⟨h0, x, h1, h2⟩ | ⟨h0, x, h1, h2⟩ | ⟨h0, h1⟩ | ⟨h0, h1⟩ | ⟨h0, x, h1, h2⟩ <;>
  rcases h' with ⟨k0, x', y', z', k1, k2, k3, k4⟩ | ⟨k0, x', y', z', k1, k2, k3, k4⟩ | ⟨k0, x', k1, k2⟩ | ⟨k0, x', k1, k2⟩ | ⟨k0, x', k1, k2⟩ | ⟨k0, x', k1, k2⟩ | ⟨k0, x', k1, k2⟩ | ⟨k0, k1⟩ | ⟨k0, k1⟩ | ⟨k0, x', k1, k2⟩ <;>
  first
  | (exfalso; omega)
  | (have e1 := i2n_inj (h1.trans k1.symm); have e2 := i2n_inj (h2.trans k2.symm); subst e1; subst e2; have e3 := Option.some.inj (h3.symm.trans k3); subst e3; exact h4.symm.trans k4)
  | (have e1 := l_inj (h1.trans k1.symm); have e2 := l_inj (h2.trans k2.symm); subst e1; subst e2; have e3 := Option.some.inj (h3.symm.trans k3); subst e3; exact h4.symm.trans k4)
  | (have e1 := i2n_inj (h1.trans k1.symm); subst e1; exact h2.symm.trans k2)
  | (have e1 := l_inj (h1.trans k1.symm); subst e1; exact h2.symm.trans k2)
  | exact h1.trans k1.symm
section
variable {nu nu' : Nat → Nat} {G G' : SG} {x y v : SV}
theorem isI_not {v : SV} (h : isI v = true) : v.1 = 0 ∨ v.1 = 1 := by
  have h1 : v.1 ≤ 1 := blet h
  omega
theorem sval_n {v : SV} (h : v.1 = 1 ∨ v.1 = 3) : sval nu v = nu v.2.1 := by
  unfold sval isN
  rcases h with h | h <;> rw [h] <;> rfl
theorem isN_of {v : SV} (h : v.1 = 1 ∨ v.1 = 3) : isN v = true := by
  unfold isN
  rcases h with h | h <;> rw [h] <;> rfl
theorem sk_okn {m r : Nat} : okn m (sk r) := fun h => Bool.noConfusion h
theorem sk_val {r : Nat} : sval nu (sk r) = r := rfl
theorem snull_okn {m : Nat} : okn m snull := fun h => Bool.noConfusion h
theorem y_memo_ok {k tg lo hi w : Nat} {f : Option LF} (h : GK nu G) (hx : okn (g_n G) x) (hy : okn (g_n G) y) (ho : OpR k (sval nu x) (sval nu y) w) (h1 : lo ≤ w) (h2 : w ≤ hi) (hf : ∀ g, f = some g → LFn (g_n G) g ∧ LFeq nu w g) (ht : tg = 1 ∨ tg = 3) :
    ∃ nu', NK nu G nu' (y_memo k x y tg lo hi f G).2 ∧ (okn (g_n (y_memo k x y tg lo hi f G).2) (y_memo k x y tg lo hi f G).1 ∧ (sval nu' (y_memo k x y tg lo hi f G).1 = w ∧ (y_memo k x y tg lo hi f G).1.1 = tg)) := by
  unfold y_memo
  split
  · rename_i i hi'
    obtain ⟨d1, d2, d3, d4⟩ := h.2.1 _ (s_def_ok hi')
    have e : nu i = w := opR_fun d4 ho
    exact ⟨nu, nk_refl h, fun _ => d1, by rw [sval_n ht]; exact e, rfl⟩
  · have hu := nset_ag nu (g_n G) w
    have ew : nset nu (g_n G) w (g_n G) = w := nset_at _ _ _
    refine ⟨nset nu (g_n G) w, ⟨⟨env_set h.1 h1 h2, ?_, ?_, fun g hg => fok_up (h.2.2.2 g hg) (Nat.le_succ _) hu⟩, hu, Nat.le_succ _, rfl, rfl, rfl, rfl, rfl, rfl, rfl⟩, fun _ => Nat.lt_succ_self _, by rw [sval_n ht]; exact ew, rfl⟩
    · intro q hq
      rcases List.mem_cons.mp hq with rfl | hq
      · refine ⟨Nat.lt_succ_self _, okn_up hx (Nat.le_succ _), okn_up hy (Nat.le_succ _), ?_⟩
        show OpR k (sval (nset nu (g_n G) w) x) (sval (nset nu (g_n G) w) y) (nset nu (g_n G) w (g_n G))
        rw [sval_ag hx hu, sval_ag hy hu, ew]
        exact ho
      · exact dok_up (h.2.1 q hq) (Nat.le_succ _) hu
    · intro q hq
      have hq : q ∈ t_put (g_n G) f (g_t G) := hq
      cases f with
      | none => exact tok_up (h.2.2.1 q hq) (Nat.le_succ _) hu
      | some g =>
        rcases List.mem_cons.mp hq with rfl | hq
        · obtain ⟨f1, f2⟩ := hf g rfl
          refine ⟨Nat.lt_succ_self _, lfn_up f1 (Nat.le_succ _), ?_⟩
          show LFeq (nset nu (g_n G) w) (nset nu (g_n G) w (g_n G)) g
          unfold LFeq at f2 ⊢
          rw [nsum_ag f1.1 hu, nsum_ag f1.2 hu, ew]
          exact f2
        · exact tok_up (h.2.2.1 q hq) (Nat.le_succ _) hu
theorem lf_add_ok {o : Nat} (h : GK nu G) (hx : okn (g_n G) x) (hy : okn (g_n G) y) {w : Nat} (e : w + o = sval nu x + sval nu y) : LFn (g_n G) (lf_add G x y o) ∧ LFeq nu w (lf_add G x y o) := by
  obtain ⟨x1, x2⟩ := lf_ok h hx
  obtain ⟨y1, y2⟩ := lf_ok h hy
  unfold lf_add
  dsimp only
  refine ⟨lnorm_n ⟨fun a ha => ?_, fun a ha => ?_⟩, (lnorm_eq _).mpr ?_⟩
  · exact (List.mem_append.mp ha).elim (x1.1 a) (y1.1 a)
  · exact (List.mem_append.mp ha).elim (x1.2 a) (y1.2 a)
  · unfold LFeq at x2 y2 ⊢
    dsimp only
    rw [nsum_app, nsum_app]
    omega
theorem lf_sub_ok {o : Nat} (h : GK nu G) (hx : okn (g_n G) x) (hy : okn (g_n G) y) {w : Nat} (e : w + sval nu y = sval nu x + o) : LFn (g_n G) (lf_sub G x y o) ∧ LFeq nu w (lf_sub G x y o) := by
  obtain ⟨x1, x2⟩ := lf_ok h hx
  obtain ⟨y1, y2⟩ := lf_ok h hy
  unfold lf_sub
  dsimp only
  refine ⟨lnorm_n ⟨fun a ha => ?_, fun a ha => ?_⟩, (lnorm_eq _).mpr ?_⟩
  · exact (List.mem_append.mp ha).elim (x1.1 a) (y1.2 a)
  · exact (List.mem_append.mp ha).elim (x1.2 a) (y1.1 a)
  · unfold LFeq at x2 y2 ⊢
    dsimp only
    rw [nsum_app, nsum_app]
    omega
theorem lf_off_ok {c d : Nat} (h : GK nu G) (hx : okn (g_n G) x) {w : Nat} (e : w + d = sval nu x + c) : LFn (g_n G) (lf_off G x c d) ∧ LFeq nu w (lf_off G x c d) := by
  obtain ⟨x1, x2⟩ := lf_ok h hx
  unfold lf_off
  dsimp only
  refine ⟨lnorm_n x1, (lnorm_eq _).mpr ?_⟩
  unfold LFeq at x2 ⊢
  dsimp only
  omega
theorem or_ok {x y : Int32} (hx : 0 ≤ x.toInt) (hy : 0 ≤ y.toInt) (hx' : x.toInt < 64) (hy' : y.toInt < 64) : 0 ≤ (x ||| y).toInt ∧ (x ||| y).toInt < 64 := by
  have e1 := i_nat x
  have e2 := i_nat y
  have e3 := i_nat (x ||| y)
  have e4 : (x ||| y).toBitVec.toNat = x.toBitVec.toNat ||| y.toBitVec.toNat := by
    rw [Int32.toBitVec_or, BitVec.toNat_or]
  have b1 : x.toBitVec.toNat < 2 ^ 6 := by
    have := x.toBitVec.isLt
    split at e1 <;> omega
  have b2 : y.toBitVec.toNat < 2 ^ 6 := by
    have := y.toBitVec.isLt
    split at e2 <;> omega
  have b3 := Nat.or_lt_two_pow b1 b2
  rw [e4] at e3
  rw [if_pos (by omega)] at e3
  omega
theorem shl_ok {y : Int32} {d : Nat} (h1 : 2147483648 ≤ i2n y) (h2 : i2n y ≤ d) (h3 : d ≤ 2147483654) : 2147483649 ≤ i2n ((1 : Int32) <<< (y &&& 31)) ∧ i2n ((1 : Int32) <<< (y &&& 31)) ≤ 2147483648 + 2 ^ (d - 2147483648) := by
  have hy : i2n y = 2147483648 ∨ i2n y = 2147483649 ∨ i2n y = 2147483650 ∨ i2n y = 2147483651 ∨ i2n y = 2147483652 ∨ i2n y = 2147483653 ∨ i2n y = 2147483654 := by omega
  have key : ∀ k : Nat, k ≤ 6 → i2n y = 2147483648 + k → i2n ((1 : Int32) <<< (y &&& 31)) = 2147483648 + 2 ^ k := by
    intro k hk e
    have hk : k = 0 ∨ k = 1 ∨ k = 2 ∨ k = 3 ∨ k = 4 ∨ k = 5 ∨ k = 6 := by omega
    have ey : y = Int32.ofInt k := by
      apply i2n_inj
      rw [e]
      rcases hk with rfl | rfl | rfl | rfl | rfl | rfl | rfl <;> decide +kernel
    rw [ey]
    rcases hk with rfl | rfl | rfl | rfl | rfl | rfl | rfl <;> decide +kernel
  obtain ⟨k, hk, e⟩ : ∃ k : Nat, k ≤ 6 ∧ i2n y = 2147483648 + k := ⟨i2n y - 2147483648, by omega, by omega⟩
  rw [key k hk e]
  have hp : 2 ^ k ≤ 2 ^ (d - 2147483648) := Nat.pow_le_pow_right (by omega) (by omega)
  have h0 : 1 ≤ 2 ^ k := Nat.one_le_two_pow
  omega
theorem y_rng_ok {k a b c d : Nat} {X Y : Int32} {w : SV} (h : y_rng k a b c d = some w) (hx : a ≤ i2n X ∧ i2n X ≤ b) (hy : c ≤ i2n Y ∧ i2n Y ≤ d) :
    ∃ z, ibin k X Y = some z ∧ (w.2.1 ≤ i2n z ∧ i2n z ≤ w.2.2) := by
  have full : ∀ z : Int32, sfull.2.1 ≤ i2n z ∧ i2n z ≤ sfull.2.2 := fun z => (sfull_ok z).2
  have hY0 : ∀ {p q : Nat}, (p = 2147483649 ∧ p ≤ i2n Y) ∨ (i2n Y ≤ q ∧ q = 2147483647) → Y ≠ 0 := by
    intro p q hh e
    have := (i2n_zero Y).2 e
    omega
  unfold y_rng at h
  cases e3 : Nat.beq k 3
  · rw [e3, cond_false] at h
    cases e4 : Nat.beq k 4 && Nat.ble d 2147483647
    · rw [e4, cond_false] at h
      cases e6 : Nat.beq k 6 && ((Nat.ble 2147483648 a && Nat.ble 2147483648 c) && (Nat.ble b 2147483711 && Nat.ble d 2147483711))
      · rw [e6, cond_false] at h
        cases e8 : Nat.beq k 8 && ((Nat.beq a 2147483649 && Nat.beq b 2147483649) && (Nat.ble 2147483648 c && Nat.ble d 2147483654))
        · rw [e8, cond_false] at h
          obtain ⟨z, z1, -, z2⟩ := bnd_ok h hx hy
          exact ⟨z, z1, z2⟩
        · rw [e8, cond_true] at h
          obtain ⟨f1, f2⟩ := and2 e8
          obtain ⟨f2, f3⟩ := and2 f2
          obtain ⟨f2, f4⟩ := and2 f2
          obtain ⟨f3, f5⟩ := and2 f3
          have g1 := beqt f1
          have g2 := beqt f2
          have g3 := blet f3
          have g4 := beqt f4
          have g5 := blet f5
          subst g1
          have e1 : X = 1 := i2n_inj (by rw [c_1]; omega)
          subst e1
          have hs := shl_ok (y := Y) (d := d) (by omega) hy.2 g5
          refine ⟨_, rfl, ?_⟩
          rw [← Option.some.inj h]
          exact hs
      · rw [e6, cond_true] at h
        obtain ⟨f1, f2⟩ := and2 e6
        obtain ⟨f2, f3⟩ := and2 f2
        obtain ⟨f2, f4⟩ := and2 f2
        obtain ⟨f3, f5⟩ := and2 f3
        have g1 := beqt f1
        have g2 := blet f2
        have g3 := blet f3
        have g4 := blet f4
        have g5 := blet f5
        subst g1
        have zx := i2n_z X
        have zy := i2n_z Y
        have zz := i2n_z (X ||| Y)
        have hs := or_ok (x := X) (y := Y) (by omega) (by omega) (by omega) (by omega)
        refine ⟨X ||| Y, rfl, ?_⟩
        rw [← Option.some.inj h]
        show 2147483648 ≤ _ ∧ _ ≤ 2147483711
        omega
    · rw [e4, cond_true] at h
      obtain ⟨f1, f2⟩ := and2 e4
      have g1 := beqt f1
      have g2 := blet f2
      subst g1
      have hn : Y ≠ 0 := fun e => by have := (i2n_zero Y).2 e; omega
      exact ⟨_, if_neg hn, by rw [← Option.some.inj h]; exact full _⟩
  · rw [e3, cond_true] at h
    have := beqt e3; subst this
    cases f1 : Nat.ble 2147483649 c
    · rw [f1, cond_false] at h
      cases f2 : Nat.ble d 2147483647
      · rw [f2, cond_false] at h; cases h
      · rw [f2, cond_true] at h
        have g2 := blet f2
        have hn : Y ≠ 0 := fun e => by have := (i2n_zero Y).2 e; omega
        exact ⟨_, if_neg hn, by rw [← Option.some.inj h]; exact full _⟩
    · rw [f1, cond_true] at h
      have g1 := blet f1
      have hn : Y ≠ 0 := fun e => by have := (i2n_zero Y).2 e; omega
      refine ⟨X / Y, if_neg hn, ?_⟩
      cases f2 : Nat.ble 2147483648 a
      · rw [f2, cond_false] at h
        rw [← Option.some.inj h]; exact full _
      · rw [f2, cond_true] at h
        have g2 := blet f2
        have w1 := dv_ok (x := X) (y := Y) (by omega) (by omega)
        have zx := i2n_z X
        have zy := i2n_z Y
        have zz := i2n_z (X / Y)
        rw [← Option.some.inj h]
        refine ⟨by show 2147483648 ≤ _; omega, ?_⟩
        show _ ≤ 2147483648 + (b - 2147483648) / (c - 2147483648)
        have q1 : (X / Y).toInt = (((i2n X - 2147483648) / (i2n Y - 2147483648) : Nat) : Int) := by
          rw [w1.1, Int.natCast_ediv]
          congr 1 <;> omega
        have q2 : (i2n X - 2147483648) / (i2n Y - 2147483648) ≤ (b - 2147483648) / (c - 2147483648) := Nat.div_le_div (by omega) (by omega) (by omega)
        omega
theorem lf_bin_ok {k : Nat} {X Y z : Int32} {p q : Nat × Nat} (h : GK nu G) (hx : okn (g_n G) x) (hy : okn (g_n G) y) (ex : i2n X = sval nu x) (ey : i2n Y = sval nu y) (hp : p.1 ≤ i2n X ∧ i2n X ≤ p.2) (hq : q.1 ≤ i2n Y ∧ i2n Y ≤ q.2) (hz : ibin k X Y = some z) : ∀ g, lf_bin k x y p q G = some g → LFn (g_n G) g ∧ LFeq nu (i2n z) g := by
  intro g hg
  have lx := i2n_lt X
  have ly := i2n_lt Y
  unfold lf_bin at hg
  cases e0 : Nat.beq k 0
  · rw [e0, cond_false] at hg
    cases e1 : Nat.beq k 1
    · rw [e1, cond_false] at hg; cases hg
    · rw [e1, cond_true] at hg
      obtain ⟨f1, hg⟩ := bif_some hg
      obtain ⟨f1, f2⟩ := and2 f1
      have g1 := blet f1
      have g2 := blet f2
      have := beqt e1; subst this
      have := Option.some.inj hz; subst this
      rw [← Option.some.inj hg]
      have w := kb_sub X Y
      exact lf_sub_ok h hx hy (by omega)
  · rw [e0, cond_true] at hg
    obtain ⟨f1, hg⟩ := bif_some hg
    obtain ⟨f1, f2⟩ := and2 f1
    have g1 := blet f1
    have g2 := blet f2
    have := beqt e0; subst this
    have := Option.some.inj hz; subst this
    rw [← Option.some.inj hg]
    have w := kb_add X Y
    exact lf_add_ok h hx hy (by omega)
/-- an int that a symbolic value stands for -/
noncomputable def IV (nu : Nat → Nat) (m : Nat) (s : SV) (X : Int32) : Prop := isI s = true ∧ (okn m s ∧ i2n X = sval nu s)
noncomputable def LV' (nu : Nat → Nat) (m : Nat) (s : SV) (X : Int64) : Prop := isL s = true ∧ (okn m s ∧ l2n X = sval nu s)
theorem sk_IV {m r : Nat} {X : Int32} (h : i2n X = r) : IV nu m (sk r) X := ⟨rfl, sk_okn, h⟩
theorem iv_nk {X : Int32} (h : IV nu (g_n G) v X) (k : NK nu G nu' G') : IV nu' (g_n G') v X := ⟨h.1, okn_up h.2.1 k.2.2.1, by rw [sval_ag h.2.1 k.2.1]; exact h.2.2⟩
theorem y_bin_ok {k : Nat} {X Y : Int32} (h : GK nu G) (hx : IV nu (g_n G) x X) (hy : IV nu (g_n G) y Y) (hs : y_bin k x y G = some (v, G')) : ∃ nu' z, ibin k X Y = some z ∧ (NK nu G nu' G' ∧ IV nu' (g_n G') v z) := by
  obtain ⟨ix, ox, ex⟩ := hx
  obtain ⟨iy, oy, ey⟩ := hy
  have bx := itv_ok h.1 x
  have by' := itv_ok h.1 y
  rw [← ex] at bx
  rw [← ey] at by'
  unfold y_bin at hs
  rw [ix, iy] at hs
  rw [show (true && true) = true from rfl, cond_true] at hs
  generalize itv G x = p at hs bx
  generalize itv G y = q at hs by'
  dsimp only at hs
  cases h1 : Nat.beq p.1 p.2 && Nat.beq q.1 q.2
  · rw [h1, cond_false] at hs
    cases h2 : Nat.beq k 0 && (Nat.beq p.1 2147483648 && Nat.beq p.2 2147483648)
    · rw [h2, cond_false] at hs
      cases h3 : Nat.ble k 1 && (Nat.beq q.1 2147483648 && Nat.beq q.2 2147483648)
      · rw [h3, cond_false] at hs
        cases h4 : y_rng k p.1 p.2 q.1 q.2 with
        | none => rw [h4] at hs; cases hs
        | some w =>
          rw [h4] at hs
          obtain ⟨z, hz, hw⟩ := y_rng_ok h4 bx by'
          have hk : k < 10 := by
            unfold ibin at hz
            split at hz <;> first | omega | cases hz
          dsimp only at hs
          obtain ⟨nu', m1, m2, m3, m4⟩ := y_memo_ok (k := k) (tg := 1) (w := i2n z) (f := lf_bin k x y p q G) h ox oy (Or.inl ⟨hk, X, Y, z, ex, ey, hz, rfl⟩) hw.1 hw.2 (lf_bin_ok h ox oy ex ey bx by' hz) (Or.inl rfl)
          have e := Option.some.inj hs
          rw [e] at m1 m2 m3 m4
          exact ⟨nu', z, hz, m1, by unfold isI; rw [m4]; rfl, m2, m3.symm⟩
      · rw [h3, cond_true] at hs
        obtain ⟨f1, f2⟩ := and2 h3
        obtain ⟨f2, f3⟩ := and2 f2
        have e := Option.some.inj hs
        cases e
        have g1 := blet f1
        have g2 := beqt f2
        have g3 := beqt f3
        have hY : Y = 0 := (i2n_zero Y).1 (by omega)
        subst hY
        refine ⟨nu, X, ?_, nk_refl h, ix, ox, ex⟩
        have hk : k = 0 ∨ k = 1 := by omega
        rcases hk with rfl | rfl
        · show some (X + 0) = some X
          rw [Int32.add_zero]
        · show some (X - 0) = some X
          rw [Int32.sub_zero]
    · rw [h2, cond_true] at hs
      obtain ⟨f1, f2⟩ := and2 h2
      obtain ⟨f2, f3⟩ := and2 f2
      have e := Option.some.inj hs
      cases e
      have g1 := beqt f1
      have g2 := beqt f2
      have g3 := beqt f3
      have hX : X = 0 := (i2n_zero X).1 (by omega)
      subst hX; subst g1
      refine ⟨nu, Y, ?_, nk_refl h, iy, oy, ey⟩
      show some (0 + Y) = some Y
      rw [Int32.zero_add]
  · rw [h1, cond_true] at hs
    obtain ⟨f1, f2⟩ := and2 h1
    have g1 := beqt f1
    have g2 := beqt f2
    have a1 : p.1 = i2n X := by omega
    have a2 : q.1 = i2n Y := by omega
    rw [a1, a2] at hs
    cases hk : kbin k (i2n X) (i2n Y) with
    | none => rw [hk] at hs; cases hs
    | some r =>
      rw [hk] at hs
      obtain ⟨z, hz, hr⟩ := kbin_ok hk
      have e := Option.some.inj hs
      cases e
      exact ⟨nu, z, hz, nk_refl h, sk_IV hr⟩
end
