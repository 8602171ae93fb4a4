/-! ===== lengths, new rows, copies, longs, bounds ===== -/
theorem qe_l2n_z (x : Int64) : (qe_l2n x : Int) = x.toInt + 9223372036854775808 := by
  have h1 := x.le_toInt
  unfold qe_l2n
  omega
theorem qe_l2n_lt (x : Int64) : qe_l2n x < 18446744073709551616 := by
  have h1 := x.toInt_lt
  have h2 := qe_l2n_z x
  omega
theorem qe_bm64 (z : Int) : (z.bmod 18446744073709551616 + 9223372036854775808) = (z + 9223372036854775808) % 18446744073709551616 := by
  unfold Int.bmod
  simp only []
  split <;> omega
theorem qe_l2n_of {z : Int64} {w : Int} (h : z.toInt = w.bmod (2 ^ 64)) : (qe_l2n z : Int) = (w + 9223372036854775808) % 18446744073709551616 := by
  have h1 := qe_l2n_z z
  rw [h] at h1
  rw [h1]
  exact qe_bm64 w
theorem qe_kl_add (x y : Int64) : qe_l2n (x + y) = (qe_l2n x + qe_l2n y + 9223372036854775808) % 18446744073709551616 := by
  have h := qe_l2n_of (Int64.toInt_add x y)
  have h1 := qe_l2n_z x
  have h2 := qe_l2n_z y
  omega
theorem qe_kl_sub (x y : Int64) : qe_l2n (x - y) = (qe_l2n x + 27670116110564327424 - qe_l2n y) % 18446744073709551616 := by
  have h := qe_l2n_of (Int64.toInt_sub x y)
  have h1 := qe_l2n_z x
  have h2 := qe_l2n_z y
  have h3 := qe_l2n_lt y
  omega
theorem qe_kl_mul (x y : Int64) : qe_l2n (x * y) = (qe_l2n x * qe_l2n y + (36893488147419103232 - qe_l2n x - qe_l2n y) * 9223372036854775808 + 85070591730234615875067023894796828672) % 18446744073709551616 := by
  have h := qe_l2n_of (Int64.toInt_mul x y)
  have h1 := qe_l2n_z x
  have h2 := qe_l2n_z y
  have h3 := qe_l2n_lt x
  have h4 := qe_l2n_lt y
  have h5 : ((qe_l2n x * qe_l2n y : Nat) : Int) = x.toInt * y.toInt + 9223372036854775808 * x.toInt + 9223372036854775808 * y.toInt + 85070591730234615865843651857942052864 := by
    rw [Int.natCast_mul, h1, h2, Int.add_mul, Int.mul_add, Int.mul_add]
    omega
  generalize qe_l2n x * qe_l2n y = p at h5 ⊢
  generalize x.toInt * y.toInt = q at h5 h
  omega
theorem qe_l_inj {x y : Int64} (h : qe_l2n x = qe_l2n y) : x = y := by
  have h1 := qe_l2n_z x
  have h2 := qe_l2n_z y
  exact Int64.toInt_inj.mp (by omega)
theorem qe_l_lt (x y : Int64) : x < y ↔ qe_l2n x < qe_l2n y := by
  rw [Int64.lt_iff_toInt_lt]
  have h1 := qe_l2n_z x
  have h2 := qe_l2n_z y
  omega
theorem qe_c_m1 : qe_i2n (-1 : Int32) = 2147483647 := by decide +kernel
theorem qe_c_0 : qe_i2n (0 : Int32) = 2147483648 := by decide +kernel
theorem qe_c_1 : qe_i2n (1 : Int32) = 2147483649 := by decide +kernel
section
variable {A nu nu' : Nat → Nat} {base n m : Nat} {hb : (Nat → Option AO) × Nat} {G G' : qe_SG} {h h' : AH} {os : List qe_SOUT} {lv lv' : qe_SLV} {st st' r : List qe_SV} {L L' : LV} {S S' R : List Value} {c : Int} {a k kd i : Nat}
theorem qe_cm_inr {l : List qe_SV} {vs : List Value} (h : qe_LM A nu n m l vs) : qe_CM A nu n m (.inr l) vs := h
theorem qe_nI_ok {j : Nat} (h : j < 2147483648) : qe_i2n (nI j) = j + 2147483648 := by
  have h1 := qe_i2n_z (nI j)
  have h2 : (nI j).toInt = j := by
    unfold nI
    exact Int32.toInt_ofNat_of_lt h
  omega
theorem qe_S_len_ok (hR : qe_RM A nu base hb G h) (hL : qe_LVM A nu (qe_g_h G).length (qe_g_n G) lv L) (hS : qe_LM A nu (qe_g_h G).length (qe_g_n G) st S) (hs : qe_S_len lv st G = some os) : qe_Cc A nu base hb G h os (s_len L S h) := by
  unfold qe_S_len at hs
  split at hs
  · rename_i x r
    obtain ⟨V, R2, rfl, g1, g2⟩ := qe_lm_cons hS
    replace hs := qe_bif_some hs
    obtain ⟨f0, hs⟩ := hs
    obtain ⟨rfl, -⟩ := qe_sv_obj g1 f0
    split at hs
    · rename_i kd o hk
      replace hs := qe_bif_some hs
      obtain ⟨f1, hs⟩ := hs
      obtain ⟨f2, f3⟩ := qe_and2 f1
      obtain ⟨cc, vs, j1, j2, j3, -⟩ := hR.2.1 _ _ hk
      have b1 := qe_blet f2
      have b2 := qe_blet f3
      have hlen : vs.length = qe_so_len o := qe_cm_len j3
      have hc : 20 ≤ cc := by
        rcases j2 with e | ⟨_, _, e⟩
        · rw [e]; exact b1
        · omega
      unfold s_len am_get
      dsimp only
      rw [j1]
      dsimp only
      rw [if_pos ⟨hc, by omega⟩]
      refine qe_c_nx hs (qe_pn_id hR hL ⟨qe_sk_ok ?_, g2⟩)
      rw [qe_nI_ok (by omega), hlen]
    · cases hs
  · cases hs
theorem qe_dv_m (k : Nat) : qe_SVm A nu n m (qe_s_dv k) (am_def k) := by
  unfold qe_s_dv am_def
  by_cases h1 : k = 21
  · subst h1
    rw [if_pos rfl]
    exact .inl ⟨rfl, by decide +kernel⟩
  · have e1 : Nat.beq k 21 = false := by
      cases h : Nat.beq k 21
      · rfl
      · exact absurd (qe_beqt h) h1
    rw [e1, cond_false, if_neg h1]
    by_cases h2 : k = 20 ∨ k = 22 ∨ k = 23
    · rw [if_pos h2]
      have e2 : (Nat.beq k 20 || (Nat.beq k 22 || Nat.beq k 23)) = true := by rcases h2 with e | e | e <;> rw [e] <;> rfl
      rw [e2, cond_true]
      exact qe_sk_ok qe_c_0
    · rw [if_neg h2]
      have e2 : (Nat.beq k 20 || (Nat.beq k 22 || Nat.beq k 23)) = false := by
        rw [← qe_nbeq, ← qe_nbeq, ← qe_nbeq, beq_false_of_ne (fun e => h2 (.inl e)), beq_false_of_ne (fun e => h2 (.inr (.inl e))), beq_false_of_ne (fun e => h2 (.inr (.inr e)))]; rfl
      rw [e2, cond_false]
      exact (rfl : (4 : Nat) = 4)
theorem qe_S_newa_ok {σ : Nat → Nat} (hA : qe_AOK A σ base) (hR : qe_RM A nu base hb G h) (hL : qe_LVM A nu (qe_g_h G).length (qe_g_n G) lv L) (hS : qe_LM A nu (qe_g_h G).length (qe_g_n G) st S) (hs : qe_S_newa k lv st G = some os) : qe_Cc A nu base hb G h os (s_newa k L S h) := by
  unfold qe_S_newa at hs
  split at hs
  · rename_i x r
    obtain ⟨V, R2, rfl, g1, g2⟩ := qe_lm_cons hS
    replace hs := qe_bif_some hs
    obtain ⟨f0, hs⟩ := hs
    obtain ⟨y, rfl⟩ := qe_sv_int g1 f0
    dsimp only at hs
    replace hs := qe_bif_some hs
    obtain ⟨f1, hs⟩ := hs
    obtain ⟨f1, f2⟩ := qe_and2 f1
    obtain ⟨f3, f4⟩ := qe_and2 f2
    have b0 := qe_beqt f1
    have b1 := qe_blet f3
    have b2 := qe_blet f4
    have b := qe_sv_itv g1 hR.1.1
    have hj := qe_j_of (j := y) (by omega)
    have e : y.toNatClampNeg = (qe_itv G x).1 - 2147483648 := by rw [hj.2]; omega
    unfold s_newa s_new
    dsimp only
    rw [if_pos ⟨hj.1, by omega⟩, e]
    refine qe_c_nx hs (qe_pn_push hA hR hL g2 ?_)
    cases hb : Nat.ble (qe_itv G x).1 2147483748
    · rw [cond_false]
      refine ⟨List.length_replicate, fun v hv => ?_⟩
      rw [(List.mem_replicate.mp hv).2]
      exact qe_dv_m k
    · rw [cond_true]
      generalize (qe_itv G x).1 - 2147483648 = e9
      exact qe_cm_inr (qe_lm_rep (qe_dv_m k) e9)
  · cases hs
theorem qe_new_ok {σ : Nat → Nat} (hA : qe_AOK A σ base) (hR : qe_RM A nu base hb G h) (hL : qe_LVM A nu (qe_g_h G).length (qe_g_n G) lv L) (hS : qe_LM A nu (qe_g_h G).length (qe_g_n G) st S) (hs : qe_o_nx lv (qe_sref (qe_g_h G).length :: st) (qe_s_mk G (k, .inr (qe_s_obj k)) (kNn k)) = some os) : qe_Cc A nu base hb G h os (nx L (.ref h.2.1 :: S) (am_push h (k, am_new k) (kNn k))) := by
  refine qe_c_nx hs (qe_pn_push hA hR hL hS ?_)
  refine qe_lm_map (fun f => ?_) _
  by_cases e : dcode f.2.2.1 = 3
  · rw [if_pos e, if_pos e]; exact (rfl : (4 : Nat) = 4)
  · rw [if_neg e, if_neg e]; exact qe_sk_ok qe_c_0
theorem qe_S_cast_ok (hk : k ≠ 31) (hR : qe_RM A nu base hb G h) (hL : qe_LVM A nu (qe_g_h G).length (qe_g_n G) lv L) (hS : qe_LM A nu (qe_g_h G).length (qe_g_n G) st S) (hs : qe_S_cast k lv st G = some os) : qe_Cc A nu base hb G h os (s_cast k L S h) := by
  unfold qe_S_cast at hs
  split at hs
  · rename_i x r
    obtain ⟨V, R2, rfl, g1, g2⟩ := qe_lm_cons hS
    replace hs := qe_bif_some hs
    obtain ⟨f0, hs⟩ := hs
    obtain ⟨rfl, -⟩ := qe_sv_obj g1 f0
    split at hs
    · rename_i kd o hq
      replace hs := qe_bif_some hs
      obtain ⟨f1, hs⟩ := hs
      obtain ⟨cc, vs, j1, j2, -, -⟩ := hR.2.1 _ _ hq
      have e1 := qe_beqt f1
      have hc : cc = kd := qe_km_eq j2 (by rw [e1]; exact hk)
      unfold s_cast am_get
      dsimp only
      rw [j1]
      dsimp only
      rw [if_pos (hc.trans e1)]
      exact qe_c_nx hs (qe_pn_id hR hL ⟨g1, g2⟩)
    · cases hs
  · cases hs
theorem qe_S_oinit_ok (hR : qe_RM A nu base hb G h) (hL : qe_LVM A nu (qe_g_h G).length (qe_g_n G) lv L) (hS : qe_LM A nu (qe_g_h G).length (qe_g_n G) st S) (hs : qe_S_oinit lv st G = some os) : qe_Cc A nu base hb G h os (s_oinit L S h) := by
  unfold qe_S_oinit at hs
  split at hs
  · rename_i x r
    obtain ⟨V, R2, rfl, g1, g2⟩ := qe_lm_cons hS
    replace hs := qe_bif_some hs
    obtain ⟨f0, hs⟩ := hs
    obtain ⟨f1, f2⟩ := qe_and2 f0
    obtain ⟨rfl, -⟩ := qe_sv_obj g1 f1
    unfold s_oinit
    dsimp only
    rw [if_pos (by rw [qe_lm_w g2]; exact qe_blet f2)]
    exact qe_c_nx hs (qe_pn_id hR hL g2)
  · cases hs
theorem qe_all_ty {l : List qe_SV} {vs : List Value} (hl : qe_LM A nu n m l vs) (h : l.all qe_isI = true) : vs.all (am_ty 0) = true := by
  refine List.all_eq_true.mpr fun v hv => ?_
  obtain ⟨s, s1, s2⟩ := qe_lm_mem hl hv
  obtain ⟨x, rfl⟩ := qe_sv_int s2 (List.all_eq_true.mp h s s1)
  rfl
theorem qe_S_clone_ok {σ : Nat → Nat} (hA : qe_AOK A σ base) (hR : qe_RM A nu base hb G h) (hL : qe_LVM A nu (qe_g_h G).length (qe_g_n G) lv L) (hS : qe_LM A nu (qe_g_h G).length (qe_g_n G) st S) (hs : qe_S_clone lv st G = some os) : qe_Cc A nu base hb G h os (s_clone L S h) := by
  unfold qe_S_clone at hs
  split at hs
  · rename_i x r
    obtain ⟨V, R2, rfl, g1, g2⟩ := qe_lm_cons hS
    replace hs := qe_bif_some hs
    obtain ⟨f0, hs⟩ := hs
    obtain ⟨rfl, -⟩ := qe_sv_obj g1 f0
    split at hs
    · rename_i kd l hq
      replace hs := qe_bif_some hs
      obtain ⟨f1, hs⟩ := hs
      obtain ⟨f1, f2⟩ := qe_and2 f1
      obtain ⟨f3, f4⟩ := qe_and2 f2
      obtain ⟨cc, vs, j1, j2, j3, -⟩ := hR.2.1 _ _ hq
      have e1 := qe_beqt f1
      have hc : cc = kd := qe_km_eq j2 (by omega)
      have hi : l.all qe_isI = true := List.all_eq_true.mpr fun s hs => (qe_and2 (List.all_eq_true.mp f3 s hs)).1
      unfold s_clone am_get
      dsimp only
      rw [j1]
      dsimp only
      rw [if_pos ⟨hc.trans e1, qe_all_ty j3 hi, by rw [qe_lm_w g2]; exact qe_blet f4⟩, qe_lm_len j3]
      exact qe_c_nx hs (qe_pn_push hA hR hL g2 j3)
    · cases hs
  · cases hs
theorem qe_acp_cm {xs ys : List qe_SV} {vs ws : List Value} (j3 : qe_LM A nu n m xs vs) (l3 : qe_LM A nu n m ys ws) (i j q : Nat) : qe_CM A nu n m (.inr (ys.take j ++ ((xs.drop i).take q ++ ys.drop (j + q)))) (am_cpy vs ws i j q) := by
  unfold am_cpy
  exact qe_cm_inr (qe_lm_app (qe_lm_take j l3) (qe_lm_app (qe_lm_take q (qe_lm_drop i j3)) (qe_lm_drop (j + q) l3)))
theorem qe_S_acp_ok {σ : Nat → Nat} (hA : qe_AOK A σ base) (hR : qe_RM A nu base hb G h) (hL : qe_LVM A nu (qe_g_h G).length (qe_g_n G) lv L) (hS : qe_LM A nu (qe_g_h G).length (qe_g_n G) st S) (hs : qe_S_acp lv st G = some os) : qe_Cc A nu base hb G h os (s_acp L S h) := by
  unfold qe_S_acp at hs
  split at hs
  · rename_i n j y i x r
    obtain ⟨N, R1, rfl, gn, h1⟩ := qe_lm_cons hS
    obtain ⟨J, R2, rfl, gj, h2⟩ := qe_lm_cons h1
    obtain ⟨Y, R3, rfl, gy, h3⟩ := qe_lm_cons h2
    obtain ⟨I, R4, rfl, gi, h4⟩ := qe_lm_cons h3
    obtain ⟨X, R5, rfl, gx, h5⟩ := qe_lm_cons h4
    replace hs := qe_bif_some hs
    obtain ⟨f0, hs⟩ := hs
    obtain ⟨f1, f2⟩ := qe_and2 f0
    obtain ⟨fx, fy⟩ := qe_and2 f1
    obtain ⟨fn, f3⟩ := qe_and2 f2
    obtain ⟨fj, fi⟩ := qe_and2 f3
    obtain ⟨rfl, -⟩ := qe_sv_obj gx fx
    obtain ⟨rfl, -⟩ := qe_sv_obj gy fy
    obtain ⟨nn, rfl⟩ := qe_sv_int gn fn
    obtain ⟨jj, rfl⟩ := qe_sv_int gj fj
    obtain ⟨ii, rfl⟩ := qe_sv_int gi fi
    split at hs
    · rename_i k0 xs k1 ys hx hy
      dsimp only at hs
      replace hs := qe_bif_some hs
      obtain ⟨f4, hs⟩ := hs
      obtain ⟨f5, f6⟩ := qe_and2 f4
      obtain ⟨fk0, fk1⟩ := qe_and2 f5
      obtain ⟨fall, f7⟩ := qe_and2 f6
      obtain ⟨f8, f9⟩ := qe_and2 f7
      obtain ⟨ea, f10⟩ := qe_and2 f8
      obtain ⟨eb, ec⟩ := qe_and2 f10
      obtain ⟨f11, f12⟩ := qe_and2 f9
      obtain ⟨la, f13⟩ := qe_and2 f11
      obtain ⟨lb, lc⟩ := qe_and2 f13
      obtain ⟨f14, lw⟩ := qe_and2 f12
      obtain ⟨lx, ly⟩ := qe_and2 f14
      have b1 := qe_beqt ea
      have b2 := qe_beqt eb
      have b3 := qe_beqt ec
      have b4 := qe_blet la
      have b5 := qe_blet lb
      have b6 := qe_blet lc
      have b7 := qe_blet lx
      have b8 := qe_blet ly
      have c1 := qe_beqt fk0
      have c2 := qe_beqt fk1
      have vn := qe_sv_itv gn hR.1.1
      have vj := qe_sv_itv gj hR.1.1
      have vi := qe_sv_itv gi hR.1.1
      obtain ⟨cx, vs, j1, j2, j3, -⟩ := hR.2.1 _ _ hx
      obtain ⟨cy, ws, l1, l2, l3, l4⟩ := hR.2.1 _ _ hy
      have hcx : cx = 20 := (qe_km_eq j2 (by omega)).trans c1
      have hcy : cy = 20 := (qe_km_eq l2 (by omega)).trans c2
      have h7 : 7 ≤ y.2.1 := Nat.le_of_not_lt (fun h => by have := l4 h; omega)
      have pn := qe_j_of (j := nn) (by omega)
      have pj := qe_j_of (j := jj) (by omega)
      have pi := qe_j_of (j := ii) (by omega)
      have en : nn.toNatClampNeg = qe_n31 (qe_itv G n).1 := by rw [pn.2]; unfold qe_n31; omega
      have ej : jj.toNatClampNeg = qe_n31 (qe_itv G j).1 := by rw [pj.2]; unfold qe_n31; omega
      have ei : ii.toNatClampNeg = qe_n31 (qe_itv G i).1 := by rw [pi.2]; unfold qe_n31; omega
      have lx := qe_lm_len j3
      have ly := qe_lm_len l3
      unfold s_acp am_get
      dsimp only
      rw [j1, l1]
      dsimp only
      rw [if_pos ⟨hcx, hcy, qe_all_ty j3 fall, ⟨pi.1, pj.1, pn.1⟩, by rw [en, ei]; unfold qe_n31; omega, by rw [en, ej]; unfold qe_n31; omega, by rw [qe_lm_w h5]; exact qe_blet lw⟩, en, ej, ei]
      subst c2
      refine qe_c_nx hs (qe_pn_set hA hR hL h5 hy h7 ?_)
      clear hs b1 b2 b3 b4 b5 b6 b7 b8 vn vj vi pn pj pi en ej ei lx ly
      generalize qe_n31 (qe_itv G n).1 = e7
      generalize qe_n31 (qe_itv G j).1 = e8
      generalize qe_n31 (qe_itv G i).1 = e9
      have j3' : qe_LM A nu (qe_g_h G).length (qe_g_n G) xs vs := j3
      have l3' : qe_LM A nu (qe_g_h G).length (qe_g_n G) ys ws := l3
      exact qe_acp_cm j3' l3' e9 e8 e7
    · cases hs
  · cases hs
theorem qe_S_lbin_ok (hR : qe_RM A nu base hb G h) (hL : qe_LVM A nu (qe_g_h G).length (qe_g_n G) lv L) (hS : qe_LM A nu (qe_g_h G).length (qe_g_n G) st S) (hs : qe_S_lbin a lv st G = some os) : qe_Cc A nu base hb G h os (s_lbin a L S h) := by
  unfold qe_S_lbin at hs
  split at hs
  · rename_i y x r
    obtain ⟨Y, R1, rfl, gy, h1⟩ := qe_lm_cons hS
    obtain ⟨X, R2, rfl, gx, h2⟩ := qe_lm_cons h1
    replace hs := qe_bif_some hs
    obtain ⟨f0, hs⟩ := hs
    obtain ⟨fx, fy⟩ := qe_and2 f0
    obtain ⟨u, rfl⟩ := qe_sv_long gx fx
    obtain ⟨v, rfl⟩ := qe_sv_long gy fy
    unfold s_lbin
    dsimp only
    cases fb : Nat.beq x.1 2 && Nat.beq y.1 2
    · rw [fb, cond_false] at hs
      replace hs := qe_bif_some hs
      obtain ⟨f1, hs⟩ := hs
      have b := qe_blet f1
      have ha : a = 0 ∨ a = 1 ∨ a = 2 := by omega
      have ez : ∃ z, lbin a u v = some z := by
        rcases ha with rfl | rfl | rfl
        · exact ⟨_, rfl⟩
        · exact ⟨_, rfl⟩
        · exact ⟨_, rfl⟩
      obtain ⟨z, ez⟩ := ez
      rw [ez]
      exact qe_c_nx hs (qe_pn_id hR hL ⟨.inr rfl, h2⟩)
    · rw [fb, cond_true] at hs
      obtain ⟨t1, t2⟩ := qe_and2 fb
      have t1 := qe_beqt t1
      have t2 := qe_beqt t2
      have ux : qe_l2n u = x.2.1 := by
        rcases gx with ⟨_, e⟩ | e
        · exact e
        · omega
      have vy : qe_l2n v = y.2.1 := by
        rcases gy with ⟨_, e⟩ | e
        · exact e
        · omega
      rw [← ux, ← vy] at hs
      cases e0 : Nat.beq a 0
      · rw [e0, cond_false] at hs
        cases e1 : Nat.beq a 1
        · rw [e1, cond_false] at hs
          replace hs := qe_bif_some hs
          obtain ⟨e2, hs⟩ := hs
          have := qe_beqt e2; subst this
          rw [show lbin 2 u v = some (u * v) from rfl]
          exact qe_c_nx hs (qe_pn_id hR hL ⟨.inl ⟨rfl, qe_kl_mul u v⟩, h2⟩)
        · rw [e1, cond_true] at hs
          have := qe_beqt e1; subst this
          rw [show lbin 1 u v = some (u - v) from rfl]
          exact qe_c_nx hs (qe_pn_id hR hL ⟨.inl ⟨rfl, qe_kl_sub u v⟩, h2⟩)
      · rw [e0, cond_true] at hs
        have := qe_beqt e0; subst this
        rw [show lbin 0 u v = some (u + v) from rfl]
        exact qe_c_nx hs (qe_pn_id hR hL ⟨.inl ⟨rfl, qe_kl_add u v⟩, h2⟩)
  · cases hs
theorem qe_cv_l (x : Int32) : qe_l2n x.toInt64 = qe_i2n x + 9223372034707292160 := by
  have h1 := qe_l2n_z x.toInt64
  have h2 := qe_i2n_z x
  rw [Int32.toInt_toInt64] at h1
  omega
theorem qe_cv_i (x : Int64) : qe_i2n x.toInt32 = (qe_l2n x + 2147483648) % 4294967296 := by
  have h := qe_i2n_of (Int64.toInt_toInt32 x)
  have h1 := qe_l2n_z x
  omega
theorem qe_cv_8 (x : Int32) : 2147483520 ≤ qe_i2n x.toInt8.toInt32 ∧ qe_i2n x.toInt8.toInt32 ≤ 2147483775 := by
  have h := qe_i2n_z x.toInt8.toInt32
  rw [Int8.toInt_toInt32] at h
  have h1 := x.toInt8.le_toInt
  have h2 := x.toInt8.toInt_lt
  omega
theorem qe_cv_16 (x : Int32) : 2147450880 ≤ qe_i2n x.toInt16.toInt32 ∧ qe_i2n x.toInt16.toInt32 ≤ 2147516415 := by
  have h := qe_i2n_z x.toInt16.toInt32
  rw [Int16.toInt_toInt32] at h
  have h1 := x.toInt16.le_toInt
  have h2 := x.toInt16.toInt_lt
  omega
theorem qe_full_ok (z : Int32) : qe_SVm A nu n m qe_sfull (.int z) := .inl (qe_sfull_ok z)
theorem qe_S_conv_ok (hR : qe_RM A nu base hb G h) (hL : qe_LVM A nu (qe_g_h G).length (qe_g_n G) lv L) (hS : qe_LM A nu (qe_g_h G).length (qe_g_n G) st S) (hs : qe_S_conv a lv st G = some os) : qe_Cc A nu base hb G h os (s_conv a L S h) := by
  unfold qe_S_conv at hs
  split at hs
  · rename_i x r
    obtain ⟨V, R1, rfl, gx, h1⟩ := qe_lm_cons hS
    unfold s_conv
    dsimp only
    cases e0 : Nat.beq a 0
    · rw [e0, cond_false] at hs
      cases e1 : Nat.beq a 1
      · rw [e1, cond_false] at hs
        replace hs := qe_bif_some hs
        obtain ⟨fi, hs⟩ := hs
        obtain ⟨y, rfl⟩ := qe_sv_int gx fi
        cases e2 : Nat.beq a 2
        · rw [e2, cond_false] at hs
          cases e3 : Nat.beq a 3
          · rw [e3, cond_false] at hs
            replace hs := qe_bif_some hs
            obtain ⟨e4, hs⟩ := hs
            have := qe_beqt e4; subst this
            rw [show conv 4 (.int y) = some (.int (-y)) from rfl]
            exact qe_c_nx hs (qe_pn_id hR hL ⟨qe_full_ok _, h1⟩)
          · rw [e3, cond_true] at hs
            have := qe_beqt e3; subst this
            rw [show conv 3 (.int y) = some (.int y.toInt16.toInt32) from rfl]
            exact qe_c_nx hs (qe_pn_id hR hL ⟨.inl ⟨rfl, qe_cv_16 y⟩, h1⟩)
        · rw [e2, cond_true] at hs
          have := qe_beqt e2; subst this
          rw [show conv 2 (.int y) = some (.int y.toInt8.toInt32) from rfl]
          exact qe_c_nx hs (qe_pn_id hR hL ⟨.inl ⟨rfl, qe_cv_8 y⟩, h1⟩)
      · rw [e1, cond_true] at hs
        have := qe_beqt e1; subst this
        cases e2 : Nat.beq x.1 2
        · rw [e2, cond_false] at hs
          replace hs := qe_bif_some hs
          obtain ⟨e3, hs⟩ := hs
          obtain ⟨y, rfl⟩ := qe_sv_long gx (by unfold qe_isL; rw [qe_beqt e3]; rfl)
          rw [show conv 1 (.long y) = some (.int y.toInt32) from rfl]
          exact qe_c_nx hs (qe_pn_id hR hL ⟨qe_full_ok _, h1⟩)
        · rw [e2, cond_true] at hs
          have t := qe_beqt e2
          obtain ⟨y, rfl⟩ := qe_sv_long gx (by unfold qe_isL; rw [t]; rfl)
          rw [show conv 1 (.long y) = some (.int y.toInt32) from rfl]
          have ux : qe_l2n y = x.2.1 := by
            rcases gx with ⟨_, e⟩ | e
            · exact e
            · omega
          rw [← ux] at hs
          exact qe_c_nx hs (qe_pn_id hR hL ⟨qe_sk_ok (qe_cv_i y), h1⟩)
    · rw [e0, cond_true] at hs
      have := qe_beqt e0; subst this
      replace hs := qe_bif_some hs
      obtain ⟨fi, hs⟩ := hs
      obtain ⟨y, rfl⟩ := qe_sv_int gx fi
      rw [show conv 0 (.int y) = some (.long y.toInt64) from rfl]
      dsimp only at hs ⊢
      have b := qe_sv_itv gx hR.1.1
      cases e1 : Nat.beq (qe_itv G x).1 (qe_itv G x).2
      · rw [e1, cond_false] at hs
        exact qe_c_nx hs (qe_pn_id hR hL ⟨.inr rfl, h1⟩)
      · rw [e1, cond_true] at hs
        have := qe_beqt e1
        rw [show (qe_itv G x).1 = qe_i2n y by omega] at hs
        exact qe_c_nx hs (qe_pn_id hR hL ⟨.inl ⟨rfl, qe_cv_l y⟩, h1⟩)
  · cases hs
theorem qe_S_lcmp_ok (hR : qe_RM A nu base hb G h) (hL : qe_LVM A nu (qe_g_h G).length (qe_g_n G) lv L) (hS : qe_LM A nu (qe_g_h G).length (qe_g_n G) st S) (hs : qe_S_lcmp lv st G = some os) : qe_Cc A nu base hb G h os (s_lcmp L S h) := by
  unfold qe_S_lcmp at hs
  split at hs
  · rename_i y x r
    obtain ⟨Y, R1, rfl, gy, h1⟩ := qe_lm_cons hS
    obtain ⟨X, R2, rfl, gx, h2⟩ := qe_lm_cons h1
    replace hs := qe_bif_some hs
    obtain ⟨f0, hs⟩ := hs
    obtain ⟨fx, fy⟩ := qe_and2 f0
    obtain ⟨u, rfl⟩ := qe_sv_long gx fx
    obtain ⟨v, rfl⟩ := qe_sv_long gy fy
    unfold s_lcmp
    dsimp only
    cases fb : Nat.beq x.1 2 && Nat.beq y.1 2
    · rw [fb, cond_false] at hs
      refine qe_c_nx hs (qe_pn_id hR hL ⟨.inl ⟨rfl, ?_⟩, h2⟩)
      show 2147483647 ≤ qe_i2n (lg_cmp u v) ∧ qe_i2n (lg_cmp u v) ≤ 2147483649
      unfold lg_cmp
      split
      · rw [qe_c_1]; omega
      · split
        · rw [qe_c_0]; omega
        · rw [qe_c_m1]; omega
    · rw [fb, cond_true] at hs
      obtain ⟨t1, t2⟩ := qe_and2 fb
      have t1 := qe_beqt t1
      have t2 := qe_beqt t2
      have ux : qe_l2n u = x.2.1 := by
        rcases gx with ⟨_, e⟩ | e
        · exact e
        · omega
      have vy : qe_l2n v = y.2.1 := by
        rcases gy with ⟨_, e⟩ | e
        · exact e
        · omega
      rw [← ux, ← vy] at hs
      refine qe_c_nx hs (qe_pn_id hR hL ⟨qe_sk_ok ?_, h2⟩)
      unfold lg_cmp
      cases g1 : Nat.ble (qe_l2n u + 1) (qe_l2n v)
      · have g1 := qe_blef g1
        rw [cond_false]
        cases g2 : Nat.beq (qe_l2n u) (qe_l2n v)
        · have g2 := qe_beqf g2
          rw [if_pos ((qe_l_lt v u).2 (by omega)), qe_c_1]; rfl
        · have g2 := qe_beqt g2
          rw [if_neg (fun e => by have := (qe_l_lt v u).1 e; omega), if_pos (qe_l_inj g2), qe_c_0]; rfl
      · have g1 := qe_blet g1
        rw [if_neg (fun e => by have := (qe_l_lt v u).1 e; omega), if_neg (fun e => by rw [e] at g1; omega), qe_c_m1]; rfl
  · cases hs
theorem qe_ab_ok {x : Int32} (h : 2147483648 ≤ qe_i2n x) : (if 0 ≤ x then x else 0 - x) = x := by
  rw [if_pos]
  rw [qe_i_le, qe_c_0]; exact h
theorem qe_S_math_ok (hR : qe_RM A nu base hb G h) (hL : qe_LVM A nu (qe_g_h G).length (qe_g_n G) lv L) (hS : qe_LM A nu (qe_g_h G).length (qe_g_n G) st S) (hs : qe_S_math a lv st G = some os) : qe_Cc A nu base hb G h os (s_math a L S h) := by
  unfold qe_S_math at hs
  cases e2 : Nat.beq a 2
  · rw [e2, cond_false] at hs
    split at hs
    · rename_i y x r
      obtain ⟨Y, R1, rfl, gy, h1⟩ := qe_lm_cons hS
      obtain ⟨X, R2, rfl, gx, h2⟩ := qe_lm_cons h1
      replace hs := qe_bif_some hs
      obtain ⟨f0, hs⟩ := hs
      obtain ⟨f1, fw⟩ := qe_and2 f0
      obtain ⟨fx, fy⟩ := qe_and2 f1
      obtain ⟨u, rfl⟩ := qe_sv_int gx fx
      obtain ⟨v, rfl⟩ := qe_sv_int gy fy
      have bx := qe_sv_itv gx hR.1.1
      have bY := qe_sv_itv gy hR.1.1
      have hw : am_w R2 ≤ 8 := by rw [qe_lm_w h2]; exact qe_blet fw
      dsimp only at hs
      cases e0 : Nat.beq a 0
      · rw [e0, cond_false] at hs
        replace hs := qe_bif_some hs
        obtain ⟨e1, hs⟩ := hs
        have := qe_beqt e1; subst this
        have em : s_math 1 L (.int v :: .int u :: R2) h = if am_w R2 ≤ 8 then nx L (.int (if v < u then v else u) :: R2) h else none := rfl
        rw [em, if_pos hw]
        cases g1 : Nat.ble (qe_itv G x).2 (qe_itv G y).1
        · rw [g1, cond_false] at hs
          cases g2 : Nat.ble ((qe_itv G y).2 + 1) (qe_itv G x).1
          · rw [g2, cond_false] at hs
            refine qe_c_nx hs (qe_pn_id hR hL ⟨.inl ⟨rfl, ?_⟩, h2⟩)
            show qe_nmin (qe_itv G x).1 (qe_itv G y).1 ≤ _ ∧ _ ≤ qe_nmin (qe_itv G x).2 (qe_itv G y).2
            have q1 := qe_nmin_l (qe_itv G x).1 (qe_itv G y).1
            have q2 := qe_nmin_r (qe_itv G x).1 (qe_itv G y).1
            by_cases hc : v < u
            · rw [if_pos hc]
              rw [qe_i_lt] at hc
              exact ⟨by omega, qe_nmin_le (by omega) (by omega)⟩
            · rw [if_neg hc]
              rw [qe_i_lt] at hc
              exact ⟨by omega, qe_nmin_le (by omega) (by omega)⟩
          · rw [g2, cond_true] at hs
            have g2 := qe_blet g2
            rw [if_pos ((qe_i_lt v u).2 (by omega))]
            exact qe_c_nx hs (qe_pn_id hR hL ⟨gy, h2⟩)
        · rw [g1, cond_true] at hs
          have g1 := qe_blet g1
          rw [if_neg (fun e => by have := (qe_i_lt v u).1 e; omega)]
          exact qe_c_nx hs (qe_pn_id hR hL ⟨gx, h2⟩)
      · rw [e0, cond_true] at hs
        have := qe_beqt e0; subst this
        have em : s_math 0 L (.int v :: .int u :: R2) h = if am_w R2 ≤ 8 then nx L (.int (if u < v then v else u) :: R2) h else none := rfl
        rw [em, if_pos hw]
        cases g1 : Nat.ble (qe_itv G y).2 (qe_itv G x).1
        · rw [g1, cond_false] at hs
          cases g2 : Nat.ble ((qe_itv G x).2 + 1) (qe_itv G y).1
          · rw [g2, cond_false] at hs
            refine qe_c_nx hs (qe_pn_id hR hL ⟨.inl ⟨rfl, ?_⟩, h2⟩)
            show qe_nmax (qe_itv G x).1 (qe_itv G y).1 ≤ _ ∧ _ ≤ qe_nmax (qe_itv G x).2 (qe_itv G y).2
            have q1 := qe_nmax_l (qe_itv G x).2 (qe_itv G y).2
            have q2 := qe_nmax_r (qe_itv G x).2 (qe_itv G y).2
            by_cases hc : u < v
            · rw [if_pos hc]
              rw [qe_i_lt] at hc
              exact ⟨qe_nmax_le (by omega) (by omega), by omega⟩
            · rw [if_neg hc]
              rw [qe_i_lt] at hc
              exact ⟨qe_nmax_le (by omega) (by omega), by omega⟩
          · rw [g2, cond_true] at hs
            have g2 := qe_blet g2
            rw [if_pos ((qe_i_lt u v).2 (by omega))]
            exact qe_c_nx hs (qe_pn_id hR hL ⟨gy, h2⟩)
        · rw [g1, cond_true] at hs
          have g1 := qe_blet g1
          rw [if_neg (fun e => by have := (qe_i_lt u v).1 e; omega)]
          exact qe_c_nx hs (qe_pn_id hR hL ⟨gx, h2⟩)
    · cases hs
  · rw [e2, cond_true] at hs
    have := qe_beqt e2; subst this
    split at hs
    · rename_i x r
      obtain ⟨X, R2, rfl, gx, h2⟩ := qe_lm_cons hS
      replace hs := qe_bif_some hs
      obtain ⟨f0, hs⟩ := hs
      obtain ⟨fx, fw⟩ := qe_and2 f0
      obtain ⟨u, rfl⟩ := qe_sv_int gx fx
      have bx := qe_sv_itv gx hR.1.1
      have hw : am_w R2 ≤ 8 := by rw [qe_lm_w h2]; exact qe_blet fw
      have em : s_math 2 L (.int u :: R2) h = if am_w R2 ≤ 8 then nx L (.int (if 0 ≤ u then u else 0 - u) :: R2) h else none := rfl
      rw [em, if_pos hw]
      dsimp only at hs
      cases g1 : Nat.ble 2147483648 (qe_itv G x).1
      · rw [g1, cond_false] at hs
        exact qe_c_nx hs (qe_pn_id hR hL ⟨qe_full_ok _, h2⟩)
      · rw [g1, cond_true] at hs
        have g1 := qe_blet g1
        rw [qe_ab_ok (by omega)]
        exact qe_c_nx hs (qe_pn_id hR hL ⟨gx, h2⟩)
    · cases hs
end
