/-! ===== runs, by instructions ===== -/
section
variable {σ : Nat → Nat} {M M' pc t : Nat} {ai : AI} {tl cd : List (Nat × AI)} {L L' : LV} {S S' : List Value} {h h' : AH} {Q Q' : Option Value → AH → Prop} {c c' : Int} {a k q f i n : Nat} {fs : List Value} {v : Value} {x y z : Int32}
theorem rl_const (hk : Rt σ M tl L (.int (Int32.ofInt c) :: S) h Q) : Rt σ M ((pc, (0, a, c)) :: tl) L S h Q := rt_nx rfl hk
theorem rl_load (h1 : lv_get a L = some v) (h2 : am_ty c v = true) (hk : Rt σ M tl L (v :: S) h Q) : Rt σ M ((pc, (1, a, c)) :: tl) L S h Q := by
  refine rt_nx ?_ hk
  show s_load a c L S h = _
  unfold s_load
  rw [h1]
  dsimp only
  rw [if_pos h2]
  rfl
theorem rl_store (h2 : am_ty c v = true) (hk : Rt σ M tl (lv_put a v L) S h Q) : Rt σ M ((pc, (2, a, c)) :: tl) L (v :: S) h Q := by
  refine rt_nx ?_ hk
  show s_store a c L (v :: S) h = _
  unfold s_store
  dsimp only
  rw [if_pos h2]
  rfl
theorem rl_iinc (h1 : lv_get a L = some (.int x)) (hk : Rt σ M tl (lv_put a (.int (x + Int32.ofInt c)) L) S h Q) : Rt σ M ((pc, (3, a, c)) :: tl) L S h Q := by
  refine rt_nx ?_ hk
  show s_iinc a c L S h = _
  unfold s_iinc
  rw [h1]
  rfl
theorem rl_bin (h1 : ibin a x y = some z) (hk : Rt σ M tl L (.int z :: S) h Q) : Rt σ M ((pc, (4, a, c)) :: tl) L (.int y :: .int x :: S) h Q := by
  refine rt_nx ?_ hk
  show s_ibin a L (.int y :: .int x :: S) h = _
  unfold s_ibin
  dsimp only
  rw [h1]
  rfl
theorem rl_icmpT (h1 : icond a x y = some true) (hk : Rt σ M (jump M c.toNat) L S h Q) : Rt σ M ((pc, (5, a, c)) :: tl) L (.int y :: .int x :: S) h Q := by
  refine rt_jp ?_ hk
  show s_icmp a c L (.int y :: .int x :: S) h = _
  unfold s_icmp
  dsimp only
  rw [h1]
  rfl
theorem rl_icmpF (h1 : icond a x y = some false) (hk : Rt σ M tl L S h Q) : Rt σ M ((pc, (5, a, c)) :: tl) L (.int y :: .int x :: S) h Q := by
  refine rt_nx ?_ hk
  show s_icmp a c L (.int y :: .int x :: S) h = _
  unfold s_icmp
  dsimp only
  rw [h1]
  rfl
theorem rl_ifT (h1 : icond a x 0 = some true) (hk : Rt σ M (jump M c.toNat) L S h Q) : Rt σ M ((pc, (6, a, c)) :: tl) L (.int x :: S) h Q := by
  refine rt_jp ?_ hk
  show s_if a c L (.int x :: S) h = _
  unfold s_if
  dsimp only
  rw [h1]
  rfl
theorem rl_ifF (h1 : icond a x 0 = some false) (hk : Rt σ M tl L S h Q) : Rt σ M ((pc, (6, a, c)) :: tl) L (.int x :: S) h Q := by
  refine rt_nx ?_ hk
  show s_if a c L (.int x :: S) h = _
  unfold s_if
  dsimp only
  rw [h1]
  rfl
theorem rl_goto (hk : Rt σ M (jump M c.toNat) L S h Q) : Rt σ M ((pc, (7, a, c)) :: tl) L S h Q := rt_jp rfl hk
theorem rl_get (h1 : h.1 q = some (k, fs)) (h2 : (fks f).contains k = true) (h3 : fs[fpos f]? = some v) (hk : Rt σ M tl L (v :: S) h Q) : Rt σ M ((pc, (8, f, c)) :: tl) L (.ref q :: S) h Q := by
  refine rt_nx ?_ hk
  show s_get f L (.ref q :: S) h = _
  unfold s_get am_get
  dsimp only
  rw [h1]
  dsimp only
  rw [if_pos h2, h3]
  rfl
theorem rl_put (h1 : h.1 q = some (k, fs)) (h2 : (fks f).contains k = true) (h3 : fpos f < fs.length) (h4 : am_fit (dcode (fr f).2.2.1) v = true) (hk : Rt σ M tl L S (am_set h q (k, fs.set (fpos f) v)) Q) : Rt σ M ((pc, (9, f, c)) :: tl) L (v :: .ref q :: S) h Q := by
  refine rt_nx ?_ hk
  show s_put f L (v :: .ref q :: S) h = _
  unfold s_put am_get
  dsimp only
  rw [h1]
  dsimp only
  rw [h2, decide_eq_true h3, h4, if_pos (show (true && (true && true)) = true from rfl)]
  rfl
theorem rl_ald {j : Int32} (h1 : h.1 q = some (k, fs)) (h2 : am_ld a k = true) (h3 : ¬ j < 0) (h4 : fs[j.toNatClampNeg]? = some v) (hk : Rt σ M tl L (v :: S) h Q) : Rt σ M ((pc, (10, a, c)) :: tl) L (.int j :: .ref q :: S) h Q := by
  refine rt_nx ?_ hk
  show s_ald a L (.int j :: .ref q :: S) h = _
  unfold s_ald am_get
  dsimp only
  rw [h1]
  dsimp only
  rw [h2, decide_eq_true h3, if_pos (show (true && true) = true from rfl), h4]
  rfl
theorem rl_ast {j : Int32} (h1 : h.1 q = some (k, fs)) (h2 : am_st a k v h = true) (h3 : ¬ j < 0) (h4 : j.toNatClampNeg < fs.length) (hk : Rt σ M tl L S (am_set h q (k, fs.set j.toNatClampNeg v)) Q) : Rt σ M ((pc, (11, a, c)) :: tl) L (v :: .int j :: .ref q :: S) h Q := by
  refine rt_nx ?_ hk
  show s_ast a L (v :: .int j :: .ref q :: S) h = _
  unfold s_ast am_get
  dsimp only
  rw [h1]
  dsimp only
  rw [h2, decide_eq_true h3, decide_eq_true h4, if_pos (show (true && (true && true)) = true from rfl)]
  rfl
theorem rl_null (hk : Rt σ M tl L (.null :: S) h Q) : Rt σ M ((pc, (19, a, c)) :: tl) L S h Q := rt_nx rfl hk
theorem rl_dup (h1 : v.category = 1) (hk : Rt σ M tl L (v :: v :: S) h Q) : Rt σ M ((pc, (18, 0, c)) :: tl) L (v :: S) h Q := by
  refine rt_nx ?_ hk
  show s_stk 0 L (v :: S) h = _
  rw [stk0, if_pos h1]
  rfl
theorem rl_pop (h1 : v.category = 1) (hk : Rt σ M tl L S h Q) : Rt σ M ((pc, (18, 1, c)) :: tl) L (v :: S) h Q := by
  refine rt_nx ?_ hk
  show s_stk 1 L (v :: S) h = _
  rw [stk1, if_pos h1]
  rfl
theorem rl_dupx {u : Value} (h1 : v.category = 1) (h2 : u.category = 1) (hk : Rt σ M tl L (v :: u :: v :: S) h Q) : Rt σ M ((pc, (18, 2, c)) :: tl) L (v :: u :: S) h Q := by
  refine rt_nx ?_ hk
  show s_stk 2 L (v :: u :: S) h = _
  rw [stk2, if_pos ⟨h1, h2⟩]
  rfl
theorem rl_acmpT0 {q' : Nat} (h1 : q' = q) (hk : Rt σ M (jump M c.toNat) L S h Q) : Rt σ M ((pc, (21, 0, c)) :: tl) L (.ref q :: .ref q' :: S) h Q := by
  refine rt_jp ?_ hk
  show s_acmp 0 c L (.ref q :: .ref q' :: S) h = _
  rw [acmp0 (x := some q') (y := some q) rfl rfl, if_pos (by rw [h1])]
  rfl
theorem rl_acmpF0 {q' : Nat} (h1 : q' ≠ q) (hk : Rt σ M tl L S h Q) : Rt σ M ((pc, (21, 0, c)) :: tl) L (.ref q :: .ref q' :: S) h Q := by
  refine rt_nx ?_ hk
  show s_acmp 0 c L (.ref q :: .ref q' :: S) h = _
  rw [acmp0 (x := some q') (y := some q) rfl rfl, if_neg (fun e => h1 (Option.some.inj e))]
  rfl
theorem rl_acmpF1 {q' : Nat} (h1 : q' = q) (hk : Rt σ M tl L S h Q) : Rt σ M ((pc, (21, 1, c)) :: tl) L (.ref q :: .ref q' :: S) h Q := by
  refine rt_nx ?_ hk
  show s_acmp 1 c L (.ref q :: .ref q' :: S) h = _
  rw [acmp1 (x := some q') (y := some q) rfl rfl, if_pos (by rw [h1])]
  rfl
theorem rl_len (h1 : h.1 q = some (k, fs)) (h2 : 20 ≤ k) (h3 : fs.length < 2 ^ 31) (hk : Rt σ M tl L (.int (nI fs.length) :: S) h Q) : Rt σ M ((pc, (23, a, c)) :: tl) L (.ref q :: S) h Q := by
  refine rt_nx ?_ hk
  show s_len L (.ref q :: S) h = _
  unfold s_len am_get
  dsimp only
  rw [h1]
  dsimp only
  rw [if_pos ⟨h2, h3⟩]
  rfl
theorem rl_anew {N : Nat} (h1 : ¬ x < 0) (h2 : x.toNatClampNeg = N) (h3 : N ≤ 60000000) (hk : Rt σ M tl L (.ref h.2.1 :: S) (am_push h (a, List.replicate N (am_def a)) N) Q) : Rt σ M ((pc, (25, a, c)) :: tl) L (.int x :: S) h Q := by
  refine rt_nx ?_ hk
  show s_newa a L (.int x :: S) h = _
  unfold s_newa s_new
  dsimp only
  rw [h2, if_pos ⟨h1, h3⟩]
  rfl
theorem rl_stat (hk : Rt σ M tl L (.ref (σ a) :: S) h Q) : Rt σ M ((pc, (27, a, c)) :: tl) L S h Q := rt_nx rfl hk
theorem rl_max (h1 : am_w S ≤ 8) (hk : Rt σ M tl L (.int (if x < y then y else x) :: S) h Q) : Rt σ M ((pc, (32, 0, c)) :: tl) L (.int y :: .int x :: S) h Q := by
  refine rt_nx ?_ hk
  show s_math 0 L (.int y :: .int x :: S) h = _
  rw [math0, if_pos h1]
  rfl
theorem rl_min (h1 : am_w S ≤ 8) (hk : Rt σ M tl L (.int (if y < x then y else x) :: S) h Q) : Rt σ M ((pc, (32, 1, c)) :: tl) L (.int y :: .int x :: S) h Q := by
  refine rt_nx ?_ hk
  show s_math 1 L (.int y :: .int x :: S) h = _
  rw [math1, if_pos h1]
  rfl
theorem rl_gcl (h1 : h.1 q = some (24, fs)) (h2 : am_w S ≤ 8) (hk : Rt σ M tl L (.ref (σ 6) :: S) h Q) : Rt σ M ((pc, (33, a, c)) :: tl) L (.ref q :: S) h Q := by
  refine rt_nx ?_ hk
  show s_gcl (σ 6) L (.ref q :: S) h = _
  unfold s_gcl am_get
  dsimp only
  rw [h1]
  dsimp only
  rw [if_pos ⟨rfl, h2⟩]
  rfl
theorem rl_ldk (hk : Rt σ M tl L (.ref (σ 6) :: S) h Q) : Rt σ M ((pc, (34, a, c)) :: tl) L S h Q := rt_nx rfl hk
theorem rl_acr {q0 q1 : Nat} {xs ys : List Value} {i j n : Int32} {ni nj nn : Nat} (h0 : h.1 q0 = some (24, xs)) (h1 : h.1 q1 = some (24, ys)) (h2 : xs.all (am_el h) = true) (hi : ¬ i < 0) (hj : ¬ j < 0) (hn : ¬ n < 0) (ei : i.toNatClampNeg = ni) (ej : j.toNatClampNeg = nj) (en : n.toNatClampNeg = nn) (h3 : ni + nn ≤ xs.length) (h4 : nj + nn ≤ ys.length) (h5 : am_w S ≤ 8) (hk : Rt σ M tl L S (am_set h q1 (24, am_cpy xs ys ni nj nn)) Q) : Rt σ M ((pc, (35, a, c)) :: tl) L (.int n :: .int j :: .ref q1 :: .int i :: .ref q0 :: S) h Q := by
  refine rt_nx ?_ hk
  show s_acr L (.int n :: .int j :: .ref q1 :: .int i :: .ref q0 :: S) h = _
  unfold s_acr am_get
  dsimp only
  rw [h0, h1]
  dsimp only
  rw [ei, ej, en, if_pos ⟨rfl, rfl, h2, ⟨hi, hj, hn⟩, h3, h4, h5⟩]
  rfl
theorem rl_ret0 (hq : Q none h) : Rt σ M ((pc, (13, 0, c)) :: tl) L [] h Q := rt_ret rfl hq
theorem rl_ret1 (hq : Q (some (.int x)) h) : Rt σ M ((pc, (13, 1, c)) :: tl) L [.int x] h Q := rt_ret rfl hq
theorem rl_ret3 (hq : Q (some (.ref q)) h) : Rt σ M ((pc, (13, 3, c)) :: tl) L [.ref q] h Q := rt_ret rfl hq
theorem rl_ret4 (h1 : x = 0 ∨ x = 1) (hq : Q (some (.int x)) h) : Rt σ M ((pc, (13, 4, c)) :: tl) L [.int x] h Q := by
  refine rt_ret ?_ hq
  show s_ret 4 [.int x] = _
  rw [ret4, if_pos h1]
theorem rl_callv {as r : List Value} (h0 : spec a = (1, n, [(k, M')])) (h1 : S = as.reverse ++ .ref q :: r) (h2 : as.length = n) (h3 : h.1 q = some (k, fs)) (h4 : am_w r ≤ 8) (h5 : am_ok (.ref q :: as) M' = true) (hk : Rt σ M' (codeOf M') (am_args 0 (.ref q :: as)) [] h (fun v h' => Rt σ M tl L (v.toList ++ r) h' Q)) : Rt σ M ((pc, (12, a, c)) :: tl) L S h Q := by
  refine rt_call ?_ hk
  show s_call a S h = _
  have hl : as.reverse.length = n := by rw [List.length_reverse]; exact h2
  have e1 : (S.take n).reverse = as := by rw [h1, ← hl, List.take_left', List.reverse_reverse]; rfl
  have e2 : S.drop n = .ref q :: r := by rw [h1, ← hl, List.drop_left']; rfl
  unfold s_call am_get
  rw [h0]
  dsimp only
  rw [e1, e2, if_pos h2]
  dsimp only
  rw [h3]
  dsimp only
  have e3 : List.find? (fun t : Nat × Nat => t.1 == k) [(k, M')] = some (k, M') := by
    rw [List.find?_cons]
    show (match (k == k) with | true => some (k, M') | false => _) = _
    rw [beq_self_eq_true]
  rw [e3]
  exact if_pos ⟨h4, h5⟩
theorem rl_calls {as r : List Value} (h0 : spec a = (0, n, [(k, M')])) (h1 : S = as.reverse ++ r) (h2 : as.length = n) (h4 : am_w r ≤ 8) (h5 : am_ok as M' = true) (hk : Rt σ M' (codeOf M') (am_args 0 as) [] h (fun v h' => Rt σ M tl L (v.toList ++ r) h' Q)) : Rt σ M ((pc, (12, a, c)) :: tl) L S h Q := by
  refine rt_call ?_ hk
  show s_call a S h = _
  have hl : as.reverse.length = n := by rw [List.length_reverse]; exact h2
  have e1 : (S.take n).reverse = as := by rw [h1, ← hl, List.take_left', List.reverse_reverse]; rfl
  have e2 : S.drop n = r := by rw [h1, ← hl, List.drop_left']; rfl
  unfold s_call
  rw [h0]
  dsimp only
  rw [e1, e2, if_pos h2]
  exact if_pos ⟨h4, h5⟩
end
/-! ===== lists: size, isEmpty, get ===== -/
theorem k156 : (fks 156).contains 12 = true ∧ (fpos 156 = 1 ∧ dcode (fr 156).2.2.1 = 3) := ⟨by decide +kernel, by decide +kernel, by decide +kernel⟩
theorem k157 : (fks 157).contains 12 = true ∧ (fpos 157 = 2 ∧ dcode (fr 157).2.2.1 = 0) := ⟨by decide +kernel, by decide +kernel, by decide +kernel⟩
theorem k158 : (fks 158).contains 12 = true ∧ (fpos 158 = 0 ∧ dcode (fr 158).2.2.1 = 0) := ⟨by decide +kernel, by decide +kernel, by decide +kernel⟩
section
variable {σ : Nat → Nat} {h h' : AH} {Q : Option Value → AH → Prop} {q : Nat} {mc sz : Int32} {ed : Value}
theorem g156 {mc sz : Int32} {ed : Value} : ([.int mc, ed, .int sz] : List Value)[fpos 156]? = some ed := by rw [k156.2.1]; rfl
theorem g157 {mc sz : Int32} {ed : Value} : ([.int mc, ed, .int sz] : List Value)[fpos 157]? = some (.int sz) := by rw [k157.2.1]; rfl
theorem g158 {mc sz : Int32} {ed : Value} : ([.int mc, ed, .int sz] : List Value)[fpos 158]? = some (.int mc) := by rw [k158.2.1]; rfl
theorem L_size (hq : h.1 q = some (12, [.int mc, ed, .int sz])) (hQ : Q (some (.int sz)) h) : Rt σ 2 (codeOf 2) (am_args 0 [.ref q]) [] h Q := by
  have e : codeOf 2 = [(0, 1, 0, 2), (1, 8, 157, 0), (4, 13, 1, 0)] := rfl
  rw [e]
  exact rl_load rfl rfl (rl_get hq k157.1 g157 (rl_ret1 hQ))
theorem L_empty (hq : h.1 q = some (12, [.int mc, ed, .int sz])) (hQ : Q (some (.int (if sz = 0 then 1 else 0))) h) : Rt σ mEmpty (codeOf mEmpty) (am_args 0 [.ref q]) [] h Q := by
  have e : codeOf mEmpty = [(0, 1, 0, 2), (1, 8, 157, 0), (4, 6, 1, 11), (7, 0, 0, 1), (8, 7, 0, 12), (11, 0, 0, 0), (12, 13, 4, 0)] := rfl
  rw [e]
  refine rl_load rfl rfl (rl_get hq k157.1 g157 ?_)
  by_cases h0 : sz = 0
  · rw [if_pos h0] at hQ
    refine rl_ifF (by show some (decide (¬ sz = 0)) = some false; rw [decide_eq_false (fun e => e h0)]) (rl_const (rl_goto ?_))
    have e2 : jump mEmpty (12 : Int).toNat = [(12, 13, 4, 0)] := by rw [jump_jmp, e]; rfl
    rw [e2]
    exact rl_ret4 (Or.inr rfl) hQ
  · rw [if_neg h0] at hQ
    refine rl_ifT (by show some (decide (¬ sz = 0)) = some true; rw [decide_eq_true h0]) ?_
    have e2 : jump mEmpty (11 : Int).toNat = [(11, 0, 0, 0), (12, 13, 4, 0)] := by rw [jump_jmp, e]; rfl
    rw [e2]
    exact rl_const (rl_ret4 (Or.inl rfl) hQ)
theorem L_check {j : Int32} (h1 : ¬ j < 0) (h2 : j < sz) (hQ : Q (some (.int j)) h) : Rt σ 282 (codeOf 282) (am_args 0 [.int j, .int sz]) [] h Q := by
  have e : codeOf 282 = [(0, 1, 0, 0), (1, 1, 1, 0), (2, 19, 0, 0), (3, 12, 194, 0), (6, 13, 1, 0)] := rfl
  have e2 : codeOf 283 = [(0, 1, 0, 0), (1, 6, 2, 9), (4, 1, 0, 0), (5, 1, 1, 0), (6, 5, 2, 16), (9, 1, 2, 2), (10, 1, 0, 0), (11, 1, 1, 0), (12, 99, 0, 0), (15, 99, 0, 0), (16, 1, 0, 0), (17, 13, 1, 0)] := rfl
  rw [e]
  refine rl_load rfl rfl (rl_load rfl rfl (rl_null (rl_calls (k := 0) (M' := 283) (n := 3) (as := [.int j, .int sz, .null]) (r := []) (by decide +kernel) rfl rfl (by decide) (by rfl) ?_)))
  rw [e2]
  refine rl_load rfl rfl (rl_ifF (by show some (decide (j < 0)) = some false; rw [decide_eq_false h1]) (rl_load rfl rfl (rl_load rfl rfl (rl_icmpT (by show some (decide (j < sz)) = some true; rw [decide_eq_true h2]) ?_))))
  have e3 : jump 283 (16 : Int).toNat = [(16, 1, 0, 0), (17, 13, 1, 0)] := by rw [jump_jmp, e2]; rfl
  rw [e3]
  exact rl_load rfl rfl (rl_ret1 (rl_ret1 hQ))
theorem L_get {j : Int32} {bq u : Nat} {us : List Value} (hq : h.1 q = some (12, [.int mc, .ref bq, .int sz])) (hb : h.1 bq = some (24, us)) (h1 : ¬ j < 0) (h2 : j < sz) (h3 : us[j.toNatClampNeg]? = some (.ref u)) (hQ : Q (some (.ref u)) h) : Rt σ 3 (codeOf 3) (am_args 0 [.ref q, .int j]) [] h Q := by
  have e : codeOf 3 = [(0, 1, 1, 0), (1, 1, 0, 2), (2, 8, 157, 0), (5, 12, 0, 0), (8, 18, 1, 0), (9, 1, 0, 2), (10, 1, 1, 0), (11, 12, 1, 0), (14, 13, 3, 0)] := rfl
  have e2 : codeOf 284 = [(0, 1, 0, 2), (1, 8, 156, 0), (4, 1, 1, 0), (5, 10, 4, 0), (6, 13, 3, 0)] := rfl
  rw [e]
  refine rl_load rfl rfl (rl_load rfl rfl (rl_get hq k157.1 g157 (rl_calls (k := 0) (M' := 282) (n := 2) (as := [.int j, .int sz]) (r := []) (by decide +kernel) rfl rfl (by decide) (by rfl) (L_check h1 h2 ?_))))
  refine rl_pop rfl (rl_load rfl rfl (rl_load rfl rfl (rl_callv (k := 12) (M' := 284) (n := 1) (as := [.int j]) (r := []) (by decide +kernel) rfl rfl hq (by decide) (by rfl) ?_)))
  rw [e2]
  exact rl_load rfl rfl (rl_get hq k156.1 g156 (rl_load rfl rfl (rl_ald hb rfl h1 h3 (rl_ret3 (rl_ret3 hQ)))))
end
