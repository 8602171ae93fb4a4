section
/-! ===== the planner, pure: least miles of sets, rows in order, shares of tasks ===== -/
/-- the least of what is asked for below n, at most 1000000 -/
noncomputable def mnJ (c : Nat → Bool) (g : Nat → Nat) : Nat → Nat
  | 0 => 1000000
  | j + 1 => bif c j then (if g j < mnJ c g j then g j else mnJ c g j) else mnJ c g j
/-- from a place over the tasks left, home -/
noncomputable def pL (n : Nat) (hw : Nat → Nat) (on : Nat → Nat → Nat) : Nat → Nat → Nat → Nat
  | 0, p, _ => hw p
  | f + 1, p, S => if S = 0 then hw p else mnJ (fun j => Nat.testBit S j) (fun j => on p j + pL n hw on f j (S - 2 ^ j)) n
noncomputable def LL (n : Nat) (hw : Nat → Nat) (on : Nat → Nat → Nat) (p S : Nat) : Nat := pL n hw on S p S
noncomputable def Fit (n : Nat) : List Nat → Nat → Prop
  | [], S => S = 0
  | j :: r, S => (j < n ∧ Nat.testBit S j = true) ∧ Fit n r (S - 2 ^ j)
noncomputable def cost (hw : Nat → Nat) (on : Nat → Nat → Nat) : Nat → List Nat → Nat
  | p, [] => hw p
  | p, j :: r => on p j + cost hw on j r
/-- the first j from s on, of r -/
noncomputable def fsF (c : Nat → Bool) : Nat → Nat → Nat
  | 0, s => s
  | r + 1, s => bif c s then s else fsF c r (s + 1)
noncomputable def lbC (n : Nat) (hw : Nat → Nat) (on : Nat → Nat → Nat) (p S j : Nat) : Bool := Nat.testBit S j && decide (on p j + LL n hw on j (S - 2 ^ j) = LL n hw on p S)
noncomputable def lbJ (n : Nat) (hw : Nat → Nat) (on : Nat → Nat → Nat) (p S : Nat) : Nat := fsF (lbC n hw on p S) n 0
noncomputable def grF (n : Nat) (hw : Nat → Nat) (on : Nat → Nat → Nat) : Nat → Nat → Nat → List Nat
  | 0, _, _ => []
  | f + 1, p, S => if S = 0 then [] else lbJ n hw on p S :: grF n hw on f (lbJ n hw on p S) (S - 2 ^ lbJ n hw on p S)
noncomputable def gg (n : Nat) (hw : Nat → Nat) (on : Nat → Nat → Nat) (p S : Nat) : List Nat := grF n hw on S p S
noncomputable def pcB (S : Nat) : Nat := S % 2 + S / 2 % 2 + S / 4 % 2 + S / 8 % 2 + S / 16 % 2 + S / 32 % 2
noncomputable def vlR (n : Nat) : List Nat → Nat
  | [] => 0
  | j :: r => j * n ^ r.length + vlR n r
noncomputable def Dg (n : Nat) (r : List Nat) : Prop := ∀ j, j ∈ r → j < n
/-- the bits of a row -/
noncomputable def soR : List Nat → Nat
  | [] => 0
  | j :: r => soR r ||| 2 ^ j
noncomputable def cdR : List Nat → Nat
  | [] => 0
  | j :: r => 8 * cdR r + j
/-- the figures of w, s of them -/
noncomputable def rlR (n : Nat) : Nat → Nat → List Nat
  | 0, _ => []
  | s + 1, w => rlR n s (w / n) ++ [w % n]
theorem bt_rm : ∀ S, S < 64 → ∀ j, j < 6 → Nat.testBit S j = true → (pcB (S - 2 ^ j) + 1 = pcB S ∧ S - 2 ^ j < 64) ∧ (Nat.testBit (S - 2 ^ j) j = false ∧ (S - 2 ^ j) ||| 2 ^ j = S) := by decide +kernel
theorem bt_or : ∀ S, S < 64 → ∀ j, j < 6 → (S ||| 2 ^ j) < 64 ∧ (Nat.testBit (S ||| 2 ^ j) j = true ∧ ((Nat.testBit S j = true → pcB (S ||| 2 ^ j) = pcB S) ∧ (Nat.testBit S j = false → pcB (S ||| 2 ^ j) = pcB S + 1 ∧ (S ||| 2 ^ j) - 2 ^ j = S))) := by decide +kernel
section
variable {c c' : Nat → Bool} {g g' hw : Nat → Nat} {on : Nat → Nat → Nat} {n p S j f f' : Nat}
theorem mnJ_top : ∀ n, mnJ c g n ≤ 1000000 := by
  intro n
  induction n with
  | zero => exact Nat.le_refl _
  | succ n ih =>
    rw [mnJ]
    cases c n
    · exact ih
    · rw [cond_true]
      by_cases h : g n < mnJ c g n
      · rw [if_pos h]; omega
      · rw [if_neg h]; exact ih
theorem mnJ_le (hc : c j = true) : ∀ {n}, j < n → mnJ c g n ≤ g j := by
  intro n
  induction n with
  | zero => intro h; omega
  | succ n ih =>
    intro h
    rw [mnJ]
    by_cases e : j = n
    · subst e
      rw [hc, cond_true]
      by_cases h : g j < mnJ c g j
      · rw [if_pos h]; exact Nat.le_refl _
      · rw [if_neg h]; omega
    · have h1 := ih (by omega)
      cases c n
      · exact h1
      · rw [cond_true]
        by_cases h : g n < mnJ c g n
        · rw [if_pos h]; omega
        · rw [if_neg h]; exact h1
theorem mnJ_ex : ∀ {n}, mnJ c g n < 1000000 → ∃ j, j < n ∧ (c j = true ∧ g j = mnJ c g n) := by
  intro n
  induction n with
  | zero => intro h; exact absurd h (by show ¬ 1000000 < 1000000; omega)
  | succ n ih =>
    intro h
    rw [mnJ] at h ⊢
    cases hc : c n
    · rw [hc, cond_false] at h
      obtain ⟨j, j1, j2, j3⟩ := ih h
      exact ⟨j, by omega, j2, j3⟩
    · rw [hc, cond_true] at h
      rw [cond_true]
      by_cases e : g n < mnJ c g n
      · rw [if_pos e]
        exact ⟨n, by omega, hc, rfl⟩
      · rw [if_neg e] at h ⊢
        obtain ⟨j, j1, j2, j3⟩ := ih h
        exact ⟨j, by omega, j2, j3⟩
theorem mnJ_cg : ∀ {n}, (∀ j, j < n → c j = true → g j = g' j) → mnJ c g n = mnJ c g' n := by
  intro n
  induction n with
  | zero => intro _; rfl
  | succ n ih =>
    intro h
    have h1 := ih (fun j hj => h j (by omega))
    rw [mnJ, mnJ, h1]
    cases hc : c n
    · rfl
    · rw [h n (by omega) hc]
theorem two_pos (j : Nat) : 1 ≤ 2 ^ j := Nat.one_le_two_pow
theorem pL_fu : ∀ f f' p S, S ≤ f → S ≤ f' → pL n hw on f p S = pL n hw on f' p S := by
  intro f
  induction f with
  | zero =>
    intro f' p S h1 h2
    have e : S = 0 := by omega
    subst e
    cases f' with
    | zero => rfl
    | succ f' => rw [pL, pL, if_pos rfl]
  | succ f ih =>
    intro f' p S h1 h2
    by_cases e : S = 0
    · subst e
      cases f' with
      | zero => rw [pL, pL, if_pos rfl]
      | succ f' => rw [pL, pL, if_pos rfl, if_pos rfl]
    · cases f' with
      | zero => omega
      | succ f' =>
        rw [pL, pL, if_neg e, if_neg e]
        refine mnJ_cg fun j _ _ => ?_
        have := two_pos j
        rw [ih f' j (S - 2 ^ j) (by omega) (by omega)]
theorem LL_0 : LL n hw on p 0 = hw p := rfl
theorem LL_s (h : S ≠ 0) : LL n hw on p S = mnJ (fun j => Nat.testBit S j) (fun j => on p j + LL n hw on j (S - 2 ^ j)) n := by
  cases S with
  | zero => exact absurd rfl h
  | succ S =>
    show pL n hw on (S + 1) p (S + 1) = _
    rw [pL, if_neg h]
    refine mnJ_cg fun j _ _ => ?_
    have := two_pos j
    show on p j + pL n hw on S j (S + 1 - 2 ^ j) = on p j + pL n hw on (S + 1 - 2 ^ j) j (S + 1 - 2 ^ j)
    rw [pL_fu S (S + 1 - 2 ^ j) j (S + 1 - 2 ^ j) (by omega) (by omega)]
theorem LL_top (hh : hw p ≤ 1000000) : LL n hw on p S ≤ 1000000 := by
  by_cases e : S = 0
  · subst e
    exact hh
  · rw [LL_s e]
    exact mnJ_top _
theorem bt_0 (h : Nat.testBit S j = true) : S ≠ 0 := fun e => by
  rw [e, Nat.zero_testBit] at h
  cases h
theorem LL_le : ∀ {r : List Nat} {p S}, Fit n r S → LL n hw on p S ≤ cost hw on p r := by
  intro r
  induction r with
  | nil =>
    intro p S h
    replace h : S = 0 := h
    subst h
    exact Nat.le_refl _
  | cons j r ih =>
    intro p S h
    obtain ⟨⟨h1, h2⟩, h3⟩ := h
    rw [LL_s (bt_0 h2), cost]
    have h4 := mnJ_le (c := fun j => Nat.testBit S j) (g := fun j => on p j + LL n hw on j (S - 2 ^ j)) h2 h1
    have h5 := ih (p := j) h3
    omega
theorem fsF_ok : ∀ {r s}, (∃ j, s ≤ j ∧ (j < s + r ∧ c j = true)) → (s ≤ fsF c r s ∧ fsF c r s < s + r) ∧ (c (fsF c r s) = true ∧ ∀ j, s ≤ j → j < s + r → c j = true → fsF c r s ≤ j) := by
  intro r
  induction r with
  | zero =>
    intro s h
    obtain ⟨j, h1, h2, -⟩ := h
    omega
  | succ r ih =>
    intro s h
    rw [fsF]
    cases hc : c s
    · rw [cond_false]
      obtain ⟨j, h1, h2, h3⟩ := h
      have hne : j ≠ s := fun e => by
        rw [e, hc] at h3
        cases h3
      obtain ⟨⟨a1, a2⟩, a3, a4⟩ := ih (s := s + 1) ⟨j, by omega, by omega, h3⟩
      refine ⟨⟨by omega, by omega⟩, a3, fun k k1 k2 k3 => ?_⟩
      have hne : k ≠ s := fun e => by
        rw [e, hc] at k3
        cases k3
      exact a4 k (by omega) (by omega) k3
    · rw [cond_true]
      exact ⟨⟨Nat.le_refl _, by omega⟩, hc, fun k k1 _ _ => k1⟩
theorem fsF_no : ∀ {r s}, (∀ j, s ≤ j → j < s + r → c j = false) → fsF c r s = s + r := by
  intro r
  induction r with
  | zero => intro s _; rfl
  | succ r ih =>
    intro s h
    rw [fsF, h s (Nat.le_refl _) (by omega), cond_false, ih fun j j1 j2 => h j (by omega) (by omega)]
    omega
/-- the least task to go on to -/
theorem lbJ_ok (hs : S ≠ 0) (ht : LL n hw on p S < 1000000) : (lbJ n hw on p S < n ∧ Nat.testBit S (lbJ n hw on p S) = true) ∧ (on p (lbJ n hw on p S) + LL n hw on (lbJ n hw on p S) (S - 2 ^ lbJ n hw on p S) = LL n hw on p S ∧ ∀ j, j < n → Nat.testBit S j = true → on p j + LL n hw on j (S - 2 ^ j) = LL n hw on p S → lbJ n hw on p S ≤ j) := by
  have h1 := ht
  rw [LL_s hs] at h1
  obtain ⟨j, j1, j2, j3⟩ := mnJ_ex h1
  rw [← LL_s hs] at j3
  have cj : ∀ j, Nat.testBit S j = true → on p j + LL n hw on j (S - 2 ^ j) = LL n hw on p S → lbC n hw on p S j = true := fun j e1 e2 => by
    unfold lbC
    rw [e1, decide_eq_true e2]
    rfl
  obtain ⟨⟨-, a2⟩, a3, a4⟩ := fsF_ok (c := lbC n hw on p S) (r := n) (s := 0) ⟨j, Nat.zero_le _, by omega, cj j j2 j3⟩
  have a3' := a3
  unfold lbC at a3'
  rw [Bool.and_eq_true] at a3'
  refine ⟨⟨by unfold lbJ; omega, a3'.1⟩, of_decide_eq_true a3'.2, fun k k1 k2 k3 => a4 k (Nat.zero_le _) (by omega) (cj k k2 k3)⟩
theorem grF_fu : ∀ f f' p S, S ≤ f → S ≤ f' → grF n hw on f p S = grF n hw on f' p S := by
  intro f
  induction f with
  | zero =>
    intro f' p S h1 h2
    have e : S = 0 := by omega
    subst e
    cases f' with
    | zero => rfl
    | succ f' => rw [grF, grF, if_pos rfl]
  | succ f ih =>
    intro f' p S h1 h2
    by_cases e : S = 0
    · subst e
      cases f' with
      | zero => rw [grF, grF, if_pos rfl]
      | succ f' => rw [grF, grF, if_pos rfl, if_pos rfl]
    · cases f' with
      | zero => omega
      | succ f' =>
        rw [grF, grF, if_neg e, if_neg e]
        have := two_pos (lbJ n hw on p S)
        rw [ih f' _ (S - 2 ^ lbJ n hw on p S) (by omega) (by omega)]
theorem gg_0 : gg n hw on p 0 = [] := rfl
theorem gg_s (h : S ≠ 0) : gg n hw on p S = lbJ n hw on p S :: gg n hw on (lbJ n hw on p S) (S - 2 ^ lbJ n hw on p S) := by
  cases S with
  | zero => exact absurd rfl h
  | succ S =>
    show grF n hw on (S + 1) p (S + 1) = _
    rw [grF, if_neg h]
    have := two_pos (lbJ n hw on p (S + 1))
    show _ :: grF n hw on S _ _ = _ :: grF n hw on (S + 1 - 2 ^ lbJ n hw on p (S + 1)) _ _
    rw [grF_fu S (S + 1 - 2 ^ lbJ n hw on p (S + 1)) _ (S + 1 - 2 ^ lbJ n hw on p (S + 1)) (by omega) (by omega)]
theorem gg_ok : ∀ S p, LL n hw on p S < 1000000 → Fit n (gg n hw on p S) S ∧ cost hw on p (gg n hw on p S) = LL n hw on p S := by
  intro S
  induction S using Nat.strongRecOn with
  | _ S ih =>
    intro p h
    by_cases e : S = 0
    · subst e
      exact ⟨rfl, rfl⟩
    · obtain ⟨⟨b1, b2⟩, b3, -⟩ := lbJ_ok e h
      have := two_pos (lbJ n hw on p S)
      obtain ⟨c1, c2⟩ := ih (S - 2 ^ lbJ n hw on p S) (by omega) (lbJ n hw on p S) (by omega)
      rw [gg_s e]
      refine ⟨⟨⟨b1, b2⟩, c1⟩, ?_⟩
      rw [cost, c2, b3]
theorem fit_len (hn : n ≤ 6) : ∀ {r S}, S < 64 → Fit n r S → r.length = pcB S := by
  intro r
  induction r with
  | nil =>
    intro S _ h
    replace h : S = 0 := h
    subst h
    rfl
  | cons j r ih =>
    intro S hS h
    obtain ⟨⟨h1, h2⟩, h3⟩ := h
    obtain ⟨⟨k1, k2⟩, -⟩ := bt_rm S hS j (by omega) h2
    rw [List.length_cons, ih k2 h3, k1]
theorem fit_dg : ∀ {r S}, Fit n r S → Dg n r := by
  intro r
  induction r with
  | nil => intro S _ j hj; cases hj
  | cons j r ih =>
    intro S h k hk
    obtain ⟨⟨h1, h2⟩, h3⟩ := h
    rcases List.mem_cons.mp hk with rfl | hk
    · exact h1
    · exact ih h3 k hk
theorem dg_cons {r : List Nat} (h : Dg n (j :: r)) : j < n ∧ Dg n r := ⟨h j List.mem_cons_self, fun k hk => h k (List.mem_cons_of_mem _ hk)⟩
theorem vlR_lt : ∀ {r}, Dg n r → vlR n r < n ^ r.length := by
  intro r
  induction r with
  | nil => intro _; show 0 < 1; omega
  | cons j r ih =>
    intro h
    obtain ⟨h1, h2⟩ := dg_cons h
    have h3 := ih h2
    rw [vlR, List.length_cons, Nat.pow_succ]
    have h4 : (j + 1) * n ^ r.length ≤ n * n ^ r.length := Nat.mul_le_mul_right _ h1
    rw [Nat.succ_mul] at h4
    rw [Nat.mul_comm (n ^ r.length) n]
    omega
theorem mul_inj {a b m x y : Nat} (h : a * m + x = b * m + y) (hx : x < m) (hy : y < m) : a = b ∧ x = y := by
  rcases Nat.lt_trichotomy a b with e | e | e
  · have h1 : (a + 1) * m ≤ b * m := Nat.mul_le_mul_right _ e
    rw [Nat.succ_mul] at h1
    omega
  · subst e
    exact ⟨rfl, by omega⟩
  · have h1 : (b + 1) * m ≤ a * m := Nat.mul_le_mul_right _ e
    rw [Nat.succ_mul] at h1
    omega
theorem vlR_inj : ∀ {r r'}, Dg n r → Dg n r' → r.length = r'.length → vlR n r = vlR n r' → r = r' := by
  intro r
  induction r with
  | nil =>
    intro r' _ _ h _
    cases r' with
    | nil => rfl
    | cons => cases h
  | cons j r ih =>
    intro r' h1 h2 h3 h4
    cases r' with
    | nil => cases h3
    | cons j' r' =>
      have h3' : r.length = r'.length := by
        rw [List.length_cons, List.length_cons] at h3
        omega
      obtain ⟨a1, a2⟩ := dg_cons h1
      obtain ⟨b1, b2⟩ := dg_cons h2
      have v1 := vlR_lt a2
      have v2 := vlR_lt b2
      rw [vlR, vlR, h3'] at h4
      rw [h3'] at v1
      obtain ⟨e1, e2⟩ := mul_inj h4 v1 v2
      rw [e1, ih a2 b2 h3' e2]
/-- the greedy row is the least of those with least miles -/
theorem gg_least (hn : n ≤ 6) : ∀ {r p S}, S < 64 → Fit n r S → LL n hw on p S < 1000000 → cost hw on p r = LL n hw on p S → vlR n (gg n hw on p S) ≤ vlR n r := by
  intro r
  induction r with
  | nil =>
    intro p S _ h _ _
    replace h : S = 0 := h
    subst h
    exact Nat.le_refl _
  | cons j r ih =>
    intro p S hS h ht hc
    have hF := h
    obtain ⟨⟨h1, h2⟩, h3⟩ := h
    have e := bt_0 h2
    obtain ⟨⟨b1, b2⟩, b3, b4⟩ := lbJ_ok e ht
    obtain ⟨⟨k1, k2⟩, -⟩ := bt_rm S hS j (by omega) h2
    obtain ⟨⟨k1', k2'⟩, -⟩ := bt_rm S hS _ (Nat.lt_of_lt_of_le b1 hn) b2
    have l1 := LL_le (hw := hw) (on := on) (p := j) h3
    have l2 := mnJ_le (c := fun j => Nat.testBit S j) (g := fun j => on p j + LL n hw on j (S - 2 ^ j)) h2 h1
    rw [← LL_s e] at l2
    rw [cost] at hc
    have l3 := b4 j h1 h2 (by omega)
    obtain ⟨g1, g2⟩ := gg_ok (n := n) (hw := hw) (on := on) (S - 2 ^ lbJ n hw on p S) (lbJ n hw on p S) (by omega)
    have len : (gg n hw on (lbJ n hw on p S) (S - 2 ^ lbJ n hw on p S)).length = r.length := by
      rw [fit_len hn k2' g1, fit_len hn k2 h3]
      omega
    rw [gg_s e, vlR, vlR, len]
    rcases Nat.lt_or_eq_of_le l3 with l4 | l4
    · have v1 := vlR_lt (fit_dg g1)
      rw [len] at v1
      have m1 : (lbJ n hw on p S + 1) * n ^ r.length ≤ j * n ^ r.length := Nat.mul_le_mul_right _ l4
      rw [Nat.succ_mul] at m1
      omega
    · rw [l4] at *
      have := ih k2 h3 (p := j) (by omega) (by omega)
      omega
/-! rows by their numbers -/
theorem vlR_app : ∀ {r : List Nat} {d}, vlR n (r ++ [d]) = vlR n r * n + d := by
  intro r
  induction r with
  | nil =>
    intro d
    show d * n ^ 0 + 0 = 0 * n + d
    rw [Nat.pow_zero]
    omega
  | cons j r ih =>
    intro d
    show j * n ^ (r ++ [d]).length + vlR n (r ++ [d]) = (j * n ^ r.length + vlR n r) * n + d
    rw [ih, List.length_append, List.length_singleton, Nat.pow_succ, Nat.add_mul, Nat.mul_assoc]
    omega
theorem rlR_len : ∀ {s w}, (rlR n s w).length = s := by
  intro s
  induction s with
  | zero => intro w; rfl
  | succ s ih => intro w; rw [rlR, List.length_append, ih]; rfl
theorem rlR_dg (hn : 0 < n) : ∀ {s w}, Dg n (rlR n s w) := by
  intro s
  induction s with
  | zero => intro w j hj; cases hj
  | succ s ih =>
    intro w j hj
    rw [rlR] at hj
    rcases List.mem_append.mp hj with h | h
    · exact ih j h
    · rw [List.mem_singleton.mp h]
      exact Nat.mod_lt _ hn
theorem rlR_val (hn : 0 < n) : ∀ {s w}, w < n ^ s → vlR n (rlR n s w) = w := by
  intro s
  induction s with
  | zero =>
    intro w h
    rw [Nat.pow_zero] at h
    show 0 = w
    omega
  | succ s ih =>
    intro w h
    rw [Nat.pow_succ] at h
    rw [rlR, vlR_app, ih (Nat.div_lt_of_lt_mul (by rw [Nat.mul_comm]; exact h)), Nat.mul_comm]
    exact Nat.div_add_mod w n
theorem soR_lt (hn : n ≤ 6) : ∀ {r}, Dg n r → soR r < 64 := by
  intro r
  induction r with
  | nil => intro _; show 0 < 64; omega
  | cons j r ih =>
    intro h
    obtain ⟨h1, h2⟩ := dg_cons h
    exact (bt_or (soR r) (ih h2) j (by omega)).1
theorem soR_pc (hn : n ≤ 6) : ∀ {r}, Dg n r → pcB (soR r) ≤ r.length := by
  intro r
  induction r with
  | nil => intro _; exact Nat.le_refl _
  | cons j r ih =>
    intro h
    obtain ⟨h1, h2⟩ := dg_cons h
    obtain ⟨-, -, a, b⟩ := bt_or (soR r) (soR_lt hn h2) j (by omega)
    have h3 := ih h2
    rw [soR, List.length_cons]
    cases e : Nat.testBit (soR r) j
    · have := (b e).1
      omega
    · have := a e
      omega
theorem fit_so (hn : n ≤ 6) : ∀ {r S}, S < 64 → Fit n r S → soR r = S := by
  intro r
  induction r with
  | nil =>
    intro S _ h
    replace h : S = 0 := h
    exact h.symm
  | cons j r ih =>
    intro S hS h
    obtain ⟨⟨h1, h2⟩, h3⟩ := h
    obtain ⟨⟨k1, k2⟩, -, k4⟩ := bt_rm S hS j (by omega) h2
    rw [soR, ih k2 h3, k4]
theorem so_fit (hn : n ≤ 6) : ∀ {r}, Dg n r → pcB (soR r) = r.length → Fit n r (soR r) := by
  intro r
  induction r with
  | nil => intro _ _; rfl
  | cons j r ih =>
    intro h hp
    obtain ⟨h1, h2⟩ := dg_cons h
    obtain ⟨a0, a1, a, b⟩ := bt_or (soR r) (soR_lt hn h2) j (by omega)
    have h3 := soR_pc hn h2
    rw [soR, List.length_cons] at hp
    cases e : Nat.testBit (soR r) j
    · obtain ⟨b1, b2⟩ := b e
      show (j < n ∧ Nat.testBit (soR r ||| 2 ^ j) j = true) ∧ Fit n r ((soR r ||| 2 ^ j) - 2 ^ j)
      rw [b2]
      exact ⟨⟨h1, a1⟩, ih h2 (by omega)⟩
    · have := a e
      omega
/-! all rows of a size gone through, so far -/
noncomputable def BsS (n : Nat) (hw : Nat → Nat) (on : Nat → Nat → Nat) (rc s S W m c : Nat) : Prop := ((m = 1000000 ∧ c = 0) ∧ ∀ r, Fit n r S → r.length = s → vlR n r < W → rc < cost hw on 6 r) ∨ ∃ r, ((Fit n r S ∧ r.length = s) ∧ (vlR n r < W ∧ (m = cost hw on 6 r ∧ c = cdR r))) ∧ (m ≤ rc ∧ ∀ r', Fit n r' S → r'.length = s → vlR n r' < W → cost hw on 6 r' ≤ rc → m < cost hw on 6 r' ∨ (m = cost hw on 6 r' ∧ vlR n r ≤ vlR n r'))
theorem bs_0 {rc s : Nat} : BsS n hw on rc s S 0 1000000 0 := Or.inl ⟨⟨rfl, rfl⟩, fun r _ _ h => absurd h (Nat.not_lt_zero _)⟩
theorem bs_one (hn : n ≤ 6) {r r' : List Nat} {W : Nat} (h1 : Dg n r') (h2 : Fit n r S) (h3 : r.length = r'.length) (h4 : vlR n r' = W) (h5 : vlR n r < W + 1) (h6 : ¬ vlR n r < W) : r = r' := vlR_inj (fit_dg h2) h1 h3 (by omega)
/-- a row that does not change what stands -/
theorem bs_same (hn : n ≤ 6) {rc s W m c : Nat} {r0 : List Nat} (hb : BsS n hw on rc s S W m c) (h1 : Dg n r0) (h2 : r0.length = s) (h3 : vlR n r0 = W) (h4 : Fit n r0 S → rc < cost hw on 6 r0 ∨ m ≤ cost hw on 6 r0) (hrc : rc < 1000000) : BsS n hw on rc s S (W + 1) m c := by
  rcases hb with ⟨⟨a1, a2⟩, a3⟩ | ⟨r, ⟨⟨b1, b2⟩, b3, b4, b5⟩, b6, b7⟩
  · refine Or.inl ⟨⟨a1, a2⟩, fun r r1 r2 r3 => ?_⟩
    by_cases e : vlR n r < W
    · exact a3 r r1 r2 e
    · have er := bs_one hn h1 r1 (r2.trans h2.symm) h3 r3 e
      subst er
      rcases h4 r1 with h | h
      · exact h
      · omega
  · refine Or.inr ⟨r, ⟨⟨b1, b2⟩, by omega, b4, b5⟩, b6, fun r' r1 r2 r3 r4 => ?_⟩
    by_cases e : vlR n r' < W
    · exact b7 r' r1 r2 e r4
    · have er := bs_one hn h1 r1 (r2.trans h2.symm) h3 r3 e
      subst er
      rcases h4 r1 with h | h
      · omega
      · rcases Nat.lt_or_eq_of_le h with h | h
        · exact Or.inl h
        · exact Or.inr ⟨h, by omega⟩
/-- a row that is better -/
theorem bs_new (hn : n ≤ 6) {rc s W m c : Nat} {r0 : List Nat} (hb : BsS n hw on rc s S W m c) (h1 : Dg n r0) (h2 : r0.length = s) (h3 : vlR n r0 = W) (h4 : Fit n r0 S) (h5 : cost hw on 6 r0 ≤ rc) (h6 : cost hw on 6 r0 < m) : BsS n hw on rc s S (W + 1) (cost hw on 6 r0) (cdR r0) := by
  refine Or.inr ⟨r0, ⟨⟨h4, h2⟩, by omega, rfl, rfl⟩, h5, fun r' r1 r2 r3 r4 => ?_⟩
  by_cases e : vlR n r' < W
  · rcases hb with ⟨⟨a1, a2⟩, a3⟩ | ⟨r, ⟨⟨b1, b2⟩, b3, b4, b5⟩, b6, b7⟩
    · have := a3 r' r1 r2 e
      omega
    · rcases b7 r' r1 r2 e r4 with h | ⟨h, -⟩
      · exact Or.inl (by omega)
      · exact Or.inl (by omega)
  · have er := bs_one hn h1 r1 (r2.trans h2.symm) h3 r3 e
    subst er
    exact Or.inr ⟨rfl, Nat.le_refl _⟩
/-- what class and model keep of a set -/
noncomputable def smS (n : Nat) (hw : Nat → Nat) (on : Nat → Nat → Nat) (rc S : Nat) : Nat := if rc < LL n hw on 6 S then 1000000 else LL n hw on 6 S
noncomputable def srS (n : Nat) (hw : Nat → Nat) (on : Nat → Nat → Nat) (rc S : Nat) : Nat := if rc < LL n hw on 6 S then 0 else cdR (gg n hw on 6 S)
theorem bs_all (hn : n ≤ 6) {rc m c : Nat} (hS : S < 64) (hrc : rc < 1000000) (hb : BsS n hw on rc (pcB S) S (n ^ pcB S) m c) : m = smS n hw on rc S ∧ c = srS n hw on rc S := by
  unfold smS srS
  have gl : ¬ rc < LL n hw on 6 S → (Fit n (gg n hw on 6 S) S ∧ cost hw on 6 (gg n hw on 6 S) = LL n hw on 6 S) ∧ ((gg n hw on 6 S).length = pcB S ∧ vlR n (gg n hw on 6 S) < n ^ pcB S) := fun h => by
    obtain ⟨g1, g2⟩ := gg_ok (n := n) (hw := hw) (on := on) S 6 (by omega)
    have l := fit_len hn hS g1
    have v := vlR_lt (fit_dg g1)
    rw [l] at v
    exact ⟨⟨g1, g2⟩, l, v⟩
  rcases hb with ⟨⟨a1, a2⟩, a3⟩ | ⟨r, ⟨⟨b1, b2⟩, b3, b4, b5⟩, b6, b7⟩
  · by_cases e : rc < LL n hw on 6 S
    · rw [if_pos e, if_pos e]
      exact ⟨a1, a2⟩
    · obtain ⟨⟨g1, g2⟩, g3, g4⟩ := gl e
      have := a3 _ g1 g3 g4
      omega
  · have l1 := LL_le (hw := hw) (on := on) (p := 6) b1
    have e : ¬ rc < LL n hw on 6 S := by omega
    obtain ⟨⟨g1, g2⟩, g3, g4⟩ := gl e
    rw [if_neg e, if_neg e]
    rcases b7 _ g1 g3 g4 (by omega) with h | ⟨h, h'⟩
    · omega
    · have v := gg_least hn hS b1 (p := 6) (hw := hw) (on := on) (by omega) (by omega)
      have er := vlR_inj (fit_dg b1) (fit_dg g1) (b2.trans g3.symm) (by omega)
      refine ⟨by omega, ?_⟩
      rw [b5, er]
end
end
