section
/-! ===== the planner, pure: shares of tasks among lorries ===== -/
/-- the tasks of lorry a, of t tasks with figures w -/
noncomputable def swS (nl a : Nat) : Nat → Nat → Nat
  | 0, _ => 0
  | t + 1, w => (if w % nl = a then 2 ^ t else 0) + swS nl a t (w / nl)
/-- the figures with lorry 0 and another one changed -/
noncomputable def spA (a x : Nat) : Nat := if x = 0 then a else if x = a then 0 else x
noncomputable def spW (nl a : Nat) : Nat → Nat → Nat
  | 0, _ => 0
  | t + 1, w => spW nl a t (w / nl) * nl + spA a (w % nl)
noncomputable def wyM (sm : Nat → Nat) (nl c w : Nat) : Nat := sm (swS nl 0 c w) + sm (swS nl 1 c w) + sm (swS nl 2 c w)
/-- ways gone through so far: the least miles below 1000000, and the first way that has them -/
noncomputable def BsW (sm : Nat → Nat) (nl c W m : Nat) (x : Nat × Nat × Nat) : Prop := (m = 1000000 ∧ ∀ w, w < W → 1000000 ≤ wyM sm nl c w) ∨ ∃ w, (w < W ∧ (m = wyM sm nl c w ∧ m < 1000000)) ∧ (x = (swS nl 0 c w, swS nl 1 c w, swS nl 2 c w) ∧ ∀ w', w' < W → wyM sm nl c w' < 1000000 → m < wyM sm nl c w' ∨ (m = wyM sm nl c w' ∧ w ≤ w'))
section
variable {sm : Nat → Nat} {nl c W m a b w t : Nat} {x : Nat × Nat × Nat}
theorem bw_0 : BsW sm nl c 0 1000000 x := Or.inl ⟨rfl, fun w h => absurd h (Nat.not_lt_zero _)⟩
theorem bw_same (hb : BsW sm nl c W m x) (h : m ≤ wyM sm nl c W) : BsW sm nl c (W + 1) m x := by
  rcases hb with ⟨a1, a2⟩ | ⟨w, ⟨b1, b2, b3⟩, b4, b5⟩
  · refine Or.inl ⟨a1, fun w hw => ?_⟩
    by_cases e : w < W
    · exact a2 w e
    · have ew : w = W := by omega
      rw [ew]
      omega
  · refine Or.inr ⟨w, ⟨by omega, b2, b3⟩, b4, fun w' hw ht => ?_⟩
    by_cases e : w' < W
    · exact b5 w' e ht
    · have ew : w' = W := by omega
      rw [ew]
      rcases Nat.lt_or_eq_of_le h with h | h
      · exact Or.inl h
      · exact Or.inr ⟨h, by omega⟩
theorem bw_new (hb : BsW sm nl c W m x) (h : wyM sm nl c W < m) (h2 : wyM sm nl c W < 1000000) : BsW sm nl c (W + 1) (wyM sm nl c W) (swS nl 0 c W, swS nl 1 c W, swS nl 2 c W) := by
  refine Or.inr ⟨W, ⟨Nat.lt_succ_self _, rfl, h2⟩, rfl, fun w' hw ht => ?_⟩
  by_cases e : w' < W
  · rcases hb with ⟨a1, a2⟩ | ⟨w, ⟨b1, b2, b3⟩, b4, b5⟩
    · have := a2 w' e
      omega
    · rcases b5 w' e ht with h' | ⟨h', -⟩
      · exact Or.inl (by omega)
      · exact Or.inl (by omega)
  · have ew : w' = W := by omega
    rw [ew]
    exact Or.inr ⟨rfl, Nat.le_refl _⟩
theorem bw_top (hb : BsW sm nl c W m x) : m ≤ 1000000 := by
  rcases hb with ⟨a1, -⟩ | ⟨w, ⟨b1, b2, b3⟩, -⟩
  · omega
  · omega
theorem spA_lt (ha : a < nl) (hx : b < nl) : spA a b < nl := by
  unfold spA
  by_cases e : b = 0
  · rw [if_pos e]; exact ha
  · rw [if_neg e]
    by_cases f : b = a
    · rw [if_pos f]; omega
    · rw [if_neg f]; exact hx
theorem spA_eq (x y : Nat) : (spA a x = y) ↔ x = spA a y := by
  unfold spA
  by_cases e : x = 0
  · rw [if_pos e]
    by_cases f : y = 0
    · rw [if_pos f]; omega
    · rw [if_neg f]
      by_cases g : y = a
      · rw [if_pos g]; omega
      · rw [if_neg g]; omega
  · rw [if_neg e]
    by_cases e2 : x = a
    · rw [if_pos e2]
      by_cases f : y = 0
      · rw [if_pos f]; omega
      · rw [if_neg f]
        by_cases g : y = a
        · rw [if_pos g]; omega
        · rw [if_neg g]; omega
    · rw [if_neg e2]
      by_cases f : y = 0
      · rw [if_pos f]; omega
      · rw [if_neg f]
        by_cases g : y = a
        · rw [if_pos g]; omega
        · rw [if_neg g]
theorem mod_eq (h0 : 0 < nl) (hb : b < nl) : (w * nl + b) % nl = b ∧ (w * nl + b) / nl = w := by
  rw [Nat.mul_comm w nl]
  refine ⟨?_, ?_⟩
  · rw [Nat.mul_add_mod, Nat.mod_eq_of_lt hb]
  · rw [Nat.mul_add_div h0, Nat.div_eq_of_lt hb, Nat.add_zero]
theorem sw_sp (h0 : 0 < nl) (ha : a < nl) : ∀ t w, swS nl b t (spW nl a t w) = swS nl (spA a b) t w := by
  intro t
  induction t with
  | zero => intro w; rfl
  | succ t ih =>
    intro w
    rw [spW, swS, swS]
    obtain ⟨e1, e2⟩ := mod_eq (w := spW nl a t (w / nl)) h0 (spA_lt ha (Nat.mod_lt w h0))
    rw [e1, e2, ih]
    by_cases e : spA a (w % nl) = b
    · rw [if_pos e, if_pos ((spA_eq _ _).mp e)]
    · rw [if_neg e, if_neg (fun h => e ((spA_eq _ _).mpr h))]
/-- the first task's figure changed with lorry 0 -/
theorem sp_lt (h0 : 0 < nl) (ha : a < nl) : ∀ t w, w < nl ^ (t + 1) → w / nl ^ t = a → spW nl a (t + 1) w < nl ^ t := by
  intro t
  induction t with
  | zero =>
    intro w h1 h2
    rw [Nat.pow_zero, Nat.div_one] at h2
    rw [Nat.zero_add, Nat.pow_one] at h1
    show 0 * nl + spA a (w % nl) < 1
    rw [Nat.mod_eq_of_lt h1, h2]
    unfold spA
    by_cases e : a = 0
    · rw [if_pos e]; omega
    · rw [if_neg e, if_pos rfl]; omega
  | succ t ih =>
    intro w h1 h2
    have h3 : w / nl < nl ^ (t + 1) := Nat.div_lt_of_lt_mul (by rw [Nat.mul_comm, ← Nat.pow_succ]; exact h1)
    have h4 : w / nl / nl ^ t = a := by rw [Nat.div_div_eq_div_mul, Nat.mul_comm, ← Nat.pow_succ]; exact h2
    have h5 := ih (w / nl) h3 h4
    have h6 := spA_lt ha (Nat.mod_lt w h0)
    rw [spW, Nat.pow_succ]
    have h7 : (spW nl a (t + 1) (w / nl) + 1) * nl ≤ nl ^ t * nl := Nat.mul_le_mul_right _ h5
    rw [Nat.succ_mul] at h7
    omega
theorem sw_big (h0 : 0 < nl) (hb : nl ≤ b) : ∀ t w, swS nl b t w = 0 := by
  intro t
  induction t with
  | zero => intro w; rfl
  | succ t ih =>
    intro w
    have := Nat.mod_lt w h0
    rw [swS, ih, if_neg (by omega)]
theorem wy_sp (h0 : 0 < nl) (h3 : nl ≤ 3) (ha : a < nl) : wyM sm nl c (spW nl a c w) = wyM sm nl c w := by
  unfold wyM
  rw [sw_sp h0 ha, sw_sp h0 ha, sw_sp h0 ha]
  rcases (show a = 0 ∨ (a = 1 ∨ a = 2) by omega) with rfl | rfl | rfl
  · rw [show spA 0 0 = 0 from rfl, show spA 0 1 = 1 from rfl, show spA 0 2 = 2 from rfl]
  · rw [show spA 1 0 = 1 from rfl, show spA 1 1 = 0 from rfl, show spA 1 2 = 2 from rfl]
    omega
  · rw [show spA 2 0 = 2 from rfl, show spA 2 1 = 1 from rfl, show spA 2 2 = 0 from rfl]
    omega
/-- the rest of the ways has nothing better: the class's result is the model's -/
theorem bw_both (h0 : 0 < nl) (h3 : nl ≤ 3) {m' : Nat} {x' : Nat × Nat × Nat} (hb : BsW sm nl (t + 1) (nl ^ t) m x) (hb' : BsW sm nl (t + 1) (nl ^ (t + 1)) m' x') : m = m' ∧ (m < 1000000 → x = x') := by
  have low : ∀ w, w < nl ^ (t + 1) → ∃ v, v < nl ^ t ∧ wyM sm nl (t + 1) v = wyM sm nl (t + 1) w := fun w hw => by
    have hq : w / nl ^ t < nl := Nat.div_lt_of_lt_mul (by rw [← Nat.pow_succ]; exact hw)
    exact ⟨spW nl (w / nl ^ t) (t + 1) w, sp_lt h0 hq t w hw rfl, wy_sp h0 h3 hq⟩
  have le : nl ^ t ≤ nl ^ (t + 1) := Nat.pow_le_pow_right h0 (Nat.le_succ t)
  rcases hb with ⟨a1, a2⟩ | ⟨w, ⟨b1, b2, b3⟩, b4, b5⟩
  · rcases hb' with ⟨c1, c2⟩ | ⟨w', ⟨d1, d2, d3⟩, d4, d5⟩
    · exact ⟨by omega, fun h => by omega⟩
    · obtain ⟨v, v1, v2⟩ := low w' d1
      have := a2 v v1
      omega
  · rcases hb' with ⟨c1, c2⟩ | ⟨w', ⟨d1, d2, d3⟩, d4, d5⟩
    · have := c2 w (by omega)
      omega
    · obtain ⟨v, v1, v2⟩ := low w' d1
      have e1 := b5 v v1 (by omega)
      have e2 := d5 w (by omega) (by omega)
      have em : m = m' := by omega
      have ew : w = w' := by
        have e3 := d5 v (by omega) (by omega)
        have : w ≤ v := by omega
        have : w' ≤ w := by omega
        have e4 := b5 w' (by omega) (by omega)
        omega
      subst ew
      exact ⟨em, fun _ => b4.trans d4.symm⟩
end
end
