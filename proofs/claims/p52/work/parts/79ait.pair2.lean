section
/-! ===== two calls that answer alike by hand, at the law's level (made by wip/gen/pair2.py) ===== -/
section
variable {σ nu : Nat → Nat} {ad : AD} {h : AH} {L : LV} {i q kb : Nat} {X : Int32} {vs : List Value} {Q : Option Value → AH → Prop}
theorem call_pr2 {mX mM na sX sM t p0 p1 p2 p3 p4 : Nat} {ps1 ps2 : List (Nat × Nat × Nat × Nat × Nat)} {rest : List (Nat × AI)}
    (hlaw : jump lawM t = (p0, (1, 1, 2)) :: (acs ps1 1 ++ ((p1, (12, sX, 0)) :: (p2, (1, 2, 2)) :: (acs ps2 1 ++ ((p3, (12, sM, 0)) :: (p4, (5, 0, Int.ofNat enL)) :: rest))))) (hl1 : ps1.length = na) (hl2 : ps2.length = na) (hna : na ≤ 6) (hsX : spec sX = (1, na, [(10, mX)])) (hsM : spec sM = (1, na, [(11, mM)])) (hlX : na + 1 ≤ mL mX) (hlM : na + 1 ≤ mL mM)
    (hPR : ∀ (ox om : Nat) (xs : List Int32), ad 10 0 = some ox → ad 11 0 = some om → xs.length = na → PrC σ h mX mM ox om xs)
    (hD : HD σ ad h L i) (hcn : ∀ M C, C ∈ cns M → C.1 < nC → CnOK σ C)
    (s2 : lv_get 0 L = some (.ref q)) (s3 : h.1 q = some (kb, vs)) (s3' : am_ld 0 kb = true) (s5 : vs.length ≤ 3584) (s6 : i + 7 ≤ vs.length) (s7 : lv_get 3 L = some (.int X)) (s8 : i2n X = 2147483648 + i) (s9 : ∀ (p : Nat) (v : Value), vs[p]? = some v → ∃ x, v = .int x)
    (hk : ∀ (ad' : AD) (h' : AH) (L' : LV) (i' : Nat), i + 1 ≤ i' → HD σ ad' h' L' i' → h'.2.1 ≤ h.2.1 + 99 → h'.2.2 ≤ h.2.2 + 999 → Rt σ lawM (jump lawM 18) L' [] h' Q) : Rt σ lawM (jump lawM t) L [] h Q := by
  have hH := hD.1
  have hB : ∀ a i, ¬ (((ad, h), no2) : BS).2 a i := fun _ _ e => e
  obtain ⟨ox, o1, o2⟩ := head_ref hH (Or.inl rfl)
  obtain ⟨om, m1', m2'⟩ := head_ref hH (Or.inr rfl)
  obtain ⟨kx, km⟩ := kxm
  -- the ints of the script
  obtain ⟨xs, hxl, hxs⟩ : ∃ xs : List Int32, xs.length = na ∧ ∀ k x, xs[k]? = some x → vs[i + (1 + k)]? = some (.int x) := by
    obtain ⟨l, hl⟩ := ints_of s9
    refine ⟨(l.drop (i + 1)).take na, ?_, fun k x hx => ?_⟩
    · rw [List.length_take, List.length_drop]
      have : l.length = vs.length := by rw [hl, List.length_map]
      omega
    · have hkn : k < na := by
        have := (List.getElem?_eq_some_iff.mp hx).1
        rw [List.length_take] at this
        omega
      rw [List.getElem?_take_of_lt hkn, List.getElem?_drop] at hx
      rw [hl, List.getElem?_map, show i + (1 + k) = i + 1 + k by omega, hx]
      rfl
  obtain ⟨vx, -, -, -, ⟨fx, -, -⟩, -⟩ := x_form hH.2.1 (by rw [← kx]; exact o2)
  obtain ⟨m', ot, oy, vm, ty, yy, hmt⟩ := mt_form hH.2.1
  have em : m' = om := Option.some.inj (hmt.1.1.1.symm.trans (by rw [← km]; exact m2'))
  subst em
  have fm := hmt.1.2.1
  obtain ⟨Y, y1, y2⟩ := hPR ox m' xs (by rw [← kx]; exact o2) (by rw [← km]; exact m2') hxl
  have ok : ∀ {q M : Nat}, na + 1 ≤ mL M → am_ok (.ref q :: xs.map .int) M = true := fun {q M} hl => by
    unfold am_ok
    rw [decide_eq_true (show (Value.ref q :: xs.map .int).length ≤ mL M by rw [List.length_cons, List.length_map]; omega), Bool.and_true]
    refine List.all_eq_true.mpr fun v hv => ?_
    rcases List.mem_cons.mp hv with rfl | hv
    · rfl
    · obtain ⟨x, -, rfl⟩ := List.mem_map.mp hv
      rfl
  rw [hlaw]
  refine rl_load o1 rfl (rl_args s2 s7 s8 hH.2.2.2.1 s3 s3' xs ps1 1 _ (by omega) (by omega) hxs (rl_callv (as := xs.map .int) (r := []) hsX rfl (by rw [List.length_map]; exact hxl) fx (by show 0 ≤ 8; omega) (ok hlX) (rt_mono y1 fun v h' ⟨e2, e1⟩ => ?_)))
  subst e1
  subst e2
  refine rl_load m1' rfl (rl_args s2 s7 s8 hH.2.2.2.1 s3 s3' xs ps2 1 _ (by omega) (by omega) hxs (rl_callv (as := xs.map .int) (r := [.int Y]) hsM rfl (by rw [List.length_map]; exact hxl) fm (by show 1 ≤ 8; omega) (ok hlM) (rt_mono y2 fun v h'' ⟨e2, e1⟩ => ?_)))
  subst e1
  subst e2
  refine rl_icmpT (by show some (decide (Y = Y)) = some true; rw [decide_eq_true rfl]) ?_
  show Rt σ lawM (jump lawM enL) L [] _ Q
  rw [law_fin]
  refine rl_iinc s7 (rl_goto ?_)
  show Rt σ lawM (jump lawM 18) _ [] _ Q
  exact hk ad _ _ (i + 7) (by omega) (hd_next hD (by omega) s7 s8) (Nat.le_add_right _ _) (Nat.le_add_right _ _)
end
end
