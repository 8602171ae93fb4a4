/-! ===== objects made, casts ===== -/
section
variable {B : BS} {I : IN} {G : SG} {h : AH} {os : List SOUT} {lv : SLV} {st : List SV} {L : LV} {S : List Value} {k : Nat}
theorem c_push {o : SC} {vs R : List Value} {r : List SV} {u : Nat} (hR : RM B I G h) (hK : KN lv) (hL : LVM I (g_h G).length (g_n G) lv L) (hS : LM I (g_h G).length (g_n G) r R) (h30 : k < 30) (hv : CMr I (g_h G).length (g_n G) o vs) (hs : o_nx lv ((5, (g_h G).length, 0) :: r) (y_mk G (k, o) u) = some os) : Cc B I G h os (nx L (.ref h.2.1 :: R) (am_push h (k, vs) u)) := by
  obtain ⟨I', p1, p2, p3, -⟩ := rm_push (u := u) hR h30 hv
  cases hs
  exact ⟨_, List.mem_cons_self, I', _, rfl, rfl, p1, p2, hK, lvm_gr p1 hL, p3, lm_gr p1 hS⟩
theorem Y_cast_ok (hR : RM B I G h) (hK : KN lv) (hL : LVM I (g_h G).length (g_n G) lv L) (hS : LM I (g_h G).length (g_n G) st S) (hs : Y_cast k lv st G = some os) : Cc B I G h os (s_cast k L S h) := by
  unfold Y_cast at hs
  split at hs
  · rename_i x r
    obtain ⟨V, R2, rfl, g1, g2⟩ := lm_cons hS
    split at hs
    · cases hs
    · rename_i w hw
      obtain ⟨n1, n2⟩ := nn_ok hR g1 hw
      split at hs
      · rename_i kd hk
        obtain ⟨q, k', vs, rfl, e1, e2⟩ := kd_ok hR n2 hk
        replace hs := bif_some hs
        obtain ⟨f1, hs⟩ := hs
        obtain ⟨f1, f2⟩ := and2 f1
        have f1 := beqt f1
        have f2 := blet f2
        unfold s_cast am_get
        dsimp only
        rw [e1]
        dsimp only
        rw [if_pos (show k' = k by omega)]
        exact c_nx hs (pn_id hR hK hL ⟨g1, g2⟩)
      · cases hs
  · cases hs
end
