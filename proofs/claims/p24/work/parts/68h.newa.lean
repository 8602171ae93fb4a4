/-! ===== new objects ===== -/
section
variable {B : BS} {I : IN} {G : SG} {h : AH} {os : List SOUT} {lv : SLV} {st : List SV} {L : LV} {S : List Value} {k : Nat}
theorem new_lm (k : Nat) : LM I (g_h G).length (g_n G) (s_obj k) (am_new k) := by
  unfold s_obj am_new
  refine lm_map (fun f => ?_) _
  by_cases e : dcode f.2.2.1 = 3
  · rw [if_pos e, if_pos e]; exact Or.inr (Or.inr (Or.inl ⟨rfl, rfl⟩))
  · rw [if_neg e, if_neg e]; exact sv_of_int (sk_IV c_0)
theorem new_ok (h30 : k < 30) (hR : RM B I G h) (hK : KN lv) (hL : LVM I (g_h G).length (g_n G) lv L) (hS : LM I (g_h G).length (g_n G) st S) (hs : o_nx lv ((5, (g_h G).length, 0) :: st) (y_mk G (k, .inr (s_obj k)) (kNn k)) = some os) : Cc B I G h os (nx L (.ref h.2.1 :: S) (am_push h (k, am_new k) (kNn k))) :=
  c_push (o := .inr (s_obj k)) hR hK hL hS h30 (new_lm k) hs
end
