/-! ===== what the data says of the tables: lists of words in the tables' order ===== -/
noncomputable def ssq : List Cond → List Cond → Bool
  | _, [] => false
  | [], _ :: _ => true
  | w :: ws, t :: ts => if w = t then (match ws with | [] => true | _ :: _ => ssq ws ts) else ssq (w :: ws) ts
theorem ssq_mem : ∀ {ts ws : List Cond}, ssq ws ts = true → ∀ w ∈ ws, w ∈ ts := by
  intro ts
  induction ts with
  | nil => intro ws h; cases ws <;> simp [ssq] at h
  | cons t ts ih =>
    intro ws h w hw
    cases ws with
    | nil => cases hw
    | cons w0 ws =>
      unfold ssq at h
      split at h
      · rename_i e
        rcases List.mem_cons.mp hw with rfl | hw
        · rw [e]; exact List.mem_cons_self
        · cases ws with
          | nil => cases hw
          | cons a b => exact List.mem_cons_of_mem _ (ih h w hw)
      · exact List.mem_cons_of_mem _ (ih h w hw)
theorem gt_of {ws : List Cond} (h : ssq ws tb = true) {w : Cond} (hw : w ∈ ws) (hg : goodWord w = true) : w ∈ gt := List.mem_filter.mpr ⟨ssq_mem h w hw, hg⟩
theorem xw_of {ws : List Cond} (h : ssq ws tb = true) {w : Cond} (hw : w ∈ ws) (hg : isX w = true) : w ∈ xw := List.mem_filter.mpr ⟨ssq_mem h w hw, hg⟩
noncomputable def aNm (k : Nat) : String := if k = 24 then "java/lang/Object" else if k = 25 then "SkipCity$BoroughLaw" else "SkipCity$Sheet"
noncomputable def st3 (i : Nat) : String × String × String := sts.getD i ("", "", "")
theorem ck_flt : ssq (flt.map (fun x => .fieldLink (on x.1) x.2.1 (fr x.2.2.1).1 (fr x.2.2.1).2.1 (fr x.2.2.1).2.2.1)) tb = true := by decide +kernel
theorem ck_slt : ssq (slt.map (fun x => .fieldLink (on x.1) x.2.1 (st3 x.2.2.1).1 (st3 x.2.2.1).2.1 (st3 x.2.2.1).2.2)) tb = true := by decide +kernel
theorem ck_nlt : ssq (nlt.map (fun x => .classLink (on x.1) x.2.1 (kNm x.2.2.1))) tb = true := by decide +kernel
theorem ck_alt : ssq (alt.map (fun x => .classLink (on x.1) x.2.1 (aNm x.2.2.1))) tb = true := by decide +kernel
theorem ck_ilt : ssq (ilt.map (fun x => .classLink (on x.1) x.2.1 "[I")) tb = true := by decide +kernel
theorem ck_cit : ssq (cit.map (fun x => .constant (on x.1) x.2.1 (Int32.ofInt x.2.2.1))) tb = true := by decide +kernel
theorem ck_clt : ssq (clt.map (fun x => .constantLong (on x.1) x.2.1 (Int64.ofInt x.2.2.1))) tb = true := by decide +kernel
theorem ck_sfl : ssq (sfl.map (fun x => .sameField x.1 x.2.1 x.2.2.1 x.2.2.2)) tb = true := by decide +kernel
theorem ck_kil : ssq (kil.map (fun k => .instantiable (kNm k) (kNn k))) tb = true := by decide +kernel
theorem ck_kll : ssq (kll.map (fun x => u_lay (kNm x.1) (kT x.1) x.2)) tb = true := by decide +kernel
theorem ck_inl : ssq (inl.map (fun x => .initialized x)) tb = true := by decide +kernel
theorem ck_iml : ssq (iml.map (fun M => .instanceMethod (mY M))) tb = true := by decide +kernel
theorem ck_sml : ssq (sml.map (fun M => .static (mY M))) tb = true := by decide +kernel
theorem ck_sll : ssq (sll.map (fun x => .selects (kNm x.1) x.2.1 (mY x.2.2))) tb = true := by decide +kernel
theorem ck_sme : ssq (sme.map (fun x => .sameMethod x.1.cls x.2 x.1.name x.1.desc)) tb = true := by decide +kernel
theorem ck_dcl : ssq (dcl.map (fun x => .declares x)) tb = true := by decide +kernel
