/-! ===== what symbolic states stand for ===== -/
abbrev AD : Type := Nat → Nat → Option Nat
/-- numbers of names, addresses of objects made, addresses of classes' objects -/
abbrev IN : Type := (Nat → Nat) × (Nat → Nat) × AD
noncomputable def RefV (ad : AD) (c e : Nat) (v : Value) : Prop := (e = 2147483647 ∧ v = .null) ∨ (2147483648 ≤ e ∧ ∃ q, ad c (e - 2147483648) = some q ∧ v = .ref q)
noncomputable def SVm (I : IN) (n m : Nat) (s : SV) (v : Value) : Prop :=
  (isI s = true ∧ (okn m s ∧ ∃ x, v = .int x ∧ i2n x = sval I.1 s)) ∨
  (isL s = true ∧ (okn m s ∧ ∃ x, v = .long x ∧ l2n x = sval I.1 s)) ∨
  (s.1 = 4 ∧ v = .null) ∨
  (s.1 = 5 ∧ (s.2.1 < n ∧ v = .ref (I.2.1 s.2.1))) ∨
  (isT s = true ∧ (okn m (y_idx s) ∧ (s.2.1 < 1000 ∧ RefV I.2.2 s.2.1 (sval I.1 (y_idx s)) v)))
noncomputable def LM (I : IN) (n m : Nat) (l : List SV) (vs : List Value) : Prop := match l, vs with
  | [], [] => True
  | s :: r, v :: t => SVm I n m s v ∧ LM I n m r t
  | _, _ => False
noncomputable def LVM (I : IN) (n m : Nat) (l : SLV) (vs : LV) : Prop := ∀ i s, s_find i l = some s → ∃ v, lv_get i vs = some v ∧ SVm I n m s v
noncomputable def TU (t : TY) (v : Value) : Prop := (t.1 = 0 ∧ ∃ x, v = .int x ∧ (t.2.1 ≤ i2n x ∧ i2n x ≤ t.2.2)) ∨ (t.1 = 1 ∧ ∃ x, v = .long x)
noncomputable def CMr (I : IN) (n m : Nat) (o : SC) (vs : List Value) : Prop := match o with
  | .inl q => vs.length = q.1 ∧ ∀ v, v ∈ vs → TU q.2 v
  | .inr l => LM I n m l vs
/-- a place of a class's object -/
noncomputable def At (ad : AD) (h : AH) (c i p : Nat) (v : Value) : Prop := ∃ q k vs, ad c i = some q ∧ (h.1 q = some (k, vs) ∧ vs[p]? = some v)
noncomputable def TV (ad : AD) (ty : TY) (i p : Nat) (v : Value) : Prop :=
  (ty.1 = 0 ∧ ∃ x, v = .int x ∧ (ty.2.1 ≤ i2n x ∧ i2n x ≤ ty.2.2)) ∨
  (ty.1 = 1 ∧ ∃ x, v = .long x) ∨
  (ty.1 = 2 ∧ ∃ e, RefV ad ty.2.1 e v) ∨
  (ty.1 = 3 ∧ ∃ e, 2147483648 ≤ e ∧ RefV ad ty.2.1 e v) ∨
  (ty.1 = 4 ∧ RefV ad ty.2.1 (2147483648 + i) v) ∨
  (ty.1 = 5 ∧ (v = .null ∨ RefV ad ty.2.1 (2147483648 + i) v)) ∨
  (ty.1 = 6 ∧ RefV ad ty.2.1 (2147483648 + p) v) ∨
  (ty.1 = 7 ∧ RefV ad ty.2.1 2147483648 v) ∨
  ty.1 = 9
noncomputable def ct_at (c p : Nat) : Option TY := bif Nat.beq (cdm c) 0 then (cd c).2.2[p]? else (cd c).2.2.head?
noncomputable def LenOK (c n : Nat) : Prop := (cdm c = 0 → n = (cd c).2.2.length) ∧ ((0 < cdm c → cdm c ≤ 999999 → n + 1 = cdm c) ∧ (999999 < cdm c → n ≤ 3584))
noncomputable def KOK (c k : Nat) : Prop := k = cdk c ∨ (cdk c = 31 ∧ k = 30)
noncomputable def bkc (l : Nat) : Nat := 1000 + l
/-- objects have their classes' types -/
noncomputable def T1 (ad : AD) (h : AH) : Prop := ∀ c i q, c < 1000 → ad c i = some q → i < 1048576 ∧ ∃ k vs, h.1 q = some (k, vs) ∧ (KOK c k ∧ (LenOK c vs.length ∧ ∀ p v, vs[p]? = some v → ∃ ty, ct_at c p = some ty ∧ TV ad ty i p v))
noncomputable def T2 (ad : AD) : Prop := ∀ c i c' i' q, ad c i = some q → ad c' i' = some q → (c = c' ∧ i = i') ∨ ((30 ≤ cdk c ∧ c < 1000) ∧ (30 ≤ cdk c' ∧ c' < 1000))
noncomputable def T3 (ad : AD) (h : AH) : Prop := ∀ c i q, ad c i = some q → q < h.2.1
/-- a start to compare with; places that are owned though their owner doesn't show it yet -/
abbrev BS : Type := (AD × AH) × (Nat → Nat → Prop)
noncomputable def T4 (ad : AD) (h : AH) (ho : Nat → Nat → Prop) : Prop := (∀ c p ty, c < 1000 → cdm c = 0 → ct_at c p = some ty → (ty.1 = 4 ∨ ty.1 = 5) → ∀ i q, ad ty.2.1 i = some q → ad c i ≠ none) ∧ ((∀ c, sgl c = true → ∃ q, ad c 0 = some q) ∧
  ∀ c p ty, c < 1000 → ct_at c p = some ty → ty.1 = 5 → ∀ i, At ad h c i p .null → ad ty.2.1 i = none ∨ ho ty.2.1 i)
noncomputable def ElOK (ad : AD) (el ident k : Nat) (u : Value) : Prop := (ident = 1 ∧ RefV ad el (2147483648 + k) u) ∨ (ident = 0 ∧ ∃ j, 2147483648 ≤ j ∧ RefV ad el j u)
noncomputable def ListOK (ad : AD) (h : AH) (l el ident q : Nat) : Prop := ∃ mc ed sz N, h.1 q = some (12, [.int mc, ed, .int sz]) ∧ (i2n sz = 2147483648 + N ∧
  ((∃ q5, ad (stc 5) 0 = some q5 ∧ (ed = .ref q5 ∧ N = 0)) ∨ (∃ bq us, ad (bkc l) 0 = some bq ∧ (ed = .ref bq ∧ (h.1 bq = some (24, us) ∧ (N ≤ us.length ∧ (us.length ≤ 1000 ∧ ∀ k, k < N → ∃ u, us[k]? = some u ∧ ElOK ad el ident k u)))))))
noncomputable def T5 (ad : AD) (h : AH) : Prop := ∀ l el ident mx, (l, el, ident, mx) ∈ lstt → ∀ q, ad l 0 = some q → ListOK ad h l el ident q
noncomputable def mplace (m : Nat × Nat × Nat) (k : Nat) : Nat × Nat × Nat := bif Nat.beq m.2.1 0 then (m.1, k, m.2.2 - 2147483648) else (m.1, m.2.2 - 2147483648, k)
noncomputable def AtM (ad : AD) (h : AH) (m : Nat × Nat × Nat) (k : Nat) (v : Value) : Prop := At ad h (mplace m k).1 (mplace m k).2.1 (mplace m k).2.2 v
/-- one entry of a case -/
noncomputable def EnOK (ad : AD) (h : AH) (k : Nat) (gv : Nat → Nat) (m d : Nat × Nat × Nat) : Prop :=
  bif Nat.ble d.1 99 then (∃ x, AtM ad h m k (.int x) ∧ (i2n x = gv (d.1 % 100) ∧ (d.2.1 ≤ i2n x ∧ i2n x ≤ d.2.2)))
  else bif Nat.ble d.1 299 then (∃ j q, AtM ad h m k (.ref q) ∧ (ad (tgc m) j = some q ∧ (2147483648 + j + en_off d = gv (d.1 % 100) ∧ (d.2.1 ≤ 2147483648 + j + en_off d ∧ 2147483648 + j + en_off d ≤ d.2.2))))
  else bif Nat.beq d.1 300 then AtM ad h m k .null
  else bif Nat.beq d.1 400 then (∃ q, AtM ad h m k (.ref q) ∧ ad (tgc m) k = some q)
  else bif Nat.beq d.1 600 then (∃ x, AtM ad h m k (.int x) ∧ i2n x = 2147483648 + k)
  else True
/-- one case of a coupling at an index -/
noncomputable def DC (all : Bool) (ad : AD) (h : AH) (k : Nat) (gv : Nat → Nat) (ms : List (Nat × Nat × Nat)) (ds : List (Nat × Nat × Nat)) : Prop := match ms, ds with
  | m :: ms, d :: ds => ((all || Nat.beq m.2.1 1) = true → EnOK ad h k gv m d) ∧ DC all ad h k gv ms ds
  | _, _ => True
noncomputable def Inb (ad : AD) (lim k : Nat) : Prop := lim = 0 ∨ ad (lim - 1) k ≠ none
noncomputable def CpAt (ad : AD) (h : AH) (t k : Nat) : Prop := (∃ m v, m ∈ (cp_at t).2.1 ∧ AtM ad h m k v) →
  (Inb ad (cp_at t).1 k → ∃ d gv, d ∈ (cp_at t).2.2.1 ∧ DC true ad h k gv (cp_at t).2.1 d) ∧ (¬ Inb ad (cp_at t).1 k → ∃ d gv, d ∈ (cp_at t).2.2.2 ∧ DC false ad h k gv (cp_at t).2.1 d)
noncomputable def T6 (ad : AD) (h : AH) (np : Nat) (ex : Nat → Nat → Prop) : Prop := ∀ t k, t < np → ¬ ex t k → CpAt ad h t k
noncomputable def TS (ad : AD) (h : AH) (np : Nat) (ex : Nat → Nat → Prop) (ho : Nat → Nat → Prop) : Prop := T1 ad h ∧ (T2 ad ∧ (T3 ad h ∧ (T4 ad h ho ∧ (T5 ad h ∧ T6 ad h np ex))))
noncomputable def ExG (nu : Nat → Nat) (X : List (Nat × SV)) (t k : Nat) : Prop := ∃ e, (t, e) ∈ X ∧ sval nu e = 2147483648 + k
noncomputable def kcode (c p : Nat) : Nat := bif Nat.beq (cdm c) 0 then c * 128 + p else c * 128
/-- free feet, by the model's rows -/
noncomputable def ffF (sl sz lk : Nat → Int32) (k : Nat) (f : Int32) (s : Nat) : Int32 := match s with
  | 0 => f
  | s + 1 => ffF sl sz lk k f s - (if 0 < sl s ∧ lk ((sl s).toInt.toNat - 1) = nI k then Int32.ofInt 4 + sz s else 0)
/-- a day's place in its week; whether by law none comes at the week's end, at a holiday; a work day -/
noncomputable def wdR (d : Int32) : Int32 := d - d / Int32.ofInt 7 * Int32.ofInt 7
noncomputable def wdW (d v3 : Int32) : Bool := decide (¬ wdR d < Int32.ofInt 5) && decide (v3 = Int32.ofInt 1)
noncomputable def wdH (hv v4 : Int32) : Bool := decide (¬ hv = 0) && decide (v4 = Int32.ofInt 1)
noncomputable def wdI (d v3 v4 hv : Int32) : Int32 := bif wdW d v3 || wdH hv v4 then 0 else 1
/-- what a cell of a kerb with tag 15 says: whether the day is a work day there -/
noncomputable def PXW (ad : AD) (h : AH) (i v : Nat) : Prop := ∃ (d b : Nat) (v3 v4 hv : Int32), (2147483648 ≤ i ∧ (d < 400 ∧ b < 4)) ∧ ((At ad h 11 0 0 (.int (nI d)) ∧ At ad h 48 0 (i - 2147483648) (.int (nI b))) ∧ ((At ad h 18 b 3 (.int v3) ∧ At ad h 18 b 4 (.int v4)) ∧ (At ad h 47 0 d (.int hv) ∧ i2n (wdI (nI d) v3 v4 hv) = v)))
/-- what a cell with a tag from 10 on says: 10 free feet of a kerb; 15 a work day; else a row of one number -/
noncomputable def PX (tag : Nat) (ad : AD) (h : AH) (c i v : Nat) : Prop := bif Nat.beq tag 10 then
    (∃ (n : Nat) (sl sz lk : Nat → Int32) (f : Int32), ((2147483648 ≤ i ∧ n ≤ 40) ∧ (At ad h 11 0 ffS (.int (nI n)) ∧ At ad h ffKf 0 (i - 2147483648) (.int f))) ∧ ((∀ s, s < n → At ad h ffSl 0 s (.int (sl s)) ∧ (At ad h ffSz 0 s (.int (sz s)) ∧ ∃ j, j ≤ 60 ∧ sl s = nI j)) ∧ ((∀ l, l < 60 → At ad h ffLk 0 l (.int (lk l))) ∧ i2n (ffF sl sz lk (i - 2147483648) f n) = v)))
  else bif Nat.beq tag 15 then PXW ad h i v
  else ∀ p, p + 1 < cdm c → ∃ x, At ad h c (i - 2147483648) p (.int x) ∧ i2n x = v
theorem wd_ck : (cdm 11 = 0 ∧ (cdm 48 ≠ 0 ∧ 48 < 1000)) ∧ ((cdm 18 ≠ 0 ∧ cdm 47 ≠ 0) ∧ wdK = [11 * 128 + 0, 48 * 128, 18 * 128, 47 * 128]) := by decide +kernel
theorem ff_ck : (cdm 11 = 0 ∧ ((cdm ffKf ≠ 0 ∧ ffKf < 1000) ∧ (cdm ffSl ≠ 0 ∧ ffSl < 1000))) ∧ (((cdm ffSz ≠ 0 ∧ ffSz < 1000) ∧ (cdm ffLk ≠ 0 ∧ ffLk < 1000)) ∧ ffK = [11 * 128 + ffS, ffKf * 128, ffSl * 128, ffSz * 128, ffLk * 128]) := by decide +kernel
theorem px_mono {ad ad' : AD} {h h' : AH} {tag c i v : Nat} (hc : c < 1000) (hAt : ∀ c' i' p V, c' < 1000 → kcode c' p ∈ pxK tag c → At ad h c' i' p V → At ad' h' c' i' p V) (hP : PX tag ad h c i v) : PX tag ad' h' c i v := by
  obtain ⟨⟨f1, ⟨f2, f2'⟩, f3, f3'⟩, ⟨⟨f4, f4'⟩, f5, f5'⟩, f6⟩ := ff_ck
  have row : ∀ {c p : Nat}, cdm c ≠ 0 → kcode c p = c * 128 := fun {c p} hm => by
    unfold kcode
    have e : Nat.beq (cdm c) 0 = false := by
      cases e : Nat.beq (cdm c) 0
      · rfl
      · exact absurd (Nat.eq_of_beq_eq_true e) hm
    rw [e]
    rfl
  unfold PX at hP ⊢
  unfold pxK at hAt
  cases ht : Nat.beq tag 10
  · rw [ht, cond_false] at hP hAt
    rw [cond_false]
    cases ht2 : Nat.beq tag 15
    · rw [ht2, cond_false] at hP hAt
      rw [cond_false]
      intro p hp
      obtain ⟨x, x1, x2⟩ := hP p hp
      refine ⟨x, hAt c _ p _ hc ?_ x1, x2⟩
      rw [row (by omega)]
      exact List.mem_cons_self
    · obtain ⟨⟨w1, w2, -⟩, ⟨w3, w4⟩, w5⟩ := wd_ck
      rw [ht2, cond_true] at hP hAt
      rw [w5] at hAt
      rw [cond_true]
      unfold PXW at hP ⊢
      obtain ⟨d, b, v3, v4, hv, h0, ⟨h1, h2⟩, ⟨h3, h4⟩, h5, h6⟩ := hP
      have k11 : kcode 11 0 = 11 * 128 + 0 := by unfold kcode; rw [w1]; rfl
      refine ⟨d, b, v3, v4, hv, h0, ⟨hAt _ _ _ _ (by omega) (by rw [k11]; exact List.mem_cons_self) h1, hAt _ _ _ _ (by omega) ?_ h2⟩, ⟨hAt _ _ _ _ (by omega) ?_ h3, hAt _ _ _ _ (by omega) ?_ h4⟩, hAt _ _ _ _ (by omega) ?_ h5, h6⟩
      · rw [row w2]; simp
      · rw [row w3]; simp
      · rw [row w3]; simp
      · rw [row w4]; simp
  · rw [ht, cond_true] at hP
    rw [cond_true]
    rw [ht, cond_true, f6] at hAt
    obtain ⟨n, sl, sz, lk, f, ⟨h0, h1, h2⟩, h3, h4, h5⟩ := hP
    refine ⟨n, sl, sz, lk, f, ⟨h0, hAt _ _ _ _ (by omega) ?_ h1, hAt _ _ _ _ f2' ?_ h2⟩, fun s hs => ⟨hAt _ _ _ _ f3' ?_ (h3 s hs).1, hAt _ _ _ _ f4' ?_ (h3 s hs).2.1, (h3 s hs).2.2⟩, fun l hl => hAt _ _ _ _ f5' ?_ (h4 l hl), h5⟩
    · have : kcode 11 ffS = 11 * 128 + ffS := by unfold kcode; rw [f1]; rfl
      rw [this]
      exact List.mem_cons_self
    · rw [row f2]; simp
    · rw [row f3]; simp
    · rw [row f4]; simp
    · rw [row f5]; simp
theorem px_no {q : CE} {k : List Nat} (h : px_in q k = false) (h10 : 10 ≤ q.2.2.1.1) : ∀ a, a ∈ pxK q.2.2.1.1 q.1 → a ∉ k := fun a ha hk => by
  unfold px_in at h
  rw [Nat.ble_eq_true_of_le h10, Bool.true_and] at h
  have h1 : (pxK q.2.2.1.1 q.1).any (fun a => nmem a k) = true := by
    refine List.any_eq_true.mpr ⟨a, ha, ?_⟩
    clear h ha
    induction k with
    | nil => cases hk
    | cons b r ih =>
      rw [nmem]
      cases hb : Nat.beq a b
      · rcases List.mem_cons.mp hk with e | hk
        · rw [e, Nat.beq_refl] at hb; cases hb
        · exact ih hk
      · rfl
  rw [h1] at h
  cases h
noncomputable def CellOK2 (I : IN) (n m : Nat) (h : AH) (q : CE) : Prop := okn m q.2.1 ∧ (okn m q.2.2.1 ∧ (q.1 < 1000 ∧
  ((isI q.2.2.1 = true ∧ ∃ i j V, sval I.1 q.2.1 = 2147483648 + i ∧ (sval I.1 q.2.2.1 = 2147483648 + j ∧ (At I.2.2 h q.1 i j V ∧ SVm I n m q.2.2.2 V))) ∨
   (q.2.2.1.1 = 8 ∧ (isI q.2.2.2 = true ∧ (okn m q.2.2.2 ∧ ∀ k, I.2.2 q.1 k ≠ none ↔ 2147483648 + k < sval I.1 q.2.2.2))) ∨
   (q.2.2.1.1 = 9 ∧ (isI q.2.2.2 = true ∧ (okn m q.2.2.2 ∧ ∃ i a k vs, sval I.1 q.2.1 = 2147483648 + i ∧ (I.2.2 q.1 i = some a ∧ (h.1 a = some (k, vs) ∧ sval I.1 q.2.2.2 = 2147483648 + vs.length))))) ∨
   (10 ≤ q.2.2.1.1 ∧ (isI q.2.2.2 = true ∧ (okn m q.2.2.2 ∧ PX q.2.2.1.1 I.2.2 h q.1 (sval I.1 q.2.1) (sval I.1 q.2.2.2)))))))
noncomputable def HMr (I : IN) (n m : Nat) (H : List SO) (h : AH) : Prop := ∀ k o, H[k]? = some o →
  (o.1 = 99 ∧ ∃ w, o.2 = .inr [w] ∧ (isT w = true ∧ SVm I n m w (.ref (I.2.1 k)))) ∨
  (o.1 < 30 ∧ ((∀ c i, I.2.2 c i ≠ some (I.2.1 k)) ∧ ∃ vs, h.1 (I.2.1 k) = some (o.1, vs) ∧ CMr I n m o.2 vs))
noncomputable def RaOK (I : IN) (n : Nat) (b : Nat) (h : AH) : Prop := (∀ k, k < n → b ≤ I.2.1 k ∧ I.2.1 k < h.2.1) ∧ ∀ k j, k < n → j < n → I.2.1 k = I.2.1 j → k = j
noncomputable def sl (h : AH) (q p : Nat) : Option Value := match h.1 q with
  | some o => o.2[p]?
  | none => none
/-- what stayed since a start (addresses and heap) -/
noncomputable def Sc (B : AD × AH) (I : IN) (K : List Nat) (u q : Nat) (h : AH) : Prop :=
  (∀ a, a < B.2.2.1 → (∀ c i, B.1 c i ≠ some a) → h.1 a = B.2.1 a) ∧
  ((∀ c i a p, c < 1000 → B.1 c i = some a → kcode c p ∉ K → sl h a p = sl B.2 a p) ∧
  ((∀ c i a, c < 1000 → B.1 c i = some a → I.2.2 c i = some a) ∧
  ((∀ c i a, I.2.2 c i = some a → B.1 c i = some a ∨ B.2.2.1 ≤ a) ∧
  (h.2.1 ≤ B.2.2.1 + q ∧ (h.2.2 ≤ B.2.2.2 + u ∧ B.2.2.1 ≤ h.2.1)))))
noncomputable def HK (B : BS) (I : IN) (n m : Nat) (H : List SO) (C : List CE) (X : List (Nat × SV)) (K : List Nat) (u q np : Nat) (h : AH) : Prop :=
  HMr I n m H h ∧ (RaOK I n B.1.2.2.1 h ∧ (TS I.2.2 h np (ExG I.1 X) B.2 ∧ ((∀ x, x ∈ X → okn m x.2) ∧ ((∀ x, x ∈ C → CellOK2 I n m h x) ∧ Sc B.1 I K u q h))))
noncomputable def RM (B : BS) (I : IN) (G : SG) (h : AH) : Prop := GK I.1 G ∧ HK B I (g_h G).length (g_n G) (g_h G) (g_c G) (g_x G) (g_k G) (g_u G) (g_q G) (g_p G) h
/-- growth -/
noncomputable def Gr (I : IN) (G : SG) (I' : IN) (G' : SG) : Prop := Ag (g_n G) I.1 I'.1 ∧ (g_n G ≤ g_n G' ∧ (Ag (g_h G).length I.2.1 I'.2.1 ∧ ((g_h G).length ≤ (g_h G').length ∧ ∀ c i q, c < 1000 → I.2.2 c i = some q → I'.2.2 c i = some q)))
theorem gr_refl (I : IN) (G : SG) : Gr I G I G := ⟨fun _ _ => rfl, Nat.le_refl _, fun _ _ => rfl, Nat.le_refl _, fun _ _ _ _ h => h⟩
theorem gr_trans {I I' I'' : IN} {G G' G'' : SG} (h : Gr I G I' G') (k : Gr I' G' I'' G'') : Gr I G I'' G'' :=
  ⟨fun i hi => (k.1 i (Nat.lt_of_lt_of_le hi h.2.1)).trans (h.1 i hi), Nat.le_trans h.2.1 k.2.1, fun i hi => (k.2.2.1 i (Nat.lt_of_lt_of_le hi h.2.2.2.1)).trans (h.2.2.1 i hi), Nat.le_trans h.2.2.2.1 k.2.2.2.1, fun c i q hc hq => k.2.2.2.2 c i q hc (h.2.2.2.2 c i q hc hq)⟩
theorem gr_nk {I : IN} {nu' : Nat → Nat} {G G' : SG} (k : NK I.1 G nu' G') : Gr I G (nu', I.2) G' :=
  ⟨k.2.1, k.2.2.1, fun _ _ => rfl, Nat.le_of_eq (by rw [k.2.2.2.1]), fun _ _ _ _ h => h⟩
section
variable {I I' : IN} {n m n' m' : Nat} {s : SV} {v : Value}
theorem ref_up {ad ad' : AD} {c e : Nat} (hc : c < 1000) (ha : ∀ c i q, c < 1000 → ad c i = some q → ad' c i = some q) (h : RefV ad c e v) : RefV ad' c e v := by
  rcases h with h | ⟨h1, q, h2, h3⟩
  · exact Or.inl h
  · exact Or.inr ⟨h1, q, ha c _ q hc h2, h3⟩
theorem idx_okn (h : okn m (y_idx s)) : isN (y_idx s) = true → (y_idx s).2.1 < m := h
theorem sv_up (h : SVm I n m s v) (hn : n ≤ n') (hm : m ≤ m') (h1 : Ag m I.1 I'.1) (h2 : Ag n I.2.1 I'.2.1) (h3 : ∀ c i q, c < 1000 → I.2.2 c i = some q → I'.2.2 c i = some q) : SVm I' n' m' s v := by
  rcases h with ⟨a, b, x, c, d⟩ | ⟨a, b, x, c, d⟩ | h | ⟨a, b, c⟩ | ⟨a, b, c, d⟩
  · exact Or.inl ⟨a, okn_up b hm, x, c, by rw [sval_ag b h1]; exact d⟩
  · exact Or.inr (Or.inl ⟨a, okn_up b hm, x, c, by rw [sval_ag b h1]; exact d⟩)
  · exact Or.inr (Or.inr (Or.inl h))
  · exact Or.inr (Or.inr (Or.inr (Or.inl ⟨a, Nat.lt_of_lt_of_le b hn, by rw [h2 _ b]; exact c⟩)))
  · exact Or.inr (Or.inr (Or.inr (Or.inr ⟨a, okn_up b hm, c, by rw [sval_ag b h1]; exact ref_up c h3 d⟩)))
theorem tag_I (h : isI s = true) : s.1 ≤ 1 := blet h
theorem tag_L (h : isL s = true) : s.1 = 2 ∨ s.1 = 3 := by
  unfold isL at h
  rcases or2 h with h | h
  · exact Or.inl (beqt h)
  · exact Or.inr (beqt h)
theorem tag_T (h : isT s = true) : 6 ≤ s.1 := blet h
theorem sv_int (h : SVm I n m s v) (hi : isI s = true) : ∃ x, v = .int x ∧ IV I.1 m s x := by
  have h0 := tag_I hi
  rcases h with ⟨a, b, x, c, d⟩ | ⟨a, -⟩ | ⟨a, -⟩ | ⟨a, -⟩ | ⟨a, -⟩
  · exact ⟨x, c, hi, b, d⟩
  · have := tag_L a; omega
  · omega
  · omega
  · have := tag_T a; omega
theorem sv_long (h : SVm I n m s v) (hi : isL s = true) : ∃ x, v = .long x ∧ LV' I.1 m s x := by
  have h0 := tag_L hi
  rcases h with ⟨a, -⟩ | ⟨a, b, x, c, d⟩ | ⟨a, -⟩ | ⟨a, -⟩ | ⟨a, -⟩
  · have := tag_I a; omega
  · exact ⟨x, c, hi, b, d⟩
  · omega
  · omega
  · have := tag_T a; omega
theorem sv_null (h : SVm I n m s v) (hi : s.1 = 4) : v = .null := by
  rcases h with ⟨a, -⟩ | ⟨a, -⟩ | ⟨-, a⟩ | ⟨a, -⟩ | ⟨a, -⟩
  · have := tag_I a; omega
  · have := tag_L a; omega
  · exact a
  · omega
  · have := tag_T a; omega
theorem sv_raw (h : SVm I n m s v) (hi : s.1 = 5) : s.2.1 < n ∧ v = .ref (I.2.1 s.2.1) := by
  rcases h with ⟨a, -⟩ | ⟨a, -⟩ | ⟨a, -⟩ | ⟨-, a⟩ | ⟨a, -⟩
  · have := tag_I a; omega
  · have := tag_L a; omega
  · omega
  · exact a
  · have := tag_T a; omega
theorem sv_typ (h : SVm I n m s v) (hi : isT s = true) : okn m (y_idx s) ∧ (s.2.1 < 1000 ∧ RefV I.2.2 s.2.1 (sval I.1 (y_idx s)) v) := by
  have h0 := tag_T hi
  rcases h with ⟨a, -⟩ | ⟨a, -⟩ | ⟨a, -⟩ | ⟨a, -⟩ | ⟨-, a⟩
  · have := tag_I a; omega
  · have := tag_L a; omega
  · omega
  · omega
  · exact a
theorem sv_of_int {x : Int32} (h : IV I.1 m s x) : SVm I n m s (.int x) := Or.inl ⟨h.1, h.2.1, x, rfl, h.2.2⟩
theorem sv_of_long {x : Int64} (h : LV' I.1 m s x) : SVm I n m s (.long x) := Or.inr (Or.inl ⟨h.1, h.2.1, x, rfl, h.2.2⟩)
theorem sv_ref (h : SVm I n m s v) (hi : isR s = true) : v = .null ∨ ∃ q, v = .ref q := by
  have h0 : 4 ≤ s.1 := blet hi
  rcases h with ⟨a, -⟩ | ⟨a, -⟩ | ⟨-, a⟩ | ⟨-, -, a⟩ | ⟨-, -, -, a⟩
  · have := tag_I a; omega
  · have := tag_L a; omega
  · exact Or.inl a
  · exact Or.inr ⟨_, a⟩
  · rcases a with ⟨-, a⟩ | ⟨-, q, -, a⟩
    · exact Or.inl a
    · exact Or.inr ⟨q, a⟩
theorem lm_len {l : List SV} {vs : List Value} (h : LM I n m l vs) : vs.length = l.length := by
  induction l generalizing vs with
  | nil => cases vs with
    | nil => rfl
    | cons => exact h.elim
  | cons s r ih => cases vs with
    | nil => exact h.elim
    | cons v t => rw [List.length_cons, List.length_cons, ih h.2]
theorem lm_cons {s : SV} {r : List SV} {vs : List Value} (h : LM I n m (s :: r) vs) : ∃ v t, vs = v :: t ∧ (SVm I n m s v ∧ LM I n m r t) := by
  cases vs with
  | nil => exact h.elim
  | cons v t => exact ⟨v, t, rfl, h⟩
theorem lm_nil {vs : List Value} (h : LM I n m [] vs) : vs = [] := by
  cases vs with
  | nil => rfl
  | cons => exact h.elim
theorem lm_get {l : List SV} {vs : List Value} {i : Nat} {s : SV} (h : LM I n m l vs) (hi : l[i]? = some s) : ∃ v, vs[i]? = some v ∧ SVm I n m s v := by
  induction l generalizing vs i with
  | nil => exact absurd hi (by intro h; cases h)
  | cons x r ih =>
    obtain ⟨v, t, rfl, h1, h2⟩ := lm_cons h
    cases i with
    | zero => cases hi; exact ⟨v, rfl, h1⟩
    | succ i =>
      obtain ⟨w, g1, g2⟩ := ih (vs := t) (i := i) h2 hi
      exact ⟨w, g1, g2⟩
theorem lm_set {l : List SV} {vs : List Value} {i : Nat} {s : SV} {v : Value} (h : LM I n m l vs) (hv : SVm I n m s v) : LM I n m (l.set i s) (vs.set i v) := by
  induction l generalizing vs i with
  | nil => rw [lm_nil h]; exact True.intro
  | cons x r ih =>
    obtain ⟨w, t, rfl, h1, h2⟩ := lm_cons h
    cases i with
    | zero => exact ⟨hv, h2⟩
    | succ i => exact ⟨h1, ih h2⟩
theorem lm_app {l r : List SV} {vs ws : List Value} (h : LM I n m l vs) (h2 : LM I n m r ws) : LM I n m (l ++ r) (vs ++ ws) := by
  induction l generalizing vs with
  | nil => rw [lm_nil h]; exact h2
  | cons x q ih =>
    obtain ⟨w, t, rfl, h3, h4⟩ := lm_cons h
    exact ⟨h3, ih h4⟩
theorem lm_take {l : List SV} {vs : List Value} (i : Nat) (h : LM I n m l vs) : LM I n m (l.take i) (vs.take i) := by
  induction l generalizing vs i with
  | nil => rw [lm_nil h, List.take_nil, List.take_nil]; exact True.intro
  | cons x q ih =>
    obtain ⟨w, t, rfl, h3, h4⟩ := lm_cons h
    cases i with
    | zero => exact True.intro
    | succ i => exact ⟨h3, ih i h4⟩
theorem lm_drop {l : List SV} {vs : List Value} (i : Nat) (h : LM I n m l vs) : LM I n m (l.drop i) (vs.drop i) := by
  induction l generalizing vs i with
  | nil => rw [lm_nil h, List.drop_nil, List.drop_nil]; exact True.intro
  | cons x q ih =>
    obtain ⟨w, t, rfl, h3, h4⟩ := lm_cons h
    cases i with
    | zero => exact ⟨h3, h4⟩
    | succ i => exact ih i h4
theorem lm_rev {l : List SV} {vs : List Value} (h : LM I n m l vs) : LM I n m l.reverse vs.reverse := by
  induction l generalizing vs with
  | nil => rw [lm_nil h]; exact True.intro
  | cons x q ih =>
    obtain ⟨w, t, rfl, h3, h4⟩ := lm_cons h
    rw [List.reverse_cons, List.reverse_cons]
    exact lm_app (ih h4) ⟨h3, True.intro⟩
theorem lm_rep {s : SV} {v : Value} (h : SVm I n m s v) (k : Nat) : LM I n m (List.replicate k s) (List.replicate k v) := by
  induction k with
  | zero => exact True.intro
  | succ k ih => exact ⟨h, ih⟩
theorem lm_map {α : Type} {f : α → SV} {g : α → Value} (h : ∀ x, SVm I n m (f x) (g x)) (l : List α) : LM I n m (l.map f) (l.map g) := by
  induction l with
  | nil => exact True.intro
  | cons x r ih => exact ⟨h x, ih⟩
theorem lm_mem {l : List SV} {vs : List Value} {v : Value} (h : LM I n m l vs) (hv : v ∈ vs) : ∃ s, s ∈ l ∧ SVm I n m s v := by
  induction l generalizing vs with
  | nil => rw [lm_nil h] at hv; cases hv
  | cons x q ih =>
    obtain ⟨w, t, rfl, h3, h4⟩ := lm_cons h
    rcases List.mem_cons.mp hv with rfl | hv
    · exact ⟨x, List.mem_cons_self, h3⟩
    · obtain ⟨s, h5, h6⟩ := ih h4 hv
      exact ⟨s, List.mem_cons_of_mem _ h5, h6⟩
theorem lm_up {l : List SV} {vs : List Value} (h : LM I n m l vs) (hn : n ≤ n') (hm : m ≤ m') (h1 : Ag m I.1 I'.1) (h2 : Ag n I.2.1 I'.2.1) (h3 : ∀ c i q, c < 1000 → I.2.2 c i = some q → I'.2.2 c i = some q) : LM I' n' m' l vs := by
  induction l generalizing vs with
  | nil => rw [lm_nil h]; exact True.intro
  | cons x q ih =>
    obtain ⟨w, t, rfl, h4, h5⟩ := lm_cons h
    exact ⟨sv_up h4 hn hm h1 h2 h3, ih h5⟩
theorem nbeq (a b : Nat) : (a == b) = Nat.beq a b := by
  cases h : Nat.beq a b
  · exact beq_false_of_ne (beqf h)
  · rw [beqt h]; exact beq_self_eq_true _
theorem sv_cat (h : SVm I n m s v) : v.category = s_cat s := by
  unfold s_cat
  rcases h with ⟨a, -, x, rfl, -⟩ | ⟨a, -, x, rfl, -⟩ | ⟨a, rfl⟩ | ⟨a, -, rfl⟩ | ⟨a, -, -, b⟩
  · have h0 := tag_I a
    have e : isL s = false := by
      cases hq : isL s
      · rfl
      · have := tag_L hq; omega
    rw [e]; rfl
  · rw [a]; rfl
  · have e : isL s = false := by unfold isL; rw [a]; rfl
    rw [e]; rfl
  · have e : isL s = false := by unfold isL; rw [a]; rfl
    rw [e]; rfl
  · have h0 := tag_T a
    have e : isL s = false := by
      cases hq : isL s
      · rfl
      · have := tag_L hq; omega
    rw [e]
    rcases b with ⟨-, rfl⟩ | ⟨-, q, -, rfl⟩ <;> rfl
theorem lm_w {l : List SV} {vs : List Value} (h : LM I n m l vs) : am_w vs = S_w l := by
  induction l generalizing vs with
  | nil => rw [lm_nil h]; rfl
  | cons x q ih =>
    obtain ⟨w, t, rfl, h3, h4⟩ := lm_cons h
    have := ih h4
    unfold am_w at this ⊢
    rw [List.map_cons, List.sum_cons, this, sv_cat h3]
    rfl
theorem lvm_up {l : SLV} {vs : LV} (h : LVM I n m l vs) (hn : n ≤ n') (hm : m ≤ m') (h1 : Ag m I.1 I'.1) (h2 : Ag n I.2.1 I'.2.1) (h3 : ∀ c i q, c < 1000 → I.2.2 c i = some q → I'.2.2 c i = some q) : LVM I' n' m' l vs := fun i s hs => by
  obtain ⟨v, e1, e2⟩ := h i s hs
  exact ⟨v, e1, sv_up e2 hn hm h1 h2 h3⟩
end
