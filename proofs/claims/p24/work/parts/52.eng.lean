/-! ===== the second symbolic machine: a step ===== -/
noncomputable def o_nx (lv : SLV) (st : List SV) (G : SG) : Option (List SOUT) := some [.inl (none, lv, st, G)]
noncomputable def o_jp (t : Int) (lv : SLV) (st : List SV) (G : SG) : Option (List SOUT) := some [.inl (some t.toNat, lv, st, G)]
noncomputable def o_br (c : Int) (lv : SLV) (st : List SV) (l : List (Bool × SG)) : List SOUT := l.map (fun q => bif q.1 then .inl (some c.toNat, lv, st, q.2) else .inl (none, lv, st, q.2))
noncomputable def o_vs (lv : SLV) (r : List SV) (l : List (SV × SG)) : List SOUT := l.map (fun q => .inl (none, lv, q.1 :: r, q.2))
noncomputable def s_find (i : Nat) (l : SLV) : Option SV := match l with
  | [] => none
  | q :: r => bif Nat.beq q.1 i then some q.2 else s_find i r
noncomputable def slv_rm (i : Nat) (l2 : Bool) (lv : SLV) : SLV := match lv with
  | [] => []
  | q :: r => bif Nat.beq q.1 i || ((l2 && Nat.beq q.1 (i + 1)) || (Nat.beq (q.1 + 1) i && isL q.2)) then slv_rm i l2 r else q :: slv_rm i l2 r
noncomputable def slv_put (i : Nat) (v : SV) (lv : SLV) : SLV := (i, v) :: slv_rm i (isL v) lv
noncomputable def s_tyc (c : Int) (v : SV) : Bool := bif decide (c = 0) then isI v else bif decide (c = 1) then isL v else bif decide (c = 2) then isR v else false
noncomputable def s_cat (v : SV) : Nat := bif isL v then 2 else 1
noncomputable def S_w (st : List SV) : Nat := match st with
  | [] => 0
  | v :: r => s_cat v + S_w r
noncomputable def s_okv (v : SV) : Bool := isI v || isR v
/-- an object that is there: made, or of a class and not null -/
noncomputable def y_nn (G : SG) (v : SV) : Option SV := let w := y_fwd G v; bif isT w then (bif Nat.ble 2147483648 (itv G (y_idx w)).1 then some w else none) else bif Nat.beq w.1 5 then some w else none
noncomputable def y_kd (G : SG) (w : SV) : Option Nat := bif isT w then some (cdk w.2.1) else (match (g_h G)[w.2.1]? with | some o => some o.1 | none => none)
noncomputable def Y_load (a : Nat) (c : Int) (lv : SLV) (st : List SV) (G : SG) : Option (List SOUT) := match s_find a lv with
  | some v => bif s_tyc c v then o_nx lv (v :: st) G else none
  | none => none
noncomputable def Y_store (a : Nat) (c : Int) (lv : SLV) (st : List SV) (G : SG) : Option (List SOUT) := match st with
  | v :: r => bif s_tyc c v then o_nx (slv_put a v lv) r G else none
  | _ => none
noncomputable def Y_iinc (a : Nat) (c : Int) (lv : SLV) (st : List SV) (G : SG) : Option (List SOUT) := match s_find a lv with
  | some v => (match y_bin 0 v (sk (zi c)) G with
    | some q => o_nx (slv_put a q.1 lv) st q.2
    | none => none)
  | none => none
noncomputable def Y_ibin (a : Nat) (lv : SLV) (st : List SV) (G : SG) : Option (List SOUT) := match st with
  | y :: x :: r => (match y_bin a x y G with
    | some q => o_nx lv (q.1 :: r) q.2
    | none => none)
  | _ => none
noncomputable def Y_lbin (a : Nat) (lv : SLV) (st : List SV) (G : SG) : Option (List SOUT) := match st with
  | y :: x :: r => (match y_lbin a x y G with
    | some q => o_nx lv (q.1 :: r) q.2
    | none => none)
  | _ => none
noncomputable def Y_conv (a : Nat) (lv : SLV) (st : List SV) (G : SG) : Option (List SOUT) := match st with
  | x :: r => (match y_conv a x G with
    | some q => o_nx lv (q.1 :: r) q.2
    | none => none)
  | _ => none
noncomputable def Y_icmp (a : Nat) (c : Int) (lv : SLV) (st : List SV) (G : SG) : Option (List SOUT) := match st with
  | y :: x :: r => (match y_cond a x y G with
    | some l => some (o_br c lv r l)
    | none => none)
  | _ => none
noncomputable def Y_if (a : Nat) (c : Int) (lv : SLV) (st : List SV) (G : SG) : Option (List SOUT) := match st with
  | x :: r => (match y_cond a x (sk 2147483648) G with
    | some l => some (o_br c lv r l)
    | none => none)
  | _ => none
noncomputable def lc_2 (lv : SLV) (r : List SV) (l : List (Bool × SG)) : List SOUT := l.map (fun q => .inl (none, lv, sk (bif q.1 then 2147483649 else 2147483648) :: r, q.2))
noncomputable def lc_1 (x y : SV) (lv : SLV) (r : List SV) (l : List (Bool × SG)) : List SOUT := match l with
  | [] => []
  | q :: t => (bif q.1 then [.inl (none, lv, sk 2147483647 :: r, q.2)] else lc_2 lv r (y_lt q.2 y x true false)) ++ lc_1 x y lv r t
noncomputable def Y_lcmp (lv : SLV) (st : List SV) (G : SG) : Option (List SOUT) := match st with
  | y :: x :: r => bif isL x && isL y then some (lc_1 x y lv r (y_lt G x y true false)) else none
  | _ => none
noncomputable def y_fitc (c : Nat) (G : SG) (v : SV) : Bool := bif isI v then (Nat.beq c 0 || (Nat.beq c 2 && y_fitI G v 2147483648 2147483649)) else isR v && Nat.beq c 3
noncomputable def Y_get (f : Nat) (lv : SLV) (st : List SV) (G : SG) : Option (List SOUT) := match st with
  | x :: r => (match y_nn G x with
    | none => none
    | some w => bif isT w then (bif (fks f).contains (cdk w.2.1) && Nat.beq (cdm w.2.1) 0 then (match y_read G w.2.1 (y_idx w) (sk (fpos f + 2147483648)) with
        | some l => some (o_vs lv r l)
        | none => none) else none)
      else (match (g_h G)[w.2.1]? with
        | some (kd, .inr l) => bif (fks f).contains kd then (match l[fpos f]? with
          | some v => o_nx lv (v :: r) G
          | none => none) else none
        | _ => none))
  | _ => none
/-- an open coupling's index that may be this place's or not -/
noncomputable def al_x (G : SG) (t : Nat) (e : SV) (X : List (Nat × SV)) : Option SV := match X with
  | [] => none
  | q :: r => bif (Nat.beq q.1 t && isI q.2) && !(veq q.2 e || (y_sdiff G e q.2 || (y_le G e q.2 0 2 && y_le G q.2 e 0 2))) then some q.2 else al_x G t e r
noncomputable def y_alias (G : SG) (c : Nat) (i j : SV) (ts : List Nat) : Option SV := match ts with
  | [] => none
  | t :: r => (match cp_mem (cp_at t).2.1 c i j with
    | none => y_alias G c i j r
    | some e => (match al_x G t e (g_x G) with
      | none => y_alias G c i j r
      | some e2 => some e2))
noncomputable def y_putl (lv : SLV) (r : List SV) (c : Nat) (i j v : SV) (l : List (Bool × SG)) : Option (List SOUT) := match l with
  | [] => some []
  | q :: l => (match y_write q.2 c i j v, y_putl lv r c i j v l with
    | some G2, some o => some (.inl (none, lv, r, G2) :: o)
    | _, _ => none)
noncomputable def Y_put (f : Nat) (lv : SLV) (st : List SV) (G : SG) : Option (List SOUT) := match st with
  | v :: x :: r => (match y_nn G x with
    | none => none
    | some w => bif y_fitc (dcode (fr f).2.2.1) G v then (bif isT w then (bif (fks f).contains (cdk w.2.1) && (Nat.beq (cdm w.2.1) 0 && !(Nat.beq (cdk w.2.1) 12)) then (match y_alias G w.2.1 (y_idx w) (sk (fpos f + 2147483648)) (List.range (g_p G)) with
        | some e2 => y_putl lv r w.2.1 (y_idx w) (sk (fpos f + 2147483648)) v (y_eq G e2 (y_idx w) true false)
        | none => (match y_write G w.2.1 (y_idx w) (sk (fpos f + 2147483648)) v with
          | some G2 => o_nx lv r G2
          | none => none)) else none)
      else (match (g_h G)[w.2.1]? with
        | some (kd, .inr l) => bif (fks f).contains kd && Nat.ble (fpos f + 1) l.length then o_nx lv r (upH G ((g_h G).set w.2.1 (kd, .inr (l.set (fpos f) v)))) else none
        | _ => none)) else none)
  | _ => none
noncomputable def so_len (o : SC) : Nat := match o with
  | .inl q => q.1
  | .inr l => l.length
/-- the length of a row -/
noncomputable def y_len (G : SG) (w : SV) : Option (SV × SG) := bif isT w then
    (bif Nat.beq (cdm w.2.1) 0 then none
    else bif Nat.ble (cdm w.2.1) 999999 then some (sk (cdm w.2.1 + 2147483647), G)
    else match y_find G w.2.1 (y_idx w) (9, 0, 0) with
      | some v => some (v, G)
      | none => some ((1, g_n G, 0), y_put (y_fresh G 2147483648 2147487232) w.2.1 (y_idx w) (9, 0, 0) (1, g_n G, 0)))
  else match (g_h G)[w.2.1]? with
    | some o => bif Nat.ble (so_len o.2) 60000000 then some (sk (so_len o.2 + 2147483648), G) else none
    | none => none
noncomputable def y_in (G : SG) (i n : SV) : Bool := (bif Nat.ble 2147483648 (itv G i).1 then true else y_le G (sk 2147483648) i 0 2) && (bif Nat.ble ((itv G i).2 + 1) (itv G n).1 then true else y_le G i n 1 2)
noncomputable def y_cn (G : SG) (v : SV) : SV := let p := itv G v; bif isI v && Nat.beq p.1 p.2 then sk p.1 else v
noncomputable def Y_ald (a : Nat) (lv : SLV) (st : List SV) (G0 : SG) : Option (List SOUT) := match st with
  | i0 :: x :: r => bif isI i0 then (match y_nn G0 x with
    | none => none
    | some w => (match y_kd G0 w, y_len G0 w with
      | some kd, some q => (let G := q.2; let i := y_cn G i0
        bif (am_ld a kd && Nat.ble 20 kd) && y_in G i q.1 then (bif isT w then (match y_read G w.2.1 (y_idx w) i with
            | some l => some (o_vs lv r l)
            | none => none)
          else (match (g_h G)[w.2.1]? with
            | some (_, .inl u) => bif Nat.beq u.2.1 0 then o_nx lv ((y_new G u.2.2.1 u.2.2.2).1 :: r) (y_new G u.2.2.1 u.2.2.2).2 else bif Nat.beq u.2.1 1 then o_nx lv ((lnew G).1 :: r) (lnew G).2 else none
            | some (_, .inr l) => bif Nat.beq i.1 0 then (match l[i.2.1 - 2147483648]? with
              | some v => o_nx lv (v :: r) G
              | none => none) else none
            | none => none)) else none)
      | _, _ => none)) else none
  | _ => none
/-- what may come into a row made here -/
noncomputable def y_stok (a kd : Nat) (G : SG) (v : SV) : Bool :=
  bif Nat.beq a 0 then isI v && Nat.beq kd 20
  else bif Nat.beq a 1 then isL v && Nat.beq kd 21
  else bif Nat.beq a 2 then isI v && (Nat.beq kd 22 && y_fitI G v 2147483648 2147483649)
  else bif Nat.beq a 4 then (bif Nat.beq v.1 4 then Nat.beq kd 24 || (Nat.beq kd 25 || Nat.beq kd 26) else bif Nat.beq v.1 5 then (match (g_h G)[v.2.1]? with
    | some (kv, _) => Nat.ble kv 12 && (Nat.beq kd 24 || ((Nat.beq kd 25 && Nat.beq kv 0) || (Nat.beq kd 26 && Nat.beq kv 9)))
    | none => false) else false)
  else false
noncomputable def ty_join (G : SG) (t : TY) (v : SV) : TY := bif Nat.beq t.1 0 then (let p := itv G v; (0, nmin t.2.1 p.1, nmax t.2.2 p.2)) else t
noncomputable def Y_ast (a : Nat) (lv : SLV) (st : List SV) (G0 : SG) : Option (List SOUT) := match st with
  | v :: i0 :: x :: r => bif isI i0 then (match y_nn G0 x with
    | none => none
    | some w => (match y_kd G0 w, y_len G0 w with
      | some kd, some q => (let G := q.2; let i := y_cn G i0
        bif y_stok a kd G v && y_in G i q.1 then (bif isT w then (bif Nat.ble a 2 then (match y_write G w.2.1 (y_idx w) i v with
            | some G2 => o_nx lv r G2
            | none => none) else none)
          else (match (g_h G)[w.2.1]? with
            | some (_, .inl u) => bif (Nat.beq u.2.1 0 && isI v) || (Nat.beq u.2.1 1 && isL v) then o_nx lv r (upH G ((g_h G).set w.2.1 (kd, .inl (u.1, ty_join G u.2 v)))) else none
            | some (_, .inr l) => bif Nat.beq i.1 0 then o_nx lv r (upH G ((g_h G).set w.2.1 (kd, .inr (l.set (i.2.1 - 2147483648) v)))) else none
            | none => none)) else none)
      | _, _ => none)) else none
  | _ => none
noncomputable def S_ok (as : List SV) (M : Nat) : Bool := as.all s_okv && Nat.ble as.length (mL M)
noncomputable def Y_call (i : Nat) (st : List SV) (G : SG) : Option (List SOUT) :=
  let sp := spec i
  let as := (st.take sp.2.1).reverse
  let r := st.drop sp.2.1
  bif Nat.beq as.length sp.2.1 then
    (bif Nat.beq sp.1 0 then (match sp.2.2 with
      | t :: [] => bif Nat.ble (S_w r) 8 && S_ok as t.2 then some [.inr (.inl (t.2, as, r, G))] else none
      | _ => none)
    else bif Nat.beq sp.1 1 then (match r with
      | x :: r2 => (match y_nn G x with
        | some w => (match y_kd G w with
          | some k => (match sp.2.2.find? (fun t => t.1 == k) with
            | some t => bif Nat.ble (S_w r2) 8 && S_ok (w :: as) t.2 then some [.inr (.inl (t.2, w :: as, r2, G))] else none
            | none => none)
          | none => none)
        | none => none)
      | _ => none)
    else none)
  else none
noncomputable def Y_ret (a : Nat) (st : List SV) (G : SG) : Option (List SOUT) := match st with
  | [] => bif Nat.beq a 0 then some [.inr (.inr (none, G))] else none
  | x :: [] =>
    bif Nat.beq a 1 then (bif isI x then some [.inr (.inr (some x, G))] else none)
    else bif Nat.beq a 2 then (bif isL x then some [.inr (.inr (some x, G))] else none)
    else bif Nat.beq a 3 then (bif isR x then some [.inr (.inr (some x, G))] else none)
    else bif Nat.beq a 4 then (bif isI x && y_fitI G x 2147483648 2147483649 then some [.inr (.inr (some x, G))] else none)
    else none
  | _ => none
noncomputable def Y_stk (a : Nat) (lv : SLV) (st : List SV) (G : SG) : Option (List SOUT) := match st with
  | [] => none
  | v :: r => bif Nat.beq a 4 then (bif isL v then o_nx lv r G else none) else bif s_okv v then
    (bif Nat.beq a 0 then o_nx lv (v :: v :: r) G
    else bif Nat.beq a 1 then o_nx lv r G
    else (match r with
      | [] => none
      | u :: r => bif s_okv u then (bif Nat.beq a 2 then o_nx lv (v :: u :: v :: r) G else bif Nat.beq a 3 then o_nx lv (v :: u :: v :: u :: r) G else none) else none)) else none
noncomputable def b_flip (b : Bool) (l : List (Bool × SG)) : List (Bool × SG) := bif b then l else l.map (fun q => (!q.1, q.2))
noncomputable def y_isnull (G : SG) (v : SV) : Option (List (Bool × SG)) := let w := y_fwd G v
  bif Nat.beq w.1 4 then some [(true, G)] else bif Nat.beq w.1 5 then some [(false, G)] else bif isT w then some (y_eq G (y_idx w) (sk 2147483647) true false) else none
noncomputable def Y_null (a : Nat) (c : Int) (lv : SLV) (st : List SV) (G : SG) : Option (List SOUT) := match st with
  | x :: r => bif Nat.ble a 1 then (match y_isnull G x with
    | some l => some (o_br c lv r (b_flip (Nat.beq a 0) l))
    | none => none) else none
  | _ => none
noncomputable def y_acmp (G : SG) (u v : SV) : Option (List (Bool × SG)) := let x := y_fwd G u; let y := y_fwd G v
  bif isT x && isT y then (bif Nat.beq x.2.1 y.2.1 then (bif Nat.ble 30 (cdk x.2.1) then none else some (y_eq G (y_idx x) (y_idx y) true false)) else none)
  else bif Nat.beq x.1 4 && Nat.beq y.1 4 then some [(true, G)]
  else bif Nat.beq x.1 4 && isT y then some (y_eq G (y_idx y) (sk 2147483647) true false)
  else bif Nat.beq y.1 4 && isT x then some (y_eq G (y_idx x) (sk 2147483647) true false)
  else none
noncomputable def Y_acmp (a : Nat) (c : Int) (lv : SLV) (st : List SV) (G : SG) : Option (List SOUT) := match st with
  | v :: u :: r => bif Nat.ble a 1 then (match y_acmp G u v with
    | some l => some (o_br c lv r (b_flip (Nat.beq a 0) l))
    | none => none) else none
  | _ => none
noncomputable def sw_in (x : SV) (a b : Nat) (lv : SLV) (r : List SV) (G : SG) (i : Nat) (ts : List Nat) : List SOUT := match ts with
  | [] => []
  | t :: q => bif Nat.ble a i && Nat.ble i b then .inl (some t, lv, r, y_know G x i i) :: sw_in x a b lv r G (i + 1) q else sw_in x a b lv r G (i + 1) q
noncomputable def Y_sw (a : Nat) (lv : SLV) (st : List SV) (G : SG) : Option (List SOUT) := match st with
  | x :: r => bif isI x then (match swt[a]? with
    | some (lo, hi, d, ts) => (let p := itv G x; let l := zi lo; let h := zi hi
      bif decide (-2147483648 ≤ lo) && (decide (hi < 2147483648) && (Nat.beq (h + 1) (l + ts.length) && decide (lo ≤ hi))) then
        some ((bif Nat.ble (p.1 + 1) l then [.inl (some d, lv, r, y_know G x p.1 (nmin p.2 (l - 1)))] else []) ++ ((bif Nat.ble (h + 1) p.2 then [.inl (some d, lv, r, y_know G x (nmax p.1 (h + 1)) p.2)] else []) ++ sw_in x p.1 p.2 lv r G l ts)) else none)
    | none => none) else none
  | _ => none
noncomputable def Y_len (lv : SLV) (st : List SV) (G : SG) : Option (List SOUT) := match st with
  | x :: r => (match y_nn G x with
    | none => none
    | some w => (match y_kd G w, y_len G w with
      | some kd, some q => bif Nat.ble 20 kd then o_nx lv (q.1 :: r) q.2 else none
      | _, _ => none))
  | _ => none
noncomputable def y_mk (G : SG) (o : SO) (n : Nat) : SG := upU (upH G (g_h G ++ [o])) (g_u G + n) (g_q G + 1)
noncomputable def y_dv (k : Nat) : TY := bif Nat.beq k 21 then (1, 0, 0) else (0, 2147483648, 2147483648)
noncomputable def Y_newa (k : Nat) (lv : SLV) (st : List SV) (G : SG) : Option (List SOUT) := match st with
  | x :: r => bif isI x then (let p := itv G x
    bif Nat.beq p.1 p.2 && (Nat.ble 2147483648 p.1 && Nat.ble p.1 2207483648) then o_nx lv ((5, (g_h G).length, 0) :: r) (y_mk G (k, bif Nat.ble 20 k && Nat.ble k 23 then .inl (p.1 - 2147483648, y_dv k) else .inr (List.replicate (p.1 - 2147483648) snull)) (p.1 - 2147483648)) else none) else none
  | _ => none
noncomputable def s_obj (k : Nat) : List SV := (kfl.getD k []).map (fun f => if dcode f.2.2.1 = 3 then snull else sk 2147483648)
noncomputable def Y_cast (k : Nat) (lv : SLV) (st : List SV) (G : SG) : Option (List SOUT) := match st with
  | x :: r => (match y_nn G x with
    | none => none
    | some w => (match y_kd G w with
      | some k' => bif Nat.beq k' k && Nat.ble k 29 then o_nx lv (x :: r) G else none
      | none => none))
  | _ => none
noncomputable def y_sum (G : SG) (j n : SV) (len : Nat) : Bool := let a := lf_of G j; let b := lf_of G n; lchk (g_e G) (g_f G) 2 (lnorm (a.1 ++ b.1, a.2.1 ++ b.2.1, a.2.2.1 + b.2.2.1, a.2.2.2 + b.2.2.2 + 4294967296 + len))
noncomputable def c_del (c : Nat) (l : List CE) : List CE := match l with
  | [] => []
  | q :: r => bif (Nat.beq q.1 c && Nat.ble q.2.2.1.1 7) || (Nat.ble 10 q.2.2.1.1 && (pxK q.2.2.1.1 q.1).any (fun a => Nat.beq (a / 128) c)) then c_del c r else q :: c_del c r
noncomputable def Y_acp (lv : SLV) (st : List SV) (G : SG) : Option (List SOUT) := match st with
  | n :: j :: y0 :: i :: x0 :: r => bif isI n && (isI j && isI i) then (match y_nn G x0, y_nn G y0 with
    | some x, some y => bif isT x && isT y then
      (bif ((Nat.beq (cdk x.2.1) 20 && Nat.beq (cdk y.2.1) 20) && (Nat.ble (cdm x.2.1) 999999 && Nat.ble (cdm y.2.1) 999999)) && ((y_le G (sk 2147483648) n 0 2 && (y_le G (sk 2147483648) j 0 2 && y_le G (sk 2147483648) i 0 2)) && ((y_sum G i n (cdm x.2.1 - 1) && y_sum G j n (cdm y.2.1 - 1)) && (Nat.ble (S_w r) 8 && ((List.range (g_p G)).all (fun t => (cp_at t).2.1.all (fun m => !(Nat.beq m.1 y.2.1))))))) then
        (match (cd x.2.1).2.2, (cd y.2.1).2.2 with
        | [t], [u] => bif (Nat.beq t.1 0 && Nat.beq u.1 0) && (Nat.ble u.2.1 t.2.1 && Nat.ble t.2.2 u.2.2) then o_nx lv r (upX (upC G (c_del y.2.1 (g_c G))) (g_x G) (y.2.1 * 128 :: g_k G)) else none
        | _, _ => none) else none)
      else none
    | _, _ => none) else none
  | _ => none
noncomputable def Y_oinit (lv : SLV) (st : List SV) (G : SG) : Option (List SOUT) := match st with
  | x :: r => bif Nat.beq x.1 5 && Nat.ble (S_w r) 8 then o_nx lv r G else none
  | _ => none
noncomputable def Y_clone (lv : SLV) (st : List SV) (G : SG) : Option (List SOUT) := match st with
  | x :: r => bif (isT x && Nat.beq (cdk x.2.1) 30) && (Nat.ble 2147483648 (itv G (y_idx x)).1 && (Nat.ble (S_w r) 8 && Nat.ble (cdm x.2.1) 999999)) then (match (cd x.2.1).2.2 with
    | [t] => bif Nat.beq t.1 0 && Nat.ble 1 (cdm x.2.1) then o_nx lv ((5, (g_h G).length, 0) :: r) (y_mk G (20, .inl (cdm x.2.1 - 1, t)) (cdm x.2.1 - 1)) else none
    | _ => none) else none
  | _ => none
noncomputable def y_mm (a : Nat) (x y : SV) (G : SG) : Option (SV × SG) := let p := itv G x; let q := itv G y
  bif veq x y then some (x, G)
  else bif Nat.beq a 0 then (bif Nat.ble q.2 p.1 then some (x, G) else bif Nat.ble p.2 q.1 then some (y, G) else
    (let m := y_memo 40 x y 1 (nmax p.1 q.1) (nmax p.2 q.2) none G; match y_fact m.2 x m.1 0 with
      | some G1 => (match y_fact G1 y m.1 0 with | some G2 => some (m.1, G2) | none => none)
      | none => none))
  else bif Nat.beq a 1 then (bif Nat.ble p.2 q.1 then some (x, G) else bif Nat.ble q.2 p.1 then some (y, G) else
    (let m := y_memo 41 x y 1 (nmin p.1 q.1) (nmin p.2 q.2) none G; match y_fact m.2 m.1 x 0 with
      | some G1 => (match y_fact G1 m.1 y 0 with | some G2 => some (m.1, G2) | none => none)
      | none => none))
  else none
/-- the greatest, the least, the absolute, by cases -/
noncomputable def mf_abs (lv : SLV) (r : List SV) (x : SV) (l : List (Bool × SG)) : Option (List SOUT) := match l with
  | [] => some []
  | q :: t => (match (bif q.1 then y_bin 1 (sk 2147483648) x q.2 else some (x, q.2)) with
    | none => none
    | some p => (match mf_abs lv r x t with
      | none => none
      | some o => some (.inl (none, lv, p.1 :: r, p.2) :: o)))
noncomputable def Y_mathF (a : Nat) (lv : SLV) (st : List SV) (G : SG) : Option (List SOUT) := bif Nat.beq a 2 then (match st with
    | x :: r => bif isI x && Nat.ble (S_w r) 8 then mf_abs lv r x (y_lt G x (sk 2147483648) true false) else none
    | _ => none)
  else (match st with
    | y :: x :: r => bif (isI x && isI y) && Nat.ble (S_w r) 8 then some ((y_lt G x y true false).map (fun q => .inl (none, lv, (bif Nat.beq a 0 then (bif q.1 then y else x) else (bif q.1 then x else y)) :: r, q.2))) else none
    | _ => none)
noncomputable def Y_math0 (a : Nat) (lv : SLV) (st : List SV) (G : SG) : Option (List SOUT) := bif Nat.beq a 2 then (match st with
    | x :: r => bif isI x && Nat.ble (S_w r) 8 then (let p := itv G x
      bif Nat.ble 2147483648 p.1 then o_nx lv (x :: r) G
      else bif Nat.ble 1 p.1 then o_nx lv ((y_memo 42 x snull 1 2147483648 (nmax p.2 (4294967296 - p.1)) none G).1 :: r) (y_memo 42 x snull 1 2147483648 (nmax p.2 (4294967296 - p.1)) none G).2
      else o_nx lv ((y_memo 42 x snull 1 0 4294967295 none G).1 :: r) (y_memo 42 x snull 1 0 4294967295 none G).2) else none
    | _ => none)
  else (match st with
    | y :: x :: r => bif (isI x && isI y) && Nat.ble (S_w r) 8 then (match y_mm a x y G with
      | some q => o_nx lv (q.1 :: r) q.2
      | none => none) else none
    | _ => none)
noncomputable def Y_math (a : Nat) (lv : SLV) (st : List SV) (G : SG) : Option (List SOUT) := bif mfork then Y_mathF a lv st G else Y_math0 a lv st G
noncomputable def ystep (ai : AI) (lv : SLV) (st : List SV) (G : SG) : Option (List SOUT) := bif Nat.ble ai.1 32 then (bif Nat.ble ai.1 16 then (bif Nat.ble ai.1 8 then (bif Nat.ble ai.1 4 then (bif Nat.ble ai.1 2 then (bif Nat.ble ai.1 1 then (bif Nat.ble ai.1 0 then (o_nx lv (sk (zi ai.2.2) :: st) G) else (Y_load ai.2.1 ai.2.2 lv st G)) else (Y_store ai.2.1 ai.2.2 lv st G)) else (bif Nat.ble ai.1 3 then (Y_iinc ai.2.1 ai.2.2 lv st G) else (Y_ibin ai.2.1 lv st G))) else (bif Nat.ble ai.1 6 then (bif Nat.ble ai.1 5 then (Y_icmp ai.2.1 ai.2.2 lv st G) else (Y_if ai.2.1 ai.2.2 lv st G)) else (bif Nat.ble ai.1 7 then (o_jp ai.2.2 lv st G) else (Y_get ai.2.1 lv st G)))) else (bif Nat.ble ai.1 12 then (bif Nat.ble ai.1 10 then (bif Nat.ble ai.1 9 then (Y_put ai.2.1 lv st G) else (Y_ald ai.2.1 lv st G)) else (bif Nat.ble ai.1 11 then (Y_ast ai.2.1 lv st G) else (Y_call ai.2.1 st G))) else (bif Nat.ble ai.1 14 then (bif Nat.ble ai.1 13 then (Y_ret ai.2.1 st G) else (o_nx lv ((2, zl ai.2.2, 0) :: st) G)) else (bif Nat.ble ai.1 15 then (Y_lbin ai.2.1 lv st G) else (Y_conv ai.2.1 lv st G))))) else (bif Nat.ble ai.1 24 then (bif Nat.ble ai.1 20 then (bif Nat.ble ai.1 18 then (bif Nat.ble ai.1 17 then (Y_lcmp lv st G) else (Y_stk ai.2.1 lv st G)) else (bif Nat.ble ai.1 19 then (o_nx lv (snull :: st) G) else (Y_null ai.2.1 ai.2.2 lv st G))) else (bif Nat.ble ai.1 22 then (bif Nat.ble ai.1 21 then (Y_acmp ai.2.1 ai.2.2 lv st G) else (Y_sw ai.2.1 lv st G)) else (bif Nat.ble ai.1 23 then (Y_len lv st G) else (Y_newa ai.2.1 lv st G)))) else (bif Nat.ble ai.1 28 then (bif Nat.ble ai.1 26 then (bif Nat.ble ai.1 25 then (Y_newa ai.2.1 lv st G) else (o_nx lv ((5, (g_h G).length, 0) :: st) (y_mk G (ai.2.1, .inr (s_obj ai.2.1)) (kNn ai.2.1)))) else (bif Nat.ble ai.1 27 then (o_nx lv ((7, stc ai.2.1, 2147483648) :: st) G) else (Y_cast ai.2.1 lv st G))) else (bif Nat.ble ai.1 30 then (bif Nat.ble ai.1 29 then (Y_acp lv st G) else (Y_oinit lv st G)) else (bif Nat.ble ai.1 31 then (Y_clone lv st G) else (Y_math ai.2.1 lv st G)))))) else none
