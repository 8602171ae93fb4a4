/-! ===== classes, cells, couplings ===== -/
abbrev CD : Type := Nat × Nat × List TY
noncomputable def cd (c : Nat) : CD := (ctt.getD (c / 16) []).getD (c % 16) (99, 0, [])
noncomputable def cdk (c : Nat) : Nat := (cd c).1
noncomputable def cdm (c : Nat) : Nat := (cd c).2.1
/-- the type of a place of a class -/
noncomputable def y_ty (c : Nat) (j : SV) : Option TY := bif Nat.beq (cdm c) 0 then (bif Nat.beq j.1 0 && Nat.ble 2147483648 j.2.1 then (cd c).2.2[j.2.1 - 2147483648]? else none) else (bif isI j then (cd c).2.2.head? else none)
noncomputable def y_code (c : Nat) (j : SV) : Nat := bif Nat.beq (cdm c) 0 then c * 128 + (j.2.1 - 2147483648) else c * 128
noncomputable def y_sdiff (G : SG) (a b : SV) : Bool := let p := itv G a; let q := itv G b; bif Nat.ble (p.2 + 1) q.1 || Nat.ble (q.2 + 1) p.1 then true else bif y_le G a b 1 1 then true else y_le G b a 1 1
noncomputable def c_find (c : Nat) (i j : SV) (l : List CE) : Option SV := match l with
  | [] => none
  | q :: r => bif Nat.beq q.1 c && (veq q.2.1 i && veq q.2.2.1 j) then some q.2.2.2 else c_find c i j r
noncomputable def y_find (G : SG) (c : Nat) (i j : SV) : Option SV := c_find c i j (g_c G)
noncomputable def y_put (G : SG) (c : Nat) (i j v : SV) : SG := upC G ((c, i, j, v) :: g_c G)
noncomputable def y_new (G : SG) (lo hi : Nat) : SV × SG := bif Nat.beq lo hi then (sk lo, G) else ((1, g_n G, 0), y_fresh G lo hi)
noncomputable def lnew (G : SG) : SV × SG := ((3, g_n G, 0), y_fresh G 0 18446744073709551615)
/-- a place whose cell isn't known is read by its type -/
noncomputable def y_plain (G : SG) (c : Nat) (i j : SV) (ty : TY) : Option (List (SV × SG)) :=
  bif Nat.beq ty.1 0 then some [((y_new G ty.2.1 ty.2.2).1, y_put (y_new G ty.2.1 ty.2.2).2 c i j (y_new G ty.2.1 ty.2.2).1)]
  else bif Nat.beq ty.1 1 then some [((lnew G).1, y_put (lnew G).2 c i j (lnew G).1)]
  else bif Nat.beq ty.1 2 then some [((6, ty.2.1, g_n G), y_put (y_fresh G 2147483647 2148532224) c i j (6, ty.2.1, g_n G))]
  else bif Nat.beq ty.1 3 then some [((6, ty.2.1, g_n G), y_put (y_fresh G 2147483648 2148532224) c i j (6, ty.2.1, g_n G))]
  else bif Nat.beq ty.1 4 then some [(y_ref ty.2.1 i, G)]
  else bif Nat.beq ty.1 5 then some [(snull, y_put G c i j snull), (y_ref ty.2.1 i, y_put G c i j (y_ref ty.2.1 i))]
  else bif Nat.beq ty.1 6 then some [(y_ref ty.2.1 j, G)]
  else bif Nat.beq ty.1 7 then some [((7, ty.2.1, 2147483648), G)]
  else none
noncomputable def cp_at (t : Nat) : CPL := cpt.getD t (0, [], [], [])
/-- the index by which a place stands in a coupling -/
noncomputable def cst (j : SV) (q : Nat) : Bool := Nat.beq j.1 0 && Nat.beq j.2.1 q
noncomputable def cp_mem (l : List (Nat × Nat × Nat)) (c : Nat) (i j : SV) : Option SV := match l with
  | [] => none
  | m :: r => bif Nat.beq m.1 c then (bif Nat.beq m.2.1 0 then (bif cst j m.2.2 then some i else cp_mem r c i j) else (bif cst i m.2.2 then some j else cp_mem r c i j)) else cp_mem r c i j
/-- coupled rows are named by numbers -/
noncomputable def cp_cst (np c : Nat) (i : SV) : Bool := (List.range np).all (fun t => (cp_at t).2.1.all (fun m => !(Nat.beq m.1 c) || (Nat.beq m.2.1 0 || Nat.beq i.1 0)))
noncomputable def cp_place (m : Nat × Nat × Nat) (e : SV) : Nat × SV × SV := bif Nat.beq m.2.1 0 then (m.1, e, sk m.2.2) else (m.1, sk m.2.2, e)
noncomputable def x_free (G : SG) (t : Nat) (e : SV) (X : List (Nat × SV)) : Bool := match X with
  | [] => true
  | q :: r => bif Nat.beq q.1 t then (bif y_sdiff G e q.2 then x_free G t e r else false) else x_free G t e r
noncomputable def cnt_of (G : SG) (c : Nat) : Option SV := y_find G c (sk 2147483648) (8, 0, 0)
noncomputable def v_find (g : Nat) (l : List (Nat × SV)) : Option SV := match l with
  | [] => none
  | q :: r => bif Nat.beq q.1 g then some q.2 else v_find g r
/-- the class that a coupled place refers to -/
noncomputable def tgc (m : Nat × Nat × Nat) : Nat := match (bif Nat.beq m.2.1 0 then (cd m.1).2.2[m.2.2 - 2147483648]? else (cd m.1).2.2.head?) with
  | some t => bif Nat.beq t.1 2 || (Nat.beq t.1 3 || Nat.beq t.1 5) then t.2.1 else 0
  | none => 0
/-- entries of a case: below 100 an int of the group's number; 100 + g a reference to the object with that number; 200 + g to that with the number before; 300 null; 400 the object with the coupling's own number; 600 an int, the own number; above: nothing is said -/
noncomputable def en_off (d : Nat × Nat × Nat) : Nat := bif Nat.ble d.1 199 then 0 else 1
noncomputable def gs_add (g : Nat) (v : SV) (gs : List (Nat × SV)) : List (Nat × SV) := match v_find g gs with
  | some _ => gs
  | none => (g, v) :: gs
noncomputable def nnT (G : SG) (v : SV) : Bool := isT v && Nat.ble 2147483648 (itv G (y_idx v)).1
/-- what the known cells say of the groups of one case; none: the case can't be -/
noncomputable def mt_known (all : Bool) (e : SV) (G : SG) (gs : List (Nat × SV)) (ms : List (Nat × Nat × Nat)) (ds : List (Nat × Nat × Nat)) : Option (SG × List (Nat × SV)) := match ms, ds with
  | m :: ms, d :: ds => bif all || Nat.beq m.2.1 1 then (let pl := cp_place m e; match y_find G pl.1 pl.2.1 pl.2.2 with
      | none => mt_known all e G gs ms ds
      | some v => bif Nat.ble d.1 99 then (let p := itv G v; bif Nat.ble (p.2 + 1) d.2.1 || Nat.ble (d.2.2 + 1) p.1 then none else
          mt_known all e (y_know G v (nmax p.1 d.2.1) (nmin p.2 d.2.2)) (gs_add d.1 v gs) ms ds)
        else bif Nat.ble d.1 299 then (bif Nat.beq v.1 4 then none else bif nnT G v then (let u := y_idx v; let p := itv G u; let o := en_off d
            bif Nat.ble (p.2 + o + 1) d.2.1 || Nat.ble (d.2.2 + 1) (p.1 + o) then none else
            mt_known all e (y_know G u (nmax p.1 (d.2.1 - o)) (nmin p.2 (d.2.2 - o))) (bif Nat.beq o 0 then gs_add (d.1 % 100) u gs else gs) ms ds)
          else mt_known all e G gs ms ds)
        else bif Nat.beq d.1 300 then (bif nnT G v then none else mt_known all e G gs ms ds)
        else bif Nat.beq d.1 400 then (bif Nat.beq v.1 4 then none else mt_known all e G gs ms ds)
        else mt_known all e G gs ms ds)
    else mt_known all e G gs ms ds
  | _, _ => some (G, gs)
/-- an object that is there is below the count of its class -/
noncomputable def y_cntf (G : SG) (c : Nat) (u : SV) : SG := match cnt_of G c with
  | some n => (match y_fact G u n 1 with
    | some G2 => G2
    | none => G)
  | none => G
/-- a place's value out of its group's number -/
noncomputable def en_val (G : SG) (m d : Nat × Nat × Nat) (v : SV) : SV × SG := bif Nat.ble d.1 99 then (v, G)
  else bif Nat.ble d.1 199 then (y_ref (tgc m) v, y_cntf G (tgc m) v)
  else (match y_bin 1 v (sk 2147483649) G with
    | some q => (y_ref (tgc m) q.1, y_cntf q.2 (tgc m) q.1)
    | none => (v, G))
noncomputable def mt_rest (all : Bool) (e : SV) (G : SG) (gs : List (Nat × SV)) (ms : List (Nat × Nat × Nat)) (ds : List (Nat × Nat × Nat)) : SG := match ms, ds with
  | m :: ms, d :: ds => bif all || Nat.beq m.2.1 1 then (let pl := cp_place m e; match y_find G pl.1 pl.2.1 pl.2.2 with
      | some _ => mt_rest all e G gs ms ds
      | none => bif Nat.ble d.1 299 then (match v_find (d.1 % 100) gs with
          | some v => mt_rest all e (y_put (en_val G m d v).2 pl.1 pl.2.1 pl.2.2 (en_val G m d v).1) gs ms ds
          | none => (let w := y_new G d.2.1 d.2.2; mt_rest all e (y_put (en_val w.2 m d w.1).2 pl.1 pl.2.1 pl.2.2 (en_val w.2 m d w.1).1) ((d.1 % 100, w.1) :: gs) ms ds))
        else bif Nat.beq d.1 300 then mt_rest all e (y_put G pl.1 pl.2.1 pl.2.2 snull) gs ms ds
        else bif Nat.beq d.1 400 then mt_rest all e (y_put G pl.1 pl.2.1 pl.2.2 (y_ref (tgc m) e)) gs ms ds
        else bif Nat.beq d.1 600 then mt_rest all e (y_put G pl.1 pl.2.1 pl.2.2 e) gs ms ds
        else mt_rest all e G gs ms ds)
    else mt_rest all e G gs ms ds
  | _, _ => G
noncomputable def mt_all (all : Bool) (e : SV) (G : SG) (ms : List (Nat × Nat × Nat)) (dd : List (List (Nat × Nat × Nat))) : List SG := match dd with
  | [] => []
  | d :: r => (match mt_known all e G [] ms d with
    | none => mt_all all e G ms r
    | some q => mt_rest all e q.1 q.2 ms d :: mt_all all e G ms r)
/-- is the index inside the bound of a coupling: 1 yes, 0 no, 2 not known -/
noncomputable def cp_in (G : SG) (lim c : Nat) (e : SV) : Nat :=
  bif Nat.beq lim 0 then 1 else bif Nat.beq lim (c + 1) then 1 else (match cnt_of G (lim - 1) with
    | none => 2
    | some n => bif y_le G e n 1 2 then 1 else bif y_le G n e 0 2 then 0 else 2)
noncomputable def rd_out (c : Nat) (i j : SV) (l : List SG) : Option (List (SV × SG)) := match l with
  | [] => some []
  | G :: r => (match y_find G c i j, rd_out c i j r with
    | some v, some o => some ((v, G) :: o)
    | _, _ => none)
noncomputable def rd_cp (G : SG) (c : Nat) (i j : SV) (ty : TY) (ts : List Nat) : Option (List (SV × SG)) := match ts with
  | [] => y_plain G c i j ty
  | t :: r => (match cp_mem (cp_at t).2.1 c i j with
    | none => rd_cp G c i j ty r
    | some e => bif x_free G t e (g_x G) then (let b := cp_in G (cp_at t).1 c e
        bif Nat.beq b 1 then rd_out c i j (mt_all true e G (cp_at t).2.1 (cp_at t).2.2.1)
        else bif Nat.beq b 0 then rd_out c i j (mt_all false e G (cp_at t).2.1 (cp_at t).2.2.2)
        else rd_cp G c i j ty r)
      else rd_cp G c i j ty r)
noncomputable def y_read (G : SG) (c : Nat) (i j : SV) : Option (List (SV × SG)) := match y_find G c i j with
  | some v => some [(v, G)]
  | none => (match y_ty c j with
    | none => none
    | some ty => bif Nat.beq ty.1 0 || (Nat.beq ty.1 2 || (Nat.beq ty.1 3 || Nat.beq ty.1 5)) then rd_cp G c i j ty (List.range (g_p G)) else y_plain G c i j ty)
noncomputable def y_fitI (G : SG) (v : SV) (lo hi : Nat) : Bool := let p := itv G v; (bif Nat.ble lo p.1 then true else y_le G (sk lo) v 0 2) && (bif Nat.ble p.2 hi then true else y_le G v (sk hi) 0 2)
noncomputable def y_fwd (G : SG) (v : SV) : SV := bif Nat.beq v.1 5 then (match (g_h G)[v.2.1]? with
  | some (kd, .inr (w :: _)) => bif Nat.beq kd 99 then w else v
  | _ => v) else v
/-- the day, the kerb's borough, the class's law, the model's holidays -/
noncomputable def wdK : List Nat := [1408, 6144, 2304, 6016]
/-- the places that a cell with a tag from 10 on hangs on -/
noncomputable def pxK (tag c : Nat) : List Nat := bif Nat.beq tag 10 then ffK else bif Nat.beq tag 15 then wdK else [c * 128]
noncomputable def px_in (q : CE) (k : List Nat) : Bool := Nat.ble 10 q.2.2.1.1 && (pxK q.2.2.1.1 q.1).any (fun a => nmem a k)
noncomputable def cell_del (G : SG) (c : Nat) (i j : SV) (l : List CE) : List CE := match l with
  | [] => []
  | q :: r => bif (Nat.beq q.1 c && (Nat.ble q.2.2.1.1 7 && !(y_sdiff G q.2.1 i || y_sdiff G q.2.2.1 j))) || px_in q [y_code c j] then cell_del G c i j r else q :: cell_del G c i j r
noncomputable def x_add (t : Nat) (e : SV) (X : List (Nat × SV)) : List (Nat × SV) := (t, e) :: X
noncomputable def x_open (c : Nat) (i j : SV) (X : List (Nat × SV)) (ts : List Nat) : List (Nat × SV) := match ts with
  | [] => X
  | t :: r => (match cp_mem (cp_at t).2.1 c i j with
    | none => x_open c i j X r
    | some e => x_open c i j ((t, e) :: X) r)
/-- a place has a new value that fits its type -/
noncomputable def y_set (G : SG) (c : Nat) (i j v : SV) : SG := upX (upC G ((c, i, j, v) :: cell_del G c i j (g_c G))) (x_open c i j (g_x G) (List.range (g_p G))) (y_code c j :: g_k G)
/-- publishing -/
noncomputable def fitU (t ty : TY) : Bool := Nat.beq t.1 ty.1 && (Nat.beq t.1 1 || (Nat.beq t.1 0 && (Nat.ble ty.2.1 t.2.1 && Nat.ble t.2.2 ty.2.2)))
noncomputable def pb_ok (G : SG) (w : SV) (ty : TY) : Bool :=
  bif Nat.beq ty.1 0 then isI w && y_fitI G w ty.2.1 ty.2.2
  else bif Nat.beq ty.1 2 then (bif Nat.beq w.1 4 then true else isT w && Nat.beq w.2.1 ty.2.1)
  else bif Nat.beq ty.1 3 then (isT w && Nat.beq w.2.1 ty.2.1) && Nat.ble 2147483648 (itv G (y_idx w)).1
  else bif Nat.beq ty.1 4 then Nat.beq w.1 5 && (match (g_h G)[w.2.1]? with
    | some (kd, .inl q) => (match (cd ty.2.1).2.2 with
      | [t] => (Nat.beq kd (cdk ty.2.1) && Nat.ble kd 29) && (Nat.beq (q.1 + 1) (cdm ty.2.1) && (fitU q.2 t && Nat.ble (cdm ty.2.1) 999999))
      | _ => false)
    | _ => false)
  else bif Nat.beq ty.1 5 then Nat.beq w.1 4 else false
noncomputable def pb_chk (G : SG) (ts : List TY) (l : List SV) : Bool := match ts, l with
  | [], [] => true
  | t :: ts, v :: l => bif pb_ok G (y_fwd G v) t then pb_chk G ts l else false
  | _, _ => false
noncomputable def pb_cells (G : SG) (c : Nat) (e : SV) (f : Nat) (ts : List TY) (l : List SV) (C : List CE) : List CE := match ts, l with
  | t :: ts, v :: l => bif Nat.beq t.1 4 then pb_cells G c e (f + 1) ts l C else pb_cells G c e (f + 1) ts l ((c, e, sk (f + 2147483648), y_fwd G v) :: C)
  | _, _ => C
/-- the rows that come with an object: class, which -/
noncomputable def pb_own (ts : List TY) (l : List SV) : List (Nat × Nat) := match ts, l with
  | t :: ts, v :: l => bif Nat.beq t.1 4 then (t.2.1, v.2.1) :: pb_own ts l else pb_own ts l
  | _, _ => []
noncomputable def pb_h (e : SV) (o : List (Nat × Nat)) (H : List SO) : List SO := match o with
  | [] => H
  | q :: r => pb_h e r (H.set q.2 (99, .inr [y_ref q.1 e]))
/-- numbers and classes are all different -/
noncomputable def pb_dis (o : List (Nat × Nat)) : Bool := match o with
  | [] => true
  | q :: r => bif r.any (fun p => Nat.beq p.1 q.1 || Nat.beq p.2 q.2) then false else pb_dis r
/-- the couplings that a new object of a class comes into -/
noncomputable def pb_cps (c : Nat) (e : SV) (G : SG) (ts : List Nat) : Option SG := match ts with
  | [] => some G
  | t :: r => bif Nat.beq (cp_at t).1 (c + 1) then (match (bif x_free G t e (g_x G) && (cp_at t).2.1.any (fun m => Nat.beq m.2.1 1 && (Nat.beq m.2.2 2147483648 && (Nat.ble (cdm m.1) 999999 && (Nat.ble ((itv G e).2 + 2) (2147483648 + cdm m.1) && sgl m.1)))) then mt_all false e G (cp_at t).2.1 (cp_at t).2.2.2 else []) with
      | [G2] => (match pb_cps c e G2 r with
        | some G3 => some (upX G3 ((t, e) :: g_x G3) (g_k G3))
        | none => none)
      | _ => none)
    else pb_cps c e G r
noncomputable def cnt_del (c : Nat) (l : List CE) : List CE := match l with
  | [] => []
  | q :: r => bif Nat.beq q.1 c && Nat.beq q.2.2.1.1 8 then cnt_del c r else q :: cnt_del c r
noncomputable def cnt_dels (o : List (Nat × Nat)) (C : List CE) : List CE := match o with
  | [] => C
  | q :: r => cnt_dels r (cnt_del q.1 C)
/-- of all classes but one none owns objects of class a -/
noncomputable def own_by (a c0 : Nat) : Bool := (List.range 200).all (fun c => bif Nat.beq c c0 then true else (cd c).2.2.all (fun t => !((Nat.beq t.1 4 || Nat.beq t.1 5) && Nat.beq t.2.1 a)))
noncomputable def t5_ok (a q : Nat) (p : Nat) (ts : List TY) : Bool := match ts with
  | [] => true
  | t :: r => bif (bif Nat.beq t.1 5 && Nat.beq t.2.1 a then Nat.beq p q else true) then t5_ok a q (p + 1) r else false
noncomputable def n5x (a c5 p5 : Nat) : Bool := (List.range 200).all (fun c => t5_ok a (bif Nat.beq c c5 then p5 else 99999) 0 (cd c).2.2)
noncomputable def in_o (a : Nat) (o : List (Nat × Nat)) : Bool := o.any (fun q => Nat.beq q.1 a)
/-- a row of a coupling has the place already -/
noncomputable def cp_rw (hi : Nat) (ms : List (Nat × Nat × Nat)) : Bool := ms.any (fun m => Nat.beq m.2.1 1 && (Nat.beq m.2.2 2147483648 && (Nat.ble (cdm m.1) 999999 && (Nat.ble (hi + 2) (2147483648 + cdm m.1) && sgl m.1))))
noncomputable def cp_pub (np c hi : Nat) (o : List (Nat × Nat)) : Bool := (List.range np).all (fun t => (cp_at t).2.1.all (fun m => bif in_o m.1 o then Nat.beq m.2.1 0 && ((Nat.beq (m.1 + 1) (cp_at t).1 && Nat.beq m.1 c) || cp_rw hi (cp_at t).2.1) else true) && (bif Nat.beq (cp_at t).1 0 then true else bif in_o ((cp_at t).1 - 1) o then Nat.beq (cp_at t).1 (c + 1) else true))
/-- object k becomes the one of class c with index e; ow: the class that owns it (1000: none), op: where -/
noncomputable def y_pub0 (G : SG) (k c : Nat) (e : SV) (ow op : Nat) : Option SG := match (g_h G)[k]? with
  | some (kd, .inr l) => bif ((Nat.beq kd (cdk c) && Nat.ble kd 11) && (Nat.beq (cdm c) 0 && (Nat.ble c 199 && isI e))) && (Nat.ble (itv G e).2 2148532223 && Nat.ble 2147483648 (itv G e).1) then
      (match pb_cps c e G (List.range (g_p G)) with
      | none => none
      | some G1 => (let ts := (cd c).2.2; let w := pb_own ts l; let o := (c, k) :: w
        bif (pb_chk G1 ts l && pb_dis o) && ((own_by c ow && n5x c ow op) && (w.all (fun q => own_by q.1 c && n5x q.1 1000 0) && cp_pub (g_p G) c (itv G1 e).2 o)) then
          (let G2 := upC (upH G1 (pb_h e o (g_h G1))) (cnt_dels o (pb_cells G1 c e 0 ts l (g_c G1)))
          match cnt_of G1 c with
          | none => some G2
          | some n => bif veq n e then (match y_bin 0 n (sk 2147483649) G2 with
            | none => none
            | some q => some (y_put q.2 c (sk 2147483648) (8, 0, 0) q.1)) else none)
        else none))
    else none
  | _ => none
/-- rows of one number, published with their owner -/
noncomputable def row_c (H : List SO) (e : SV) (ts : List TY) (l : List SV) (G : SG) : SG := match ts, l with
  | t :: ts, v :: l => row_c H e ts l (bif Nat.beq t.1 4 && Nat.beq v.1 5 then (match H[v.2.1]? with
      | some (_, .inl q) => bif Nat.beq q.2.1 0 && Nat.beq q.2.2.1 q.2.2.2 then y_put G t.2.1 e (11, 0, 0) (sk q.2.2.1) else G
      | _ => G) else G)
  | _, _ => G
noncomputable def y_pub (G : SG) (k c : Nat) (e : SV) (ow op : Nat) : Option SG := match y_pub0 G k c e ow op with
  | none => none
  | some G2 => (match (g_h G)[k]? with
    | some (_, .inr l) => some (row_c (g_h G) e (cd c).2.2 l G2)
    | _ => some G2)
noncomputable def y_write (G : SG) (c : Nat) (i j v : SV) : Option SG :=
  bif Nat.ble (cdk c) 29 && cp_cst (g_p G) c i then (match y_ty c j with
    | none => none
    | some ty => (let w := y_fwd G v
      bif Nat.beq ty.1 0 then (bif isI w && y_fitI G w ty.2.1 ty.2.2 then some (y_set G c i j w) else none)
      else bif Nat.beq ty.1 1 then (bif isL w then some (y_set G c i j w) else none)
      else bif Nat.beq ty.1 2 then
        (bif Nat.beq w.1 5 then (match cnt_of G ty.2.1 with
          | none => none
          | some n => (match y_pub G w.2.1 ty.2.1 n 1000 0 with
            | none => none
            | some G2 => some (y_set G2 c i j (y_ref ty.2.1 n))))
        else bif Nat.beq w.1 4 || (isT w && Nat.beq w.2.1 ty.2.1) then some (y_set G c i j w) else none)
      else bif Nat.beq ty.1 3 then (bif (isT w && Nat.beq w.2.1 ty.2.1) && Nat.ble 2147483648 (itv G (y_idx w)).1 then some (y_set G c i j w) else none)
      else bif Nat.beq ty.1 5 then (match y_find G c i j with
        | some u => bif Nat.beq u.1 4 && Nat.beq w.1 5 then (match y_pub G w.2.1 ty.2.1 i c (j.2.1 - 2147483648) with
            | none => none
            | some G2 => some (y_set G2 c i j (y_ref ty.2.1 i)))
          else none
        | none => none)
      else none))
  else none
/-! closing couplings -/
noncomputable def grp1 (g : Nat) (ds : List (Nat × Nat × Nat)) : Nat := match ds with
  | [] => 0
  | d :: r => (bif Nat.beq (d.1 % 100) g then 1 else 0) + grp1 g r
noncomputable def y_same (G : SG) (v w : SV) : Bool := bif veq v w then true else (let p := itv G v; let q := itv G w; Nat.beq p.1 p.2 && (Nat.beq q.1 q.2 && Nat.beq p.1 q.1))
/-- the number and 1, if it has a name -/
noncomputable def mm_suc (G : SG) (u : SV) : Option SV := bif Nat.ble (itv G u).2 4294967294 then (bif Nat.beq (itv G u).1 (itv G u).2 then some (sk ((itv G u).1 + 1)) else (match s_def (g_d G) 0 u (sk 2147483649) with
  | some i => some (1, i, 0)
  | none => none)) else none
noncomputable def en_num (G : SG) (d : Nat × Nat × Nat) (v : SV) : Option SV := bif Nat.ble d.1 99 then (bif isI v then some v else none)
  else bif nnT G v then (bif Nat.ble d.1 199 then some (y_idx v) else mm_suc G (y_idx v)) else none
noncomputable def sat1 (all : Bool) (G : SG) (e : SV) (gs : List (Nat × SV)) (ms : List (Nat × Nat × Nat)) (ds : List (Nat × Nat × Nat)) : Bool := match ms, ds with
  | m :: ms, d :: ds => bif all || Nat.beq m.2.1 1 then (bif Nat.ble 601 d.1 then sat1 all G e gs ms ds else let pl := cp_place m e; match y_find G pl.1 pl.2.1 pl.2.2 with
      | some v => bif Nat.ble d.1 299 then (match en_num G d v with
          | none => false
          | some n => bif y_fitI G n d.2.1 d.2.2 && (Nat.ble d.1 99 || Nat.beq v.2.1 (tgc m)) then (match v_find (d.1 % 100) gs with
              | none => sat1 all G e ((d.1 % 100, n) :: gs) ms ds
              | some w => bif y_same G w n then sat1 all G e gs ms ds else false)
            else false)
        else bif Nat.beq d.1 300 then (bif Nat.beq v.1 4 then sat1 all G e gs ms ds else false)
        else bif Nat.beq d.1 400 then (bif nnT G v && (veq (y_idx v) e && Nat.beq v.2.1 (tgc m)) then sat1 all G e gs ms ds else false)
        else bif Nat.beq d.1 600 then (bif isI v && y_same G v e then sat1 all G e gs ms ds else false)
        else false
      | none => bif Nat.ble d.1 99 && (((Nat.beq m.2.1 1 && (Nat.beq m.2.2 2147483648 && sgl m.1)) && (Nat.beq (grp1 d.1 ds) 0 && (match v_find d.1 gs with | none => true | some _ => false))) && ((Nat.ble 2147483648 (itv G e).1 && (Nat.ble ((itv G e).2 + 2) (2147483648 + cdm m.1) && Nat.ble (cdm m.1) 999999)) && (match (cd m.1).2.2 with
            | [t] => Nat.beq t.1 0 && (Nat.ble d.2.1 t.2.1 && Nat.ble t.2.2 d.2.2)
            | _ => false))) then sat1 all G e gs ms ds else false)
    else sat1 all G e gs ms ds
  | _, _ => true
noncomputable def sats (all : Bool) (G : SG) (e : SV) (ms : List (Nat × Nat × Nat)) (dd : List (List (Nat × Nat × Nat))) : Bool := match dd with
  | [] => false
  | d :: r => bif sat1 all G e [] ms d then true else sats all G e ms r
noncomputable def x_done (G : SG) (t : Nat) (e : SV) : Bool :=
  bif sats true G e (cp_at t).2.1 (cp_at t).2.2.1 then true
  else bif Nat.beq (cp_at t).1 0 then false else (match cnt_of G ((cp_at t).1 - 1) with
    | none => false
    | some n => y_le G n e 0 2 && sats false G e (cp_at t).2.1 (cp_at t).2.2.2)
/-- or the same coupling under another name -/
noncomputable def x_done2 (G : SG) (X : List (Nat × SV)) (t : Nat) (e : SV) : Bool := bif x_done G t e then true else X.any (fun q => bif Nat.beq q.1 t && isI q.2 then (bif y_le G e q.2 0 2 && y_le G q.2 e 0 2 then x_done G t q.2 else false) else false)
noncomputable def x_rest (G : SG) (X0 : List (Nat × SV)) (X : List (Nat × SV)) : List (Nat × SV) := match X with
  | [] => []
  | q :: r => bif isI q.2 && x_done2 G X0 q.1 q.2 then x_rest G X0 r else q :: x_rest G X0 r
/-- open couplings that hold again are closed -/
noncomputable def y_close (G : SG) : SG := upX G (x_rest G (g_x G) (g_x G)) (g_k G)
/-- places of couplings behind the first: not to be touched behind our back -/
noncomputable def mcode (m : Nat × Nat × Nat) : Nat := bif Nat.beq m.2.1 0 then m.1 * 128 + (m.2.2 - 2147483648) else m.1 * 128
noncomputable def ncoupled (G : SG) (k : Nat) : Bool := (List.range (g_p G)).all (fun t => bif Nat.beq t 0 then true else (cp_at t).2.1.all (fun m => !(Nat.beq (mcode m) k)))
noncomputable def x_in (X : List (Nat × SV)) : Bool := match X with
  | [] => true
  | q :: r => bif Nat.beq q.1 0 then false else x_in r
