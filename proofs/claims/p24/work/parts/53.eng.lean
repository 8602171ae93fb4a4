/-! ===== the second symbolic machine: lists, loops, contracts, runs ===== -/
abbrev ST : Type := Nat × LC × SLV × SG × SLV × List SV
noncomputable def lst_of (c : Nat) (l : List (Nat × Nat × Nat × Nat)) : Option (Nat × Nat × Nat) := match l with
  | [] => none
  | q :: r => bif Nat.beq q.1 c then some q.2 else lst_of c r
/-- the list's own methods: size, isEmpty, get, add, clear -/
noncomputable def pr_get (el ident : Nat) (i : SV) (l : List (SV × SG)) : Option (List (Option SV × SG)) := match l with
  | [] => some []
  | q :: r => bif isI i && (y_le q.2 (sk 2147483648) i 0 2 && y_le q.2 i q.1 1 2) then (match pr_get el ident i r with
      | some o => some ((bif Nat.beq ident 1 then (some (y_ref el i), q.2) else (some (6, el, g_n q.2), y_fresh q.2 2147483648 2148532224)) :: o)
      | none => none) else none
noncomputable def pr_add (c el ident : Nat) (v : SV) (l : List (SV × SG)) : Option (List (Option SV × SG)) := match l with
  | [] => some []
  | q :: r => (let x := y_fwd q.2 v
    match (bif Nat.beq x.1 5 then (match cnt_of q.2 el with
        | none => none
        | some n => bif Nat.beq ident 0 || veq n q.1 then y_pub q.2 x.2.1 el n 1000 0 else none)
      else bif isT x && Nat.beq x.2.1 el then (bif Nat.beq ident 0 then (bif Nat.ble 2147483648 (itv q.2 (y_idx x)).1 then some q.2 else none) else bif veq (y_idx x) q.1 then some q.2 else none) else none) with
    | none => none
    | some G2 => (match y_bin 0 q.1 (sk 2147483649) G2 with
      | none => none
      | some m => (match y_write (upC m.2 (c_del c (g_c m.2))) c (sk 2147483648) (sk 2147483650) m.1 with
        | none => none
        | some G3 => (match pr_add c el ident v r with
          | none => none
          | some o => some ((some (sk 2147483649), upX (upU G3 (g_u G3 + 128) (g_q G3 + 1)) (g_x G3) ((c * 128 + 1) :: c * 128 :: g_k G3)) :: o)))))
noncomputable def pr_size (l : List (SV × SG)) : List (Option SV × SG) := l.map (fun q => (some q.1, q.2))
noncomputable def pr_emp (l : List (SV × SG)) : List (Option SV × SG) := match l with
  | [] => []
  | q :: r => (y_eq q.2 q.1 (sk 2147483648) true false).map (fun b => (some (sk (bif b.1 then 2147483649 else 2147483648)), b.2)) ++ pr_emp r
noncomputable def prim (M : Nat) (as : List SV) (G : SG) : Option (Option (List (Option SV × SG))) := match as with
  | x :: as => bif Nat.beq M 2 || (Nat.beq M 3 || (Nat.beq M mAdd || (Nat.beq M mClear || Nat.beq M mEmpty))) then
      (bif Nat.beq x.1 7 && Nat.beq x.2.2 2147483648 then (match lst_of x.2.1 lstt with
        | none => none
        | some (el, ident, _) => some (bif Nat.beq M mClear then (match as with
            | [] => (match y_write (upC G (c_del x.2.1 (g_c G))) x.2.1 (sk 2147483648) (sk 2147483650) (sk 2147483648) with
              | some G2 => some [(none, upX G2 (g_x G2) ((x.2.1 * 128 + 1) :: x.2.1 * 128 :: g_k G2))]
              | none => none)
            | _ => none)
          else match y_read G x.2.1 (sk 2147483648) (sk 2147483650) with
            | none => none
            | some l => bif Nat.beq M 2 then (match as with | [] => some (pr_size l) | _ => none)
              else bif Nat.beq M 3 then (match as with | [i] => pr_get el ident i l | _ => none)
              else bif Nat.beq M mAdd then (match as with | [v] => pr_add x.2.1 el ident v l | _ => none)
              else (match as with | [] => some (pr_emp l) | _ => none)))
      else none)
    else none
  | [] => none
/-! places and numbers that certificates name -/
noncomputable def h_place (m f : Nat) (lv : SLV) : Nat × SV × SV := bif Nat.beq m 2 then (f, sk 2147483648, (8, 0, 0)) else bif Nat.beq m 0 then (f / 128, sk 2147483648, sk (2147483648 + f % 128)) else (match s_find 0 lv with
  | some v => (v.2.1, y_idx v, sk (2147483648 + f))
  | none => (0, sk 0, sk 0))
noncomputable def h_code (m f : Nat) (lv : SLV) : Nat := bif Nat.beq m 2 then f * 128 + 126 else let p := h_place m f lv; bif Nat.beq (cdm p.1) 0 then p.1 * 128 + (p.2.2.2.1 - 2147483648) else p.1 * 128
/-- is a place that a certificate names there -/
noncomputable def pl_chk (m f : Nat) (lv : SLV) (G : SG) : Bool :=
  bif Nat.beq m 0 then sgl (f / 128) && (bif Nat.beq (cdm (f / 128)) 0 then Nat.ble (f % 128 + 1) (cd (f / 128)).2.2.length else Nat.ble (cdm (f / 128)) 999999 && Nat.ble (f % 128 + 2) (cdm (f / 128)))
  else bif Nat.beq m 1 then (match s_find 0 lv with
    | some v => isT v && (Nat.ble 2147483648 (itv G (y_idx v)).1 && (Nat.beq (cdm v.2.1) 0 && Nat.ble (f + 1) (cd v.2.1).2.2.length))
    | none => false)
  else false
noncomputable def rd1 (G : SG) (c : Nat) (i j : SV) : Option (SV × SG) := match y_read G c i j with
  | some [q] => some q
  | _ => none
noncomputable def rds (lv : SLV) (G : SG) (l : List (Nat × Nat × Nat × Nat)) : Option (List SV × SG) := match l with
  | [] => some ([], G)
  | h :: r => (let p := h_place h.1 h.2.1 lv; match (bif pl_chk h.1 h.2.1 lv G then rd1 G p.1 p.2.1 p.2.2 else none) with
    | none => none
    | some q => bif isI q.1 && y_fitI q.2 q.1 h.2.2.1 h.2.2.2 then (match rds lv q.2 r with
      | none => none
      | some o => some (q.1 :: o.1, o.2)) else none)
noncomputable def ck_hav (G : SG) (lv : SLV) (l : List (Nat × Nat × Nat × Nat)) : Bool := match l with
  | [] => true
  | h :: r => (match s_find h.1 lv with
    | none => ck_hav G lv r
    | some v => bif (bif Nat.beq h.2.1 0 then isI v && y_fitI G v h.2.2.1 h.2.2.2 else isL v) then ck_hav G lv r else false)
noncomputable def lv_drop (d : List Nat) (lv : SLV) : SLV := match lv with
  | [] => []
  | q :: r => bif nmem q.1 d then lv_drop d r else q :: lv_drop d r
noncomputable def y_lvset (i : Nat) (v : SV) (lv : SLV) : SLV := match lv with
  | [] => []
  | q :: r => bif Nat.beq q.1 i then (i, v) :: r else q :: y_lvset i v r
noncomputable def gen_hav (lv : SLV) (G : SG) (l : List (Nat × Nat × Nat × Nat)) : SLV × SG := match l with
  | [] => (lv, G)
  | h :: r => (match s_find h.1 lv with
    | none => gen_hav lv G r
    | some _ => bif Nat.beq h.2.1 0 then gen_hav (y_lvset h.1 (1, g_n G, 0) lv) (y_fresh G h.2.2.1 h.2.2.2) r else gen_hav (y_lvset h.1 (3, g_n G, 0) lv) (y_fresh G 0 18446744073709551615) r)
noncomputable def c_code (q : CE) : Nat := bif Nat.beq (cdm q.1) 0 then q.1 * 128 + (q.2.2.1.2.1 - 2147483648) else q.1 * 128
noncomputable def c_kill (k : List Nat) (l : List CE) : List CE := match l with
  | [] => []
  | q :: r => bif (bif Nat.ble q.2.2.1.1 7 then (bif Nat.beq (cdm q.1) 0 && Nat.ble 1 q.2.2.1.1 then true else nmem (c_code q) k) else (Nat.beq q.2.2.1.1 9 && nmem (q.1 * 128) k) || px_in q k) then c_kill k r else q :: c_kill k r
noncomputable def gen_cells (lv : SLV) (G : SG) (l : List (Nat × Nat × Nat × Nat)) : SG := match l with
  | [] => G
  | h :: r => (let p := h_place h.1 h.2.1 lv; gen_cells lv (y_put (y_fresh G h.2.2.1 h.2.2.2) p.1 p.2.1 p.2.2 (1, g_n G, 0)) r)
/-- what a certificate's name stands for: 0 local, 1 local before, 2 cell, 3 cell before, 4 result, 5 number -/
noncomputable def rf_val (r : RF) (lv lv0 : SLV) (G : SG) (hc : List (Nat × Nat × Nat × Nat)) (c0 : List SV) (res : Option SV) : Option SV :=
  bif Nat.beq r.1 0 then s_find r.2 lv
  else bif Nat.beq r.1 1 then s_find r.2 lv0
  else bif Nat.beq r.1 2 then (match hc[r.2]? with | some h => (let p := h_place h.1 h.2.1 lv0; y_find G p.1 p.2.1 p.2.2) | none => none)
  else bif Nat.beq r.1 3 then c0[r.2]?
  else bif Nat.beq r.1 4 then res
  else bif Nat.beq r.1 5 then some (sk r.2) else none
noncomputable def intL (v : SV) : Bool := Nat.ble v.1 3
noncomputable def ck_rel (d : Nat) (lv lv0 : SLV) (G : SG) (hc : List (Nat × Nat × Nat × Nat)) (c0 : List SV) (res : Option SV) (l : List (RF × RF × Nat)) : Bool := match l with
  | [] => true
  | q :: r => (match rf_val q.1 lv lv0 G hc c0 res, rf_val q.2.1 lv lv0 G hc c0 res with
    | some x, some y => bif (intL x && intL y) && y_le G x y q.2.2 d then ck_rel d lv lv0 G hc c0 res r else false
    | _, _ => false)
noncomputable def add_rel (lv lv0 : SLV) (G : SG) (hc : List (Nat × Nat × Nat × Nat)) (c0 : List SV) (res : Option SV) (l : List (RF × RF × Nat)) : Option SG := match l with
  | [] => some G
  | q :: r => (match rf_val q.1 lv lv0 G hc c0 res, rf_val q.2.1 lv lv0 G hc c0 res with
    | some x, some y => bif intL x && intL y then (match y_fact G x y q.2.2 with
      | some G2 => add_rel lv lv0 G2 hc c0 res r
      | none => none) else none
    | _, _ => none)
noncomputable def k_add (k : List Nat) (l : List Nat) : List Nat := k ++ l
noncomputable def hv_dis (l : List (Nat × Nat × Nat × Nat)) : Bool := match l with
  | [] => true
  | q :: r => bif r.any (fun p => Nat.beq p.1 q.1) then false else hv_dis r
noncomputable def l_enter (L : LC) (lv : SLV) (G : SG) : Option ST :=
  let hav := L.2.1; let dr := L.2.2.1; let kill := L.2.2.2.1; let hc := L.2.2.2.2.1; let rel := L.2.2.2.2.2.1
  match rds lv (y_close G) hc with
  | none => none
  | some (c0, G0) => (let kk := kill ++ hc.map (fun h => h_code h.1 h.2.1 lv)
    bif (hv_dis hav && (hc.all (fun h => Nat.ble h.1 1 && Nat.ble (h_code h.1 h.2.1 lv % 128) 125) && !(Nat.beq L.2.2.2.2.2.2.2 2))) && (ck_hav G0 lv hav && ck_rel 2 lv lv G0 hc c0 none rel) then
      (let A := gen_hav (lv_drop dr lv) (upX (upC G0 (c_kill kk (g_c G0))) (g_x G0) (kk ++ g_k G0)) hav
      match add_rel A.1 lv (gen_cells lv A.2 hc) hc c0 none rel with
      | none => none
      | some W => some (L.1, L, A.1, W, lv, c0)) else none)
noncomputable def l_veq (l m : List SV) : Bool := match l, m with
  | [], [] => true
  | x :: l, y :: m => bif veq x y then l_veq l m else false
  | _, _ => false
noncomputable def so_eq (o p : SO) : Bool := bif Nat.beq o.1 p.1 then (match o.2, p.2 with
  | .inl q, .inl r => Nat.beq q.1 r.1 && veq q.2 r.2
  | .inr l, .inr m => l_veq l m
  | _, _ => false) else false
noncomputable def h_eq (l m : List SO) : Bool := match l, m with
  | [], [] => true
  | x :: l, y :: m => bif so_eq x y then h_eq l m else false
  | _, _ => false
noncomputable def x_eq (l m : List (Nat × SV)) : Bool := match l, m with
  | [], [] => true
  | x :: l, y :: m => bif Nat.beq x.1 y.1 && veq x.2 y.2 then x_eq l m else false
  | _, _ => false
noncomputable def hv_find (i : Nat) (l : List (Nat × Nat × Nat × Nat)) : Option (Nat × Nat × Nat) := match l with
  | [] => none
  | q :: r => bif Nat.beq q.1 i then some q.2 else hv_find i r
noncomputable def bk_lv (hav : List (Nat × Nat × Nat × Nat)) (G : SG) (lv : SLV) (lw : SLV) : Bool := match lw with
  | [] => true
  | q :: r => (match s_find q.1 lv with
    | none => false
    | some v => bif (match hv_find q.1 hav with
        | some h => bif Nat.beq h.1 0 then isI v && y_fitI G v h.2.1 h.2.2 else isL v
        | none => veq v q.2) then bk_lv hav G lv r else false)
noncomputable def bk_hc (lv0 : SLV) (G : SG) (hc : List (Nat × Nat × Nat × Nat)) : Bool := match hc with
  | [] => true
  | h :: r => (let p := h_place h.1 h.2.1 lv0; match y_find G p.1 p.2.1 p.2.2 with
    | none => false
    | some v => bif isI v && y_fitI G v h.2.2.1 h.2.2.2 then bk_hc lv0 G r else false)
/-- the same with groups: an entry whose range is turned round is the one before it -/
noncomputable def bk_gr (u : SV) (lv0 : SLV) (G : SG) (hc : List (Nat × Nat × Nat × Nat)) : Bool := match hc with
  | [] => true
  | h :: r => (let p := h_place h.1 h.2.1 lv0; match y_find G p.1 p.2.1 p.2.2 with
    | none => false
    | some v => bif isI v && (bif Nat.ble h.2.2.1 h.2.2.2 then y_fitI G v h.2.2.1 h.2.2.2 else (bif y_same G u v then true else y_le G u v 0 2 && y_le G v u 0 2)) then bk_gr v lv0 G r else false)
noncomputable def bk_c (kk : List Nat) (G : SG) (l : List CE) : Bool := match l with
  | [] => true
  | q :: r => bif (bif Nat.ble q.2.2.1.1 7 then nmem (c_code q) kk else bif Nat.beq q.2.2.1.1 8 then nmem (q.1 * 128 + 126) kk else false) then bk_c kk G r else (match y_find G q.1 q.2.1 q.2.2.1 with
    | none => false
    | some v => bif veq v q.2.2.2 then bk_c kk G r else false)
noncomputable def k_sub (k l : List Nat) : Bool := match k with
  | [] => true
  | a :: r => bif nmem a l then k_sub r l else false
noncomputable def k_dis (l k : List Nat) : Bool := l.all (fun a => !(nmem a k))
noncomputable def y_back2 (T : ST) (lv : SLV) (G0 : SG) : Bool :=
  let L := T.2.1; let lw := T.2.2.1; let W := T.2.2.2.1; let lv0 := T.2.2.2.2.1; let c0 := T.2.2.2.2.2
  let G := y_close G0
  let hav := L.2.1; let hc := L.2.2.2.2.1; let rel := L.2.2.2.2.2.1
  ((g_h G).all (fun o => Nat.beq o.1 99) && (Nat.ble (g_u G) 999 && (Nat.ble (g_q G) 99 && ((match g_x G with | [] => true | _ => false) && Nat.beq (g_p G) (g_p W))))) && (bk_lv hav G lv lw && (bk_gr sfull lv0 G hc && (bk_c (hc.map (fun h => h_code h.1 h.2.1 lv0)) G (g_c W) && ck_rel 4 lv lv0 G hc c0 none rel)))
/-- a kerb more, and its row is empty -/
noncomputable def kbK : List Nat := r5K ++ (stK ++ [11 * 128 + 19, 24 * 128, 62 * 128, 63 * 128, 64 * 128])
noncomputable def kb_new (W G : SG) : Bool := bif useR2 then (match y_find W 11 (sk 2147483648) (sk 2147483650) with
  | none => false
  | some n0 => (match y_find G 11 (sk 2147483648) (sk 2147483650) with
    | none => false
    | some n1 => (isI n0 && (isI n1 && k_dis kbK (g_k G))) && ((match mm_suc G n0 with
      | some u => veq u n1
      | none => false) && (g_c G).any (fun q => Nat.beq q.1 24 && (veq q.2.1 n0 && (veq q.2.2.1 (11, 0, 0) && veq q.2.2.2 (sk 2147483648))))))) else false
noncomputable def y_back (T : ST) (lv : SLV) (G0 : SG) : Bool :=
  let L := T.2.1; let lw := T.2.2.1; let W := T.2.2.2.1; let lv0 := T.2.2.2.2.1; let c0 := T.2.2.2.2.2
  let G := y_close G0
  let hav := L.2.1; let hc := L.2.2.2.2.1; let rel := L.2.2.2.2.2.1; let ms := L.2.2.2.2.2.2
  bif Nat.beq ms.2 2 then
    y_back2 T lv G0 && (k_dis rbK (g_k G) || kb_new W G)
  else bif h_eq (g_h G) (g_h W) && (Nat.beq (g_u G) (g_u W) && (Nat.beq (g_q G) (g_q W) && (x_eq (g_x G) (g_x W) && Nat.beq (g_p G) (g_p W)))) then
    (bif bk_lv hav G lv lw && (bk_hc lv0 G hc && (bk_c (hc.map (fun h => h_code h.1 h.2.1 lv0)) G (g_c W) && (k_sub (g_k G) (g_k W) && ck_rel 4 lv lv0 G hc c0 none rel))) then
      (match rf_val ms.1 lw lv0 W hc c0 none, rf_val ms.1 lv lv0 G hc c0 none with
      | some x, some y => bif isN x && (isI x && isI y) then (bif Nat.beq ms.2 1 then y_le G x y 1 5 else y_le G y x 1 5) else false
      | _, _ => false) else false)
  else false
/-! contracts -/
noncomputable def at_fit (G : SG) (as : List SV) (ts : List (Nat × Nat × Nat)) : Bool := match as, ts with
  | [], [] => true
  | v0 :: as, t :: ts => (let v := y_fwd G v0
    bif (bif Nat.beq t.1 0 then isI v && y_fitI G v t.2.1 t.2.2
      else bif Nat.beq t.1 1 then isL v
      else bif Nat.beq t.1 2 then Nat.ble t.2.1 999 && (bif Nat.beq v.1 4 then Nat.beq t.2.2 1 else isT v && (Nat.beq v.2.1 t.2.1 && (bif Nat.beq t.2.2 1 then true else Nat.ble 2147483648 (itv G (y_idx v)).1)))
      else bif Nat.beq t.1 3 then Nat.beq v.1 4
      else veq v (7, t.2.1, 2147483648)) then at_fit G as ts else false)
  | _, _ => false
noncomputable def pre4 (l : List (Nat × Nat × Nat)) : List (Nat × Nat × Nat × Nat) := l.map (fun h => (0, h))
noncomputable def rt_new (t : Nat × Nat × Nat) (G : SG) : Option SV × SG :=
  bif Nat.beq t.1 0 then (some (y_new G t.2.1 t.2.2).1, (y_new G t.2.1 t.2.2).2)
  else bif Nat.beq t.1 1 then (some (lnew G).1, (lnew G).2)
  else bif Nat.beq t.1 2 then (some (6, t.2.1, g_n G), y_fresh G (bif Nat.beq t.2.2 1 then 2147483647 else 2147483648) 2148532224)
  else bif Nat.beq t.1 3 then (some snull, G)
  else (none, G)
noncomputable def s_args : Nat → List SV → SLV
  | _, [] => []
  | i, v :: r => (i, v) :: s_args (i + 1) r
noncomputable def y_use (C : CN) (as : List SV) (G : SG) : Option (List (Option SV × SG)) :=
  let ats := C.2.2.2.1; let pre := pre4 C.2.2.2.2.1; let kill := C.2.2.2.2.2.1; let hc := pre4 C.2.2.2.2.2.2.1; let rt := C.2.2.2.2.2.2.2.1; let rel := C.2.2.2.2.2.2.2.2
  match rds [] (y_close G) pre with
  | none => none
  | some (c0, G0) => (let kk := kill ++ hc.map (fun h => h_code h.1 h.2.1 [])
    bif (Nat.ble 1 (g_p G0) && (bif Nat.beq rt.1 2 then Nat.ble rt.2.1 999 else true)) && (x_in (g_x G0) && (kk.all (ncoupled G0) && at_fit G0 as ats)) then
      (let q := rt_new rt (gen_cells [] (upX (upC G0 (c_kill kk (g_c G0))) (g_x G0) (kk ++ g_k G0)) hc)
      match add_rel [] (s_args 0 as) q.2 hc c0 q.1 rel with
      | none => none
      | some G2 => some [(q.1, G2)]) else none)
noncomputable def at_new (ts : List (Nat × Nat × Nat)) (G : SG) : List SV × SG := match ts with
  | [] => ([], G)
  | t :: ts => (bif Nat.beq t.1 0 then (let q := y_new G t.2.1 t.2.2; let r := at_new ts q.2; (q.1 :: r.1, r.2))
      else bif Nat.beq t.1 1 then (let q := lnew G; let r := at_new ts q.2; (q.1 :: r.1, r.2))
      else bif Nat.beq t.1 2 then (let r := at_new ts (y_fresh G (bif Nat.beq t.2.2 1 then 2147483647 else 2147483648) 2148532224); ((6, t.2.1, g_n G) :: r.1, r.2))
      else bif Nat.beq t.1 3 then (let r := at_new ts G; (snull :: r.1, r.2))
      else (let r := at_new ts G; ((7, t.2.1, 2147483648) :: r.1, r.2)))
noncomputable def gen_pre (G : SG) (l : List (Nat × Nat × Nat)) : List SV × SG := match l with
  | [] => ([], G)
  | h :: r => (let p := h_place 0 h.1 []; let o := gen_pre (y_put (y_fresh G h.2.1 h.2.2) p.1 p.2.1 p.2.2 (1, g_n G, 0)) r; ((1, g_n G, 0) :: o.1, o.2))
noncomputable def rt_fit (t : Nat × Nat × Nat) (G : SG) (v : Option SV) : Bool := match v with
  | none => Nat.beq t.1 9
  | some v0 => (let v := y_fwd G v0
    bif Nat.beq t.1 0 then isI v && y_fitI G v t.2.1 t.2.2
    else bif Nat.beq t.1 1 then isL v
    else bif Nat.beq t.1 2 then (bif Nat.beq v.1 4 then Nat.beq t.2.2 1 else isT v && (Nat.beq v.2.1 t.2.1 && (bif Nat.beq t.2.2 1 then true else Nat.ble 2147483648 (itv G (y_idx v)).1)))
    else bif Nat.beq t.1 3 then Nat.beq v.1 4 else false)
noncomputable def G0c : SG := ([], [], [], 0, 0, 0, [], [], [], [], [], 1)
noncomputable def cat2 {α : Type} (a b : Option (List α)) : Option (List α) := match a with
  | none => none
  | some x => match b with
    | none => none
    | some y => some (x ++ y)
noncomputable def jmp (t : Nat) (l : List (Nat × AI)) : List (Nat × AI) := match l with
  | [] => []
  | x :: r => bif Nat.beq x.1 t then x :: r else jmp t r
noncomputable def lp_find (pc : Nat) (l : List LC) : Option LC := match l with
  | [] => none
  | q :: r => bif Nat.beq q.1 pc then some q else lp_find pc r
/-- the loop's certificate for the class of local 0 (a number from 1000 on among the locals let go) -/
noncomputable def lp_cls (c : Nat) (d : List Nat) : Bool := d.all (fun a => bif Nat.ble 1000 a then Nat.beq a (1000 + c) else true)
noncomputable def lp_cof (lv : SLV) : Nat := match s_find 0 lv with
  | some v => v.2.1
  | none => 0
noncomputable def lp_find2 (pc : Nat) (lv : SLV) (l : List LC) : Option LC := match l with
  | [] => none
  | q :: r => bif Nat.beq q.1 pc then (bif lp_cls (lp_cof lv) q.2.2.1 then some q else lp_find2 pc lv r) else lp_find2 pc lv r
noncomputable def st_find (pc : Nat) (l : List ST) : Option ST := match l with
  | [] => none
  | q :: r => bif Nat.beq q.1 pc then some q else st_find pc r
noncomputable def lps (M : Nat) : List LC := (lct.getD (M / 16) []).getD (M % 16) []
noncomputable def cn_find (w M a0 : Nat) (l : List CN) : Option CN := match l with
  | [] => none
  | q :: r => bif Nat.beq q.2.1 M && (Nat.beq q.2.2.1 a0 && Nat.ble (q.1 + 1) w) then some q else cn_find w M a0 r
noncomputable def cns (M : Nat) : List CN := (cntt.getD (M / 16) []).getD (M % 16) []
noncomputable def a0_of (G : SG) (as : List SV) : Nat := match as with
  | [] => 0
  | v :: _ => (let w := y_fwd G v; bif isT w then w.2.1 + 1 else 0)
/-- is a call answered by a list's own method, or by a contract of a rank below w -/
noncomputable def y_con0 (w M : Nat) (as : List SV) (G : SG) : Option (Option (List (Option SV × SG))) := match prim M as G with
  | some r => some r
  | none => (match cns M with
    | [] => none
    | l => (match cn_find w M (a0_of G as) l with
      | some C => some (y_use C as G)
      | none => none))
/-- the model's law of a borough, by the class's values: at the law's level alone, while the texts are alike -/
noncomputable def hp_law (as : List SV) (l : List (SV × SG)) : Option (List (Option SV × SG)) := match l with
  | [] => some []
  | p :: r => (match cn_find nC mLawOf (a0_of p.2 as) (cns mLawOf) with
    | none => none
    | some C => (match y_use C as p.2 with
      | none => none
      | some es => (match hp_law as r with
        | none => none
        | some o => some (es.map (fun q => (some p.1, q.2)) ++ o))))
noncomputable def hp_a (M : Nat) (as : List SV) (G : SG) : Option (Option (List (Option SV × SG))) := bif Nat.beq M mLawOf then (match as with
    | [m, b, w] => bif veq m (7, 11, 2147483648) && ((isI b && isI w) && ((y_fitI G b 2147483648 2147483651 && y_fitI G w 2147483648 2147483653) && k_dis r5K (g_k G))) then (match y_read G 18 b w with
        | none => none
        | some l => (match hp_law [m, b, w] l with
          | none => none
          | some o => some (some o))) else none
    | _ => none) else none
noncomputable def hp_use (M : Nat) (as : List SV) (G : SG) : Option (List (Option SV × SG)) := match cn_find nC M (a0_of G as) (cns M) with
  | none => none
  | some C => y_use C as G
/-- the class's six values of a borough -/
noncomputable def rd6 (b : SV) (l : List Nat) (G : SG) : Option (List SV × SG) := match l with
  | [] => some ([], G)
  | w :: r => (match rd1 G 18 b (sk (2147483648 + w)) with
    | none => none
    | some q => (match rd6 b r q.2 with
      | none => none
      | some o => some (q.1 :: o.1, o.2)))
noncomputable def put6 (vs : List SV) (w : Nat) (G : SG) : SG := match vs with
  | [] => G
  | v :: r => put6 r (w + 1) (y_put G kMla (sk 2147483648) (sk (2147483648 + w)) v)
noncomputable def hp_reads (as : List SV) (G : SG) : Option (List (Option SV × SG)) := match as with
  | [m, b] => bif veq m (7, 11, 2147483648) && (isI b && (y_fitI G b 2147483648 2147483651 && k_dis r5K (g_k G))) then (match rd6 b [0, 1, 2, 3, 4, 5] G with
    | none => none
    | some o => (match hp_use mReads [m, b] o.2 with
      | none => none
      | some es => some (es.map (fun q => (q.1, put6 o.1 0 q.2))))) else none
  | _ => none
noncomputable def hp_hasl (as : List SV) (l : List (SV × SG)) : Option (List (Option SV × SG)) := match l with
  | [] => some []
  | p :: r => (match hp_use mHasP as p.2 with
    | none => none
    | some es => (match hp_hasl as r with
      | none => none
      | some o => some (es.map (fun q => (some p.1, q.2)) ++ o)))
noncomputable def hp_hasp (as : List SV) (G : SG) : Option (List (Option SV × SG)) := match as with
  | [m, k] => bif veq m (7, 11, 2147483648) && (isI k && (y_le G (sk 2147483648) k 0 2 && k_dis r2K (g_k G))) then (match y_find G 11 (sk 2147483648) (sk 2147483650) with
    | none => none
    | some n => bif isI n && y_le G k n 1 2 then (match rd1 G 11 (sk 2147483648) (sk 2147483648) with
      | none => none
      | some d => bif isI d.1 && y_fitI d.2 d.1 2147483648 2147484047 then (match y_read d.2 24 k d.1 with
        | none => none
        | some l => hp_hasl [m, k] l) else none) else none) else none
  | _ => none
noncomputable def hp_freef (as : List SV) (G : SG) : Option (List (Option SV × SG)) := match as with
  | [x, kr] => bif (veq x (7, 10, 2147483648) && (nnT G kr && Nat.beq kr.2.1 2)) && (match g_x (y_close G) with | [] => true | _ => false) then (match y_find G 13 (sk 2147483648) (sk 2147483650), y_find G 11 (sk 2147483648) (sk (2147483648 + ffS)) with
    | some a, some b => bif isI a && (veq a b && Nat.beq (g_p G) npH) then (match hp_use mFreeF [x, kr] (y_close G) with
      | none => none
      | some es => bif es.all (fun q => match q.1 with | some r => isI r | none => false) then some (es.map (fun q => match q.1 with
        | some r => (some r, y_put q.2 2 (y_idx kr) (10, 0, 0) r)
        | none => q)) else none) else none
    | _, _ => none) else none
  | _ => none
noncomputable def hp_freea (as : List SV) (G : SG) : Option (List (Option SV × SG)) := match as with
  | [m, k] => bif veq m (7, 11, 2147483648) && isI k then (match y_find G 2 k (10, 0, 0) with
    | none => none
    | some v => (match hp_use mFreeA [m, k] G with
      | none => none
      | some es => some (es.map (fun q => (some v, q.2))))) else none
  | _ => none
/-- whether the day is a work day at a kerb: the class's answer, kept in a cell -/
noncomputable def hp_isw5 (x kr b d : SV) (G : SG) : Option (List (Option SV × SG)) := match rd1 G 18 b (sk 2147483651) with
  | none => none
  | some v3 => (match rd1 v3.2 18 b (sk 2147483652) with
    | none => none
    | some v4 => (match rd1 v4.2 36 (sk 2147483648) d with
      | none => none
      | some hx => (match rd1 hx.2 47 (sk 2147483648) d with
        | none => none
        | some hm => bif veq hx.1 hm.1 then (match hp_use mIsW [x, kr] hm.2 with
          | none => none
          | some es => bif es.all (fun q => match q.1 with | some r => isI r | none => false) then some (es.map (fun q => match q.1 with
            | some r => (some r, y_put q.2 2 (y_idx kr) (15, 0, 0) r)
            | none => q)) else none) else none)))
noncomputable def hp_isw (as : List SV) (G : SG) : Option (List (Option SV × SG)) := match as with
  | [x, kr] => bif (veq x (7, 10, 2147483648) && (nnT G kr && Nat.beq kr.2.1 2)) && y_le G (y_idx kr) (sk 2147483671) 0 2 then (match rd1 G 10 (sk 2147483648) (sk 2147483648) with
    | none => none
    | some d => (match rd1 d.2 11 (sk 2147483648) (sk 2147483648) with
      | none => none
      | some m => bif (isI d.1 && veq d.1 m.1) && y_fitI m.2 d.1 2147483648 2147484047 then (match rd1 m.2 2 (y_idx kr) (sk 2147483650) with
        | none => none
        | some l => bif isT l.1 && Nat.beq l.1.2.1 0 then (match rd1 l.2 48 (sk 2147483648) (y_idx kr) with
          | none => none
          | some b => bif (veq (y_idx l.1) b.1 && isI b.1) && y_fitI b.2 b.1 2147483648 2147483651 then hp_isw5 x kr b.1 d.1 b.2 else none) else none) else none)) else none
  | _ => none
noncomputable def hp_isbl (as : List SV) (l : List (Bool × SG)) : Option (List (Option SV × SG)) := match l with
  | [] => some []
  | p :: r => (match hp_use mIsB as p.2 with
    | none => none
    | some es => (match hp_isbl as r with
      | none => none
      | some o => some (es.map (fun q => (some (bif p.1 then sk 2147483649 else sk 2147483648), q.2)) ++ o)))
/-- the model's answer, out of the cell -/
noncomputable def hp_isb (as : List SV) (G : SG) : Option (List (Option SV × SG)) := match as with
  | [m, k] => bif veq m (7, 11, 2147483648) && (isI k && k_dis r5K (g_k G)) then (match y_find G 2 k (15, 0, 0) with
    | none => none
    | some v => hp_isbl [m, k] (y_eq G v (sk 2147483648) true false)) else none
  | _ => none
noncomputable def hp_b (M : Nat) (as : List SV) (G : SG) : Option (List (Option SV × SG)) := bif Nat.beq M mReads then hp_reads as G else bif Nat.beq M mHasP then hp_hasp as G else bif Nat.beq M mFreeF then hp_freef as G else bif Nat.beq M mFreeA then hp_freea as G else bif Nat.beq M mIsW then hp_isw as G else bif Nat.beq M mIsB then hp_isb as G else none
noncomputable def hp (M : Nat) (as : List SV) (G : SG) : Option (Option (List (Option SV × SG))) := match hp_a M as G with
  | some r => some r
  | none => bif useR2 then (match hp_b M as G with
    | some es => some (some es)
    | none => none) else none
noncomputable def y_con (w M : Nat) (as : List SV) (G : SG) : Option (Option (List (Option SV × SG))) := match (bif Nat.beq w nC then hp M as G else none) with
  | some r => some r
  | none => y_con0 w M as G
noncomputable def yrun (w f : Nat) : Nat → List LC → List (Nat × AI) → SLV → List SV → SG → List ST → Option (List (Option SV × SG)) :=
  Nat.rec (fun _ _ _ _ _ _ _ => none) (fun _ ih M lp cd lv0 st G0 S0 => match cd with
    | [] => none
    | (pc, ai) :: tl =>
      let act : SLV → SG → List ST → Option (List (Option SV × SG)) := fun lv G S =>
        let go : SOUT → Option (List (Option SV × SG)) := fun o => match o with
          | .inl (none, lv', st', G') => ih M lp tl lv' st' G' S
          | .inl (some t, lv', st', G') => ih M lp (jmp t (codeOf M)) lv' st' G' S
          | .inr (.inl (M', as, r, G')) => (match (match y_con w M' as G' with | some r => r | none => ih M' (lps M') (codeOf M') (s_args 0 as) [] G' []) with
            | none => none
            | some es => es.foldr (fun q acc => cat2 (ih M lp tl lv (q.1.toList ++ r) q.2 S) acc) (some []))
          | .inr (.inr q) => some [q]
        match ystep ai lv st G with
        | none => none
        | some [o] => go o
        | some os => os.foldr (fun o acc => cat2 (go o) acc) (some [])
      match lp_find2 pc lv0 lp with
      | none => act lv0 G0 S0
      | some L => match st with
        | [] => (match st_find pc S0 with
          | some T => bif y_back T lv0 G0 then some [] else none
          | none => match l_enter L lv0 G0 with
            | none => none
            | some T => act T.2.2.1 T.2.2.2.1 (T :: S0))
        | _ => none) f
noncomputable def cn_out (C : CN) (lv0 : SLV) (c0 : List SV) (es : List (Option SV × SG)) : Bool := match es with
  | [] => true
  | q :: r => (let G := y_close q.2; let hc := pre4 C.2.2.2.2.2.2.1
    bif ((match g_h G with | [] => true | _ => false) && ((match g_x G with | [] => true | _ => false) && (Nat.beq (g_u G) 0 && (Nat.beq (g_q G) 0 && Nat.ble 1 (g_p G))))) && ((k_sub (g_k G) (C.2.2.2.2.2.1 ++ hc.map (fun h => h_code h.1 h.2.1 []))) && (rt_fit C.2.2.2.2.2.2.2.1 G q.1 && (bk_hc [] G hc && ck_rel 5 [] lv0 G hc c0 (match q.1 with | some v => some (y_fwd G v) | none => none) C.2.2.2.2.2.2.2.2))) then cn_out C lv0 c0 r else false)
/-- does a contract hold, by those of lower rank -/
noncomputable def cn_ok (C : CN) : Bool :=
  let A := at_new C.2.2.2.1 G0c
  let B := gen_pre A.2 C.2.2.2.2.1
  match yrun C.1 100000 C.2.1 (lps C.2.1) (codeOf C.2.1) (s_args 0 A.1) [] B.2 [] with
  | none => false
  | some es => cn_out C (s_args 0 A.1) B.1 es
