noncomputable def xty (G : xG) (t : Nat) : xV := (xgd (.int, (7, 0)) G.2.2.1 t).2
def xisI (t : Nat) : Bool := match t with
  | 0 => true
  | 5 => true
  | _ => false
def xisL (t : Nat) : Bool := match t with
  | 2 => true
  | 6 => true
  | _ => false
def xisA (t : Nat) : Bool := match t with
  | 1 => true
  | 8 => true
  | _ => false
def xisD (t : Nat) : Bool := match t with
  | 4 => true
  | _ => false
noncomputable def xload (ok : Nat → Bool) (k : Nat) (st ls : List xV) (h : xH) : Option (List xV × List xV × xH) :=
  let v := xgd (7, 0) ls k
  if ok v.1 then some (v :: st, ls, h) else none
noncomputable def xstore (ok : Nat → Bool) (k : Nat) (st ls : List xV) (h : xH) : Option (List xV × List xV × xH) := match st with
  | v :: r => if ok v.1 then some (r, xst ls k v, h) else none
  | [] => none
/-- does a value fit a field or an array's place of kind t: 0 int, 1 long, 2 boolean, 3 byte, 4 char, 5 double, 6 and on a reference -/
noncomputable def xfits (E : List (Nat × Nat × Nat)) (t : Nat) (v : xV) : Bool := match t with
  | 0 => xisI v.1
  | 1 => xisL v.1
  | 2 => (match v.1 with | 0 => Nat.beq v.2 2147483648 || Nat.beq v.2 2147483649 | _ => false)
  | 3 => (match v.1 with | 0 => Nat.ble 2147483520 v.2 && Nat.ble v.2 2147483775 | _ => false)
  | 4 => (match v.1 with | 0 => Nat.ble 2147483648 v.2 && Nat.ble v.2 2147549183 | _ => false)
  | 5 => xisD v.1
  | _ => (match v.1 with | 1 => true | _ => false)
noncomputable def xald (G : xG) (t : Nat) (st ls : List xV) (h : xH) : Option (List xV × List xV × xH) := match st with
  | i :: a :: r => (match xcell G h a with
    | some c => if Nat.beq c.1.1 (2 * t + 1) then (match xidx c i with | some k => some (cget c k :: r, ls, h) | none => none) else none
    | none => none)
  | _ => none
noncomputable def xaald (G : xG) (st ls : List xV) (h : xH) : Option (List xV × List xV × xH) := match st with
  | i :: a :: r => (match xcell G h a with
    | some c => if Nat.ble 13 c.1.1 && Nat.beq (c.1.1 % 2) 1 then (match xidx c i with | some k => some (cget c k :: r, ls, h) | none => none) else none
    | none => none)
  | _ => none
noncomputable def xast (G : xG) (E : List (Nat × Nat × Nat)) (t : Nat) (st ls : List xV) (h : xH) : Option (List xV × List xV × xH) := match st with
  | v :: i :: a :: r => (match xnewk h a with
    | some q => (match hget h q with
      | some c => if Nat.beq c.1.1 (2 * t + 1) && xfits E t v then (match xidx c i with | some k => some (r, ls, hset h q (cset c k v)) | none => none) else none
      | none => none)
    | none => none)
  | _ => none
/-- may a cell of this kind stand in an array of that kind: rows of G -/
noncomputable def xmay (G : xG) (kA kv : Nat) : Bool := (xgd [] G.2.2.2.2.2.2 (kA / 2)).any fun q => Nat.beq q.1 kv
noncomputable def xaast (G : xG) (st ls : List xV) (h : xH) : Option (List xV × List xV × xH) := match st with
  | v :: i :: a :: r => (match xnewk h a with
    | some q => (match hget h q with
      | some c => if Nat.ble 13 c.1.1 && Nat.beq (c.1.1 % 2) 1 && (match v.1 with | 1 => Nat.beq v.2 0 || (match xcell G h v with | some cv => xmay G c.1.1 cv.1.1 | none => false) | _ => false)
        then (match xidx c i with | some k => some (r, ls, hset h q (cset c k v)) | none => none) else none
      | none => none)
    | none => none)
  | _ => none
noncomputable def xinners (h : xH) (k : Nat) (c : xC) : Nat → xH := Nat.rec h (fun _ ih => hnew ih k c)
noncomputable def xouter (b : Nat) (c : xC) : Nat → xC := Nat.rec c (fun n ih => cset ih n (1, 2 * (b + n) + 1))
noncomputable def xcpy (s : xC) (sp dp : Nat) (d : xC) : Nat → xC := Nat.rec d (fun n ih => cset ih (dp + n) (cget s (sp + n)))
noncomputable def xstep (G : xG) (E : List (Nat × Nat × Nat)) (i : ClassFile.Instr) (w : List Nat) (st ls : List xV) (h : xH) : Option (List xV × List xV × xH) := match i with
  | .aconst_null => some ((1, 0) :: st, ls, h)
  | .iconst _ => (match w with | [p] => some ((0, p) :: st, ls, h) | _ => none)
  | .bipush _ => (match w with | [p] => some ((0, p) :: st, ls, h) | _ => none)
  | .sipush _ => (match w with | [p] => some ((0, p) :: st, ls, h) | _ => none)
  | .lconst _ => (match w with | [p] => some ((2, p) :: st, ls, h) | _ => none)
  | .dconst _ => (match w with | [p] => some ((4, p) :: st, ls, h) | _ => none)
  | .ldc _ => (match w with | t :: p :: _ => some ((t, p) :: st, ls, h) | _ => none)
  | .ldc_w _ => (match w with | t :: p :: _ => some ((t, p) :: st, ls, h) | _ => none)
  | .ldc2_w _ => (match w with | p :: _ => some ((2, p) :: st, ls, h) | _ => none)
  | .iload k => xload xisI k st ls h
  | .iload_n k => xload xisI k st ls h
  | .lload k => xload xisL k st ls h
  | .lload_n k => xload xisL k st ls h
  | .aload k => xload xisA k st ls h
  | .aload_n k => xload xisA k st ls h
  | .dload k => xload xisD k st ls h
  | .dload_n k => xload xisD k st ls h
  | .istore k => xstore xisI k st ls h
  | .istore_n k => xstore xisI k st ls h
  | .lstore k => xstore xisL k st ls h
  | .lstore_n k => xstore xisL k st ls h
  | .astore k => xstore xisA k st ls h
  | .astore_n k => xstore xisA k st ls h
  | .dstore k => xstore xisD k st ls h
  | .dstore_n k => xstore xisD k st ls h
  | .iinc k _ => (match w with | [p] => (match xadd E (xgd (7, 0) ls k) (0, p) with | some v => xforce v.2 fun z => some (st, xst ls k (v.1, z), h) | none => none) | _ => none)
  | .getfield _ => (match w, st with
    | k :: ci :: _, o :: r => (match xcell G h o with | some c => if Nat.beq c.1.1 (2 * ci) then some (cget c k :: r, ls, h) else none | none => none)
    | _, _ => none)
  | .putfield _ => (match w, st with
    | k :: ci :: t :: _, v :: o :: r => (match xnewk h o with
      | some q => (match hget h q with | some c => if Nat.beq c.1.1 (2 * ci) && xfits E t v then some (r, ls, hset h q (cset c k v)) else none | none => none)
      | none => none)
    | _, _ => none)
  | .getstatic _ => (match w with | j :: _ => some (xgd (7, 0) G.2.2.2.2.1 j :: st, ls, h) | _ => none)
  | .iaload => xald G 0 st ls h
  | .laload => xald G 1 st ls h
  | .baload => (match w with | [t] => xald G t st ls h | _ => none)
  | .caload => xald G 4 st ls h
  | .daload => xald G 5 st ls h
  | .aaload => xaald G st ls h
  | .iastore => xast G E 0 st ls h
  | .lastore => xast G E 1 st ls h
  | .bastore => (match w with | [t] => xast G E t st ls h | _ => none)
  | .castore => xast G E 4 st ls h
  | .dastore => xast G E 5 st ls h
  | .aastore => xaast G st ls h
  | .arraylength => (match st with
    | a :: r => (match xcell G h a with | some c => if Nat.beq (c.1.1 % 2) 1 then some ((0, c.1.2.1 + 2147483648) :: r, ls, h) else none | none => none)
    | [] => none)
  | .new _ => (match w with
    | ci :: _ => (match xg G.2.1 ci with | some k => some ((1, 2 * h.1 + 1) :: st, ls, hnew h k.2.2.2.2 ((2 * ci, k.2.2.1, (7, 0)), k.2.2.2.1)) | none => none)
    | _ => none)
  | .newarray _ => (match w, st with
    | t :: _, n :: r => (match n.1 with | 0 => if Nat.ble 2147483648 n.2 && Nat.blt n.2 2147583648 then xforce (n.2 - 2147483648) (fun m => some ((1, 2 * h.1 + 1) :: r, ls, hnew h m ((2 * t + 1, m, xty G t), []))) else none | _ => none)
    | _, _ => none)
  | .anewarray _ => (match w, st with
    | t :: _, n :: r => (match n.1 with | 0 => if Nat.ble 2147483648 n.2 && Nat.blt n.2 2147583648 then xforce (n.2 - 2147483648) (fun m => some ((1, 2 * h.1 + 1) :: r, ls, hnew h m ((2 * t + 1, m, (1, 0)), []))) else none | _ => none)
    | _, _ => none)
  | .multianewarray _ _ => (match w, st with
    | t :: t2 :: _, k :: n :: r => (match n.1, k.1 with
      | 0, 0 => if Nat.ble 2147483648 n.2 && Nat.blt n.2 2147493648 && Nat.ble 2147483648 k.2 && Nat.blt k.2 2147493648 then
          xforce (n.2 - 2147483648) (fun a => xforce (k.2 - 2147483648) fun b => xforce (h.1 + 1) fun q =>
            some ((1, 2 * h.1 + 1) :: r, ls, xinners (hnew h a (xouter q ((2 * t + 1, a, (1, 0)), []) a)) b ((2 * t2 + 1, b, xty G t2), []) a)) else none
      | _, _ => none)
    | _, _ => none)
  | .checkcast _ => (match st with
    | x :: _ => (match x.1 with | 1 => if Nat.beq x.2 0 then some (st, ls, h) else (match xcell G h x with | some c => if w.any (fun k => Nat.beq k c.1.1) then some (st, ls, h) else none | none => none) | _ => none)
    | [] => none)
  | .pop => (match st with | v :: r => if xone v then some (r, ls, h) else none | [] => none)
  | .dup => (match st with | v :: r => if xone v then some (v :: v :: r, ls, h) else none | [] => none)
  | .dup_x1 => (match st with | v :: u :: r => if xone v && xone u then some (v :: u :: v :: r, ls, h) else none | _ => none)
  | .dup2 => (match st with
    | v :: r => if xwide v then some (v :: v :: r, ls, h) else (match r with | u :: q => if xone v && xone u then some (v :: u :: v :: u :: q, ls, h) else none | [] => none)
    | [] => none)
  | .dup2_x1 => (match st with | v :: u :: r => if xwide v && xone u then some (v :: u :: v :: r, ls, h) else none | _ => none)
  | .ineg => (match st with | x :: r => (match xun E i x with | some v => xforce v.2 fun z => some ((v.1, z) :: r, ls, h) | none => none) | [] => none)
  | .i2l => (match st with | x :: r => (match xun E i x with | some v => xforce v.2 fun z => some ((v.1, z) :: r, ls, h) | none => none) | [] => none)
  | .l2i => (match st with | x :: r => (match xun E i x with | some v => xforce v.2 fun z => some ((v.1, z) :: r, ls, h) | none => none) | [] => none)
  | .i2b => (match st with | x :: r => (match xun E i x with | some v => xforce v.2 fun z => some ((v.1, z) :: r, ls, h) | none => none) | [] => none)
  | .i2c => (match st with | x :: r => (match xun E i x with | some v => xforce v.2 fun z => some ((v.1, z) :: r, ls, h) | none => none) | [] => none)
  | _ => (match st with | y :: x :: r => (match xbin E i x y with | some v => xforce v.2 fun z => some ((v.1, z) :: r, ls, h) | none => none) | _ => none)
/-- what an instruction that is not straight does: 0 goes on at a block; the rest by xL -/
noncomputable def xbr (E : List (Nat × Nat × Nat)) (i : ClassFile.Instr) (st : List xV) : Option (Bool × List xV) := match i with
  | .goto _ => some (true, st)
  | .ifCond c _ => (match st with | x :: r => (match xcmp E c x (0, 2147483648) with | some b => some (b, r) | none => none) | [] => none)
  | .if_icmp c _ => (match st with | y :: x :: r => (match xcmp E c x y with | some b => some (b, r) | none => none) | _ => none)
  | .if_acmp c _ => (match st with
    | y :: x :: r => (match x.1, y.1 with
      | 1, 1 => if Nat.beq x.2 y.2 then some ((match c with | .eq => true | .ne => false), r)
        else if Nat.beq x.2 0 || Nat.beq y.2 0 || (Nat.beq (x.2 % 2) 1 && Nat.beq (y.2 % 2) 1) then some ((match c with | .eq => false | .ne => true), r) else none
      | _, _ => none)
    | _ => none)
  | .ifnull _ => (match st with | x :: r => (match x.1 with | 1 => some (Nat.beq x.2 0, r) | 8 => some (false, r) | _ => none) | [] => none)
  | .ifnonnull _ => (match st with | x :: r => (match x.1 with | 1 => some (!Nat.beq x.2 0, r) | 8 => some (true, r) | _ => none) | [] => none)
  | _ => none
/-- the arguments off the stack (last first), by their kinds: the locals that they give, what is left -/
noncomputable def xargs (ks : List Nat) : List xV → Option (List xV × List xV) := List.rec (fun st => some ([], st)) (fun k _ ih st =>
  match ih st with
  | some (ls, v :: r) => some ((match k with | 0 => v :: ls | _ => v :: (7, 0) :: ls), r)
  | _ => none) ks
