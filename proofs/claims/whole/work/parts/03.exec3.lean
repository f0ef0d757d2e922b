/-- an end: 0 returned nothing, 1 returned a value, 2 threw (the exception's class in the value's place) -/
abbrev xR : Type := Nat × xV × xH
/-- the number behind the key k in key, number, key, number .. -/
noncomputable def xkey (k : Nat) : List Nat → Option Nat := fun w => (List.rec (motive := fun _ => Bool → Nat → Option Nat) (fun _ _ => none) (fun a _ ih s p => match s with
  | true => ih false a
  | false => if Nat.beq p k then some a else ih true 0) w) true 0
noncomputable def xmeth (G : xG) (m : Nat) : Option xM := xg (xgd [] G.1 (m / 16)) (m % 16)
/-- which method a call goes to: kind 0 static, 1 the named one, 2 by the receiver's class -/
noncomputable def xtgt (G : xG) (h : xH) (w : List Nat) (ls : List xV) : Option Nat := match w with
  | 0 :: m :: _ => some m
  | 1 :: m :: _ => (match ls with | v :: _ => (match xcell G h v with | some _ => some m | none => none) | [] => none)
  | 2 :: _ :: ds => (match ls with | v :: _ => (match xcell G h v with | some c => xkey c.1.1 ds | none => none) | [] => none)
  | _ => none
noncomputable def xcopy (G : xG) (st : List xV) (h : xH) : Option (List xV × xH) := match st with
  | n :: dp :: d :: sp :: s :: r => (match n.1, dp.1, sp.1, xcell G h s, xnewk h d with
    | 0, 0, 0, some cs, some q => (match hget h q with
      | some cd => if Nat.ble 2147483648 n.2 && Nat.ble 2147483648 dp.2 && Nat.ble 2147483648 sp.2 && Nat.ble (sp.2 - 2147483648 + (n.2 - 2147483648)) cs.1.2.1 && Nat.ble (dp.2 - 2147483648 + (n.2 - 2147483648)) cd.1.2.1 && Nat.beq cs.1.1 cd.1.1 && Nat.beq (cs.1.1 % 2) 1
        then xforce (n.2 - 2147483648) fun m => some (r, hset h q (xcpy cs (sp.2 - 2147483648) (dp.2 - 2147483648) cd m)) else none
      | none => none)
    | _, _, _, _, _ => none)
  | _ => none
noncomputable def xsw (E : List (Nat × Nat × Nat)) (x : xV) (w : List Nat) (dflt : Nat) : Option Nat :=
  (List.rec (motive := fun _ => Bool → Nat → Option Nat) (fun _ _ => some dflt) (fun a _ ih s p => match s with
  | true => ih false a
  | false => (match xcmp E .eq x (0, p) with
    | some true => some a
    | some false => ih true 0
    | none => none)) w) true 0
noncomputable def xL (G : xG) (E : List (Nat × Nat × Nat)) (n0 : Nat) : Nat → List xI → List xB → List xV → List xV → xH → Option xR :=
  Nat.rec (motive := fun _ => Nat → List xI → List xB → List xV → List xV → xH → Option xR) (fun _ _ _ _ _ _ => none) (fun _ ih d is code st ls h =>
    let jump := fun (k : Nat) (st' : List xV) => match xg code k with
      | some b => ih d b.2 code st' ls h
      | none => none
    match is with
    | [] => none
    | (i, w) :: rest =>
      let call := fun (z : Bool) => match w with
        | 3 :: _ => (match st with | o :: r => (match xnewk h o with | some _ => ih d rest code r ls h | none => none) | [] => none)
        | 4 :: _ => (match xcopy G st h with | some (r, h') => ih d rest code r ls h' | none => none)
        | _ :: m0 :: _ => (match xmeth G m0, d with
          | some M0, d' + 1 => (match xargs M0.2.1 st with
            | some (la, r) => if Nat.ble r.length 4 then (match xtgt G h w la with
              | some m => (match xmeth G m with
                | some M => (match M.2.2.1 with
                  | b :: _ => (match ih d' b.2 M.2.2.1 [] la h with
                    | some (0, _, h') => ih d rest code r ls h'
                    | some (1, v, h') => ih d rest code (v :: r) ls h'
                    | _ => none)
                  | [] => none)
                | none => none)
              | none => none) else none
            | none => none)
          | _, _ => none)
        | _ => none
      match i with
      | .return_ => (match st with | [] => some (0, (7, 0), h) | _ => none)
      | .ireturn => (match w, st with | [t], [v] => if Nat.blt t 5 && xfits E t v then some (1, v, h) else none | _, _ => none)
      | .lreturn => (match st with | [v] => if xisL v.1 then some (1, v, h) else none | _ => none)
      | .dreturn => (match st with | [v] => if xisD v.1 then some (1, v, h) else none | _ => none)
      | .areturn => (match st with | [v] => (match v.1 with | 1 => some (1, v, h) | _ => none) | _ => none)
      | .ret k => jump k st
      | .goto _ => (match w with | [k] => jump k st | _ => none)
      | .ifCond _ _ => (match w, xbr E i st with | [k], some (true, r) => jump k r | _, some (false, r) => ih d rest code r ls h | _, _ => none)
      | .if_icmp _ _ => (match w, xbr E i st with | [k], some (true, r) => jump k r | _, some (false, r) => ih d rest code r ls h | _, _ => none)
      | .if_acmp _ _ => (match w, xbr E i st with | [k], some (true, r) => jump k r | _, some (false, r) => ih d rest code r ls h | _, _ => none)
      | .ifnull _ => (match w, xbr E i st with | [k], some (true, r) => jump k r | _, some (false, r) => ih d rest code r ls h | _, _ => none)
      | .ifnonnull _ => (match w, xbr E i st with | [k], some (true, r) => jump k r | _, some (false, r) => ih d rest code r ls h | _, _ => none)
      | .tableswitch _ _ _ _ => (match w, st with | dk :: ks, x :: r => (match xsw E x ks dk with | some k => jump k r | none => none) | _, _ => none)
      | .lookupswitch _ _ => (match w, st with | dk :: ks, x :: r => (match xsw E x ks dk with | some k => jump k r | none => none) | _, _ => none)
      | .invokestatic _ => call true
      | .invokevirtual _ => call true
      | .invokespecial _ => call true
      | .invokeinterface _ _ => call true
      | _ => (match xstep G E i w st ls h with
        | some (st', ls', h') => ih d rest code st' ls' h'
        | none => none)) n0
noncomputable def xcall (G : xG) (E : List (Nat × Nat × Nat)) (n d m : Nat) (la : List xV) (h : xH) : Option xR := match xmeth G m with
  | some M => (match M.2.2.1 with
    | b :: _ => xL G E n d b.2 M.2.2.1 [] la h
    | [] => none)
  | none => none
/-- for looks: kind, value, cells, slots -/
noncomputable def xlook (r : Option xR) : Nat × xV × Nat × Nat := match r with
  | some (k, v, h) => (k, v, h.1, h.2.1)
  | none => (9, (9, 9), 0, 0)
