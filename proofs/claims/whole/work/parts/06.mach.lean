/-! THE ABSTRACT MACHINE: ints and longs as Int, references as numbers of cells; one step as a transformer of goals -/
abbrev AV : Type := Int ⊕ (Int ⊕ Nat)
abbrev AL : Type := List (Option AV)
abbrev Wd : Type := Nat → Nat → Int
abbrev AS : Type := Nat × AL × List AV × Wd
def wr (x : Int) : Int := (Int32.ofInt x).toInt
def iop (f : Int32 → Int32 → Int32) (a b : Int) : Int := (f (Int32.ofInt a) (Int32.ofInt b)).toInt
def iand (a b : Int) : Int := iop (fun x y => x &&& y) a b
def ior (a b : Int) : Int := iop (fun x y => x ||| y) a b
def ixor (a b : Int) : Int := iop (fun x y => x ^^^ y) a b
def ishl (a b : Int) : Int := iop (fun x y => x <<< (y &&& 31)) a b
def ishr (a b : Int) : Int := iop (fun x y => x >>> (y &&& 31)) a b
def iushr (a b : Int) : Int := iop (fun x y => (x.toUInt32 >>> (y.toUInt32 &&& Int32.toUInt32 31)).toInt32) a b
def idv (a b : Int) : Int := iop (fun x y => x / y) a b
def imd (a b : Int) : Int := iop (fun x y => x - x / y * y) a b
def lop (f : Int64 → Int64 → Int64) (a b : Int) : Int := (f (Int64.ofInt a) (Int64.ofInt b)).toInt
def land (a b : Int) : Int := lop (fun x y => x &&& y) a b
def lor (a b : Int) : Int := lop (fun x y => x ||| y) a b
def lshl (a b : Int) : Int := (Int64.ofInt a <<< ((Int32.ofInt b).toInt64 &&& 63)).toInt
def lshr (a b : Int) : Int := (Int64.ofInt a >>> ((Int32.ofInt b).toInt64 &&& 63)).toInt
def l2i (a : Int) : Int := (Int64.ofInt a).toInt32.toInt
def wst (w : Wd) (a i : Nat) (x : Int) : Wd := fun c j => if c = a ∧ j = i then x else w c j
def wcp (w : Wd) (s : Nat) (sp : Int) (d : Nat) (dp n : Int) : Wd := fun c j => if c = d ∧ dp ≤ (j : Int) ∧ (j : Int) < dp + n then w s (sp + ((j : Int) - dp)).toNat else w c j
def pI : List AV → (Int → List AV → Prop) → Prop
  | .inl x :: st, k => k x st
  | _, _ => False
def pL : List AV → (Int → List AV → Prop) → Prop
  | .inr (.inl x) :: st, k => k x st
  | _, _ => False
def pR : List AV → (Nat → List AV → Prop) → Prop
  | .inr (.inr r) :: st, k => k r st
  | _, _ => False
def pV : List AV → (AV → List AV → Prop) → Prop
  | .inl x :: st, k => k (.inl x) st
  | .inr (.inr r) :: st, k => k (.inr (.inr r)) st
  | _, _ => False
def pN : Nat → List AV → List AV → (List AV → List AV → Prop) → Prop
  | 0, st, acc, k => k acc st
  | _ + 1, [], _, _ => False
  | n + 1, v :: st, acc, k => pN n st (v :: acc) k
def gI (ls : AL) (i : Nat) (k : Int → Prop) : Prop := match ls[i]? with
  | some (some (.inl x)) => k x
  | _ => False
def gL (ls : AL) (i : Nat) (k : Int → Prop) : Prop := match ls[i]? with
  | some (some (.inr (.inl x))) => k x
  | _ => False
def gR (ls : AL) (i : Nat) (k : Nat → Prop) : Prop := match ls[i]? with
  | some (some (.inr (.inr x))) => k x
  | _ => False
def noL (ls : AL) : Nat → Bool
  | 0 => true
  | j + 1 => match ls[j]? with
    | some (some (.inr (.inl _))) => false
    | _ => true
def sL (ls : AL) (i : Nat) (v : AV) (k : AL → Prop) : Prop := match Nat.blt i ls.length && noL ls i with
  | true => k (ls.set i (some v))
  | false => False
abbrev SC : Type := Option (Int × (Nat → Int))
def aR (w : Wd) (sc : SC) (a : Nat) (i : Int) (k : Int → Prop) : Prop := match shq a with
  | .inl (t, n) => cond (Nat.beq t 0) ((0 ≤ i ∧ i < n) ∧ k (w a i.toNat)) (cond (Nat.beq t 7) (match sc with
    | some (L, xs) => (0 ≤ i ∧ i < L) ∧ k (xs i.toNat)
    | none => False) False)
  | _ => False
def aW (a : Nat) (i : Int) (k : Prop) : Prop := match shq a with
  | .inl (t, n) => cond (Nat.beq t 0) ((0 ≤ i ∧ i < n) ∧ k) False
  | _ => False
def zA (a : Nat) (i : Int) (k : Prop) : Prop := match shq a with
  | .inl (t, n) => cond (Nat.beq t 1) ((0 ≤ i ∧ i < n) ∧ k) False
  | _ => False
def aL (sc : SC) (a : Nat) (k : Int → Prop) : Prop := match shq a with
  | .inl (t, n) => cond (Nat.beq t 0) (k n) (cond (Nat.beq t 7) (match sc with
    | some (L, _) => k L
    | none => False) False)
  | _ => False
def rA (a : Nat) (i : Int) (k : Nat → Prop) : Prop := match shq a with
  | .inr (.inl (b, n)) => (0 ≤ i ∧ i < n) ∧ k (b + i.toNat)
  | _ => False
def fG (w : Wd) (r ci j : Nat) (k : AV → Prop) : Prop := match shq r with
  | .inr (.inr (c, fs)) => cond (Nat.beq c ci) (match fs[j]? with
    | some 0 => k (.inl (w r j))
    | some 1 => k (.inr (.inr (1000 + (w r j).toNat)))
    | some 2 => k (.inl (w r j))
    | some (q + 3) => k (.inr (.inr q))
    | none => False) False
  | _ => False
def fP (w : Wd) (r ci j : Nat) (v : AV) (k : Wd → Prop) : Prop := match shq r with
  | .inr (.inr (c, fs)) => cond (Nat.beq c ci) (match fs[j]? with
    | some 0 => (match v with
      | .inl x => k (wst w r j x)
      | _ => False)
    | some 1 => (match v with
      | .inr (.inr q) => cond (Nat.beq q 1000) (k (wst w r j 0)) (cond (Nat.beq q 1001) (k (wst w r j 1)) False)
      | _ => False)
    | some 2 => (match v with
      | .inl x => (x = 0 ∨ x = 1) ∧ k (wst w r j x)
      | _ => False)
    | _ => False) False
  | _ => False
def brI (c : ClassFile.Cond) (a b : Int) (t f : Prop) : Prop := match c with
  | .eq => if a = b then t else f
  | .ne => if a = b then f else t
  | .lt => if a < b then t else f
  | .ge => if a < b then f else t
  | .gt => if b < a then t else f
  | .le => if b < a then f else t
def swT (pc : Nat) (d : Int) (k : Nat → Prop) : List (Int × Int) → Int → Prop
  | [], _ => k ((pc : Int) + d).toNat
  | (a, o) :: l, v => if v = a then k ((pc : Int) + o).toNat else swT pc d k l v
def tsl : Int → List Int → List (Int × Int)
  | _, [] => []
  | lo, o :: l => (lo, o) :: tsl (lo + 1) l
def okr (st : List AV) : Bool := Nat.ble st.length 8 && st.all (fun v => match v with
  | .inr (.inl _) => false
  | _ => true)
def rI (k : Int → Wd → Prop) : Option AV → Wd → Prop
  | some (.inl x), w => k x w
  | _, _ => False
def rV (k : Wd → Prop) : Option AV → Wd → Prop
  | none, w => k w
  | _, _ => False
abbrev CT : Type := Nat → List AV → Wd → (Option AV → Wd → Prop) → Prop
def cal (C : CT) (x : Nat) (as : List AV) (P : AS → Prop) (pc : Nat) (ls : AL) (st : List AV) (w : Wd) : Prop := match okr st with
  | true => (match rM x with
    | none => C x as w (rV fun w1 => P (pc + 3, ls, st, w1))
    | some _ => C x as w (rI fun v w1 => P (pc + 3, ls, .inl v :: st, w1)))
  | false => False
def chA (q : Nat) (i : Int) : Int := cond (Nat.beq q 1000) (if i = 0 then 104 else if i = 1 then 112 else if i = 2 then 103 else if i = 3 then 100 else 121) (97 + i)
def stepP (sc : SC) (C : CT) (cdk : Nat → Ent) (Q : Option AV → Wd → Prop) (P : AS → Prop) : AS → Prop
  | (pc, ls, st, w) => cond (Nat.beq (cdk pc).2.1 0) False (match cdk pc with
    | (.iconst n, _, _, _) => P (pc + 1, ls, .inl n :: st, w)
    | (.bipush n, _, _, _) => P (pc + 2, ls, .inl n :: st, w)
    | (.sipush n, _, _, _) => P (pc + 3, ls, .inl n :: st, w)
    | (.ldc _, _, x, y) => cond (Nat.beq y 0) (P (pc + 2, ls, .inl (x : Int) :: st, w)) (P (pc + 2, ls, .inr (.inr y) :: st, w))
    | (.ldc_w _, _, x, _) => P (pc + 3, ls, .inl (x : Int) :: st, w)
    | (.ldc2_w _, _, x, _) => P (pc + 3, ls, .inr (.inl (x : Int)) :: st, w)
    | (.iload i, _, _, _) => gI ls i fun x => P (pc + 2, ls, .inl x :: st, w)
    | (.iload_n i, _, _, _) => gI ls i fun x => P (pc + 1, ls, .inl x :: st, w)
    | (.lload_n i, _, _, _) => gL ls i fun x => P (pc + 1, ls, .inr (.inl x) :: st, w)
    | (.aload i, _, _, _) => gR ls i fun x => P (pc + 2, ls, .inr (.inr x) :: st, w)
    | (.aload_n i, _, _, _) => gR ls i fun x => P (pc + 1, ls, .inr (.inr x) :: st, w)
    | (.istore i, _, _, _) => pI st fun x st => sL ls i (.inl x) fun ls => P (pc + 2, ls, st, w)
    | (.istore_n i, _, _, _) => pI st fun x st => sL ls i (.inl x) fun ls => P (pc + 1, ls, st, w)
    | (.iinc i n, _, _, _) => gI ls i fun x => sL ls i (.inl (wr (x + n))) fun ls => P (pc + 3, ls, st, w)
    | (.iadd, _, _, _) => pI st fun b st => pI st fun a st => P (pc + 1, ls, .inl (wr (a + b)) :: st, w)
    | (.isub, _, _, _) => pI st fun b st => pI st fun a st => P (pc + 1, ls, .inl (wr (a - b)) :: st, w)
    | (.imul, _, _, _) => pI st fun b st => pI st fun a st => P (pc + 1, ls, .inl (wr (a * b)) :: st, w)
    | (.idiv, _, _, _) => pI st fun b st => pI st fun a st => ¬ b = 0 ∧ P (pc + 1, ls, .inl (idv a b) :: st, w)
    | (.irem, _, _, _) => pI st fun b st => pI st fun a st => ¬ b = 0 ∧ P (pc + 1, ls, .inl (imd a b) :: st, w)
    | (.ineg, _, _, _) => pI st fun a st => P (pc + 1, ls, .inl (wr (-a)) :: st, w)
    | (.iand, _, _, _) => pI st fun b st => pI st fun a st => P (pc + 1, ls, .inl (iand a b) :: st, w)
    | (.ior, _, _, _) => pI st fun b st => pI st fun a st => P (pc + 1, ls, .inl (ior a b) :: st, w)
    | (.ixor, _, _, _) => pI st fun b st => pI st fun a st => P (pc + 1, ls, .inl (ixor a b) :: st, w)
    | (.ishl, _, _, _) => pI st fun b st => pI st fun a st => P (pc + 1, ls, .inl (ishl a b) :: st, w)
    | (.ishr, _, _, _) => pI st fun b st => pI st fun a st => P (pc + 1, ls, .inl (ishr a b) :: st, w)
    | (.iushr, _, _, _) => pI st fun b st => pI st fun a st => P (pc + 1, ls, .inl (iushr a b) :: st, w)
    | (.i2l, _, _, _) => pI st fun a st => P (pc + 1, ls, .inr (.inl a) :: st, w)
    | (.l2i, _, _, _) => pL st fun a st => P (pc + 1, ls, .inl (l2i a) :: st, w)
    | (.land, _, _, _) => pL st fun b st => pL st fun a st => P (pc + 1, ls, .inr (.inl (land a b)) :: st, w)
    | (.lor, _, _, _) => pL st fun b st => pL st fun a st => P (pc + 1, ls, .inr (.inl (lor a b)) :: st, w)
    | (.lshl, _, _, _) => pI st fun b st => pL st fun a st => P (pc + 1, ls, .inr (.inl (lshl a b)) :: st, w)
    | (.lshr, _, _, _) => pI st fun b st => pL st fun a st => P (pc + 1, ls, .inr (.inl (lshr a b)) :: st, w)
    | (.dup, _, _, _) => pV st fun v st => P (pc + 1, ls, v :: v :: st, w)
    | (.dup2, _, _, _) => pV st fun v st => pV st fun u st => P (pc + 1, ls, v :: u :: v :: u :: st, w)
    | (.iaload, _, _, _) => pI st fun i st => pR st fun a st => aR w sc a i fun x => P (pc + 1, ls, .inl x :: st, w)
    | (.baload, _, _, _) => pI st fun i st => pR st fun a st => zA a i (P (pc + 1, ls, .inl (w a i.toNat) :: st, w))
    | (.aaload, _, _, _) => pI st fun i st => pR st fun a st => rA a i fun r => P (pc + 1, ls, .inr (.inr r) :: st, w)
    | (.iastore, _, _, _) => pI st fun x st => pI st fun i st => pR st fun a st => aW a i (P (pc + 1, ls, st, wst w a i.toNat x))
    | (.bastore, _, _, _) => pI st fun x st => pI st fun i st => pR st fun a st => zA a i ((x = 0 ∨ x = 1) ∧ P (pc + 1, ls, st, wst w a i.toNat x))
    | (.arraylength, _, _, _) => pR st fun a st => aL sc a fun x => P (pc + 1, ls, .inl x :: st, w)
    | (.getfield _, _, x, y) => pR st fun r st => fG w r x y fun v => P (pc + 3, ls, v :: st, w)
    | (.putfield _, _, x, y) => pV st fun v st => pR st fun r st => fP w r x y v fun w => P (pc + 3, ls, st, w)
    | (.goto _, _, x, _) => P (x, ls, st, w)
    | (.ifCond c _, _, x, _) => pI st fun a st => brI c a 0 (P (x, ls, st, w)) (P (pc + 3, ls, st, w))
    | (.if_icmp c _, _, x, _) => pI st fun b st => pI st fun a st => brI c a b (P (x, ls, st, w)) (P (pc + 3, ls, st, w))
    | (.tableswitch d lo _ offs, _, _, _) => pI st fun v st => swT pc d (fun t => P (t, ls, st, w)) (tsl lo offs.toList) v
    | (.lookupswitch d ps, _, _, _) => pI st fun v st => swT pc d (fun t => P (t, ls, st, w)) ps.toList v
    | (.invokevirtual _, _, x, y) => cond (Nat.blt x 1000) (pN y st [] fun as st => pR st fun r st => match shq r with
        | .inr (.inr (c, _)) => cond (Nat.beq c (owM x)) (cal C x (.inr (.inr r) :: as) P pc ls st w) False
        | _ => False)
      (cond (Nat.beq x 1003) (pR st fun q st => cond (okr st) (cond (Nat.beq q 1000) (P (pc + 3, ls, .inl 5 :: st, w)) (cond (Nat.beq q 1001) (P (pc + 3, ls, .inl 4 :: st, w)) False)) False)
      (cond (Nat.beq x 1004) (pI st fun i st => pR st fun q st => cond (okr st) (cond (Nat.beq q 1000) ((0 ≤ i ∧ i < 5) ∧ P (pc + 3, ls, .inl (chA q i) :: st, w)) (cond (Nat.beq q 1001) ((0 ≤ i ∧ i < 4) ∧ P (pc + 3, ls, .inl (chA q i) :: st, w)) False)) False) False))
    | (.invokestatic _, _, x, y) => cond (Nat.blt x 1000) (pN y st [] fun as st => cal C x as P pc ls st w)
      (cond (Nat.beq x 1000) (pI st fun b st => pI st fun a st => cond (okr st) (P (pc + 3, ls, .inl (max a b) :: st, w)) False)
      (cond (Nat.beq x 1001) (pI st fun b st => pI st fun a st => cond (okr st) (P (pc + 3, ls, .inl (min a b) :: st, w)) False)
      (cond (Nat.beq x 1002) (pI st fun n st => pI st fun dp st => pR st fun d st => pI st fun sp st => pR st fun s st =>
        match shq s, shq d with
        | .inl (t1, n1), .inl (t2, n2) => cond (okr st && (Nat.beq t1 0 && (Nat.beq t2 0 && !Nat.beq s d))) ((0 ≤ sp ∧ 0 ≤ dp ∧ 0 ≤ n ∧ sp + n ≤ n1 ∧ dp + n ≤ n2) ∧ P (pc + 3, ls, st, wcp w s sp d dp n)) False
        | _, _ => False) False)))
    | (.ireturn, _, x, _) => (match st with
        | [.inl v] => cond (Nat.beq x 1) ((v = 0 ∨ v = 1) ∧ Q (some (.inl v)) w) (Q (some (.inl v)) w)
        | _ => False)
    | (.return_, _, _, _) => (match st with
        | [] => Q none w
        | _ => False)
    | _ => False)
/-- locals that are wanted no more are forgotten -/
def forg : List Bool → AL → AL
  | true :: m, v :: t => v :: forg m t
  | false :: m, _ :: t => none :: forg m t
  | _, l => l
def Ev (sc : SC) (C : CT) (cdk : Nat → Ent) (Q : Option AV → Wd → Prop) (s : AS) : Prop := ∀ P : AS → Prop, (∀ s, stepP sc C cdk Q P s → P s) → (∀ mk pc ls st w, P (pc, forg mk ls, st, w) → P (pc, ls, st, w)) → P s
def lay : List AV → AL
  | [] => []
  | .inr (.inl x) :: t => some (.inr (.inl x)) :: none :: lay t
  | .inl x :: t => some (.inl x) :: lay t
  | .inr (.inr x) :: t => some (.inr (.inr x)) :: lay t
def ent (n : Nat) (as : List AV) : AL := lay as ++ List.replicate (n - (lay as).length) none
def Cal : Nat → CT
  | 0 => fun _ _ _ _ => False
  | d + 1 => fun k as w Q => match Nat.ble (lay as).length (mlM k) with
    | true => Ev none (Cal d) (cd k) Q (0, ent (mlM k) as, [], w)
    | false => False
