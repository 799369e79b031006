def isSw : Instr → Bool
  | .tableswitch .. => true
  | .lookupswitch .. => true
  | _ => false
noncomputable def chF (own i ci j : Nat) : Bool := decide (lw_tbl[poF own i]? = some (Cond.fieldLink (RN own) i (TN ci j).1 (TN ci j).2.1 (TN ci j).2.2.1)) && Nat.blt ci 13 && Nat.blt j (NN ci)
noncomputable def chM (k : Nat) : Bool := decide (lw_tbl[poM k]? = some (Cond.code (yM k) (bM k) (mlM k) (rM k))) && (decide (lw_tbl[poI (owM k)]? = some (Cond.initialized (RN (owM k)))) && (decide ((yM k).cls = RN (owM k)) && (decide ((yM k).cls ≠ "java/lang/invoke/MethodHandle" ∧ (yM k).cls ≠ "java/lang/invoke/VarHandle") && (decide ((parseMethodDescriptor (yM k).desc).map (fun d => d.parameters.length) = some (npM k)) && (plainName (yM k).cls && (cond (stM k) (decide (lw_tbl[poS k]? = some (Cond.static (yM k)))) (decide (lw_tbl[poS k]? = some (Cond.instanceMethod (yM k))) && decide (lw_tbl[poX k]? = some (Cond.selects (yM k).cls (yM k) (yM k))))))))))
noncomputable def chL (own i k : Nat) : Bool := decide (lw_tbl[poL own i]? = some (Cond.methodLink (RN own) i (yM k)))
noncomputable def chB (own i : Nat) (y : MethodName) : Bool := decide (lw_tbl[poL own i]? = some (Cond.methodLink (RN own) i y))
noncomputable def chE (k pc : Nat) : Ent → Bool
  | (.getfield i, _, x, y) => chF (owM k) i x y
  | (.putfield i, _, x, y) => chF (owM k) i x y && !(TN x y).2.2.2
  | (.invokevirtual i, _, x, y) => cond (Nat.blt x 1000) (chL (owM k) i x && Nat.beq y (npM x) && (!stM x && (caM x && Nat.blt x 248))) (cond (Nat.beq x 1003) (chB (owM k) i ⟨"java/lang/String", "length", "()I"⟩) (Nat.beq x 1004 && chB (owM k) i ⟨"java/lang/String", "charAt", "(I)C"⟩))
  | (.invokestatic i, _, x, y) => cond (Nat.blt x 1000) (chL (owM k) i x && Nat.beq y (npM x) && (stM x && (caM x && Nat.blt x 248))) (cond (Nat.beq x 1000) (chB (owM k) i ⟨"java/lang/Math", "max", "(II)I"⟩) (cond (Nat.beq x 1001) (chB (owM k) i ⟨"java/lang/Math", "min", "(II)I"⟩) (Nat.beq x 1002 && chB (owM k) i ⟨"java/lang/System", "arraycopy", "(Ljava/lang/Object;ILjava/lang/Object;II)V"⟩)))
  | (.if_icmp _ off, _, x, _) => decide ((pc : Int) + off = (x : Int))
  | (.ifCond _ off, _, x, _) => decide ((pc : Int) + off = (x : Int))
  | (.goto off, _, x, _) => decide ((pc : Int) + off = (x : Int))
  | (.ldc i, _, x, y) => cond (Nat.beq y 0) (decide (lw_tbl[poK (owM k) i]? = some (Cond.constant (RN (owM k)) i (Int32.ofNat x))) && Nat.blt x 2147483648) (cond (Nat.beq y 1000) (decide (lw_tbl[poK (owM k) i]? = some (Cond.stringRef (RN (owM k)) i "hpgdy"))) (Nat.beq y 1001 && decide (lw_tbl[poK (owM k) i]? = some (Cond.stringRef (RN (owM k)) i "abcd"))))
  | (.ldc_w i, _, x, _) => decide (lw_tbl[poK (owM k) i]? = some (Cond.constant (RN (owM k)) i (Int32.ofNat x))) && Nat.blt x 2147483648
  | (.ldc2_w i, _, x, _) => decide (lw_tbl[poK (owM k) i]? = some (Cond.constantLong (RN (owM k)) i (Int64.ofNat x))) && Nat.blt x 9223372036854775808
  | (.bipush v, _, _, _) => decide ((Int8.ofInt v).toInt32 = Int32.ofInt v) && (decide (-128 ≤ v) && decide (v < 128))
  | (.sipush v, _, _, _) => decide ((Int16.ofInt v).toInt32 = Int32.ofInt v) && (decide (-32768 ≤ v) && decide (v < 32768))
  | (.iconst v, _, _, _) => decide (-1 ≤ v) && decide (v ≤ 5)
  | (.iinc _ v, _, _, _) => decide (-128 ≤ v) && decide (v < 128)
  | (.ireturn, _, x, _) => cond (Nat.beq x 1) (decide (rM k = some .boolean)) (Nat.beq x 0 && decide (rM k = some .int))
  | (.return_, _, _, _) => decide (rM k = none)
  | (.tableswitch d lo hi offs, _, _, _) => decide (0 ≤ (pc : Int) + d) && (offs.toList.all (fun q => decide (0 ≤ (pc : Int) + q)) && decide ((offs.size : Int) = hi - lo + 1))
  | (.lookupswitch d ps, _, _, _) => decide (0 ≤ (pc : Int) + d) && (ps.toList.all (fun q => decide (0 ≤ (pc : Int) + q.2)) && (ps.toList.zip (ps.toList.drop 1)).all (fun (a, next) => a.1 < next.1))
  | _ => true
noncomputable def okE (k pc : Nat) : Bool := cond (Nat.beq (cd k pc).2.1 0) true (decide (decode (bM k) pc = .ok ((cd k pc).1, (cd k pc).2.1)) && cond (skM k) true (chE k pc (cd k pc)))
