/-! the pure side: rules of the abstract run -/
theorem pI_m {st : List AV} {k k' : Int → List AV → Prop} (h : pI st k) (hk : ∀ x st, k x st → k' x st) : pI st k' := by
  obtain ⟨x, st', rfl, h⟩ := pI_ok h; exact hk _ _ (by assumption)
theorem pL_m {st : List AV} {k k' : Int → List AV → Prop} (h : pL st k) (hk : ∀ x st, k x st → k' x st) : pL st k' := by
  obtain ⟨x, st', rfl, h⟩ := pL_ok h; exact hk _ _ (by assumption)
theorem pR_m {st : List AV} {k k' : Nat → List AV → Prop} (h : pR st k) (hk : ∀ x st, k x st → k' x st) : pR st k' := by
  obtain ⟨x, st', rfl, h⟩ := pR_ok h; exact hk _ _ (by assumption)
theorem pV_m {st : List AV} {k k' : AV → List AV → Prop} (h : pV st k) (hk : ∀ x st, k x st → k' x st) : pV st k' := by
  unfold pV at h ⊢
  split at h
  · exact hk _ _ h
  · exact hk _ _ h
  · exact h.elim
theorem pN_m : ∀ {n : Nat} {st acc : List AV} {k k' : List AV → List AV → Prop}, pN n st acc k → (∀ as st, k as st → k' as st) → pN n st acc k'
  | 0, _, _, _, _, h, hk => hk _ _ h
  | _ + 1, [], _, _, _, h, _ => h.elim
  | n + 1, v :: st, acc, _, _, h, hk => pN_m (n := n) (st := st) (acc := v :: acc) h hk
theorem gI_m {ls : AL} {i : Nat} {k k' : Int → Prop} (h : gI ls i k) (hk : ∀ x, k x → k' x) : gI ls i k' := by
  unfold gI at h ⊢; split at h
  · exact hk _ h
  · exact h.elim
theorem gL_m {ls : AL} {i : Nat} {k k' : Int → Prop} (h : gL ls i k) (hk : ∀ x, k x → k' x) : gL ls i k' := by
  unfold gL at h ⊢; split at h
  · exact hk _ h
  · exact h.elim
theorem gR_m {ls : AL} {i : Nat} {k k' : Nat → Prop} (h : gR ls i k) (hk : ∀ x, k x → k' x) : gR ls i k' := by
  unfold gR at h ⊢; split at h
  · exact hk _ h
  · exact h.elim
theorem sL_m {ls : AL} {i : Nat} {v : AV} {k k' : AL → Prop} (h : sL ls i v k) (hk : ∀ x, k x → k' x) : sL ls i v k' := by
  unfold sL at h ⊢; split at h
  · exact hk _ h
  · exact h.elim
theorem co_m {b : Bool} {x x' y y' : Prop} (h : cond b x y) (h1 : x → x') (h2 : y → y') : cond b x' y' := by
  cases b
  · exact h2 h
  · exact h1 h
theorem aR_m {w : Wd} {sc : SC} {a : Nat} {i : Int} {k k' : Int → Prop} (h : aR w sc a i k) (hk : ∀ x, k x → k' x) : aR w sc a i k' := by
  unfold aR at h ⊢; split at h
  · refine co_m h (fun q => ⟨q.1, hk _ q.2⟩) (fun q => co_m q (fun q => ?_) id)
    split at q
    · exact ⟨q.1, hk _ q.2⟩
    · exact q.elim
  · exact h.elim
theorem aL_m {sc : SC} {a : Nat} {k k' : Int → Prop} (h : aL sc a k) (hk : ∀ x, k x → k' x) : aL sc a k' := by
  unfold aL at h ⊢; split at h
  · refine co_m h (fun q => hk _ q) (fun q => co_m q (fun q => ?_) id)
    split at q
    · exact hk _ q
    · exact q.elim
  · exact h.elim
theorem aW_m {a : Nat} {i : Int} {k k' : Prop} (h : aW a i k) (hk : k → k') : aW a i k' := by
  unfold aW at h ⊢; split at h
  · exact co_m h (fun q => ⟨q.1, hk q.2⟩) id
  · exact h.elim
theorem zA_m {a : Nat} {i : Int} {k k' : Prop} (h : zA a i k) (hk : k → k') : zA a i k' := by
  unfold zA at h ⊢; split at h
  · exact co_m h (fun q => ⟨q.1, hk q.2⟩) id
  · exact h.elim
theorem rA_m {a : Nat} {i : Int} {k k' : Nat → Prop} (h : rA a i k) (hk : ∀ x, k x → k' x) : rA a i k' := by
  unfold rA at h ⊢; split at h
  · exact ⟨h.1, hk _ h.2⟩
  · exact h.elim
theorem fG_m {w : Wd} {r ci j : Nat} {k k' : AV → Prop} (h : fG w r ci j k) (hk : ∀ x, k x → k' x) : fG w r ci j k' := by
  unfold fG at h ⊢; split at h
  · refine co_m h (fun q => ?_) id
    split at q
    · exact hk _ q
    · exact hk _ q
    · exact hk _ q
    · exact hk _ q
    · exact q.elim
  · exact h.elim
theorem fP_m {w : Wd} {r ci j : Nat} {v : AV} {k k' : Wd → Prop} (h : fP w r ci j v k) (hk : ∀ x, k x → k' x) : fP w r ci j v k' := by
  unfold fP at h ⊢; split at h
  · refine co_m h (fun q => ?_) id
    split at q
    · split at q
      · exact hk _ q
      · exact q.elim
    · split at q
      · exact co_m q (hk _) (fun q => co_m q (hk _) id)
      · exact q.elim
    · split at q
      · exact ⟨q.1, hk _ q.2⟩
      · exact q.elim
    · exact q.elim
  · exact h.elim
theorem br_m {c : ClassFile.Cond} {a b : Int} {t t' f f' : Prop} (h : brI c a b t f) (h1 : t → t') (h2 : f → f') : brI c a b t' f' := by
  cases c <;> (unfold brI at h ⊢; dsimp only at h ⊢; split at h)
  all_goals (first | (rename_i q; rw [if_pos q]; first | exact h1 h | exact h2 h) | (rename_i q; rw [if_neg q]; first | exact h1 h | exact h2 h))
theorem sw_m {pc : Nat} {d : Int} {k k' : Nat → Prop} (hk : ∀ x, k x → k' x) : ∀ {l : List (Int × Int)} {v : Int}, swT pc d k l v → swT pc d k' l v
  | [], _, h => hk _ h
  | (a, o) :: l, v, h => by
    unfold swT at h ⊢
    split at h
    · rename_i q; rw [if_pos q]; exact hk _ h
    · rename_i q; rw [if_neg q]; exact sw_m hk h
def CMono (C C' : CT) : Prop := ∀ x as w K K', C x as w K → (∀ v w, K v w → K' v w) → C' x as w K'
theorem rI_m {k k' : Int → Wd → Prop} (hk : ∀ x w, k x w → k' x w) : ∀ v w, rI k v w → rI k' v w
  | some (.inl x), w, h => hk x w h
  | none, _, h => h.elim
  | some (.inr _), _, h => h.elim
theorem rV_m {k k' : Wd → Prop} (hk : ∀ w, k w → k' w) : ∀ v w, rV k v w → rV k' v w
  | none, w, h => hk w h
  | some _, _, h => h.elim
theorem cal_m {C C' : CT} {x : Nat} {as : List AV} {P P' : AS → Prop} {pc : Nat} {ls : AL} {st : List AV} {w : Wd} (hC : CMono C C') (hP : ∀ s, P s → P' s) (h : cal C x as P pc ls st w) : cal C' x as P' pc ls st w := by
  unfold cal at h ⊢
  split at h
  · split at h
    · exact hC _ _ _ _ _ h (rV_m fun _ q => hP _ q)
    · exact hC _ _ _ _ _ h (rI_m fun _ _ q => hP _ q)
  · exact h.elim
theorem step_m {sc : SC} {C C' : CT} {cdk : Nat → Ent} {Q Q' : Option AV → Wd → Prop} {P P' : AS → Prop} (hC : CMono C C') (hQ : ∀ v w, Q v w → Q' v w) (hP : ∀ s, P s → P' s) (s : AS) (h : stepP sc C cdk Q P s) : stepP sc C' cdk Q' P' s := by
  obtain ⟨pc, ls, st, w⟩ := s
  unfold stepP at h ⊢
  dsimp only at h ⊢
  refine co_m h id (fun h => ?_)
  generalize cdk pc = en at h ⊢
  obtain ⟨ins, len, x, y⟩ := en
  cases ins with
  | iconst n => exact hP _ h
  | bipush n => exact hP _ h
  | sipush n => exact hP _ h
  | ldc i => exact co_m h (hP _) (hP _)
  | ldc_w i => exact hP _ h
  | ldc2_w i => exact hP _ h
  | iload i => exact gI_m h fun _ q => hP _ q
  | iload_n i => exact gI_m h fun _ q => hP _ q
  | lload_n i => exact gL_m h fun _ q => hP _ q
  | aload i => exact gR_m h fun _ q => hP _ q
  | aload_n i => exact gR_m h fun _ q => hP _ q
  | istore i => exact pI_m h fun _ _ q => sL_m q fun _ q => hP _ q
  | istore_n i => exact pI_m h fun _ _ q => sL_m q fun _ q => hP _ q
  | iinc i n => exact gI_m h fun _ q => sL_m q fun _ q => hP _ q
  | iadd => exact pI_m h fun _ _ q => pI_m q fun _ _ q => hP _ q
  | isub => exact pI_m h fun _ _ q => pI_m q fun _ _ q => hP _ q
  | imul => exact pI_m h fun _ _ q => pI_m q fun _ _ q => hP _ q
  | idiv => exact pI_m h fun _ _ q => pI_m q fun _ _ q => ⟨q.1, hP _ q.2⟩
  | irem => exact pI_m h fun _ _ q => pI_m q fun _ _ q => ⟨q.1, hP _ q.2⟩
  | ineg => exact pI_m h fun _ _ q => hP _ q
  | iand => exact pI_m h fun _ _ q => pI_m q fun _ _ q => hP _ q
  | ior => exact pI_m h fun _ _ q => pI_m q fun _ _ q => hP _ q
  | ixor => exact pI_m h fun _ _ q => pI_m q fun _ _ q => hP _ q
  | ishl => exact pI_m h fun _ _ q => pI_m q fun _ _ q => hP _ q
  | ishr => exact pI_m h fun _ _ q => pI_m q fun _ _ q => hP _ q
  | iushr => exact pI_m h fun _ _ q => pI_m q fun _ _ q => hP _ q
  | i2l => exact pI_m h fun _ _ q => hP _ q
  | l2i => exact pL_m h fun _ _ q => hP _ q
  | land => exact pL_m h fun _ _ q => pL_m q fun _ _ q => hP _ q
  | lor => exact pL_m h fun _ _ q => pL_m q fun _ _ q => hP _ q
  | lshl => exact pI_m h fun _ _ q => pL_m q fun _ _ q => hP _ q
  | lshr => exact pI_m h fun _ _ q => pL_m q fun _ _ q => hP _ q
  | dup => exact pV_m h fun _ _ q => hP _ q
  | dup2 => exact pV_m h fun _ _ q => pV_m q fun _ _ q => hP _ q
  | iaload => exact pI_m h fun _ _ q => pR_m q fun _ _ q => aR_m q fun _ q => hP _ q
  | baload => exact pI_m h fun _ _ q => pR_m q fun _ _ q => zA_m q fun q => hP _ q
  | aaload => exact pI_m h fun _ _ q => pR_m q fun _ _ q => rA_m q fun _ q => hP _ q
  | iastore => exact pI_m h fun _ _ q => pI_m q fun _ _ q => pR_m q fun _ _ q => aW_m q fun q => hP _ q
  | bastore => exact pI_m h fun _ _ q => pI_m q fun _ _ q => pR_m q fun _ _ q => zA_m q fun q => ⟨q.1, hP _ q.2⟩
  | arraylength => exact pR_m h fun _ _ q => aL_m q fun _ q => hP _ q
  | getfield i => exact pR_m h fun _ _ q => fG_m q fun _ q => hP _ q
  | putfield i => exact pV_m h fun _ _ q => pR_m q fun _ _ q => fP_m q fun _ q => hP _ q
  | goto off => exact hP _ h
  | ifCond cn off => exact pI_m h fun _ _ q => br_m q (hP _) (hP _)
  | if_icmp cn off => exact pI_m h fun _ _ q => pI_m q fun _ _ q => br_m q (hP _) (hP _)
  | tableswitch d lo hi offs => exact pI_m h fun _ _ q => sw_m (fun _ q => hP _ q) q
  | lookupswitch d ps => exact pI_m h fun _ _ q => sw_m (fun _ q => hP _ q) q
  | invokevirtual i =>
    refine co_m h (fun h => pN_m h fun _ _ q => pR_m q fun r _ q => ?_) (fun h => co_m h (fun h => pR_m h fun _ _ q => co_m q (fun q => co_m q (hP _) fun q => co_m q (hP _) id) id) (fun h => co_m h (fun h => pI_m h fun _ _ q => pR_m q fun _ _ q => co_m q (fun q => co_m q (fun q => ⟨q.1, hP _ q.2⟩) fun q => co_m q (fun q => ⟨q.1, hP _ q.2⟩) id) id) id))
    generalize shq r = sh at q ⊢
    match sh, q with
    | .inr (.inr (c, _)), q => exact co_m q (cal_m hC hP) id
  | invokestatic i =>
    refine co_m h (fun h => pN_m h fun _ _ q => cal_m hC hP q) (fun h => co_m h (fun h => pI_m h fun _ _ q => pI_m q fun _ _ q => co_m q (hP _) id) (fun h => co_m h (fun h => pI_m h fun _ _ q => pI_m q fun _ _ q => co_m q (hP _) id) (fun h => co_m h (fun h => pI_m h fun _ _ q => pI_m q fun _ _ q => pR_m q fun d _ q => pI_m q fun _ _ q => pR_m q fun s1 _ q => ?_) id)))
    generalize shq s1 = sh1 at q ⊢
    generalize shq d = sh2 at q ⊢
    match sh1, sh2, q with
    | .inl (t1, n1), .inl (t2, n2), q => exact co_m q (fun q => ⟨q.1, hP _ q.2⟩) id
  | ireturn =>
    match st, h with
    | [.inl v], h => exact co_m h (fun q => ⟨q.1, hQ _ _ q.2⟩) (hQ _ _)
  | return_ =>
    match st, h with
    | [], h => exact hQ _ _ h
  | _ => exact False.elim h
theorem cm_rfl {C : CT} (h : CMono C C) : CMono C C := h
theorem Ev.m {sc : SC} {C C' : CT} {cdk : Nat → Ent} {Q Q' : Option AV → Wd → Prop} (hC : CMono C C') (hQ : ∀ v w, Q v w → Q' v w) {s : AS} (h : Ev sc C cdk Q s) : Ev sc C' cdk Q' s := fun P hP hf => h P (fun s q => hP s (step_m hC hQ (fun _ z => z) s q)) hf
theorem Ev.step {sc : SC} {C : CT} {cdk : Nat → Ent} {Q : Option AV → Wd → Prop} (hC : CMono C C) {s : AS} (h : stepP sc C cdk Q (Ev sc C cdk Q) s) : Ev sc C cdk Q s := fun P hP hf => hP s (step_m hC (fun _ _ z => z) (fun s q => q P hP hf) s h)
abbrev forgX := forg
theorem Ev.forg {sc : SC} {C : CT} {cdk : Nat → Ent} {Q : Option AV → Wd → Prop} (mk : List Bool) {pc : Nat} {ls : AL} {st : List AV} {w : Wd} (h : Ev sc C cdk Q (pc, forgX mk ls, st, w)) : Ev sc C cdk Q (pc, ls, st, w) := fun P hP hf => hf mk pc ls st w (h P hP hf)
theorem Cal_m : ∀ d, CMono (Cal d) (Cal d) ∧ CMono (Cal d) (Cal (d + 1))
  | 0 => ⟨fun _ _ _ _ _ h _ => h.elim, fun _ _ _ _ _ h _ => h.elim⟩
  | d + 1 => by
    obtain ⟨h1, h2⟩ := Cal_m d
    refine ⟨fun x as w K K' h hk => ?_, fun x as w K K' h hk => ?_⟩
    · unfold Cal at h ⊢
      split at h
      · exact h.m h1 hk
      · exact h.elim
    · unfold Cal at h ⊢
      split at h
      · exact h.m h2 hk
      · exact h.elim
theorem Cal.up {d d' k : Nat} {as : List AV} {w : Wd} {K K' : Option AV → Wd → Prop} (h : Cal d k as w K) (hd : d ≤ d') (hk : ∀ v w, K v w → K' v w) : Cal d' k as w K' := by
  induction hd with
  | refl => exact (Cal_m d).1 _ _ _ _ _ h hk
  | step _ ih => exact (Cal_m _).2 _ _ _ _ _ ih (fun _ _ q => q)
/-- n steps at most, up to a state whose pc is a cut; there what is wanted no more is forgotten -/
def runP (sc : SC) (C : CT) (cdk : Nat → Ent) (Q : Option AV → Wd → Prop) (cut : Nat → Option (List Bool)) (P : AS → Prop) : Nat → AS → Prop
  | 0, _ => False
  | n + 1, s => stepP sc C cdk Q (fun s' => match cut s'.1 with
    | some mm => P (s'.1, forg mm s'.2.1, s'.2.2)
    | none => runP sc C cdk Q cut P n s') s
theorem Ev.run {sc : SC} {C : CT} {cdk : Nat → Ent} {Q : Option AV → Wd → Prop} (hC : CMono C C) (cut : Nat → Option (List Bool)) : ∀ (n : Nat) {s : AS}, runP sc C cdk Q cut (Ev sc C cdk Q) n s → Ev sc C cdk Q s
  | 0, _, h => h.elim
  | n + 1, s, h => by
    unfold runP at h
    refine Ev.step hC (step_m hC (fun _ _ z => z) (fun s' q => ?_) s h)
    obtain ⟨pc, ls, st, w⟩ := s'
    dsimp only at q
    split at q
    · exact Ev.forg _ q
    · exact Ev.run hC cut n q
theorem Ev.runD {d : Nat} {cdk : Nat → Ent} {Q : Option AV → Wd → Prop} (cut : Nat → Option (List Bool)) (n : Nat) {s : AS} (h : runP none (Cal d) cdk Q cut (Ev none (Cal d) cdk Q) n s) : Ev none (Cal d) cdk Q s := Ev.run (Cal_m d).1 cut n h
