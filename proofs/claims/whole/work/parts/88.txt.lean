/-! text -/
theorem FRT_pc {w0 v : Wd} (h : FRT w0 v) : pc v = pc w0 := by
  funext c j
  show cond (isC c j) (v c j) 0 = cond (isC c j) (w0 c j) 0
  by_cases q : c = 9
  · subst q
    by_cases q1 : j = 3
    · subst q1; rfl
    · by_cases q2 : j = 4
      · subst q2; rfl
      · rw [h.2 j q1 q2]
  · by_cases q1 : c = 118
    · subst q1; rfl
    · rw [h.1 c q q1]
theorem FRT_pm {w0 v : Wd} (h : FRT w0 v) : pm v = pm w0 := by
  funext c j
  show cond (isM c j) (v c j) 0 = cond (isM c j) (w0 c j) 0
  by_cases q : c = 9
  · subst q; rfl
  · by_cases q1 : c = 118
    · subst q1; rfl
    · rw [h.1 c q q1]
section
variable {w κ τ : Wd}
theorem translate_c (hc : pc w = κ) (hm : pm w = τ) (hE : EQ κ τ) (hR : RNG τ) {n : Nat} (hn : τ 12 30 = (n : Int)) {pt : Int} (hp : pt = 0 ∨ pt = 1) {K : Int → Wd → Prop} (h1 : ∀ v T, DER pt (hdF (τ 168) n) 3 0 0 true n T → STP v T → pc v = wst κ 9 1 0 → pm v = τ → K (-1) v) (h0 : ∀ v ok j T, DER pt (hdF (τ 168) n) 3 0 0 ok j T → ¬ (ok = true ∧ j = n) → pc v = wst κ 9 1 0 → pm v = τ → K (j : Int) v) : Cal 23 46 [.inr (.inr 9), .inl pt] w (rI K) := by
  have htm := hR.M_tapeMany
  have hn40 : n ≤ 40 := by omega
  refine en_46 ?_
  have go : ∀ p' : Int, p' = pt → Cal 22 47 [.inr (.inr 9), .inl 0] (wst (wst (wst w 9 5 p') 9 4 0) 9 3 0) (rI fun v1 w1 => if v1 = 0 then K ((wst w1 9 1 0) 9 4) (wst w1 9 1 0) else if w1 9 4 = w1 9 1 then K (-1) (wst w1 9 1 0) else K ((wst w1 9 1 0) 9 4) (wst w1 9 1 0)) := by
    rintro p' rfl
    generalize hw0 : wst (wst (wst w 9 5 p') 9 4 0) 9 3 0 = w0
    have c0 : pc w0 = κ := by rw [← hw0, pc_out rfl, pc_out rfl, pc_out rfl]; exact hc
    have m0 : pm w0 = τ := by rw [← hw0, pm_out rfl, pm_out rfl, pm_out rfl]; exact hm
    have e91 : w0 9 1 = (n : Int) := ((r9_1 c0).trans hE.Tape_size).trans hn
    have hH : HTP w0 n (hdF (τ 168) n) p' := by
      refine ⟨e91, hn40, fun i hi => ?_, hdF_ok (fun i => hR.M_tape i) n, by rw [← hw0]; rfl, hp⟩
      unfold hdF
      rw [if_pos hi]
      exact (r117 c0 i).trans (hE.Tape_bytes i)
    refine rule_all hH 4 0 rfl 0 w0 [] _ ⟨⟨fun _ _ _ => rfl, fun _ _ _ => rfl⟩, by rw [← hw0]; rfl, by rw [← hw0]; show (0 : Int) ≤ 0; omega, by rw [← hw0]; show (0 : Int) ≤ 40; omega⟩ (Nat.zero_le _) ⟨by rw [← hw0]; rfl, fun k x hk => absurd hk (by simp)⟩ (Nat.le_refl _) (fun v ok j T hd hv hvs => ?_)
    have v91 : v 9 1 = (n : Int) := (hv.1.2 1 (by decide) (by decide)).trans e91
    have v94 : v 9 4 = (j : Int) := hv.2.1
    have vc : pc (wst v 9 1 0) = wst κ 9 1 0 := by rw [pc_in rfl, FRT_pc hv.1, c0]
    have vm : pm (wst v 9 1 0) = τ := by rw [pm_out rfl, FRT_pm hv.1, m0]
    have w94 : (wst v 9 1 0) 9 4 = (j : Int) := v94
    cases ok
    · rw [show bI false = 0 from rfl, if_pos rfl, w94]
      exact h0 _ false j T hd (fun q => absurd q.1 (by decide)) vc vm
    · rw [show bI true = 1 from rfl, if_neg (by decide), v94, v91, w94]
      refine ite_i (fun q => ?_) (fun q => ?_)
      · obtain rfl : j = n := by omega
        exact h1 _ T hd (hvs rfl) vc vm
      · exact h0 _ true j T hd (fun z => q (by omega)) vc vm
  refine ite_i (fun q => go 0 q.symm) (fun q => go 1 (by omega))
theorem textsAdd_c (hc : pc w = κ) {t : Nat} (ht : κ 10 2 = (t : Int)) (h20 : t < 20) {T : List Int} (hs : STP w T) (hl : T.length ≤ 40) {x : Int} (hx : x = (T.length : Int)) : Cal 1 71 [.inr (.inr 10), .inr (.inr 118), .inl x] w (rI fun y u => y = (t : Int) ∧ pc u = wst (wst (rowL κ t T) 140 t (T.length : Int)) 10 2 ((t : Int) + 1) ∧ pm u = pm w) := by
  subst hx
  have e1 : w 10 2 = (t : Int) := (r10_2 hc).trans ht
  refine en_71 ?_
  rw [e1, tn]
  refine ⟨by omega, ?_⟩
  rw [shq_rul t h20, show shq 118 = .inl (0, 40) from rfl]
  show cond (Nat.beq 0 0 && (Nat.beq 0 0 && !Nat.beq 118 (120 + t))) _ False
  rw [show Nat.beq 118 (120 + t) = false from by cases h : Nat.beq 118 (120 + t) with
    | false => rfl
    | true => exact absurd (Nat.eq_of_beq_eq_true h) (by omega)]
  show (0 ≤ (0 : Int) ∧ 0 ≤ (0 : Int) ∧ 0 ≤ (T.length : Int) ∧ (0 : Int) + (T.length : Int) ≤ 40 ∧ (0 : Int) + (T.length : Int) ≤ 40) ∧ _
  refine ⟨by omega, ?_⟩
  have e2 : (wcp w 118 0 (120 + t) 0 (T.length : Int)) 10 2 = (t : Int) := by
    show (if 10 = 120 + t ∧ _ then _ else w 10 2) = _
    rw [if_neg (by omega)]
    exact e1
  have e3 : ∀ y : Int, (wst (wst (wcp w 118 0 (120 + t) 0 (T.length : Int)) 140 t (T.length : Int)) 10 2 y) 10 2 = y := fun y => rfl
  have e4 : (wst (wcp w 118 0 (120 + t) 0 (T.length : Int)) 140 t (T.length : Int)) 10 2 = (t : Int) := e2
  rw [e2, tn, e3, e4, wr_id (x := (t : Int) + 1) (by omega) (by omega), wr_id (x := (t : Int) + 1 - 1) (by omega) (by omega)]
  refine ⟨by omega, by omega, ?_, ?_⟩
  · rw [pc_in rfl, pc_in rfl]
    have : pc (wcp w 118 0 (120 + t) 0 (T.length : Int)) = rowL κ t T := by
      rw [← hc]
      funext c j
      unfold rowL
      show cond (isC c j) (if c = 120 + t ∧ (0 : Int) ≤ (j : Int) ∧ (j : Int) < 0 + (T.length : Int) then w 118 (0 + ((j : Int) - 0)).toNat else w c j) 0 = (if 120 ≤ c ∧ c ≤ 139 then (if c = 120 + t ∧ j < T.length then T.getD j 0 else cond (isC c j) (w c j) 0) else cond (isC c j) (w c j) 0)
      by_cases q : c = 120 + t ∧ j < T.length
      · rw [if_pos ⟨q.1, by omega, by omega⟩, if_pos (by omega), if_pos q, q.1, isC_rul t h20]
        show w 118 (0 + ((j : Int) - 0)).toNat = _
        rw [show (0 + ((j : Int) - 0)).toNat = j by omega, hs.2 j T[j] (List.getElem?_eq_getElem q.2), getD_e (List.getElem?_eq_getElem q.2)]
      · rw [if_neg (fun z => q ⟨z.1, by omega⟩), if_neg q]
        split <;> rfl
    rw [this]
  · rw [pm_out rfl, pm_out rfl]
    refine mk_cp (fun j => ?_)
    have h : ∀ t : Nat, t < 20 → isM (120 + t) = fun _ => false := by
      intro t ht
      rcases (by omega : t = 0 ∨ t = 1 ∨ t = 2 ∨ t = 3 ∨ t = 4 ∨ t = 5 ∨ t = 6 ∨ t = 7 ∨ t = 8 ∨ t = 9 ∨ t = 10 ∨ t = 11 ∨ t = 12 ∨ t = 13 ∨ t = 14 ∨ t = 15 ∨ t = 16 ∨ t = 17 ∨ t = 18 ∨ t = 19) with rfl | rfl | rfl | rfl | rfl | rfl | rfl | rfl | rfl | rfl | rfl | rfl | rfl | rfl | rfl | rfl | rfl | rfl | rfl | rfl
      all_goals rfl
    rw [h t h20]
theorem shq_told : ∀ p : Nat, p < 10 → shq (68 + p) = .inl (0, 4) := by decide +kernel
theorem isC_told : ∀ p : Nat, p < 10 → ∀ j, isC (68 + p) j = true ∧ isM (68 + p) j = false := by
  intro p hp j
  rcases (by omega : p = 0 ∨ p = 1 ∨ p = 2 ∨ p = 3 ∨ p = 4 ∨ p = 5 ∨ p = 6 ∨ p = 7 ∨ p = 8 ∨ p = 9) with rfl | rfl | rfl | rfl | rfl | rfl | rfl | rfl | rfl | rfl
  all_goals exact ⟨rfl, rfl⟩
theorem petAdd_c (hc : pc w = κ) {p n : Nat} (ht : κ 4 2 = (p : Int)) (h10 : p < 10) (h0 : κ 66 p = 0) {h : Nat → Int} (hh : HOK h n) (hn : n ≤ 40) {T : List Int} (hd : DER 1 h 3 0 0 true n T) (hs : STP w T) {x : Int} (hx : x = (T.length : Int)) : Cal 4 66 [.inr (.inr 4), .inr (.inr 118), .inl x] w (rI fun y u => y = (p : Int) ∧ ∃ z : Nat, z < 65536 ∧ (∀ s, s < 16 → z.testBit s = vlF (fS s) 4 T) ∧ pc u = wst (rowT (wst κ 66 p (z : Int)) p) 4 2 ((p : Int) + 1) ∧ pm u = pm w) := by
  subst hx
  have hdb := der_b hh hd (Nat.zero_le n)
  have hdl := hdb.2.2 rfl
  generalize hQ : (rI fun y u => y = (p : Int) ∧ ∃ z : Nat, z < 65536 ∧ (∀ s, s < 16 → z.testBit s = vlF (fS s) 4 T) ∧ pc u = wst (rowT (wst κ 66 p (z : Int)) p) 4 2 ((p : Int) + 1) ∧ pm u = pm w) = Q
  have key := Ev.inv (sc := none) (C := Cal 3) (cdk := cd 66) (Q := Q) (N := 16) (I := fun i t => ∃ (u : Wd) (z : Nat), t = (2, [some (.inr (.inr 4)), some (.inr (.inr 118)), some (.inl (T.length : Int)), some (.inl (i : Int)), none], [], u) ∧ pc u = wst κ 66 p (z : Int) ∧ pm u = pm w ∧ u 118 = w 118 ∧ z < 2 ^ i ∧ ∀ s, s < i → z.testBit s = vlF (fS s) 4 T) (fun i hi t ht2 h2 => ?_) (fun t ht2 => ?_) 0 (Nat.zero_le _)
  · refine en_66 (key _ ⟨w, 0, rfl, ?_, rfl, rfl, by decide, fun s hs => absurd hs (Nat.not_lt_zero s)⟩)
    rw [hc]
    have := wst_id κ 66 p
    rw [h0] at this
    exact this.symm
  · obtain ⟨u, z, rfl, uc, um, us, hz, hzs⟩ := ht2
    refine bk_66_2 ?_
    rw [if_pos (by omega)]
    have key2 := Ev.inv (sc := none) (C := Cal 3) (cdk := cd 66) (Q := Q) (N := 4) (I := fun k t => ∃ v : Wd, t = (11, [some (.inr (.inr 4)), some (.inr (.inr 118)), some (.inl (T.length : Int)), some (.inl (i : Int)), some (.inl (k : Int))], [], v) ∧ pc v = wst κ 66 p (z : Int) ∧ pm v = pm w ∧ v 118 = w 118 ∧ ∀ q, q < k → v 78 q = fS i q) (fun k hk t ht2 h3 => ?_) (fun t ht2 => ?_) 0 (Nat.zero_le _)
    · exact key2 _ ⟨u, rfl, uc, um, us, fun q hq => absurd hq (Nat.not_lt_zero q)⟩
    · obtain ⟨v, rfl, vc, vm, vs, hv⟩ := ht2
      refine bk_66_11 ?_
      rw [if_pos (by omega), tn, wr_s (show k < 2000000 by omega)]
      refine ⟨by omega, h3 _ ⟨_, rfl, ?_, ?_, vs, fun q hq => ?_⟩⟩
      · rw [pc_out rfl]; exact vc
      · rw [pm_out rfl]; exact vm
      · rw [wst_ap]
        by_cases g : q = k
        · subst g
          rw [if_pos ⟨rfl, rfl⟩]
          unfold fS
          by_cases b : i.testBit q = true
          · rw [if_pos b]
            exact (bit_n (by omega) (by omega)).2 b
          · rw [if_neg b]
            exact (bit_0 (by omega) (by omega)).2 (by simpa using b)
        · rw [if_neg (fun y => g y.2)]
          exact hv q (by omega)
    · obtain ⟨v, rfl, vc, vm, vs, hv⟩ := ht2
      refine bk_66_11 ?_
      rw [if_neg (by omega)]
      refine CalE.to (decide_c (m := 4) (f := fS i) rfl rfl (by decide) (fun k hk => hv k (by omega)) (fun k x hk => by rw [vs]; exact hs.2 k x hk) (by omega) (by omega) (der_s hh hd (Nat.zero_le _) rfl) ⟨_, der_r hh _ _ hd (Nat.zero_le _) []⟩ rfl) (by decide) ?_
      have e1 : v 4 2 = (p : Int) := (r4_2 vc).trans ht
      have e2 : v 66 p = (z : Int) := by
        have := r66 vc p
        rw [this]
        show (if 66 = 66 ∧ p = p then (z : Int) else κ 66 p) = _
        rw [if_pos ⟨rfl, rfl⟩]
      have h16 : 2 ^ i < 2 ^ 16 := Nat.pow_lt_pow_right (by decide) hi
      have hp1 : 2 ^ (i + 1) = 2 ^ i * 2 := Nat.pow_succ ..
      rw [wr_s (show i < 2000000 by omega)]
      have htb : z.testBit i = false := Nat.testBit_lt_two_pow hz
      cases hb : vlF (fS i) 4 T
      · rw [if_pos (show bI false = 0 from rfl)]
        refine h2 _ ⟨v, z, rfl, vc, vm, vs, by omega, fun s hs2 => ?_⟩
        by_cases g : s = i
        · rw [g, hb, htb]
        · exact hzs s (by omega)
      · rw [if_neg (show ¬ bI true = 0 by decide), e1, tn, e2, ishl_n i (by omega), ior_n (by omega) (by omega)]
        refine ⟨by omega, by omega, h2 _ ⟨_, z ||| 2 ^ i, rfl, ?_, ?_, vs, ?_, fun s hs2 => ?_⟩⟩
        · rw [pc_in rfl, vc]
          funext c j
          simp only [wst_ap]
          by_cases q : c = 66 ∧ j = p
          · rw [if_pos q, if_pos q]
          · rw [if_neg q, if_neg q, if_neg q]
        · rw [pm_out rfl]; exact vm
        · exact Nat.or_lt_two_pow (by omega) (by omega)
        · rw [or_t]
          by_cases g : s = i
          · rw [g, htb, hb, decide_eq_true rfl]
            rfl
          · rw [decide_eq_false (fun y => g y.symm), Bool.or_false]
            exact hzs s (by omega)
  · obtain ⟨u, z, rfl, uc, um, us, hz, hzs⟩ := ht2
    refine bk_66_2 ?_
    have e1 : u 4 2 = (p : Int) := (r4_2 uc).trans ht
    rw [if_neg (by omega), e1, tn]
    refine ⟨by omega, ?_⟩
    refine CalVE.to (fill_ok (n := 4) (shq_told p h10) (by decide)) (by decide) ?_
    have e2 : (fil u (68 + p) 2 (4 : Int).toNat) 4 2 = (p : Int) := by
      show (if 4 = 68 + p ∧ _ then _ else u 4 2) = _
      rw [if_neg (by omega)]
      exact e1
    have e3 : ∀ y : Int, (wst (fil u (68 + p) 2 (4 : Int).toNat) 4 2 y) 4 2 = y := fun y => rfl
    rw [e3, e2, wr_id (x := (p : Int) + 1) (by omega) (by omega), wr_id (x := (p : Int) + 1 - 1) (by omega) (by omega), ← hQ]
    refine ⟨by omega, z, hz, hzs, ?_, ?_⟩
    · rw [pc_in rfl]
      have : pc (fil u (68 + p) 2 (4 : Int).toNat) = rowT (wst κ 66 p (z : Int)) p := by
        rw [← uc]
        funext c j
        unfold rowT
        show cond (isC c j) (if c = 68 + p ∧ j < 4 then 2 else u c j) 0 = (if 68 ≤ c ∧ c ≤ 77 then (if c = 68 + p ∧ j < 4 then 2 else cond (isC c j) (u c j) 0) else cond (isC c j) (u c j) 0)
        by_cases q : c = 68 + p ∧ j < 4
        · rw [if_pos q, if_pos q, if_pos (show 68 ≤ c ∧ c ≤ 77 by omega), q.1, (isC_told p h10 j).1]
          rfl
        · rw [if_neg q, if_neg q]
          split <;> rfl
      rw [this]
    · rw [pm_out rfl]
      exact (fil_msk (fun j => (isC_told p h10 j).2)).trans um
theorem mtext_l (hR : RNG τ) {pt : Int} (hp : pt = 0 ∨ pt = 1) {n t : Nat} (hn : n ≤ 40) (ht : t < 30) (hu : pm w = τ) (h38 : w 12 38 = (n : Int)) {K : Int → Wd → Prop} {d : Nat} (hK : ∀ v, pc v = pc w → pm v = cpy τ t n → v 12 38 = (n : Int) → Ev none (Cal d) (cd 178) (rI K) (97, [some (.inr (.inr 12)), some (.inl pt), none, some (.inl (t : Int)), some (.inl (n : Int))], [], v)) : Ev none (Cal d) (cd 178) (rI K) (97, [some (.inr (.inr 12)), some (.inl pt), none, some (.inl (t : Int)), some (.inl 0)], [], w) := by
  have key := Ev.inv (sc := none) (C := Cal d) (cdk := cd 178) (Q := rI K) (N := n) (I := fun i s => ∃ u : Wd, s = (97, [some (.inr (.inr 12)), some (.inl pt), none, some (.inl (t : Int)), some (.inl (i : Int))], [], u) ∧ pc u = pc w ∧ pm u = cpy τ t i ∧ u 12 38 = (n : Int)) (fun i hi s hs h => ?_) (fun s hs => ?_) 0 (Nat.zero_le _)
  · exact key _ ⟨w, rfl, rfl, by rw [cpy_0]; exact hu, h38⟩
  · obtain ⟨u, rfl, uc, um, u38⟩ := hs
    refine bk_178_97 ?_
    have e1 : u 168 i = τ 168 i := r168 um i
    rw [u38, if_pos (by omega), wr_id (x := 40 * (t : Int)) (by omega) (by omega), wr_id (x := 40 * (t : Int) + (i : Int)) (by omega) (by omega), show 40 * (t : Int) + (i : Int) = ((40 * t + i : Nat) : Int) by omega, tn, tn, e1, wr_s (show i < 2000000 by omega)]
    refine ⟨by omega, by omega, h _ ⟨_, rfl, ?_, ?_, u38⟩⟩
    · rw [pc_out rfl]; exact uc
    · rw [pm_in rfl, um, cpy_s]
  · obtain ⟨u, rfl, uc, um, u38⟩ := hs
    exact hK u uc um u38
theorem both_text (hO : OKW TXT w) {a : Int} (ha : a = 0 ∨ a = 1) : Cal 30 45 [.inr (.inr 11), .inl a] w (rI fun x u => Cal 30 178 [.inr (.inr 12), .inl a] u (rI fun y v => x = y ∧ OKW TXT v)) := by
  have hT := TXT_fr
  obtain ⟨κ, hc⟩ : ∃ κ, pc w = κ := ⟨_, rfl⟩
  obtain ⟨τ, hm⟩ : ∃ τ, pm w = τ := ⟨_, rfl⟩
  unfold OKW at hO
  rw [hc, hm] at hO
  obtain ⟨hE, hR, ht⟩ := id hO
  have htx := hR.M_texts
  have hpt := hR.M_petitions
  have htm := hR.M_tapeMany
  obtain ⟨n, hn⟩ : ∃ n : Nat, τ 12 30 = (n : Int) := ⟨(τ 12 30).toNat, by omega⟩
  have hn40 : n ≤ 40 := by omega
  have e1 : w 10 2 = τ 12 31 := (r10_2 hc).trans hE.Texts_size
  have e2 : w 4 2 = τ 12 32 := (r4_2 hc).trans hE.Petitions_size
  have hO0 := OKT.tape0 hT hO
  have hok := hdF_ok (fun i => hR.M_tape i) n
  -- the reference, up to its reading
  have mid : ∀ {u : Wd} {K : Int → Wd → Prop} {ok : Bool} {j : Nat} {T : List Int}, pm u = τ → (a = 0 → τ 12 31 < 20) → (a = 1 → τ 12 32 < 10) → DER a (hdF (τ 168) n) 3 0 0 ok j T → (ok = true → j = n → ∀ v, pc v = pc u → pm v = wst τ 12 30 0 → v 12 38 = (n : Int) → Ev none (Cal 29) (cd 178) (rI K) (97, [some (.inr (.inr 12)), some (.inl a), none, some (.inl (if a = 0 then τ 12 31 else wr (20 + τ 12 32))), some (.inl 0)], [], v)) → (¬ (ok = true ∧ j = n) → ∀ v, pc v = pc u → pm v = wst τ 12 30 0 → K (-20 - (j : Int)) v) → Cal 30 178 [.inr (.inr 12), .inl a] u (rI K) := by
    intro u K ok j T um ht1 ht2 hd g1 g0
    have hdb := der_b hok hd (Nat.zero_le n)
    have f1 : u 12 31 = τ 12 31 := r12_31 um
    have f2 : u 12 32 = τ 12 32 := r12_32 um
    have f3 : (wst (wst u 12 35 0) 12 36 a) 12 30 = (n : Int) := (r12_30 um).trans hn
    generalize hw0 : wst (wst (wst (wst u 12 35 0) 12 36 a) 12 38 (n : Int)) 12 30 0 = w0
    have c0 : pc w0 = pc u := by rw [← hw0, pc_out rfl, pc_out rfl, pc_out rfl, pc_out rfl]
    have m0 : pm w0 = wst τ 12 30 0 := by rw [← hw0, pm_in rfl, pm_out rfl, pm_out rfl, pm_out rfl, um]
    have hH : HTR w0 n (hdF (τ 168) n) a (w0 167) := by
      refine ⟨by rw [← hw0]; rfl, hn40, Or.inl ⟨by rw [← hw0]; rfl, fun i hi => ?_⟩, hok, by rw [← hw0]; rfl, ha, fun _ _ => rfl⟩
      unfold hdF
      rw [if_pos hi]
      exact r168 m0 i
    have main : Cal 29 179 [.inr (.inr 12)] w0 (rI fun v2 w2 => if w2 12 40 = 0 then (if a = 0 then Ev none (Cal 29) (cd 178) (rI K) (97, [some (.inr (.inr 12)), some (.inl a), none, some (.inl (w2 12 31)), some (.inl 0)], [], w2) else Ev none (Cal 29) (cd 178) (rI K) (97, [some (.inr (.inr 12)), some (.inl a), none, some (.inl (wr (20 + w2 12 32))), some (.inl 0)], [], w2)) else K (wr (-20 - w2 12 39)) w2) := by
      refine CalK (readRule_c hH ⟨fun _ _ _ _ => rfl, fun _ _ _ _ _ _ => rfl⟩ hd (fun h1 h2 v hv v40 => ?_) (fun h1 v hv v39 v40 => ?_)) (by decide)
      · have vm := (FRR_pm hv).trans m0
        have k1 : v 12 31 = τ 12 31 := (r12_31 vm).trans rfl
        have k2 : v 12 32 = τ 12 32 := (r12_32 vm).trans rfl
        have v38 : v 12 38 = (n : Int) := (hv.2 38 (by decide) (by decide) (by decide) (by decide) (by decide)).trans (by rw [← hw0]; rfl)
        have := g1 h1 h2 v ((FRR_pc hv).trans c0) vm v38
        rw [if_pos v40, k1, k2]
        refine ite_i (fun q => ?_) (fun q => ?_)
        · rw [if_pos q] at this
          exact this
        · rw [if_neg q] at this
          exact this
      · rw [if_neg (by omega), v39, wr_id (by omega) (by omega)]
        exact g0 h1 v ((FRR_pc hv).trans c0) ((FRR_pm hv).trans m0)
    refine en_178 ?_
    rw [f1, f2, f3]
    refine ite_i (fun q => ?_) (fun q => ?_)
    · rw [if_neg (by have := ht1 q; omega), hw0]
      exact ⟨by decide, ha, main⟩
    · rw [if_neg (by have := ht2 (by omega); omega), hw0]
      exact ⟨by decide, ha, main⟩
  -- the class
  have bad : ∀ {u : Wd} {ok : Bool} {j : Nat} {T : List Int}, (a = 0 → τ 12 31 < 20) → (a = 1 → τ 12 32 < 10) → DER a (hdF (τ 168) n) 3 0 0 ok j T → ¬ (ok = true ∧ j = n) → pc u = wst κ 9 1 0 → pm u = τ → Cal 30 178 [.inr (.inr 12), .inl a] u (rI fun y v => wr (-20 - (j : Int)) = y ∧ OKW TXT v) := by
    intro u ok j T g1 g2 hd hb uc um
    have hdb := der_b hok hd (Nat.zero_le n)
    refine mid um g1 g2 hd (fun h1 h2 => absurd ⟨h1, h2⟩ hb) (fun _ v vc vm => ⟨wr_id (by omega) (by omega), OKW.of hO0 (vc.trans uc) vm⟩)
  refine en_45 ?_
  rw [e1, e2]
  refine ite_i (fun q => ?_) (fun q => ?_)
  · refine ite_i (fun r => ?_) (fun r => ?_)
    · refine CalK (translate_c hc hm hE hR hn ha (fun v T hd hs vc vm => ?_) (fun v ok j T hd hb vc vm => ?_)) (by decide)
      · have hdb := der_b hok hd (Nat.zero_le n)
        have hdl := hdb.2.2 rfl
        obtain ⟨t, ht⟩ : ∃ t : Nat, τ 12 31 = (t : Int) := ⟨(τ 12 31).toNat, by omega⟩
        rw [if_pos (by decide), if_pos q]
        have e3 : (wst κ 9 1 0) 10 2 = (t : Int) := hE.Texts_size.trans ht
        refine CalI.to (textsAdd_c vc e3 (by omega) hs (by omega) hs.1) (by decide) ?_
        rintro _ u ⟨rfl, uc, um⟩
        refine mid (um.trans vm) (fun _ => r) (fun z => by omega) hd (fun _ _ x xc xm x38 => ?_) (fun hb => absurd ⟨rfl, rfl⟩ hb)
        rw [if_pos q, ht]
        refine mtext_l (τ := wst τ 12 30 0) hO0.2.1 ha hn40 (by omega) xm x38 (fun y yc ym y38 => ?_)
        refine bk_178_97 ?_
        have y31 : (wst y 170 t (n : Int)) 12 31 = (t : Int) := (r12_31 ym).trans ht
        have e4 : ∀ s : Int, (wst (wst y 170 t (n : Int)) 12 31 s) 12 31 = s := fun s => rfl
        rw [y38, if_neg (by omega), tn, if_pos q, e4, y31, wr_id (x := (t : Int) + 1) (by omega) (by omega), wr_id (x := (t : Int) + 1 - 1) (by omega) (by omega)]
        have hd0 : DER 0 (hdF ((wst τ 12 30 0) 168) n) 3 0 0 true n T := by rw [q] at hd; exact hd
        refine ⟨by omega, by omega, OKW.of (OKT.newt hO0 (t := t) (n := n) ht (by omega) hn40 hd0) ?_ ?_⟩
        · rw [pc_out rfl, pc_out rfl]; exact (yc.trans xc).trans uc
        · rw [pm_in rfl, pm_in rfl, ym]
      · have hdb := der_b hok hd (Nat.zero_le n)
        rw [if_neg (by omega)]
        exact bad (fun _ => r) (fun z => by omega) hd hb vc vm
    · refine CalI.to (refuse_ok hc hm (by omega)) (by decide) ?_; rintro _ u ⟨rfl, uc, um⟩;
      have f1 : u 12 31 = τ 12 31 := r12_31 um
      refine en_178 ?_
      rw [if_pos q, f1, if_pos (by omega)]
      exact CalK (fin_rf hT hO uc um (by omega) rfl) (by decide)
  · refine ite_i (fun r => ?_) (fun r => ?_)
    · refine CalK (translate_c hc hm hE hR hn ha (fun v T hd hs vc vm => ?_) (fun v ok j T hd hb vc vm => ?_)) (by decide)
      · have hdb := der_b hok hd (Nat.zero_le n)
        have hdl := hdb.2.2 rfl
        obtain ⟨p, hp⟩ : ∃ t : Nat, τ 12 32 = (t : Int) := ⟨(τ 12 32).toNat, by omega⟩
        rw [if_pos (by decide), if_neg q]
        have e3 : (wst κ 9 1 0) 4 2 = (p : Int) := hE.Petitions_size.trans hp
        have e0 : (wst κ 9 1 0) 66 p = 0 := ht.2.2.2 p (by omega)
        have ha1 : a = 1 := by omega
        have hd1 : DER 1 (hdF (τ 168) n) 3 0 0 true n T := by rw [ha1] at hd; exact hd
        refine CalI.to (petAdd_c vc e3 (by omega) e0 hok hn40 hd1 hs hs.1) (by decide) ?_
        rintro _ u ⟨rfl, z, hz, hzs, uc, um⟩
        refine mid (um.trans vm) (fun z => absurd z q) (fun _ => r) hd (fun _ _ x xc xm x38 => ?_) (fun hb => absurd ⟨rfl, rfl⟩ hb)
        rw [if_neg q, hp, wr_id (x := 20 + (p : Int)) (by omega) (by omega), show 20 + (p : Int) = ((20 + p : Nat) : Int) by omega]
        refine mtext_l (τ := wst τ 12 30 0) hO0.2.1 ha hn40 (by omega) xm x38 (fun y yc ym y38 => ?_)
        refine bk_178_97 ?_
        rw [y38, if_neg (by omega), tn, if_neg q]
        refine ⟨by omega, ?_⟩
        have key := Ev.inv (sc := none) (C := Cal 29) (cdk := cd 178) (Q := rI fun x v => (p : Int) = x ∧ OKW TXT v) (N := 4) (I := fun i s => ∃ o : Wd, s = (148, [some (.inr (.inr 12)), none, none, none, some (.inl (i : Int))], [], o) ∧ pc o = pc y ∧ pm o = tld (wst (cpy (wst τ 12 30 0) (20 + p) n) 170 (20 + p) (n : Int)) p i) (fun i hi s hs2 h2 => ?_) (fun s hs2 => ?_) 0 (Nat.zero_le _)
        · refine key _ ⟨_, rfl, pc_out rfl, ?_⟩
          rw [tld_0, pm_in rfl, ym]
        · obtain ⟨o, rfl, oc, om⟩ := hs2
          refine bk_178_148 ?_
          have o32 : o 12 32 = (p : Int) := (r12_32 om).trans hp
          rw [if_pos (by omega), o32, wr_id (x := 4 * (p : Int)) (by omega) (by omega), wr_id (x := 4 * (p : Int) + (i : Int)) (by omega) (by omega), show 4 * (p : Int) + (i : Int) = ((4 * p + i : Nat) : Int) by omega, tn, wr_s (show i < 2000000 by omega)]
          refine ⟨by omega, h2 _ ⟨_, rfl, ?_, ?_⟩⟩
          · rw [pc_out rfl]; exact oc
          · rw [pm_in rfl, om, tld_s]
        · obtain ⟨o, rfl, oc, om⟩ := hs2
          refine bk_178_148 ?_
          have o32 : o 12 32 = (p : Int) := (r12_32 om).trans hp
          have e4 : ∀ s : Int, (wst o 12 32 s) 12 32 = s := fun s => rfl
          rw [if_neg (by omega), o32, e4, wr_id (x := (p : Int) + 1) (by omega) (by omega), wr_id (x := (p : Int) + 1 - 1) (by omega) (by omega)]
          have hd2 : DER 1 (hdF ((wst τ 12 30 0) 168) n) 3 0 0 true n T := hd1
          refine ⟨by omega, OKW.of (OKT.newp hO0 (p := p) (n := n) (z := z) hp (by omega) hn40 hd2 hz hzs) ?_ ?_⟩
          · rw [pc_out rfl]; exact ((oc.trans yc).trans xc).trans uc
          · rw [pm_in rfl, om]
      · have hdb := der_b hok hd (Nat.zero_le n)
        rw [if_neg (by omega)]
        exact bad (fun z => absurd z q) (fun _ => r) hd hb vc vm
    · refine CalI.to (refuse_ok hc hm (by omega)) (by decide) ?_; rintro _ u ⟨rfl, uc, um⟩;
      have f1 : u 12 32 = τ 12 32 := r12_32 um
      refine en_178 ?_
      rw [if_neg q, f1, if_pos (by omega)]
      exact CalK (fin_rf hT hO uc um (by omega) rfl) (by decide)
end
