/-! the reference's loop over a rule -/
section
variable {w0 : Wd} {n : Nat} {h : Nat → Int} {pt : Int} {f : Nat → Int} {K : Int → Wd → Prop}
theorem join_n (hn : n ≤ 40) {u : Wd} {i d : Nat} {e x : Int} {S : List Int} {V : List Bool} {K : Wd → Prop} (hu : RSt w0 n u i e d S V) (hS : ¬ top S = x) (hK : K u) : Ev none (Cal 1) (cd 186) (rV K) (0, [some (.inr (.inr 12)), some (.inl x)], [], u) := by
  refine bk_186_0 ?_
  refine CalE.to (topSign_ok hn hu) (by decide) ?_
  rw [if_neg hS]
  exact hK
theorem join_w {u : Wd} {i d : Nat} {e x y : Int} {S : List Int} {V : List Bool} {a b o : Bool} (hu : RSt w0 n u i e d (x :: S) (b :: a :: V)) (hy : y = bI o) : RSt w0 n (wst (wst (wst u 12 43 ((V.length + 1 : Nat) : Int)) 171 V.length y) 12 45 (S.length : Int)) i e d S (o :: V) := by
  obtain ⟨hF, h39, h40, h41, h43, h45, hS, hV, g1, g2, g3, g4⟩ := hu
  have e1 : (b :: a :: V).length = V.length + 2 := rfl
  have e2 : (x :: S).length = S.length + 1 := rfl
  refine ⟨((hF.st (by omega)).a (Or.inl rfl)).st (by omega), h39, h40, h41, rfl, rfl, hS.2, ⟨?_, stb_w hV.2.2 (fun j hj => ?_)⟩, g1, by omega, ?_, fun z => ?_⟩
  · show (if 171 = 171 ∧ V.length = V.length then y else u 171 V.length) = _
    rw [if_pos ⟨rfl, rfl⟩, hy]
  · show (if 171 = 171 ∧ j = V.length then y else u 171 j) = _
    rw [if_neg (by omega)]
  · show V.length + 1 ≤ i + 1
    omega
  · have := g4 z
    show V.length + 1 ≤ i
    omega
theorem join_a (hn : n ≤ 40) {u : Wd} {i d : Nat} {e : Int} {S : List Int} {V : List Bool} {a b : Bool} {K : Wd → Prop} (hu : RSt w0 n u i e d (38 :: S) (b :: a :: V)) (hS : ¬ top S = 38) (hK : ∀ u', RSt w0 n u' i e d S ((a && b) :: V) → K u') : Ev none (Cal 1) (cd 186) (rV K) (0, [some (.inr (.inr 12)), some (.inl 38)], [], u) := by
  have hu2 := hu
  obtain ⟨hF, h39, h40, h41, h43, h45, hst, hV, g1, g2, g3, g4⟩ := hu
  have e1 : (b :: a :: V).length = V.length + 2 := rfl
  have e2 : (38 :: S).length = S.length + 1 := rfl
  have e3 : (a :: V).length = V.length + 1 := rfl
  rw [e1] at h43 g3
  rw [e2] at h45 g2
  have w1 : wr (((V.length + 2 : Nat) : Int) - 1) = ((V.length + 1 : Nat) : Int) := by rw [wr_id (by omega) (by omega)]; omega
  have w2 : wr (((V.length + 1 : Nat) : Int) - 1) = (V.length : Int) := by rw [wr_id (by omega) (by omega)]; omega
  have w3 : wr (((S.length + 1 : Nat) : Int) - 1) = (S.length : Int) := by rw [wr_id (by omega) (by omega)]; omega
  have v1 : u 171 V.length = bI a := hV.2.1
  have v2 : u 171 (V.length + 1) = bI b := by have := hV.1; rw [e3] at this; exact this
  have nx : ∀ y : Int, y = bI (a && b) → Ev none (Cal 1) (cd 186) (rV K) (0, [some (.inr (.inr 12)), some (.inl 38)], [], wst (wst (wst u 12 43 ((V.length + 1 : Nat) : Int)) 171 V.length y) 12 45 (S.length : Int)) := by
    intro y hy
    have hj := join_w hu2 hy
    exact join_n hn hj hS (hK _ hj)
  refine bk_186_0 ?_
  refine CalE.to (topSign_ok hn hu2) (by decide) ?_
  rw [if_pos (show top (38 :: S) = 38 from rfl)]
  rw [if_pos (show (38 : Int) = 38 from rfl)]
  simp only [wst_ap, Nat.reduceEqDiff, false_and, and_false, if_false, and_self, if_true, h43, h45, w1, w2, w3, tn, v1, v2]
  refine ⟨by omega, ?_⟩
  cases a
  · rw [if_pos (show bI false = 0 from rfl)]
    exact ⟨by omega, by decide, nx 0 rfl⟩
  · rw [if_neg (show ¬ bI true = 0 by decide)]
    refine ⟨by omega, ?_⟩
    cases b
    · rw [if_pos (show bI false = 0 from rfl)]
      exact ⟨by omega, by decide, nx 0 rfl⟩
    · rw [if_neg (show ¬ bI true = 0 by decide)]
      exact ⟨by omega, by decide, nx 1 rfl⟩
theorem join_o (hn : n ≤ 40) {u : Wd} {i d : Nat} {e : Int} {S : List Int} {V : List Bool} {a b : Bool} {K : Wd → Prop} (hu : RSt w0 n u i e d (124 :: S) (b :: a :: V)) (hS : ¬ top S = 124) (hK : ∀ u', RSt w0 n u' i e d S ((a || b) :: V) → K u') : Ev none (Cal 1) (cd 186) (rV K) (0, [some (.inr (.inr 12)), some (.inl 124)], [], u) := by
  have hu2 := hu
  obtain ⟨hF, h39, h40, h41, h43, h45, hst, hV, g1, g2, g3, g4⟩ := hu
  have e1 : (b :: a :: V).length = V.length + 2 := rfl
  have e2 : (124 :: S).length = S.length + 1 := rfl
  have e3 : (a :: V).length = V.length + 1 := rfl
  rw [e1] at h43 g3
  rw [e2] at h45 g2
  have w1 : wr (((V.length + 2 : Nat) : Int) - 1) = ((V.length + 1 : Nat) : Int) := by rw [wr_id (by omega) (by omega)]; omega
  have w2 : wr (((V.length + 1 : Nat) : Int) - 1) = (V.length : Int) := by rw [wr_id (by omega) (by omega)]; omega
  have w3 : wr (((S.length + 1 : Nat) : Int) - 1) = (S.length : Int) := by rw [wr_id (by omega) (by omega)]; omega
  have v1 : u 171 V.length = bI a := hV.2.1
  have v2 : u 171 (V.length + 1) = bI b := by have := hV.1; rw [e3] at this; exact this
  have nx : ∀ y : Int, y = bI (a || b) → Ev none (Cal 1) (cd 186) (rV K) (0, [some (.inr (.inr 12)), some (.inl 124)], [], wst (wst (wst u 12 43 ((V.length + 1 : Nat) : Int)) 171 V.length y) 12 45 (S.length : Int)) := by
    intro y hy
    have hj := join_w hu2 hy
    exact join_n hn hj hS (hK _ hj)
  refine bk_186_0 ?_
  refine CalE.to (topSign_ok hn hu2) (by decide) ?_
  rw [if_pos (show top (124 :: S) = 124 from rfl)]
  rw [if_neg (show ¬ (124 : Int) = 38 by decide)]
  simp only [wst_ap, Nat.reduceEqDiff, false_and, and_false, if_false, and_self, if_true, h43, h45, w1, w2, w3, tn, v1, v2]
  refine ⟨by omega, ?_⟩
  cases a
  · rw [if_pos (show bI false = 0 from rfl)]
    refine ⟨by omega, ?_⟩
    cases b
    · rw [if_pos (show bI false = 0 from rfl)]
      exact ⟨by omega, by decide, nx 0 rfl⟩
    · rw [if_neg (show ¬ bI true = 0 by decide)]
      exact ⟨by omega, by decide, nx 1 rfl⟩
  · rw [if_neg (show ¬ bI true = 0 by decide)]
    exact ⟨by omega, by decide, nx 1 rfl⟩
def JA (X Y : List Int × List Bool) : Prop := (¬ top X.1 = 38 ∧ Y = X) ∨ (∃ S b a V, X = (38 :: S, b :: a :: V) ∧ ¬ top S = 38 ∧ Y = (S, (a && b) :: V))
def JO (X Y : List Int × List Bool) : Prop := (¬ top X.1 = 124 ∧ Y = X) ∨ (∃ S b a V, X = (124 :: S, b :: a :: V) ∧ ¬ top S = 124 ∧ Y = (S, (a || b) :: V))
theorem joinA_c (hn : n ≤ 40) {u : Wd} {i d : Nat} {e : Int} {X Y : List Int × List Bool} {K : Wd → Prop} (hu : RSt w0 n u i e d X.1 X.2) (hJ : JA X Y) (hK : ∀ u', RSt w0 n u' i e d Y.1 Y.2 → K u') : Cal 2 186 [.inr (.inr 12), .inl 38] u (rV K) := by
  refine en0_join ?_
  rcases hJ with ⟨h1, rfl⟩ | ⟨S, b, a, V, rfl, h1, rfl⟩
  · exact join_n hn hu h1 (hK u hu)
  · exact join_a hn hu h1 hK
theorem joinO_c (hn : n ≤ 40) {u : Wd} {i d : Nat} {e : Int} {X Y : List Int × List Bool} {K : Wd → Prop} (hu : RSt w0 n u i e d X.1 X.2) (hJ : JO X Y) (hK : ∀ u', RSt w0 n u' i e d Y.1 Y.2 → K u') : Cal 2 186 [.inr (.inr 12), .inl 124] u (rV K) := by
  refine en0_join ?_
  rcases hJ with ⟨h1, rfl⟩ | ⟨S, b, a, V, rfl, h1, rfl⟩
  · exact join_n hn hu h1 (hK u hu)
  · exact join_o hn hu h1 hK
/-- the loop's head, a part wanted (1) or not (0) -/
def HDR (K : Int → Wd → Prop) (x : Int) (u : Wd) : Prop := Ev none (Cal 3) (cd 179) (rI K) (27, [some (.inr (.inr 12)), some (.inl x), none], [], u)
/-- what a fault at j gives -/
def FBR (K : Int → Wd → Prop) (w0 : Wd) (j : Nat) : Prop := ∀ u', FRR w0 u' → u' 12 39 = (j : Int) → u' 12 40 = 1 → K 0 u'
theorem m_bad {u : Wd} {j : Nat} {x : Int} (hF : FRR w0 u) (h39 : u 12 39 = (j : Int)) (h40 : u 12 40 = 1) (hB : FBR K w0 j) : HDR K x u := by
  refine bk_179_27 ?_
  rw [if_neg (by omega)]
  refine bk_179_318 ?_
  rw [if_neg (by omega), if_neg (by omega)]
  exact ⟨by decide, hB u hF h39 h40⟩
theorem RSt.pu {u : Wd} {i d : Nat} {S : List Int} {V : List Bool} (hu : RSt w0 n u i 0 d S V) (hi : i < n) (c : Int) : RSt w0 n (wst (wst (wst u 172 S.length c) 12 45 ((S.length + 1 : Nat) : Int)) 12 39 ((i + 1 : Nat) : Int)) (i + 1) 0 d (c :: S) V := by
  obtain ⟨hF, h39, h40, h41, h43, h45, hS, hV, g1, g2, g3, g4⟩ := hu
  refine ⟨((hF.a (Or.inr rfl)).st (by omega)).st (by omega), rfl, h40, h41, h43, rfl, ⟨?_, stk_w hS (fun j hj => ?_)⟩, hV, hi, ?_, by omega, fun z => ?_⟩
  · show (if 172 = 172 ∧ S.length = S.length then c else u 172 S.length) = _
    rw [if_pos ⟨rfl, rfl⟩]
  · show (if 172 = 172 ∧ j = S.length then c else u 172 j) = _
    rw [if_neg (by omega)]
  · show S.length + 1 ≤ i + 1
    omega
  · have := g4 z
    omega
theorem RSt.pd {u : Wd} {i d : Nat} {S : List Int} {V : List Bool} (hu : RSt w0 n u i 0 d S V) (hi : i < n) (c : Int) : RSt w0 n (wst (wst (wst (wst (wst u 12 40 0) 12 41 ((d + 1 : Nat) : Int)) 172 S.length c) 12 45 ((S.length + 1 : Nat) : Int)) 12 39 ((i + 1 : Nat) : Int)) (i + 1) 0 (d + 1) (c :: S) V := by
  obtain ⟨hF, h39, h40, h41, h43, h45, hS, hV, g1, g2, g3, g4⟩ := hu
  refine ⟨((((hF.st (by omega)).st (by omega)).a (Or.inr rfl)).st (by omega)).st (by omega), rfl, rfl, rfl, h43, rfl, ⟨?_, stk_w hS (fun j hj => ?_)⟩, hV, hi, ?_, by omega, fun z => ?_⟩
  · show (if 172 = 172 ∧ S.length = S.length then c else u 172 S.length) = _
    rw [if_pos ⟨rfl, rfl⟩]
  · show (if 172 = 172 ∧ j = S.length then c else u 172 j) = _
    rw [if_neg (by omega)]
  · show S.length + 1 ≤ i + 1
    omega
  · have := g4 z
    omega
theorem m_push (hw : HTR w0 n h pt f) {u : Wd} {i d : Nat} {c : Int} {S : List Int} {V : List Bool} (hu : RSt w0 n u i 0 d S V) (hc : h i = c) (hc2 : c = 33 ∨ c = 40) (hd : d < 4) (hK : ∀ u', RSt w0 n u' (i + 1) 0 (d + 1) (c :: S) V → HDR K 1 u') : HDR K 1 u := by
  have hu2 := hu
  obtain ⟨hF, h39, h40, h41, h43, h45, hS, hV, g1, g2, g3, g4⟩ := hu
  have hn := hw.2.1
  have hh := hw.2.2.2.1 i
  have hp := hK _ (RSt.pd hu2 (by omega) c)
  refine bk_179_27 ?_
  rw [if_pos h40, if_neg (by decide)]
  refine bk_179_49 ?_
  refine CalE.to (hereR_ok hw hF h39 g1) (by decide) ?_
  rw [if_neg (by decide), hc]
  have w1 : wr ((d : Int) + 1) = ((d + 1 : Nat) : Int) := wr_s (by omega)
  have w2 : wr ((S.length : Int) + 1) = ((S.length + 1 : Nat) : Int) := wr_s (by omega)
  have w3 : wr ((i : Int) + 1) = ((i + 1 : Nat) : Int) := wr_s (by omega)
  rcases hc2 with rfl | rfl
  · rw [if_pos rfl, if_neg (by omega)]
    refine ⟨by decide, ?_⟩
    rw [if_pos (show (wst u 12 40 0) 12 40 = 0 from rfl)]
    simp only [wst_ap, Nat.reduceEqDiff, false_and, and_false, if_false, and_self, if_true, h41, h45, h39, w1, w2, w3, tn]
    exact ⟨by omega, hp⟩
  · rw [if_neg (by decide), if_pos rfl, if_neg (by omega)]
    refine ⟨by decide, ?_⟩
    rw [if_pos (show (wst u 12 40 0) 12 40 = 0 from rfl)]
    simp only [wst_ap, Nat.reduceEqDiff, false_and, and_false, if_false, and_self, if_true, h41, h45, h39, w1, w2, w3, tn]
    exact ⟨by omega, hp⟩
theorem m_deep (hw : HTR w0 n h pt f) {u : Wd} {i : Nat} {c : Int} {S : List Int} {V : List Bool} (hu : RSt w0 n u i 0 4 S V) (hc : h i = c) (hc2 : c = 33 ∨ c = 40) (hB : FBR K w0 i) : HDR K 1 u := by
  obtain ⟨hF, h39, h40, h41, h43, h45, hS, hV, g1, g2, g3, g4⟩ := hu
  have hb : HDR K 1 (wst u 12 40 1) := m_bad (hF.st (by omega)) h39 rfl hB
  refine bk_179_27 ?_
  rw [if_pos h40, if_neg (by decide)]
  refine bk_179_49 ?_
  refine CalE.to (hereR_ok hw hF h39 g1) (by decide) ?_
  rw [if_neg (by decide), hc]
  rcases hc2 with rfl | rfl
  · rw [if_pos rfl, if_pos (by omega)]
    refine ⟨by decide, ?_⟩
    rw [if_neg (show ¬ (wst u 12 40 1) 12 40 = 0 from by show ¬ (1 : Int) = 0; decide)]
    exact hb
  · rw [if_neg (by decide), if_pos rfl, if_pos (by omega)]
    refine ⟨by decide, ?_⟩
    rw [if_neg (show ¬ (wst u 12 40 1) 12 40 = 0 from by show ¬ (1 : Int) = 0; decide)]
    exact hb
theorem m_test (hw : HTR w0 n h pt f) {u : Wd} {i d k : Nat} {S : List Int} {V : List Bool} (hu : RSt w0 n u i 0 (d + k) (List.replicate k 33 ++ S) V) (hS : ¬ top S = 33) (hdk : d + k ≤ 100) (hc : ¬ h i = 33 ∧ ¬ h i = 40) (h1 : ∀ j s, CMO pt h i j s → ∀ u', RSt w0 n u' j 0 d S (fl k (cmpV f (mF pt) s) :: V) → HDR K 0 u') (h0 : ∀ j, CMB pt h i j → FBR K w0 j) : HDR K 1 u := by
  have hu2 := hu
  obtain ⟨hF, h39, h40, h41, h43, h45, hst, hV, g1, g2, g3, g4⟩ := hu
  have hn := hw.2.1
  have hh := hw.2.2.2.1
  refine bk_179_27 ?_
  rw [if_pos h40, if_neg (by decide)]
  refine bk_179_49 ?_
  refine CalE.to (hereR_ok hw hF h39 g1) (by decide) ?_
  rw [if_neg (by decide), if_neg hc.1, if_neg hc.2]
  refine bk_179_137 ?_
  rw [if_neg (by decide)]
  have g5 := g4 rfl
  have nw : ∀ (b : Bool) (v : Wd) (j : Nat) (e : Int), KPR u v → v 12 39 = (j : Int) → v 12 40 = e → i ≤ j → j ≤ n → (e = 0 → i + 3 ≤ j) → RSt w0 n (wst (wst v 171 V.length (bI b)) 12 43 ((V.length + 1 : Nat) : Int)) j e (d + k) (List.replicate k 33 ++ S) (b :: V) := by
    intro b v j e kv v39 v40 hij hjn he
    refine ⟨((kv.fr hF).a (Or.inl rfl)).st (by omega), v39, v40, (kv.2 41 (by decide) (by decide)).trans h41, rfl, (kv.2 45 (by decide) (by decide)).trans h45, ?_, ⟨?_, stb_w hV (fun q hq => ?_)⟩, hjn, by omega, ?_, fun z => ?_⟩
    · show stk (v 172) _
      rw [kv.1 172 (by decide)]
      exact hst
    · show (if 171 = 171 ∧ V.length = V.length then bI b else v 171 V.length) = _
      rw [if_pos ⟨rfl, rfl⟩]
    · show (if 171 = 171 ∧ q = V.length then bI b else v 171 q) = _
      rw [if_neg (by omega), kv.1 171 (by decide)]
    · show V.length + 1 ≤ j + 1
      omega
    · have := he z
      show V.length + 1 ≤ j
      omega
  have b01 : ∀ b : Bool, bI b = 0 ∨ bI b = 1 := fun b => by cases b <;> decide
  refine CalK (rtest_c hw hF h39 h40 g1 (fun j s hcm v kv v39 v40 => ?_) (fun j hcm b v kv v39 v40 => ?_)) (by decide)
  · have hcb := CMO_b hh g1 hcm
    have e43 : v 12 43 = (V.length : Int) := (kv.2 43 (by decide) (by decide)).trans h43
    have e43' : (wst v 171 (V.length) (bI (cmpV f (mF pt) s))) 12 43 = (V.length : Int) := e43
    rw [h43, tn, e43', wr_s (by omega)]
    refine ⟨by omega, b01 _, ?_⟩
    refine CalK (en0_ends (ends_l hn hS k _ _ hdk (nw _ v j 0 kv v39 v40 (by omega) (by omega) (fun _ => by omega)) (fun u' hu' => ?_))) (by decide)
    exact h1 j s hcm u' hu'
  · have hcb := CMB_b hh g1 hcm
    have e43 : v 12 43 = (V.length : Int) := (kv.2 43 (by decide) (by decide)).trans h43
    have e43' : (wst v 171 (V.length) (bI b)) 12 43 = (V.length : Int) := e43
    rw [h43, tn, e43', wr_s (by omega)]
    refine ⟨by omega, b01 _, ?_⟩
    refine CalK (en0_ends (ends_l hn hS k _ _ hdk (nw b v j 1 kv v39 v40 (by omega) (by omega) (fun z => absurd z (by decide))) (fun u' hu' => ?_))) (by decide)
    exact m_bad hu'.1 hu'.2.1 hu'.2.2.1 (h0 j hcm)
theorem m_head (hw : HTR w0 n h pt f) {u : Wd} {i d : Nat} {S : List Int} {V : List Bool} (hu : RSt w0 n u i 0 d S V) (hi : i < n) (hK : Ev none (Cal 3) (cd 179) (rI K) (137, [some (.inr (.inr 12)), some (.inl 0), some (.inl (h i))], [], u)) : HDR K 0 u := by
  obtain ⟨hF, h39, h40, h41, h43, h45, hst, hV, g1, g2, g3, g4⟩ := hu
  have e38 : u 12 38 = (n : Int) := (hF.2 38 (by decide) (by decide) (by decide) (by decide) (by decide)).trans hw.1
  refine bk_179_27 ?_
  rw [if_pos h40, if_pos rfl, if_pos (by omega)]
  refine bk_179_49 ?_
  refine CalE.to (hereR_ok hw hF h39 g1) (by decide) ?_
  rw [if_pos rfl]
  exact hK
theorem m_and (hw : HTR w0 n h pt f) {u : Wd} {i d : Nat} {X Y : List Int × List Bool} (hu : RSt w0 n u i 0 d X.1 X.2) (hc : h i = 38) (hJ : JA X Y) (hK : ∀ u', RSt w0 n u' (i + 1) 0 d (38 :: Y.1) Y.2 → HDR K 1 u') : HDR K 0 u := by
  have hn := hw.2.1
  have hh := hw.2.2.2.1 i
  refine m_head hw hu (by omega) ?_
  refine bk_179_137 ?_
  rw [hc, if_pos rfl, if_pos rfl]
  refine CalK (joinA_c hn hu hJ (fun v hv => ?_)) (by decide)
  rw [if_neg (by decide)]
  have hp := hK _ (RSt.pu hv (by omega) 38)
  obtain ⟨hF, h39, h40, h41, h43, h45, hst, hV, g1, g2, g3, g4⟩ := hv
  have w2 : wr ((Y.1.length : Int) + 1) = ((Y.1.length + 1 : Nat) : Int) := wr_s (by omega)
  have w3 : wr ((i : Int) + 1) = ((i + 1 : Nat) : Int) := wr_s (by omega)
  simp only [wst_ap, Nat.reduceEqDiff, false_and, and_false, if_false, and_self, if_true, h45, h39, w2, w3, tn]
  exact ⟨by omega, hp⟩
theorem m_or (hw : HTR w0 n h pt f) {u : Wd} {i d : Nat} {X Y Z : List Int × List Bool} (hu : RSt w0 n u i 0 d X.1 X.2) (hc : h i = 124) (hJ : JA X Y) (hJ2 : JO Y Z) (hK : ∀ u', RSt w0 n u' (i + 1) 0 d (124 :: Z.1) Z.2 → HDR K 1 u') : HDR K 0 u := by
  have hn := hw.2.1
  have hh := hw.2.2.2.1 i
  refine m_head hw hu (by omega) ?_
  refine bk_179_137 ?_
  rw [hc, if_pos rfl, if_neg (by decide), if_pos rfl]
  refine CalK (joinA_c hn hu hJ (fun v hv => ?_)) (by decide)
  rw [if_pos rfl]
  refine CalK (joinO_c hn hv hJ2 (fun x hx => ?_)) (by decide)
  have hp := hK _ (RSt.pu hx (by omega) 124)
  obtain ⟨hF, h39, h40, h41, h43, h45, hst, hV, g1, g2, g3, g4⟩ := hx
  have w2 : wr ((Z.1.length : Int) + 1) = ((Z.1.length + 1 : Nat) : Int) := wr_s (by omega)
  have w3 : wr ((i : Int) + 1) = ((i + 1 : Nat) : Int) := wr_s (by omega)
  simp only [wst_ap, Nat.reduceEqDiff, false_and, and_false, if_false, and_self, if_true, h45, h39, w2, w3, tn]
  exact ⟨by omega, hp⟩
theorem m_oth (hw : HTR w0 n h pt f) {u : Wd} {i d : Nat} {X Y Z : List Int × List Bool} (hu : RSt w0 n u i 0 d X.1 X.2) (hi : i < n) (hc : ¬ h i = 38 ∧ ¬ h i = 124) (hJ : JA X Y) (hJ2 : JO Y Z) (hb : ¬ (h i = 41 ∧ top Z.1 = 40)) (hB : FBR K w0 i) : HDR K 0 u := by
  have hn := hw.2.1
  refine m_head hw hu hi ?_
  refine bk_179_137 ?_
  rw [if_pos rfl, if_neg hc.1, if_neg hc.2]
  refine CalK (joinA_c hn hu hJ (fun v hv => ?_)) (by decide)
  refine CalK (joinO_c hn hv hJ2 (fun x hx => ?_)) (by decide)
  have hbd : HDR K 0 (wst x 12 40 1) := m_bad (hx.1.st (by omega)) hx.2.1 rfl hB
  refine ite_i (fun q => ?_) (fun q => ?_)
  · refine CalE.to (topSign_ok hn hx) (by decide) ?_
    rw [if_neg (fun g => hb ⟨q, g⟩)]
    refine ⟨by decide, ?_⟩
    rw [if_neg (show ¬ (wst x 12 40 1) 12 40 = 0 from by show ¬ (1 : Int) = 0; decide)]
    exact hbd
  · refine ⟨by decide, ?_⟩
    rw [if_neg (show ¬ (wst x 12 40 1) 12 40 = 0 from by show ¬ (1 : Int) = 0; decide)]
    exact hbd
theorem m_close (hw : HTR w0 n h pt f) {u : Wd} {i d k : Nat} {X Y : List Int × List Bool} {S : List Int} {v : Bool} {V : List Bool} (hu : RSt w0 n u i 0 (d + k + 1) X.1 X.2) (hc : h i = 41) (hdk : d + k ≤ 100) (hJ : JA X Y) (hJ2 : JO Y (40 :: (List.replicate k 33 ++ S), v :: V)) (hS : ¬ top S = 33) (hK : ∀ u', RSt w0 n u' (i + 1) 0 d S (fl k v :: V) → HDR K 0 u') : HDR K 0 u := by
  have hn := hw.2.1
  have hh := hw.2.2.2.1 i
  refine m_head hw hu (by omega) ?_
  refine bk_179_137 ?_
  rw [hc, if_pos rfl, if_neg (by decide), if_neg (by decide)]
  refine CalK (joinA_c hn hu hJ (fun y hy => ?_)) (by decide)
  refine CalK (joinO_c hn hy hJ2 (fun x hx => ?_)) (by decide)
  rw [if_pos rfl]
  refine CalE.to (topSign_ok hn hx) (by decide) ?_
  rw [if_pos (show top (40 :: (List.replicate k 33 ++ S)) = 40 from rfl)]
  refine ⟨by decide, ?_⟩
  rw [if_pos (show (wst x 12 40 0) 12 40 = 0 from rfl)]
  obtain ⟨hF, h39, h40, h41, h43, h45, hst, hV, g1, g2, g3, g4⟩ := hx
  have e2 : (40 :: (List.replicate k (33 : Int) ++ S)).length = (List.replicate k (33 : Int) ++ S).length + 1 := rfl
  have e45 : x 12 45 = (((List.replicate k (33 : Int) ++ S).length + 1 : Nat) : Int) := h45
  have e41 : x 12 41 = ((d + k + 1 : Nat) : Int) := h41
  have g2' : (List.replicate k (33 : Int) ++ S).length + 1 ≤ i := g2
  have w1 : wr ((((List.replicate k (33 : Int) ++ S).length + 1 : Nat) : Int) - 1) = ((List.replicate k (33 : Int) ++ S).length : Int) := by rw [wr_id (by omega) (by omega)]; omega
  have w2 : wr (((d + k + 1 : Nat) : Int) - 1) = ((d + k : Nat) : Int) := by rw [wr_id (by omega) (by omega)]; omega
  have w3 : wr ((i : Int) + 1) = ((i + 1 : Nat) : Int) := wr_s (by omega)
  simp only [wst_ap, Nat.reduceEqDiff, false_and, and_false, if_false, and_self, if_true, e45, e41, h39, w1, w2, w3]
  have hR : RSt w0 n (wst (wst (wst (wst x 12 40 0) 12 45 ((List.replicate k (33 : Int) ++ S).length : Int)) 12 41 ((d + k : Nat) : Int)) 12 39 ((i + 1 : Nat) : Int)) (i + 1) 0 (d + k) (List.replicate k 33 ++ S) (v :: V) := by
    refine ⟨(((hF.st (by omega)).st (by omega)).st (by omega)).st (by omega), rfl, rfl, rfl, h43, rfl, hst.2, hV, by omega, by omega, ?_, fun z => ?_⟩
    · have g3' : (v :: V).length ≤ i + 1 := g3
      omega
    · have g4' : (v :: V).length ≤ i := g4 rfl
      omega
  exact CalK (en0_ends (ends_l hn hS k v _ hdk hR (fun u' hu' => hK u' hu'))) (by decide)
theorem m_end (hw : HTR w0 n h pt f) {u : Wd} {d : Nat} {X Y Z : List Int × List Bool} (hu : RSt w0 n u n 0 d X.1 X.2) (hJ : JA X Y) (hJ2 : JO Y Z) (h1 : ∀ v, Z = ([], [v]) → ∀ u', FRR w0 u' → u' 12 40 = 0 → K (bI v) u') (hz : Z.1 = [] → ∃ v, Z = ([], [v])) (h0 : ¬ Z.1 = [] → FBR K w0 n) : HDR K 0 u := by
  have hn := hw.2.1
  have hu2 := hu
  obtain ⟨hF, h39, h40, h41, h43, h45, hst, hV, g1, g2, g3, g4⟩ := hu
  have e38 : u 12 38 = (n : Int) := (hF.2 38 (by decide) (by decide) (by decide) (by decide) (by decide)).trans hw.1
  refine bk_179_27 ?_
  rw [if_pos h40, if_pos rfl, if_neg (by omega)]
  refine bk_179_318 ?_
  rw [if_pos h40]
  refine CalK (joinA_c hn hu2 hJ (fun y hy => ?_)) (by decide)
  refine CalK (joinO_c hn hy hJ2 (fun x hx => ?_)) (by decide)
  obtain ⟨xF, x39, x40, x41, x43, x45, xst, xV, k1, k2, k3, k4⟩ := hx
  by_cases q : Z.1 = []
  · obtain ⟨v, rfl⟩ := hz q
    have e45 : x 12 45 = 0 := x45
    rw [if_neg (by omega)]
    refine ⟨by decide, ?_⟩
    rw [if_pos (show (wst x 12 40 0) 12 40 = 0 from rfl)]
    have ev : (wst x 12 40 0) 171 0 = bI v := xV.1
    rw [ev]
    refine ⟨by omega, ?_⟩
    have hk := h1 v rfl (wst x 12 40 0) (xF.st (by omega)) rfl
    cases v
    · rw [if_pos (show bI false = 0 from rfl)]
      exact ⟨by decide, hk⟩
    · rw [if_neg (show ¬ bI true = 0 by decide)]
      exact ⟨by decide, hk⟩
  · have hl : 0 < Z.1.length := by
      cases hz1 : Z.1 with
      | nil => exact absurd hz1 q
      | cons a L => show 0 < L.length + 1; omega
    rw [if_pos (by omega)]
    refine ⟨by decide, ?_⟩
    rw [if_neg (show ¬ (wst x 12 40 1) 12 40 = 0 from by show ¬ (1 : Int) = 0; decide)]
    exact ⟨by decide, h0 q _ (xF.st (by omega)) x39 rfl⟩
end
