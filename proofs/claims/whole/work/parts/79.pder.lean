/-! the reference follows the reading -/
theorem rep_c (k : Nat) (S : List Int) : List.replicate k (33 : Int) ++ (33 :: S) = List.replicate (k + 1) 33 ++ S := by
  induction k with
  | zero => rfl
  | succ k ih =>
    show 33 :: (List.replicate k (33 : Int) ++ (33 :: S)) = 33 :: (List.replicate (k + 1) 33 ++ S)
    rw [ih]
section
variable {w0 : Wd} {n : Nat} {h : Nat → Int} {pt : Int} {f : Nat → Int} {K : Int → Wd → Prop}
def clA (K : Int → Wd → Prop) (w0 : Wd) (n : Nat) (f : Nat → Int) (m : Int) : Nat → Nat → Bool → Nat → List Int → Prop := fun d i ok j T => i ≤ n → d ≤ 4 → ∀ S V u, RSt w0 n u i 0 d S V → ¬ top S = 33 → (ok = true → (∀ u', RSt w0 n u' j 0 d S (run f m T V) → HDR K 0 u') → HDR K 1 u) ∧ (ok = false → FBR K w0 j → HDR K 1 u)
def clB (K : Int → Wd → Prop) (w0 : Wd) (n : Nat) (h : Nat → Int) (f : Nat → Int) (m : Int) : Nat → Nat → Bool → Nat → List Int → Prop := fun d i ok j T => i ≤ n → d ≤ 4 → ∀ S V u, RSt w0 n u i 0 d S V → ¬ top S = 33 → ¬ top S = 38 → (ok = true → (∀ u' X, RSt w0 n u' j 0 d X.1 X.2 → JA X (S, run f m T V) → ¬ h j = 38 → HDR K 0 u') → HDR K 1 u) ∧ (ok = false → FBR K w0 j → HDR K 1 u)
def clC (K : Int → Wd → Prop) (w0 : Wd) (n : Nat) (h : Nat → Int) (f : Nat → Int) (m : Int) : Nat → Nat → Bool → Nat → List Int → Prop := fun d i ok j T => i ≤ n → d ≤ 4 → ∀ S V X v u, RSt w0 n u i 0 d X.1 X.2 → JA X (S, v :: V) → ¬ top S = 38 → (ok = true → (∀ u' X', RSt w0 n u' j 0 d X'.1 X'.2 → JA X' (S, run f m T (v :: V)) → ¬ h j = 38 → HDR K 0 u') → HDR K 0 u) ∧ (ok = false → FBR K w0 j → HDR K 0 u)
def clD (K : Int → Wd → Prop) (w0 : Wd) (n : Nat) (h : Nat → Int) (f : Nat → Int) (m : Int) : Nat → Nat → Bool → Nat → List Int → Prop := fun d i ok j T => i ≤ n → d ≤ 4 → ∀ S V u, RSt w0 n u i 0 d S V → ¬ top S = 33 → ¬ top S = 38 → ¬ top S = 124 → (ok = true → (∀ u' X Y, RSt w0 n u' j 0 d X.1 X.2 → JA X Y → JO Y (S, run f m T V) → ¬ h j = 38 → ¬ h j = 124 → HDR K 0 u') → HDR K 1 u) ∧ (ok = false → FBR K w0 j → HDR K 1 u)
def clE (K : Int → Wd → Prop) (w0 : Wd) (n : Nat) (h : Nat → Int) (f : Nat → Int) (m : Int) : Nat → Nat → Bool → Nat → List Int → Prop := fun d i ok j T => i ≤ n → d ≤ 4 → ∀ S V X Y v u, RSt w0 n u i 0 d X.1 X.2 → JA X Y → JO Y (S, v :: V) → ¬ h i = 38 → ¬ top S = 38 → ¬ top S = 124 → (ok = true → (∀ u' X' Y', RSt w0 n u' j 0 d X'.1 X'.2 → JA X' Y' → JO Y' (S, run f m T (v :: V)) → ¬ h j = 38 → ¬ h j = 124 → HDR K 0 u') → HDR K 0 u) ∧ (ok = false → FBR K w0 j → HDR K 0 u)
theorem m_bangs (hw : HTR w0 n h pt f) : ∀ (k i d : Nat) (S : List Int) (V : List Bool) (u : Wd), BNG h i k → d + k ≤ 4 → RSt w0 n u i 0 d S V → (∀ u', RSt w0 n u' (i + k) 0 (d + k) (List.replicate k 33 ++ S) V → HDR K 1 u') → HDR K 1 u := by
  intro k
  induction k with
  | zero => intro i d S V u _ _ hu hK; exact hK u hu
  | succ k ih =>
    intro i d S V u hb hd hu hK
    refine m_push hw hu (c := 33) (hb 0 (by omega)) (Or.inl rfl) (by omega) (fun u1 h1 => ?_)
    refine ih (i + 1) (d + 1) (33 :: S) V u1 (fun q hq => ?_) (by omega) h1 (fun u2 h2 => hK u2 ?_)
    · have := hb (q + 1) (by omega)
      rw [show i + 1 + q = i + (q + 1) by omega]
      exact this
    · rw [rep_c, show i + 1 + k = i + (k + 1) by omega, show d + 1 + k = d + (k + 1) by omega] at h2
      exact h2
theorem m_all (hw : HTR w0 n h pt f) {m d i j : Nat} {ok : Bool} {T : List Int} (hd : DER pt h m d i ok j T) : pk (clA K w0 n f (mF pt)) (clB K w0 n h f (mF pt)) (clC K w0 n h f (mF pt)) (clD K w0 n h f (mF pt)) (clE K w0 n h f (mF pt)) m d i ok j T := by
  have hn := hw.2.1
  have hh := hw.2.2.2.1
  refine DER.ind (P := pk (clA K w0 n f (mF pt)) (clB K w0 n h f (mF pt)) (clC K w0 n h f (mF pt)) (clD K w0 n h f (mF pt)) (clE K w0 n h f (mF pt))) ?_ hd
  have nf : ∀ {q : Prop}, false = true → q := fun g => absurd g (by decide)
  have nt : ∀ {q : Prop}, true = false → q := fun g => absurd g (by decide)
  have sv : ∀ {d i j : Nat} {T : List Int} {md : Nat}, (md = 0 ∨ md = 1 ∨ md = 3) → DER pt h md d i true j T → i ≤ n → ∃ v, ∀ V, run f (mF pt) T V = v :: V := by
    intro d i j T md hm hd hi
    rcases hm with rfl | rfl | rfl
    · exact der_v hh f (mF pt) hd hi rfl
    · exact der_v hh f (mF pt) hd hi rfl
    · exact der_v hh f (mF pt) hd hi rfl
  refine ⟨?_, ?_, ?_, ?_, ?_, ?_, ?_, ?_, ?_, ?_, ?_, ?_, ?_, ?_, ?_, ?_⟩
  · intro d m i j s a b c e g hi hd4 S V u hu hS
    refine ⟨fun _ hK => ?_, fun q => nt q⟩
    have hy := hh (i + m)
    have hcb := CMO_b hh (bng_n hh b hi) g
    refine m_bangs hw m i d S V u b a hu (fun u1 h1 => ?_)
    refine m_test hw h1 hS (by omega) ⟨fun g2 => ?_, e⟩ (fun j' s' hc u2 h2 => ?_) (fun j' hc => ?_)
    · rcases c with c | c
      · have : (unF pt h (i + m)) = (-1, i + m) := by
          unfold unF
          rw [if_neg (by rw [g2]; intro z; have := faI_n z; omega), dgR_s, if_neg (by omega)]
        have := g.1
        rw [‹unF pt h (i + m) = (-1, i + m)›] at this
        exact absurd this (by show ¬ (0 : Int) ≤ -1; decide)
      · exact c g2
    · obtain ⟨c1, c2, c3, c4, rfl, rfl⟩ := hc
      obtain ⟨_, _, _, _, rfl, rfl⟩ := g
      refine hK u2 ?_
      have e1 : ∀ x : Int, 0 ≤ x → run f (mF pt) ([x] ++ nots m) V = fl m (cmpV f (mF pt) x) :: V := by
        intro x hx
        rw [run_a]
        show run f (mF pt) (nots m) (stp f (mF pt) x V) = _
        rw [show stp f (mF pt) x V = cmpV f (mF pt) x :: V from if_neg (by omega), run_n]
      rw [e1 _ hcb.2.2]
      exact h2
    · exfalso
      obtain ⟨c1, c2, c3, c4, c5, c6⟩ := g
      rcases hc with ⟨hc | hc | hc, _⟩ | ⟨_, _, _, hc, _⟩
      all_goals omega
  · intro d m i j a b c e g hi hd4 S V u hu hS
    refine ⟨fun q => nf q, fun _ hB => ?_⟩
    refine m_bangs hw m i d S V u b a hu (fun u1 h1 => ?_)
    by_cases g2 : h (i + m) = 33
    · have hdm : d + m = 4 := by
        rcases c with c | c
        · exact c
        · exact absurd g2 c
      have hu0 : unF pt h (i + m) = (-1, i + m) := by
        unfold unF
        rw [if_neg (by rw [g2]; intro z; have := faI_n z; omega), dgR_s, if_neg (by omega)]
      have hj : j = i + m := by
        rcases g with ⟨_, g⟩ | ⟨g, _⟩
        · rw [hu0] at g; exact g
        · rw [hu0] at g; exact absurd g (by show ¬ (0 : Int) ≤ -1; decide)
      rw [hdm] at h1
      rw [hj] at hB
      exact m_deep hw h1 g2 (Or.inl rfl) hB
    · refine m_test hw h1 hS (by omega) ⟨g2, e⟩ (fun j' s' hc u2 h2 => ?_) (fun j' hc => ?_)
      · exfalso
        obtain ⟨c1, c2, c3, c4, c5, c6⟩ := hc
        rcases g with ⟨g | g | g, _⟩ | ⟨_, _, _, g, _⟩
        all_goals omega
      · have hjj : j' = j := by
          rcases hc with ⟨hc, rfl⟩ | ⟨k1, k2, k3, k4, rfl⟩
          · rcases g with ⟨g, rfl⟩ | ⟨l1, l2, l3, l4, rfl⟩
            · rfl
            · omega
          · rcases g with ⟨g, rfl⟩ | ⟨l1, l2, l3, l4, rfl⟩
            · omega
            · rfl
        rw [hjj]
        exact hB
  · intro d m i a b c hi hd4 S V u hu hS
    refine ⟨fun q => nf q, fun _ hB => ?_⟩
    refine m_bangs hw m i d S V u b (by omega) hu (fun u1 h1 => ?_)
    rw [a] at h1
    exact m_deep hw h1 c (Or.inr rfl) hB
  · intro d m i j T a b c e hi hd4 S V u hu hS
    refine ⟨fun q => nf q, fun _ hB => ?_⟩
    have hy := hh (i + m)
    refine m_bangs hw m i d S V u b (by omega) hu (fun u1 h1 => ?_)
    refine m_push hw h1 c (Or.inr rfl) a (fun u2 h2 => ?_)
    exact (e.2 (by omega) (by omega) _ V u2 h2 (show ¬ (40 : Int) = 33 by decide) (show ¬ (40 : Int) = 38 by decide) (show ¬ (40 : Int) = 124 by decide)).2 rfl hB
  · intro d m i j T a b c e g hi hd4 S V u hu hS
    refine ⟨fun q => nf q, fun _ hB => ?_⟩
    have hy := hh (i + m)
    have hdb := der_b hh e.1 (by omega)
    refine m_bangs hw m i d S V u b (by omega) hu (fun u1 h1 => ?_)
    refine m_push hw h1 c (Or.inr rfl) a (fun u2 h2 => ?_)
    refine (e.2 (by omega) (by omega) _ V u2 h2 (show ¬ (40 : Int) = 33 by decide) (show ¬ (40 : Int) = 38 by decide) (show ¬ (40 : Int) = 124 by decide)).1 rfl (fun u3 X Y h3 hJ hJ2 g38 g124 => ?_)
    rcases Nat.lt_or_ge j n with q | q
    · exact m_oth hw h3 q ⟨g38, g124⟩ hJ hJ2 (fun z => g z.1) hB
    · obtain rfl : j = n := by omega
      refine m_end hw h3 hJ hJ2 (fun v hv => ?_) (fun z => ?_) (fun _ => hB)
      · exact absurd (congrArg (fun q => q.1) hv) (by intro z; exact List.cons_ne_nil _ _ z)
      · exact absurd z (List.cons_ne_nil _ _)
  · intro d m i j T a b c e g hi hd4 S V u hu hS
    refine ⟨fun _ hK => ?_, fun q => nt q⟩
    have hy := hh (i + m)
    obtain ⟨v, hv⟩ := sv (Or.inr (Or.inr rfl)) e.1 (show i + m + 1 ≤ n by omega)
    refine m_bangs hw m i d S V u b (by omega) hu (fun u1 h1 => ?_)
    refine m_push hw h1 c (Or.inr rfl) a (fun u2 h2 => ?_)
    refine (e.2 (by omega) (by omega) _ V u2 h2 (show ¬ (40 : Int) = 33 by decide) (show ¬ (40 : Int) = 38 by decide) (show ¬ (40 : Int) = 124 by decide)).1 rfl (fun u3 X Y h3 hJ hJ2 g38 g124 => ?_)
    rw [hv] at hJ2
    refine m_close hw h3 g (by omega) hJ hJ2 hS (fun u4 h4 => hK u4 ?_)
    rw [run_a, hv, run_n]
    exact h4
  · intro d i j T a hi hd4 S V u hu hS hS2
    exact ⟨fun q => nf q, fun _ hB => (a.2 hi hd4 S V u hu hS).2 rfl hB⟩
  · intro d i j T ok j' T' a b hi hd4 S V u hu hS hS2
    have hdb := der_b hh a.1 hi
    obtain ⟨v, hv⟩ := sv (Or.inl rfl) a.1 hi
    refine ⟨fun q hK => ?_, fun q hB => ?_⟩
    · refine (a.2 hi hd4 S V u hu hS).1 rfl (fun u1 h1 => ?_)
      rw [hv] at h1
      refine (b.2 hdb.2.1 hd4 S V (S, v :: V) v u1 h1 (Or.inl ⟨hS2, rfl⟩) hS2).1 q (fun u2 X h2 hJ g38 => hK u2 X h2 ?_ g38)
      rw [run_a, hv]
      exact hJ
    · refine (a.2 hi hd4 S V u hu hS).1 rfl (fun u1 h1 => ?_)
      rw [hv] at h1
      exact (b.2 hdb.2.1 hd4 S V (S, v :: V) v u1 h1 (Or.inl ⟨hS2, rfl⟩) hS2).2 q hB
  · intro d i a hi hd4 S V X v u hu hJ hS
    exact ⟨fun _ hK => hK u X hu hJ a, fun q => nt q⟩
  · intro d i j T a b hi hd4 S V X v u hu hJ hS
    refine ⟨fun q => nf q, fun _ hB => ?_⟩
    have hy := hh i
    refine m_and hw hu a hJ (fun u1 h1 => ?_)
    exact (b.2 (by omega) hd4 (38 :: S) (v :: V) u1 h1 (show ¬ (38 : Int) = 33 by decide)).2 rfl hB
  · intro d i j T ok j' T' a b c hi hd4 S V X v u hu hJ hS
    have hy := hh i
    have hdb := der_b hh b.1 (by omega)
    obtain ⟨v1, hv⟩ := sv (Or.inl rfl) b.1 (show i + 1 ≤ n by omega)
    have er : run f (mF pt) (T ++ (-2 :: T')) (v :: V) = run f (mF pt) T' ((v && v1) :: V) := by
      rw [run_a, hv]
      rfl
    refine ⟨fun q hK => ?_, fun q hB => ?_⟩
    · refine m_and hw hu a hJ (fun u1 h1 => ?_)
      refine (b.2 (by omega) hd4 (38 :: S) (v :: V) u1 h1 (show ¬ (38 : Int) = 33 by decide)).1 rfl (fun u2 h2 => ?_)
      rw [hv] at h2
      refine (c.2 hdb.2.1 hd4 S V (38 :: S, v1 :: v :: V) (v && v1) u2 h2 (Or.inr ⟨S, v1, v, V, rfl, hS, rfl⟩) hS).1 q (fun u3 X' h3 hJ' g38 => hK u3 X' h3 ?_ g38)
      rw [er]
      exact hJ'
    · refine m_and hw hu a hJ (fun u1 h1 => ?_)
      refine (b.2 (by omega) hd4 (38 :: S) (v :: V) u1 h1 (show ¬ (38 : Int) = 33 by decide)).1 rfl (fun u2 h2 => ?_)
      rw [hv] at h2
      exact (c.2 hdb.2.1 hd4 S V (38 :: S, v1 :: v :: V) (v && v1) u2 h2 (Or.inr ⟨S, v1, v, V, rfl, hS, rfl⟩) hS).2 q hB
  · intro d i j T a hi hd4 S V u hu hS hS2 hS3
    exact ⟨fun q => nf q, fun _ hB => (a.2 hi hd4 S V u hu hS hS2).2 rfl hB⟩
  · intro d i j T ok j' T' a b hi hd4 S V u hu hS hS2 hS3
    have hdb := der_b hh a.1 hi
    obtain ⟨v, hv⟩ := sv (Or.inr (Or.inl rfl)) a.1 hi
    refine ⟨fun q hK => ?_, fun q hB => ?_⟩
    · refine (a.2 hi hd4 S V u hu hS hS2).1 rfl (fun u1 X h1 hJ g38 => ?_)
      rw [hv] at hJ
      refine (b.2 hdb.2.1 hd4 S V X (S, v :: V) v u1 h1 hJ (Or.inl ⟨hS3, rfl⟩) g38 hS2 hS3).1 q (fun u2 X' Y' h2 hJ1 hJ2 k38 k124 => hK u2 X' Y' h2 hJ1 ?_ k38 k124)
      rw [run_a, hv]
      exact hJ2
    · refine (a.2 hi hd4 S V u hu hS hS2).1 rfl (fun u1 X h1 hJ g38 => ?_)
      rw [hv] at hJ
      exact (b.2 hdb.2.1 hd4 S V X (S, v :: V) v u1 h1 hJ (Or.inl ⟨hS3, rfl⟩) g38 hS2 hS3).2 q hB
  · intro d i a hi hd4 S V X Y v u hu hJ hJ2 g38 hS hS2
    exact ⟨fun _ hK => hK u X Y hu hJ hJ2 g38 a, fun q => nt q⟩
  · intro d i j T a b hi hd4 S V X Y v u hu hJ hJ2 g38 hS hS2
    refine ⟨fun q => nf q, fun _ hB => ?_⟩
    have hy := hh i
    refine m_or hw hu a hJ hJ2 (fun u1 h1 => ?_)
    exact (b.2 (by omega) hd4 (124 :: S) (v :: V) u1 h1 (show ¬ (124 : Int) = 33 by decide) (show ¬ (124 : Int) = 38 by decide)).2 rfl hB
  · intro d i j T ok j' T' a b c hi hd4 S V X Y v u hu hJ hJ2 g38 hS hS2
    have hy := hh i
    have hdb := der_b hh b.1 (by omega)
    obtain ⟨v1, hv⟩ := sv (Or.inr (Or.inl rfl)) b.1 (show i + 1 ≤ n by omega)
    have er : run f (mF pt) (T ++ (-3 :: T')) (v :: V) = run f (mF pt) T' ((v || v1) :: V) := by
      rw [run_a, hv]
      rfl
    refine ⟨fun q hK => ?_, fun q hB => ?_⟩
    · refine m_or hw hu a hJ hJ2 (fun u1 h1 => ?_)
      refine (b.2 (by omega) hd4 (124 :: S) (v :: V) u1 h1 (show ¬ (124 : Int) = 33 by decide) (show ¬ (124 : Int) = 38 by decide)).1 rfl (fun u2 X1 h2 hJ1 k38 => ?_)
      rw [hv] at hJ1
      refine (c.2 hdb.2.1 hd4 S V X1 (124 :: S, v1 :: v :: V) (v || v1) u2 h2 hJ1 (Or.inr ⟨S, v1, v, V, rfl, hS2, rfl⟩) k38 hS hS2).1 q (fun u3 X' Y' h3 hJ3 hJ4 l38 l124 => hK u3 X' Y' h3 hJ3 ?_ l38 l124)
      rw [er]
      exact hJ4
    · refine m_or hw hu a hJ hJ2 (fun u1 h1 => ?_)
      refine (b.2 (by omega) hd4 (124 :: S) (v :: V) u1 h1 (show ¬ (124 : Int) = 33 by decide) (show ¬ (124 : Int) = 38 by decide)).1 rfl (fun u2 X1 h2 hJ1 k38 => ?_)
      rw [hv] at hJ1
      exact (c.2 hdb.2.1 hd4 S V X1 (124 :: S, v1 :: v :: V) (v || v1) u2 h2 hJ1 (Or.inr ⟨S, v1, v, V, rfl, hS2, rfl⟩) k38 hS hS2).2 q hB
/-- the reference reads a whole rule -/
theorem readRule_c (hw : HTR w0 n h pt f) {u : Wd} (hF : FRR w0 u) {ok : Bool} {j : Nat} {T : List Int} (hd : DER pt h 3 0 0 ok j T) (h1 : ok = true → j = n → ∀ v, FRR w0 v → v 12 40 = 0 → K (bI (vlF f (mF pt) T)) v) (h0 : ¬ (ok = true ∧ j = n) → FBR K w0 j) : Cal 4 179 [.inr (.inr 12)] u (rI K) := by
  have hh := hw.2.2.2.1
  have hdb := der_b hh hd (Nat.zero_le n)
  have hall := m_all (K := K) hw hd (Nat.zero_le n) (Nat.zero_le 4) [] [] (wst (wst (wst (wst (wst u 12 39 0) 12 40 0) 12 41 0) 12 43 0) 12 45 0) ⟨((((hF.st (by omega)).st (by omega)).st (by omega)).st (by omega)).st (by omega), rfl, rfl, rfl, rfl, rfl, trivial, trivial, Nat.zero_le n, Nat.le_refl 0, by decide, fun _ => Nat.le_refl 0⟩ (show ¬ (0 : Int) = 33 by decide) (show ¬ (0 : Int) = 38 by decide) (show ¬ (0 : Int) = 124 by decide)
  refine en_179 ?_
  refine ⟨by decide, ?_⟩
  cases ok
  · exact hall.2 rfl (h0 (fun q => absurd q.1 (by decide)))
  · refine hall.1 rfl (fun u' X Y hu hJ hJ2 g38 g124 => ?_)
    rw [der_r hh f (mF pt) hd (Nat.zero_le n)] at hJ2
    rcases Nat.lt_or_ge j n with q | q
    · exact m_oth hw hu q ⟨g38, g124⟩ hJ hJ2 (fun z => absurd z.2 (show ¬ (0 : Int) = 40 by decide)) (h0 (fun z => by omega))
    · obtain rfl : j = n := by omega
      refine m_end hw hu hJ hJ2 (fun v hv v' hv' h40 => ?_) (fun _ => ⟨_, rfl⟩) (fun z => absurd rfl z)
      have e : vlF f (mF pt) T = v := by
        have := congrArg (fun q => q.2) hv
        exact List.cons.inj this |>.1
      rw [← e]
      exact h1 rfl rfl v' hv' h40
end
