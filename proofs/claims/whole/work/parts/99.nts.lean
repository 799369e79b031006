/-! nights, nightOf -/
def wnN (a b : Int) : Int := if a < 1 then -4 else if b < 1 then -4 else if 5 < a then -6 else if 9 < b then -6 else 0
theorem wn_c (a b : Int) : (wnN a b = 0 ∧ 1 ≤ a ∧ a ≤ 5 ∧ 1 ≤ b ∧ b ≤ 9) ∨ (-6 ≤ wnN a b ∧ wnN a b ≤ -1) := by
  unfold wnN
  repeat' split
  all_goals omega
theorem brn_t {x : Nat → Nat} {n L : Nat} (h : ∀ l, L ≤ l → x l = n) {m : Nat} (hm : L ≤ m) : brN x n m = brN x n L := by
  induction hm with
  | refl => rfl
  | @step m hm ih => rw [brn_s, h m hm, if_neg (Nat.lt_irrefl n), ih]; rfl
section
variable {w κ τ : Wd} {T : Wd → Wd → Prop}
theorem rplan_ok (hc : pc w = κ) (hm : pm w = τ) {a b : Int} : Cal 2 138 [.inr (.inr 11), .inl a, .inl b] w (rI fun y u => y = wnN a b ∧ ((y = 0 ∧ u = w) ∨ (¬ y = 0 ∧ pc u = rfC κ y ∧ pm u = τ))) := by
  generalize hQ : (rI fun y u => y = wnN a b ∧ ((y = 0 ∧ u = w) ∨ (¬ y = 0 ∧ pc u = rfC κ y ∧ pm u = τ))) = Q
  refine en_138 ?_
  unfold wnN at hQ
  refine ite_i (fun r1 => ?_) (fun r1 => ?_)
  · rw [if_pos r1] at hQ
    refine CalI.to (refuse_ok hc hm (by omega)) (by decide) ?_
    rintro _ u ⟨rfl, uc, um⟩
    rw [← hQ]
    exact ⟨rfl, Or.inr ⟨by decide, uc, um⟩⟩
  · rw [if_neg r1] at hQ
    refine ite_i (fun r2 => ?_) (fun r2 => ?_)
    · rw [if_pos r2] at hQ
      refine CalI.to (refuse_ok hc hm (by omega)) (by decide) ?_
      rintro _ u ⟨rfl, uc, um⟩
      rw [← hQ]
      exact ⟨rfl, Or.inr ⟨by decide, uc, um⟩⟩
    · rw [if_neg r2] at hQ
      refine ite_i (fun r3 => ?_) (fun r3 => ?_)
      · rw [if_pos r3] at hQ
        refine CalI.to (refuse_ok hc hm (by omega)) (by decide) ?_
        rintro _ u ⟨rfl, uc, um⟩
        rw [← hQ]
        exact ⟨rfl, Or.inr ⟨by decide, uc, um⟩⟩
      · rw [if_neg r3] at hQ
        refine ite_i (fun r4 => ?_) (fun r4 => ?_)
        · rw [if_pos r4] at hQ
          refine CalI.to (refuse_ok hc hm (by omega)) (by decide) ?_
          rintro _ u ⟨rfl, uc, um⟩
          rw [← hQ]
          exact ⟨rfl, Or.inr ⟨by decide, uc, um⟩⟩
        · rw [if_neg r4] at hQ
          rw [← hQ]
          exact ⟨rfl, Or.inl ⟨rfl, rfl⟩⟩
theorem wrongN_ok {a b : Int} : Cal 1 236 [.inl a, .inl b] w (rI fun y u => y = wnN a b ∧ u = w) := by
  generalize hQ : (rI fun y u => y = wnN a b ∧ u = w) = Q
  refine en_236 ?_
  unfold wnN at hQ
  refine ite_i (fun r1 => ?_) (fun r1 => ?_)
  · rw [if_pos r1] at hQ
    rw [← hQ]; exact ⟨rfl, rfl⟩
  · rw [if_neg r1] at hQ
    refine ite_i (fun r2 => ?_) (fun r2 => ?_)
    · rw [if_pos r2] at hQ
      rw [← hQ]; exact ⟨rfl, rfl⟩
    · rw [if_neg r2] at hQ
      refine ite_i (fun r3 => ?_) (fun r3 => ?_)
      · rw [if_pos r3] at hQ
        rw [← hQ]; exact ⟨rfl, rfl⟩
      · rw [if_neg r3] at hQ
        refine ite_i (fun r4 => ?_) (fun r4 => ?_)
        · rw [if_pos r4] at hQ
          rw [← hQ]; exact ⟨rfl, rfl⟩
        · rw [if_neg r4] at hQ
          rw [← hQ]; exact ⟨rfl, rfl⟩
theorem both_nights (hT : TFr T) (hO : OKW T w) {a b : Int} : Cal 12 137 [.inr (.inr 11), .inl a, .inl b] w (rI fun x u => Cal 12 235 [.inr (.inr 12), .inl a, .inl b] u (rI fun y v => x = y ∧ OKW T v)) := by
  obtain ⟨κ, hc⟩ : ∃ κ, pc w = κ := ⟨_, rfl⟩
  obtain ⟨τ, hm⟩ : ∃ τ, pm w = τ := ⟨_, rfl⟩
  unfold OKW at hO
  rw [hc, hm] at hO
  obtain ⟨hE, hR, ht⟩ := id hO
  have hL9 := nL_9 hR
  refine en_137 ?_
  refine CalI.to (rplan_ok hc hm) (by decide) ?_
  rintro x u ⟨rfl, ⟨h0, rfl⟩ | ⟨h0, uc, um⟩⟩
  · rw [if_pos h0]
    rcases wn_c a b with hwn | hwn
    · obtain ⟨n, rfl⟩ : ∃ n : Nat, a = (n : Int) := ⟨a.toNat, by omega⟩
      obtain ⟨c, rfl⟩ : ∃ c : Nat, b = (c : Int) := ⟨b.toNat, by omega⟩
      refine CalV.to (make_c (K := fun w2 => Cal 11 144 [.inr (.inr 6)] w2 (rI fun v3 w3 => rI (fun x u => Cal 12 235 [.inr (.inr 12), .inl (n : Int), .inl (c : Int)] u (rI fun y v => x = y ∧ OKW T v)) (some (.inl v3)) w3)) hc hm hE hR (n := n) (c := c) (by omega) (fun v pl vc vm hop h86 hpl => ?_)) (by decide) (fun _ z => z)
      refine CalE.to (brought_c (pl := pl) (n := n) (by omega) h86) (by decide) ?_
      show Cal 12 235 [.inr (.inr 12), .inl (n : Int), .inl (c : Int)] v (rI fun y v => (brN pl n 9 : Int) = y ∧ OKW T v)
      refine en_235 ?_
      refine CalE.to wrongN_ok (by decide) ?_
      rw [h0, if_neg (by omega)]
      refine CalK (findNights_c vm hR (n := n) (c := c) (by omega) (by omega) (fun x bn xc xm hop2 _ => ?_)) (by decide)
      have e := OPT_u (by omega) hL9.1 hop hop2
      refine ⟨?_, OKW.of hO (xc.trans vc) xm⟩
      rw [brn_t hpl hL9.1, brn_c e]
    · omega
  · rw [if_neg h0]
    show Cal 12 235 [.inr (.inr 12), .inl a, .inl b] u (rI fun y v => wnN a b = y ∧ OKW T v)
    rcases wn_c a b with hwn | hwn
    · exact absurd hwn.1 h0
    · refine en_235 ?_
      refine CalE.to wrongN_ok (by decide) ?_
      rw [if_pos (by omega)]
      exact CalK (fin_rf hT hO uc um (by omega) rfl) (by decide)
theorem both_nightOf (hT : TFr T) (hO : OKW T w) {a b c : Int} : Cal 12 145 [.inr (.inr 11), .inl a, .inl b, .inl c] w (rI fun x u => Cal 12 240 [.inr (.inr 12), .inl a, .inl b, .inl c] u (rI fun y v => x = y ∧ OKW T v)) := by
  obtain ⟨κ, hc⟩ : ∃ κ, pc w = κ := ⟨_, rfl⟩
  obtain ⟨τ, hm⟩ : ∃ τ, pm w = τ := ⟨_, rfl⟩
  unfold OKW at hO
  rw [hc, hm] at hO
  obtain ⟨hE, hR, ht⟩ := id hO
  have hL9 := nL_9 hR
  refine en_145 ?_
  refine CalB (billHas_ok hc hE) (by decide) (fun q => ?_) (fun q => ?_)
  · rw [if_neg (by decide)]
    refine CalI.to (rplan_ok hc hm) (by decide) ?_
    rintro x u ⟨rfl, ⟨h0, rfl⟩ | ⟨h0, uc, um⟩⟩
    · rw [if_pos h0]
      rcases wn_c a b with hwn | hwn
      · obtain ⟨n, rfl⟩ : ∃ n : Nat, a = (n : Int) := ⟨a.toNat, by omega⟩
        obtain ⟨k, rfl⟩ : ∃ c : Nat, b = (c : Int) := ⟨b.toNat, by omega⟩
        obtain ⟨l, rfl⟩ : ∃ l : Nat, c = (l : Int) := ⟨c.toNat, by omega⟩
        refine CalV.to (make_c (K := fun w4 => ((0 : Int) ≤ (l : Int) ∧ (l : Int) < 9) ∧ rI (fun x u => Cal 12 240 [.inr (.inr 12), .inl (n : Int), .inl (k : Int), .inl (l : Int)] u (rI fun y v => x = y ∧ OKW T v)) (some (.inl (w4 86 (l : Int).toNat))) w4) hc hm hE hR (n := n) (c := k) (by omega) (fun v pl vc vm hop h86 hpl => ⟨by omega, ?_⟩)) (by decide) (fun _ z => z)
        rw [tn, h86 l (by omega)]
        show Cal 12 240 [.inr (.inr 12), .inl (n : Int), .inl (k : Int), .inl (l : Int)] v (rI fun y v => nvN n (pl l) = y ∧ OKW T v)
        refine en_240 ?_
        refine CalT (isLine_ok vm hR) (by decide) q ?_
        rw [if_neg (by decide)]
        refine CalE.to wrongN_ok (by decide) ?_
        rw [h0, if_neg (by omega)]
        refine CalK (findNights_c vm hR (n := n) (c := k) (by omega) (by omega) (fun x bn xc xm hop2 h200 => ?_)) (by decide)
        have e := OPT_u (by omega) hL9.1 hop hop2 l (by omega)
        have hb := (hop.1 l (by omega)).1
        rw [tn, h200 l (by omega), ← e]
        refine ⟨by omega, ?_⟩
        unfold nvN
        refine ite_i (fun r => ?_) (fun r => ⟨by omega, ?_⟩)
        · rw [if_neg (by omega)]
          exact ⟨rfl, OKW.of hO (xc.trans vc) xm⟩
        · rw [if_pos (by omega)]
          exact ⟨rfl, OKW.of hO (xc.trans vc) xm⟩
      · omega
    · rw [if_neg h0]
      show Cal 12 240 [.inr (.inr 12), .inl a, .inl b, .inl c] u (rI fun y v => wnN a b = y ∧ OKW T v)
      rcases wn_c a b with hwn | hwn
      · exact absurd hwn.1 h0
      · refine en_240 ?_
        refine CalT (isLine_ok um hR) (by decide) q ?_
        rw [if_neg (by decide)]
        refine CalE.to wrongN_ok (by decide) ?_
        rw [if_pos (by omega)]
        exact CalK (fin_rf hT hO uc um (by omega) rfl) (by decide)
  · rw [if_pos rfl]
    refine CalI.to (refuse_ok hc hm (by omega)) (by decide) ?_; rintro _ u ⟨rfl, uc, um⟩;
    refine en_240 ?_
    refine CalF (isLine_ok um hR) (by decide) q ?_
    rw [if_pos rfl]
    exact CalK (fin_rf hT hO uc um (by omega) rfl) (by decide)
end
