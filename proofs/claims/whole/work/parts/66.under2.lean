/-! what a line does to a place -/
def chS (k m x r v s : Int) : Int := if k = 0 then (if r < x then max 0 (s - m) else s) else if k = 1 then (if v < x then s else min 9 (s + m)) else s
def chT (k x s t : Int) : Int := if k = 2 then (if 0 < s then x else t) else t
theorem wst_id (w : Wd) (a i : Nat) : wst w a i (w a i) = w := by
  funext c j
  unfold wst
  split
  · rename_i h
    rw [h.1, h.2]
  · rfl
theorem chS_b {k m x r v s : Int} (hm : 0 ≤ m ∧ m ≤ 2) (hs : 0 ≤ s ∧ s ≤ 9) : 0 ≤ chS k m x r v s ∧ chS k m x r v s ≤ 9 := by
  unfold chS
  repeat' split
  all_goals omega
section
variable {w κ τ : Wd}
theorem change_ok (hc : pc w = κ) (hE : EQ κ τ) (hR : RNG τ) {l p : Nat} {v : Int} (hl : l < 9) (hp : p < 16) (hs : 0 ≤ w 17 p ∧ w 17 p ≤ 9) : Cal 1 119 [.inr (.inr 0), .inl l, .inl p, .inl v] w (rV fun u => u = wst (wst w 17 p (chS (τ 183 l) (τ 184 l) (τ 185 l) (w 19 p) v (w 17 p))) 18 p (chT (τ 183 l) (τ 185 l) (w 17 p) (w 18 p))) := by
  have f1 : w 13 l = τ 183 l := (r13 hc l).trans (hE.Bill_kinds l)
  have f2 : w 14 l = τ 184 l := (r14 hc l).trans (hE.Bill_amounts l)
  have f3 : w 15 l = τ 185 l := (r15 hc l).trans (hE.Bill_limits l)
  have g1 := hR.M_lMany l
  have w17 : ∀ x : Int, wst (wst w 17 p x) 18 p (w 18 p) = wst w 17 p x := fun x => by
    have := wst_id (wst w 17 p x) 18 p
    rw [show (wst w 17 p x) 18 p = w 18 p from rfl] at this
    exact this
  generalize hQ : (rV fun u => u = wst (wst w 17 p (chS (τ 183 l) (τ 184 l) (τ 185 l) (w 19 p) v (w 17 p))) 18 p (chT (τ 183 l) (τ 185 l) (w 17 p) (w 18 p))) = Q
  have key : (τ 183 l = 0 → ¬ w 19 p < τ 185 l) → Ev none (Cal 0) (cd 119) Q (54, [some (.inr (.inr 0)), some (.inl (l : Int)), some (.inl (p : Int)), some (.inl v), some (.inl (τ 185 l))], [], w) := by
    intro hk
    refine bk_119_54 ?_
    simp only [tn, f1, f2]
    rw [wr_id (by omega) (by omega), ← hQ]
    unfold chS chT
    refine ⟨by omega, ?_⟩
    refine ite_i (fun q => ?_) (fun q => ?_)
    · refine ite_i (fun r => ?_) (fun r => ?_)
      · refine ⟨by omega, ?_⟩
        rw [if_neg (by omega)]
        show w = _
        rw [if_neg (by omega), if_pos q, if_pos r, if_neg (by omega), w17, wst_id]
      · refine ⟨by omega, by omega, by omega, ?_⟩
        show wst w 17 p _ = _
        rw [if_neg (by omega), if_pos q, if_neg r, if_neg (by omega), w17]
    · refine ⟨by omega, ?_⟩
      have hS : (if τ 183 l = 0 then (if w 19 p < τ 185 l then max 0 (w 17 p - τ 184 l) else w 17 p) else if τ 183 l = 1 then (if v < τ 185 l then w 17 p else min 9 (w 17 p + τ 184 l)) else w 17 p) = w 17 p := by
        rw [if_neg q]
        split
        · rw [if_neg (hk (by assumption))]
        · rfl
      rw [hS, wst_id]
      refine ite_i (fun r => ?_) (fun r => ?_)
      · refine ⟨by omega, ?_⟩
        rw [if_pos r]
        refine ite_i (fun s => ?_) (fun s => ?_)
        · refine ⟨by omega, ?_⟩
          show wst w 18 p _ = _
          rw [if_pos s]
        · show w = _
          rw [if_neg s, wst_id]
      · show w = _
        rw [if_neg r, wst_id]
  refine en_119 ?_
  simp only [tn, f1, f2, f3]
  refine ⟨by omega, by omega, ?_⟩
  refine ite_i (fun q => ?_) (fun q => ?_)
  · refine ⟨by omega, ?_⟩
    refine ite_i (fun r => ?_) (fun r => ?_)
    · refine ⟨by omega, by omega, by omega, ?_⟩
      rw [wr_id (by omega) (by omega), ← hQ]
      unfold chS chT
      show wst w 17 p _ = _
      rw [if_pos q, if_pos r, if_neg (by omega), w17]
    · exact key (fun _ => r)
  · exact key (fun g => absurd g q)
end
