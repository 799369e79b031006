/-! ends: the reference; both -/
theorem valU_c {f f' : Nat → Int} {m u : Int} (h : ∀ k : Nat, (k : Int) < m → f k = f' k) : valU f m u = valU f' m u := by
  unfold valU
  split
  · rfl
  · split
    · exact h _ (by omega)
    · rfl
theorem run_cg {f f' : Nat → Int} {m : Int} (h : ∀ k : Nat, (k : Int) < m → f k = f' k) (T : List Int) : ∀ st, run f m T st = run f' m T st := by
  have hc : ∀ s, cmpV f m s = cmpV f' m s := by
    intro s
    unfold cmpV
    rw [valU_c h, valU_c h]
  induction T with
  | nil => intro st; rfl
  | cons s T ih =>
    intro st
    show run f m T (stp f m s st) = run f' m T (stp f' m s st)
    have : stp f m s st = stp f' m s st := by
      unfold stp
      rw [hc]
    rw [this, ih]
theorem vlF_cg {f f' : Nat → Int} {m : Int} (h : ∀ k : Nat, (k : Int) < m → f k = f' k) (T : List Int) : vlF f m T = vlF f' m T := by
  unfold vlF
  rw [run_cg h]
theorem fs_b {s k : Nat} (hs : s < 512) (hk : k < 9) : iand (ishr (s : Int) (k : Int)) 1 = fS s k := by
  unfold fS
  cases hb : s.testBit k
  · rw [if_neg (by decide)]
    exact (bit_0 hs hk).2 hb
  · rw [if_pos rfl]
    exact (bit_n hs hk).2 hb
section
variable {w κ τ : Wd}
theorem doesHoldE_c (hm : pm w = τ) (hR : RNG τ) (hb : ∀ j, 0 ≤ τ 169 j ∧ τ 169 j ≤ 255) {t : Nat} {pt : Int} (ht : (t < 20 ∧ pt = 0) ∨ (20 ≤ t ∧ t < 30 ∧ pt = 1)) {f : Nat → Int} (hf : ∀ k, k < 5 → w 167 k = f k) {T : List Int} (hd : DER pt (hdT τ t) 3 0 0 true (nT τ t) T) {K : Int → Wd → Prop} (hK : ∀ v, pc v = pc w → pm v = τ → (∀ c, ¬ c = 12 → ¬ c = 171 → ¬ c = 172 → v c = w c) → v 12 55 = w 12 55 → v 12 56 = w 12 56 → K (bI (vlF f (mF pt) T)) v) : Cal 5 193 [.inr (.inr 12), .inl t] w (rI K) := by
  have hn := nT_40 hR t
  have h170 : w 170 t = (nT τ t : Int) := (r170 hm t).trans hn.1
  have b01 : ∀ b : Bool, bI b = 0 ∨ bI b = 1 := fun b => by cases b <;> decide
  have fin : ∀ p' : Int, p' = pt → Cal 4 179 [.inr (.inr 12)] (wst (wst (wst (wst w 12 35 1) 12 36 p') 12 37 ((40 * t : Nat) : Int)) 12 38 (nT τ t : Int)) (rI fun v1 w1 => (v1 = 0 ∨ v1 = 1) ∧ K v1 w1) := by
    rintro p' rfl
    generalize hw0 : wst (wst (wst (wst w 12 35 1) 12 36 p') 12 37 ((40 * t : Nat) : Int)) 12 38 (nT τ t : Int) = w0
    have c0 : pc w0 = pc w := by rw [← hw0, pc_out rfl, pc_out rfl, pc_out rfl, pc_out rfl]
    have m0 : pm w0 = τ := by rw [← hw0, pm_out rfl, pm_out rfl, pm_out rfl, pm_out rfl]; exact hm
    have o0 : ∀ c, ¬ c = 12 → w0 c = w c := by
      intro c hc
      rw [← hw0]
      exact off_w (off_w (off_w (off_w (fun _ _ => rfl)))) c hc
    have hH : HTR w0 (nT τ t) (hdT τ t) p' f := by
      refine ⟨by rw [← hw0]; rfl, hn.2, Or.inr ⟨by rw [← hw0]; show ¬ (1 : Int) = 0; decide, ?_, ?_, fun i hi => ?_⟩, hdF_ok (fun i => hb _) _, by rw [← hw0]; rfl, by omega, fun k hk => by rw [o0 167 (by decide)]; exact hf k hk⟩
      · rw [← hw0]; show 0 ≤ ((40 * t : Nat) : Int); omega
      · rw [← hw0]; show ((40 * t : Nat) : Int) ≤ 1160; omega
      · have e37 : w0 12 37 = ((40 * t : Nat) : Int) := by rw [← hw0]; rfl
        rw [e37, show ((40 * t : Nat) : Int) + (i : Int) = ((40 * t + i : Nat) : Int) by omega, tn]
        unfold hdT hdF
        rw [if_pos hi]
        exact r169 m0 (40 * t + i)
    refine readRule_c hH ⟨fun _ _ _ _ => rfl, fun _ _ _ _ _ _ => rfl⟩ hd (fun _ _ v hv _ => ?_) (fun g => absurd ⟨rfl, rfl⟩ g)
    exact ⟨b01 _, hK v ((FRR_pc hv).trans c0) ((FRR_pm hv).trans m0) (fun c c1 c2 c3 => (hv.1 c c1 c2 c3).trans (o0 c c1)) ((hv.2 55 (by decide) (by decide) (by decide) (by decide) (by decide)).trans (by rw [← hw0]; rfl)) ((hv.2 56 (by decide) (by decide) (by decide) (by decide) (by decide)).trans (by rw [← hw0]; rfl))⟩
  refine en_193 ?_
  have w1 : wr (40 * (t : Int)) = ((40 * t : Nat) : Int) := by rw [wr_id (by omega) (by omega)]; omega
  have e170 : ∀ x : Int, (wst (wst (wst w 12 35 1) 12 36 x) 12 37 ((40 * t : Nat) : Int)) 170 t = (nT τ t : Int) := fun x => h170
  refine ⟨by decide, ?_⟩
  rw [w1, tn, e170, e170]
  rcases ht with ⟨h1, h2⟩ | ⟨h1, h2, h3⟩
  · rw [if_pos (by omega)]
    exact ⟨by decide, by omega, fin 0 h2.symm⟩
  · rw [if_neg (by omega)]
    exact ⟨by decide, by omega, fin 1 h3.symm⟩
theorem findEnds_c (hm : pm w = τ) (hR : RNG τ) (hb : ∀ j, 0 ≤ τ 169 j ∧ τ 169 j ≤ 255) {p z : Nat} (hp : p < 10) {T : List Int} (hd : DER 1 (hdT τ (20 + p)) 3 0 0 true (nT τ (20 + p)) T) (hz : ∀ s, s < 16 → z.testBit s = vlF (fS s) 4 T) : Cal 6 204 [.inr (.inr 12), .inl (p : Int)] w (rV fun u => u 12 55 = (hoG (tdG τ p) z : Int) ∧ u 12 56 = (alG (tdG τ p) : Int) ∧ pc u = pc w ∧ pm u = τ) := by
  generalize hQ : (rV fun u => u 12 55 = (hoG (tdG τ p) z : Int) ∧ u 12 56 = (alG (tdG τ p) : Int) ∧ pc u = pc w ∧ pm u = τ) = Q
  have key := Ev.inv (sc := none) (C := Cal 5) (cdk := cd 204) (Q := Q) (N := 16) (I := fun i t => ∃ u : Wd, t = (12, [some (.inr (.inr 12)), some (.inl (p : Int)), some (.inl (i : Int)), none, none], [], u) ∧ pc u = pc w ∧ pm u = τ ∧ u 12 55 = (cbN (fun s => z.testBit s && psB (tdG τ p) s 4) i : Int) ∧ u 12 56 = (cbN (fun s => psB (tdG τ p) s 4) i : Int)) (fun i hi t ht h => ?_) (fun t ht => ?_) 0 (Nat.zero_le _)
  · refine en_204 (key _ ⟨_, rfl, ?_, ?_, rfl, rfl⟩)
    · rw [pc_out rfl, pc_out rfl]
    · rw [pm_out rfl, pm_out rfl]; exact hm
  · obtain ⟨u, rfl, uc, um, u55, u56⟩ := ht
    refine bk_204_12 ?_
    have c1 := cb_s (fun s => z.testBit s && psB (tdG τ p) s 4) i
    have c2 := cb_s (fun s => psB (tdG τ p) s 4) i
    have d1 := cb_b (fun s => z.testBit s && psB (tdG τ p) s 4) i
    have d2 := cb_b (fun s => psB (tdG τ p) s 4) i
    rw [if_pos (by omega)]
    have key2 := Ev.inv (sc := none) (C := Cal 5) (cdk := cd 204) (Q := Q) (N := 4) (I := fun k t => ∃ v : Wd, t = (23, [some (.inr (.inr 12)), some (.inl (p : Int)), some (.inl (i : Int)), some (.inl (bI (psB (tdG τ p) i k))), some (.inl (k : Int))], [], v) ∧ pc v = pc w ∧ pm v = τ ∧ v 12 55 = u 12 55 ∧ v 12 56 = u 12 56 ∧ ∀ q, q < k → v 167 q = fS i q) (fun k hk t ht h3 => ?_) (fun t ht => ?_) 0 (Nat.zero_le _)
    · exact key2 _ ⟨u, rfl, uc, um, rfl, rfl, fun q hq => absurd hq (Nat.not_lt_zero q)⟩
    · obtain ⟨v, rfl, vc, vm, v55, v56, hv⟩ := ht
      refine bk_204_23 ?_
      have hs := ps_s (tdG τ p) i k
      have hi1 : wr (wr (4 * (p : Int)) + (k : Int)) = ((4 * p + k : Nat) : Int) := by rw [wr_id (x := 4 * (p : Int)) (by omega) (by omega), wr_id (by omega) (by omega)]; omega
      have e179 : v 179 (4 * p + k) = tdG τ p k := r179 vm _
      have nx : ∀ b : Bool, b = psB (tdG τ p) i (k + 1) → Ev none (Cal 5) (cd 204) Q (23, [some (.inr (.inr 12)), some (.inl (p : Int)), some (.inl (i : Int)), some (.inl (bI b)), some (.inl ((k + 1 : Nat) : Int))], [], wst v 167 k (fS i k)) := by
        rintro b rfl
        refine h3 _ ⟨_, rfl, ?_, ?_, v55, v56, fun q hq => ?_⟩
        · rw [pc_out rfl]; exact vc
        · rw [pm_out rfl]; exact vm
        · rw [wst_ap]
          by_cases g : q = k
          · rw [if_pos ⟨rfl, g⟩, g]
          · rw [if_neg (fun y => g y.2)]
            exact hv q (by omega)
      simp only [wst_ap, Nat.reduceEqDiff, false_and, if_false, and_self, if_true, hi1, tn, e179, fs_b (show i < 512 by omega) (show k < 9 by omega), wr_s (show k < 2000000 by omega)]
      rw [if_pos (by omega)]
      refine ⟨by omega, ?_⟩
      cases hpk : psB (tdG τ p) i k
      · rw [if_pos (show bI false = 0 from rfl)]
        exact nx false (by rw [hs, hpk]; rfl)
      · rw [hpk, Bool.true_and] at hs
        rw [if_neg (show ¬ bI true = 0 by decide)]
        refine ⟨by omega, ite_i (fun q => ?_) (fun q => ⟨by omega, by omega, ite_i (fun r => ?_) (fun r => ?_)⟩)⟩
        · exact nx true (by rw [hs, decide_eq_true q]; rfl)
        · exact nx true (by rw [hs, decide_eq_true r, Bool.or_true])
        · exact nx false (by rw [hs, decide_eq_false q, decide_eq_false r]; rfl)
    · obtain ⟨v, rfl, vc, vm, v55, v56, hv⟩ := ht
      refine bk_204_23 ?_
      rw [if_neg (by omega), wr_s (show i < 2000000 by omega)]
      cases hps : psB (tdG τ p) i 4
      · rw [hps, Bool.and_false, if_neg (by decide)] at c1
        rw [hps, if_neg (by decide)] at c2
        rw [if_pos (show bI false = 0 from rfl)]
        exact h _ ⟨v, rfl, vc, vm, by rw [v55, u55, c1]; rfl, by rw [v56, u56, c2]; rfl⟩
      · rw [hps, Bool.and_true] at c1
        rw [hps, if_pos rfl] at c2
        rw [if_neg (show ¬ bI true = 0 by decide), wr_id (x := 20 + (p : Int)) (by omega) (by omega), show 20 + (p : Int) = ((20 + p : Nat) : Int) by omega, v56, u56, wr_s (by omega)]
        generalize hx : wst v 12 56 ((cbN (fun s => psB (tdG τ p) s 4) i + 1 : Nat) : Int) = x
        have xm : pm x = τ := by rw [← hx, pm_out rfl]; exact vm
        have xc : pc x = pc w := by rw [← hx, pc_out rfl]; exact vc
        have x55 : x 12 55 = (cbN (fun s => z.testBit s && psB (tdG τ p) s 4) i : Int) := by rw [← hx]; exact v55.trans u55
        have x56 : x 12 56 = ((cbN (fun s => psB (tdG τ p) s 4) i + 1 : Nat) : Int) := by rw [← hx]; rfl
        refine CalK (doesHoldE_c (f := x 167) xm hR hb (Or.inr ⟨by omega, by omega, rfl⟩) (fun _ _ => rfl) hd (fun y yc ym yo y55 y56 => ?_)) (by decide)
        have ev : vlF (x 167) (mF 1) T = z.testBit i := by
          rw [hz i hi]
          refine vlF_cg (fun k hk => ?_) T
          have hk2 : k < 4 := by
            have : (k : Int) < 4 := hk
            omega
          rw [← hx]
          exact hv k hk2
        rw [ev, x55]
        cases hzb : z.testBit i
        · rw [hzb, if_neg (by decide)] at c1
          rw [if_pos (show bI false = 0 from rfl), Int.add_zero, wr_id (by omega) (by omega)]
          refine h _ ⟨_, rfl, ?_, ?_, ?_, ?_⟩
          · rw [pc_out rfl]; exact yc.trans xc
          · rw [pm_out rfl]; exact ym
          · rw [c1]; rfl
          · rw [c2]; exact y56.trans x56
        · rw [hzb, if_pos rfl] at c1
          rw [if_neg (show ¬ bI true = 0 by decide), wr_s (by omega)]
          refine h _ ⟨_, rfl, ?_, ?_, ?_, ?_⟩
          · rw [pc_out rfl]; exact yc.trans xc
          · rw [pm_out rfl]; exact ym
          · rw [c1]; rfl
          · rw [c2]; exact y56.trans x56
  · obtain ⟨u, rfl, uc, um, u55, u56⟩ := ht
    refine bk_204_12 ?_
    rw [if_neg (by omega), ← hQ]
    exact ⟨u55, u56, uc, um⟩
theorem RNG.told (hR : RNG τ) {j : Nat} {v : Int} (hv : 0 ≤ v ∧ v ≤ 2) : RNG (wst τ 179 j v) := by
  refine ⟨hR.M_day, hR.M_places, hR.M_sends, hR.M_patronOf, hR.M_bases, hR.M_sideOf, hR.M_rolls, hR.M_rDay, hR.M_rTold, hR.M_rValue, hR.M_rWrong, hR.M_weights, hR.M_rPlace, hR.M_rWhat, hR.M_people, hR.M_home, hR.M_since, hR.M_wish, hR.M_debt, hR.M_isGone, hR.M_rights, hR.M_gWho, hR.M_gPlace, hR.M_gKind, hR.M_gSize, hR.M_gSince, hR.M_tapeMany, hR.M_tape, hR.M_texts, hR.M_petitions, hR.M_writtenMany, hR.M_olds, hR.M_oPlace, hR.M_oDay, hR.M_oText, hR.M_sales, hR.M_sPlace, hR.M_sFrom, ?_, hR.M_members, hR.M_knot, hR.M_lean, hR.M_lines, hR.M_lKind, hR.M_lMany, hR.M_lX, hR.M_lHangs, hR.M_lText, hR.M_wants, hR.M_bars, hR.M_reads, hR.M_leastThere, hR.M_mostThere, hR.M_rowMany⟩
  intro i
  have := hR.M_toldFact i
  show 0 ≤ (if 179 = 179 ∧ i = j then v else τ 179 i) ∧ (if 179 = 179 ∧ i = j then v else τ 179 i) ≤ 2
  split <;> omega
theorem td_up (τ : Wd) (p k : Nat) (v : Int) : tdG (wst τ 179 (4 * p + k) v) p = upG (tdG τ p) k v := by
  funext i
  show (if 179 = 179 ∧ 4 * p + i = 4 * p + k then v else τ 179 (4 * p + i)) = if i = k then v else τ 179 (4 * p + i)
  by_cases q : i = k
  · rw [if_pos ⟨rfl, by omega⟩, if_pos q]
  · rw [if_neg (by omega), if_neg q]
theorem mwitness_c (hm : pm w = τ) (hR : RNG τ) (hb : ∀ j, 0 ≤ τ 169 j ∧ τ 169 j ≤ 255) {p z : Nat} (hp : p < 10) {T : List Int} (hd : DER 1 (hdT τ (20 + p)) 3 0 0 true (nT τ (20 + p)) T) (hz : ∀ s, s < 16 → z.testBit s = vlF (fS s) 4 T) : Cal 7 203 [.inr (.inr 12), .inl (p : Int)] w (rI fun y u => y = wiG (tdG τ p) z 4 ∧ pc u = pc w ∧ pm u = τ) := by
  generalize hQ : (rI fun y u => y = wiG (tdG τ p) z 4 ∧ pc u = pc w ∧ pm u = τ) = Q
  have key := Ev.inv (sc := none) (C := Cal 6) (cdk := cd 203) (Q := Q) (N := 4) (I := fun i t => ∃ u : Wd, t = (8, [some (.inr (.inr 12)), some (.inl (p : Int)), some (.inl (wiG (tdG τ p) z i)), some (.inl (if wiG (tdG τ p) z i < 0 then 0 else db2 (tdG τ p) z (wiG (tdG τ p) z i).toNat)), some (.inl (i : Int)), none, none], [], u) ∧ pc u = pc w ∧ pm u = τ) (fun i hi t ht h => ?_) (fun t ht => ?_) 0 (Nat.zero_le _)
  · exact en_203 (key _ ⟨w, rfl, rfl, hm⟩)
  · obtain ⟨u, rfl, uc, um⟩ := ht
    refine bk_203_8 ?_
    have hs := wi_s (tdG τ p) z i
    have hwb := wi_b (tdG τ p) z i
    have hi1 : wr (wr (4 * (p : Int)) + (i : Int)) = ((4 * p + i : Nat) : Int) := by rw [wr_id (x := 4 * (p : Int)) (by omega) (by omega), wr_id (by omega) (by omega)]; omega
    have e179 : u 179 (4 * p + i) = tdG τ p i := r179 um _
    rw [if_pos (by omega), hi1, tn, e179, wr_s (show i < 2000000 by omega)]
    refine ⟨by omega, ite_i (fun q => ?_) (fun q => ?_)⟩
    · have ho : ∀ v : Int, hoG (upG (tdG τ p) i v) z ≤ 16 ∧ alG (upG (tdG τ p) i v) ≤ 16 ∧ hoG (upG (tdG τ p) i v) z ≤ alG (upG (tdG τ p) i v) := by
        intro v
        have c1 := cb_b (fun s => psB (upG (tdG τ p) i v) s 4) 16
        have c2 := cb_b (fun s => z.testBit s && psB (upG (tdG τ p) i v) s 4) 16
        have c3 := cb_2 (fun s => psB (upG (tdG τ p) i v) s 4) (fun s => z.testBit s) 16
        unfold hoG alG
        omega
      have one : ∀ (v : Int) (o : Wd) (D : Int), (v = 0 ∨ v = 1) → pc o = pc w → pm o = wst τ 179 (4 * p + i) v → 0 ≤ D → D ≤ 16 → (∀ o', pc o' = pc w → pm o' = wst τ 179 (4 * p + i) v → Ev none (Cal 6) (cd 203) Q (35, [some (.inr (.inr 12)), some (.inl (p : Int)), some (.inl (wiG (tdG τ p) z i)), some (.inl (if wiG (tdG τ p) z i < 0 then 0 else db2 (tdG τ p) z (wiG (tdG τ p) z i).toNat)), some (.inl (i : Int)), some (.inl (D + doG (upG (tdG τ p) i v) z)), some (.inl (v + 1))], [], o')) → Cal 6 204 [.inr (.inr 12), .inl (p : Int)] o (rV fun w1 => if w1 12 55 < wr (w1 12 56 - w1 12 55) then Ev none (Cal 6) (cd 203) Q (35, [some (.inr (.inr 12)), some (.inl (p : Int)), some (.inl (wiG (tdG τ p) z i)), some (.inl (if wiG (tdG τ p) z i < 0 then 0 else db2 (tdG τ p) z (wiG (tdG τ p) z i).toNat)), some (.inl (i : Int)), some (.inl (wr (D + w1 12 55))), some (.inl (wr (v + 1)))], [], w1) else Ev none (Cal 6) (cd 203) Q (35, [some (.inr (.inr 12)), some (.inl (p : Int)), some (.inl (wiG (tdG τ p) z i)), some (.inl (if wiG (tdG τ p) z i < 0 then 0 else db2 (tdG τ p) z (wiG (tdG τ p) z i).toNat)), some (.inl (i : Int)), some (.inl (wr (D + wr (w1 12 56 - w1 12 55)))), some (.inl (wr (v + 1)))], [], w1)) := by
        intro v o D hv oc om hD hD2 hK
        refine CalV.to (findEnds_c om (hR.told (by omega)) hb hp hd hz) (by decide) ?_
        rintro x ⟨x55, x56, xc, xm⟩
        rw [td_up] at x55 x56
        have hob := ho v
        have hk := hK x (xc.trans oc) xm
        unfold doG at hk
        rw [x55, x56, wr_id (x := (alG (upG (tdG τ p) i v) : Int) - _) (by omega) (by omega), wr_id (x := v + 1) (by omega) (by omega)]
        refine ite_i (fun g => ?_) (fun g => ?_)
        · rw [wr_id (by omega) (by omega)]
          rw [show min (hoG (upG (tdG τ p) i v) z : Int) ((alG (upG (tdG τ p) i v) : Int) - (hoG (upG (tdG τ p) i v) z : Int)) = (hoG (upG (tdG τ p) i v) z : Int) by omega] at hk
          exact hk
        · rw [wr_id (by omega) (by omega)]
          rw [show min (hoG (upG (tdG τ p) i v) z : Int) ((alG (upG (tdG τ p) i v) : Int) - (hoG (upG (tdG τ p) i v) z : Int)) = (alG (upG (tdG τ p) i v) : Int) - (hoG (upG (tdG τ p) i v) z : Int) by omega] at hk
          exact hk
      have dob : ∀ v : Int, 0 ≤ doG (upG (tdG τ p) i v) z ∧ doG (upG (tdG τ p) i v) z ≤ 16 := by
        intro v
        have hob := ho v
        unfold doG
        omega
      have d0 := dob 0
      have d1 := dob 1
      have ww : ∀ v : Int, wst (wst τ 179 (4 * p + i) 0) 179 (4 * p + i) v = wst τ 179 (4 * p + i) v := by
        intro v
        funext c j
        rw [wst_ap, wst_ap, wst_ap]
        split <;> rfl
      refine bk_203_35 ?_
      rw [if_pos (by decide), hi1, tn]
      refine ⟨by omega, one 0 _ 0 (Or.inl rfl) ?_ ?_ (by decide) (by decide) (fun o oc om => ?_)⟩
      · rw [pc_out rfl]; exact uc
      · rw [pm_in rfl, um]
      rw [Int.zero_add]
      refine bk_203_35 ?_
      rw [if_pos (by decide), hi1, tn]
      refine ⟨by omega, one 1 _ _ (Or.inr rfl) ?_ ?_ d0.1 d0.2 (fun x xc xm => ?_)⟩
      · rw [pc_out rfl]; exact oc
      · rw [pm_in rfl, om, ww]
        rfl
      refine bk_203_35 ?_
      rw [if_neg (by decide), hi1, tn, wr_s (show i < 2000000 by omega)]
      have yc : pc (wst x 179 (4 * p + i) 2) = pc w := by rw [pc_out rfl]; exact xc
      have ym : pm (wst x 179 (4 * p + i) 2) = τ := by
        rw [pm_in rfl, xm]
        have hq : τ 179 (4 * p + i) = 2 := q
        have := wst_id τ 179 (4 * p + i)
        rw [hq] at this
        refine Eq.trans ?_ this
        funext c j
        rw [wst_ap, wst_ap, wst_ap]
        split <;> rfl
      have dbe : doG (upG (tdG τ p) i 0) z + doG (upG (tdG τ p) i 1) z = db2 (tdG τ p) z i := rfl
      rw [dbe]
      have yes : (wiG (tdG τ p) z i < 0 ∨ db2 (tdG τ p) z i < db2 (tdG τ p) z (wiG (tdG τ p) z i).toNat) → Ev none (Cal 6) (cd 203) Q (8, [some (.inr (.inr 12)), some (.inl (p : Int)), some (.inl (i : Int)), some (.inl (db2 (tdG τ p) z i)), some (.inl ((i + 1 : Nat) : Int)), none, none], [], wst x 179 (4 * p + i) 2) := by
        intro g
        rw [if_pos ⟨q, g⟩] at hs
        refine h _ ⟨_, ?_, yc, ym⟩
        rw [hs, if_neg (by omega), tn]
      refine ⟨by omega, ite_i (fun a => yes (Or.inl a)) (fun a => ?_)⟩
      rw [if_neg a]
      refine ite_i (fun b => yes (Or.inr b)) (fun b => ?_)
      rw [if_neg (fun y => by rcases y.2 with y | y; exact a y; exact b y)] at hs
      refine h _ ⟨_, ?_, yc, ym⟩
      rw [hs, if_neg a]
    · rw [if_neg (fun y => q y.1)] at hs
      exact h _ ⟨u, by rw [hs], uc, um⟩
  · obtain ⟨u, rfl, uc, um⟩ := ht
    refine bk_203_8 ?_
    rw [if_neg (by omega), ← hQ]
    exact ⟨rfl, uc, um⟩
theorem both_ends (hO : OKW TXT w) {a b : Int} : Cal 12 92 [.inr (.inr 11), .inl a, .inl b] w (rI fun x u => Cal 12 202 [.inr (.inr 12), .inl a, .inl b] u (rI fun y v => x = y ∧ OKW TXT v)) := by
  have hO2 := hO
  have hT := TXT_fr
  obtain ⟨κ, hc⟩ : ∃ κ, pc w = κ := ⟨_, rfl⟩
  obtain ⟨τ, hm⟩ : ∃ τ, pm w = τ := ⟨_, rfl⟩
  unfold OKW at hO
  rw [hc, hm] at hO
  obtain ⟨hE, hR, ht⟩ := id hO
  have hpt := hR.M_petitions
  refine en_92 ?_
  refine CalB (petHas_ok hc hE) (by decide) (fun q1 => ?_) (fun q1 => ?_)
  · rw [if_neg (by decide)]
    obtain ⟨p, rfl⟩ : ∃ p : Nat, a = (p : Int) := ⟨a.toNat, by omega⟩
    obtain ⟨T, hd, z, hz1, hz2, hz3⟩ := ht.2.2.1 p q1.2
    have e66 : w 66 p = (z : Int) := (r66 hc p).trans hz1
    have fin : ∀ (x : Int) (u : Wd), pc u = κ → pm u = τ → 0 ≤ b ∧ b < 2 → x = (if b = 0 then (hoG (tdG τ p) z : Int) else (alG (tdG τ p) : Int)) → Cal 12 202 [.inr (.inr 12), .inl (p : Int), .inl b] u (rI fun y v => x = y ∧ OKW TXT v) := by
      intro x u uc um hb hx
      refine en_202 ?_
      repeat' (first | (rw [if_pos (by omega)]) | (rw [if_neg (by omega)]) | (refine And.intro (by first | omega | exact Or.inl trivial | exact Or.inr trivial | exact ⟨trivial, trivial⟩ | fail) ?_) | (refine CalT in_ok (by decide) (by omega) ?_) | (refine CalF in_ok (by decide) (by omega) ?_) | (refine CalT (isPlace_ok um hR) (by decide) (by omega) ?_) | (refine CalF (isPlace_ok um hR) (by decide) (by omega) ?_) | (refine CalT (isPerson_ok um hR) (by decide) (by omega) ?_) | (refine CalF (isPerson_ok um hR) (by decide) (by omega) ?_) | (refine CalT (isText_ok um hR) (by decide) (by omega) ?_) | (refine CalF (isText_ok um hR) (by decide) (by omega) ?_) | (refine CalT (isPetitionAt_ok um hR) (by decide) (by omega) ?_) | (refine CalF (isPetitionAt_ok um hR) (by decide) (by omega) ?_) | (refine CalT (isLine_ok um hR) (by decide) (by omega) ?_) | (refine CalF (isLine_ok um hR) (by decide) (by omega) ?_) | (refine CalT mIsKnot_ok (by decide) (by omega) ?_) | (refine CalF mIsKnot_ok (by decide) (by omega) ?_) | (refine CalT mIsNight_ok (by decide) (by omega) ?_) | (refine CalF mIsNight_ok (by decide) (by omega) ?_) | (refine bk_175_75 ?_) | (refine CalE.to bounds_ok (by decide) ?_) | (refine CalE.to wrongDays_ok (by decide) ?_) | (exact CalK (fin_rf hT hO uc um (by omega) (by omega)) (by decide)) | (exact CalK (fin_rfF hT hO uc um (by omega) (by omega)) (by decide)) | fail);
      refine CalV.to (findEnds_c um hR ht.1 (by omega) hd hz3) (by decide) ?_
      rintro v ⟨v55, v56, vc, vm⟩
      have hk := OKW.of hO (vc.trans uc) vm
      refine ite_i (fun g => ?_) (fun g => ?_)
      · rw [if_pos g] at hx
        exact ⟨hx.trans v55.symm, hk⟩
      · rw [if_neg g] at hx
        exact ⟨hx.trans v56.symm, hk⟩
    refine ite_i (fun q2 => ?_) (fun q2 => ite_i (fun q3 => ?_) (fun q3 => ite_i (fun q4 => ?_) (fun q4 => ?_)))
    · rw [tn, e66]
      refine ⟨by omega, ?_⟩
      refine CalI.to (possible_c hc hE hR (by omega)) (by decide) ?_
      rintro _ u ⟨⟨x, rfl, hx, hxs⟩, rfl⟩
      have hle : z &&& x ≤ x := Nat.and_le_right
      rw [iand_n (by omega) (by omega)]
      refine CalE.to (bitCount_16 (by omega)) (by decide) ?_
      refine fin _ u hc hm (by omega) ?_
      rw [if_pos q2, pop_cb]
      unfold hoG
      rw [cb_c (P' := fun s => z.testBit s && psB (tdG τ p) s 4) (fun s hs => by rw [Nat.testBit_and, hxs s hs])]
    · refine CalI.to (possible_c hc hE hR (by omega)) (by decide) ?_
      rintro _ u ⟨⟨x, rfl, hx, hxs⟩, rfl⟩
      refine CalE.to (bitCount_16 (by omega)) (by decide) ?_
      refine fin _ u hc hm (by omega) ?_
      rw [if_neg q2, pop_cb]
      unfold alG
      rw [cb_c (P' := fun s => psB (tdG τ p) s 4) (fun s hs => hxs s hs)]
    · refine CalE.to (witness_c hc hE hR (by omega) hz2 hz1) (by decide) ?_
      refine en_202 ?_
      have um := hm
      repeat' (first | (rw [if_pos (by omega)]) | (rw [if_neg (by omega)]) | (refine And.intro (by first | omega | exact Or.inl trivial | exact Or.inr trivial | exact ⟨trivial, trivial⟩ | fail) ?_) | (refine CalT in_ok (by decide) (by omega) ?_) | (refine CalF in_ok (by decide) (by omega) ?_) | (refine CalT (isPlace_ok um hR) (by decide) (by omega) ?_) | (refine CalF (isPlace_ok um hR) (by decide) (by omega) ?_) | (refine CalT (isPerson_ok um hR) (by decide) (by omega) ?_) | (refine CalF (isPerson_ok um hR) (by decide) (by omega) ?_) | (refine CalT (isText_ok um hR) (by decide) (by omega) ?_) | (refine CalF (isText_ok um hR) (by decide) (by omega) ?_) | (refine CalT (isPetitionAt_ok um hR) (by decide) (by omega) ?_) | (refine CalF (isPetitionAt_ok um hR) (by decide) (by omega) ?_) | (refine CalT (isLine_ok um hR) (by decide) (by omega) ?_) | (refine CalF (isLine_ok um hR) (by decide) (by omega) ?_) | (refine CalT mIsKnot_ok (by decide) (by omega) ?_) | (refine CalF mIsKnot_ok (by decide) (by omega) ?_) | (refine CalT mIsNight_ok (by decide) (by omega) ?_) | (refine CalF mIsNight_ok (by decide) (by omega) ?_) | (refine bk_175_75 ?_) | (refine CalE.to bounds_ok (by decide) ?_) | (refine CalE.to wrongDays_ok (by decide) ?_) | (exact CalK (fin_rf hT hO uc um (by omega) (by omega)) (by decide)) | (exact CalK (fin_rfF hT hO uc um (by omega) (by omega)) (by decide)) | fail);
      refine CalI.to (mwitness_c hm hR ht.1 (by omega) hd hz3) (by decide) ?_
      rintro _ v ⟨rfl, vc, vm⟩
      exact ⟨rfl, OKW.of hO (vc.trans hc) vm⟩
    · refine CalI.to (refuse_ok hc hm (by omega)) (by decide) ?_; rintro _ u ⟨rfl, uc, um⟩;
      refine en_202 ?_
      repeat' (first | (rw [if_pos (by omega)]) | (rw [if_neg (by omega)]) | (refine And.intro (by first | omega | exact Or.inl trivial | exact Or.inr trivial | exact ⟨trivial, trivial⟩ | fail) ?_) | (refine CalT in_ok (by decide) (by omega) ?_) | (refine CalF in_ok (by decide) (by omega) ?_) | (refine CalT (isPlace_ok um hR) (by decide) (by omega) ?_) | (refine CalF (isPlace_ok um hR) (by decide) (by omega) ?_) | (refine CalT (isPerson_ok um hR) (by decide) (by omega) ?_) | (refine CalF (isPerson_ok um hR) (by decide) (by omega) ?_) | (refine CalT (isText_ok um hR) (by decide) (by omega) ?_) | (refine CalF (isText_ok um hR) (by decide) (by omega) ?_) | (refine CalT (isPetitionAt_ok um hR) (by decide) (by omega) ?_) | (refine CalF (isPetitionAt_ok um hR) (by decide) (by omega) ?_) | (refine CalT (isLine_ok um hR) (by decide) (by omega) ?_) | (refine CalF (isLine_ok um hR) (by decide) (by omega) ?_) | (refine CalT mIsKnot_ok (by decide) (by omega) ?_) | (refine CalF mIsKnot_ok (by decide) (by omega) ?_) | (refine CalT mIsNight_ok (by decide) (by omega) ?_) | (refine CalF mIsNight_ok (by decide) (by omega) ?_) | (refine bk_175_75 ?_) | (refine CalE.to bounds_ok (by decide) ?_) | (refine CalE.to wrongDays_ok (by decide) ?_) | (exact CalK (fin_rf hT hO uc um (by omega) (by omega)) (by decide)) | (exact CalK (fin_rfF hT hO uc um (by omega) (by omega)) (by decide)) | fail);
  · rw [if_pos rfl]
    refine CalI.to (refuse_ok hc hm (by omega)) (by decide) ?_; rintro _ u ⟨rfl, uc, um⟩;
    refine en_202 ?_
    repeat' (first | (rw [if_pos (by omega)]) | (rw [if_neg (by omega)]) | (refine And.intro (by first | omega | exact Or.inl trivial | exact Or.inr trivial | exact ⟨trivial, trivial⟩ | fail) ?_) | (refine CalT in_ok (by decide) (by omega) ?_) | (refine CalF in_ok (by decide) (by omega) ?_) | (refine CalT (isPlace_ok um hR) (by decide) (by omega) ?_) | (refine CalF (isPlace_ok um hR) (by decide) (by omega) ?_) | (refine CalT (isPerson_ok um hR) (by decide) (by omega) ?_) | (refine CalF (isPerson_ok um hR) (by decide) (by omega) ?_) | (refine CalT (isText_ok um hR) (by decide) (by omega) ?_) | (refine CalF (isText_ok um hR) (by decide) (by omega) ?_) | (refine CalT (isPetitionAt_ok um hR) (by decide) (by omega) ?_) | (refine CalF (isPetitionAt_ok um hR) (by decide) (by omega) ?_) | (refine CalT (isLine_ok um hR) (by decide) (by omega) ?_) | (refine CalF (isLine_ok um hR) (by decide) (by omega) ?_) | (refine CalT mIsKnot_ok (by decide) (by omega) ?_) | (refine CalF mIsKnot_ok (by decide) (by omega) ?_) | (refine CalT mIsNight_ok (by decide) (by omega) ?_) | (refine CalF mIsNight_ok (by decide) (by omega) ?_) | (refine bk_175_75 ?_) | (refine CalE.to bounds_ok (by decide) ?_) | (refine CalE.to wrongDays_ok (by decide) ?_) | (exact CalK (fin_rf hT hO uc um (by omega) (by omega)) (by decide)) | (exact CalK (fin_rfF hT hO uc um (by omega) (by omega)) (by decide)) | fail);
end
