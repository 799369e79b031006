/-! the persistent cells of the class, those of the reference, and worlds without the rest -/
def isC (c j : Nat) : Bool := (cond (Nat.blt c 64) (cond (Nat.blt c 34) (cond (Nat.blt c 14) (cond (Nat.blt c 6) (cond (Nat.blt c 3) (cond (Nat.blt c 1) (cond (Nat.beq c 0) true false) (cond (Nat.blt c 2) (cond (Nat.beq c 1) true false) (cond (Nat.beq c 2) true false))) (cond (Nat.blt c 4) (cond (Nat.beq c 3) true false) (cond (Nat.blt c 5) (cond (Nat.beq c 4) true false) (cond (Nat.beq c 5) true false)))) (cond (Nat.blt c 9) (cond (Nat.blt c 7) (cond (Nat.beq c 6) true false) (cond (Nat.blt c 8) (cond (Nat.beq c 7) (!(cond (Nat.beq j 11) true false)) false) (cond (Nat.beq c 8) true false))) (cond (Nat.blt c 11) (cond (Nat.blt c 10) (cond (Nat.beq c 9) (!(cond (Nat.blt j 4) (cond (Nat.beq j 3) true false) (cond (Nat.blt j 5) (cond (Nat.beq j 4) true false) (cond (Nat.beq j 5) true false)))) false) (cond (Nat.beq c 10) true false)) (cond (Nat.blt c 13) (cond (Nat.beq c 11) true false) (cond (Nat.beq c 13) true false))))) (cond (Nat.blt c 26) (cond (Nat.blt c 22) (cond (Nat.blt c 15) (cond (Nat.beq c 14) true false) (cond (Nat.blt c 16) (cond (Nat.beq c 15) true false) (cond (Nat.beq c 16) true false))) (cond (Nat.blt c 24) (cond (Nat.blt c 23) (cond (Nat.beq c 22) true false) (cond (Nat.beq c 23) true false)) (cond (Nat.blt c 25) (cond (Nat.beq c 24) true false) (cond (Nat.beq c 25) true false)))) (cond (Nat.blt c 29) (cond (Nat.blt c 27) (cond (Nat.beq c 26) true false) (cond (Nat.blt c 28) (cond (Nat.beq c 27) true false) (cond (Nat.beq c 28) true false))) (cond (Nat.blt c 31) (cond (Nat.blt c 30) (cond (Nat.beq c 29) true false) (cond (Nat.beq c 30) true false)) (cond (Nat.blt c 33) (cond (Nat.beq c 31) true false) (cond (Nat.beq c 33) true false)))))) (cond (Nat.blt c 48) (cond (Nat.blt c 40) (cond (Nat.blt c 37) (cond (Nat.blt c 35) (cond (Nat.beq c 34) true false) (cond (Nat.blt c 36) (cond (Nat.beq c 35) true false) (cond (Nat.beq c 36) true false))) (cond (Nat.blt c 38) (cond (Nat.beq c 37) true false) (cond (Nat.blt c 39) (cond (Nat.beq c 38) true false) (cond (Nat.beq c 39) true false)))) (cond (Nat.blt c 44) (cond (Nat.blt c 42) (cond (Nat.beq c 40) true false) (cond (Nat.blt c 43) (cond (Nat.beq c 42) true false) (cond (Nat.beq c 43) true false))) (cond (Nat.blt c 46) (cond (Nat.blt c 45) (cond (Nat.beq c 44) true false) (cond (Nat.beq c 45) true false)) (cond (Nat.blt c 47) (cond (Nat.beq c 46) true false) (cond (Nat.beq c 47) true false))))) (cond (Nat.blt c 57) (cond (Nat.blt c 51) (cond (Nat.blt c 49) (cond (Nat.beq c 48) true false) (cond (Nat.blt c 50) (cond (Nat.beq c 49) true false) (cond (Nat.beq c 50) true false))) (cond (Nat.blt c 55) (cond (Nat.blt c 54) (cond (Nat.beq c 51) true false) (cond (Nat.beq c 54) true false)) (cond (Nat.blt c 56) (cond (Nat.beq c 55) true false) (cond (Nat.beq c 56) true false)))) (cond (Nat.blt c 60) (cond (Nat.blt c 58) (cond (Nat.beq c 57) true false) (cond (Nat.blt c 59) (cond (Nat.beq c 58) true false) (cond (Nat.beq c 59) true false))) (cond (Nat.blt c 62) (cond (Nat.blt c 61) (cond (Nat.beq c 60) true false) (cond (Nat.beq c 61) true false)) (cond (Nat.blt c 63) (cond (Nat.beq c 62) true false) (cond (Nat.beq c 63) true false))))))) (cond (Nat.blt c 114) (cond (Nat.blt c 80) (cond (Nat.blt c 72) (cond (Nat.blt c 69) (cond (Nat.blt c 66) (cond (Nat.beq c 64) true false) (cond (Nat.blt c 68) (cond (Nat.beq c 66) true false) (cond (Nat.beq c 68) true false))) (cond (Nat.blt c 70) (cond (Nat.beq c 69) true false) (cond (Nat.blt c 71) (cond (Nat.beq c 70) true false) (cond (Nat.beq c 71) true false)))) (cond (Nat.blt c 75) (cond (Nat.blt c 73) (cond (Nat.beq c 72) true false) (cond (Nat.blt c 74) (cond (Nat.beq c 73) true false) (cond (Nat.beq c 74) true false))) (cond (Nat.blt c 77) (cond (Nat.blt c 76) (cond (Nat.beq c 75) true false) (cond (Nat.beq c 76) true false)) (cond (Nat.blt c 79) (cond (Nat.beq c 77) true false) (cond (Nat.beq c 79) true false))))) (cond (Nat.blt c 103) (cond (Nat.blt c 83) (cond (Nat.blt c 81) (cond (Nat.beq c 80) true false) (cond (Nat.blt c 82) (cond (Nat.beq c 81) true false) (cond (Nat.beq c 82) true false))) (cond (Nat.blt c 85) (cond (Nat.blt c 84) (cond (Nat.beq c 83) true false) (cond (Nat.beq c 84) true false)) (cond (Nat.blt c 102) (cond (Nat.beq c 85) true false) (cond (Nat.beq c 102) (Nat.beq j 0) false)))) (cond (Nat.blt c 106) (cond (Nat.blt c 104) (cond (Nat.beq c 103) (Nat.beq j 0) false) (cond (Nat.blt c 105) (cond (Nat.beq c 104) true false) (cond (Nat.beq c 105) true false))) (cond (Nat.blt c 108) (cond (Nat.blt c 107) (cond (Nat.beq c 106) true false) (cond (Nat.beq c 107) true false)) (cond (Nat.blt c 109) (cond (Nat.beq c 108) true false) (cond (Nat.beq c 109) true false)))))) (cond (Nat.blt c 129) (cond (Nat.blt c 122) (cond (Nat.blt c 117) (cond (Nat.blt c 115) (cond (Nat.beq c 114) true false) (cond (Nat.blt c 116) (cond (Nat.beq c 115) true false) (cond (Nat.beq c 116) true false))) (cond (Nat.blt c 120) (cond (Nat.beq c 117) true false) (cond (Nat.blt c 121) (cond (Nat.beq c 120) true false) (cond (Nat.beq c 121) true false)))) (cond (Nat.blt c 125) (cond (Nat.blt c 123) (cond (Nat.beq c 122) true false) (cond (Nat.blt c 124) (cond (Nat.beq c 123) true false) (cond (Nat.beq c 124) true false))) (cond (Nat.blt c 127) (cond (Nat.blt c 126) (cond (Nat.beq c 125) true false) (cond (Nat.beq c 126) true false)) (cond (Nat.blt c 128) (cond (Nat.beq c 127) true false) (cond (Nat.beq c 128) true false))))) (cond (Nat.blt c 136) (cond (Nat.blt c 132) (cond (Nat.blt c 130) (cond (Nat.beq c 129) true false) (cond (Nat.blt c 131) (cond (Nat.beq c 130) true false) (cond (Nat.beq c 131) true false))) (cond (Nat.blt c 134) (cond (Nat.blt c 133) (cond (Nat.beq c 132) true false) (cond (Nat.beq c 133) true false)) (cond (Nat.blt c 135) (cond (Nat.beq c 134) true false) (cond (Nat.beq c 135) true false)))) (cond (Nat.blt c 139) (cond (Nat.blt c 137) (cond (Nat.beq c 136) true false) (cond (Nat.blt c 138) (cond (Nat.beq c 137) true false) (cond (Nat.beq c 138) true false))) (cond (Nat.blt c 141) (cond (Nat.blt c 140) (cond (Nat.beq c 139) true false) (cond (Nat.beq c 140) true false)) (cond (Nat.blt c 143) (cond (Nat.beq c 141) true false) (cond (Nat.beq c 143) true false))))))))
def isM (c j : Nat) : Bool := (cond (Nat.blt c 166) (cond (Nat.blt c 154) (cond (Nat.blt c 148) (cond (Nat.blt c 145) (cond (Nat.blt c 144) (cond (Nat.beq c 12) (!(cond (Nat.blt j 41) (cond (Nat.blt j 38) (cond (Nat.blt j 36) (cond (Nat.beq j 35) true false) (cond (Nat.blt j 37) (cond (Nat.beq j 36) true false) (cond (Nat.beq j 37) true false))) (cond (Nat.blt j 39) (cond (Nat.beq j 38) true false) (cond (Nat.blt j 40) (cond (Nat.beq j 39) true false) (cond (Nat.beq j 40) true false)))) (cond (Nat.blt j 55) (cond (Nat.blt j 43) (cond (Nat.beq j 41) true false) (cond (Nat.blt j 45) (cond (Nat.beq j 43) true false) (cond (Nat.beq j 45) true false))) (cond (Nat.blt j 84) (cond (Nat.blt j 56) (cond (Nat.beq j 55) true false) (cond (Nat.beq j 56) true false)) (cond (Nat.blt j 85) (cond (Nat.beq j 84) true false) (cond (Nat.beq j 85) true false)))))) false) (cond (Nat.beq c 144) true false)) (cond (Nat.blt c 146) (cond (Nat.beq c 145) true false) (cond (Nat.blt c 147) (cond (Nat.beq c 146) true false) (cond (Nat.beq c 147) true false)))) (cond (Nat.blt c 151) (cond (Nat.blt c 149) (cond (Nat.beq c 148) true false) (cond (Nat.blt c 150) (cond (Nat.beq c 149) true false) (cond (Nat.beq c 150) true false))) (cond (Nat.blt c 152) (cond (Nat.beq c 151) true false) (cond (Nat.blt c 153) (cond (Nat.beq c 152) true false) (cond (Nat.beq c 153) true false))))) (cond (Nat.blt c 160) (cond (Nat.blt c 157) (cond (Nat.blt c 155) (cond (Nat.beq c 154) true false) (cond (Nat.blt c 156) (cond (Nat.beq c 155) true false) (cond (Nat.beq c 156) true false))) (cond (Nat.blt c 158) (cond (Nat.beq c 157) true false) (cond (Nat.blt c 159) (cond (Nat.beq c 158) true false) (cond (Nat.beq c 159) true false)))) (cond (Nat.blt c 163) (cond (Nat.blt c 161) (cond (Nat.beq c 160) true false) (cond (Nat.blt c 162) (cond (Nat.beq c 161) true false) (cond (Nat.beq c 162) true false))) (cond (Nat.blt c 164) (cond (Nat.beq c 163) true false) (cond (Nat.blt c 165) (cond (Nat.beq c 164) true false) (cond (Nat.beq c 165) true false)))))) (cond (Nat.blt c 180) (cond (Nat.blt c 174) (cond (Nat.blt c 169) (cond (Nat.blt c 168) (cond (Nat.beq c 166) true false) (cond (Nat.beq c 168) true false)) (cond (Nat.blt c 170) (cond (Nat.beq c 169) true false) (cond (Nat.blt c 173) (cond (Nat.beq c 170) true false) (cond (Nat.beq c 173) true false)))) (cond (Nat.blt c 177) (cond (Nat.blt c 175) (cond (Nat.beq c 174) true false) (cond (Nat.blt c 176) (cond (Nat.beq c 175) true false) (cond (Nat.beq c 176) true false))) (cond (Nat.blt c 178) (cond (Nat.beq c 177) true false) (cond (Nat.blt c 179) (cond (Nat.beq c 178) true false) (cond (Nat.beq c 179) true false))))) (cond (Nat.blt c 193) (cond (Nat.blt c 184) (cond (Nat.blt c 181) (cond (Nat.beq c 180) true false) (cond (Nat.blt c 183) (cond (Nat.beq c 181) true false) (cond (Nat.beq c 183) true false))) (cond (Nat.blt c 185) (cond (Nat.beq c 184) true false) (cond (Nat.blt c 186) (cond (Nat.beq c 185) true false) (cond (Nat.beq c 186) true false)))) (cond (Nat.blt c 196) (cond (Nat.blt c 194) (cond (Nat.beq c 193) true false) (cond (Nat.blt c 195) (cond (Nat.beq c 194) true false) (cond (Nat.beq c 195) true false))) (cond (Nat.blt c 197) (cond (Nat.beq c 196) true false) (cond (Nat.blt c 205) (cond (Nat.beq c 197) true false) (cond (Nat.beq c 205) true false)))))))
def msk (f : Nat → Nat → Bool) (w : Wd) : Wd := fun c j => cond (f c j) (w c j) 0
def pc (w : Wd) : Wd := msk isC w
def pm (w : Wd) : Wd := msk isM w
theorem mk_in {f : Nat → Nat → Bool} {w : Wd} {c i : Nat} {x : Int} (h : f c i = true) : msk f (wst w c i x) = wst (msk f w) c i x := by
  funext a j
  unfold msk wst
  by_cases q : a = c ∧ j = i
  · rw [if_pos q, if_pos q, q.1, q.2, h]; rfl
  · rw [if_neg q, if_neg q]
theorem mk_out {f : Nat → Nat → Bool} {w : Wd} {c i : Nat} {x : Int} (h : f c i = false) : msk f (wst w c i x) = msk f w := by
  funext a j
  unfold msk wst
  by_cases q : a = c ∧ j = i
  · rw [q.1, q.2, h]; rfl
  · rw [if_neg q]
theorem mk_rd {f : Nat → Nat → Bool} {w τ : Wd} (h : msk f w = τ) {c j : Nat} (hs : f c j = true) : w c j = τ c j := by
  rw [← h]
  unfold msk
  rw [hs]
  rfl
theorem mk_cp {f : Nat → Nat → Bool} {w : Wd} {s c : Nat} {sp dp n : Int} (h : ∀ j, f c j = false) : msk f (wcp w s sp c dp n) = msk f w := by
  funext a j
  unfold msk wcp
  by_cases q : a = c
  · rw [q, h]; rfl
  · rw [if_neg (fun z => q z.1)]
theorem pc_in {w : Wd} {c i : Nat} {x : Int} (h : isC c i = true) : pc (wst w c i x) = wst (pc w) c i x := mk_in h
theorem pm_in {w : Wd} {c i : Nat} {x : Int} (h : isM c i = true) : pm (wst w c i x) = wst (pm w) c i x := mk_in h
theorem pc_out {w : Wd} {c i : Nat} {x : Int} (h : isC c i = false) : pc (wst w c i x) = pc w := mk_out h
theorem pm_out {w : Wd} {c i : Nat} {x : Int} (h : isM c i = false) : pm (wst w c i x) = pm w := mk_out h
theorem r13 {w τ : Wd} (h : pc w = τ) (j : Nat) : w 13 j = τ 13 j := mk_rd h rfl
theorem r14 {w τ : Wd} (h : pc w = τ) (j : Nat) : w 14 j = τ 14 j := mk_rd h rfl
theorem r15 {w τ : Wd} (h : pc w = τ) (j : Nat) : w 15 j = τ 15 j := mk_rd h rfl
theorem r16 {w τ : Wd} (h : pc w = τ) (j : Nat) : w 16 j = τ 16 j := mk_rd h rfl
theorem r22 {w τ : Wd} (h : pc w = τ) (j : Nat) : w 22 j = τ 22 j := mk_rd h rfl
theorem r23 {w τ : Wd} (h : pc w = τ) (j : Nat) : w 23 j = τ 23 j := mk_rd h rfl
theorem r24 {w τ : Wd} (h : pc w = τ) (j : Nat) : w 24 j = τ 24 j := mk_rd h rfl
theorem r25 {w τ : Wd} (h : pc w = τ) (j : Nat) : w 25 j = τ 25 j := mk_rd h rfl
theorem r26 {w τ : Wd} (h : pc w = τ) (j : Nat) : w 26 j = τ 26 j := mk_rd h rfl
theorem r27 {w τ : Wd} (h : pc w = τ) (j : Nat) : w 27 j = τ 27 j := mk_rd h rfl
theorem r28 {w τ : Wd} (h : pc w = τ) (j : Nat) : w 28 j = τ 28 j := mk_rd h rfl
theorem r29 {w τ : Wd} (h : pc w = τ) (j : Nat) : w 29 j = τ 29 j := mk_rd h rfl
theorem r30 {w τ : Wd} (h : pc w = τ) (j : Nat) : w 30 j = τ 30 j := mk_rd h rfl
theorem r31 {w τ : Wd} (h : pc w = τ) (j : Nat) : w 31 j = τ 31 j := mk_rd h rfl
theorem r33 {w τ : Wd} (h : pc w = τ) (j : Nat) : w 33 j = τ 33 j := mk_rd h rfl
theorem r34 {w τ : Wd} (h : pc w = τ) (j : Nat) : w 34 j = τ 34 j := mk_rd h rfl
theorem r35 {w τ : Wd} (h : pc w = τ) (j : Nat) : w 35 j = τ 35 j := mk_rd h rfl
theorem r36 {w τ : Wd} (h : pc w = τ) (j : Nat) : w 36 j = τ 36 j := mk_rd h rfl
theorem r37 {w τ : Wd} (h : pc w = τ) (j : Nat) : w 37 j = τ 37 j := mk_rd h rfl
theorem r38 {w τ : Wd} (h : pc w = τ) (j : Nat) : w 38 j = τ 38 j := mk_rd h rfl
theorem r39 {w τ : Wd} (h : pc w = τ) (j : Nat) : w 39 j = τ 39 j := mk_rd h rfl
theorem r40 {w τ : Wd} (h : pc w = τ) (j : Nat) : w 40 j = τ 40 j := mk_rd h rfl
theorem r42 {w τ : Wd} (h : pc w = τ) (j : Nat) : w 42 j = τ 42 j := mk_rd h rfl
theorem r43 {w τ : Wd} (h : pc w = τ) (j : Nat) : w 43 j = τ 43 j := mk_rd h rfl
theorem r44 {w τ : Wd} (h : pc w = τ) (j : Nat) : w 44 j = τ 44 j := mk_rd h rfl
theorem r45 {w τ : Wd} (h : pc w = τ) (j : Nat) : w 45 j = τ 45 j := mk_rd h rfl
theorem r46 {w τ : Wd} (h : pc w = τ) (j : Nat) : w 46 j = τ 46 j := mk_rd h rfl
theorem r47 {w τ : Wd} (h : pc w = τ) (j : Nat) : w 47 j = τ 47 j := mk_rd h rfl
theorem r48 {w τ : Wd} (h : pc w = τ) (j : Nat) : w 48 j = τ 48 j := mk_rd h rfl
theorem r49 {w τ : Wd} (h : pc w = τ) (j : Nat) : w 49 j = τ 49 j := mk_rd h rfl
theorem r50 {w τ : Wd} (h : pc w = τ) (j : Nat) : w 50 j = τ 50 j := mk_rd h rfl
theorem r51 {w τ : Wd} (h : pc w = τ) (j : Nat) : w 51 j = τ 51 j := mk_rd h rfl
theorem r54 {w τ : Wd} (h : pc w = τ) (j : Nat) : w 54 j = τ 54 j := mk_rd h rfl
theorem r55 {w τ : Wd} (h : pc w = τ) (j : Nat) : w 55 j = τ 55 j := mk_rd h rfl
theorem r56 {w τ : Wd} (h : pc w = τ) (j : Nat) : w 56 j = τ 56 j := mk_rd h rfl
theorem r57 {w τ : Wd} (h : pc w = τ) (j : Nat) : w 57 j = τ 57 j := mk_rd h rfl
theorem r58 {w τ : Wd} (h : pc w = τ) (j : Nat) : w 58 j = τ 58 j := mk_rd h rfl
theorem r59 {w τ : Wd} (h : pc w = τ) (j : Nat) : w 59 j = τ 59 j := mk_rd h rfl
theorem r60 {w τ : Wd} (h : pc w = τ) (j : Nat) : w 60 j = τ 60 j := mk_rd h rfl
theorem r61 {w τ : Wd} (h : pc w = τ) (j : Nat) : w 61 j = τ 61 j := mk_rd h rfl
theorem r62 {w τ : Wd} (h : pc w = τ) (j : Nat) : w 62 j = τ 62 j := mk_rd h rfl
theorem r63 {w τ : Wd} (h : pc w = τ) (j : Nat) : w 63 j = τ 63 j := mk_rd h rfl
theorem r64 {w τ : Wd} (h : pc w = τ) (j : Nat) : w 64 j = τ 64 j := mk_rd h rfl
theorem r66 {w τ : Wd} (h : pc w = τ) (j : Nat) : w 66 j = τ 66 j := mk_rd h rfl
theorem r68 {w τ : Wd} (h : pc w = τ) (j : Nat) : w 68 j = τ 68 j := mk_rd h rfl
theorem r69 {w τ : Wd} (h : pc w = τ) (j : Nat) : w 69 j = τ 69 j := mk_rd h rfl
theorem r70 {w τ : Wd} (h : pc w = τ) (j : Nat) : w 70 j = τ 70 j := mk_rd h rfl
theorem r71 {w τ : Wd} (h : pc w = τ) (j : Nat) : w 71 j = τ 71 j := mk_rd h rfl
theorem r72 {w τ : Wd} (h : pc w = τ) (j : Nat) : w 72 j = τ 72 j := mk_rd h rfl
theorem r73 {w τ : Wd} (h : pc w = τ) (j : Nat) : w 73 j = τ 73 j := mk_rd h rfl
theorem r74 {w τ : Wd} (h : pc w = τ) (j : Nat) : w 74 j = τ 74 j := mk_rd h rfl
theorem r75 {w τ : Wd} (h : pc w = τ) (j : Nat) : w 75 j = τ 75 j := mk_rd h rfl
theorem r76 {w τ : Wd} (h : pc w = τ) (j : Nat) : w 76 j = τ 76 j := mk_rd h rfl
theorem r77 {w τ : Wd} (h : pc w = τ) (j : Nat) : w 77 j = τ 77 j := mk_rd h rfl
theorem r79 {w τ : Wd} (h : pc w = τ) (j : Nat) : w 79 j = τ 79 j := mk_rd h rfl
theorem r80 {w τ : Wd} (h : pc w = τ) (j : Nat) : w 80 j = τ 80 j := mk_rd h rfl
theorem r81 {w τ : Wd} (h : pc w = τ) (j : Nat) : w 81 j = τ 81 j := mk_rd h rfl
theorem r82 {w τ : Wd} (h : pc w = τ) (j : Nat) : w 82 j = τ 82 j := mk_rd h rfl
theorem r83 {w τ : Wd} (h : pc w = τ) (j : Nat) : w 83 j = τ 83 j := mk_rd h rfl
theorem r84 {w τ : Wd} (h : pc w = τ) (j : Nat) : w 84 j = τ 84 j := mk_rd h rfl
theorem r85 {w τ : Wd} (h : pc w = τ) (j : Nat) : w 85 j = τ 85 j := mk_rd h rfl
theorem r104 {w τ : Wd} (h : pc w = τ) (j : Nat) : w 104 j = τ 104 j := mk_rd h rfl
theorem r105 {w τ : Wd} (h : pc w = τ) (j : Nat) : w 105 j = τ 105 j := mk_rd h rfl
theorem r106 {w τ : Wd} (h : pc w = τ) (j : Nat) : w 106 j = τ 106 j := mk_rd h rfl
theorem r107 {w τ : Wd} (h : pc w = τ) (j : Nat) : w 107 j = τ 107 j := mk_rd h rfl
theorem r108 {w τ : Wd} (h : pc w = τ) (j : Nat) : w 108 j = τ 108 j := mk_rd h rfl
theorem r109 {w τ : Wd} (h : pc w = τ) (j : Nat) : w 109 j = τ 109 j := mk_rd h rfl
theorem r114 {w τ : Wd} (h : pc w = τ) (j : Nat) : w 114 j = τ 114 j := mk_rd h rfl
theorem r115 {w τ : Wd} (h : pc w = τ) (j : Nat) : w 115 j = τ 115 j := mk_rd h rfl
theorem r116 {w τ : Wd} (h : pc w = τ) (j : Nat) : w 116 j = τ 116 j := mk_rd h rfl
theorem r117 {w τ : Wd} (h : pc w = τ) (j : Nat) : w 117 j = τ 117 j := mk_rd h rfl
theorem r120 {w τ : Wd} (h : pc w = τ) (j : Nat) : w 120 j = τ 120 j := mk_rd h rfl
theorem r121 {w τ : Wd} (h : pc w = τ) (j : Nat) : w 121 j = τ 121 j := mk_rd h rfl
theorem r122 {w τ : Wd} (h : pc w = τ) (j : Nat) : w 122 j = τ 122 j := mk_rd h rfl
theorem r123 {w τ : Wd} (h : pc w = τ) (j : Nat) : w 123 j = τ 123 j := mk_rd h rfl
theorem r124 {w τ : Wd} (h : pc w = τ) (j : Nat) : w 124 j = τ 124 j := mk_rd h rfl
theorem r125 {w τ : Wd} (h : pc w = τ) (j : Nat) : w 125 j = τ 125 j := mk_rd h rfl
theorem r126 {w τ : Wd} (h : pc w = τ) (j : Nat) : w 126 j = τ 126 j := mk_rd h rfl
theorem r127 {w τ : Wd} (h : pc w = τ) (j : Nat) : w 127 j = τ 127 j := mk_rd h rfl
theorem r128 {w τ : Wd} (h : pc w = τ) (j : Nat) : w 128 j = τ 128 j := mk_rd h rfl
theorem r129 {w τ : Wd} (h : pc w = τ) (j : Nat) : w 129 j = τ 129 j := mk_rd h rfl
theorem r130 {w τ : Wd} (h : pc w = τ) (j : Nat) : w 130 j = τ 130 j := mk_rd h rfl
theorem r131 {w τ : Wd} (h : pc w = τ) (j : Nat) : w 131 j = τ 131 j := mk_rd h rfl
theorem r132 {w τ : Wd} (h : pc w = τ) (j : Nat) : w 132 j = τ 132 j := mk_rd h rfl
theorem r133 {w τ : Wd} (h : pc w = τ) (j : Nat) : w 133 j = τ 133 j := mk_rd h rfl
theorem r134 {w τ : Wd} (h : pc w = τ) (j : Nat) : w 134 j = τ 134 j := mk_rd h rfl
theorem r135 {w τ : Wd} (h : pc w = τ) (j : Nat) : w 135 j = τ 135 j := mk_rd h rfl
theorem r136 {w τ : Wd} (h : pc w = τ) (j : Nat) : w 136 j = τ 136 j := mk_rd h rfl
theorem r137 {w τ : Wd} (h : pc w = τ) (j : Nat) : w 137 j = τ 137 j := mk_rd h rfl
theorem r138 {w τ : Wd} (h : pc w = τ) (j : Nat) : w 138 j = τ 138 j := mk_rd h rfl
theorem r139 {w τ : Wd} (h : pc w = τ) (j : Nat) : w 139 j = τ 139 j := mk_rd h rfl
theorem r140 {w τ : Wd} (h : pc w = τ) (j : Nat) : w 140 j = τ 140 j := mk_rd h rfl
theorem r141 {w τ : Wd} (h : pc w = τ) (j : Nat) : w 141 j = τ 141 j := mk_rd h rfl
theorem r143 {w τ : Wd} (h : pc w = τ) (j : Nat) : w 143 j = τ 143 j := mk_rd h rfl
theorem r144 {w τ : Wd} (h : pm w = τ) (j : Nat) : w 144 j = τ 144 j := mk_rd h rfl
theorem r145 {w τ : Wd} (h : pm w = τ) (j : Nat) : w 145 j = τ 145 j := mk_rd h rfl
theorem r146 {w τ : Wd} (h : pm w = τ) (j : Nat) : w 146 j = τ 146 j := mk_rd h rfl
theorem r147 {w τ : Wd} (h : pm w = τ) (j : Nat) : w 147 j = τ 147 j := mk_rd h rfl
theorem r148 {w τ : Wd} (h : pm w = τ) (j : Nat) : w 148 j = τ 148 j := mk_rd h rfl
theorem r149 {w τ : Wd} (h : pm w = τ) (j : Nat) : w 149 j = τ 149 j := mk_rd h rfl
theorem r150 {w τ : Wd} (h : pm w = τ) (j : Nat) : w 150 j = τ 150 j := mk_rd h rfl
theorem r151 {w τ : Wd} (h : pm w = τ) (j : Nat) : w 151 j = τ 151 j := mk_rd h rfl
theorem r152 {w τ : Wd} (h : pm w = τ) (j : Nat) : w 152 j = τ 152 j := mk_rd h rfl
theorem r153 {w τ : Wd} (h : pm w = τ) (j : Nat) : w 153 j = τ 153 j := mk_rd h rfl
theorem r154 {w τ : Wd} (h : pm w = τ) (j : Nat) : w 154 j = τ 154 j := mk_rd h rfl
theorem r155 {w τ : Wd} (h : pm w = τ) (j : Nat) : w 155 j = τ 155 j := mk_rd h rfl
theorem r156 {w τ : Wd} (h : pm w = τ) (j : Nat) : w 156 j = τ 156 j := mk_rd h rfl
theorem r157 {w τ : Wd} (h : pm w = τ) (j : Nat) : w 157 j = τ 157 j := mk_rd h rfl
theorem r158 {w τ : Wd} (h : pm w = τ) (j : Nat) : w 158 j = τ 158 j := mk_rd h rfl
theorem r159 {w τ : Wd} (h : pm w = τ) (j : Nat) : w 159 j = τ 159 j := mk_rd h rfl
theorem r160 {w τ : Wd} (h : pm w = τ) (j : Nat) : w 160 j = τ 160 j := mk_rd h rfl
theorem r161 {w τ : Wd} (h : pm w = τ) (j : Nat) : w 161 j = τ 161 j := mk_rd h rfl
theorem r162 {w τ : Wd} (h : pm w = τ) (j : Nat) : w 162 j = τ 162 j := mk_rd h rfl
theorem r163 {w τ : Wd} (h : pm w = τ) (j : Nat) : w 163 j = τ 163 j := mk_rd h rfl
theorem r164 {w τ : Wd} (h : pm w = τ) (j : Nat) : w 164 j = τ 164 j := mk_rd h rfl
theorem r165 {w τ : Wd} (h : pm w = τ) (j : Nat) : w 165 j = τ 165 j := mk_rd h rfl
theorem r166 {w τ : Wd} (h : pm w = τ) (j : Nat) : w 166 j = τ 166 j := mk_rd h rfl
theorem r168 {w τ : Wd} (h : pm w = τ) (j : Nat) : w 168 j = τ 168 j := mk_rd h rfl
theorem r169 {w τ : Wd} (h : pm w = τ) (j : Nat) : w 169 j = τ 169 j := mk_rd h rfl
theorem r170 {w τ : Wd} (h : pm w = τ) (j : Nat) : w 170 j = τ 170 j := mk_rd h rfl
theorem r173 {w τ : Wd} (h : pm w = τ) (j : Nat) : w 173 j = τ 173 j := mk_rd h rfl
theorem r174 {w τ : Wd} (h : pm w = τ) (j : Nat) : w 174 j = τ 174 j := mk_rd h rfl
theorem r175 {w τ : Wd} (h : pm w = τ) (j : Nat) : w 175 j = τ 175 j := mk_rd h rfl
theorem r176 {w τ : Wd} (h : pm w = τ) (j : Nat) : w 176 j = τ 176 j := mk_rd h rfl
theorem r177 {w τ : Wd} (h : pm w = τ) (j : Nat) : w 177 j = τ 177 j := mk_rd h rfl
theorem r178 {w τ : Wd} (h : pm w = τ) (j : Nat) : w 178 j = τ 178 j := mk_rd h rfl
theorem r179 {w τ : Wd} (h : pm w = τ) (j : Nat) : w 179 j = τ 179 j := mk_rd h rfl
theorem r180 {w τ : Wd} (h : pm w = τ) (j : Nat) : w 180 j = τ 180 j := mk_rd h rfl
theorem r181 {w τ : Wd} (h : pm w = τ) (j : Nat) : w 181 j = τ 181 j := mk_rd h rfl
theorem r183 {w τ : Wd} (h : pm w = τ) (j : Nat) : w 183 j = τ 183 j := mk_rd h rfl
theorem r184 {w τ : Wd} (h : pm w = τ) (j : Nat) : w 184 j = τ 184 j := mk_rd h rfl
theorem r185 {w τ : Wd} (h : pm w = τ) (j : Nat) : w 185 j = τ 185 j := mk_rd h rfl
theorem r186 {w τ : Wd} (h : pm w = τ) (j : Nat) : w 186 j = τ 186 j := mk_rd h rfl
theorem r193 {w τ : Wd} (h : pm w = τ) (j : Nat) : w 193 j = τ 193 j := mk_rd h rfl
theorem r194 {w τ : Wd} (h : pm w = τ) (j : Nat) : w 194 j = τ 194 j := mk_rd h rfl
theorem r195 {w τ : Wd} (h : pm w = τ) (j : Nat) : w 195 j = τ 195 j := mk_rd h rfl
theorem r196 {w τ : Wd} (h : pm w = τ) (j : Nat) : w 196 j = τ 196 j := mk_rd h rfl
theorem r197 {w τ : Wd} (h : pm w = τ) (j : Nat) : w 197 j = τ 197 j := mk_rd h rfl
theorem r205 {w τ : Wd} (h : pm w = τ) (j : Nat) : w 205 j = τ 205 j := mk_rd h rfl
theorem r0_4 {w τ : Wd} (h : pc w = τ) : w 0 4 = τ 0 4 := mk_rd h rfl
theorem r2_1 {w τ : Wd} (h : pc w = τ) : w 2 1 = τ 2 1 := mk_rd h rfl
theorem r3_5 {w τ : Wd} (h : pc w = τ) : w 3 5 = τ 3 5 := mk_rd h rfl
theorem r3_12 {w τ : Wd} (h : pc w = τ) : w 3 12 = τ 3 12 := mk_rd h rfl
theorem r4_2 {w τ : Wd} (h : pc w = τ) : w 4 2 = τ 4 2 := mk_rd h rfl
theorem r5_4 {w τ : Wd} (h : pc w = τ) : w 5 4 = τ 5 4 := mk_rd h rfl
theorem r5_8 {w τ : Wd} (h : pc w = τ) : w 5 8 = τ 5 8 := mk_rd h rfl
theorem r7_5 {w τ : Wd} (h : pc w = τ) : w 7 5 = τ 7 5 := mk_rd h rfl
theorem r8_3 {w τ : Wd} (h : pc w = τ) : w 8 3 = τ 8 3 := mk_rd h rfl
theorem r9_1 {w τ : Wd} (h : pc w = τ) : w 9 1 = τ 9 1 := mk_rd h rfl
theorem r10_2 {w τ : Wd} (h : pc w = τ) : w 10 2 = τ 10 2 := mk_rd h rfl
theorem r11_14 {w τ : Wd} (h : pc w = τ) : w 11 14 = τ 11 14 := mk_rd h rfl
theorem r11_15 {w τ : Wd} (h : pc w = τ) : w 11 15 = τ 11 15 := mk_rd h rfl
theorem r12_0 {w τ : Wd} (h : pm w = τ) : w 12 0 = τ 12 0 := mk_rd h rfl
theorem r12_1 {w τ : Wd} (h : pm w = τ) : w 12 1 = τ 12 1 := mk_rd h rfl
theorem r12_5 {w τ : Wd} (h : pm w = τ) : w 12 5 = τ 12 5 := mk_rd h rfl
theorem r12_13 {w τ : Wd} (h : pm w = τ) : w 12 13 = τ 12 13 := mk_rd h rfl
theorem r12_19 {w τ : Wd} (h : pm w = τ) : w 12 19 = τ 12 19 := mk_rd h rfl
theorem r12_30 {w τ : Wd} (h : pm w = τ) : w 12 30 = τ 12 30 := mk_rd h rfl
theorem r12_31 {w τ : Wd} (h : pm w = τ) : w 12 31 = τ 12 31 := mk_rd h rfl
theorem r12_32 {w τ : Wd} (h : pm w = τ) : w 12 32 = τ 12 32 := mk_rd h rfl
theorem r12_46 {w τ : Wd} (h : pm w = τ) : w 12 46 = τ 12 46 := mk_rd h rfl
theorem r12_50 {w τ : Wd} (h : pm w = τ) : w 12 50 = τ 12 50 := mk_rd h rfl
theorem r12_57 {w τ : Wd} (h : pm w = τ) : w 12 57 = τ 12 57 := mk_rd h rfl
theorem r12_61 {w τ : Wd} (h : pm w = τ) : w 12 61 = τ 12 61 := mk_rd h rfl
theorem r12_87 {w τ : Wd} (h : pm w = τ) : w 12 87 = τ 12 87 := mk_rd h rfl
def b2 (p : Prop) [Decidable p] : Int := if p then 1 else 0
theorem CalE.to {n d k : Nat} {as : List AV} {w w1 : Wd} {x : Int} {K : Int → Wd → Prop} (h : Cal n k as w (rI fun y u => y = x ∧ u = w1)) (hn : n ≤ d) (hk : K x w1) : Cal d k as w (rI K) := h.up hn (rI_m fun y u q => by rw [q.1, q.2]; exact hk)
theorem CalI.to {n d k : Nat} {as : List AV} {w : Wd} {K K' : Int → Wd → Prop} (h : Cal n k as w (rI K')) (hn : n ≤ d) (hk : ∀ x u, K' x u → K x u) : Cal d k as w (rI K) := h.up hn (rI_m hk)
theorem CalV.to {n d k : Nat} {as : List AV} {w : Wd} {K K' : Wd → Prop} (h : Cal n k as w (rV K')) (hn : n ≤ d) (hk : ∀ u, K' u → K u) : Cal d k as w (rV K) := h.up hn (rV_m hk)
theorem CalVE.to {n d k : Nat} {as : List AV} {w w1 : Wd} {K : Wd → Prop} (h : Cal n k as w (rV fun u => u = w1)) (hn : n ≤ d) (hk : K w1) : Cal d k as w (rV K) := h.up hn (rV_m fun u q => by rw [q]; exact hk)
theorem wr_i {x : Int} (h1 : -2147483648 ≤ x) (h2 : x < 2147483648) : wr x = x := wr_id h1 h2
/-- a counted loop: S i is the state at the head, i steps done -/
theorem Ev.count {sc : SC} {C : CT} {cdk : Nat → Ent} {Q : Option AV → Wd → Prop} {S : Nat → AS} {N : Nat} (h : ∀ i, i < N → Ev sc C cdk Q (S (i + 1)) → Ev sc C cdk Q (S i)) (hN : Ev sc C cdk Q (S N)) : ∀ i, i ≤ N → Ev sc C cdk Q (S i) := by
  intro i hi
  obtain ⟨n, rfl⟩ : ∃ n, N = i + n := ⟨N - i, by omega⟩
  clear hi
  induction n generalizing i with
  | zero => exact hN
  | succ n ih =>
    refine h i (by omega) (ih (i + 1) (fun j hj => h j (by omega)) ?_)
    rw [show i + 1 + n = i + (n + 1) by omega]
    exact hN
theorem tn (n : Nat) : ((n : Int)).toNat = n := rfl
theorem wr_s {n : Nat} (h : n < 2000000) : wr ((n : Int) + 1) = ((n + 1 : Nat) : Int) := by rw [wr_id (by omega) (by omega)]; rfl
