theorem ok_a (k : Nat) (hk : k < 248) : cond (caM k) (chM k) true = true := by
  by_cases h0 : k < 24
  · exact ok_a0 k h0
  by_cases h24 : k < 43
  · have := ok_a24 (k - 24) (by omega)
    rwa [Nat.sub_add_cancel (by omega)] at this
  by_cases h43 : k < 69
  · have := ok_a43 (k - 43) (by omega)
    rwa [Nat.sub_add_cancel (by omega)] at this
  by_cases h69 : k < 87
  · have := ok_a69 (k - 69) (by omega)
    rwa [Nat.sub_add_cancel (by omega)] at this
  by_cases h87 : k < 107
  · have := ok_a87 (k - 87) (by omega)
    rwa [Nat.sub_add_cancel (by omega)] at this
  by_cases h107 : k < 129
  · have := ok_a107 (k - 107) (by omega)
    rwa [Nat.sub_add_cancel (by omega)] at this
  by_cases h129 : k < 145
  · have := ok_a129 (k - 129) (by omega)
    rwa [Nat.sub_add_cancel (by omega)] at this
  by_cases h145 : k < 156
  · have := ok_a145 (k - 145) (by omega)
    rwa [Nat.sub_add_cancel (by omega)] at this
  by_cases h156 : k < 168
  · have := ok_a156 (k - 156) (by omega)
    rwa [Nat.sub_add_cancel (by omega)] at this
  by_cases h168 : k < 179
  · have := ok_a168 (k - 168) (by omega)
    rwa [Nat.sub_add_cancel (by omega)] at this
  by_cases h179 : k < 192
  · have := ok_a179 (k - 179) (by omega)
    rwa [Nat.sub_add_cancel (by omega)] at this
  by_cases h192 : k < 203
  · have := ok_a192 (k - 192) (by omega)
    rwa [Nat.sub_add_cancel (by omega)] at this
  by_cases h203 : k < 217
  · have := ok_a203 (k - 203) (by omega)
    rwa [Nat.sub_add_cancel (by omega)] at this
  by_cases h217 : k < 229
  · have := ok_a217 (k - 217) (by omega)
    rwa [Nat.sub_add_cancel (by omega)] at this
  by_cases h229 : k < 242
  · have := ok_a229 (k - 229) (by omega)
    rwa [Nat.sub_add_cancel (by omega)] at this
  by_cases h242 : k < 247
  · have := ok_a242 (k - 242) (by omega)
    rwa [Nat.sub_add_cancel (by omega)] at this
  have := ok_a247 (k - 247) (by omega)
  rwa [Nat.sub_add_cancel (by omega)] at this
theorem ok_b (k : Nat) (hk : k < 248) : ∀ pc, pc < clM k → okE k pc = true := by
  by_cases h0 : k < 24
  · exact ok_b0 k h0
  by_cases h24 : k < 43
  · have := ok_b24 (k - 24) (by omega)
    rwa [Nat.sub_add_cancel (by omega)] at this
  by_cases h43 : k < 69
  · have := ok_b43 (k - 43) (by omega)
    rwa [Nat.sub_add_cancel (by omega)] at this
  by_cases h69 : k < 87
  · have := ok_b69 (k - 69) (by omega)
    rwa [Nat.sub_add_cancel (by omega)] at this
  by_cases h87 : k < 107
  · have := ok_b87 (k - 87) (by omega)
    rwa [Nat.sub_add_cancel (by omega)] at this
  by_cases h107 : k < 129
  · have := ok_b107 (k - 107) (by omega)
    rwa [Nat.sub_add_cancel (by omega)] at this
  by_cases h129 : k < 145
  · have := ok_b129 (k - 129) (by omega)
    rwa [Nat.sub_add_cancel (by omega)] at this
  by_cases h145 : k < 156
  · have := ok_b145 (k - 145) (by omega)
    rwa [Nat.sub_add_cancel (by omega)] at this
  by_cases h156 : k < 168
  · have := ok_b156 (k - 156) (by omega)
    rwa [Nat.sub_add_cancel (by omega)] at this
  by_cases h168 : k < 179
  · have := ok_b168 (k - 168) (by omega)
    rwa [Nat.sub_add_cancel (by omega)] at this
  by_cases h179 : k < 192
  · have := ok_b179 (k - 179) (by omega)
    rwa [Nat.sub_add_cancel (by omega)] at this
  by_cases h192 : k < 203
  · have := ok_b192 (k - 192) (by omega)
    rwa [Nat.sub_add_cancel (by omega)] at this
  by_cases h203 : k < 217
  · have := ok_b203 (k - 203) (by omega)
    rwa [Nat.sub_add_cancel (by omega)] at this
  by_cases h217 : k < 229
  · have := ok_b217 (k - 217) (by omega)
    rwa [Nat.sub_add_cancel (by omega)] at this
  by_cases h229 : k < 242
  · have := ok_b229 (k - 229) (by omega)
    rwa [Nat.sub_add_cancel (by omega)] at this
  by_cases h242 : k < 247
  · have := ok_b242 (k - 242) (by omega)
    rwa [Nat.sub_add_cancel (by omega)] at this
  have := ok_b247 (k - 247) (by omega)
  rwa [Nat.sub_add_cancel (by omega)] at this
def nM : Nat := 248
