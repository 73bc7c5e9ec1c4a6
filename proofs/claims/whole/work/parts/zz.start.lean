/-! THE START: what the Statement gives becomes the context of the law's walk -/
def nw_L : List Cond := flatC (Jvm.Cond.and given_1 narrow_1)
theorem nw_ls : ∀ i, i < 20 → Cond.laysStatic "OneVerb$Word" (k_wn.getD i "") "LOneVerb$Word;" ∈ lw_tbl := by decide +kernel
theorem nw_ex : ∀ i, i < 20 → Cond.exactly (.static "OneVerb$Word" (k_wn.getD i "") "LOneVerb$Word;") "OneVerb$Word" ∈ nw_L := by decide +kernel
theorem nw_re : ∀ i, i < 20 → Cond.eq (.field (.static "OneVerb$Word" (k_wn.getD i "") "LOneVerb$Word;") "OneVerb$Word" "reserved" "Z") (.int (k_wr.getD i 0)) ∈ nw_L := by decide +kernel
theorem nw_ow : ∀ i, i < 20 → Cond.eq (.field (.static "OneVerb$Word" (k_wn.getD i "") "LOneVerb$Word;") "OneVerb$Word" "owner" "I") (.int (k_wo.getD i 0)) ∈ nw_L := by decide +kernel
theorem nw_fa : ∀ i, i < 20 → Cond.eq (.field (.static "OneVerb$Word" (k_wn.getD i "") "LOneVerb$Word;") "OneVerb$Word" "fact" "I") (.int (k_wf.getD i 0)) ∈ nw_L := by decide +kernel
theorem nw_le : ∀ i, i < 20 → Cond.eq (.field (.static "OneVerb$Word" (k_wn.getD i "") "LOneVerb$Word;") "OneVerb$Word" "letters" "J") (.long (k_wl.getD i 0)) ∈ nw_L := by decide +kernel
theorem nw_el : ∀ i, i < 20 → Cond.eq (.elem (.static "OneVerb$Word" "ALL" "[LOneVerb$Word;") (.int (Int32.ofNat i))) (.static "OneVerb$Word" (k_wn.getD i "") "LOneVerb$Word;") ∈ nw_L := by decide +kernel
theorem nw_ne0 : ∀ j, j < 20 → 0 ≠ j → Cond.not (.eq (.static "OneVerb$Word" (k_wn.getD 0 "") "LOneVerb$Word;") (.static "OneVerb$Word" (k_wn.getD j "") "LOneVerb$Word;")) ∈ nw_L ∨ Cond.not (.eq (.static "OneVerb$Word" (k_wn.getD j "") "LOneVerb$Word;") (.static "OneVerb$Word" (k_wn.getD 0 "") "LOneVerb$Word;")) ∈ nw_L := fun j hj hij =>
  match j, hj, hij with
    | 0, _, hij => absurd rfl hij
    | 1, _, hij => Or.inl (List.mem_of_getElem? (i := 46) (by decide +kernel))
    | 2, _, hij => Or.inl (List.mem_of_getElem? (i := 60) (by decide +kernel))
    | 3, _, hij => Or.inl (List.mem_of_getElem? (i := 68) (by decide +kernel))
    | 4, _, hij => Or.inl (List.mem_of_getElem? (i := 110) (by decide +kernel))
    | 5, _, hij => Or.inl (List.mem_of_getElem? (i := 123) (by decide +kernel))
    | 6, _, hij => Or.inl (List.mem_of_getElem? (i := 137) (by decide +kernel))
    | 7, _, hij => Or.inl (List.mem_of_getElem? (i := 152) (by decide +kernel))
    | 8, _, hij => Or.inl (List.mem_of_getElem? (i := 168) (by decide +kernel))
    | 9, _, hij => Or.inl (List.mem_of_getElem? (i := 185) (by decide +kernel))
    | 10, _, hij => Or.inl (List.mem_of_getElem? (i := 77) (by decide +kernel))
    | 11, _, hij => Or.inl (List.mem_of_getElem? (i := 87) (by decide +kernel))
    | 12, _, hij => Or.inl (List.mem_of_getElem? (i := 98) (by decide +kernel))
    | 13, _, hij => Or.inl (List.mem_of_getElem? (i := 205) (by decide +kernel))
    | 14, _, hij => Or.inl (List.mem_of_getElem? (i := 224) (by decide +kernel))
    | 15, _, hij => Or.inl (List.mem_of_getElem? (i := 244) (by decide +kernel))
    | 16, _, hij => Or.inl (List.mem_of_getElem? (i := 265) (by decide +kernel))
    | 17, _, hij => Or.inl (List.mem_of_getElem? (i := 287) (by decide +kernel))
    | 18, _, hij => Or.inl (List.mem_of_getElem? (i := 310) (by decide +kernel))
    | 19, _, hij => Or.inl (List.mem_of_getElem? (i := 334) (by decide +kernel))
    | j + 20, hj, _ => absurd hj (by omega)
theorem nw_ne1 : ∀ j, j < 20 → 1 ≠ j → Cond.not (.eq (.static "OneVerb$Word" (k_wn.getD 1 "") "LOneVerb$Word;") (.static "OneVerb$Word" (k_wn.getD j "") "LOneVerb$Word;")) ∈ nw_L ∨ Cond.not (.eq (.static "OneVerb$Word" (k_wn.getD j "") "LOneVerb$Word;") (.static "OneVerb$Word" (k_wn.getD 1 "") "LOneVerb$Word;")) ∈ nw_L := fun j hj hij =>
  match j, hj, hij with
    | 0, _, hij => Or.inr (List.mem_of_getElem? (i := 46) (by decide +kernel))
    | 1, _, hij => absurd rfl hij
    | 2, _, hij => Or.inl (List.mem_of_getElem? (i := 61) (by decide +kernel))
    | 3, _, hij => Or.inl (List.mem_of_getElem? (i := 69) (by decide +kernel))
    | 4, _, hij => Or.inl (List.mem_of_getElem? (i := 111) (by decide +kernel))
    | 5, _, hij => Or.inl (List.mem_of_getElem? (i := 124) (by decide +kernel))
    | 6, _, hij => Or.inl (List.mem_of_getElem? (i := 138) (by decide +kernel))
    | 7, _, hij => Or.inl (List.mem_of_getElem? (i := 153) (by decide +kernel))
    | 8, _, hij => Or.inl (List.mem_of_getElem? (i := 169) (by decide +kernel))
    | 9, _, hij => Or.inl (List.mem_of_getElem? (i := 186) (by decide +kernel))
    | 10, _, hij => Or.inl (List.mem_of_getElem? (i := 78) (by decide +kernel))
    | 11, _, hij => Or.inl (List.mem_of_getElem? (i := 88) (by decide +kernel))
    | 12, _, hij => Or.inl (List.mem_of_getElem? (i := 99) (by decide +kernel))
    | 13, _, hij => Or.inl (List.mem_of_getElem? (i := 206) (by decide +kernel))
    | 14, _, hij => Or.inl (List.mem_of_getElem? (i := 225) (by decide +kernel))
    | 15, _, hij => Or.inl (List.mem_of_getElem? (i := 245) (by decide +kernel))
    | 16, _, hij => Or.inl (List.mem_of_getElem? (i := 266) (by decide +kernel))
    | 17, _, hij => Or.inl (List.mem_of_getElem? (i := 288) (by decide +kernel))
    | 18, _, hij => Or.inl (List.mem_of_getElem? (i := 311) (by decide +kernel))
    | 19, _, hij => Or.inl (List.mem_of_getElem? (i := 335) (by decide +kernel))
    | j + 20, hj, _ => absurd hj (by omega)
theorem nw_ne2 : ∀ j, j < 20 → 2 ≠ j → Cond.not (.eq (.static "OneVerb$Word" (k_wn.getD 2 "") "LOneVerb$Word;") (.static "OneVerb$Word" (k_wn.getD j "") "LOneVerb$Word;")) ∈ nw_L ∨ Cond.not (.eq (.static "OneVerb$Word" (k_wn.getD j "") "LOneVerb$Word;") (.static "OneVerb$Word" (k_wn.getD 2 "") "LOneVerb$Word;")) ∈ nw_L := fun j hj hij =>
  match j, hj, hij with
    | 0, _, hij => Or.inr (List.mem_of_getElem? (i := 60) (by decide +kernel))
    | 1, _, hij => Or.inr (List.mem_of_getElem? (i := 61) (by decide +kernel))
    | 2, _, hij => absurd rfl hij
    | 3, _, hij => Or.inl (List.mem_of_getElem? (i := 70) (by decide +kernel))
    | 4, _, hij => Or.inl (List.mem_of_getElem? (i := 112) (by decide +kernel))
    | 5, _, hij => Or.inl (List.mem_of_getElem? (i := 125) (by decide +kernel))
    | 6, _, hij => Or.inl (List.mem_of_getElem? (i := 139) (by decide +kernel))
    | 7, _, hij => Or.inl (List.mem_of_getElem? (i := 154) (by decide +kernel))
    | 8, _, hij => Or.inl (List.mem_of_getElem? (i := 170) (by decide +kernel))
    | 9, _, hij => Or.inl (List.mem_of_getElem? (i := 187) (by decide +kernel))
    | 10, _, hij => Or.inl (List.mem_of_getElem? (i := 79) (by decide +kernel))
    | 11, _, hij => Or.inl (List.mem_of_getElem? (i := 89) (by decide +kernel))
    | 12, _, hij => Or.inl (List.mem_of_getElem? (i := 100) (by decide +kernel))
    | 13, _, hij => Or.inl (List.mem_of_getElem? (i := 207) (by decide +kernel))
    | 14, _, hij => Or.inl (List.mem_of_getElem? (i := 226) (by decide +kernel))
    | 15, _, hij => Or.inl (List.mem_of_getElem? (i := 246) (by decide +kernel))
    | 16, _, hij => Or.inl (List.mem_of_getElem? (i := 267) (by decide +kernel))
    | 17, _, hij => Or.inl (List.mem_of_getElem? (i := 289) (by decide +kernel))
    | 18, _, hij => Or.inl (List.mem_of_getElem? (i := 312) (by decide +kernel))
    | 19, _, hij => Or.inl (List.mem_of_getElem? (i := 336) (by decide +kernel))
    | j + 20, hj, _ => absurd hj (by omega)
theorem nw_ne3 : ∀ j, j < 20 → 3 ≠ j → Cond.not (.eq (.static "OneVerb$Word" (k_wn.getD 3 "") "LOneVerb$Word;") (.static "OneVerb$Word" (k_wn.getD j "") "LOneVerb$Word;")) ∈ nw_L ∨ Cond.not (.eq (.static "OneVerb$Word" (k_wn.getD j "") "LOneVerb$Word;") (.static "OneVerb$Word" (k_wn.getD 3 "") "LOneVerb$Word;")) ∈ nw_L := fun j hj hij =>
  match j, hj, hij with
    | 0, _, hij => Or.inr (List.mem_of_getElem? (i := 68) (by decide +kernel))
    | 1, _, hij => Or.inr (List.mem_of_getElem? (i := 69) (by decide +kernel))
    | 2, _, hij => Or.inr (List.mem_of_getElem? (i := 70) (by decide +kernel))
    | 3, _, hij => absurd rfl hij
    | 4, _, hij => Or.inl (List.mem_of_getElem? (i := 113) (by decide +kernel))
    | 5, _, hij => Or.inl (List.mem_of_getElem? (i := 126) (by decide +kernel))
    | 6, _, hij => Or.inl (List.mem_of_getElem? (i := 140) (by decide +kernel))
    | 7, _, hij => Or.inl (List.mem_of_getElem? (i := 155) (by decide +kernel))
    | 8, _, hij => Or.inl (List.mem_of_getElem? (i := 171) (by decide +kernel))
    | 9, _, hij => Or.inl (List.mem_of_getElem? (i := 188) (by decide +kernel))
    | 10, _, hij => Or.inl (List.mem_of_getElem? (i := 80) (by decide +kernel))
    | 11, _, hij => Or.inl (List.mem_of_getElem? (i := 90) (by decide +kernel))
    | 12, _, hij => Or.inl (List.mem_of_getElem? (i := 101) (by decide +kernel))
    | 13, _, hij => Or.inl (List.mem_of_getElem? (i := 208) (by decide +kernel))
    | 14, _, hij => Or.inl (List.mem_of_getElem? (i := 227) (by decide +kernel))
    | 15, _, hij => Or.inl (List.mem_of_getElem? (i := 247) (by decide +kernel))
    | 16, _, hij => Or.inl (List.mem_of_getElem? (i := 268) (by decide +kernel))
    | 17, _, hij => Or.inl (List.mem_of_getElem? (i := 290) (by decide +kernel))
    | 18, _, hij => Or.inl (List.mem_of_getElem? (i := 313) (by decide +kernel))
    | 19, _, hij => Or.inl (List.mem_of_getElem? (i := 337) (by decide +kernel))
    | j + 20, hj, _ => absurd hj (by omega)
theorem nw_ne4 : ∀ j, j < 20 → 4 ≠ j → Cond.not (.eq (.static "OneVerb$Word" (k_wn.getD 4 "") "LOneVerb$Word;") (.static "OneVerb$Word" (k_wn.getD j "") "LOneVerb$Word;")) ∈ nw_L ∨ Cond.not (.eq (.static "OneVerb$Word" (k_wn.getD j "") "LOneVerb$Word;") (.static "OneVerb$Word" (k_wn.getD 4 "") "LOneVerb$Word;")) ∈ nw_L := fun j hj hij =>
  match j, hj, hij with
    | 0, _, hij => Or.inr (List.mem_of_getElem? (i := 110) (by decide +kernel))
    | 1, _, hij => Or.inr (List.mem_of_getElem? (i := 111) (by decide +kernel))
    | 2, _, hij => Or.inr (List.mem_of_getElem? (i := 112) (by decide +kernel))
    | 3, _, hij => Or.inr (List.mem_of_getElem? (i := 113) (by decide +kernel))
    | 4, _, hij => absurd rfl hij
    | 5, _, hij => Or.inl (List.mem_of_getElem? (i := 130) (by decide +kernel))
    | 6, _, hij => Or.inl (List.mem_of_getElem? (i := 144) (by decide +kernel))
    | 7, _, hij => Or.inl (List.mem_of_getElem? (i := 159) (by decide +kernel))
    | 8, _, hij => Or.inl (List.mem_of_getElem? (i := 175) (by decide +kernel))
    | 9, _, hij => Or.inl (List.mem_of_getElem? (i := 192) (by decide +kernel))
    | 10, _, hij => Or.inr (List.mem_of_getElem? (i := 114) (by decide +kernel))
    | 11, _, hij => Or.inr (List.mem_of_getElem? (i := 115) (by decide +kernel))
    | 12, _, hij => Or.inr (List.mem_of_getElem? (i := 116) (by decide +kernel))
    | 13, _, hij => Or.inl (List.mem_of_getElem? (i := 212) (by decide +kernel))
    | 14, _, hij => Or.inl (List.mem_of_getElem? (i := 231) (by decide +kernel))
    | 15, _, hij => Or.inl (List.mem_of_getElem? (i := 251) (by decide +kernel))
    | 16, _, hij => Or.inl (List.mem_of_getElem? (i := 272) (by decide +kernel))
    | 17, _, hij => Or.inl (List.mem_of_getElem? (i := 294) (by decide +kernel))
    | 18, _, hij => Or.inl (List.mem_of_getElem? (i := 317) (by decide +kernel))
    | 19, _, hij => Or.inl (List.mem_of_getElem? (i := 341) (by decide +kernel))
    | j + 20, hj, _ => absurd hj (by omega)
theorem nw_ne5 : ∀ j, j < 20 → 5 ≠ j → Cond.not (.eq (.static "OneVerb$Word" (k_wn.getD 5 "") "LOneVerb$Word;") (.static "OneVerb$Word" (k_wn.getD j "") "LOneVerb$Word;")) ∈ nw_L ∨ Cond.not (.eq (.static "OneVerb$Word" (k_wn.getD j "") "LOneVerb$Word;") (.static "OneVerb$Word" (k_wn.getD 5 "") "LOneVerb$Word;")) ∈ nw_L := fun j hj hij =>
  match j, hj, hij with
    | 0, _, hij => Or.inr (List.mem_of_getElem? (i := 123) (by decide +kernel))
    | 1, _, hij => Or.inr (List.mem_of_getElem? (i := 124) (by decide +kernel))
    | 2, _, hij => Or.inr (List.mem_of_getElem? (i := 125) (by decide +kernel))
    | 3, _, hij => Or.inr (List.mem_of_getElem? (i := 126) (by decide +kernel))
    | 4, _, hij => Or.inr (List.mem_of_getElem? (i := 130) (by decide +kernel))
    | 5, _, hij => absurd rfl hij
    | 6, _, hij => Or.inl (List.mem_of_getElem? (i := 145) (by decide +kernel))
    | 7, _, hij => Or.inl (List.mem_of_getElem? (i := 160) (by decide +kernel))
    | 8, _, hij => Or.inl (List.mem_of_getElem? (i := 176) (by decide +kernel))
    | 9, _, hij => Or.inl (List.mem_of_getElem? (i := 193) (by decide +kernel))
    | 10, _, hij => Or.inr (List.mem_of_getElem? (i := 127) (by decide +kernel))
    | 11, _, hij => Or.inr (List.mem_of_getElem? (i := 128) (by decide +kernel))
    | 12, _, hij => Or.inr (List.mem_of_getElem? (i := 129) (by decide +kernel))
    | 13, _, hij => Or.inl (List.mem_of_getElem? (i := 213) (by decide +kernel))
    | 14, _, hij => Or.inl (List.mem_of_getElem? (i := 232) (by decide +kernel))
    | 15, _, hij => Or.inl (List.mem_of_getElem? (i := 252) (by decide +kernel))
    | 16, _, hij => Or.inl (List.mem_of_getElem? (i := 273) (by decide +kernel))
    | 17, _, hij => Or.inl (List.mem_of_getElem? (i := 295) (by decide +kernel))
    | 18, _, hij => Or.inl (List.mem_of_getElem? (i := 318) (by decide +kernel))
    | 19, _, hij => Or.inl (List.mem_of_getElem? (i := 342) (by decide +kernel))
    | j + 20, hj, _ => absurd hj (by omega)
theorem nw_ne6 : ∀ j, j < 20 → 6 ≠ j → Cond.not (.eq (.static "OneVerb$Word" (k_wn.getD 6 "") "LOneVerb$Word;") (.static "OneVerb$Word" (k_wn.getD j "") "LOneVerb$Word;")) ∈ nw_L ∨ Cond.not (.eq (.static "OneVerb$Word" (k_wn.getD j "") "LOneVerb$Word;") (.static "OneVerb$Word" (k_wn.getD 6 "") "LOneVerb$Word;")) ∈ nw_L := fun j hj hij =>
  match j, hj, hij with
    | 0, _, hij => Or.inr (List.mem_of_getElem? (i := 137) (by decide +kernel))
    | 1, _, hij => Or.inr (List.mem_of_getElem? (i := 138) (by decide +kernel))
    | 2, _, hij => Or.inr (List.mem_of_getElem? (i := 139) (by decide +kernel))
    | 3, _, hij => Or.inr (List.mem_of_getElem? (i := 140) (by decide +kernel))
    | 4, _, hij => Or.inr (List.mem_of_getElem? (i := 144) (by decide +kernel))
    | 5, _, hij => Or.inr (List.mem_of_getElem? (i := 145) (by decide +kernel))
    | 6, _, hij => absurd rfl hij
    | 7, _, hij => Or.inl (List.mem_of_getElem? (i := 161) (by decide +kernel))
    | 8, _, hij => Or.inl (List.mem_of_getElem? (i := 177) (by decide +kernel))
    | 9, _, hij => Or.inl (List.mem_of_getElem? (i := 194) (by decide +kernel))
    | 10, _, hij => Or.inr (List.mem_of_getElem? (i := 141) (by decide +kernel))
    | 11, _, hij => Or.inr (List.mem_of_getElem? (i := 142) (by decide +kernel))
    | 12, _, hij => Or.inr (List.mem_of_getElem? (i := 143) (by decide +kernel))
    | 13, _, hij => Or.inl (List.mem_of_getElem? (i := 214) (by decide +kernel))
    | 14, _, hij => Or.inl (List.mem_of_getElem? (i := 233) (by decide +kernel))
    | 15, _, hij => Or.inl (List.mem_of_getElem? (i := 253) (by decide +kernel))
    | 16, _, hij => Or.inl (List.mem_of_getElem? (i := 274) (by decide +kernel))
    | 17, _, hij => Or.inl (List.mem_of_getElem? (i := 296) (by decide +kernel))
    | 18, _, hij => Or.inl (List.mem_of_getElem? (i := 319) (by decide +kernel))
    | 19, _, hij => Or.inl (List.mem_of_getElem? (i := 343) (by decide +kernel))
    | j + 20, hj, _ => absurd hj (by omega)
theorem nw_ne7 : ∀ j, j < 20 → 7 ≠ j → Cond.not (.eq (.static "OneVerb$Word" (k_wn.getD 7 "") "LOneVerb$Word;") (.static "OneVerb$Word" (k_wn.getD j "") "LOneVerb$Word;")) ∈ nw_L ∨ Cond.not (.eq (.static "OneVerb$Word" (k_wn.getD j "") "LOneVerb$Word;") (.static "OneVerb$Word" (k_wn.getD 7 "") "LOneVerb$Word;")) ∈ nw_L := fun j hj hij =>
  match j, hj, hij with
    | 0, _, hij => Or.inr (List.mem_of_getElem? (i := 152) (by decide +kernel))
    | 1, _, hij => Or.inr (List.mem_of_getElem? (i := 153) (by decide +kernel))
    | 2, _, hij => Or.inr (List.mem_of_getElem? (i := 154) (by decide +kernel))
    | 3, _, hij => Or.inr (List.mem_of_getElem? (i := 155) (by decide +kernel))
    | 4, _, hij => Or.inr (List.mem_of_getElem? (i := 159) (by decide +kernel))
    | 5, _, hij => Or.inr (List.mem_of_getElem? (i := 160) (by decide +kernel))
    | 6, _, hij => Or.inr (List.mem_of_getElem? (i := 161) (by decide +kernel))
    | 7, _, hij => absurd rfl hij
    | 8, _, hij => Or.inl (List.mem_of_getElem? (i := 178) (by decide +kernel))
    | 9, _, hij => Or.inl (List.mem_of_getElem? (i := 195) (by decide +kernel))
    | 10, _, hij => Or.inr (List.mem_of_getElem? (i := 156) (by decide +kernel))
    | 11, _, hij => Or.inr (List.mem_of_getElem? (i := 157) (by decide +kernel))
    | 12, _, hij => Or.inr (List.mem_of_getElem? (i := 158) (by decide +kernel))
    | 13, _, hij => Or.inl (List.mem_of_getElem? (i := 215) (by decide +kernel))
    | 14, _, hij => Or.inl (List.mem_of_getElem? (i := 234) (by decide +kernel))
    | 15, _, hij => Or.inl (List.mem_of_getElem? (i := 254) (by decide +kernel))
    | 16, _, hij => Or.inl (List.mem_of_getElem? (i := 275) (by decide +kernel))
    | 17, _, hij => Or.inl (List.mem_of_getElem? (i := 297) (by decide +kernel))
    | 18, _, hij => Or.inl (List.mem_of_getElem? (i := 320) (by decide +kernel))
    | 19, _, hij => Or.inl (List.mem_of_getElem? (i := 344) (by decide +kernel))
    | j + 20, hj, _ => absurd hj (by omega)
theorem nw_ne8 : ∀ j, j < 20 → 8 ≠ j → Cond.not (.eq (.static "OneVerb$Word" (k_wn.getD 8 "") "LOneVerb$Word;") (.static "OneVerb$Word" (k_wn.getD j "") "LOneVerb$Word;")) ∈ nw_L ∨ Cond.not (.eq (.static "OneVerb$Word" (k_wn.getD j "") "LOneVerb$Word;") (.static "OneVerb$Word" (k_wn.getD 8 "") "LOneVerb$Word;")) ∈ nw_L := fun j hj hij =>
  match j, hj, hij with
    | 0, _, hij => Or.inr (List.mem_of_getElem? (i := 168) (by decide +kernel))
    | 1, _, hij => Or.inr (List.mem_of_getElem? (i := 169) (by decide +kernel))
    | 2, _, hij => Or.inr (List.mem_of_getElem? (i := 170) (by decide +kernel))
    | 3, _, hij => Or.inr (List.mem_of_getElem? (i := 171) (by decide +kernel))
    | 4, _, hij => Or.inr (List.mem_of_getElem? (i := 175) (by decide +kernel))
    | 5, _, hij => Or.inr (List.mem_of_getElem? (i := 176) (by decide +kernel))
    | 6, _, hij => Or.inr (List.mem_of_getElem? (i := 177) (by decide +kernel))
    | 7, _, hij => Or.inr (List.mem_of_getElem? (i := 178) (by decide +kernel))
    | 8, _, hij => absurd rfl hij
    | 9, _, hij => Or.inl (List.mem_of_getElem? (i := 196) (by decide +kernel))
    | 10, _, hij => Or.inr (List.mem_of_getElem? (i := 172) (by decide +kernel))
    | 11, _, hij => Or.inr (List.mem_of_getElem? (i := 173) (by decide +kernel))
    | 12, _, hij => Or.inr (List.mem_of_getElem? (i := 174) (by decide +kernel))
    | 13, _, hij => Or.inl (List.mem_of_getElem? (i := 216) (by decide +kernel))
    | 14, _, hij => Or.inl (List.mem_of_getElem? (i := 235) (by decide +kernel))
    | 15, _, hij => Or.inl (List.mem_of_getElem? (i := 255) (by decide +kernel))
    | 16, _, hij => Or.inl (List.mem_of_getElem? (i := 276) (by decide +kernel))
    | 17, _, hij => Or.inl (List.mem_of_getElem? (i := 298) (by decide +kernel))
    | 18, _, hij => Or.inl (List.mem_of_getElem? (i := 321) (by decide +kernel))
    | 19, _, hij => Or.inl (List.mem_of_getElem? (i := 345) (by decide +kernel))
    | j + 20, hj, _ => absurd hj (by omega)
theorem nw_ne9 : ∀ j, j < 20 → 9 ≠ j → Cond.not (.eq (.static "OneVerb$Word" (k_wn.getD 9 "") "LOneVerb$Word;") (.static "OneVerb$Word" (k_wn.getD j "") "LOneVerb$Word;")) ∈ nw_L ∨ Cond.not (.eq (.static "OneVerb$Word" (k_wn.getD j "") "LOneVerb$Word;") (.static "OneVerb$Word" (k_wn.getD 9 "") "LOneVerb$Word;")) ∈ nw_L := fun j hj hij =>
  match j, hj, hij with
    | 0, _, hij => Or.inr (List.mem_of_getElem? (i := 185) (by decide +kernel))
    | 1, _, hij => Or.inr (List.mem_of_getElem? (i := 186) (by decide +kernel))
    | 2, _, hij => Or.inr (List.mem_of_getElem? (i := 187) (by decide +kernel))
    | 3, _, hij => Or.inr (List.mem_of_getElem? (i := 188) (by decide +kernel))
    | 4, _, hij => Or.inr (List.mem_of_getElem? (i := 192) (by decide +kernel))
    | 5, _, hij => Or.inr (List.mem_of_getElem? (i := 193) (by decide +kernel))
    | 6, _, hij => Or.inr (List.mem_of_getElem? (i := 194) (by decide +kernel))
    | 7, _, hij => Or.inr (List.mem_of_getElem? (i := 195) (by decide +kernel))
    | 8, _, hij => Or.inr (List.mem_of_getElem? (i := 196) (by decide +kernel))
    | 9, _, hij => absurd rfl hij
    | 10, _, hij => Or.inr (List.mem_of_getElem? (i := 189) (by decide +kernel))
    | 11, _, hij => Or.inr (List.mem_of_getElem? (i := 190) (by decide +kernel))
    | 12, _, hij => Or.inr (List.mem_of_getElem? (i := 191) (by decide +kernel))
    | 13, _, hij => Or.inl (List.mem_of_getElem? (i := 217) (by decide +kernel))
    | 14, _, hij => Or.inl (List.mem_of_getElem? (i := 236) (by decide +kernel))
    | 15, _, hij => Or.inl (List.mem_of_getElem? (i := 256) (by decide +kernel))
    | 16, _, hij => Or.inl (List.mem_of_getElem? (i := 277) (by decide +kernel))
    | 17, _, hij => Or.inl (List.mem_of_getElem? (i := 299) (by decide +kernel))
    | 18, _, hij => Or.inl (List.mem_of_getElem? (i := 322) (by decide +kernel))
    | 19, _, hij => Or.inl (List.mem_of_getElem? (i := 346) (by decide +kernel))
    | j + 20, hj, _ => absurd hj (by omega)
theorem nw_ne10 : ∀ j, j < 20 → 10 ≠ j → Cond.not (.eq (.static "OneVerb$Word" (k_wn.getD 10 "") "LOneVerb$Word;") (.static "OneVerb$Word" (k_wn.getD j "") "LOneVerb$Word;")) ∈ nw_L ∨ Cond.not (.eq (.static "OneVerb$Word" (k_wn.getD j "") "LOneVerb$Word;") (.static "OneVerb$Word" (k_wn.getD 10 "") "LOneVerb$Word;")) ∈ nw_L := fun j hj hij =>
  match j, hj, hij with
    | 0, _, hij => Or.inr (List.mem_of_getElem? (i := 77) (by decide +kernel))
    | 1, _, hij => Or.inr (List.mem_of_getElem? (i := 78) (by decide +kernel))
    | 2, _, hij => Or.inr (List.mem_of_getElem? (i := 79) (by decide +kernel))
    | 3, _, hij => Or.inr (List.mem_of_getElem? (i := 80) (by decide +kernel))
    | 4, _, hij => Or.inl (List.mem_of_getElem? (i := 114) (by decide +kernel))
    | 5, _, hij => Or.inl (List.mem_of_getElem? (i := 127) (by decide +kernel))
    | 6, _, hij => Or.inl (List.mem_of_getElem? (i := 141) (by decide +kernel))
    | 7, _, hij => Or.inl (List.mem_of_getElem? (i := 156) (by decide +kernel))
    | 8, _, hij => Or.inl (List.mem_of_getElem? (i := 172) (by decide +kernel))
    | 9, _, hij => Or.inl (List.mem_of_getElem? (i := 189) (by decide +kernel))
    | 10, _, hij => absurd rfl hij
    | 11, _, hij => Or.inl (List.mem_of_getElem? (i := 91) (by decide +kernel))
    | 12, _, hij => Or.inl (List.mem_of_getElem? (i := 102) (by decide +kernel))
    | 13, _, hij => Or.inl (List.mem_of_getElem? (i := 209) (by decide +kernel))
    | 14, _, hij => Or.inl (List.mem_of_getElem? (i := 228) (by decide +kernel))
    | 15, _, hij => Or.inl (List.mem_of_getElem? (i := 248) (by decide +kernel))
    | 16, _, hij => Or.inl (List.mem_of_getElem? (i := 269) (by decide +kernel))
    | 17, _, hij => Or.inl (List.mem_of_getElem? (i := 291) (by decide +kernel))
    | 18, _, hij => Or.inl (List.mem_of_getElem? (i := 314) (by decide +kernel))
    | 19, _, hij => Or.inl (List.mem_of_getElem? (i := 338) (by decide +kernel))
    | j + 20, hj, _ => absurd hj (by omega)
theorem nw_ne11 : ∀ j, j < 20 → 11 ≠ j → Cond.not (.eq (.static "OneVerb$Word" (k_wn.getD 11 "") "LOneVerb$Word;") (.static "OneVerb$Word" (k_wn.getD j "") "LOneVerb$Word;")) ∈ nw_L ∨ Cond.not (.eq (.static "OneVerb$Word" (k_wn.getD j "") "LOneVerb$Word;") (.static "OneVerb$Word" (k_wn.getD 11 "") "LOneVerb$Word;")) ∈ nw_L := fun j hj hij =>
  match j, hj, hij with
    | 0, _, hij => Or.inr (List.mem_of_getElem? (i := 87) (by decide +kernel))
    | 1, _, hij => Or.inr (List.mem_of_getElem? (i := 88) (by decide +kernel))
    | 2, _, hij => Or.inr (List.mem_of_getElem? (i := 89) (by decide +kernel))
    | 3, _, hij => Or.inr (List.mem_of_getElem? (i := 90) (by decide +kernel))
    | 4, _, hij => Or.inl (List.mem_of_getElem? (i := 115) (by decide +kernel))
    | 5, _, hij => Or.inl (List.mem_of_getElem? (i := 128) (by decide +kernel))
    | 6, _, hij => Or.inl (List.mem_of_getElem? (i := 142) (by decide +kernel))
    | 7, _, hij => Or.inl (List.mem_of_getElem? (i := 157) (by decide +kernel))
    | 8, _, hij => Or.inl (List.mem_of_getElem? (i := 173) (by decide +kernel))
    | 9, _, hij => Or.inl (List.mem_of_getElem? (i := 190) (by decide +kernel))
    | 10, _, hij => Or.inr (List.mem_of_getElem? (i := 91) (by decide +kernel))
    | 11, _, hij => absurd rfl hij
    | 12, _, hij => Or.inl (List.mem_of_getElem? (i := 103) (by decide +kernel))
    | 13, _, hij => Or.inl (List.mem_of_getElem? (i := 210) (by decide +kernel))
    | 14, _, hij => Or.inl (List.mem_of_getElem? (i := 229) (by decide +kernel))
    | 15, _, hij => Or.inl (List.mem_of_getElem? (i := 249) (by decide +kernel))
    | 16, _, hij => Or.inl (List.mem_of_getElem? (i := 270) (by decide +kernel))
    | 17, _, hij => Or.inl (List.mem_of_getElem? (i := 292) (by decide +kernel))
    | 18, _, hij => Or.inl (List.mem_of_getElem? (i := 315) (by decide +kernel))
    | 19, _, hij => Or.inl (List.mem_of_getElem? (i := 339) (by decide +kernel))
    | j + 20, hj, _ => absurd hj (by omega)
theorem nw_ne12 : ∀ j, j < 20 → 12 ≠ j → Cond.not (.eq (.static "OneVerb$Word" (k_wn.getD 12 "") "LOneVerb$Word;") (.static "OneVerb$Word" (k_wn.getD j "") "LOneVerb$Word;")) ∈ nw_L ∨ Cond.not (.eq (.static "OneVerb$Word" (k_wn.getD j "") "LOneVerb$Word;") (.static "OneVerb$Word" (k_wn.getD 12 "") "LOneVerb$Word;")) ∈ nw_L := fun j hj hij =>
  match j, hj, hij with
    | 0, _, hij => Or.inr (List.mem_of_getElem? (i := 98) (by decide +kernel))
    | 1, _, hij => Or.inr (List.mem_of_getElem? (i := 99) (by decide +kernel))
    | 2, _, hij => Or.inr (List.mem_of_getElem? (i := 100) (by decide +kernel))
    | 3, _, hij => Or.inr (List.mem_of_getElem? (i := 101) (by decide +kernel))
    | 4, _, hij => Or.inl (List.mem_of_getElem? (i := 116) (by decide +kernel))
    | 5, _, hij => Or.inl (List.mem_of_getElem? (i := 129) (by decide +kernel))
    | 6, _, hij => Or.inl (List.mem_of_getElem? (i := 143) (by decide +kernel))
    | 7, _, hij => Or.inl (List.mem_of_getElem? (i := 158) (by decide +kernel))
    | 8, _, hij => Or.inl (List.mem_of_getElem? (i := 174) (by decide +kernel))
    | 9, _, hij => Or.inl (List.mem_of_getElem? (i := 191) (by decide +kernel))
    | 10, _, hij => Or.inr (List.mem_of_getElem? (i := 102) (by decide +kernel))
    | 11, _, hij => Or.inr (List.mem_of_getElem? (i := 103) (by decide +kernel))
    | 12, _, hij => absurd rfl hij
    | 13, _, hij => Or.inl (List.mem_of_getElem? (i := 211) (by decide +kernel))
    | 14, _, hij => Or.inl (List.mem_of_getElem? (i := 230) (by decide +kernel))
    | 15, _, hij => Or.inl (List.mem_of_getElem? (i := 250) (by decide +kernel))
    | 16, _, hij => Or.inl (List.mem_of_getElem? (i := 271) (by decide +kernel))
    | 17, _, hij => Or.inl (List.mem_of_getElem? (i := 293) (by decide +kernel))
    | 18, _, hij => Or.inl (List.mem_of_getElem? (i := 316) (by decide +kernel))
    | 19, _, hij => Or.inl (List.mem_of_getElem? (i := 340) (by decide +kernel))
    | j + 20, hj, _ => absurd hj (by omega)
theorem nw_ne13 : ∀ j, j < 20 → 13 ≠ j → Cond.not (.eq (.static "OneVerb$Word" (k_wn.getD 13 "") "LOneVerb$Word;") (.static "OneVerb$Word" (k_wn.getD j "") "LOneVerb$Word;")) ∈ nw_L ∨ Cond.not (.eq (.static "OneVerb$Word" (k_wn.getD j "") "LOneVerb$Word;") (.static "OneVerb$Word" (k_wn.getD 13 "") "LOneVerb$Word;")) ∈ nw_L := fun j hj hij =>
  match j, hj, hij with
    | 0, _, hij => Or.inr (List.mem_of_getElem? (i := 205) (by decide +kernel))
    | 1, _, hij => Or.inr (List.mem_of_getElem? (i := 206) (by decide +kernel))
    | 2, _, hij => Or.inr (List.mem_of_getElem? (i := 207) (by decide +kernel))
    | 3, _, hij => Or.inr (List.mem_of_getElem? (i := 208) (by decide +kernel))
    | 4, _, hij => Or.inr (List.mem_of_getElem? (i := 212) (by decide +kernel))
    | 5, _, hij => Or.inr (List.mem_of_getElem? (i := 213) (by decide +kernel))
    | 6, _, hij => Or.inr (List.mem_of_getElem? (i := 214) (by decide +kernel))
    | 7, _, hij => Or.inr (List.mem_of_getElem? (i := 215) (by decide +kernel))
    | 8, _, hij => Or.inr (List.mem_of_getElem? (i := 216) (by decide +kernel))
    | 9, _, hij => Or.inr (List.mem_of_getElem? (i := 217) (by decide +kernel))
    | 10, _, hij => Or.inr (List.mem_of_getElem? (i := 209) (by decide +kernel))
    | 11, _, hij => Or.inr (List.mem_of_getElem? (i := 210) (by decide +kernel))
    | 12, _, hij => Or.inr (List.mem_of_getElem? (i := 211) (by decide +kernel))
    | 13, _, hij => absurd rfl hij
    | 14, _, hij => Or.inl (List.mem_of_getElem? (i := 237) (by decide +kernel))
    | 15, _, hij => Or.inl (List.mem_of_getElem? (i := 257) (by decide +kernel))
    | 16, _, hij => Or.inl (List.mem_of_getElem? (i := 278) (by decide +kernel))
    | 17, _, hij => Or.inl (List.mem_of_getElem? (i := 300) (by decide +kernel))
    | 18, _, hij => Or.inl (List.mem_of_getElem? (i := 323) (by decide +kernel))
    | 19, _, hij => Or.inl (List.mem_of_getElem? (i := 347) (by decide +kernel))
    | j + 20, hj, _ => absurd hj (by omega)
theorem nw_ne14 : ∀ j, j < 20 → 14 ≠ j → Cond.not (.eq (.static "OneVerb$Word" (k_wn.getD 14 "") "LOneVerb$Word;") (.static "OneVerb$Word" (k_wn.getD j "") "LOneVerb$Word;")) ∈ nw_L ∨ Cond.not (.eq (.static "OneVerb$Word" (k_wn.getD j "") "LOneVerb$Word;") (.static "OneVerb$Word" (k_wn.getD 14 "") "LOneVerb$Word;")) ∈ nw_L := fun j hj hij =>
  match j, hj, hij with
    | 0, _, hij => Or.inr (List.mem_of_getElem? (i := 224) (by decide +kernel))
    | 1, _, hij => Or.inr (List.mem_of_getElem? (i := 225) (by decide +kernel))
    | 2, _, hij => Or.inr (List.mem_of_getElem? (i := 226) (by decide +kernel))
    | 3, _, hij => Or.inr (List.mem_of_getElem? (i := 227) (by decide +kernel))
    | 4, _, hij => Or.inr (List.mem_of_getElem? (i := 231) (by decide +kernel))
    | 5, _, hij => Or.inr (List.mem_of_getElem? (i := 232) (by decide +kernel))
    | 6, _, hij => Or.inr (List.mem_of_getElem? (i := 233) (by decide +kernel))
    | 7, _, hij => Or.inr (List.mem_of_getElem? (i := 234) (by decide +kernel))
    | 8, _, hij => Or.inr (List.mem_of_getElem? (i := 235) (by decide +kernel))
    | 9, _, hij => Or.inr (List.mem_of_getElem? (i := 236) (by decide +kernel))
    | 10, _, hij => Or.inr (List.mem_of_getElem? (i := 228) (by decide +kernel))
    | 11, _, hij => Or.inr (List.mem_of_getElem? (i := 229) (by decide +kernel))
    | 12, _, hij => Or.inr (List.mem_of_getElem? (i := 230) (by decide +kernel))
    | 13, _, hij => Or.inr (List.mem_of_getElem? (i := 237) (by decide +kernel))
    | 14, _, hij => absurd rfl hij
    | 15, _, hij => Or.inl (List.mem_of_getElem? (i := 258) (by decide +kernel))
    | 16, _, hij => Or.inl (List.mem_of_getElem? (i := 279) (by decide +kernel))
    | 17, _, hij => Or.inl (List.mem_of_getElem? (i := 301) (by decide +kernel))
    | 18, _, hij => Or.inl (List.mem_of_getElem? (i := 324) (by decide +kernel))
    | 19, _, hij => Or.inl (List.mem_of_getElem? (i := 348) (by decide +kernel))
    | j + 20, hj, _ => absurd hj (by omega)
theorem nw_ne15 : ∀ j, j < 20 → 15 ≠ j → Cond.not (.eq (.static "OneVerb$Word" (k_wn.getD 15 "") "LOneVerb$Word;") (.static "OneVerb$Word" (k_wn.getD j "") "LOneVerb$Word;")) ∈ nw_L ∨ Cond.not (.eq (.static "OneVerb$Word" (k_wn.getD j "") "LOneVerb$Word;") (.static "OneVerb$Word" (k_wn.getD 15 "") "LOneVerb$Word;")) ∈ nw_L := fun j hj hij =>
  match j, hj, hij with
    | 0, _, hij => Or.inr (List.mem_of_getElem? (i := 244) (by decide +kernel))
    | 1, _, hij => Or.inr (List.mem_of_getElem? (i := 245) (by decide +kernel))
    | 2, _, hij => Or.inr (List.mem_of_getElem? (i := 246) (by decide +kernel))
    | 3, _, hij => Or.inr (List.mem_of_getElem? (i := 247) (by decide +kernel))
    | 4, _, hij => Or.inr (List.mem_of_getElem? (i := 251) (by decide +kernel))
    | 5, _, hij => Or.inr (List.mem_of_getElem? (i := 252) (by decide +kernel))
    | 6, _, hij => Or.inr (List.mem_of_getElem? (i := 253) (by decide +kernel))
    | 7, _, hij => Or.inr (List.mem_of_getElem? (i := 254) (by decide +kernel))
    | 8, _, hij => Or.inr (List.mem_of_getElem? (i := 255) (by decide +kernel))
    | 9, _, hij => Or.inr (List.mem_of_getElem? (i := 256) (by decide +kernel))
    | 10, _, hij => Or.inr (List.mem_of_getElem? (i := 248) (by decide +kernel))
    | 11, _, hij => Or.inr (List.mem_of_getElem? (i := 249) (by decide +kernel))
    | 12, _, hij => Or.inr (List.mem_of_getElem? (i := 250) (by decide +kernel))
    | 13, _, hij => Or.inr (List.mem_of_getElem? (i := 257) (by decide +kernel))
    | 14, _, hij => Or.inr (List.mem_of_getElem? (i := 258) (by decide +kernel))
    | 15, _, hij => absurd rfl hij
    | 16, _, hij => Or.inl (List.mem_of_getElem? (i := 280) (by decide +kernel))
    | 17, _, hij => Or.inl (List.mem_of_getElem? (i := 302) (by decide +kernel))
    | 18, _, hij => Or.inl (List.mem_of_getElem? (i := 325) (by decide +kernel))
    | 19, _, hij => Or.inl (List.mem_of_getElem? (i := 349) (by decide +kernel))
    | j + 20, hj, _ => absurd hj (by omega)
theorem nw_ne16 : ∀ j, j < 20 → 16 ≠ j → Cond.not (.eq (.static "OneVerb$Word" (k_wn.getD 16 "") "LOneVerb$Word;") (.static "OneVerb$Word" (k_wn.getD j "") "LOneVerb$Word;")) ∈ nw_L ∨ Cond.not (.eq (.static "OneVerb$Word" (k_wn.getD j "") "LOneVerb$Word;") (.static "OneVerb$Word" (k_wn.getD 16 "") "LOneVerb$Word;")) ∈ nw_L := fun j hj hij =>
  match j, hj, hij with
    | 0, _, hij => Or.inr (List.mem_of_getElem? (i := 265) (by decide +kernel))
    | 1, _, hij => Or.inr (List.mem_of_getElem? (i := 266) (by decide +kernel))
    | 2, _, hij => Or.inr (List.mem_of_getElem? (i := 267) (by decide +kernel))
    | 3, _, hij => Or.inr (List.mem_of_getElem? (i := 268) (by decide +kernel))
    | 4, _, hij => Or.inr (List.mem_of_getElem? (i := 272) (by decide +kernel))
    | 5, _, hij => Or.inr (List.mem_of_getElem? (i := 273) (by decide +kernel))
    | 6, _, hij => Or.inr (List.mem_of_getElem? (i := 274) (by decide +kernel))
    | 7, _, hij => Or.inr (List.mem_of_getElem? (i := 275) (by decide +kernel))
    | 8, _, hij => Or.inr (List.mem_of_getElem? (i := 276) (by decide +kernel))
    | 9, _, hij => Or.inr (List.mem_of_getElem? (i := 277) (by decide +kernel))
    | 10, _, hij => Or.inr (List.mem_of_getElem? (i := 269) (by decide +kernel))
    | 11, _, hij => Or.inr (List.mem_of_getElem? (i := 270) (by decide +kernel))
    | 12, _, hij => Or.inr (List.mem_of_getElem? (i := 271) (by decide +kernel))
    | 13, _, hij => Or.inr (List.mem_of_getElem? (i := 278) (by decide +kernel))
    | 14, _, hij => Or.inr (List.mem_of_getElem? (i := 279) (by decide +kernel))
    | 15, _, hij => Or.inr (List.mem_of_getElem? (i := 280) (by decide +kernel))
    | 16, _, hij => absurd rfl hij
    | 17, _, hij => Or.inl (List.mem_of_getElem? (i := 303) (by decide +kernel))
    | 18, _, hij => Or.inl (List.mem_of_getElem? (i := 326) (by decide +kernel))
    | 19, _, hij => Or.inl (List.mem_of_getElem? (i := 350) (by decide +kernel))
    | j + 20, hj, _ => absurd hj (by omega)
theorem nw_ne17 : ∀ j, j < 20 → 17 ≠ j → Cond.not (.eq (.static "OneVerb$Word" (k_wn.getD 17 "") "LOneVerb$Word;") (.static "OneVerb$Word" (k_wn.getD j "") "LOneVerb$Word;")) ∈ nw_L ∨ Cond.not (.eq (.static "OneVerb$Word" (k_wn.getD j "") "LOneVerb$Word;") (.static "OneVerb$Word" (k_wn.getD 17 "") "LOneVerb$Word;")) ∈ nw_L := fun j hj hij =>
  match j, hj, hij with
    | 0, _, hij => Or.inr (List.mem_of_getElem? (i := 287) (by decide +kernel))
    | 1, _, hij => Or.inr (List.mem_of_getElem? (i := 288) (by decide +kernel))
    | 2, _, hij => Or.inr (List.mem_of_getElem? (i := 289) (by decide +kernel))
    | 3, _, hij => Or.inr (List.mem_of_getElem? (i := 290) (by decide +kernel))
    | 4, _, hij => Or.inr (List.mem_of_getElem? (i := 294) (by decide +kernel))
    | 5, _, hij => Or.inr (List.mem_of_getElem? (i := 295) (by decide +kernel))
    | 6, _, hij => Or.inr (List.mem_of_getElem? (i := 296) (by decide +kernel))
    | 7, _, hij => Or.inr (List.mem_of_getElem? (i := 297) (by decide +kernel))
    | 8, _, hij => Or.inr (List.mem_of_getElem? (i := 298) (by decide +kernel))
    | 9, _, hij => Or.inr (List.mem_of_getElem? (i := 299) (by decide +kernel))
    | 10, _, hij => Or.inr (List.mem_of_getElem? (i := 291) (by decide +kernel))
    | 11, _, hij => Or.inr (List.mem_of_getElem? (i := 292) (by decide +kernel))
    | 12, _, hij => Or.inr (List.mem_of_getElem? (i := 293) (by decide +kernel))
    | 13, _, hij => Or.inr (List.mem_of_getElem? (i := 300) (by decide +kernel))
    | 14, _, hij => Or.inr (List.mem_of_getElem? (i := 301) (by decide +kernel))
    | 15, _, hij => Or.inr (List.mem_of_getElem? (i := 302) (by decide +kernel))
    | 16, _, hij => Or.inr (List.mem_of_getElem? (i := 303) (by decide +kernel))
    | 17, _, hij => absurd rfl hij
    | 18, _, hij => Or.inl (List.mem_of_getElem? (i := 327) (by decide +kernel))
    | 19, _, hij => Or.inl (List.mem_of_getElem? (i := 351) (by decide +kernel))
    | j + 20, hj, _ => absurd hj (by omega)
theorem nw_ne18 : ∀ j, j < 20 → 18 ≠ j → Cond.not (.eq (.static "OneVerb$Word" (k_wn.getD 18 "") "LOneVerb$Word;") (.static "OneVerb$Word" (k_wn.getD j "") "LOneVerb$Word;")) ∈ nw_L ∨ Cond.not (.eq (.static "OneVerb$Word" (k_wn.getD j "") "LOneVerb$Word;") (.static "OneVerb$Word" (k_wn.getD 18 "") "LOneVerb$Word;")) ∈ nw_L := fun j hj hij =>
  match j, hj, hij with
    | 0, _, hij => Or.inr (List.mem_of_getElem? (i := 310) (by decide +kernel))
    | 1, _, hij => Or.inr (List.mem_of_getElem? (i := 311) (by decide +kernel))
    | 2, _, hij => Or.inr (List.mem_of_getElem? (i := 312) (by decide +kernel))
    | 3, _, hij => Or.inr (List.mem_of_getElem? (i := 313) (by decide +kernel))
    | 4, _, hij => Or.inr (List.mem_of_getElem? (i := 317) (by decide +kernel))
    | 5, _, hij => Or.inr (List.mem_of_getElem? (i := 318) (by decide +kernel))
    | 6, _, hij => Or.inr (List.mem_of_getElem? (i := 319) (by decide +kernel))
    | 7, _, hij => Or.inr (List.mem_of_getElem? (i := 320) (by decide +kernel))
    | 8, _, hij => Or.inr (List.mem_of_getElem? (i := 321) (by decide +kernel))
    | 9, _, hij => Or.inr (List.mem_of_getElem? (i := 322) (by decide +kernel))
    | 10, _, hij => Or.inr (List.mem_of_getElem? (i := 314) (by decide +kernel))
    | 11, _, hij => Or.inr (List.mem_of_getElem? (i := 315) (by decide +kernel))
    | 12, _, hij => Or.inr (List.mem_of_getElem? (i := 316) (by decide +kernel))
    | 13, _, hij => Or.inr (List.mem_of_getElem? (i := 323) (by decide +kernel))
    | 14, _, hij => Or.inr (List.mem_of_getElem? (i := 324) (by decide +kernel))
    | 15, _, hij => Or.inr (List.mem_of_getElem? (i := 325) (by decide +kernel))
    | 16, _, hij => Or.inr (List.mem_of_getElem? (i := 326) (by decide +kernel))
    | 17, _, hij => Or.inr (List.mem_of_getElem? (i := 327) (by decide +kernel))
    | 18, _, hij => absurd rfl hij
    | 19, _, hij => Or.inl (List.mem_of_getElem? (i := 352) (by decide +kernel))
    | j + 20, hj, _ => absurd hj (by omega)
theorem nw_ne19 : ∀ j, j < 20 → 19 ≠ j → Cond.not (.eq (.static "OneVerb$Word" (k_wn.getD 19 "") "LOneVerb$Word;") (.static "OneVerb$Word" (k_wn.getD j "") "LOneVerb$Word;")) ∈ nw_L ∨ Cond.not (.eq (.static "OneVerb$Word" (k_wn.getD j "") "LOneVerb$Word;") (.static "OneVerb$Word" (k_wn.getD 19 "") "LOneVerb$Word;")) ∈ nw_L := fun j hj hij =>
  match j, hj, hij with
    | 0, _, hij => Or.inr (List.mem_of_getElem? (i := 334) (by decide +kernel))
    | 1, _, hij => Or.inr (List.mem_of_getElem? (i := 335) (by decide +kernel))
    | 2, _, hij => Or.inr (List.mem_of_getElem? (i := 336) (by decide +kernel))
    | 3, _, hij => Or.inr (List.mem_of_getElem? (i := 337) (by decide +kernel))
    | 4, _, hij => Or.inr (List.mem_of_getElem? (i := 341) (by decide +kernel))
    | 5, _, hij => Or.inr (List.mem_of_getElem? (i := 342) (by decide +kernel))
    | 6, _, hij => Or.inr (List.mem_of_getElem? (i := 343) (by decide +kernel))
    | 7, _, hij => Or.inr (List.mem_of_getElem? (i := 344) (by decide +kernel))
    | 8, _, hij => Or.inr (List.mem_of_getElem? (i := 345) (by decide +kernel))
    | 9, _, hij => Or.inr (List.mem_of_getElem? (i := 346) (by decide +kernel))
    | 10, _, hij => Or.inr (List.mem_of_getElem? (i := 338) (by decide +kernel))
    | 11, _, hij => Or.inr (List.mem_of_getElem? (i := 339) (by decide +kernel))
    | 12, _, hij => Or.inr (List.mem_of_getElem? (i := 340) (by decide +kernel))
    | 13, _, hij => Or.inr (List.mem_of_getElem? (i := 347) (by decide +kernel))
    | 14, _, hij => Or.inr (List.mem_of_getElem? (i := 348) (by decide +kernel))
    | 15, _, hij => Or.inr (List.mem_of_getElem? (i := 349) (by decide +kernel))
    | 16, _, hij => Or.inr (List.mem_of_getElem? (i := 350) (by decide +kernel))
    | 17, _, hij => Or.inr (List.mem_of_getElem? (i := 351) (by decide +kernel))
    | 18, _, hij => Or.inr (List.mem_of_getElem? (i := 352) (by decide +kernel))
    | 19, _, hij => absurd rfl hij
    | j + 20, hj, _ => absurd hj (by omega)
theorem nw_ne : ∀ i, i < 20 → ∀ j, j < 20 → i ≠ j → Cond.not (.eq (.static "OneVerb$Word" (k_wn.getD i "") "LOneVerb$Word;") (.static "OneVerb$Word" (k_wn.getD j "") "LOneVerb$Word;")) ∈ nw_L ∨ Cond.not (.eq (.static "OneVerb$Word" (k_wn.getD j "") "LOneVerb$Word;") (.static "OneVerb$Word" (k_wn.getD i "") "LOneVerb$Word;")) ∈ nw_L := fun i hi =>
  match i, hi with
    | 0, _ => nw_ne0
    | 1, _ => nw_ne1
    | 2, _ => nw_ne2
    | 3, _ => nw_ne3
    | 4, _ => nw_ne4
    | 5, _ => nw_ne5
    | 6, _ => nw_ne6
    | 7, _ => nw_ne7
    | 8, _ => nw_ne8
    | 9, _ => nw_ne9
    | 10, _ => nw_ne10
    | 11, _ => nw_ne11
    | 12, _ => nw_ne12
    | 13, _ => nw_ne13
    | 14, _ => nw_ne14
    | 15, _ => nw_ne15
    | 16, _ => nw_ne16
    | 17, _ => nw_ne17
    | 18, _ => nw_ne18
    | 19, _ => nw_ne19
    | i + 20, hi => absurd hi (by omega)
theorem nw_mo : ∀ i, i < 4 → Cond.eq (.elem (.static "OneVerb" "MOST_OF_KIND" "[I") (.int (Int32.ofNat i))) (.int (k_most.getD i 0)) ∈ nw_L := by decide +kernel
theorem nw_sg : ∀ i, i < 8 → Cond.eq (.elem (.field (.string "OneVerb$Tokens" 84) "java/lang/String" "value" "[B") (.int (Int32.ofNat i))) (.int (k_sg.getD i 0)) ∈ nw_L := by decide +kernel
theorem nw_x : ∀ w ∈ ([Cond.eq (.length (.static "OneVerb$Word" "ALL" "[LOneVerb$Word;")) (.int 20), .arrayOf (.static "OneVerb$Word" "ALL" "[LOneVerb$Word;") (.object "OneVerb$Word"), .eq (.static "java/lang/String" "COMPACT_STRINGS" "Z") (.int 1), .eq (.length (.static "OneVerb" "MOST_OF_KIND" "[I")) (.int 4), .arrayOf (.static "OneVerb" "MOST_OF_KIND" "[I") .int, .isRef (.static "java/lang/Throwable" "UNASSIGNED_STACK" "[Ljava/lang/StackTraceElement;"), .isRef (.static "java/lang/Throwable" "SUPPRESSED_SENTINEL" "Ljava/util/List;"), .exactly (.string "OneVerb$Tokens" 84) "java/lang/String", .eq (.field (.string "OneVerb$Tokens" 84) "java/lang/String" "coder" "B") (.int 0), .arrayOf (.field (.string "OneVerb$Tokens" 84) "java/lang/String" "value" "[B") .byte, .eq (.length (.field (.string "OneVerb$Tokens" 84) "java/lang/String" "value" "[B")) (.int 8), .exactly (.string "OneVerb" 270) "java/lang/String"] : List Cond), w ∈ nw_L := by decide +kernel
theorem nw_t : ∀ w ∈ ([Cond.laysStatic "OneVerb$Word" "ALL" "[LOneVerb$Word;", .laysStatic "OneVerb" "MOST_OF_KIND" "[I", .laysStatic "java/lang/String" "COMPACT_STRINGS" "Z", .laysStatic "java/lang/Throwable" "UNASSIGNED_STACK" "[Ljava/lang/StackTraceElement;", .laysStatic "java/lang/Throwable" "SUPPRESSED_SENTINEL" "Ljava/util/List;", .initialized "OneVerb$Word", .initialized "OneVerb", .initialized "java/lang/String", .initialized "java/lang/Throwable", .stringRef "OneVerb$Tokens" 84 "()<=+-*;", .stringRef "OneVerb" 270 "no such choices of the speakers", .arrayClass .char, .arrayClass .int, .arrayClass .long, .arrayClass .boolean, .arrayOver (.object "OneVerb$Book"), .arrayOver (.object "OneVerb$Saying"), .arrayOver (.object "OneVerb$WorldSet")] ++ k_nests ++ k_ew), w ∈ lw_tbl := by decide +kernel
theorem nw_pv : ∀ w ∈ ([Cond.privateMethod ⟨"OneVerb$Tokens", "skipBlanks", "()V"⟩, .privateMethod ⟨"OneVerb$Tokens", "scanWord", "()V"⟩, .privateMethod ⟨"OneVerb$Tokens", "scanNumber", "()V"⟩, .instanceMethod ⟨"OneVerb$Tokens", "skipBlanks", "()V"⟩, .instanceMethod ⟨"OneVerb$Tokens", "scanWord", "()V"⟩, .instanceMethod ⟨"OneVerb$Tokens", "scanNumber", "()V"⟩, .selects "OneVerb$LandReader" ⟨"OneVerb$LandReader", "fail", "(I)Z"⟩ ⟨"OneVerb$Tokens", "fail", "(I)Z"⟩, .selects "OneVerb$SayingReader" ⟨"OneVerb$SayingReader", "fail", "(I)Z"⟩ ⟨"OneVerb$Tokens", "fail", "(I)Z"⟩] : List Cond), w ∈ lw_tbl := by decide +kernel
theorem st_prim {args : Array Value} {s : State} {ty : FieldType} (h : (Cond.arrayClass ty).before args s = true) : ∃ cA : ClassId, ArrOfT s cA ty ∧ s.vm.findClass ("[" ++ ty.toString) = some cA := by
  obtain ⟨cA, kA, comp, hfind, hk, hkind⟩ := Cond.arrayClass_spec h
  exact ⟨cA, fun n z => ⟨fun _ h => (by cases h), kA, hk, comp, hkind⟩, hfind⟩
theorem st_obj {args : Array Value} {s : State} {C : String} (h : (Cond.arrayOver (.object C)).before args s = true) : ∃ cA : ClassId, ArrOfT s cA (.object C) ∧ va_RA s cA (.object C) := by
  obtain ⟨comp, c, k, h1, h2, h3, h4, h5⟩ := Cond.arrayOver_spec h
  exact ⟨c, fun n z => ⟨fun _ h => (by cases h), k, h3, comp, h4⟩, k, comp, h3, h4, h1, h5⟩
theorem st_tbl {args : Array Value} {s : State} (hts : ∀ w ∈ lw_tbl, w.before args s = true) : ∀ w ∈ j_tbl, w.before args s = true := by
  intro w hw
  rcases List.mem_append.mp hw with h | h
  · exact hts w (List.mem_filter.mp h).1
  · have g : ∀ i, ∀ w : Cond, ([Cond.privateMethod ⟨"OneVerb$Tokens", "skipBlanks", "()V"⟩, .privateMethod ⟨"OneVerb$Tokens", "scanWord", "()V"⟩, .privateMethod ⟨"OneVerb$Tokens", "scanNumber", "()V"⟩, .instanceMethod ⟨"OneVerb$Tokens", "skipBlanks", "()V"⟩, .instanceMethod ⟨"OneVerb$Tokens", "scanWord", "()V"⟩, .instanceMethod ⟨"OneVerb$Tokens", "scanNumber", "()V"⟩, .selects "OneVerb$LandReader" ⟨"OneVerb$LandReader", "fail", "(I)Z"⟩ ⟨"OneVerb$Tokens", "fail", "(I)Z"⟩, .selects "OneVerb$SayingReader" ⟨"OneVerb$SayingReader", "fail", "(I)Z"⟩ ⟨"OneVerb$Tokens", "fail", "(I)Z"⟩] : List Cond)[i]? = some w → w.before args s = true := fun i w hi => hts w (nw_pv w (List.mem_of_getElem? hi))
    simp only [j_ext, List.mem_cons, List.not_mem_nil, or_false] at h
    rcases h with rfl | rfl | rfl | rfl | rfl | rfl
    · exact k_selP ⟨by decide +kernel, by decide +kernel⟩ (g 6 _ rfl) rfl (g 0 _ rfl) (g 3 _ rfl)
    · exact k_selP ⟨by decide +kernel, by decide +kernel⟩ (g 7 _ rfl) rfl (g 0 _ rfl) (g 3 _ rfl)
    · exact k_selP ⟨by decide +kernel, by decide +kernel⟩ (g 6 _ rfl) rfl (g 1 _ rfl) (g 4 _ rfl)
    · exact k_selP ⟨by decide +kernel, by decide +kernel⟩ (g 7 _ rfl) rfl (g 1 _ rfl) (g 4 _ rfl)
    · exact k_selP ⟨by decide +kernel, by decide +kernel⟩ (g 6 _ rfl) rfl (g 2 _ rfl) (g 5 _ rfl)
    · exact k_selP ⟨by decide +kernel, by decide +kernel⟩ (g 7 _ rfl) rfl (g 2 _ rfl) (g 5 _ rfl)
theorem st_lt {A : Nat → Prop} {U : State} {H : Heap} {o n d : String} {v : Value} {t : Nat} (h : va_OF o n d v t A U H) : t < H.size := by
  obtain ⟨cf, k, i, f, cell, h1, h2, h3, h4⟩ := h
  exact (Array.getElem?_eq_some_iff.mp h3).1
theorem st_ltT {A : Nat → Prop} {U : State} {H : Heap} {ty : FieldType} {t N : Nat} {f : Nat → Value} (h : va_T ty t N f A U H) : t < H.size := by
  obtain ⟨cell, h1, h2⟩ := h
  exact (Array.getElem?_eq_some_iff.mp h1).1
theorem st_lt1 : ∀ i : Nat, i < 1 → ([8] : List Nat).getD i 0 < 2 ^ 31 := by
  intro i hi
  have : i = 0 := by omega
  subst this
  decide
/-- the constants -/
theorem st_Cs {args : Array Value} {s : State} (b : Nat) (hb : b < s.heap.size) (hts : ∀ w ∈ lw_tbl, w.before args s = true) (hs : ∀ w ∈ nw_L, w.before args s = true) : ∃ ad : Nat → Nat, ad 25 = b ∧ j_Cs s.heap.size ad s := by
  have hA : ∀ a : Nat, a < s.heap.size → ¬ (fun q : Nat => s.heap.size ≤ q) a := fun a h => Nat.not_le.mpr h
  have t : ∀ i, ∀ w : Cond, ([Cond.laysStatic "OneVerb$Word" "ALL" "[LOneVerb$Word;", .laysStatic "OneVerb" "MOST_OF_KIND" "[I", .laysStatic "java/lang/String" "COMPACT_STRINGS" "Z", .laysStatic "java/lang/Throwable" "UNASSIGNED_STACK" "[Ljava/lang/StackTraceElement;", .laysStatic "java/lang/Throwable" "SUPPRESSED_SENTINEL" "Ljava/util/List;", .initialized "OneVerb$Word", .initialized "OneVerb", .initialized "java/lang/String", .initialized "java/lang/Throwable", .stringRef "OneVerb$Tokens" 84 "()<=+-*;", .stringRef "OneVerb" 270 "no such choices of the speakers", .arrayClass .char, .arrayClass .int, .arrayClass .long, .arrayClass .boolean, .arrayOver (.object "OneVerb$Book"), .arrayOver (.object "OneVerb$Saying"), .arrayOver (.object "OneVerb$WorldSet")] ++ k_nests ++ k_ew)[i]? = some w → w.before args s = true := fun i w hi => hts w (nw_t w (List.mem_of_getElem? hi))
  have x : ∀ i, ∀ w : Cond, ([Cond.eq (.length (.static "OneVerb$Word" "ALL" "[LOneVerb$Word;")) (.int 20), .arrayOf (.static "OneVerb$Word" "ALL" "[LOneVerb$Word;") (.object "OneVerb$Word"), .eq (.static "java/lang/String" "COMPACT_STRINGS" "Z") (.int 1), .eq (.length (.static "OneVerb" "MOST_OF_KIND" "[I")) (.int 4), .arrayOf (.static "OneVerb" "MOST_OF_KIND" "[I") .int, .isRef (.static "java/lang/Throwable" "UNASSIGNED_STACK" "[Ljava/lang/StackTraceElement;"), .isRef (.static "java/lang/Throwable" "SUPPRESSED_SENTINEL" "Ljava/util/List;"), .exactly (.string "OneVerb$Tokens" 84) "java/lang/String", .eq (.field (.string "OneVerb$Tokens" 84) "java/lang/String" "coder" "B") (.int 0), .arrayOf (.field (.string "OneVerb$Tokens" 84) "java/lang/String" "value" "[B") .byte, .eq (.length (.field (.string "OneVerb$Tokens" 84) "java/lang/String" "value" "[B")) (.int 8), .exactly (.string "OneVerb" 270) "java/lang/String"] : List Cond)[i]? = some w → w.before args s = true := fun i w hi => hs w (nw_x w (List.mem_of_getElem? hi))
  obtain ⟨ad0, hEn, hev⟩ := va_Enof2 (args := args) (s := s) (E := "OneVerb$Word") (d := "LOneVerb$Word;") (nm := k_wn) (F := [("OneVerb$Word", "reserved", "Z", k_wr), ("OneVerb$Word", "owner", "I", k_wo), ("OneVerb$Word", "fact", "I", k_wf)]) (A := fun q => s.heap.size ≤ q)
    (fun i hi => hts _ (nw_ls i hi)) (t 5 _ rfl) (fun i hi => hs _ (nw_ex i hi)) (fun q hq i hi => by
      simp only [List.mem_cons, List.not_mem_nil, or_false] at hq
      rcases hq with rfl | rfl | rfl
      · exact hs _ (nw_re i hi)
      · exact hs _ (nw_ow i hi)
      · exact hs _ (nw_fa i hi)) (fun i j hi hj hij => (nw_ne i hi j hj hij).elim (fun h => Or.inl (hs _ h)) (fun h => Or.inr (hs _ h))) hA
  have hEl : va_Ef 20 "OneVerb$Word" "letters" "J" (fun i => .long (k_wl.getD i 0)) ad0 (fun q => s.heap.size ≤ q) s s.heap := va_Efof (nm := k_wn) (tm := fun i => .long (k_wl.getD i 0)) hev (fun i hi => hs _ (nw_le i hi)) (fun i hi => rfl) hA
  obtain ⟨tA, hA1, hA2⟩ := va_Tof (tm := .static "OneVerb$Word" "ALL" "[LOneVerb$Word;") (ty := .object "OneVerb$Word") (N := 20) (f := fun j => .ref (ad0 j)) (A := fun q => s.heap.size ≤ q) (by decide) (x 1 _ rfl) (va_eqt (x 0 _ rfl)) (fun j hj => va_eqv (hs _ (nw_el j hj)) (hev j hj)) hA
  obtain ⟨tM, hM1, hM2⟩ := va_Tof (tm := .static "OneVerb" "MOST_OF_KIND" "[I") (ty := .int) (N := 4) (f := fun j => .int (k_most.getD j 0)) (A := fun q => s.heap.size ≤ q) (by decide) (x 4 _ rfl) (va_eqt (x 3 _ rfl)) (fun j hj => va_eqt (hs _ (nw_mo j hj))) hA
  obtain ⟨adK, adV, hSt, hSe⟩ := vk_Sof (args := args) (s := s) (N := 1) (tm := fun _ => .string "OneVerb$Tokens" 84) (len := [8]) (byt := [k_sg]) (A := fun q => s.heap.size ≤ q) st_lt1 (fun i hi => x 7 _ rfl) (fun i hi => x 8 _ rfl) (fun i hi => x 9 _ rfl) (fun i hi => by
      have : i = 0 := by omega
      subst this; exact x 10 _ rfl) (fun i hi j hj => by
      have : i = 0 := by omega
      subst this; exact hs _ (nw_sg j hj)) (fun i j hi hj hij => absurd (by omega : i = j) hij) hA
  obtain ⟨aX, cX, cellX, kX, q1, q2, q3, q4, q5, q6, -⟩ := Cond.exactly_spec (x 11 _ rfl)
  refine ⟨fun j => if j < 20 then ad0 j else if j = 20 then tA else if j = 21 then tM else if j = 22 then adK 0 else if j = 23 then adV 0 else if j = 24 then aX else b, rfl, ⟨⟨fun j hj => ?_, fun i j hi hj h => ?_, ?_, ?_, ?_, ?_, ?_, ?_⟩, ?_, ?_, ?_, ?_, ?_, ?_⟩⟩
  · have h1 := hEn.1 j hj
    simp only [k_W, if_pos hj]
    exact ⟨h1.1, hEl j hj, h1.2.2 _ (List.mem_of_getElem? (i := 0) rfl), h1.2.2 _ (List.mem_of_getElem? (i := 1) rfl), h1.2.2 _ (List.mem_of_getElem? (i := 2) rfl)⟩
  · simp only [if_pos hi, if_pos hj] at h
    exact hEn.2 i j hi hj h
  · exact va_Zof (t 0 _ rfl) (t 5 _ rfl) hA1 hA
  · refine (show va_T (.object "OneVerb$Word") tA 20 (fun j => .ref (ad0 j)) (fun q => s.heap.size ≤ q) s s.heap → _ from fun h => ?_) hA2
    obtain ⟨cell, g1, g2, g3, g4, g5, g6, g7⟩ := h
    exact ⟨cell, g1, g2, g3, g4, g5, fun j hj => by rw [g6 j hj]; simp only [if_pos hj], g7⟩
  · exact va_Zof (t 1 _ rfl) (t 6 _ rfl) hM1 hA
  · exact hM2
  · exact va_Zof (t 2 _ rfl) (t 7 _ rfl) (va_eqt (x 2 _ rfl)) hA
  · refine ⟨fun i hi => ?_, fun i j hi hj _ => by omega⟩
    have : i = 0 := by omega
    subst this
    exact hSt.1 0 (by omega)
  · intro j hj
    by_cases h20 : j < 20
    · simp only [if_pos h20]; exact st_lt (hEl j h20)
    · rcases (show j = 20 ∨ j = 21 ∨ j = 22 ∨ j = 23 ∨ j = 24 by omega) with rfl | rfl | rfl | rfl | rfl
      · exact st_ltT hA2
      · exact st_ltT hM2
      · exact st_lt (hSt.1 0 (by omega)).2.1
      · exact st_ltT (hSt.1 0 (by omega)).2.2.2
      · exact (Array.getElem?_eq_some_iff.mp q3).1
  · exact vk_R.of (t 9 _ rfl) (hSe 0 (by omega))
  · exact vk_R.of (t 10 _ rfl) q1
  · intro w hw
    exact va_tabs (A' := #[]) (by simp only [k_nests, List.mem_cons, List.not_mem_nil, or_false] at hw; rcases hw with rfl | rfl | rfl | rfl | rfl | rfl <;> rfl) rfl (hts w (nw_t w (List.mem_append_left _ (List.mem_append_right _ hw))))
  · refine ⟨fun w hw => va_tabs (A' := #[]) (by simp only [k_ew, List.mem_cons, List.not_mem_nil, or_false] at hw; rcases hw with rfl | rfl | rfl | rfl <;> rfl) rfl (hts w (nw_t w (List.mem_append_right _ hw))), va_AO.of (t 15 _ rfl), va_AO.of (t 16 _ rfl), va_AO.of (t 17 _ rfl)⟩
  · exact ⟨vx_Zqof (t 3 _ rfl) (t 8 _ rfl) (x 5 _ rfl) hA, vx_Zqof (t 4 _ rfl) (t 8 _ rfl) (x 6 _ rfl) hA⟩

theorem st_K {args : Array Value} {s : State} (hts : ∀ w ∈ lw_tbl, w.before args s = true) : ∃ (D : va_G) (cy : Nat → ClassId), va_K D vwCl (m_tys cy) s := by
  have t : ∀ i, ∀ w : Cond, ([Cond.laysStatic "OneVerb$Word" "ALL" "[LOneVerb$Word;", .laysStatic "OneVerb" "MOST_OF_KIND" "[I", .laysStatic "java/lang/String" "COMPACT_STRINGS" "Z", .laysStatic "java/lang/Throwable" "UNASSIGNED_STACK" "[Ljava/lang/StackTraceElement;", .laysStatic "java/lang/Throwable" "SUPPRESSED_SENTINEL" "Ljava/util/List;", .initialized "OneVerb$Word", .initialized "OneVerb", .initialized "java/lang/String", .initialized "java/lang/Throwable", .stringRef "OneVerb$Tokens" 84 "()<=+-*;", .stringRef "OneVerb" 270 "no such choices of the speakers", .arrayClass .char, .arrayClass .int, .arrayClass .long, .arrayClass .boolean, .arrayOver (.object "OneVerb$Book"), .arrayOver (.object "OneVerb$Saying"), .arrayOver (.object "OneVerb$WorldSet")] ++ k_nests ++ k_ew)[i]? = some w → w.before args s = true := fun i w hi => hts w (nw_t w (List.mem_of_getElem? hi))
  obtain ⟨c0, iS0, hKn0⟩ := u_known (C := RX0) (T := TX0) (N := 3) (n := 3) hts i_X0 (hts (.instantiable RX0 3) (List.mem_of_getElem? (i := 478) (by decide +kernel)))
  obtain ⟨c1, iS1, hKn1⟩ := u_known (C := RX1) (T := TX1) (N := 13) (n := 13) hts i_X1 (hts (.instantiable RX1 13) (List.mem_of_getElem? (i := 494) (by decide +kernel)))
  obtain ⟨c2, iS2, hKn2⟩ := u_known (C := RX2) (T := TX2) (N := 12) (n := 12) hts i_X2 (hts (.instantiable RX2 12) (List.mem_of_getElem? (i := 428) (by decide +kernel)))
  obtain ⟨c3, iS3, hKn3⟩ := u_known (C := RX3) (T := TX3) (N := 19) (n := 19) hts i_X3 (hts (.instantiable RX3 19) (List.mem_of_getElem? (i := 176) (by decide +kernel)))
  obtain ⟨c4, iS4, hKn4⟩ := u_known (C := RX4) (T := TX4) (N := 12) (n := 12) hts i_X4 (hts (.instantiable RX4 12) (List.mem_of_getElem? (i := 313) (by decide +kernel)))
  obtain ⟨c5, iS5, hKn5⟩ := u_known (C := RX5) (T := TX5) (N := 2) (n := 2) hts i_X5 (hts (.instantiable RX5 2) (List.mem_of_getElem? (i := 401) (by decide +kernel)))
  obtain ⟨c6, iS6, hKn6⟩ := u_known (C := RX6) (T := TX6) (N := 4) (n := 4) hts i_X6 (hts (.instantiable RX6 4) (List.mem_of_getElem? (i := 1017) (by decide +kernel)))
  obtain ⟨c7, iS7, hKn7⟩ := u_known (C := RX7) (T := TX7) (N := 13) (n := 13) hts i_X7 (hts (.instantiable RX7 13) (List.mem_of_getElem? (i := 375) (by decide +kernel)))
  obtain ⟨c8, iS8, hKn8⟩ := u_known (C := RX10) (T := TX10) (N := 1) (n := 1) hts i_X10 (hts (.instantiable RX10 1) (List.mem_of_getElem? (i := 408) (by decide +kernel)))
  obtain ⟨c9, iS9, hKn9⟩ := u_known (C := RX11) (T := TX11) (N := 16) (n := 16) hts i_X11 (hts (.instantiable RX11 16) (List.mem_of_getElem? (i := 168) (by decide +kernel)))
  obtain ⟨c10, iS10, hKn10⟩ := u_known (C := RX12) (T := TX12) (N := 74) (n := 74) hts i_X12 (hts (.instantiable RX12 74) (List.mem_of_getElem? (i := 1650) (by decide +kernel)))
  obtain ⟨y11, h11⟩ := st_prim (t 11 _ rfl)
  obtain ⟨y12, h12⟩ := st_prim (t 12 _ rfl)
  obtain ⟨y13, h13⟩ := st_prim (t 13 _ rfl)
  obtain ⟨y14, h14⟩ := st_prim (t 14 _ rfl)
  obtain ⟨y15, h15⟩ := st_obj (t 15 _ rfl)
  obtain ⟨y16, h16⟩ := st_obj (t 16 _ rfl)
  obtain ⟨y17, h17⟩ := st_obj (t 17 _ rfl)
  refine ⟨(fun k => match k with
    | 0 => c0 | 1 => c1 | 2 => c2 | 3 => c3 | 4 => c4 | 5 => c5 | 6 => c6 | 7 => c7 | 8 => c8 | 9 => c9 | _ => c10, fun k => match k with
    | 0 => iS0 | 1 => iS1 | 2 => iS2 | 3 => iS3 | 4 => iS4 | 5 => iS5 | 6 => iS6 | 7 => iS7 | 8 => iS8 | 9 => iS9 | _ => iS10), fun k => match k with
    | 11 => y11 | 12 => y12 | 13 => y13 | 14 => y14 | 15 => y15 | 16 => y16 | _ => y17, fun k q hq => ?_, fun k q hq => ?_⟩
  · match k, hq with
    | 0, hq => cases hq; exact hKn0
    | 1, hq => cases hq; exact hKn1
    | 2, hq => cases hq; exact hKn2
    | 3, hq => cases hq; exact hKn3
    | 4, hq => cases hq; exact hKn4
    | 5, hq => cases hq; exact hKn5
    | 6, hq => cases hq; exact hKn6
    | 7, hq => cases hq; exact hKn7
    | 8, hq => cases hq; exact hKn8
    | 9, hq => cases hq; exact hKn9
    | 10, hq => cases hq; exact hKn10
    | k + 11, hq => simp [vwCl] at hq
  · match k, hq with
    | 0, hq => cases hq; exact h11
    | 1, hq => cases hq; exact h12
    | 2, hq => cases hq; exact h13
    | 3, hq => cases hq; exact h14
    | 4, hq => cases hq; exact h15
    | 5, hq => cases hq; exact h16
    | 6, hq => cases hq; exact h17
    | k + 7, hq => simp [m_tys] at hq

def R_law : String := "OneVerbLaw"
def lw_P (b : Addr) (xs : List Int32) (args : Array Value) (s : State) : Prop := args = #[.ref b] ∧ s.IntsAt b xs ∧ xs.length ≤ 3584 ∧ (Jvm.Cond.and given_1 narrow_1).before args s = true
def lw_Q (_ : Array Value) (s : State) (o : Outcome) (t : State) : Prop := o = .returned (some (.int 1)) ∧ Framed s o t [] 601024 7293034
def lw_Z (below : List Frame) (a : Array Value) (s : State) : State → Prop := fun t => ∃ o, t.status = .running ∧ Ended t below o ∧ lw_Q a s o t
/-- the law's own end, with 1 on the stack, nothing written that was there before, its room as the claim has it -/
theorem lw_ret {p : Program} {l : Launch} {e : Env} {s : State} {m : MethodId} {below : List Frame} {meth : Method} {c : Code} {b : Nat} (hx : p.tables.exec = Jvm.exec) (hb : c.code = code) (hr : meth.sig.returnType = ret) (hlocks : meth.locks = false) {pc : Nat} {H : Heap} {ls : Array Slot} (hdg : decode code pc = .ok (.ireturn, 1)) : W p l e room_1 s m #[Value.ref b] below meth c H [] 601024 7293034 (lw_Z below #[Value.ref b] s) (F0 m pc ls [.int 1]) := by
  intro T hT X
  obtain ⟨fs, hret, hrun, hended, hW, hframe⟩ := X.leave (v := some (.int 1)) (hlocks := hlocks) (fun h => by rw [hr] at h; cases h)
  have hmeth' : T.vm.method? m = some meth := X.method'
  refine ⟨T.setFrames fs, ?_, .returned (some (.int 1)), hrun, hended, rfl, ⟨_, rfl⟩, hW, hframe⟩
  jvm_step X.here [X.here.top, hx, hb, hdg, hmeth', hr, ret, narrow_b1]
  (try refine ⟨rfl, ?_⟩); (try refine ⟨rfl, ?_⟩)
  first | (intro acts; rw [hret _ acts rfl rfl rfl]) | rw [hret _ _ rfl rfl rfl]
  exact Steps.refl _
/-- what holds at the law's entry: the machine, the code, the tables' words (any of lw_tbl by 'hts w (by decide +kernel)'), the script of L ints xs at the cell b, what the Statement gives of the start (any of its parts by flat_of_before) -/
def lw_At (p : Program) (s : State) (m : MethodId) (meth : Method) (c : Code) (b L : Nat) (xs : Nat → Int32) : Prop :=
  p.tables.exec = Jvm.exec ∧ c.code = code ∧ meth.sig.returnType = ret ∧ c.maxLocals = 7 ∧ s.vm.findClass R_law = some m.cls ∧ (∀ w ∈ lw_tbl, w.before #[Value.ref b] s = true) ∧ va_X b L xs s s.heap ∧ b < s.heap.size ∧ meth.locks = false ∧ (Jvm.Cond.and given_1 narrow_1).before #[Value.ref b] s = true ∧ meth.name = "law"

/-- the memory at the start: nothing -/
def m_0 : m_M := ((0, fun _ => (99, 0)), fun _ _ => 0, fun _ _ => 0, fun _ _ => none)
theorem law_pure {L : Nat} {xs : Nat → Int32} (hL : L ≤ 3584) (M : m_M) (hM : M = m_0) : m_ok e_I j_ΦL (F_L_law L xs M) := by
  obtain ⟨M', e⟩ := law_some (xs := xs) hL
  have hz : M = m_z := hM.trans rfl
  rw [hz, e]
  rfl
set_option maxHeartbeats 4000000 in
theorem whole_start {p : Program} {e : Env} {s : State} {m : MethodId} {below : List Frame} {meth : Method} {c : Code} (l : Launch) (hflags : l.flags = flags0) {b L : Nat} {xs : Nat → Int32} (hL : L ≤ 3584) (C0 : lw_At p s m meth c b L xs) : W p l e room_1 s m #[Value.ref b] below meth c s.heap [] 0 0 (lw_Z below #[Value.ref b] s) (entryFrame m ([Value.ref b] : List Value).toArray 7) := by
  obtain ⟨hx, hb, hr, hml, hown, hts, hX, hbl, hlocks, hgv, hnm⟩ := id C0
  have hs := flat_of_before _ hgv
  obtain ⟨ad, had, hCs⟩ := st_Cs b hbl hts hs
  obtain ⟨D, cy, hK⟩ := st_K hts
  obtain ⟨M, hM⟩ : ∃ M, M = m_0 := ⟨_, rfl⟩
  have hj := J_L_law (X := (p, l, e, room_1, s, m, #[Value.ref b], below, meth, c, lw_Z below #[Value.ref b] s, D, cy, s.heap.size, ad)) (L := L) (xs := xs)
    ⟨hx, hb, hml, hown, st_tbl hts, hK, Nat.le_refl _, hCs, ⟨by decide, by decide, rfl, rfl⟩, hnm⟩ (by show l.stackTraces = false; unfold Launch.stackTraces; rw [hflags]; decide +kernel) ⟨by rw [had]; exact hbl, by rw [had]; exact hbl, by rw [had]; exact hX⟩ (fun pc lv g M hd hg H locs ls hR hS hl => ?_) M (law_pure hL M hM)
  · have hen := j_entry (m_v_cat s.heap.size ad) [.ref (1000000 + 25)] (n := 7) (Nat.le_of_ble_eq_true rfl)
    have e1 : [Value.ref (1000000 + 25)].map (m_v s.heap.size ad) = [Value.ref b] := by simp only [List.map_cons, List.map_nil, m_v, m_adc, had]
    rw [e1] at hen
    rw [lg_entry_eq]
    exact hj s.heap [] _ (by rw [hM]; exact ⟨rfl, by decide, fun i hi => absurd hi (Nat.not_lt_zero _)⟩) va_S.rf hen
  · refine W.widen hg.1 hg.2 ?_
    refine va_forget hS.2.2 ?_
    exact lw_ret hx hb hr hlocks hd


set_option maxHeartbeats 4000000 in
theorem lw_walk (l : Launch) (hflags : l.flags = flags0) (b : Addr) (xs : List Int32) : MetFree l x (headSpec (Jvm.Cond.code x code maxLocals ret :: tables_1) room_1) (lw_P b xs) (fun _ _ _ _ _ => True) lw_Q := by
  refine MetFree.of_bodyS (code := code) (maxLocals := maxLocals) (ret := ret) (by decide) ?_ ?_
  · intro args s m h hn
    obtain ⟨meth, c, h1, h2, h3, h4, h5, h6, -, -⟩ := Cond.code_spec hn (atoms_spec (ws := Jvm.Cond.code x code maxLocals ret :: tables_1) h _ List.mem_cons_self)
    exact ⟨meth, c, h1, h2, h3, h4, h5, h6⟩
  · intro p e s m args below meth c s₁ B hml0 hP _
    obtain ⟨rfl, hx, hbd, hgv⟩ := hP
    obtain ⟨scr, harrAt, hlist, hof, hsmall⟩ := hx
    obtain ⟨hcb, hkn, -, -⟩ := State.arrayAt?_spec harrAt
    have hown : s.vm.findClass R_law = some m.cls := findClass_of_methodNamed B.named
    have hts0 : ∀ c ∈ (Jvm.Cond.code x code maxLocals ret :: tables_1), c.before #[Value.ref b] s = true := atoms_spec (ws := Jvm.Cond.code x code maxLocals ret :: tables_1) B.pre
    have hts : ∀ w ∈ lw_tbl, w.before #[Value.ref b] s = true := k2_hts_sels lw_privs (fun w hw => hts0 w (List.mem_cons_of_mem _ hw)) lw_privs_ok
    have hml : c.maxLocals = 7 := B.maxLocals_eq (hts0 _ List.mem_cons_self)
    have X₀ : Stand p l e room_1 s m #[Value.ref b] below meth c s₁ [] 0 0 := Stand.of_body B
    have hh0 : s₁.heap = s.heap := by rw [B.state]; rfl
    have hsz : scr.slots.size = xs.length := by rw [← Array.length_toList, hlist, List.length_map]
    have hval : ∀ j : Nat, j < xs.length → scr.slots[j]? = some (.int (xs.getD j 0)) := fun j hj => by
      rw [← Array.getElem?_toList, hlist]
      simp [hj]
    have hbl : b < s.heap.size := (Array.getElem?_eq_some_iff.mp hcb).1
    have hX : va_X b xs.length (fun j => xs.getD j 0) s s.heap := ⟨scr, hcb, hof, hkn, hsz, hval⟩
    have K : W p l e room_1 s m #[Value.ref b] below meth c s₁.heap [] 0 0 (lw_Z below #[Value.ref b] s) (entryFrame m ([Value.ref b] : List Value).toArray 7) := by
      rw [hh0]
      exact whole_start l hflags hbd ⟨B.exec, B.bytes, B.returns, hml, hown, hts, hX, hbl, B.notSynchronized, hgv, (name_of_methodNamed B.named B.method).1⟩
    obtain ⟨t, a1, o, b1, b2, b3⟩ := K s₁ rfl X₀
    exact ⟨t, o, a1, b1, b2, b3⟩
theorem lw_pre_spec {args : Array Value} {s : State} (h : (Jvm.Cond.and given_1 narrow_1).before args s = true) (hr : rest_1_c.before args s = true) : ∃ (b : Addr) (xs : List Int32), lw_P b xs args s := by
  have hs := flat_of_before _ h
  have hq := flat_of_before _ hr
  have hc : (Cond.count 1).before args s = true := hs _ (by decide +kernel)
  have harr : (Cond.arrayOf (.arg 0) .int).before args s = true := hs _ (by decide +kernel)
  have hle : (Cond.le (.length (.arg 0)) (.int 3584)).before args s = true := hs _ (by decide +kernel)
  have hlen : (Cond.isInt (.length (.arg 0))).before args s = true := hq _ (by decide +kernel)
  have hall : (Cond.all (.arg 0) (.isInt (.elem (.arg 0) (.index 0)))).before args s = true := hq _ (by decide +kernel)
  obtain ⟨b, xs, hb, hx⟩ := State.ints_of_pre rfl harr hlen hall
  have hsm : xs.length < 2 ^ 31 := hx.choose_spec.2.2.2
  have hev : (Term.length (.arg 0)).eval args s none [] s = some (.int xs.length.toInt32) := hx.length_eval hb
  have hv := Cond.le_ints hev (show (Term.int 3584).eval args s none [] s = some (.int 3584) from rfl)
  have hd : xs.length.toInt32 ≤ 3584 := by
    simpa [Cond.before, Cond.holds, hv] using hle
  have hN : xs.length ≤ 3584 := (Int32.ofNat_le_ofNat hsm (by decide)).mp (show Int32.ofNat xs.length ≤ Int32.ofNat 3584 from hd)
  exact ⟨b, xs, Cond.one_arg hc (show args[0]? = some (.ref b) from hb), hx, hN, h⟩
theorem lw_comes (l : Launch) (hflags : l.flags = flags0) : Comes l x (Jvm.Cond.code x code maxLocals ret :: tables_1) room_1 (fun tb e args s => Calls_1 tb e args s ∧ rest_1 tb e args s ∧ Pre_1 tb e args s)
    (fun _ _ args s o t => lw_Q args s o t) := by
  intro p e ha hc hk s m args below hf hfit hheap happ hpre
  obtain ⟨b, xs, hP⟩ := lw_pre_spec hpre.2.2 hpre.2.1
  obtain ⟨k, o, h1, h2, h3, hQ⟩ := lw_walk l hflags b xs p e ha hc hk s m args below hf ((Spec.applies_iff_loose hf).mp happ).1 hP trivial
  exact ⟨k, o, h1, h2, h3, hQ⟩
theorem lw_frame {s t : State} {o : Outcome} {args : Array Value} (h : Framed s o t [] 601024 7293034) :
    Framed s o t (fieldLocs frame_1_writes args s ++ arrayLocs frame_1_arrays args s ++ staticLocs frame_1_statics s) 601024 7293034 := h
theorem lw_limb (L : Cond) (hL : ∀ (args : Array Value) (s t : State), L.after args s (.returned (some (.int 1))) t = true) :
    ArmFor flags0 classFile x code maxLocals ret World_1 tables_1 room_1 Calls_1 rest_1 Pre_1
      (fun tb e a s o t => postC L tb e a s o t ∧ Framed s o t (fieldLocs frame_1_writes a s ++ arrayLocs frame_1_arrays a s ++ staticLocs frame_1_statics s) 601024 7293034) := by
  intro l hflags _ _ p e ha hc hk s m args below hf hfit hheap happ hpre
  obtain ⟨k, o, h1, h2, h3, rfl, hF⟩ := lw_comes l hflags p e ha hc hk s m args below hf hfit hheap happ hpre
  exact ⟨k, _, h1, h2, h3, hL args s _, lw_frame hF⟩
theorem i_vc : Claimed_1_1 ∧ Claimed_1_2 := ⟨lw_limb limb_1_1 (fun args s t => by simp [limb_1_1, Cond.after, Cond.holds, Cond.value]), lw_limb limb_1_2 (fun args s t => Cond.after_iff.mpr (by
  first | (rw [show limb_1_2 = Cond.eq .result (.int 1) from rfl, Cond.eq_ints (x := 1) (y := 1) rfl rfl]; simp; done) | (simp [limb_1_2, Cond.value, Term.eval]; done)))⟩

