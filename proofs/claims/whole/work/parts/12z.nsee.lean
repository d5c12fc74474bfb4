/-! 'throw new NoSuchElementException(text)': its constructor links RuntimeException's by another entry than the kit's throwing rows know -/
section MGN
variable {l : Launch} {Z : mxZ} {X : mxX} {own : String} {cc : ByteArray} {nL k n pc : Nat} {ls : List (Option Value)} {st : List Value} {h : mxH}
theorem mG_thNS {ret : Option FieldType} {R0 : Room} (C : mxC l Z X RX9 cc nL) (En : mxEnd Z X ret (.inr "java/util/NoSuchElementException") (mxThr h)) (hX : mxRm X = R0)
    (d0 : decode cc pc = .ok (.new 324, 3)) (d3 : decode cc (pc + 3) = .ok (.dup, 1)) (d4 : decode cc (pc + 4) = .ok (.ldc_w 326, 3)) (d7 : decode cc (pc + 7) = .ok (.invokespecial 328, 3)) (d10 : decode cc (pc + 10) = .ok (.athrow, 1))
    (hF : mxFit R0 { frames := 5, cells := 1, slots := 6, locals := 80 } 2 k n = true) (hW : Nat.ble (st.map fun v => v.category).sum 8 = true) : mG l Z X nL k n pc ls st h := by
  sorry
end MGN
