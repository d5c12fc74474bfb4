/-- FIRST_ITEMS, as the Statement gives it -/
def mxFI : List Int32 := [0, 0, 90, 0, 1, 80, 0, 2, 70, 0, 3, 10, 1, 1, 85, 1, 2, 75, 1, 0, 20, 2, 2, 95, 2, 0, 60, 2, 4, 50]
def mxFT : Term := .static RX9 "FIRST_ITEMS" "[I"
/-- the heap of the mini machine at the law's start -/
def mxH0 (xs : List Int32) : mxH := (fun i => if i = 1000000 then (100, xs, []) else if i = 1000001 then (100, mxFI, []) else (300, [], []), 0)
