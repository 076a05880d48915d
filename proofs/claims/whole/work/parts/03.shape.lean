/-! ===== THE WORLD'S SHAPE (made by wip/whole/shape.py out of the constructors): cells in the order in which they are made ===== -/
def NC : Nat := 73
/-- the kind of a cell: the place of its class in vwCl; 100 a row of ints, 101 of booleans -/
def kdL : List Nat := [6, 4, 100, 100, 100, 5, 100, 3, 100, 100, 100, 100, 100, 100, 100, 100, 3, 100, 100, 100, 100, 100, 100, 100, 100, 3, 100, 100, 100, 100, 100, 100, 100, 100, 3, 100, 100, 100, 100, 100, 100, 100, 100, 0, 100, 100, 100, 100, 100, 100, 100, 2, 100, 100, 100, 1, 100, 7, 100, 100, 100, 100, 100, 100, 100, 100, 100, 100, 100, 100, 100, 101, 100]
def kd (k : Nat) : Nat := kdL.getD k 200
def lnL : List Nat := [0, 0, 8, 8, 320, 0, 120, 0, 6, 6, 6, 4, 4, 4, 4, 24, 0, 6, 6, 6, 4, 4, 4, 4, 24, 0, 6, 6, 6, 4, 4, 4, 4, 24, 0, 6, 6, 6, 4, 4, 4, 4, 24, 0, 24, 24, 24, 24, 24, 24, 24, 0, 4, 6, 64, 0, 16, 0, 8, 8, 320, 40, 63, 120, 63, 1512, 6, 4, 64, 64, 126, 2, 16]
def ln (k : Nat) : Nat := lnL.getD k 0
/-- where an object's references lead -/
def rfL : List (List Nat) := [[1, 5, 7, 16, 25, 34, 43, 51, 55, 999, 999], [2, 3, 4], [], [], [], [6, 999, 999, 999], [], [999, 999, 999, 999, 8, 9, 10, 999, 11, 12, 13, 14, 15], [], [], [], [], [], [], [], [], [999, 999, 999, 999, 17, 18, 19, 999, 20, 21, 22, 23, 24], [], [], [], [], [], [], [], [], [999, 999, 999, 999, 26, 27, 28, 999, 29, 30, 31, 32, 33], [], [], [], [], [], [], [], [], [999, 999, 999, 999, 35, 36, 37, 999, 38, 39, 40, 41, 42], [], [], [], [], [], [], [], [], [44, 45, 46, 47, 48, 49, 50, 999, 999], [], [], [], [], [], [], [], [52, 53, 54], [], [], [], [56, 999], [], [58, 59, 60, 999, 61, 62, 63, 999, 999, 999, 999, 999, 64, 999, 65, 66, 67, 68, 69, 70, 71, 72, 999], [], [], [], [], [], [], [], [], [], [], [], [], [], [], []]
def rf (k j : Nat) : Nat := (rfL.getD k []).getD j 999
def nfL : List Nat := [9, 2, 3, 13, 3, 4, 11, 23]
def nf (c : Nat) : Nat := nfL.getD c 0
def irL : List (List Bool) := [[true, true, true, true, true, true, true, false, false], [true, false], [true, true, true], [false, false, false, false, true, true, true, false, true, true, true, true, true], [true, true, true], [true, false, false, false], [true, true, true, true, true, true, true, true, true, false, false], [true, true, true, false, true, true, true, false, false, false, false, false, true, false, true, true, true, true, true, true, true, true, false]]
def ir (c j : Nat) : Bool := (irL.getD c []).getD j false
