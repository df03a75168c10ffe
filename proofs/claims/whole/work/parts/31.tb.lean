/-! THE STATIC TABLES, as the Statement gives them -/
def tl_FILE_STEP : List Int32 := [0, 0, 1, -1, 1, -1, 1, -1, 1, 2, 2, 1, -1, -2, -2, -1]
def tl_RANK_STEP : List Int32 := [1, -1, 0, 0, 1, 1, -1, -1, 2, 1, -1, -2, -2, -1, 1, 2]
def tl_FIRST_RANK : List Int32 := [4, 2, 3, 5, 6, 3, 2, 4]
def tl_NEAR : List Int32 := [0, 192, 0, 240, 15, 255, 255, 0, 0, 48, 0, 240, 15, 255, 255, 0]
def tl_FAR : List Int32 := [0, 0, 0, 240, 15, 255, 0, 0, 0, 0, 0, 240, 15, 255, 0, 0]
def tl_RIGHTS_AT : List Int32 := [2, 0, 0, 0, 3, 0, 0, 1, 0, 0, 0, 0, 0, 0, 0, 0, 0, 0, 0, 0, 0, 0, 0, 0, 0, 0, 0, 0, 0, 0, 0, 0, 0, 0, 0, 0, 0, 0, 0, 0, 0, 0, 0, 0, 0, 0, 0, 0, 0, 0, 0, 0, 0, 0, 0, 0, 8, 0, 0, 0, 12, 0, 0, 4]
def tl_LETTERS : List Int32 := [32, 80, 78, 66, 82, 81, 75, 32, 32, 112, 110, 98, 114, 113, 107]
def tl_RIGHTS : List Int32 := [75, 81, 107, 113]
def tb_FILE_STEP (j : Nat) : Int32 := tl_FILE_STEP.getD j 0
def tb_RANK_STEP (j : Nat) : Int32 := tl_RANK_STEP.getD j 0
def tb_FIRST_RANK (j : Nat) : Int32 := tl_FIRST_RANK.getD j 0
def tb_NEAR (j : Nat) : Int32 := tl_NEAR.getD j 0
def tb_FAR (j : Nat) : Int32 := tl_FAR.getD j 0
def tb_RIGHTS_AT (j : Nat) : Int32 := tl_RIGHTS_AT.getD j 0
def tb_LETTERS (j : Nat) : Int32 := tl_LETTERS.getD j 0
def tb_RIGHTS (j : Nat) : Int32 := tl_RIGHTS.getD j 0
/-- what nobody writes: the script, the tables, two texts -/
def zl (L : Nat) (xs : Nat → Int32) : List am_C := [.inr (.int, L, .inl xs), .inr (.int, 16, .inl tb_FILE_STEP), .inr (.int, 16, .inl tb_RANK_STEP), .inr (.int, 16, .inl tb_NEAR), .inr (.int, 16, .inl tb_FAR), .inr (.int, 64, .inl tb_RIGHTS_AT), .inr (.int, 8, .inl tb_FIRST_RANK), .inr (.byte, 15, .inl tb_LETTERS), .inr (.byte, 4, .inl tb_RIGHTS)]
