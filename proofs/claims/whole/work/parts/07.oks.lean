theorem ok_all {M : Nat} {m : MI} (h : mts[M]? = some m) : okC m = true := sorry
