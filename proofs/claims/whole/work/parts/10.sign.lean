/-! the one method that asks a String -/
def xSign (p0 : Int32) : Int32 := if p0 = 59 then 0 else if p0 = 61 then 1 else if p0 = 43 then 2 else if p0 = 45 then 3 else if p0 = 42 then 4 else if p0 = 47 then 5 else if p0 = 60 then 6 else if p0 = 40 then 7 else if p0 = 41 then 8 else -1
def f_X9_kindBegunBy (p0 : Int32) (_ : xG) : Int32 :=
  if p0 = 9 then 0 else if p0 = 10 then 0 else if p0 = 13 then 0 else if p0 = 32 then 0
  else if ¬ p0 < 97 ∧ ¬ 122 < p0 then 2
  else if ¬ p0 < 48 ∧ ¬ 57 < p0 then 3
  else if xSign (p0.toUInt32 % 65536).toInt32 < 0 then 1
  else 4 + xSign (p0.toUInt32 % 65536).toInt32
theorem c_X9_kindBegunBy {S : List xSh} (hS : xpf SH1 S) {g : xG} {p0 : Int32} (out : Int32) (H : f_X9_kindBegunBy p0 g = out) : xC mX9_kindBegunBy 4 91 0 0 S [.int p0] g S (fun r g' => r = some (.int out) ∧ g' = g) := sorry
