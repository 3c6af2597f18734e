/-! ===== constant texts: length, charAt, indexOf (as the tokens use them) ===== -/
/-- the static that the check of an index reads -/
def SZ (X : GX) : Prop := va_Zq "jdk/internal/util/Preconditions" "SIOOBE_FORMATTER" "Ljava/util/function/BiFunction;" (fr X) (xs0 X) (xs0 X).heap
def resB (j : Nat) : Nat := ([102, 97, 99, 116, 32, 116, 111, 32, 99, 108, 97, 117, 115, 101, 32, 97, 116, 32, 109, 117, 115, 116, 32, 119, 104, 101, 110, 32, 110, 101, 101, 100, 115, 32, 98, 97, 114, 115, 32, 115, 97, 121, 115, 32, 114, 101, 102, 32, 100, 97, 121, 32] : List Nat).getD j 0
section STR
variable {X : GX} {h : SH} {nc ns : Nat} {P : Out → SH → Prop}
theorem bkX9_packReserved_7 {a0 : Nat} {y1 : Int64} {x3 x4 : Int32} (g : Gd X mX9_packReserved 14 [some (.ref a0), some (.long y1), none, some (.int x3), some (.int x4)] [.int (nI 52), .int x4] h nc ns P) : Gd X mX9_packReserved 7 [some (.ref a0), some (.long y1), none, some (.int x3), some (.int x4)] [] h nc ns P := by
  sorry
theorem bkX9_packReserved_23 {a0 j : Nat} {y1 : Int64} {x3 : Int32} (hZ : SZ X) (hj : j < 52) (g : Gd X mX9_packReserved 30 [some (.ref a0), some (.long y1), none, some (.int x3), some (.int (nI j))] [.int (nI (resB j))] h nc ns P) : Gd X mX9_packReserved 23 [some (.ref a0), some (.long y1), none, some (.int x3), some (.int (nI j))] [] h nc ns P := by
  sorry
theorem bkX9_packReserved_50 {a0 j : Nat} {y1 : Int64} {x3 : Int32} (hZ : SZ X) (hj : j < 52) (g : Gd X mX9_packReserved 58 [some (.ref a0), none, none, some (.int x3), some (.int (nI j))] [.int (nI (resB j)), .long y1] h nc ns P) : Gd X mX9_packReserved 50 [some (.ref a0), some (.long y1), none, some (.int x3), some (.int (nI j))] [] h nc ns P := by
  sorry
theorem bkX9_cutText_81 {a0 c : Nat} {x1 x2 : Int32} (hc : c ≤ 126) (g : ∀ r : Int32, (0 ≤ r ↔ isSg c = true) → Gd X mX9_cutText 89 [some (.ref a0), some (.int x1), some (.int x2), some (.int (nI c))] [.int r, .ref a0] h nc ns P) : Gd X mX9_cutText 81 [some (.ref a0), some (.int x1), some (.int x2), some (.int (nI c))] [] h nc ns P := by
  sorry
end STR
