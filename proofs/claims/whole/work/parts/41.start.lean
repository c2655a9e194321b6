theorem ro_38 {D : va_G} {cy : Nat → ClassId} {h0 g0 : Nat} {u w sk sv : Nat → Nat} {rt sf b : Nat} : rfo (GG0 D cy h0 u g0 w sk sv rt sf b) 38 = some (u 137) := (if_neg (by decide)).trans (congrArg some (rfl : ad0 h0 u g0 w sk sv rt sf b 38 = u 137))
theorem ro_39 {D : va_G} {cy : Nat → ClassId} {h0 g0 : Nat} {u w sk sv : Nat → Nat} {rt sf b : Nat} : rfo (GG0 D cy h0 u g0 w sk sv rt sf b) 39 = some (u 138) := (if_neg (by decide)).trans (congrArg some (rfl : ad0 h0 u g0 w sk sv rt sf b 39 = u 138))
theorem ro_40 {D : va_G} {cy : Nat → ClassId} {h0 g0 : Nat} {u w sk sv : Nat → Nat} {rt sf b : Nat} : rfo (GG0 D cy h0 u g0 w sk sv rt sf b) 40 = some (u 139) := (if_neg (by decide)).trans (congrArg some (rfl : ad0 h0 u g0 w sk sv rt sf b 40 = u 139))
theorem ro_41 {D : va_G} {cy : Nat → ClassId} {h0 g0 : Nat} {u w sk sv : Nat → Nat} {rt sf b : Nat} : rfo (GG0 D cy h0 u g0 w sk sv rt sf b) 41 = some (u 140) := (if_neg (by decide)).trans (congrArg some (rfl : ad0 h0 u g0 w sk sv rt sf b 41 = u 140))
theorem ro_42 {D : va_G} {cy : Nat → ClassId} {h0 g0 : Nat} {u w sk sv : Nat → Nat} {rt sf b : Nat} : rfo (GG0 D cy h0 u g0 w sk sv rt sf b) 42 = some (u 141) := (if_neg (by decide)).trans (congrArg some (rfl : ad0 h0 u g0 w sk sv rt sf b 42 = u 141))
theorem ro_43 {D : va_G} {cy : Nat → ClassId} {h0 g0 : Nat} {u w sk sv : Nat → Nat} {rt sf b : Nat} : rfo (GG0 D cy h0 u g0 w sk sv rt sf b) 43 = some (u 142) := (if_neg (by decide)).trans (congrArg some (rfl : ad0 h0 u g0 w sk sv rt sf b 43 = u 142))
theorem ro_44 {D : va_G} {cy : Nat → ClassId} {h0 g0 : Nat} {u w sk sv : Nat → Nat} {rt sf b : Nat} : rfo (GG0 D cy h0 u g0 w sk sv rt sf b) 44 = some (u 143) := (if_neg (by decide)).trans (congrArg some (rfl : ad0 h0 u g0 w sk sv rt sf b 44 = u 143))
theorem ro_45 {D : va_G} {cy : Nat → ClassId} {h0 g0 : Nat} {u w sk sv : Nat → Nat} {rt sf b : Nat} : rfo (GG0 D cy h0 u g0 w sk sv rt sf b) 45 = some (u 144) := (if_neg (by decide)).trans (congrArg some (rfl : ad0 h0 u g0 w sk sv rt sf b 45 = u 144))
theorem ro_46 {D : va_G} {cy : Nat → ClassId} {h0 g0 : Nat} {u w sk sv : Nat → Nat} {rt sf b : Nat} : rfo (GG0 D cy h0 u g0 w sk sv rt sf b) 46 = some (u 145) := (if_neg (by decide)).trans (congrArg some (rfl : ad0 h0 u g0 w sk sv rt sf b 46 = u 145))
theorem ro_47 {D : va_G} {cy : Nat → ClassId} {h0 g0 : Nat} {u w sk sv : Nat → Nat} {rt sf b : Nat} : rfo (GG0 D cy h0 u g0 w sk sv rt sf b) 47 = some (u 146) := (if_neg (by decide)).trans (congrArg some (rfl : ad0 h0 u g0 w sk sv rt sf b 47 = u 146))
theorem ro_48 {D : va_G} {cy : Nat → ClassId} {h0 g0 : Nat} {u w sk sv : Nat → Nat} {rt sf b : Nat} : rfo (GG0 D cy h0 u g0 w sk sv rt sf b) 48 = some (u 147) := (if_neg (by decide)).trans (congrArg some (rfl : ad0 h0 u g0 w sk sv rt sf b 48 = u 147))
theorem ro_49 {D : va_G} {cy : Nat → ClassId} {h0 g0 : Nat} {u w sk sv : Nat → Nat} {rt sf b : Nat} : rfo (GG0 D cy h0 u g0 w sk sv rt sf b) 49 = some (u 148) := (if_neg (by decide)).trans (congrArg some (rfl : ad0 h0 u g0 w sk sv rt sf b 49 = u 148))
theorem ro_50 {D : va_G} {cy : Nat → ClassId} {h0 g0 : Nat} {u w sk sv : Nat → Nat} {rt sf b : Nat} : rfo (GG0 D cy h0 u g0 w sk sv rt sf b) 50 = some (u 149) := (if_neg (by decide)).trans (congrArg some (rfl : ad0 h0 u g0 w sk sv rt sf b 50 = u 149))
theorem ro_51 {D : va_G} {cy : Nat → ClassId} {h0 g0 : Nat} {u w sk sv : Nat → Nat} {rt sf b : Nat} : rfo (GG0 D cy h0 u g0 w sk sv rt sf b) 51 = some (u 150) := (if_neg (by decide)).trans (congrArg some (rfl : ad0 h0 u g0 w sk sv rt sf b 51 = u 150))
theorem ro_52 {D : va_G} {cy : Nat → ClassId} {h0 g0 : Nat} {u w sk sv : Nat → Nat} {rt sf b : Nat} : rfo (GG0 D cy h0 u g0 w sk sv rt sf b) 52 = some (u 151) := (if_neg (by decide)).trans (congrArg some (rfl : ad0 h0 u g0 w sk sv rt sf b 52 = u 151))
theorem ro_53 {D : va_G} {cy : Nat → ClassId} {h0 g0 : Nat} {u w sk sv : Nat → Nat} {rt sf b : Nat} : rfo (GG0 D cy h0 u g0 w sk sv rt sf b) 53 = some (u 152) := (if_neg (by decide)).trans (congrArg some (rfl : ad0 h0 u g0 w sk sv rt sf b 53 = u 152))
theorem ro_54 {D : va_G} {cy : Nat → ClassId} {h0 g0 : Nat} {u w sk sv : Nat → Nat} {rt sf b : Nat} : rfo (GG0 D cy h0 u g0 w sk sv rt sf b) 54 = some (u 153) := (if_neg (by decide)).trans (congrArg some (rfl : ad0 h0 u g0 w sk sv rt sf b 54 = u 153))
theorem ro_55 {D : va_G} {cy : Nat → ClassId} {h0 g0 : Nat} {u w sk sv : Nat → Nat} {rt sf b : Nat} : rfo (GG0 D cy h0 u g0 w sk sv rt sf b) 55 = some (u 154) := (if_neg (by decide)).trans (congrArg some (rfl : ad0 h0 u g0 w sk sv rt sf b 55 = u 154))
theorem ro_56 {D : va_G} {cy : Nat → ClassId} {h0 g0 : Nat} {u w sk sv : Nat → Nat} {rt sf b : Nat} : rfo (GG0 D cy h0 u g0 w sk sv rt sf b) 56 = some (u 155) := (if_neg (by decide)).trans (congrArg some (rfl : ad0 h0 u g0 w sk sv rt sf b 56 = u 155))
theorem ro_57 {D : va_G} {cy : Nat → ClassId} {h0 g0 : Nat} {u w sk sv : Nat → Nat} {rt sf b : Nat} : rfo (GG0 D cy h0 u g0 w sk sv rt sf b) 57 = some (u 156) := (if_neg (by decide)).trans (congrArg some (rfl : ad0 h0 u g0 w sk sv rt sf b 57 = u 156))
theorem ro_58 {D : va_G} {cy : Nat → ClassId} {h0 g0 : Nat} {u w sk sv : Nat → Nat} {rt sf b : Nat} : rfo (GG0 D cy h0 u g0 w sk sv rt sf b) 58 = some (u 157) := (if_neg (by decide)).trans (congrArg some (rfl : ad0 h0 u g0 w sk sv rt sf b 58 = u 157))
theorem ro_59 {D : va_G} {cy : Nat → ClassId} {h0 g0 : Nat} {u w sk sv : Nat → Nat} {rt sf b : Nat} : rfo (GG0 D cy h0 u g0 w sk sv rt sf b) 59 = some (u 158) := (if_neg (by decide)).trans (congrArg some (rfl : ad0 h0 u g0 w sk sv rt sf b 59 = u 158))
theorem ro_60 {D : va_G} {cy : Nat → ClassId} {h0 g0 : Nat} {u w sk sv : Nat → Nat} {rt sf b : Nat} : rfo (GG0 D cy h0 u g0 w sk sv rt sf b) 60 = some (u 159) := (if_neg (by decide)).trans (congrArg some (rfl : ad0 h0 u g0 w sk sv rt sf b 60 = u 159))
theorem ro_61 {D : va_G} {cy : Nat → ClassId} {h0 g0 : Nat} {u w sk sv : Nat → Nat} {rt sf b : Nat} : rfo (GG0 D cy h0 u g0 w sk sv rt sf b) 61 = some (u 160) := (if_neg (by decide)).trans (congrArg some (rfl : ad0 h0 u g0 w sk sv rt sf b 61 = u 160))
theorem ro_62 {D : va_G} {cy : Nat → ClassId} {h0 g0 : Nat} {u w sk sv : Nat → Nat} {rt sf b : Nat} : rfo (GG0 D cy h0 u g0 w sk sv rt sf b) 62 = some (u 161) := (if_neg (by decide)).trans (congrArg some (rfl : ad0 h0 u g0 w sk sv rt sf b 62 = u 161))
theorem ro_63 {D : va_G} {cy : Nat → ClassId} {h0 g0 : Nat} {u w sk sv : Nat → Nat} {rt sf b : Nat} : rfo (GG0 D cy h0 u g0 w sk sv rt sf b) 63 = some (u 162) := (if_neg (by decide)).trans (congrArg some (rfl : ad0 h0 u g0 w sk sv rt sf b 63 = u 162))
theorem ro_64 {D : va_G} {cy : Nat → ClassId} {h0 g0 : Nat} {u w sk sv : Nat → Nat} {rt sf b : Nat} : rfo (GG0 D cy h0 u g0 w sk sv rt sf b) 64 = some (u 163) := (if_neg (by decide)).trans (congrArg some (rfl : ad0 h0 u g0 w sk sv rt sf b 64 = u 163))
theorem ro_65 {D : va_G} {cy : Nat → ClassId} {h0 g0 : Nat} {u w sk sv : Nat → Nat} {rt sf b : Nat} : rfo (GG0 D cy h0 u g0 w sk sv rt sf b) 65 = some (u 164) := (if_neg (by decide)).trans (congrArg some (rfl : ad0 h0 u g0 w sk sv rt sf b 65 = u 164))
theorem ro_66 {D : va_G} {cy : Nat → ClassId} {h0 g0 : Nat} {u w sk sv : Nat → Nat} {rt sf b : Nat} : rfo (GG0 D cy h0 u g0 w sk sv rt sf b) 66 = some (u 165) := (if_neg (by decide)).trans (congrArg some (rfl : ad0 h0 u g0 w sk sv rt sf b 66 = u 165))
theorem ro_67 {D : va_G} {cy : Nat → ClassId} {h0 g0 : Nat} {u w sk sv : Nat → Nat} {rt sf b : Nat} : rfo (GG0 D cy h0 u g0 w sk sv rt sf b) 67 = some (u 166) := (if_neg (by decide)).trans (congrArg some (rfl : ad0 h0 u g0 w sk sv rt sf b 67 = u 166))
theorem ro_68 {D : va_G} {cy : Nat → ClassId} {h0 g0 : Nat} {u w sk sv : Nat → Nat} {rt sf b : Nat} : rfo (GG0 D cy h0 u g0 w sk sv rt sf b) 68 = some (u 167) := (if_neg (by decide)).trans (congrArg some (rfl : ad0 h0 u g0 w sk sv rt sf b 68 = u 167))
theorem ro_69 {D : va_G} {cy : Nat → ClassId} {h0 g0 : Nat} {u w sk sv : Nat → Nat} {rt sf b : Nat} : rfo (GG0 D cy h0 u g0 w sk sv rt sf b) 69 = some (u 168) := (if_neg (by decide)).trans (congrArg some (rfl : ad0 h0 u g0 w sk sv rt sf b 69 = u 168))
theorem ro_70 {D : va_G} {cy : Nat → ClassId} {h0 g0 : Nat} {u w sk sv : Nat → Nat} {rt sf b : Nat} : rfo (GG0 D cy h0 u g0 w sk sv rt sf b) 70 = some (u 169) := (if_neg (by decide)).trans (congrArg some (rfl : ad0 h0 u g0 w sk sv rt sf b 70 = u 169))
theorem ro_71 {D : va_G} {cy : Nat → ClassId} {h0 g0 : Nat} {u w sk sv : Nat → Nat} {rt sf b : Nat} : rfo (GG0 D cy h0 u g0 w sk sv rt sf b) 71 = some (u 170) := (if_neg (by decide)).trans (congrArg some (rfl : ad0 h0 u g0 w sk sv rt sf b 71 = u 170))
theorem ro_72 {D : va_G} {cy : Nat → ClassId} {h0 g0 : Nat} {u w sk sv : Nat → Nat} {rt sf b : Nat} : rfo (GG0 D cy h0 u g0 w sk sv rt sf b) 72 = some (u 171) := (if_neg (by decide)).trans (congrArg some (rfl : ad0 h0 u g0 w sk sv rt sf b 72 = u 171))
theorem ro_73 {D : va_G} {cy : Nat → ClassId} {h0 g0 : Nat} {u w sk sv : Nat → Nat} {rt sf b : Nat} : rfo (GG0 D cy h0 u g0 w sk sv rt sf b) 73 = some (u 172) := (if_neg (by decide)).trans (congrArg some (rfl : ad0 h0 u g0 w sk sv rt sf b 73 = u 172))
theorem ro_74 {D : va_G} {cy : Nat → ClassId} {h0 g0 : Nat} {u w sk sv : Nat → Nat} {rt sf b : Nat} : rfo (GG0 D cy h0 u g0 w sk sv rt sf b) 74 = some (u 173) := (if_neg (by decide)).trans (congrArg some (rfl : ad0 h0 u g0 w sk sv rt sf b 74 = u 173))
theorem ro_75 {D : va_G} {cy : Nat → ClassId} {h0 g0 : Nat} {u w sk sv : Nat → Nat} {rt sf b : Nat} : rfo (GG0 D cy h0 u g0 w sk sv rt sf b) 75 = some (u 174) := (if_neg (by decide)).trans (congrArg some (rfl : ad0 h0 u g0 w sk sv rt sf b 75 = u 174))
theorem ro_76 {D : va_G} {cy : Nat → ClassId} {h0 g0 : Nat} {u w sk sv : Nat → Nat} {rt sf b : Nat} : rfo (GG0 D cy h0 u g0 w sk sv rt sf b) 76 = some (u 175) := (if_neg (by decide)).trans (congrArg some (rfl : ad0 h0 u g0 w sk sv rt sf b 76 = u 175))
theorem ro_77 {D : va_G} {cy : Nat → ClassId} {h0 g0 : Nat} {u w sk sv : Nat → Nat} {rt sf b : Nat} : rfo (GG0 D cy h0 u g0 w sk sv rt sf b) 77 = some (u 176) := (if_neg (by decide)).trans (congrArg some (rfl : ad0 h0 u g0 w sk sv rt sf b 77 = u 176))
set_option maxRecDepth 20000 in
set_option maxHeartbeats 4000000 in
theorem ax_7 {D : va_G} {cy : Nat → ClassId} {h0 g0 : Nat} {u w sk sv : Nat → Nat} {rt sf b : Nat} : ∀ j, j < 40 → va_rf ((va_up (va_up (va_up (va_up (va_up (va_up (va_up (va_up (va_up (va_up (va_up (va_up (va_up (va_up (va_up (va_up (va_up (va_up (va_up (va_up (va_up (va_up (va_up (va_up (va_up (va_up (va_up (va_up (va_up (va_up (va_up (va_up (va_up (va_up (va_up (va_up (va_up (va_up (va_up (va_up (fun _ => none) 0 (some ((u 137)))) 1 (some ((u 138)))) 2 (some ((u 139)))) 3 (some ((u 140)))) 4 (some ((u 141)))) 5 (some ((u 142)))) 6 (some ((u 143)))) 7 (some ((u 144)))) 8 (some ((u 145)))) 9 (some ((u 146)))) 10 (some ((u 147)))) 11 (some ((u 148)))) 12 (some ((u 149)))) 13 (some ((u 150)))) 14 (some ((u 151)))) 15 (some ((u 152)))) 16 (some ((u 153)))) 17 (some ((u 154)))) 18 (some ((u 155)))) 19 (some ((u 156)))) 20 (some ((u 157)))) 21 (some ((u 158)))) 22 (some ((u 159)))) 23 (some ((u 160)))) 24 (some ((u 161)))) 25 (some ((u 162)))) 26 (some ((u 163)))) 27 (some ((u 164)))) 28 (some ((u 165)))) 29 (some ((u 166)))) 30 (some ((u 167)))) 31 (some ((u 168)))) 32 (some ((u 169)))) 33 (some ((u 170)))) 34 (some ((u 171)))) 35 (some ((u 172)))) 36 (some ((u 173)))) 37 (some ((u 174)))) 38 (some ((u 175)))) 39 (some ((u 176))) : Nat → Option Nat) j) = va_rf (rfo (GG0 D cy h0 u g0 w sk sv rt sf b) (7 + 31 + j)) := by
  intro j hj
  rcases (show j = 0 ∨ j = 1 ∨ j = 2 ∨ j = 3 ∨ j = 4 ∨ j = 5 ∨ j = 6 ∨ j = 7 ∨ j = 8 ∨ j = 9 ∨ j = 10 ∨ j = 11 ∨ j = 12 ∨ j = 13 ∨ j = 14 ∨ j = 15 ∨ j = 16 ∨ j = 17 ∨ j = 18 ∨ j = 19 ∨ j = 20 ∨ j = 21 ∨ j = 22 ∨ j = 23 ∨ j = 24 ∨ j = 25 ∨ j = 26 ∨ j = 27 ∨ j = 28 ∨ j = 29 ∨ j = 30 ∨ j = 31 ∨ j = 32 ∨ j = 33 ∨ j = 34 ∨ j = 35 ∨ j = 36 ∨ j = 37 ∨ j = 38 ∨ j = 39 by omega) with rfl | rfl | rfl | rfl | rfl | rfl | rfl | rfl | rfl | rfl | rfl | rfl | rfl | rfl | rfl | rfl | rfl | rfl | rfl | rfl | rfl | rfl | rfl | rfl | rfl | rfl | rfl | rfl | rfl | rfl | rfl | rfl | rfl | rfl | rfl | rfl | rfl | rfl | rfl | rfl
  · show va_rf (some (u 137)) = va_rf (rfo (GG0 D cy h0 u g0 w sk sv rt sf b) 38)
    rw [ro_38]
  · show va_rf (some (u 138)) = va_rf (rfo (GG0 D cy h0 u g0 w sk sv rt sf b) 39)
    rw [ro_39]
  · show va_rf (some (u 139)) = va_rf (rfo (GG0 D cy h0 u g0 w sk sv rt sf b) 40)
    rw [ro_40]
  · show va_rf (some (u 140)) = va_rf (rfo (GG0 D cy h0 u g0 w sk sv rt sf b) 41)
    rw [ro_41]
  · show va_rf (some (u 141)) = va_rf (rfo (GG0 D cy h0 u g0 w sk sv rt sf b) 42)
    rw [ro_42]
  · show va_rf (some (u 142)) = va_rf (rfo (GG0 D cy h0 u g0 w sk sv rt sf b) 43)
    rw [ro_43]
  · show va_rf (some (u 143)) = va_rf (rfo (GG0 D cy h0 u g0 w sk sv rt sf b) 44)
    rw [ro_44]
  · show va_rf (some (u 144)) = va_rf (rfo (GG0 D cy h0 u g0 w sk sv rt sf b) 45)
    rw [ro_45]
  · show va_rf (some (u 145)) = va_rf (rfo (GG0 D cy h0 u g0 w sk sv rt sf b) 46)
    rw [ro_46]
  · show va_rf (some (u 146)) = va_rf (rfo (GG0 D cy h0 u g0 w sk sv rt sf b) 47)
    rw [ro_47]
  · show va_rf (some (u 147)) = va_rf (rfo (GG0 D cy h0 u g0 w sk sv rt sf b) 48)
    rw [ro_48]
  · show va_rf (some (u 148)) = va_rf (rfo (GG0 D cy h0 u g0 w sk sv rt sf b) 49)
    rw [ro_49]
  · show va_rf (some (u 149)) = va_rf (rfo (GG0 D cy h0 u g0 w sk sv rt sf b) 50)
    rw [ro_50]
  · show va_rf (some (u 150)) = va_rf (rfo (GG0 D cy h0 u g0 w sk sv rt sf b) 51)
    rw [ro_51]
  · show va_rf (some (u 151)) = va_rf (rfo (GG0 D cy h0 u g0 w sk sv rt sf b) 52)
    rw [ro_52]
  · show va_rf (some (u 152)) = va_rf (rfo (GG0 D cy h0 u g0 w sk sv rt sf b) 53)
    rw [ro_53]
  · show va_rf (some (u 153)) = va_rf (rfo (GG0 D cy h0 u g0 w sk sv rt sf b) 54)
    rw [ro_54]
  · show va_rf (some (u 154)) = va_rf (rfo (GG0 D cy h0 u g0 w sk sv rt sf b) 55)
    rw [ro_55]
  · show va_rf (some (u 155)) = va_rf (rfo (GG0 D cy h0 u g0 w sk sv rt sf b) 56)
    rw [ro_56]
  · show va_rf (some (u 156)) = va_rf (rfo (GG0 D cy h0 u g0 w sk sv rt sf b) 57)
    rw [ro_57]
  · show va_rf (some (u 157)) = va_rf (rfo (GG0 D cy h0 u g0 w sk sv rt sf b) 58)
    rw [ro_58]
  · show va_rf (some (u 158)) = va_rf (rfo (GG0 D cy h0 u g0 w sk sv rt sf b) 59)
    rw [ro_59]
  · show va_rf (some (u 159)) = va_rf (rfo (GG0 D cy h0 u g0 w sk sv rt sf b) 60)
    rw [ro_60]
  · show va_rf (some (u 160)) = va_rf (rfo (GG0 D cy h0 u g0 w sk sv rt sf b) 61)
    rw [ro_61]
  · show va_rf (some (u 161)) = va_rf (rfo (GG0 D cy h0 u g0 w sk sv rt sf b) 62)
    rw [ro_62]
  · show va_rf (some (u 162)) = va_rf (rfo (GG0 D cy h0 u g0 w sk sv rt sf b) 63)
    rw [ro_63]
  · show va_rf (some (u 163)) = va_rf (rfo (GG0 D cy h0 u g0 w sk sv rt sf b) 64)
    rw [ro_64]
  · show va_rf (some (u 164)) = va_rf (rfo (GG0 D cy h0 u g0 w sk sv rt sf b) 65)
    rw [ro_65]
  · show va_rf (some (u 165)) = va_rf (rfo (GG0 D cy h0 u g0 w sk sv rt sf b) 66)
    rw [ro_66]
  · show va_rf (some (u 166)) = va_rf (rfo (GG0 D cy h0 u g0 w sk sv rt sf b) 67)
    rw [ro_67]
  · show va_rf (some (u 167)) = va_rf (rfo (GG0 D cy h0 u g0 w sk sv rt sf b) 68)
    rw [ro_68]
  · show va_rf (some (u 168)) = va_rf (rfo (GG0 D cy h0 u g0 w sk sv rt sf b) 69)
    rw [ro_69]
  · show va_rf (some (u 169)) = va_rf (rfo (GG0 D cy h0 u g0 w sk sv rt sf b) 70)
    rw [ro_70]
  · show va_rf (some (u 170)) = va_rf (rfo (GG0 D cy h0 u g0 w sk sv rt sf b) 71)
    rw [ro_71]
  · show va_rf (some (u 171)) = va_rf (rfo (GG0 D cy h0 u g0 w sk sv rt sf b) 72)
    rw [ro_72]
  · show va_rf (some (u 172)) = va_rf (rfo (GG0 D cy h0 u g0 w sk sv rt sf b) 73)
    rw [ro_73]
  · show va_rf (some (u 173)) = va_rf (rfo (GG0 D cy h0 u g0 w sk sv rt sf b) 74)
    rw [ro_74]
  · show va_rf (some (u 174)) = va_rf (rfo (GG0 D cy h0 u g0 w sk sv rt sf b) 75)
    rw [ro_75]
  · show va_rf (some (u 175)) = va_rf (rfo (GG0 D cy h0 u g0 w sk sv rt sf b) 76)
    rw [ro_76]
  · show va_rf (some (u 176)) = va_rf (rfo (GG0 D cy h0 u g0 w sk sv rt sf b) 77)
    rw [ro_77]
set_option maxRecDepth 20000 in
set_option maxHeartbeats 8000000 in
theorem hx_7 {D : va_G} {cy : Nat → ClassId} {h0 g0 : Nat} {u w sk sv : Nat → Nat} {rt sf b : Nat} : vp_cell (cy 6) (40, .inr (.inr (.inr (.inr (va_up (va_up (va_up (va_up (va_up (va_up (va_up (va_up (va_up (va_up (va_up (va_up (va_up (va_up (va_up (va_up (va_up (va_up (va_up (va_up (va_up (va_up (va_up (va_up (va_up (va_up (va_up (va_up (va_up (va_up (va_up (va_up (va_up (va_up (va_up (va_up (va_up (va_up (va_up (va_up (fun _ => none) 0 (some ((u 137)))) 1 (some ((u 138)))) 2 (some ((u 139)))) 3 (some ((u 140)))) 4 (some ((u 141)))) 5 (some ((u 142)))) 6 (some ((u 143)))) 7 (some ((u 144)))) 8 (some ((u 145)))) 9 (some ((u 146)))) 10 (some ((u 147)))) 11 (some ((u 148)))) 12 (some ((u 149)))) 13 (some ((u 150)))) 14 (some ((u 151)))) 15 (some ((u 152)))) 16 (some ((u 153)))) 17 (some ((u 154)))) 18 (some ((u 155)))) 19 (some ((u 156)))) 20 (some ((u 157)))) 21 (some ((u 158)))) 22 (some ((u 159)))) 23 (some ((u 160)))) 24 (some ((u 161)))) 25 (some ((u 162)))) 26 (some ((u 163)))) 27 (some ((u 164)))) 28 (some ((u 165)))) 29 (some ((u 166)))) 30 (some ((u 167)))) 31 (some ((u 168)))) 32 (some ((u 169)))) 33 (some ((u 170)))) 34 (some ((u 171)))) 35 (some ((u 172)))) 36 (some ((u 173)))) 37 (some ((u 174)))) 38 (some ((u 175)))) 39 (some ((u 176)))))))) = vp_cell (cy 6) (40, .inr (.inr (.inr (.inr (fun i => rfo (GG0 D cy h0 u g0 w sk sv rt sf b) (7 + 31 + i)))))) := by
  show arrV (cy 6) 40 (fun j => va_rf ((va_up (va_up (va_up (va_up (va_up (va_up (va_up (va_up (va_up (va_up (va_up (va_up (va_up (va_up (va_up (va_up (va_up (va_up (va_up (va_up (va_up (va_up (va_up (va_up (va_up (va_up (va_up (va_up (va_up (va_up (va_up (va_up (va_up (va_up (va_up (va_up (va_up (va_up (va_up (va_up (fun _ => none) 0 (some ((u 137)))) 1 (some ((u 138)))) 2 (some ((u 139)))) 3 (some ((u 140)))) 4 (some ((u 141)))) 5 (some ((u 142)))) 6 (some ((u 143)))) 7 (some ((u 144)))) 8 (some ((u 145)))) 9 (some ((u 146)))) 10 (some ((u 147)))) 11 (some ((u 148)))) 12 (some ((u 149)))) 13 (some ((u 150)))) 14 (some ((u 151)))) 15 (some ((u 152)))) 16 (some ((u 153)))) 17 (some ((u 154)))) 18 (some ((u 155)))) 19 (some ((u 156)))) 20 (some ((u 157)))) 21 (some ((u 158)))) 22 (some ((u 159)))) 23 (some ((u 160)))) 24 (some ((u 161)))) 25 (some ((u 162)))) 26 (some ((u 163)))) 27 (some ((u 164)))) 28 (some ((u 165)))) 29 (some ((u 166)))) 30 (some ((u 167)))) 31 (some ((u 168)))) 32 (some ((u 169)))) 33 (some ((u 170)))) 34 (some ((u 171)))) 35 (some ((u 172)))) 36 (some ((u 173)))) 37 (some ((u 174)))) 38 (some ((u 175)))) 39 (some ((u 176))) : Nat → Option Nat) j)) = arrV (cy 6) 40 (fun j => va_rf (rfo (GG0 D cy h0 u g0 w sk sv rt sf b) (7 + 31 + j)))
  exact arrV_cg ax_7
set_option maxRecDepth 20000 in
set_option maxHeartbeats 8000000 in
theorem sh_7 {D : va_G} {cy : Nat → ClassId} {h0 g0 : Nat} {u w sk sv : Nat → Nat} {rt sf b : Nat} {H : Heap} (hP : va_P D vwCl (pw_X11_init cy h0 u ++ pw_X12_init cy g0 w) H) : (∃ e, (pw_X11_init cy h0 u ++ pw_X12_init cy g0 w)[136]? = some (ad0 h0 u g0 w sk sv rt sf b 7, e)) ∧ va_at D vwCl (ad0 h0 u g0 w sk sv rt sf b 7, ent (GG0 D cy h0 u g0 w sk sv rt sf b) S0 7) H := at_of2 (Γ := GG0 D cy h0 u g0 w sk sv rt sf b) (cA := cy 6) (x := (40, .inr (.inr (.inr (.inr (va_up (va_up (va_up (va_up (va_up (va_up (va_up (va_up (va_up (va_up (va_up (va_up (va_up (va_up (va_up (va_up (va_up (va_up (va_up (va_up (va_up (va_up (va_up (va_up (va_up (va_up (va_up (va_up (va_up (va_up (va_up (va_up (va_up (va_up (va_up (va_up (va_up (va_up (va_up (va_up (fun _ => none) 0 (some ((u 137)))) 1 (some ((u 138)))) 2 (some ((u 139)))) 3 (some ((u 140)))) 4 (some ((u 141)))) 5 (some ((u 142)))) 6 (some ((u 143)))) 7 (some ((u 144)))) 8 (some ((u 145)))) 9 (some ((u 146)))) 10 (some ((u 147)))) 11 (some ((u 148)))) 12 (some ((u 149)))) 13 (some ((u 150)))) 14 (some ((u 151)))) 15 (some ((u 152)))) 16 (some ((u 153)))) 17 (some ((u 154)))) 18 (some ((u 155)))) 19 (some ((u 156)))) 20 (some ((u 157)))) 21 (some ((u 158)))) 22 (some ((u 159)))) 23 (some ((u 160)))) 24 (some ((u 161)))) 25 (some ((u 162)))) 26 (some ((u 163)))) 27 (some ((u 164)))) 28 (some ((u 165)))) 29 (some ((u 166)))) 30 (some ((u 167)))) 31 (some ((u 168)))) 32 (some ((u 169)))) 33 (some ((u 170)))) 34 (some ((u 171)))) 35 (some ((u 172)))) 36 (some ((u 173)))) 37 (some ((u 174)))) 38 (some ((u 175)))) 39 (some ((u 176))))))))) (y := (40, .inr (.inr (.inr (.inr (fun i => rfo (GG0 D cy h0 u g0 w sk sv rt sf b) (7 + 31 + i))))))) hP rfl rfl (ent_steps _ S0 (rfl : kd 7 = (18, 40))) hx_7
theorem ax_21 : ∀ j, j < 41 → (vp_updL (vp_updL (vp_updL (vp_updL (vp_updL (vp_updL (vp_updL (vp_updL (vp_updL (vp_updL (vp_updL (vp_updL (vp_updL (vp_updL (vp_updL (vp_updL (vp_updL (vp_updL (vp_updL (vp_updL (vp_updL (vp_updL (vp_updL (vp_updL (vp_updL (vp_updL (vp_updL (vp_updL (vp_updL (vp_updL (vp_updL (vp_updL (vp_updL (vp_updL (vp_updL (vp_updL (vp_updL (vp_updL (vp_updL (vp_updL (vp_updL (vp_updL (fun _ => 0) 20 100000) 21 104880) 22 110000) 23 115368) 24 121000) 25 126905) 26 133100) 27 139596) 28 146410) 29 153556) 30 161051) 31 168911) 32 177156) 33 185802) 34 194871) 35 204383) 36 214358) 37 224821) 38 235794) 39 247303) 40 259374) 20 100000) 19 95346) 18 90909) 17 86678) 16 82644) 15 78798) 14 75131) 13 71635) 12 68301) 11 65122) 10 62092) 9 59202) 8 56447) 7 53820) 6 51315) 5 48927) 4 46650) 3 44479) 2 42409) 1 40436) 0 38554 : Nat → Int64) j = gL S0 21 j := by decide +kernel
theorem sh_21 {D : va_G} {cy : Nat → ClassId} {h0 g0 : Nat} {u w sk sv : Nat → Nat} {rt sf b : Nat} {H : Heap} (hP : va_P D vwCl (pw_X11_init cy h0 u ++ pw_X12_init cy g0 w) H) : (∃ e, (pw_X11_init cy h0 u ++ pw_X12_init cy g0 w)[190]? = some (ad0 h0 u g0 w sk sv rt sf b 21, e)) ∧ va_at D vwCl (ad0 h0 u g0 w sk sv rt sf b 21, ent (GG0 D cy h0 u g0 w sk sv rt sf b) S0 21) H := at_of2 (Γ := GG0 D cy h0 u g0 w sk sv rt sf b) (cA := cy 2) (x := (41, .inr (.inl (vp_updL (vp_updL (vp_updL (vp_updL (vp_updL (vp_updL (vp_updL (vp_updL (vp_updL (vp_updL (vp_updL (vp_updL (vp_updL (vp_updL (vp_updL (vp_updL (vp_updL (vp_updL (vp_updL (vp_updL (vp_updL (vp_updL (vp_updL (vp_updL (vp_updL (vp_updL (vp_updL (vp_updL (vp_updL (vp_updL (vp_updL (vp_updL (vp_updL (vp_updL (vp_updL (vp_updL (vp_updL (vp_updL (vp_updL (vp_updL (vp_updL (vp_updL (fun _ => 0) 20 100000) 21 104880) 22 110000) 23 115368) 24 121000) 25 126905) 26 133100) 27 139596) 28 146410) 29 153556) 30 161051) 31 168911) 32 177156) 33 185802) 34 194871) 35 204383) 36 214358) 37 224821) 38 235794) 39 247303) 40 259374) 20 100000) 19 95346) 18 90909) 17 86678) 16 82644) 15 78798) 14 75131) 13 71635) 12 68301) 11 65122) 10 62092) 9 59202) 8 56447) 7 53820) 6 51315) 5 48927) 4 46650) 3 44479) 2 42409) 1 40436) 0 38554)))) hP rfl rfl (ent_long _ S0 (rfl : kd 21 = (14, 41))) (arrV_cg (fun j hj => congrArg Value.long (ax_21 j hj)))
theorem ax_33 : ∀ j, j < 7 → (vp_updL (vp_updL (vp_updL (vp_updL (vp_updL (vp_updL (vp_updL (fun _ => 0) 0 257) 1 11522) 2 841) 3 92275) 4 6476969) 5 240223) 6 10815598 : Nat → Int64) j = gL S0 33 j := by decide +kernel
theorem sh_33 {D : va_G} {cy : Nat → ClassId} {h0 g0 : Nat} {u w sk sv : Nat → Nat} {rt sf b : Nat} {H : Heap} (hP : va_P D vwCl (pw_X11_init cy h0 u ++ pw_X12_init cy g0 w) H) : (∃ e, (pw_X11_init cy h0 u ++ pw_X12_init cy g0 w)[202]? = some (ad0 h0 u g0 w sk sv rt sf b 33, e)) ∧ va_at D vwCl (ad0 h0 u g0 w sk sv rt sf b 33, ent (GG0 D cy h0 u g0 w sk sv rt sf b) S0 33) H := at_of2 (Γ := GG0 D cy h0 u g0 w sk sv rt sf b) (cA := cy 2) (x := (7, .inr (.inl (vp_updL (vp_updL (vp_updL (vp_updL (vp_updL (vp_updL (vp_updL (fun _ => 0) 0 257) 1 11522) 2 841) 3 92275) 4 6476969) 5 240223) 6 10815598)))) hP rfl rfl (ent_long _ S0 (rfl : kd 33 = (14, 7))) (arrV_cg (fun j hj => congrArg Value.long (ax_33 j hj)))
theorem ro_82 {D : va_G} {cy : Nat → ClassId} {h0 g0 : Nat} {u w sk sv : Nat → Nat} {rt sf b : Nat} : rfo (GG0 D cy h0 u g0 w sk sv rt sf b) 82 = some (u 6) := (if_neg (by decide)).trans (congrArg some (rfl : ad0 h0 u g0 w sk sv rt sf b 82 = u 6))
theorem ro_87 {D : va_G} {cy : Nat → ClassId} {h0 g0 : Nat} {u w sk sv : Nat → Nat} {rt sf b : Nat} : rfo (GG0 D cy h0 u g0 w sk sv rt sf b) 87 = some (u 11) := (if_neg (by decide)).trans (congrArg some (rfl : ad0 h0 u g0 w sk sv rt sf b 87 = u 11))
theorem ro_92 {D : va_G} {cy : Nat → ClassId} {h0 g0 : Nat} {u w sk sv : Nat → Nat} {rt sf b : Nat} : rfo (GG0 D cy h0 u g0 w sk sv rt sf b) 92 = some (u 16) := (if_neg (by decide)).trans (congrArg some (rfl : ad0 h0 u g0 w sk sv rt sf b 92 = u 16))
theorem ro_97 {D : va_G} {cy : Nat → ClassId} {h0 g0 : Nat} {u w sk sv : Nat → Nat} {rt sf b : Nat} : rfo (GG0 D cy h0 u g0 w sk sv rt sf b) 97 = some (u 21) := (if_neg (by decide)).trans (congrArg some (rfl : ad0 h0 u g0 w sk sv rt sf b 97 = u 21))
theorem ro_102 {D : va_G} {cy : Nat → ClassId} {h0 g0 : Nat} {u w sk sv : Nat → Nat} {rt sf b : Nat} : rfo (GG0 D cy h0 u g0 w sk sv rt sf b) 102 = some (u 26) := (if_neg (by decide)).trans (congrArg some (rfl : ad0 h0 u g0 w sk sv rt sf b 102 = u 26))
set_option maxRecDepth 20000 in
set_option maxHeartbeats 4000000 in
theorem ax_80 {D : va_G} {cy : Nat → ClassId} {h0 g0 : Nat} {u w sk sv : Nat → Nat} {rt sf b : Nat} : ∀ j, j < 5 → va_rf ((va_up (va_up (va_up (va_up (va_up (fun _ => none) 0 (some ((u 6)))) 1 (some ((u 11)))) 2 (some ((u 16)))) 3 (some ((u 21)))) 4 (some ((u 26))) : Nat → Option Nat) j) = va_rf (rfo (GG0 D cy h0 u g0 w sk sv rt sf b) (80 + 2 + 5 * j)) := by
  intro j hj
  rcases (show j = 0 ∨ j = 1 ∨ j = 2 ∨ j = 3 ∨ j = 4 by omega) with rfl | rfl | rfl | rfl | rfl
  · show va_rf (some (u 6)) = va_rf (rfo (GG0 D cy h0 u g0 w sk sv rt sf b) 82)
    rw [ro_82]
  · show va_rf (some (u 11)) = va_rf (rfo (GG0 D cy h0 u g0 w sk sv rt sf b) 87)
    rw [ro_87]
  · show va_rf (some (u 16)) = va_rf (rfo (GG0 D cy h0 u g0 w sk sv rt sf b) 92)
    rw [ro_92]
  · show va_rf (some (u 21)) = va_rf (rfo (GG0 D cy h0 u g0 w sk sv rt sf b) 97)
    rw [ro_97]
  · show va_rf (some (u 26)) = va_rf (rfo (GG0 D cy h0 u g0 w sk sv rt sf b) 102)
    rw [ro_102]
set_option maxRecDepth 20000 in
set_option maxHeartbeats 8000000 in
theorem hx_80 {D : va_G} {cy : Nat → ClassId} {h0 g0 : Nat} {u w sk sv : Nat → Nat} {rt sf b : Nat} : vp_cell (cy 4) (5, .inr (.inr (.inr (.inr (va_up (va_up (va_up (va_up (va_up (fun _ => none) 0 (some ((u 6)))) 1 (some ((u 11)))) 2 (some ((u 16)))) 3 (some ((u 21)))) 4 (some ((u 26)))))))) = vp_cell (cy 4) (5, .inr (.inr (.inr (.inr (fun i => rfo (GG0 D cy h0 u g0 w sk sv rt sf b) (80 + 2 + 5 * i)))))) := by
  show arrV (cy 4) 5 (fun j => va_rf ((va_up (va_up (va_up (va_up (va_up (fun _ => none) 0 (some ((u 6)))) 1 (some ((u 11)))) 2 (some ((u 16)))) 3 (some ((u 21)))) 4 (some ((u 26))) : Nat → Option Nat) j)) = arrV (cy 4) 5 (fun j => va_rf (rfo (GG0 D cy h0 u g0 w sk sv rt sf b) (80 + 2 + 5 * j)))
  exact arrV_cg ax_80
set_option maxRecDepth 20000 in
set_option maxHeartbeats 8000000 in
theorem sh_80 {D : va_G} {cy : Nat → ClassId} {h0 g0 : Nat} {u w sk sv : Nat → Nat} {rt sf b : Nat} {H : Heap} (hP : va_P D vwCl (pw_X11_init cy h0 u ++ pw_X12_init cy g0 w) H) : (∃ e, (pw_X11_init cy h0 u ++ pw_X12_init cy g0 w)[5]? = some (ad0 h0 u g0 w sk sv rt sf b 80, e)) ∧ va_at D vwCl (ad0 h0 u g0 w sk sv rt sf b 80, ent (GG0 D cy h0 u g0 w sk sv rt sf b) S0 80) H := at_of2 (Γ := GG0 D cy h0 u g0 w sk sv rt sf b) (cA := cy 4) (x := (5, .inr (.inr (.inr (.inr (va_up (va_up (va_up (va_up (va_up (fun _ => none) 0 (some ((u 6)))) 1 (some ((u 11)))) 2 (some ((u 16)))) 3 (some ((u 21)))) 4 (some ((u 26))))))))) (y := (5, .inr (.inr (.inr (.inr (fun i => rfo (GG0 D cy h0 u g0 w sk sv rt sf b) (80 + 2 + 5 * i))))))) hP rfl rfl (ent_pools _ S0 (rfl : kd 80 = (16, 5))) hx_80
theorem ro_107 {D : va_G} {cy : Nat → ClassId} {h0 g0 : Nat} {u w sk sv : Nat → Nat} {rt sf b : Nat} : rfo (GG0 D cy h0 u g0 w sk sv rt sf b) 107 = some (u 32) := (if_neg (by decide)).trans (congrArg some (rfl : ad0 h0 u g0 w sk sv rt sf b 107 = u 32))
theorem ro_110 {D : va_G} {cy : Nat → ClassId} {h0 g0 : Nat} {u w sk sv : Nat → Nat} {rt sf b : Nat} : rfo (GG0 D cy h0 u g0 w sk sv rt sf b) 110 = some (u 35) := (if_neg (by decide)).trans (congrArg some (rfl : ad0 h0 u g0 w sk sv rt sf b 110 = u 35))
theorem ro_113 {D : va_G} {cy : Nat → ClassId} {h0 g0 : Nat} {u w sk sv : Nat → Nat} {rt sf b : Nat} : rfo (GG0 D cy h0 u g0 w sk sv rt sf b) 113 = some (u 38) := (if_neg (by decide)).trans (congrArg some (rfl : ad0 h0 u g0 w sk sv rt sf b 113 = u 38))
theorem ro_116 {D : va_G} {cy : Nat → ClassId} {h0 g0 : Nat} {u w sk sv : Nat → Nat} {rt sf b : Nat} : rfo (GG0 D cy h0 u g0 w sk sv rt sf b) 116 = some (u 41) := (if_neg (by decide)).trans (congrArg some (rfl : ad0 h0 u g0 w sk sv rt sf b 116 = u 41))
theorem ro_119 {D : va_G} {cy : Nat → ClassId} {h0 g0 : Nat} {u w sk sv : Nat → Nat} {rt sf b : Nat} : rfo (GG0 D cy h0 u g0 w sk sv rt sf b) 119 = some (u 44) := (if_neg (by decide)).trans (congrArg some (rfl : ad0 h0 u g0 w sk sv rt sf b 119 = u 44))
theorem ro_122 {D : va_G} {cy : Nat → ClassId} {h0 g0 : Nat} {u w sk sv : Nat → Nat} {rt sf b : Nat} : rfo (GG0 D cy h0 u g0 w sk sv rt sf b) 122 = some (u 47) := (if_neg (by decide)).trans (congrArg some (rfl : ad0 h0 u g0 w sk sv rt sf b 122 = u 47))
theorem ro_125 {D : va_G} {cy : Nat → ClassId} {h0 g0 : Nat} {u w sk sv : Nat → Nat} {rt sf b : Nat} : rfo (GG0 D cy h0 u g0 w sk sv rt sf b) 125 = some (u 50) := (if_neg (by decide)).trans (congrArg some (rfl : ad0 h0 u g0 w sk sv rt sf b 125 = u 50))
theorem ro_128 {D : va_G} {cy : Nat → ClassId} {h0 g0 : Nat} {u w sk sv : Nat → Nat} {rt sf b : Nat} : rfo (GG0 D cy h0 u g0 w sk sv rt sf b) 128 = some (u 53) := (if_neg (by decide)).trans (congrArg some (rfl : ad0 h0 u g0 w sk sv rt sf b 128 = u 53))
theorem ro_131 {D : va_G} {cy : Nat → ClassId} {h0 g0 : Nat} {u w sk sv : Nat → Nat} {rt sf b : Nat} : rfo (GG0 D cy h0 u g0 w sk sv rt sf b) 131 = some (u 56) := (if_neg (by decide)).trans (congrArg some (rfl : ad0 h0 u g0 w sk sv rt sf b 131 = u 56))
theorem ro_134 {D : va_G} {cy : Nat → ClassId} {h0 g0 : Nat} {u w sk sv : Nat → Nat} {rt sf b : Nat} : rfo (GG0 D cy h0 u g0 w sk sv rt sf b) 134 = some (u 59) := (if_neg (by decide)).trans (congrArg some (rfl : ad0 h0 u g0 w sk sv rt sf b 134 = u 59))
theorem ro_137 {D : va_G} {cy : Nat → ClassId} {h0 g0 : Nat} {u w sk sv : Nat → Nat} {rt sf b : Nat} : rfo (GG0 D cy h0 u g0 w sk sv rt sf b) 137 = some (u 62) := (if_neg (by decide)).trans (congrArg some (rfl : ad0 h0 u g0 w sk sv rt sf b 137 = u 62))
theorem ro_140 {D : va_G} {cy : Nat → ClassId} {h0 g0 : Nat} {u w sk sv : Nat → Nat} {rt sf b : Nat} : rfo (GG0 D cy h0 u g0 w sk sv rt sf b) 140 = some (u 65) := (if_neg (by decide)).trans (congrArg some (rfl : ad0 h0 u g0 w sk sv rt sf b 140 = u 65))
set_option maxRecDepth 20000 in
set_option maxHeartbeats 4000000 in
theorem ax_81 {D : va_G} {cy : Nat → ClassId} {h0 g0 : Nat} {u w sk sv : Nat → Nat} {rt sf b : Nat} : ∀ j, j < 12 → va_rf ((va_up (va_up (va_up (va_up (va_up (va_up (va_up (va_up (va_up (va_up (va_up (va_up (fun _ => none) 0 (some ((u 32)))) 1 (some ((u 35)))) 2 (some ((u 38)))) 3 (some ((u 41)))) 4 (some ((u 44)))) 5 (some ((u 47)))) 6 (some ((u 50)))) 7 (some ((u 53)))) 8 (some ((u 56)))) 9 (some ((u 59)))) 10 (some ((u 62)))) 11 (some ((u 65))) : Nat → Option Nat) j) = va_rf (rfo (GG0 D cy h0 u g0 w sk sv rt sf b) (gR S0 81 j)) := by
  intro j hj
  rcases (show j = 0 ∨ j = 1 ∨ j = 2 ∨ j = 3 ∨ j = 4 ∨ j = 5 ∨ j = 6 ∨ j = 7 ∨ j = 8 ∨ j = 9 ∨ j = 10 ∨ j = 11 by omega) with rfl | rfl | rfl | rfl | rfl | rfl | rfl | rfl | rfl | rfl | rfl | rfl
  · show va_rf (some (u 32)) = va_rf (rfo (GG0 D cy h0 u g0 w sk sv rt sf b) 107)
    rw [ro_107]
  · show va_rf (some (u 35)) = va_rf (rfo (GG0 D cy h0 u g0 w sk sv rt sf b) 110)
    rw [ro_110]
  · show va_rf (some (u 38)) = va_rf (rfo (GG0 D cy h0 u g0 w sk sv rt sf b) 113)
    rw [ro_113]
  · show va_rf (some (u 41)) = va_rf (rfo (GG0 D cy h0 u g0 w sk sv rt sf b) 116)
    rw [ro_116]
  · show va_rf (some (u 44)) = va_rf (rfo (GG0 D cy h0 u g0 w sk sv rt sf b) 119)
    rw [ro_119]
  · show va_rf (some (u 47)) = va_rf (rfo (GG0 D cy h0 u g0 w sk sv rt sf b) 122)
    rw [ro_122]
  · show va_rf (some (u 50)) = va_rf (rfo (GG0 D cy h0 u g0 w sk sv rt sf b) 125)
    rw [ro_125]
  · show va_rf (some (u 53)) = va_rf (rfo (GG0 D cy h0 u g0 w sk sv rt sf b) 128)
    rw [ro_128]
  · show va_rf (some (u 56)) = va_rf (rfo (GG0 D cy h0 u g0 w sk sv rt sf b) 131)
    rw [ro_131]
  · show va_rf (some (u 59)) = va_rf (rfo (GG0 D cy h0 u g0 w sk sv rt sf b) 134)
    rw [ro_134]
  · show va_rf (some (u 62)) = va_rf (rfo (GG0 D cy h0 u g0 w sk sv rt sf b) 137)
    rw [ro_137]
  · show va_rf (some (u 65)) = va_rf (rfo (GG0 D cy h0 u g0 w sk sv rt sf b) 140)
    rw [ro_140]
set_option maxRecDepth 20000 in
set_option maxHeartbeats 8000000 in
theorem hx_81 {D : va_G} {cy : Nat → ClassId} {h0 g0 : Nat} {u w sk sv : Nat → Nat} {rt sf b : Nat} : vp_cell (cy 5) (12, .inr (.inr (.inr (.inr (va_up (va_up (va_up (va_up (va_up (va_up (va_up (va_up (va_up (va_up (va_up (va_up (fun _ => none) 0 (some ((u 32)))) 1 (some ((u 35)))) 2 (some ((u 38)))) 3 (some ((u 41)))) 4 (some ((u 44)))) 5 (some ((u 47)))) 6 (some ((u 50)))) 7 (some ((u 53)))) 8 (some ((u 56)))) 9 (some ((u 59)))) 10 (some ((u 62)))) 11 (some ((u 65)))))))) = vp_cell (cy 5) (12, .inr (.inr (.inr (.inr (fun i => rfo (GG0 D cy h0 u g0 w sk sv rt sf b) (gR S0 81 i)))))) := by
  show arrV (cy 5) 12 (fun j => va_rf ((va_up (va_up (va_up (va_up (va_up (va_up (va_up (va_up (va_up (va_up (va_up (va_up (fun _ => none) 0 (some ((u 32)))) 1 (some ((u 35)))) 2 (some ((u 38)))) 3 (some ((u 41)))) 4 (some ((u 44)))) 5 (some ((u 47)))) 6 (some ((u 50)))) 7 (some ((u 53)))) 8 (some ((u 56)))) 9 (some ((u 59)))) 10 (some ((u 62)))) 11 (some ((u 65))) : Nat → Option Nat) j)) = arrV (cy 5) 12 (fun j => va_rf (rfo (GG0 D cy h0 u g0 w sk sv rt sf b) (gR S0 81 j)))
  exact arrV_cg ax_81
set_option maxRecDepth 20000 in
set_option maxHeartbeats 8000000 in
theorem sh_81 {D : va_G} {cy : Nat → ClassId} {h0 g0 : Nat} {u w sk sv : Nat → Nat} {rt sf b : Nat} {H : Heap} (hP : va_P D vwCl (pw_X11_init cy h0 u ++ pw_X12_init cy g0 w) H) : (∃ e, (pw_X11_init cy h0 u ++ pw_X12_init cy g0 w)[31]? = some (ad0 h0 u g0 w sk sv rt sf b 81, e)) ∧ va_at D vwCl (ad0 h0 u g0 w sk sv rt sf b 81, ent (GG0 D cy h0 u g0 w sk sv rt sf b) S0 81) H := at_of2 (Γ := GG0 D cy h0 u g0 w sk sv rt sf b) (cA := cy 5) (x := (12, .inr (.inr (.inr (.inr (va_up (va_up (va_up (va_up (va_up (va_up (va_up (va_up (va_up (va_up (va_up (va_up (fun _ => none) 0 (some ((u 32)))) 1 (some ((u 35)))) 2 (some ((u 38)))) 3 (some ((u 41)))) 4 (some ((u 44)))) 5 (some ((u 47)))) 6 (some ((u 50)))) 7 (some ((u 53)))) 8 (some ((u 56)))) 9 (some ((u 59)))) 10 (some ((u 62)))) 11 (some ((u 65))))))))) (y := (12, .inr (.inr (.inr (.inr (fun i => rfo (GG0 D cy h0 u g0 w sk sv rt sf b) (gR S0 81 i))))))) hP rfl rfl (ent_stakes _ S0 (rfl : kd 81 = (17, 12))) hx_81
theorem ro_147 {D : va_G} {cy : Nat → ClassId} {h0 g0 : Nat} {u w sk sv : Nat → Nat} {rt sf b : Nat} : rfo (GG0 D cy h0 u g0 w sk sv rt sf b) 147 = some (u 71) := (if_neg (by decide)).trans (congrArg some (rfl : ad0 h0 u g0 w sk sv rt sf b 147 = u 71))
theorem ro_152 {D : va_G} {cy : Nat → ClassId} {h0 g0 : Nat} {u w sk sv : Nat → Nat} {rt sf b : Nat} : rfo (GG0 D cy h0 u g0 w sk sv rt sf b) 152 = some (u 76) := (if_neg (by decide)).trans (congrArg some (rfl : ad0 h0 u g0 w sk sv rt sf b 152 = u 76))
theorem ro_157 {D : va_G} {cy : Nat → ClassId} {h0 g0 : Nat} {u w sk sv : Nat → Nat} {rt sf b : Nat} : rfo (GG0 D cy h0 u g0 w sk sv rt sf b) 157 = some (u 81) := (if_neg (by decide)).trans (congrArg some (rfl : ad0 h0 u g0 w sk sv rt sf b 157 = u 81))
theorem ro_162 {D : va_G} {cy : Nat → ClassId} {h0 g0 : Nat} {u w sk sv : Nat → Nat} {rt sf b : Nat} : rfo (GG0 D cy h0 u g0 w sk sv rt sf b) 162 = some (u 86) := (if_neg (by decide)).trans (congrArg some (rfl : ad0 h0 u g0 w sk sv rt sf b 162 = u 86))
theorem ro_167 {D : va_G} {cy : Nat → ClassId} {h0 g0 : Nat} {u w sk sv : Nat → Nat} {rt sf b : Nat} : rfo (GG0 D cy h0 u g0 w sk sv rt sf b) 167 = some (u 91) := (if_neg (by decide)).trans (congrArg some (rfl : ad0 h0 u g0 w sk sv rt sf b 167 = u 91))
set_option maxRecDepth 20000 in
set_option maxHeartbeats 4000000 in
theorem ax_145 {D : va_G} {cy : Nat → ClassId} {h0 g0 : Nat} {u w sk sv : Nat → Nat} {rt sf b : Nat} : ∀ j, j < 5 → va_rf ((va_up (va_up (va_up (va_up (va_up (fun _ => none) 0 (some ((u 71)))) 1 (some ((u 76)))) 2 (some ((u 81)))) 3 (some ((u 86)))) 4 (some ((u 91))) : Nat → Option Nat) j) = va_rf (rfo (GG0 D cy h0 u g0 w sk sv rt sf b) (145 + 2 + 5 * j)) := by
  intro j hj
  rcases (show j = 0 ∨ j = 1 ∨ j = 2 ∨ j = 3 ∨ j = 4 by omega) with rfl | rfl | rfl | rfl | rfl
  · show va_rf (some (u 71)) = va_rf (rfo (GG0 D cy h0 u g0 w sk sv rt sf b) 147)
    rw [ro_147]
  · show va_rf (some (u 76)) = va_rf (rfo (GG0 D cy h0 u g0 w sk sv rt sf b) 152)
    rw [ro_152]
  · show va_rf (some (u 81)) = va_rf (rfo (GG0 D cy h0 u g0 w sk sv rt sf b) 157)
    rw [ro_157]
  · show va_rf (some (u 86)) = va_rf (rfo (GG0 D cy h0 u g0 w sk sv rt sf b) 162)
    rw [ro_162]
  · show va_rf (some (u 91)) = va_rf (rfo (GG0 D cy h0 u g0 w sk sv rt sf b) 167)
    rw [ro_167]
set_option maxRecDepth 20000 in
set_option maxHeartbeats 8000000 in
theorem hx_145 {D : va_G} {cy : Nat → ClassId} {h0 g0 : Nat} {u w sk sv : Nat → Nat} {rt sf b : Nat} : vp_cell (cy 4) (5, .inr (.inr (.inr (.inr (va_up (va_up (va_up (va_up (va_up (fun _ => none) 0 (some ((u 71)))) 1 (some ((u 76)))) 2 (some ((u 81)))) 3 (some ((u 86)))) 4 (some ((u 91)))))))) = vp_cell (cy 4) (5, .inr (.inr (.inr (.inr (fun i => rfo (GG0 D cy h0 u g0 w sk sv rt sf b) (145 + 2 + 5 * i)))))) := by
  show arrV (cy 4) 5 (fun j => va_rf ((va_up (va_up (va_up (va_up (va_up (fun _ => none) 0 (some ((u 71)))) 1 (some ((u 76)))) 2 (some ((u 81)))) 3 (some ((u 86)))) 4 (some ((u 91))) : Nat → Option Nat) j)) = arrV (cy 4) 5 (fun j => va_rf (rfo (GG0 D cy h0 u g0 w sk sv rt sf b) (145 + 2 + 5 * j)))
  exact arrV_cg ax_145
set_option maxRecDepth 20000 in
set_option maxHeartbeats 8000000 in
theorem sh_145 {D : va_G} {cy : Nat → ClassId} {h0 g0 : Nat} {u w sk sv : Nat → Nat} {rt sf b : Nat} {H : Heap} (hP : va_P D vwCl (pw_X11_init cy h0 u ++ pw_X12_init cy g0 w) H) : (∃ e, (pw_X11_init cy h0 u ++ pw_X12_init cy g0 w)[70]? = some (ad0 h0 u g0 w sk sv rt sf b 145, e)) ∧ va_at D vwCl (ad0 h0 u g0 w sk sv rt sf b 145, ent (GG0 D cy h0 u g0 w sk sv rt sf b) S0 145) H := at_of2 (Γ := GG0 D cy h0 u g0 w sk sv rt sf b) (cA := cy 4) (x := (5, .inr (.inr (.inr (.inr (va_up (va_up (va_up (va_up (va_up (fun _ => none) 0 (some ((u 71)))) 1 (some ((u 76)))) 2 (some ((u 81)))) 3 (some ((u 86)))) 4 (some ((u 91))))))))) (y := (5, .inr (.inr (.inr (.inr (fun i => rfo (GG0 D cy h0 u g0 w sk sv rt sf b) (145 + 2 + 5 * i))))))) hP rfl rfl (ent_pools _ S0 (rfl : kd 145 = (16, 5))) hx_145
theorem ro_172 {D : va_G} {cy : Nat → ClassId} {h0 g0 : Nat} {u w sk sv : Nat → Nat} {rt sf b : Nat} : rfo (GG0 D cy h0 u g0 w sk sv rt sf b) 172 = some (u 97) := (if_neg (by decide)).trans (congrArg some (rfl : ad0 h0 u g0 w sk sv rt sf b 172 = u 97))
theorem ro_175 {D : va_G} {cy : Nat → ClassId} {h0 g0 : Nat} {u w sk sv : Nat → Nat} {rt sf b : Nat} : rfo (GG0 D cy h0 u g0 w sk sv rt sf b) 175 = some (u 100) := (if_neg (by decide)).trans (congrArg some (rfl : ad0 h0 u g0 w sk sv rt sf b 175 = u 100))
theorem ro_178 {D : va_G} {cy : Nat → ClassId} {h0 g0 : Nat} {u w sk sv : Nat → Nat} {rt sf b : Nat} : rfo (GG0 D cy h0 u g0 w sk sv rt sf b) 178 = some (u 103) := (if_neg (by decide)).trans (congrArg some (rfl : ad0 h0 u g0 w sk sv rt sf b 178 = u 103))
theorem ro_181 {D : va_G} {cy : Nat → ClassId} {h0 g0 : Nat} {u w sk sv : Nat → Nat} {rt sf b : Nat} : rfo (GG0 D cy h0 u g0 w sk sv rt sf b) 181 = some (u 106) := (if_neg (by decide)).trans (congrArg some (rfl : ad0 h0 u g0 w sk sv rt sf b 181 = u 106))
theorem ro_184 {D : va_G} {cy : Nat → ClassId} {h0 g0 : Nat} {u w sk sv : Nat → Nat} {rt sf b : Nat} : rfo (GG0 D cy h0 u g0 w sk sv rt sf b) 184 = some (u 109) := (if_neg (by decide)).trans (congrArg some (rfl : ad0 h0 u g0 w sk sv rt sf b 184 = u 109))
theorem ro_187 {D : va_G} {cy : Nat → ClassId} {h0 g0 : Nat} {u w sk sv : Nat → Nat} {rt sf b : Nat} : rfo (GG0 D cy h0 u g0 w sk sv rt sf b) 187 = some (u 112) := (if_neg (by decide)).trans (congrArg some (rfl : ad0 h0 u g0 w sk sv rt sf b 187 = u 112))
theorem ro_190 {D : va_G} {cy : Nat → ClassId} {h0 g0 : Nat} {u w sk sv : Nat → Nat} {rt sf b : Nat} : rfo (GG0 D cy h0 u g0 w sk sv rt sf b) 190 = some (u 115) := (if_neg (by decide)).trans (congrArg some (rfl : ad0 h0 u g0 w sk sv rt sf b 190 = u 115))
theorem ro_193 {D : va_G} {cy : Nat → ClassId} {h0 g0 : Nat} {u w sk sv : Nat → Nat} {rt sf b : Nat} : rfo (GG0 D cy h0 u g0 w sk sv rt sf b) 193 = some (u 118) := (if_neg (by decide)).trans (congrArg some (rfl : ad0 h0 u g0 w sk sv rt sf b 193 = u 118))
theorem ro_196 {D : va_G} {cy : Nat → ClassId} {h0 g0 : Nat} {u w sk sv : Nat → Nat} {rt sf b : Nat} : rfo (GG0 D cy h0 u g0 w sk sv rt sf b) 196 = some (u 121) := (if_neg (by decide)).trans (congrArg some (rfl : ad0 h0 u g0 w sk sv rt sf b 196 = u 121))
theorem ro_199 {D : va_G} {cy : Nat → ClassId} {h0 g0 : Nat} {u w sk sv : Nat → Nat} {rt sf b : Nat} : rfo (GG0 D cy h0 u g0 w sk sv rt sf b) 199 = some (u 124) := (if_neg (by decide)).trans (congrArg some (rfl : ad0 h0 u g0 w sk sv rt sf b 199 = u 124))
theorem ro_202 {D : va_G} {cy : Nat → ClassId} {h0 g0 : Nat} {u w sk sv : Nat → Nat} {rt sf b : Nat} : rfo (GG0 D cy h0 u g0 w sk sv rt sf b) 202 = some (u 127) := (if_neg (by decide)).trans (congrArg some (rfl : ad0 h0 u g0 w sk sv rt sf b 202 = u 127))
theorem ro_205 {D : va_G} {cy : Nat → ClassId} {h0 g0 : Nat} {u w sk sv : Nat → Nat} {rt sf b : Nat} : rfo (GG0 D cy h0 u g0 w sk sv rt sf b) 205 = some (u 130) := (if_neg (by decide)).trans (congrArg some (rfl : ad0 h0 u g0 w sk sv rt sf b 205 = u 130))
set_option maxRecDepth 20000 in
set_option maxHeartbeats 4000000 in
theorem ax_146 {D : va_G} {cy : Nat → ClassId} {h0 g0 : Nat} {u w sk sv : Nat → Nat} {rt sf b : Nat} : ∀ j, j < 12 → va_rf ((va_up (va_up (va_up (va_up (va_up (va_up (va_up (va_up (va_up (va_up (va_up (va_up (fun _ => none) 0 (some ((u 97)))) 1 (some ((u 100)))) 2 (some ((u 103)))) 3 (some ((u 106)))) 4 (some ((u 109)))) 5 (some ((u 112)))) 6 (some ((u 115)))) 7 (some ((u 118)))) 8 (some ((u 121)))) 9 (some ((u 124)))) 10 (some ((u 127)))) 11 (some ((u 130))) : Nat → Option Nat) j) = va_rf (rfo (GG0 D cy h0 u g0 w sk sv rt sf b) (gR S0 146 j)) := by
  intro j hj
  rcases (show j = 0 ∨ j = 1 ∨ j = 2 ∨ j = 3 ∨ j = 4 ∨ j = 5 ∨ j = 6 ∨ j = 7 ∨ j = 8 ∨ j = 9 ∨ j = 10 ∨ j = 11 by omega) with rfl | rfl | rfl | rfl | rfl | rfl | rfl | rfl | rfl | rfl | rfl | rfl
  · show va_rf (some (u 97)) = va_rf (rfo (GG0 D cy h0 u g0 w sk sv rt sf b) 172)
    rw [ro_172]
  · show va_rf (some (u 100)) = va_rf (rfo (GG0 D cy h0 u g0 w sk sv rt sf b) 175)
    rw [ro_175]
  · show va_rf (some (u 103)) = va_rf (rfo (GG0 D cy h0 u g0 w sk sv rt sf b) 178)
    rw [ro_178]
  · show va_rf (some (u 106)) = va_rf (rfo (GG0 D cy h0 u g0 w sk sv rt sf b) 181)
    rw [ro_181]
  · show va_rf (some (u 109)) = va_rf (rfo (GG0 D cy h0 u g0 w sk sv rt sf b) 184)
    rw [ro_184]
  · show va_rf (some (u 112)) = va_rf (rfo (GG0 D cy h0 u g0 w sk sv rt sf b) 187)
    rw [ro_187]
  · show va_rf (some (u 115)) = va_rf (rfo (GG0 D cy h0 u g0 w sk sv rt sf b) 190)
    rw [ro_190]
  · show va_rf (some (u 118)) = va_rf (rfo (GG0 D cy h0 u g0 w sk sv rt sf b) 193)
    rw [ro_193]
  · show va_rf (some (u 121)) = va_rf (rfo (GG0 D cy h0 u g0 w sk sv rt sf b) 196)
    rw [ro_196]
  · show va_rf (some (u 124)) = va_rf (rfo (GG0 D cy h0 u g0 w sk sv rt sf b) 199)
    rw [ro_199]
  · show va_rf (some (u 127)) = va_rf (rfo (GG0 D cy h0 u g0 w sk sv rt sf b) 202)
    rw [ro_202]
  · show va_rf (some (u 130)) = va_rf (rfo (GG0 D cy h0 u g0 w sk sv rt sf b) 205)
    rw [ro_205]
set_option maxRecDepth 20000 in
set_option maxHeartbeats 8000000 in
theorem hx_146 {D : va_G} {cy : Nat → ClassId} {h0 g0 : Nat} {u w sk sv : Nat → Nat} {rt sf b : Nat} : vp_cell (cy 5) (12, .inr (.inr (.inr (.inr (va_up (va_up (va_up (va_up (va_up (va_up (va_up (va_up (va_up (va_up (va_up (va_up (fun _ => none) 0 (some ((u 97)))) 1 (some ((u 100)))) 2 (some ((u 103)))) 3 (some ((u 106)))) 4 (some ((u 109)))) 5 (some ((u 112)))) 6 (some ((u 115)))) 7 (some ((u 118)))) 8 (some ((u 121)))) 9 (some ((u 124)))) 10 (some ((u 127)))) 11 (some ((u 130)))))))) = vp_cell (cy 5) (12, .inr (.inr (.inr (.inr (fun i => rfo (GG0 D cy h0 u g0 w sk sv rt sf b) (gR S0 146 i)))))) := by
  show arrV (cy 5) 12 (fun j => va_rf ((va_up (va_up (va_up (va_up (va_up (va_up (va_up (va_up (va_up (va_up (va_up (va_up (fun _ => none) 0 (some ((u 97)))) 1 (some ((u 100)))) 2 (some ((u 103)))) 3 (some ((u 106)))) 4 (some ((u 109)))) 5 (some ((u 112)))) 6 (some ((u 115)))) 7 (some ((u 118)))) 8 (some ((u 121)))) 9 (some ((u 124)))) 10 (some ((u 127)))) 11 (some ((u 130))) : Nat → Option Nat) j)) = arrV (cy 5) 12 (fun j => va_rf (rfo (GG0 D cy h0 u g0 w sk sv rt sf b) (gR S0 146 j)))
  exact arrV_cg ax_146
set_option maxRecDepth 20000 in
set_option maxHeartbeats 8000000 in
theorem sh_146 {D : va_G} {cy : Nat → ClassId} {h0 g0 : Nat} {u w sk sv : Nat → Nat} {rt sf b : Nat} {H : Heap} (hP : va_P D vwCl (pw_X11_init cy h0 u ++ pw_X12_init cy g0 w) H) : (∃ e, (pw_X11_init cy h0 u ++ pw_X12_init cy g0 w)[96]? = some (ad0 h0 u g0 w sk sv rt sf b 146, e)) ∧ va_at D vwCl (ad0 h0 u g0 w sk sv rt sf b 146, ent (GG0 D cy h0 u g0 w sk sv rt sf b) S0 146) H := at_of2 (Γ := GG0 D cy h0 u g0 w sk sv rt sf b) (cA := cy 5) (x := (12, .inr (.inr (.inr (.inr (va_up (va_up (va_up (va_up (va_up (va_up (va_up (va_up (va_up (va_up (va_up (va_up (fun _ => none) 0 (some ((u 97)))) 1 (some ((u 100)))) 2 (some ((u 103)))) 3 (some ((u 106)))) 4 (some ((u 109)))) 5 (some ((u 112)))) 6 (some ((u 115)))) 7 (some ((u 118)))) 8 (some ((u 121)))) 9 (some ((u 124)))) 10 (some ((u 127)))) 11 (some ((u 130))))))))) (y := (12, .inr (.inr (.inr (.inr (fun i => rfo (GG0 D cy h0 u g0 w sk sv rt sf b) (gR S0 146 i))))))) hP rfl rfl (ent_stakes _ S0 (rfl : kd 146 = (17, 12))) hx_146
set_option maxRecDepth 100000 in
set_option maxHeartbeats 8000000 in
theorem wl_S0 {D : va_G} {cy : Nat → ClassId} {h0 g0 : Nat} {u w sk sv : Nat → Nat} {rt sf b : Nat} {H : Heap} (hP : va_P D vwCl (pw_X11_init cy h0 u ++ pw_X12_init cy g0 w) H) : ∀ i, i < 207 → (∃ e, (pw_X11_init cy h0 u ++ pw_X12_init cy g0 w)[gl0.getD i 0]? = some (ad0 h0 u g0 w sk sv rt sf b (i + 1), e)) ∧ va_at D vwCl (ad0 h0 u g0 w sk sv rt sf b (i + 1), ent (D, ad0 h0 u g0 w sk sv rt sf b, cy) S0 (i + 1)) H := by
  have a0 := lt_0 (p := fun i => (∃ e, (pw_X11_init cy h0 u ++ pw_X12_init cy g0 w)[gl0.getD i 0]? = some (ad0 h0 u g0 w sk sv rt sf b (i + 1), e)) ∧ va_at D vwCl (ad0 h0 u g0 w sk sv rt sf b (i + 1), ent (D, ad0 h0 u g0 w sk sv rt sf b, cy) S0 (i + 1)) H)
  have a1 := lt_s a0 (sh_1 hP)
  have a2 := lt_s a1 (sh_2 hP)
  have a3 := lt_s a2 (sh_3 hP)
  have a4 := lt_s a3 (sh_4 hP)
  have a5 := lt_s a4 (sh_5 hP)
  have a6 := lt_s a5 (sh_6 hP)
  have a7 := lt_s a6 (sh_7 hP)
  have a8 := lt_s a7 (sh_8 hP)
  have a9 := lt_s a8 (sh_9 hP)
  have a10 := lt_s a9 (sh_10 hP)
  have a11 := lt_s a10 (sh_11 hP)
  have a12 := lt_s a11 (sh_12 hP)
  have a13 := lt_s a12 (sh_13 hP)
  have a14 := lt_s a13 (sh_14 hP)
  have a15 := lt_s a14 (sh_15 hP)
  have a16 := lt_s a15 (sh_16 hP)
  have a17 := lt_s a16 (sh_17 hP)
  have a18 := lt_s a17 (sh_18 hP)
  have a19 := lt_s a18 (sh_19 hP)
  have a20 := lt_s a19 (sh_20 hP)
  have a21 := lt_s a20 (sh_21 hP)
  have a22 := lt_s a21 (sh_22 hP)
  have a23 := lt_s a22 (sh_23 hP)
  have a24 := lt_s a23 (sh_24 hP)
  have a25 := lt_s a24 (sh_25 hP)
  have a26 := lt_s a25 (sh_26 hP)
  have a27 := lt_s a26 (sh_27 hP)
  have a28 := lt_s a27 (sh_28 hP)
  have a29 := lt_s a28 (sh_29 hP)
  have a30 := lt_s a29 (sh_30 hP)
  have a31 := lt_s a30 (sh_31 hP)
  have a32 := lt_s a31 (sh_32 hP)
  have a33 := lt_s a32 (sh_33 hP)
  have a34 := lt_s a33 (sh_34 hP)
  have a35 := lt_s a34 (sh_35 hP)
  have a36 := lt_s a35 (sh_36 hP)
  have a37 := lt_s a36 (sh_37 hP)
  have a38 := lt_s a37 (sh_38 hP)
  have a39 := lt_s a38 (sh_39 hP)
  have a40 := lt_s a39 (sh_40 hP)
  have a41 := lt_s a40 (sh_41 hP)
  have a42 := lt_s a41 (sh_42 hP)
  have a43 := lt_s a42 (sh_43 hP)
  have a44 := lt_s a43 (sh_44 hP)
  have a45 := lt_s a44 (sh_45 hP)
  have a46 := lt_s a45 (sh_46 hP)
  have a47 := lt_s a46 (sh_47 hP)
  have a48 := lt_s a47 (sh_48 hP)
  have a49 := lt_s a48 (sh_49 hP)
  have a50 := lt_s a49 (sh_50 hP)
  have a51 := lt_s a50 (sh_51 hP)
  have a52 := lt_s a51 (sh_52 hP)
  have a53 := lt_s a52 (sh_53 hP)
  have a54 := lt_s a53 (sh_54 hP)
  have a55 := lt_s a54 (sh_55 hP)
  have a56 := lt_s a55 (sh_56 hP)
  have a57 := lt_s a56 (sh_57 hP)
  have a58 := lt_s a57 (sh_58 hP)
  have a59 := lt_s a58 (sh_59 hP)
  have a60 := lt_s a59 (sh_60 hP)
  have a61 := lt_s a60 (sh_61 hP)
  have a62 := lt_s a61 (sh_62 hP)
  have a63 := lt_s a62 (sh_63 hP)
  have a64 := lt_s a63 (sh_64 hP)
  have a65 := lt_s a64 (sh_65 hP)
  have a66 := lt_s a65 (sh_66 hP)
  have a67 := lt_s a66 (sh_67 hP)
  have a68 := lt_s a67 (sh_68 hP)
  have a69 := lt_s a68 (sh_69 hP)
  have a70 := lt_s a69 (sh_70 hP)
  have a71 := lt_s a70 (sh_71 hP)
  have a72 := lt_s a71 (sh_72 hP)
  have a73 := lt_s a72 (sh_73 hP)
  have a74 := lt_s a73 (sh_74 hP)
  have a75 := lt_s a74 (sh_75 hP)
  have a76 := lt_s a75 (sh_76 hP)
  have a77 := lt_s a76 (sh_77 hP)
  have a78 := lt_s a77 (sh_78 hP)
  have a79 := lt_s a78 (sh_79 hP)
  have a80 := lt_s a79 (sh_80 hP)
  have a81 := lt_s a80 (sh_81 hP)
  have a82 := lt_s a81 (sh_82 hP)
  have a83 := lt_s a82 (sh_83 hP)
  have a84 := lt_s a83 (sh_84 hP)
  have a85 := lt_s a84 (sh_85 hP)
  have a86 := lt_s a85 (sh_86 hP)
  have a87 := lt_s a86 (sh_87 hP)
  have a88 := lt_s a87 (sh_88 hP)
  have a89 := lt_s a88 (sh_89 hP)
  have a90 := lt_s a89 (sh_90 hP)
  have a91 := lt_s a90 (sh_91 hP)
  have a92 := lt_s a91 (sh_92 hP)
  have a93 := lt_s a92 (sh_93 hP)
  have a94 := lt_s a93 (sh_94 hP)
  have a95 := lt_s a94 (sh_95 hP)
  have a96 := lt_s a95 (sh_96 hP)
  have a97 := lt_s a96 (sh_97 hP)
  have a98 := lt_s a97 (sh_98 hP)
  have a99 := lt_s a98 (sh_99 hP)
  have a100 := lt_s a99 (sh_100 hP)
  have a101 := lt_s a100 (sh_101 hP)
  have a102 := lt_s a101 (sh_102 hP)
  have a103 := lt_s a102 (sh_103 hP)
  have a104 := lt_s a103 (sh_104 hP)
  have a105 := lt_s a104 (sh_105 hP)
  have a106 := lt_s a105 (sh_106 hP)
  have a107 := lt_s a106 (sh_107 hP)
  have a108 := lt_s a107 (sh_108 hP)
  have a109 := lt_s a108 (sh_109 hP)
  have a110 := lt_s a109 (sh_110 hP)
  have a111 := lt_s a110 (sh_111 hP)
  have a112 := lt_s a111 (sh_112 hP)
  have a113 := lt_s a112 (sh_113 hP)
  have a114 := lt_s a113 (sh_114 hP)
  have a115 := lt_s a114 (sh_115 hP)
  have a116 := lt_s a115 (sh_116 hP)
  have a117 := lt_s a116 (sh_117 hP)
  have a118 := lt_s a117 (sh_118 hP)
  have a119 := lt_s a118 (sh_119 hP)
  have a120 := lt_s a119 (sh_120 hP)
  have a121 := lt_s a120 (sh_121 hP)
  have a122 := lt_s a121 (sh_122 hP)
  have a123 := lt_s a122 (sh_123 hP)
  have a124 := lt_s a123 (sh_124 hP)
  have a125 := lt_s a124 (sh_125 hP)
  have a126 := lt_s a125 (sh_126 hP)
  have a127 := lt_s a126 (sh_127 hP)
  have a128 := lt_s a127 (sh_128 hP)
  have a129 := lt_s a128 (sh_129 hP)
  have a130 := lt_s a129 (sh_130 hP)
  have a131 := lt_s a130 (sh_131 hP)
  have a132 := lt_s a131 (sh_132 hP)
  have a133 := lt_s a132 (sh_133 hP)
  have a134 := lt_s a133 (sh_134 hP)
  have a135 := lt_s a134 (sh_135 hP)
  have a136 := lt_s a135 (sh_136 hP)
  have a137 := lt_s a136 (sh_137 hP)
  have a138 := lt_s a137 (sh_138 hP)
  have a139 := lt_s a138 (sh_139 hP)
  have a140 := lt_s a139 (sh_140 hP)
  have a141 := lt_s a140 (sh_141 hP)
  have a142 := lt_s a141 (sh_142 hP)
  have a143 := lt_s a142 (sh_143 hP)
  have a144 := lt_s a143 (sh_144 hP)
  have a145 := lt_s a144 (sh_145 hP)
  have a146 := lt_s a145 (sh_146 hP)
  have a147 := lt_s a146 (sh_147 hP)
  have a148 := lt_s a147 (sh_148 hP)
  have a149 := lt_s a148 (sh_149 hP)
  have a150 := lt_s a149 (sh_150 hP)
  have a151 := lt_s a150 (sh_151 hP)
  have a152 := lt_s a151 (sh_152 hP)
  have a153 := lt_s a152 (sh_153 hP)
  have a154 := lt_s a153 (sh_154 hP)
  have a155 := lt_s a154 (sh_155 hP)
  have a156 := lt_s a155 (sh_156 hP)
  have a157 := lt_s a156 (sh_157 hP)
  have a158 := lt_s a157 (sh_158 hP)
  have a159 := lt_s a158 (sh_159 hP)
  have a160 := lt_s a159 (sh_160 hP)
  have a161 := lt_s a160 (sh_161 hP)
  have a162 := lt_s a161 (sh_162 hP)
  have a163 := lt_s a162 (sh_163 hP)
  have a164 := lt_s a163 (sh_164 hP)
  have a165 := lt_s a164 (sh_165 hP)
  have a166 := lt_s a165 (sh_166 hP)
  have a167 := lt_s a166 (sh_167 hP)
  have a168 := lt_s a167 (sh_168 hP)
  have a169 := lt_s a168 (sh_169 hP)
  have a170 := lt_s a169 (sh_170 hP)
  have a171 := lt_s a170 (sh_171 hP)
  have a172 := lt_s a171 (sh_172 hP)
  have a173 := lt_s a172 (sh_173 hP)
  have a174 := lt_s a173 (sh_174 hP)
  have a175 := lt_s a174 (sh_175 hP)
  have a176 := lt_s a175 (sh_176 hP)
  have a177 := lt_s a176 (sh_177 hP)
  have a178 := lt_s a177 (sh_178 hP)
  have a179 := lt_s a178 (sh_179 hP)
  have a180 := lt_s a179 (sh_180 hP)
  have a181 := lt_s a180 (sh_181 hP)
  have a182 := lt_s a181 (sh_182 hP)
  have a183 := lt_s a182 (sh_183 hP)
  have a184 := lt_s a183 (sh_184 hP)
  have a185 := lt_s a184 (sh_185 hP)
  have a186 := lt_s a185 (sh_186 hP)
  have a187 := lt_s a186 (sh_187 hP)
  have a188 := lt_s a187 (sh_188 hP)
  have a189 := lt_s a188 (sh_189 hP)
  have a190 := lt_s a189 (sh_190 hP)
  have a191 := lt_s a190 (sh_191 hP)
  have a192 := lt_s a191 (sh_192 hP)
  have a193 := lt_s a192 (sh_193 hP)
  have a194 := lt_s a193 (sh_194 hP)
  have a195 := lt_s a194 (sh_195 hP)
  have a196 := lt_s a195 (sh_196 hP)
  have a197 := lt_s a196 (sh_197 hP)
  have a198 := lt_s a197 (sh_198 hP)
  have a199 := lt_s a198 (sh_199 hP)
  have a200 := lt_s a199 (sh_200 hP)
  have a201 := lt_s a200 (sh_201 hP)
  have a202 := lt_s a201 (sh_202 hP)
  have a203 := lt_s a202 (sh_203 hP)
  have a204 := lt_s a203 (sh_204 hP)
  have a205 := lt_s a204 (sh_205 hP)
  have a206 := lt_s a205 (sh_206 hP)
  have a207 := lt_s a206 (sh_207 hP)
  exact a207
