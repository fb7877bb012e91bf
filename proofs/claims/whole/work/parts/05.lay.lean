abbrev et_S : Type := (FieldType × Nat) ⊕ (Nat × List Nat)
/-- every cell of the system, of the reference and of the law: arrays (type, length), objects (which of vwCl; a field: 0 a number, 1 a long, r + 2 the cell r) -/
def et_lay : List et_S := [
  .inr (9, [3, 0, 4, 17, 30, 31, 33, 36, 42, 48, 49, 0, 50, 61, 0, 0, 0, 0]), -- 0 x
  .inl (.byte, 800), -- 1 x.tape
  .inr (6, [5, 0, 9, 0, 10, 0, 11, 12, 13, 0, 0, 0, 14, 15, 16]), -- 2 x.town
  .inr (5, [6, 7, 0, 0, 8, 0]), -- 3 x.town.tongue
  .inl (.byte, 368), -- 4 x.town.tongue.letters
  .inl (.int, 46), -- 5 x.town.tongue.length
  .inl (.byte, 24), -- 6 x.town.tongue.made
  .inl (.int, 6), -- 7 x.town.near
  .inl (.int, 144), -- 8 x.town.stays
  .inl (.int, 8), -- 9 x.town.stemOf
  .inl (.int, 8), -- 10 x.town.placeOf
  .inl (.int, 8), -- 11 x.town.hourOf
  .inl (.int, 6), -- 12 x.town.head
  .inl (.int, 6), -- 13 x.town.tail
  .inl (.int, 10), -- 14 x.town.chances
  .inr (6, [18, 0, 22, 0, 23, 0, 24, 25, 26, 0, 0, 0, 27, 28, 29]), -- 15 x.draft
  .inr (5, [19, 20, 0, 0, 21, 0]), -- 16 x.draft.tongue
  .inl (.byte, 368), -- 17 x.draft.tongue.letters
  .inl (.int, 46), -- 18 x.draft.tongue.length
  .inl (.byte, 24), -- 19 x.draft.tongue.made
  .inl (.int, 6), -- 20 x.draft.near
  .inl (.int, 144), -- 21 x.draft.stays
  .inl (.int, 8), -- 22 x.draft.stemOf
  .inl (.int, 8), -- 23 x.draft.placeOf
  .inl (.int, 8), -- 24 x.draft.hourOf
  .inl (.int, 6), -- 25 x.draft.head
  .inl (.int, 6), -- 26 x.draft.tail
  .inl (.int, 10), -- 27 x.draft.chances
  .inr (4, [3, 0, 0, 0, 0, 0, 0, 0, 0, 0, 0]), -- 28 x.reader
  .inr (8, [32, 0]), -- 29 x.ways
  .inl (.int, 180), -- 30 x.ways.rows
  .inr (7, [3, 34, 0, 0, 0, 0, 0]), -- 31 x.utterance
  .inr (8, [35, 0]), -- 32 x.utterance.ways
  .inl (.int, 180), -- 33 x.utterance.ways.rows
  .inr (1, [0, 37, 38, 39, 40, 41]), -- 34 x.ledger
  .inl (.int, 20), -- 35 x.ledger.person
  .inl (.int, 20), -- 36 x.ledger.hour
  .inl (.int, 20), -- 37 x.ledger.thing
  .inl (.int, 20), -- 38 x.ledger.how
  .inl (.boolean, 20), -- 39 x.ledger.not
  .inr (1, [0, 43, 44, 45, 46, 47]), -- 40 x.keptLedger
  .inl (.int, 20), -- 41 x.keptLedger.person
  .inl (.int, 20), -- 42 x.keptLedger.hour
  .inl (.int, 20), -- 43 x.keptLedger.thing
  .inl (.int, 20), -- 44 x.keptLedger.how
  .inl (.boolean, 20), -- 45 x.keptLedger.not
  .inr (3, [4, 0, 0]), -- 46 x.minds
  .inr (3, [4, 0, 0]), -- 47 x.keptMinds
  .inr (0, [4, 36, 51, 52, 53, 54, 55, 56, 57, 58, 59, 60, 0, 0, 0, 0, 0]), -- 48 x.ground
  .inl (.int, 20), -- 49 x.ground.heard
  .inl (.int, 20), -- 50 x.ground.bare
  .inl (.int, 20), -- 51 x.ground.ownHows
  .inl (.int, 16), -- 52 x.ground.about
  .inl (.int, 20), -- 53 x.ground.tellers
  .inl (.int, 20), -- 54 x.ground.can
  .inl (.int, 20), -- 55 x.ground.chain
  .inl (.int, 20), -- 56 x.ground.risenBy
  .inl (.int, 20), -- 57 x.ground.eyes
  .inl (.int, 160), -- 58 x.ground.thingEyes
  .inr (2, [50, 36, 62, 0]), -- 59 x.mender
  .inl (.int, 12), -- 60 x.mender.hows
  .inr (10, [0, 0, 0, 0, 0, 0, 0, 64, 65, 66, 67, 68, 69, 70, 71, 72, 73, 0, 0, 0, 74, 0, 0, 0, 0, 0, 0, 1, 0, 0, 0, 0, 0, 0, 0, 0, 0, 75, 76, 77, 78, 79, 80, 81, 82, 83, 84, 85, 0, 0, 0, 86, 87, 88, 89, 90, 91, 92, 93, 0, 0, 0, 0, 94, 95, 0, 96, 0, 0, 0, 0, 0, 0, 97]), -- 61 m
  .inl (.int, 108), -- 62 m.stem
  .inl (.int, 135), -- 63 m.ending
  .inl (.int, 162), -- 64 m.change
  .inl (.int, 9), -- 65 m.not
  .inl (.int, 40), -- 66 m.thing
  .inl (.int, 30), -- 67 m.rule
  .inl (.int, 6), -- 68 m.near
  .inl (.int, 144), -- 69 m.where
  .inl (.int, 10), -- 70 m.weigh
  .inl (.int, 800), -- 71 m.tape
  .inl (.int, 3), -- 72 m.refused
  .inl (.int, 108), -- 73 m.newStem
  .inl (.int, 135), -- 74 m.newEnding
  .inl (.int, 162), -- 75 m.newChange
  .inl (.int, 9), -- 76 m.newNot
  .inl (.int, 40), -- 77 m.newThing
  .inl (.int, 30), -- 78 m.newRule
  .inl (.int, 6), -- 79 m.newNear
  .inl (.int, 144), -- 80 m.newWhere
  .inl (.int, 10), -- 81 m.newWeigh
  .inl (.int, 32), -- 82 m.spoken
  .inl (.int, 180), -- 83 m.way
  .inl (.int, 100), -- 84 m.said
  .inl (.int, 180), -- 85 m.wayKept
  .inl (.int, 20), -- 86 m.round
  .inl (.int, 20), -- 87 m.takes
  .inl (.int, 21), -- 88 m.pairWho
  .inl (.int, 21), -- 89 m.pairHour
  .inl (.int, 20), -- 90 m.pairOf
  .inl (.int, 168), -- 91 m.could
  .inl (.int, 20), -- 92 m.eyes
  .inl (.int, 168), -- 93 m.couldEyes
  .inl (.int, 20), -- 94 m.mend
  .inl (.int, 100), -- 95 m.imageSaid
  .inl (.long, 1) -- 96 out
]
theorem ly_0 : et_lay[0]? = some (.inr (9, [3, 0, 4, 17, 30, 31, 33, 36, 42, 48, 49, 0, 50, 61, 0, 0, 0, 0])) := rfl
theorem ly_1 : et_lay[1]? = some (.inl (.byte, 800)) := rfl
theorem ly_2 : et_lay[2]? = some (.inr (6, [5, 0, 9, 0, 10, 0, 11, 12, 13, 0, 0, 0, 14, 15, 16])) := rfl
theorem ly_3 : et_lay[3]? = some (.inr (5, [6, 7, 0, 0, 8, 0])) := rfl
theorem ly_4 : et_lay[4]? = some (.inl (.byte, 368)) := rfl
theorem ly_5 : et_lay[5]? = some (.inl (.int, 46)) := rfl
theorem ly_6 : et_lay[6]? = some (.inl (.byte, 24)) := rfl
theorem ly_7 : et_lay[7]? = some (.inl (.int, 6)) := rfl
theorem ly_8 : et_lay[8]? = some (.inl (.int, 144)) := rfl
theorem ly_9 : et_lay[9]? = some (.inl (.int, 8)) := rfl
theorem ly_10 : et_lay[10]? = some (.inl (.int, 8)) := rfl
theorem ly_11 : et_lay[11]? = some (.inl (.int, 8)) := rfl
theorem ly_12 : et_lay[12]? = some (.inl (.int, 6)) := rfl
theorem ly_13 : et_lay[13]? = some (.inl (.int, 6)) := rfl
theorem ly_14 : et_lay[14]? = some (.inl (.int, 10)) := rfl
theorem ly_15 : et_lay[15]? = some (.inr (6, [18, 0, 22, 0, 23, 0, 24, 25, 26, 0, 0, 0, 27, 28, 29])) := rfl
theorem ly_16 : et_lay[16]? = some (.inr (5, [19, 20, 0, 0, 21, 0])) := rfl
theorem ly_17 : et_lay[17]? = some (.inl (.byte, 368)) := rfl
theorem ly_18 : et_lay[18]? = some (.inl (.int, 46)) := rfl
theorem ly_19 : et_lay[19]? = some (.inl (.byte, 24)) := rfl
theorem ly_20 : et_lay[20]? = some (.inl (.int, 6)) := rfl
theorem ly_21 : et_lay[21]? = some (.inl (.int, 144)) := rfl
theorem ly_22 : et_lay[22]? = some (.inl (.int, 8)) := rfl
theorem ly_23 : et_lay[23]? = some (.inl (.int, 8)) := rfl
theorem ly_24 : et_lay[24]? = some (.inl (.int, 8)) := rfl
theorem ly_25 : et_lay[25]? = some (.inl (.int, 6)) := rfl
theorem ly_26 : et_lay[26]? = some (.inl (.int, 6)) := rfl
theorem ly_27 : et_lay[27]? = some (.inl (.int, 10)) := rfl
theorem ly_28 : et_lay[28]? = some (.inr (4, [3, 0, 0, 0, 0, 0, 0, 0, 0, 0, 0])) := rfl
theorem ly_29 : et_lay[29]? = some (.inr (8, [32, 0])) := rfl
theorem ly_30 : et_lay[30]? = some (.inl (.int, 180)) := rfl
theorem ly_31 : et_lay[31]? = some (.inr (7, [3, 34, 0, 0, 0, 0, 0])) := rfl
theorem ly_32 : et_lay[32]? = some (.inr (8, [35, 0])) := rfl
theorem ly_33 : et_lay[33]? = some (.inl (.int, 180)) := rfl
theorem ly_34 : et_lay[34]? = some (.inr (1, [0, 37, 38, 39, 40, 41])) := rfl
theorem ly_35 : et_lay[35]? = some (.inl (.int, 20)) := rfl
theorem ly_36 : et_lay[36]? = some (.inl (.int, 20)) := rfl
theorem ly_37 : et_lay[37]? = some (.inl (.int, 20)) := rfl
theorem ly_38 : et_lay[38]? = some (.inl (.int, 20)) := rfl
theorem ly_39 : et_lay[39]? = some (.inl (.boolean, 20)) := rfl
theorem ly_40 : et_lay[40]? = some (.inr (1, [0, 43, 44, 45, 46, 47])) := rfl
theorem ly_41 : et_lay[41]? = some (.inl (.int, 20)) := rfl
theorem ly_42 : et_lay[42]? = some (.inl (.int, 20)) := rfl
theorem ly_43 : et_lay[43]? = some (.inl (.int, 20)) := rfl
theorem ly_44 : et_lay[44]? = some (.inl (.int, 20)) := rfl
theorem ly_45 : et_lay[45]? = some (.inl (.boolean, 20)) := rfl
theorem ly_46 : et_lay[46]? = some (.inr (3, [4, 0, 0])) := rfl
theorem ly_47 : et_lay[47]? = some (.inr (3, [4, 0, 0])) := rfl
theorem ly_48 : et_lay[48]? = some (.inr (0, [4, 36, 51, 52, 53, 54, 55, 56, 57, 58, 59, 60, 0, 0, 0, 0, 0])) := rfl
theorem ly_49 : et_lay[49]? = some (.inl (.int, 20)) := rfl
theorem ly_50 : et_lay[50]? = some (.inl (.int, 20)) := rfl
theorem ly_51 : et_lay[51]? = some (.inl (.int, 20)) := rfl
theorem ly_52 : et_lay[52]? = some (.inl (.int, 16)) := rfl
theorem ly_53 : et_lay[53]? = some (.inl (.int, 20)) := rfl
theorem ly_54 : et_lay[54]? = some (.inl (.int, 20)) := rfl
theorem ly_55 : et_lay[55]? = some (.inl (.int, 20)) := rfl
theorem ly_56 : et_lay[56]? = some (.inl (.int, 20)) := rfl
theorem ly_57 : et_lay[57]? = some (.inl (.int, 20)) := rfl
theorem ly_58 : et_lay[58]? = some (.inl (.int, 160)) := rfl
theorem ly_59 : et_lay[59]? = some (.inr (2, [50, 36, 62, 0])) := rfl
theorem ly_60 : et_lay[60]? = some (.inl (.int, 12)) := rfl
theorem ly_61 : et_lay[61]? = some (.inr (10, [0, 0, 0, 0, 0, 0, 0, 64, 65, 66, 67, 68, 69, 70, 71, 72, 73, 0, 0, 0, 74, 0, 0, 0, 0, 0, 0, 1, 0, 0, 0, 0, 0, 0, 0, 0, 0, 75, 76, 77, 78, 79, 80, 81, 82, 83, 84, 85, 0, 0, 0, 86, 87, 88, 89, 90, 91, 92, 93, 0, 0, 0, 0, 94, 95, 0, 96, 0, 0, 0, 0, 0, 0, 97])) := rfl
theorem ly_62 : et_lay[62]? = some (.inl (.int, 108)) := rfl
theorem ly_63 : et_lay[63]? = some (.inl (.int, 135)) := rfl
theorem ly_64 : et_lay[64]? = some (.inl (.int, 162)) := rfl
theorem ly_65 : et_lay[65]? = some (.inl (.int, 9)) := rfl
theorem ly_66 : et_lay[66]? = some (.inl (.int, 40)) := rfl
theorem ly_67 : et_lay[67]? = some (.inl (.int, 30)) := rfl
theorem ly_68 : et_lay[68]? = some (.inl (.int, 6)) := rfl
theorem ly_69 : et_lay[69]? = some (.inl (.int, 144)) := rfl
theorem ly_70 : et_lay[70]? = some (.inl (.int, 10)) := rfl
theorem ly_71 : et_lay[71]? = some (.inl (.int, 800)) := rfl
theorem ly_72 : et_lay[72]? = some (.inl (.int, 3)) := rfl
theorem ly_73 : et_lay[73]? = some (.inl (.int, 108)) := rfl
theorem ly_74 : et_lay[74]? = some (.inl (.int, 135)) := rfl
theorem ly_75 : et_lay[75]? = some (.inl (.int, 162)) := rfl
theorem ly_76 : et_lay[76]? = some (.inl (.int, 9)) := rfl
theorem ly_77 : et_lay[77]? = some (.inl (.int, 40)) := rfl
theorem ly_78 : et_lay[78]? = some (.inl (.int, 30)) := rfl
theorem ly_79 : et_lay[79]? = some (.inl (.int, 6)) := rfl
theorem ly_80 : et_lay[80]? = some (.inl (.int, 144)) := rfl
theorem ly_81 : et_lay[81]? = some (.inl (.int, 10)) := rfl
theorem ly_82 : et_lay[82]? = some (.inl (.int, 32)) := rfl
theorem ly_83 : et_lay[83]? = some (.inl (.int, 180)) := rfl
theorem ly_84 : et_lay[84]? = some (.inl (.int, 100)) := rfl
theorem ly_85 : et_lay[85]? = some (.inl (.int, 180)) := rfl
theorem ly_86 : et_lay[86]? = some (.inl (.int, 20)) := rfl
theorem ly_87 : et_lay[87]? = some (.inl (.int, 20)) := rfl
theorem ly_88 : et_lay[88]? = some (.inl (.int, 21)) := rfl
theorem ly_89 : et_lay[89]? = some (.inl (.int, 21)) := rfl
theorem ly_90 : et_lay[90]? = some (.inl (.int, 20)) := rfl
theorem ly_91 : et_lay[91]? = some (.inl (.int, 168)) := rfl
theorem ly_92 : et_lay[92]? = some (.inl (.int, 20)) := rfl
theorem ly_93 : et_lay[93]? = some (.inl (.int, 168)) := rfl
theorem ly_94 : et_lay[94]? = some (.inl (.int, 20)) := rfl
theorem ly_95 : et_lay[95]? = some (.inl (.int, 100)) := rfl
theorem ly_96 : et_lay[96]? = some (.inl (.long, 1)) := rfl
theorem ly_len : et_lay.length = 97 := rfl
