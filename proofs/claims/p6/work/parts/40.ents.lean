/-! THE CONTRACTS of the methods and their certificates (printed by wip/gen/ck4.py; nothing of it is trusted, the checker checks it) -/
/-- GoodbyeQuay$Trial.exchange -/
def e_0 : w_E := (158, [w_r 38, w_t 0, w_t 0], [], [(151616, 151622)], [([], none, [])], 1)
abbrev x_Trial_exchange_0 : w_E := e_0
/-- GoodbyeQuayModel.wrong -/
def e_1 : w_E := (324, [w_r 67, w_n 2 5 0], [], [(266306, 266307)], [([], none, [(266306, w_n 1 5 0)])], 1)
abbrev x_M_wrong_0 : w_E := e_1
/-- GoodbyeQuayModel.isOwn -/
def e_2 : w_E := (233, [w_r 67], [], [], [([], some (w_n 1 1 0), []), ([], some (w_n 0 0 0), [])], 1)
abbrev x_M_isOwn_0 : w_E := e_2
/-- GoodbyeQuayModel.isName -/
def e_3 : w_E := (232, [w_r 67], [], [], [([], some (w_n 0 0 0), []), ([], some (w_n 1 1 0), [])], 2)
abbrev x_M_isName_0 : w_E := e_3
/-- GoodbyeQuayModel.lesser -/
def e_4 : w_E := (251, [w_t 0, w_t 0], [], [], [([], some (w_t 0), [])], 1)
abbrev x_M_lesser_0 : w_E := e_4
/-- GoodbyeQuayModel.greater -/
def e_5 : w_E := (214, [w_n 1 1 0, w_n 0 30 0], [], [], [([], some (w_n 1 30 0), [])], 1)
abbrev x_M_greater_0 : w_E := e_5
/-- GoodbyeQuayModel.has -/
def e_6 : w_E := (216, [w_t 0, w_n 0 7 0], [], [], [([], some (w_n 0 0 0), []), ([], some (w_n 1 1 0), [])], 1)
abbrev x_M_has_0 : w_E := e_6
/-- GoodbyeQuayModel.within -/
def e_7 : w_E := (323, [w_t 0, w_n 1 1 0, w_n 60 60 0], [], [], [([], some (w_n 1 60 0), [])], 1)
abbrev x_M_within_0 : w_E := e_7
/-- GoodbyeQuayModel.truth -/
def e_8 : w_E := (313, [w_n 0 0 0], [], [], [([], some (w_n 0 0 0), [])], 1)
abbrev x_M_truth_0 : w_E := e_8
/-- GoodbyeQuayModel.truth -/
def e_9 : w_E := (313, [w_n 1 1 0], [], [], [([], some (w_n 1 1 0), [])], 1)
abbrev x_M_truth_1 : w_E := e_9
/-- GoodbyeQuayModel.done -/
def e_10 : w_E := (196, [w_t 0, w_t 0, w_t 0], [], [], [([], some (w_t 0), [])], 2)
abbrev x_M_done_0 : w_E := e_10
/-- GoodbyeQuay$Tape.put -/
def e_11 : w_E := (152, [w_r 3, w_t 0], [], [(4161, 4161), (8256, 9855)], [([], none, [(4161, w_n 4 1600 0)])], 1)
abbrev x_Tape_put_0 : w_E := e_11
/-- GoodbyeQuay.feed -/
def e_12 : w_E := (21, [w_r 2, w_t 0, w_t 0, w_t 0, w_t 0, w_t 0], [], [(4161, 4161), (8256, 9855)], [([], some (w_g 2147483647 2147485248 0), [])], 2)
abbrev x_C_feed_0 : w_E := e_12
/-- GoodbyeQuay.end -/
def e_13 : w_E := (19, [w_r 2, w_t 0], [], [(4161, 4161)], [([], some (w_g 2147483647 2147485248 0), [])], 1)
abbrev x_C_end_0 : w_E := e_13
/-- GoodbyeQuay$Told.clear -/
def e_14 : w_E := (154, [w_r 17], [], [(61504, 61504), (61508, 61508), (61513, 61516), (94275, 94276)], [([], none, [(61504, w_n 0 0 0), (61508, w_n 0 0 0), (61513, w_n 11 11 0), (61514, w_n 1 1 0), (61515, w_n 0 0 0), (61516, w_n 0 0 0), (94275, w_n 0 0 0), (94276, w_n 0 0 0)])], 1)
abbrev x_Told_clear_0 : w_E := e_14
/-- GoodbyeQuay$Tape.byteAt -/
def e_15 : w_E := (151, [w_r 3, w_t 0], [], [], [([], some (w_g 2147483647 2147483903 0), [])], 1)
abbrev x_Tape_byteAt_0 : w_E := e_15
/-- GoodbyeQuay$Reader.isBlank -/
def e_16 : w_E := (108, [w_g 2147483647 2147483903 0], [], [], [([(0, (2147483658, 2147483680))], some (w_n 1 1 0), []), ([], some (w_n 0 0 0), [])], 1)
abbrev x_Reader_isBlank_0 : w_E := e_16
/-- GoodbyeQuay$Reader.isLetter -/
def e_17 : w_E := (110, [w_n 0 255 0], [], [], [([], some (w_n 0 0 0), []), ([(0, (2147483745, 2147483770))], some (w_n 1 1 0), [])], 1)
abbrev x_Reader_isLetter_0 : w_E := e_17
/-- GoodbyeQuay$Reader.isDigit -/
def e_18 : w_E := (109, [w_n 0 255 0], [], [], [([], some (w_n 0 0 0), []), ([(0, (2147483696, 2147483705))], some (w_n 1 1 0), [])], 1)
abbrev x_Reader_isDigit_0 : w_E := e_18
/-- GoodbyeQuay$Reader.isLetter -/
def e_19 : w_E := (110, [w_g 2147483647 2147483903 0], [], [], [([], some (w_n 0 0 0), []), ([(0, (2147483745, 2147483770))], some (w_n 1 1 0), [])], 1)
abbrev x_Reader_isLetter_1 : w_E := e_19
/-- GoodbyeQuay$Reader.refuse -/
def e_20 : w_E := (127, [w_r 29, w_n 1 5 0], [], [(110660, 110660), (110664, 110665)], [([], none, [(110660, w_n 276 276 0), (110664, w_n 1 5 0)])], 1)
abbrev x_Reader_refuse_0 : w_E := e_20
/-- GoodbyeQuay$Reader.takeWord -/
def e_21 : w_E := (129, [w_r 29], [], [(110658, 110658), (110660, 110660), (110662, 110662), (110664, 110665)], [([], none, [(110660, w_n 273 276 0)])], 2)
abbrev x_Reader_takeWord_0 : w_E := e_21
/-- GoodbyeQuay$Reader.kindOfWord (by hand) -/
def e_22 : w_E := (112, [w_r 29], [], [], [([], some (w_n 256 273 0), [])], 20)
abbrev x_Reader_kindOfWord_0 : w_E := e_22
/-- GoodbyeQuay$Reader.isDigit -/
def e_23 : w_E := (109, [w_g 2147483647 2147483903 0], [], [], [([], some (w_n 0 0 0), []), ([(0, (2147483696, 2147483705))], some (w_n 1 1 0), [])], 1)
abbrev x_Reader_isDigit_1 : w_E := e_23
/-- GoodbyeQuay$Reader.takeNumber -/
def e_24 : w_E := (128, [w_r 29], [], [(110658, 110658), (110660, 110661), (110664, 110665)], [([], none, [(110660, w_n 274 276 0)])], 2)
abbrev x_Reader_takeNumber_0 : w_E := e_24
/-- GoodbyeQuay$Reader.advance (by hand) -/
def e_25 : w_E := (105, [w_r 29], [], [(110658, 110662), (110664, 110665)], [([], none, [])], 21)
abbrev x_Reader_advance_0 : w_E := e_25
/-- GoodbyeQuay$Reader.find -/
def e_26 : w_E := (107, [w_r 18, w_n 0 4 0, w_l], [], [], [([], some (w_g 2147483647 2147483651 0), [])], 1)
abbrev x_Reader_find_0 : w_E := e_26
/-- GoodbyeQuay$Reader.readNewName -/
def e_27 : w_E := (117, [w_r 29, w_r 18, w_n 0 4 0], [], [(110658, 110662), (110664, 110665)], [([], some (w_l), [])], 22)
abbrev x_Reader_readNewName_0 : w_E := e_27
/-- GoodbyeQuay$Reader.expect -/
def e_28 : w_E := (106, [w_r 29, w_n 59 268 0], [], [(110658, 110662), (110664, 110665)], [([], none, [])], 22)
abbrev x_Reader_expect_0 : w_E := e_28
/-- GoodbyeQuay$Reader.readNumber -/
def e_29 : w_E := (118, [w_r 29, w_n 0 0 0, w_n 240 240 0], [], [(110658, 110662), (110664, 110665)], [([], some (w_n 0 240 0), [])], 22)
abbrev x_Reader_readNumber_0 : w_E := e_29
/-- GoodbyeQuay$Reader.readNumber -/
def e_30 : w_E := (118, [w_r 29, w_n 0 0 0, w_n 60 60 0], [], [(110658, 110662), (110664, 110665)], [([], some (w_n 0 60 0), [])], 22)
abbrev x_Reader_readNumber_1 : w_E := e_30
/-- GoodbyeQuay$Reader.readShip -/
def e_31 : w_E := (122, [w_r 29], [(110657, w_r 17)], [(61504, 61504), (65600, 65604), (69696, 69700), (73792, 73796), (110658, 110662), (110664, 110665)], [([], none, [(61504, w_n 1 5 0)])], 23)
abbrev x_Reader_readShip_0 : w_E := e_31
/-- GoodbyeQuay$Reader.find -/
def e_32 : w_E := (107, [w_r 21, w_n 0 6 0, w_l], [], [], [([], some (w_g 2147483647 2147483653 0), [])], 1)
abbrev x_Reader_find_1 : w_E := e_32
/-- GoodbyeQuay$Reader.readNewName -/
def e_33 : w_E := (117, [w_r 29, w_r 21, w_n 0 6 0], [], [(110658, 110662), (110664, 110665)], [([], some (w_l), [])], 22)
abbrev x_Reader_readNewName_1 : w_E := e_33
/-- GoodbyeQuay$Reader.find -/
def e_34 : w_E := (107, [w_r 18, w_n 0 5 0, w_l], [], [], [([], some (w_g 2147483647 2147483652 0), [])], 1)
abbrev x_Reader_find_2 : w_E := e_34
/-- GoodbyeQuay$Reader.readShipName -/
def e_35 : w_E := (123, [w_r 29], [(110657, w_r 17)], [(110658, 110662), (110664, 110665)], [([], some (w_n 0 4 0), [])], 22)
abbrev x_Reader_readShipName_0 : w_E := e_35
/-- GoodbyeQuay$Reader.readNumber -/
def e_36 : w_E := (118, [w_r 29, w_n 1 1 0, w_n 30 30 0], [], [(110658, 110662), (110664, 110665)], [([], some (w_n 1 30 0), [])], 22)
abbrev x_Reader_readNumber_2 : w_E := e_36
/-- GoodbyeQuay$Reader.readNumber -/
def e_37 : w_E := (118, [w_r 29, w_n 0 0 0, w_n 20 20 0], [], [(110658, 110662), (110664, 110665)], [([], some (w_n 0 20 0), [])], 22)
abbrev x_Reader_readNumber_3 : w_E := e_37
/-- GoodbyeQuay$Reader.readPair -/
def e_38 : w_E := (121, [w_r 29], [(110657, w_r 17)], [(61508, 61508), (77888, 77894), (81984, 81990), (86080, 86086), (90176, 90182), (110658, 110662), (110664, 110665)], [([], none, [(61508, w_n 1 7 0)])], 23)
abbrev x_Reader_readPair_0 : w_E := e_38
/-- GoodbyeQuay$Reader.readNumber -/
def e_39 : w_E := (118, [w_r 29, w_n 1 1 0, w_n 60 60 0], [], [(110658, 110662), (110664, 110665)], [([], some (w_n 1 60 0), [])], 22)
abbrev x_Reader_readNumber_4 : w_E := e_39
/-- GoodbyeQuay$Reader.readNumber -/
def e_40 : w_E := (118, [w_r 29, w_n 1 1 0, w_n 2 2 0], [], [(110658, 110662), (110664, 110665)], [([], some (w_n 1 2 0), [])], 22)
abbrev x_Reader_readNumber_5 : w_E := e_40
/-- GoodbyeQuay$Reader.readNumber -/
def e_41 : w_E := (118, [w_r 29, w_n 0 0 0, w_n 100 100 0], [], [(110658, 110662), (110664, 110665)], [([], some (w_n 0 100 0), [])], 22)
abbrev x_Reader_readNumber_6 : w_E := e_41
/-- GoodbyeQuay$Reader.isValueWord -/
def e_42 : w_E := (111, [w_n 0 276 0], [], [], [([], some (w_n 0 0 0), []), ([(0, (2147483910, 2147483915))], some (w_n 1 1 0), [])], 1)
abbrev x_Reader_isValueWord_0 : w_E := e_42
/-- GoodbyeQuay$Formula.add -/
def e_43 : w_E := (84, [w_r 25, w_t 0], [], [(94275, 94275), (98368, 98637)], [([], none, [])], 1)
abbrev x_Formula_add_0 : w_E := e_43
/-- GoodbyeQuay$Reader.readUnit -/
def e_44 : w_E := (126, [w_r 29, w_n 7 7 0], [(110657, w_r 17)], [(94275, 94276), (98368, 98637), (110658, 110662), (110664, 110665)], [([], none, [])], 22)
abbrev x_Reader_readUnit_0 : w_E := e_44
/-- GoodbyeQuay$Reader.readTerm -/
def e_45 : w_E := (125, [w_r 29, w_n 7 7 0], [(110657, w_r 17)], [(94275, 94276), (98368, 98637), (110658, 110662), (110664, 110665)], [([], none, [])], 23)
abbrev x_Reader_readTerm_0 : w_E := e_45
/-- GoodbyeQuay$Reader.readSum -/
def e_46 : w_E := (124, [w_r 29, w_n 7 7 0], [(110657, w_r 17)], [(94275, 94276), (98368, 98637), (110658, 110662), (110664, 110665)], [([], none, [])], 24)
abbrev x_Reader_readSum_0 : w_E := e_46
/-- GoodbyeQuay$Reader.readOne -/
def e_47 : w_E := (120, [w_r 29, w_n 7 7 0], [(110657, w_r 17)], [(94275, 94276), (98368, 98637), (110658, 110662), (110664, 110665)], [([], none, [])], 25)
abbrev x_Reader_readOne_0 : w_E := e_47
/-- GoodbyeQuay$Reader.readBoth -/
def e_48 : w_E := (113, [w_r 29, w_n 7 7 0], [(110657, w_r 17)], [(94275, 94276), (98368, 98637), (110658, 110662), (110664, 110665)], [([], none, [])], 26)
abbrev x_Reader_readBoth_0 : w_E := e_48
/-- GoodbyeQuay$Reader.readFormula -/
def e_49 : w_E := (114, [w_r 29, w_n 7 7 0], [(110657, w_r 17)], [(94275, 94276), (98368, 98637), (110658, 110662), (110664, 110665)], [([], none, [])], 27)
abbrev x_Reader_readFormula_0 : w_E := e_49
/-- GoodbyeQuay$Reader.readUnit -/
def e_50 : w_E := (126, [w_r 29, w_n 6 6 0], [(110657, w_r 17)], [(94275, 94276), (98368, 98637), (110658, 110662), (110664, 110665)], [([], none, [])], 28)
abbrev x_Reader_readUnit_1 : w_E := e_50
/-- GoodbyeQuay$Reader.readTerm -/
def e_51 : w_E := (125, [w_r 29, w_n 6 6 0], [(110657, w_r 17)], [(94275, 94276), (98368, 98637), (110658, 110662), (110664, 110665)], [([], none, [])], 29)
abbrev x_Reader_readTerm_1 : w_E := e_51
/-- GoodbyeQuay$Reader.readSum -/
def e_52 : w_E := (124, [w_r 29, w_n 6 6 0], [(110657, w_r 17)], [(94275, 94276), (98368, 98637), (110658, 110662), (110664, 110665)], [([], none, [])], 30)
abbrev x_Reader_readSum_1 : w_E := e_52
/-- GoodbyeQuay$Reader.readOne -/
def e_53 : w_E := (120, [w_r 29, w_n 6 6 0], [(110657, w_r 17)], [(94275, 94276), (98368, 98637), (110658, 110662), (110664, 110665)], [([], none, [])], 31)
abbrev x_Reader_readOne_1 : w_E := e_53
/-- GoodbyeQuay$Reader.readBoth -/
def e_54 : w_E := (113, [w_r 29, w_n 6 6 0], [(110657, w_r 17)], [(94275, 94276), (98368, 98637), (110658, 110662), (110664, 110665)], [([], none, [])], 32)
abbrev x_Reader_readBoth_1 : w_E := e_54
/-- GoodbyeQuay$Reader.readFormula -/
def e_55 : w_E := (114, [w_r 29, w_n 6 6 0], [(110657, w_r 17)], [(94275, 94276), (98368, 98637), (110658, 110662), (110664, 110665)], [([], none, [])], 33)
abbrev x_Reader_readFormula_1 : w_E := e_55
/-- GoodbyeQuay$Reader.readUnit -/
def e_56 : w_E := (126, [w_r 29, w_n 5 5 0], [(110657, w_r 17)], [(94275, 94276), (98368, 98637), (110658, 110662), (110664, 110665)], [([], none, [])], 34)
abbrev x_Reader_readUnit_2 : w_E := e_56
/-- GoodbyeQuay$Reader.readTerm -/
def e_57 : w_E := (125, [w_r 29, w_n 5 5 0], [(110657, w_r 17)], [(94275, 94276), (98368, 98637), (110658, 110662), (110664, 110665)], [([], none, [])], 35)
abbrev x_Reader_readTerm_2 : w_E := e_57
/-- GoodbyeQuay$Reader.readSum -/
def e_58 : w_E := (124, [w_r 29, w_n 5 5 0], [(110657, w_r 17)], [(94275, 94276), (98368, 98637), (110658, 110662), (110664, 110665)], [([], none, [])], 36)
abbrev x_Reader_readSum_2 : w_E := e_58
/-- GoodbyeQuay$Reader.readOne -/
def e_59 : w_E := (120, [w_r 29, w_n 5 5 0], [(110657, w_r 17)], [(94275, 94276), (98368, 98637), (110658, 110662), (110664, 110665)], [([], none, [])], 37)
abbrev x_Reader_readOne_2 : w_E := e_59
/-- GoodbyeQuay$Reader.readBoth -/
def e_60 : w_E := (113, [w_r 29, w_n 5 5 0], [(110657, w_r 17)], [(94275, 94276), (98368, 98637), (110658, 110662), (110664, 110665)], [([], none, [])], 38)
abbrev x_Reader_readBoth_2 : w_E := e_60
/-- GoodbyeQuay$Reader.readFormula -/
def e_61 : w_E := (114, [w_r 29, w_n 5 5 0], [(110657, w_r 17)], [(94275, 94276), (98368, 98637), (110658, 110662), (110664, 110665)], [([], none, [])], 39)
abbrev x_Reader_readFormula_2 : w_E := e_61
/-- GoodbyeQuay$Reader.readUnit -/
def e_62 : w_E := (126, [w_r 29, w_n 4 4 0], [(110657, w_r 17)], [(94275, 94276), (98368, 98637), (110658, 110662), (110664, 110665)], [([], none, [])], 40)
abbrev x_Reader_readUnit_3 : w_E := e_62
/-- GoodbyeQuay$Reader.readTerm -/
def e_63 : w_E := (125, [w_r 29, w_n 4 4 0], [(110657, w_r 17)], [(94275, 94276), (98368, 98637), (110658, 110662), (110664, 110665)], [([], none, [])], 41)
abbrev x_Reader_readTerm_3 : w_E := e_63
/-- GoodbyeQuay$Reader.readSum -/
def e_64 : w_E := (124, [w_r 29, w_n 4 4 0], [(110657, w_r 17)], [(94275, 94276), (98368, 98637), (110658, 110662), (110664, 110665)], [([], none, [])], 42)
abbrev x_Reader_readSum_3 : w_E := e_64
/-- GoodbyeQuay$Reader.readOne -/
def e_65 : w_E := (120, [w_r 29, w_n 4 4 0], [(110657, w_r 17)], [(94275, 94276), (98368, 98637), (110658, 110662), (110664, 110665)], [([], none, [])], 43)
abbrev x_Reader_readOne_3 : w_E := e_65
/-- GoodbyeQuay$Reader.readBoth -/
def e_66 : w_E := (113, [w_r 29, w_n 4 4 0], [(110657, w_r 17)], [(94275, 94276), (98368, 98637), (110658, 110662), (110664, 110665)], [([], none, [])], 44)
abbrev x_Reader_readBoth_3 : w_E := e_66
/-- GoodbyeQuay$Reader.readFormula -/
def e_67 : w_E := (114, [w_r 29, w_n 4 4 0], [(110657, w_r 17)], [(94275, 94276), (98368, 98637), (110658, 110662), (110664, 110665)], [([], none, [])], 45)
abbrev x_Reader_readFormula_3 : w_E := e_67
/-- GoodbyeQuay$Reader.readUnit -/
def e_68 : w_E := (126, [w_r 29, w_n 3 3 0], [(110657, w_r 17)], [(94275, 94276), (98368, 98637), (110658, 110662), (110664, 110665)], [([], none, [])], 46)
abbrev x_Reader_readUnit_4 : w_E := e_68
/-- GoodbyeQuay$Reader.readTerm -/
def e_69 : w_E := (125, [w_r 29, w_n 3 3 0], [(110657, w_r 17)], [(94275, 94276), (98368, 98637), (110658, 110662), (110664, 110665)], [([], none, [])], 47)
abbrev x_Reader_readTerm_4 : w_E := e_69
/-- GoodbyeQuay$Reader.readSum -/
def e_70 : w_E := (124, [w_r 29, w_n 3 3 0], [(110657, w_r 17)], [(94275, 94276), (98368, 98637), (110658, 110662), (110664, 110665)], [([], none, [])], 48)
abbrev x_Reader_readSum_4 : w_E := e_70
/-- GoodbyeQuay$Reader.readOne -/
def e_71 : w_E := (120, [w_r 29, w_n 3 3 0], [(110657, w_r 17)], [(94275, 94276), (98368, 98637), (110658, 110662), (110664, 110665)], [([], none, [])], 49)
abbrev x_Reader_readOne_4 : w_E := e_71
/-- GoodbyeQuay$Reader.readBoth -/
def e_72 : w_E := (113, [w_r 29, w_n 3 3 0], [(110657, w_r 17)], [(94275, 94276), (98368, 98637), (110658, 110662), (110664, 110665)], [([], none, [])], 50)
abbrev x_Reader_readBoth_4 : w_E := e_72
/-- GoodbyeQuay$Reader.readFormula -/
def e_73 : w_E := (114, [w_r 29, w_n 3 3 0], [(110657, w_r 17)], [(94275, 94276), (98368, 98637), (110658, 110662), (110664, 110665)], [([], none, [])], 51)
abbrev x_Reader_readFormula_4 : w_E := e_73
/-- GoodbyeQuay$Reader.readUnit -/
def e_74 : w_E := (126, [w_r 29, w_n 2 2 0], [(110657, w_r 17)], [(94275, 94276), (98368, 98637), (110658, 110662), (110664, 110665)], [([], none, [])], 52)
abbrev x_Reader_readUnit_5 : w_E := e_74
/-- GoodbyeQuay$Reader.readTerm -/
def e_75 : w_E := (125, [w_r 29, w_n 2 2 0], [(110657, w_r 17)], [(94275, 94276), (98368, 98637), (110658, 110662), (110664, 110665)], [([], none, [])], 53)
abbrev x_Reader_readTerm_5 : w_E := e_75
/-- GoodbyeQuay$Reader.readSum -/
def e_76 : w_E := (124, [w_r 29, w_n 2 2 0], [(110657, w_r 17)], [(94275, 94276), (98368, 98637), (110658, 110662), (110664, 110665)], [([], none, [])], 54)
abbrev x_Reader_readSum_5 : w_E := e_76
/-- GoodbyeQuay$Reader.readOne -/
def e_77 : w_E := (120, [w_r 29, w_n 2 2 0], [(110657, w_r 17)], [(94275, 94276), (98368, 98637), (110658, 110662), (110664, 110665)], [([], none, [])], 55)
abbrev x_Reader_readOne_5 : w_E := e_77
/-- GoodbyeQuay$Reader.readBoth -/
def e_78 : w_E := (113, [w_r 29, w_n 2 2 0], [(110657, w_r 17)], [(94275, 94276), (98368, 98637), (110658, 110662), (110664, 110665)], [([], none, [])], 56)
abbrev x_Reader_readBoth_5 : w_E := e_78
/-- GoodbyeQuay$Reader.readFormula -/
def e_79 : w_E := (114, [w_r 29, w_n 2 2 0], [(110657, w_r 17)], [(94275, 94276), (98368, 98637), (110658, 110662), (110664, 110665)], [([], none, [])], 57)
abbrev x_Reader_readFormula_5 : w_E := e_79
/-- GoodbyeQuay$Reader.readUnit -/
def e_80 : w_E := (126, [w_r 29, w_n 1 1 0], [(110657, w_r 17)], [(94275, 94276), (98368, 98637), (110658, 110662), (110664, 110665)], [([], none, [])], 58)
abbrev x_Reader_readUnit_6 : w_E := e_80
/-- GoodbyeQuay$Reader.readTerm -/
def e_81 : w_E := (125, [w_r 29, w_n 1 1 0], [(110657, w_r 17)], [(94275, 94276), (98368, 98637), (110658, 110662), (110664, 110665)], [([], none, [])], 59)
abbrev x_Reader_readTerm_6 : w_E := e_81
/-- GoodbyeQuay$Reader.readSum -/
def e_82 : w_E := (124, [w_r 29, w_n 1 1 0], [(110657, w_r 17)], [(94275, 94276), (98368, 98637), (110658, 110662), (110664, 110665)], [([], none, [])], 60)
abbrev x_Reader_readSum_6 : w_E := e_82
/-- GoodbyeQuay$Reader.readOne -/
def e_83 : w_E := (120, [w_r 29, w_n 1 1 0], [(110657, w_r 17)], [(94275, 94276), (98368, 98637), (110658, 110662), (110664, 110665)], [([], none, [])], 61)
abbrev x_Reader_readOne_6 : w_E := e_83
/-- GoodbyeQuay$Reader.readBoth -/
def e_84 : w_E := (113, [w_r 29, w_n 1 1 0], [(110657, w_r 17)], [(94275, 94276), (98368, 98637), (110658, 110662), (110664, 110665)], [([], none, [])], 62)
abbrev x_Reader_readBoth_6 : w_E := e_84
/-- GoodbyeQuay$Reader.readFormula -/
def e_85 : w_E := (114, [w_r 29, w_n 1 1 0], [(110657, w_r 17)], [(94275, 94276), (98368, 98637), (110658, 110662), (110664, 110665)], [([], none, [])], 63)
abbrev x_Reader_readFormula_6 : w_E := e_85
/-- GoodbyeQuay$Reader.readUnit -/
def e_86 : w_E := (126, [w_r 29, w_n 0 0 0], [(110657, w_r 17)], [(94275, 94276), (98368, 98637), (110658, 110662), (110664, 110665)], [([], none, [])], 64)
abbrev x_Reader_readUnit_7 : w_E := e_86
/-- GoodbyeQuay$Reader.readTerm -/
def e_87 : w_E := (125, [w_r 29, w_n 0 0 0], [(110657, w_r 17)], [(94275, 94276), (98368, 98637), (110658, 110662), (110664, 110665)], [([], none, [])], 65)
abbrev x_Reader_readTerm_7 : w_E := e_87
/-- GoodbyeQuay$Reader.readSum -/
def e_88 : w_E := (124, [w_r 29, w_n 0 0 0], [(110657, w_r 17)], [(94275, 94276), (98368, 98637), (110658, 110662), (110664, 110665)], [([], none, [])], 66)
abbrev x_Reader_readSum_7 : w_E := e_88
/-- GoodbyeQuay$Reader.readOne -/
def e_89 : w_E := (120, [w_r 29, w_n 0 0 0], [(110657, w_r 17)], [(94275, 94276), (98368, 98637), (110658, 110662), (110664, 110665)], [([], none, [])], 67)
abbrev x_Reader_readOne_7 : w_E := e_89
/-- GoodbyeQuay$Reader.readBoth -/
def e_90 : w_E := (113, [w_r 29, w_n 0 0 0], [(110657, w_r 17)], [(94275, 94276), (98368, 98637), (110658, 110662), (110664, 110665)], [([], none, [])], 68)
abbrev x_Reader_readBoth_7 : w_E := e_90
/-- GoodbyeQuay$Reader.readFormula -/
def e_91 : w_E := (114, [w_r 29, w_n 0 0 0], [(110657, w_r 17)], [(94275, 94276), (98368, 98637), (110658, 110662), (110664, 110665)], [([], none, [])], 69)
abbrev x_Reader_readFormula_7 : w_E := e_91
/-- GoodbyeQuay$Reader.readNumber -/
def e_92 : w_E := (118, [w_r 29, w_n 0 0 0, w_n 999 999 0], [], [(110658, 110662), (110664, 110665)], [([], some (w_n 0 999 0), [])], 22)
abbrev x_Reader_readNumber_7 : w_E := e_92
/-- GoodbyeQuay$Reader.readOnce -/
def e_93 : w_E := (119, [w_r 29, w_n 258 262 0], [(110657, w_r 17)], [(61513, 61516), (94275, 94276), (98368, 98637), (110658, 110665)], [([], none, [])], 70)
abbrev x_Reader_readOnce_0 : w_E := e_93
/-- GoodbyeQuay$Reader.readLine -/
def e_94 : w_E := (116, [w_r 29], [(110657, w_r 17)], [(61504, 61504), (61508, 61508), (61513, 61516), (65600, 65604), (69696, 69700), (73792, 73796), (77888, 77894), (81984, 81990), (86080, 86086), (90176, 90182), (94275, 94276), (98368, 98637), (110658, 110665)], [([], none, [])], 71)
abbrev x_Reader_readLine_0 : w_E := e_94
/-- GoodbyeQuay$Reader.readInto -/
def e_95 : w_E := (115, [w_r 29, w_r 17], [], [(61504, 61504), (61508, 61508), (61513, 61516), (65600, 65604), (69696, 69700), (73792, 73796), (77888, 77894), (81984, 81990), (86080, 86086), (90176, 90182), (94275, 94276), (98368, 98637), (110657, 110665)], [([], some (w_n 0 0 0), [(110657, w_r 17), (110664, w_n 1 5 0)]), ([], some (w_n 1 1 0), [(110657, w_r 17), (110664, w_n 0 0 0)])], 72)
abbrev x_Reader_readInto_0 : w_E := e_95
/-- GoodbyeQuay$State.begin (by hand) -/
def e_96 : w_E := (139, [w_r 30, w_r 17], [], [(114753, 114753), (114755, 114755), (114758, 114761), (118848, 118854), (122944, 122950), (127040, 127041), (131136, 131137)], [([], none, [(114755, w_n 0 0 0), (114758, w_n 0 0 0), (114759, w_n 0 0 0), (114760, w_n 0 0 0), (114761, w_n 0 999 0), (118848, w_n 0 0 0), (118849, w_n 1 1 0), (118850, w_n 2 2 0), (118851, w_n 3 3 0), (118852, w_n 4 4 0), (118853, w_n 5 5 0), (118854, w_n 6 6 0), (122944, w_n 0 0 0), (122945, w_n 0 0 0), (122946, w_n 0 0 0), (122947, w_n 0 0 0), (122948, w_n 0 0 0), (122949, w_n 0 0 0), (122950, w_n 0 0 0), (127040, w_g 2147483647 2147483647 0), (127041, w_g 2147483647 2147483647 0), (131136, w_n 0 0 0), (131137, w_n 0 0 0)])], 1)
abbrev x_State_begin_0 : w_E := e_96
/-- GoodbyeQuay$Past.restart (by hand) -/
def e_97 : w_E := (95, [w_r 35, w_r 30], [], [(135233, 135235), (139328, 140311)], [([], none, [])], 20)
abbrev x_Past_restart_0 : w_E := e_97
/-- GoodbyeQuay.holds -/
def e_98 : w_E := (28, [w_t 0, w_n 0 4 0], [], [], [([], some (w_n 0 0 0), []), ([], some (w_n 1 1 0), [])], 1)
abbrev x_C_holds_0 : w_E := e_98
/-- GoodbyeQuay$State.hasWaited -/
def e_99 : w_E := (142, [w_r 30, w_n 0 4 0], [], [], [([], some (w_n 0 0 0), []), ([], some (w_n 1 1 0), [])], 2)
abbrev x_State_hasWaited_0 : w_E := e_99
/-- GoodbyeQuay$State.sailsOf -/
def e_100 : w_E := (148, [w_r 30, w_r 17, w_n 0 4 0], [], [], [([], some (w_n 0 300 0), [])], 3)
abbrev x_State_sailsOf_0 : w_E := e_100
/-- GoodbyeQuay$State.bitsOf -/
def e_101 : w_E := (140, [w_r 30, w_n 0 3 0, w_n 0 7 0], [], [], [([], some (w_n 0 127 0), [])], 1)
abbrev x_State_bitsOf_0 : w_E := e_101
/-- GoodbyeQuay$Trial.open -/
def e_102 : w_E := (164, [w_r 38, w_r 17, w_r 30], [], [(147520, 147520), (147522, 147522), (147526, 147528), (147530, 147530), (147534, 147535), (151616, 151622), (155712, 155719), (159808, 159812), (163904, 163906), (168000, 168002)], [([], none, [(147520, w_r 17), (147527, w_n 1 60 0), (147528, w_n 0 0 0), (147530, w_n 1 2 0), (163906, w_g 2147483647 2147483647 0), (168002, w_n 0 0 0)])], 4)
abbrev x_Trial_open_0 : w_E := e_102
/-- GoodbyeQuay$Trial.sailsFor -/
def e_103 : w_E := (167, [w_r 38, w_n 0 7 0], [(147520, w_r 17)], [], [([], some (w_t 0), [])], 1)
abbrev x_Trial_sailsFor_0 : w_E := e_103
/-- GoodbyeQuay$Trial.settle -/
def e_104 : w_E := (170, [w_r 38, w_n 0 7 0, w_t 0], [(147520, w_r 17)], [(147536, 147537), (180288, 180295)], [([(2, (1, 4294967295))], some (w_n 0 0 0), []), ([], some (w_n 1 1 0), [])], 2)
abbrev x_Trial_settle_0 : w_E := e_104
/-- GoodbyeQuay$Trial.openRails -/
def e_105 : w_E := (165, [w_r 38, w_n 0 60 0], [(147520, w_r 17)], [(147536, 147537), (172096, 172098), (176192, 176198), (180288, 180295)], [([], none, [])], 3)
abbrev x_Trial_openRails_0 : w_E := e_105
/-- GoodbyeQuay$Trial.nextRail -/
def e_106 : w_E := (163, [w_r 38], [], [], [([], some (w_n 0 2 0), [])], 1)
abbrev x_Trial_nextRail_0 : w_E := e_106
/-- GoodbyeQuay$Formula.combine -/
def e_107 : w_E := (85, [w_n 0 2147473647 0, w_t 0, w_t 0], [], [], [([], some (w_t 0), [])], 1)
abbrev x_Formula_combine_0 : w_E := e_107
/-- GoodbyeQuay$Formula.valueFor -/
def e_108 : w_E := (86, [w_r 25, w_n 0 30 0, w_n 0 20 0, w_t 0, w_g 2147483641 2147483655 0, w_n 0 2147483647 0, w_t 0], [], [(102464, 102493), (106560, 106565)], [([], some (w_t 0), [(106561, w_n 0 30 0), (106562, w_n 0 20 0), (106563, w_g 2147483641 2147483655 0), (106564, w_n 0 2147483647 0)])], 2)
abbrev x_Formula_valueFor_0 : w_E := e_108
/-- GoodbyeQuay.holds -/
def e_109 : w_E := (28, [w_t 0, w_n 0 7 0], [], [], [([], some (w_n 0 0 0), []), ([], some (w_n 1 1 0), [])], 1)
abbrev x_C_holds_1 : w_E := e_109
/-- GoodbyeQuay$Trial.lengthOf -/
def e_110 : w_E := (162, [w_r 38, w_n 0 7 0, w_g 2147483641 2147483655 0, w_t 0], [(147520, w_r 17)], [(102464, 102493), (106560, 106565)], [([], some (w_n 1 60 0), [])], 3)
abbrev x_Trial_lengthOf_0 : w_E := e_110
/-- GoodbyeQuay.nextSeed -/
def e_111 : w_E := (50, [w_t 0], [], [], [([], some (w_t 0), [])], 1)
abbrev x_C_nextSeed_0 : w_E := e_111
/-- GoodbyeQuay.quarrelOf -/
def e_112 : w_E := (56, [w_t 0, w_n 0 100 0], [], [], [([], some (w_n 0 3 0), [])], 1)
abbrev x_C_quarrelOf_0 : w_E := e_112
/-- GoodbyeQuay$Trial.take -/
def e_113 : w_E := (172, [w_r 38, w_n 0 7 0, w_n 0 2 0, w_g 2147483642 2147483655 0], [(147520, w_r 17)], [(102464, 102493), (106560, 106565), (147529, 147529), (147536, 147537), (172096, 172098), (176192, 176199), (180288, 180295)], [([], some (w_n 0 0 0), []), ([], some (w_n 1 1 0), [])], 4)
abbrev x_Trial_take_0 : w_E := e_113
/-- GoodbyeQuay$Trial.run -/
def e_114 : w_E := (166, [w_r 38, w_n 0 60 0], [(147520, w_r 17)], [(102464, 102493), (106560, 106565), (147529, 147529), (147536, 147537), (172096, 172098), (176192, 176199), (180288, 180295)], [([], none, [])], 5)
abbrev x_Trial_run_0 : w_E := e_114
/-- GoodbyeQuay$Sight.restart -/
def e_115 : w_E := (136, [w_r 57, w_r 38, w_r 17, w_r 30], [], [(102464, 102493), (106560, 106565), (147520, 147520), (147522, 147522), (147526, 147530), (147534, 147537), (151616, 151622), (155712, 155719), (159808, 159812), (163904, 163906), (168000, 168002), (172096, 172098), (176192, 176199), (180288, 180295), (225345, 225346), (249920, 250129)], [([], none, [(225345, w_n 0 0 0)])], 6)
abbrev x_Sight_restart_0 : w_E := e_115
/-- GoodbyeQuay.quay (by hand) -/
def e_116 : w_E := (57, [w_r 2], [(66, w_r 5), (67, w_r 17)], [(66, 67), (71, 71), (78, 78), (4161, 4161), (61504, 61504), (61508, 61508), (61513, 61516), (65600, 65604), (69696, 69700), (73792, 73796), (77888, 77894), (81984, 81990), (86080, 86086), (90176, 90182), (94275, 94276), (98368, 98637), (102464, 102493), (106560, 106565), (110657, 110665), (114753, 114753), (114755, 114755), (114758, 114761), (118848, 118854), (122944, 122950), (127040, 127041), (131136, 131137), (135233, 135235), (139328, 140311), (147520, 147520), (147522, 147522), (147526, 147530), (147534, 147537), (151616, 151622), (155712, 155719), (159808, 159812), (163904, 163906), (168000, 168002), (172096, 172098), (176192, 176199), (180288, 180295), (225345, 225346), (249920, 250129)], [([], some (w_g 2147483647 2147483655 0), [(4161, w_n 0 0 0), (110657, w_r 17)])], 73)
abbrev x_C_quay_0 : w_E := e_116
/-- GoodbyeQuay$Told.clear -/
def e_117 : w_E := (154, [w_r 5], [], [(12352, 12352), (12356, 12356), (12361, 12364), (45123, 45124)], [([], none, [(12352, w_n 0 0 0), (12356, w_n 0 0 0), (12361, w_n 11 11 0), (12362, w_n 1 1 0), (12363, w_n 0 0 0), (12364, w_n 0 0 0), (45123, w_n 0 0 0), (45124, w_n 0 0 0)])], 1)
abbrev x_Told_clear_1 : w_E := e_117
/-- GoodbyeQuay$Reader.find -/
def e_118 : w_E := (107, [w_r 6, w_n 0 4 0, w_l], [], [], [([], some (w_g 2147483647 2147483651 0), [])], 1)
abbrev x_Reader_find_3 : w_E := e_118
/-- GoodbyeQuay$Reader.readNewName -/
def e_119 : w_E := (117, [w_r 29, w_r 6, w_n 0 4 0], [], [(110658, 110662), (110664, 110665)], [([], some (w_l), [])], 22)
abbrev x_Reader_readNewName_2 : w_E := e_119
/-- GoodbyeQuay$Reader.readShip -/
def e_120 : w_E := (122, [w_r 29], [(110657, w_r 5)], [(12352, 12352), (16448, 16452), (20544, 20548), (24640, 24644), (110658, 110662), (110664, 110665)], [([], none, [(12352, w_n 1 5 0)])], 23)
abbrev x_Reader_readShip_1 : w_E := e_120
/-- GoodbyeQuay$Reader.find -/
def e_121 : w_E := (107, [w_r 9, w_n 0 6 0, w_l], [], [], [([], some (w_g 2147483647 2147483653 0), [])], 1)
abbrev x_Reader_find_4 : w_E := e_121
/-- GoodbyeQuay$Reader.readNewName -/
def e_122 : w_E := (117, [w_r 29, w_r 9, w_n 0 6 0], [], [(110658, 110662), (110664, 110665)], [([], some (w_l), [])], 22)
abbrev x_Reader_readNewName_3 : w_E := e_122
/-- GoodbyeQuay$Reader.find -/
def e_123 : w_E := (107, [w_r 6, w_n 0 5 0, w_l], [], [], [([], some (w_g 2147483647 2147483652 0), [])], 1)
abbrev x_Reader_find_5 : w_E := e_123
/-- GoodbyeQuay$Reader.readShipName -/
def e_124 : w_E := (123, [w_r 29], [(110657, w_r 5)], [(110658, 110662), (110664, 110665)], [([], some (w_n 0 4 0), [])], 22)
abbrev x_Reader_readShipName_1 : w_E := e_124
/-- GoodbyeQuay$Reader.readPair -/
def e_125 : w_E := (121, [w_r 29], [(110657, w_r 5)], [(12356, 12356), (28736, 28742), (32832, 32838), (36928, 36934), (41024, 41030), (110658, 110662), (110664, 110665)], [([], none, [(12356, w_n 1 7 0)])], 23)
abbrev x_Reader_readPair_1 : w_E := e_125
/-- GoodbyeQuay$Formula.add -/
def e_126 : w_E := (84, [w_r 13, w_t 0], [], [(45123, 45123), (49216, 49485)], [([], none, [])], 1)
abbrev x_Formula_add_1 : w_E := e_126
/-- GoodbyeQuay$Reader.readUnit -/
def e_127 : w_E := (126, [w_r 29, w_n 7 7 0], [(110657, w_r 5)], [(45123, 45124), (49216, 49485), (110658, 110662), (110664, 110665)], [([], none, [])], 22)
abbrev x_Reader_readUnit_8 : w_E := e_127
/-- GoodbyeQuay$Reader.readTerm -/
def e_128 : w_E := (125, [w_r 29, w_n 7 7 0], [(110657, w_r 5)], [(45123, 45124), (49216, 49485), (110658, 110662), (110664, 110665)], [([], none, [])], 23)
abbrev x_Reader_readTerm_8 : w_E := e_128
/-- GoodbyeQuay$Reader.readSum -/
def e_129 : w_E := (124, [w_r 29, w_n 7 7 0], [(110657, w_r 5)], [(45123, 45124), (49216, 49485), (110658, 110662), (110664, 110665)], [([], none, [])], 24)
abbrev x_Reader_readSum_8 : w_E := e_129
/-- GoodbyeQuay$Reader.readOne -/
def e_130 : w_E := (120, [w_r 29, w_n 7 7 0], [(110657, w_r 5)], [(45123, 45124), (49216, 49485), (110658, 110662), (110664, 110665)], [([], none, [])], 25)
abbrev x_Reader_readOne_8 : w_E := e_130
/-- GoodbyeQuay$Reader.readBoth -/
def e_131 : w_E := (113, [w_r 29, w_n 7 7 0], [(110657, w_r 5)], [(45123, 45124), (49216, 49485), (110658, 110662), (110664, 110665)], [([], none, [])], 26)
abbrev x_Reader_readBoth_8 : w_E := e_131
/-- GoodbyeQuay$Reader.readFormula -/
def e_132 : w_E := (114, [w_r 29, w_n 7 7 0], [(110657, w_r 5)], [(45123, 45124), (49216, 49485), (110658, 110662), (110664, 110665)], [([], none, [])], 27)
abbrev x_Reader_readFormula_8 : w_E := e_132
/-- GoodbyeQuay$Reader.readUnit -/
def e_133 : w_E := (126, [w_r 29, w_n 6 6 0], [(110657, w_r 5)], [(45123, 45124), (49216, 49485), (110658, 110662), (110664, 110665)], [([], none, [])], 28)
abbrev x_Reader_readUnit_9 : w_E := e_133
/-- GoodbyeQuay$Reader.readTerm -/
def e_134 : w_E := (125, [w_r 29, w_n 6 6 0], [(110657, w_r 5)], [(45123, 45124), (49216, 49485), (110658, 110662), (110664, 110665)], [([], none, [])], 29)
abbrev x_Reader_readTerm_9 : w_E := e_134
/-- GoodbyeQuay$Reader.readSum -/
def e_135 : w_E := (124, [w_r 29, w_n 6 6 0], [(110657, w_r 5)], [(45123, 45124), (49216, 49485), (110658, 110662), (110664, 110665)], [([], none, [])], 30)
abbrev x_Reader_readSum_9 : w_E := e_135
/-- GoodbyeQuay$Reader.readOne -/
def e_136 : w_E := (120, [w_r 29, w_n 6 6 0], [(110657, w_r 5)], [(45123, 45124), (49216, 49485), (110658, 110662), (110664, 110665)], [([], none, [])], 31)
abbrev x_Reader_readOne_9 : w_E := e_136
/-- GoodbyeQuay$Reader.readBoth -/
def e_137 : w_E := (113, [w_r 29, w_n 6 6 0], [(110657, w_r 5)], [(45123, 45124), (49216, 49485), (110658, 110662), (110664, 110665)], [([], none, [])], 32)
abbrev x_Reader_readBoth_9 : w_E := e_137
/-- GoodbyeQuay$Reader.readFormula -/
def e_138 : w_E := (114, [w_r 29, w_n 6 6 0], [(110657, w_r 5)], [(45123, 45124), (49216, 49485), (110658, 110662), (110664, 110665)], [([], none, [])], 33)
abbrev x_Reader_readFormula_9 : w_E := e_138
/-- GoodbyeQuay$Reader.readUnit -/
def e_139 : w_E := (126, [w_r 29, w_n 5 5 0], [(110657, w_r 5)], [(45123, 45124), (49216, 49485), (110658, 110662), (110664, 110665)], [([], none, [])], 34)
abbrev x_Reader_readUnit_10 : w_E := e_139
/-- GoodbyeQuay$Reader.readTerm -/
def e_140 : w_E := (125, [w_r 29, w_n 5 5 0], [(110657, w_r 5)], [(45123, 45124), (49216, 49485), (110658, 110662), (110664, 110665)], [([], none, [])], 35)
abbrev x_Reader_readTerm_10 : w_E := e_140
/-- GoodbyeQuay$Reader.readSum -/
def e_141 : w_E := (124, [w_r 29, w_n 5 5 0], [(110657, w_r 5)], [(45123, 45124), (49216, 49485), (110658, 110662), (110664, 110665)], [([], none, [])], 36)
abbrev x_Reader_readSum_10 : w_E := e_141
/-- GoodbyeQuay$Reader.readOne -/
def e_142 : w_E := (120, [w_r 29, w_n 5 5 0], [(110657, w_r 5)], [(45123, 45124), (49216, 49485), (110658, 110662), (110664, 110665)], [([], none, [])], 37)
abbrev x_Reader_readOne_10 : w_E := e_142
/-- GoodbyeQuay$Reader.readBoth -/
def e_143 : w_E := (113, [w_r 29, w_n 5 5 0], [(110657, w_r 5)], [(45123, 45124), (49216, 49485), (110658, 110662), (110664, 110665)], [([], none, [])], 38)
abbrev x_Reader_readBoth_10 : w_E := e_143
/-- GoodbyeQuay$Reader.readFormula -/
def e_144 : w_E := (114, [w_r 29, w_n 5 5 0], [(110657, w_r 5)], [(45123, 45124), (49216, 49485), (110658, 110662), (110664, 110665)], [([], none, [])], 39)
abbrev x_Reader_readFormula_10 : w_E := e_144
/-- GoodbyeQuay$Reader.readUnit -/
def e_145 : w_E := (126, [w_r 29, w_n 4 4 0], [(110657, w_r 5)], [(45123, 45124), (49216, 49485), (110658, 110662), (110664, 110665)], [([], none, [])], 40)
abbrev x_Reader_readUnit_11 : w_E := e_145
/-- GoodbyeQuay$Reader.readTerm -/
def e_146 : w_E := (125, [w_r 29, w_n 4 4 0], [(110657, w_r 5)], [(45123, 45124), (49216, 49485), (110658, 110662), (110664, 110665)], [([], none, [])], 41)
abbrev x_Reader_readTerm_11 : w_E := e_146
/-- GoodbyeQuay$Reader.readSum -/
def e_147 : w_E := (124, [w_r 29, w_n 4 4 0], [(110657, w_r 5)], [(45123, 45124), (49216, 49485), (110658, 110662), (110664, 110665)], [([], none, [])], 42)
abbrev x_Reader_readSum_11 : w_E := e_147
/-- GoodbyeQuay$Reader.readOne -/
def e_148 : w_E := (120, [w_r 29, w_n 4 4 0], [(110657, w_r 5)], [(45123, 45124), (49216, 49485), (110658, 110662), (110664, 110665)], [([], none, [])], 43)
abbrev x_Reader_readOne_11 : w_E := e_148
/-- GoodbyeQuay$Reader.readBoth -/
def e_149 : w_E := (113, [w_r 29, w_n 4 4 0], [(110657, w_r 5)], [(45123, 45124), (49216, 49485), (110658, 110662), (110664, 110665)], [([], none, [])], 44)
abbrev x_Reader_readBoth_11 : w_E := e_149
/-- GoodbyeQuay$Reader.readFormula -/
def e_150 : w_E := (114, [w_r 29, w_n 4 4 0], [(110657, w_r 5)], [(45123, 45124), (49216, 49485), (110658, 110662), (110664, 110665)], [([], none, [])], 45)
abbrev x_Reader_readFormula_11 : w_E := e_150
/-- GoodbyeQuay$Reader.readUnit -/
def e_151 : w_E := (126, [w_r 29, w_n 3 3 0], [(110657, w_r 5)], [(45123, 45124), (49216, 49485), (110658, 110662), (110664, 110665)], [([], none, [])], 46)
abbrev x_Reader_readUnit_12 : w_E := e_151
/-- GoodbyeQuay$Reader.readTerm -/
def e_152 : w_E := (125, [w_r 29, w_n 3 3 0], [(110657, w_r 5)], [(45123, 45124), (49216, 49485), (110658, 110662), (110664, 110665)], [([], none, [])], 47)
abbrev x_Reader_readTerm_12 : w_E := e_152
/-- GoodbyeQuay$Reader.readSum -/
def e_153 : w_E := (124, [w_r 29, w_n 3 3 0], [(110657, w_r 5)], [(45123, 45124), (49216, 49485), (110658, 110662), (110664, 110665)], [([], none, [])], 48)
abbrev x_Reader_readSum_12 : w_E := e_153
/-- GoodbyeQuay$Reader.readOne -/
def e_154 : w_E := (120, [w_r 29, w_n 3 3 0], [(110657, w_r 5)], [(45123, 45124), (49216, 49485), (110658, 110662), (110664, 110665)], [([], none, [])], 49)
abbrev x_Reader_readOne_12 : w_E := e_154
/-- GoodbyeQuay$Reader.readBoth -/
def e_155 : w_E := (113, [w_r 29, w_n 3 3 0], [(110657, w_r 5)], [(45123, 45124), (49216, 49485), (110658, 110662), (110664, 110665)], [([], none, [])], 50)
abbrev x_Reader_readBoth_12 : w_E := e_155
/-- GoodbyeQuay$Reader.readFormula -/
def e_156 : w_E := (114, [w_r 29, w_n 3 3 0], [(110657, w_r 5)], [(45123, 45124), (49216, 49485), (110658, 110662), (110664, 110665)], [([], none, [])], 51)
abbrev x_Reader_readFormula_12 : w_E := e_156
/-- GoodbyeQuay$Reader.readUnit -/
def e_157 : w_E := (126, [w_r 29, w_n 2 2 0], [(110657, w_r 5)], [(45123, 45124), (49216, 49485), (110658, 110662), (110664, 110665)], [([], none, [])], 52)
abbrev x_Reader_readUnit_13 : w_E := e_157
/-- GoodbyeQuay$Reader.readTerm -/
def e_158 : w_E := (125, [w_r 29, w_n 2 2 0], [(110657, w_r 5)], [(45123, 45124), (49216, 49485), (110658, 110662), (110664, 110665)], [([], none, [])], 53)
abbrev x_Reader_readTerm_13 : w_E := e_158
/-- GoodbyeQuay$Reader.readSum -/
def e_159 : w_E := (124, [w_r 29, w_n 2 2 0], [(110657, w_r 5)], [(45123, 45124), (49216, 49485), (110658, 110662), (110664, 110665)], [([], none, [])], 54)
abbrev x_Reader_readSum_13 : w_E := e_159
/-- GoodbyeQuay$Reader.readOne -/
def e_160 : w_E := (120, [w_r 29, w_n 2 2 0], [(110657, w_r 5)], [(45123, 45124), (49216, 49485), (110658, 110662), (110664, 110665)], [([], none, [])], 55)
abbrev x_Reader_readOne_13 : w_E := e_160
/-- GoodbyeQuay$Reader.readBoth -/
def e_161 : w_E := (113, [w_r 29, w_n 2 2 0], [(110657, w_r 5)], [(45123, 45124), (49216, 49485), (110658, 110662), (110664, 110665)], [([], none, [])], 56)
abbrev x_Reader_readBoth_13 : w_E := e_161
/-- GoodbyeQuay$Reader.readFormula -/
def e_162 : w_E := (114, [w_r 29, w_n 2 2 0], [(110657, w_r 5)], [(45123, 45124), (49216, 49485), (110658, 110662), (110664, 110665)], [([], none, [])], 57)
abbrev x_Reader_readFormula_13 : w_E := e_162
/-- GoodbyeQuay$Reader.readUnit -/
def e_163 : w_E := (126, [w_r 29, w_n 1 1 0], [(110657, w_r 5)], [(45123, 45124), (49216, 49485), (110658, 110662), (110664, 110665)], [([], none, [])], 58)
abbrev x_Reader_readUnit_14 : w_E := e_163
/-- GoodbyeQuay$Reader.readTerm -/
def e_164 : w_E := (125, [w_r 29, w_n 1 1 0], [(110657, w_r 5)], [(45123, 45124), (49216, 49485), (110658, 110662), (110664, 110665)], [([], none, [])], 59)
abbrev x_Reader_readTerm_14 : w_E := e_164
/-- GoodbyeQuay$Reader.readSum -/
def e_165 : w_E := (124, [w_r 29, w_n 1 1 0], [(110657, w_r 5)], [(45123, 45124), (49216, 49485), (110658, 110662), (110664, 110665)], [([], none, [])], 60)
abbrev x_Reader_readSum_14 : w_E := e_165
/-- GoodbyeQuay$Reader.readOne -/
def e_166 : w_E := (120, [w_r 29, w_n 1 1 0], [(110657, w_r 5)], [(45123, 45124), (49216, 49485), (110658, 110662), (110664, 110665)], [([], none, [])], 61)
abbrev x_Reader_readOne_14 : w_E := e_166
/-- GoodbyeQuay$Reader.readBoth -/
def e_167 : w_E := (113, [w_r 29, w_n 1 1 0], [(110657, w_r 5)], [(45123, 45124), (49216, 49485), (110658, 110662), (110664, 110665)], [([], none, [])], 62)
abbrev x_Reader_readBoth_14 : w_E := e_167
/-- GoodbyeQuay$Reader.readFormula -/
def e_168 : w_E := (114, [w_r 29, w_n 1 1 0], [(110657, w_r 5)], [(45123, 45124), (49216, 49485), (110658, 110662), (110664, 110665)], [([], none, [])], 63)
abbrev x_Reader_readFormula_14 : w_E := e_168
/-- GoodbyeQuay$Reader.readUnit -/
def e_169 : w_E := (126, [w_r 29, w_n 0 0 0], [(110657, w_r 5)], [(45123, 45124), (49216, 49485), (110658, 110662), (110664, 110665)], [([], none, [])], 64)
abbrev x_Reader_readUnit_15 : w_E := e_169
/-- GoodbyeQuay$Reader.readTerm -/
def e_170 : w_E := (125, [w_r 29, w_n 0 0 0], [(110657, w_r 5)], [(45123, 45124), (49216, 49485), (110658, 110662), (110664, 110665)], [([], none, [])], 65)
abbrev x_Reader_readTerm_15 : w_E := e_170
/-- GoodbyeQuay$Reader.readSum -/
def e_171 : w_E := (124, [w_r 29, w_n 0 0 0], [(110657, w_r 5)], [(45123, 45124), (49216, 49485), (110658, 110662), (110664, 110665)], [([], none, [])], 66)
abbrev x_Reader_readSum_15 : w_E := e_171
/-- GoodbyeQuay$Reader.readOne -/
def e_172 : w_E := (120, [w_r 29, w_n 0 0 0], [(110657, w_r 5)], [(45123, 45124), (49216, 49485), (110658, 110662), (110664, 110665)], [([], none, [])], 67)
abbrev x_Reader_readOne_15 : w_E := e_172
/-- GoodbyeQuay$Reader.readBoth -/
def e_173 : w_E := (113, [w_r 29, w_n 0 0 0], [(110657, w_r 5)], [(45123, 45124), (49216, 49485), (110658, 110662), (110664, 110665)], [([], none, [])], 68)
abbrev x_Reader_readBoth_15 : w_E := e_173
/-- GoodbyeQuay$Reader.readFormula -/
def e_174 : w_E := (114, [w_r 29, w_n 0 0 0], [(110657, w_r 5)], [(45123, 45124), (49216, 49485), (110658, 110662), (110664, 110665)], [([], none, [])], 69)
abbrev x_Reader_readFormula_15 : w_E := e_174
/-- GoodbyeQuay$Reader.readOnce -/
def e_175 : w_E := (119, [w_r 29, w_n 258 262 0], [(110657, w_r 5)], [(12361, 12364), (45123, 45124), (49216, 49485), (110658, 110665)], [([], none, [])], 70)
abbrev x_Reader_readOnce_1 : w_E := e_175
/-- GoodbyeQuay$Reader.readLine -/
def e_176 : w_E := (116, [w_r 29], [(110657, w_r 5)], [(12352, 12352), (12356, 12356), (12361, 12364), (16448, 16452), (20544, 20548), (24640, 24644), (28736, 28742), (32832, 32838), (36928, 36934), (41024, 41030), (45123, 45124), (49216, 49485), (110658, 110665)], [([], none, [])], 71)
abbrev x_Reader_readLine_1 : w_E := e_176
/-- GoodbyeQuay$Reader.readInto -/
def e_177 : w_E := (115, [w_r 29, w_r 5], [], [(12352, 12352), (12356, 12356), (12361, 12364), (16448, 16452), (20544, 20548), (24640, 24644), (28736, 28742), (32832, 32838), (36928, 36934), (41024, 41030), (45123, 45124), (49216, 49485), (110657, 110665)], [([], some (w_n 0 0 0), [(110657, w_r 5), (110664, w_n 1 5 0)]), ([], some (w_n 1 1 0), [(110657, w_r 5), (110664, w_n 0 0 0)])], 72)
abbrev x_Reader_readInto_1 : w_E := e_177
/-- GoodbyeQuay$State.begin (by hand) -/
def e_178 : w_E := (139, [w_r 30, w_r 5], [], [(114753, 114753), (114755, 114755), (114758, 114761), (118848, 118854), (122944, 122950), (127040, 127041), (131136, 131137)], [([], none, [(114755, w_n 0 0 0), (114758, w_n 0 0 0), (114759, w_n 0 0 0), (114760, w_n 0 0 0), (114761, w_n 0 999 0), (118848, w_n 0 0 0), (118849, w_n 1 1 0), (118850, w_n 2 2 0), (118851, w_n 3 3 0), (118852, w_n 4 4 0), (118853, w_n 5 5 0), (118854, w_n 6 6 0), (122944, w_n 0 0 0), (122945, w_n 0 0 0), (122946, w_n 0 0 0), (122947, w_n 0 0 0), (122948, w_n 0 0 0), (122949, w_n 0 0 0), (122950, w_n 0 0 0), (127040, w_g 2147483647 2147483647 0), (127041, w_g 2147483647 2147483647 0), (131136, w_n 0 0 0), (131137, w_n 0 0 0)])], 1)
abbrev x_State_begin_1 : w_E := e_178
/-- GoodbyeQuay$State.sailsOf -/
def e_179 : w_E := (148, [w_r 30, w_r 5, w_n 0 4 0], [], [], [([], some (w_n 0 300 0), [])], 3)
abbrev x_State_sailsOf_1 : w_E := e_179
/-- GoodbyeQuay$Trial.open -/
def e_180 : w_E := (164, [w_r 38, w_r 5, w_r 30], [], [(147520, 147520), (147522, 147522), (147526, 147528), (147530, 147530), (147534, 147535), (151616, 151622), (155712, 155719), (159808, 159812), (163904, 163906), (168000, 168002)], [([], none, [(147520, w_r 5), (147527, w_n 1 60 0), (147528, w_n 0 0 0), (147530, w_n 1 2 0), (163906, w_g 2147483647 2147483647 0), (168002, w_n 0 0 0)])], 4)
abbrev x_Trial_open_1 : w_E := e_180
/-- GoodbyeQuay$Trial.sailsFor -/
def e_181 : w_E := (167, [w_r 38, w_n 0 7 0], [(147520, w_r 5)], [], [([], some (w_t 0), [])], 1)
abbrev x_Trial_sailsFor_1 : w_E := e_181
/-- GoodbyeQuay$Trial.settle -/
def e_182 : w_E := (170, [w_r 38, w_n 0 7 0, w_t 0], [(147520, w_r 5)], [(147536, 147537), (180288, 180295)], [([(2, (1, 4294967295))], some (w_n 0 0 0), []), ([], some (w_n 1 1 0), [])], 2)
abbrev x_Trial_settle_1 : w_E := e_182
/-- GoodbyeQuay$Trial.openRails -/
def e_183 : w_E := (165, [w_r 38, w_n 0 60 0], [(147520, w_r 5)], [(147536, 147537), (172096, 172098), (176192, 176198), (180288, 180295)], [([], none, [])], 3)
abbrev x_Trial_openRails_1 : w_E := e_183
/-- GoodbyeQuay$Formula.valueFor -/
def e_184 : w_E := (86, [w_r 13, w_n 0 30 0, w_n 0 20 0, w_t 0, w_g 2147483641 2147483655 0, w_n 0 2147483647 0, w_t 0], [], [(53312, 53341), (57408, 57413)], [([], some (w_t 0), [(57409, w_n 0 30 0), (57410, w_n 0 20 0), (57411, w_g 2147483641 2147483655 0), (57412, w_n 0 2147483647 0)])], 2)
abbrev x_Formula_valueFor_1 : w_E := e_184
/-- GoodbyeQuay$Trial.lengthOf -/
def e_185 : w_E := (162, [w_r 38, w_n 0 7 0, w_g 2147483641 2147483655 0, w_t 0], [(147520, w_r 5)], [(53312, 53341), (57408, 57413)], [([], some (w_n 1 60 0), [])], 3)
abbrev x_Trial_lengthOf_1 : w_E := e_185
/-- GoodbyeQuay$Trial.take -/
def e_186 : w_E := (172, [w_r 38, w_n 0 7 0, w_n 0 2 0, w_g 2147483642 2147483655 0], [(147520, w_r 5)], [(53312, 53341), (57408, 57413), (147529, 147529), (147536, 147537), (172096, 172098), (176192, 176199), (180288, 180295)], [([], some (w_n 0 0 0), []), ([], some (w_n 1 1 0), [])], 4)
abbrev x_Trial_take_1 : w_E := e_186
/-- GoodbyeQuay$Trial.run -/
def e_187 : w_E := (166, [w_r 38, w_n 0 60 0], [(147520, w_r 5)], [(53312, 53341), (57408, 57413), (147529, 147529), (147536, 147537), (172096, 172098), (176192, 176199), (180288, 180295)], [([], none, [])], 5)
abbrev x_Trial_run_1 : w_E := e_187
/-- GoodbyeQuay$Sight.restart -/
def e_188 : w_E := (136, [w_r 57, w_r 38, w_r 5, w_r 30], [], [(53312, 53341), (57408, 57413), (147520, 147520), (147522, 147522), (147526, 147530), (147534, 147537), (151616, 151622), (155712, 155719), (159808, 159812), (163904, 163906), (168000, 168002), (172096, 172098), (176192, 176199), (180288, 180295), (225345, 225346), (249920, 250129)], [([], none, [(225345, w_n 0 0 0)])], 6)
abbrev x_Sight_restart_1 : w_E := e_188
/-- GoodbyeQuay.quay (by hand) -/
def e_189 : w_E := (57, [w_r 2], [(66, w_r 17), (67, w_r 5)], [(66, 67), (71, 71), (78, 78), (4161, 4161), (12352, 12352), (12356, 12356), (12361, 12364), (16448, 16452), (20544, 20548), (24640, 24644), (28736, 28742), (32832, 32838), (36928, 36934), (41024, 41030), (45123, 45124), (49216, 49485), (53312, 53341), (57408, 57413), (110657, 110665), (114753, 114753), (114755, 114755), (114758, 114761), (118848, 118854), (122944, 122950), (127040, 127041), (131136, 131137), (135233, 135235), (139328, 140311), (147520, 147520), (147522, 147522), (147526, 147530), (147534, 147537), (151616, 151622), (155712, 155719), (159808, 159812), (163904, 163906), (168000, 168002), (172096, 172098), (176192, 176199), (180288, 180295), (225345, 225346), (249920, 250129)], [([], some (w_g 2147483647 2147483655 0), [(4161, w_n 0 0 0), (110657, w_r 5)])], 73)
abbrev x_C_quay_1 : w_E := e_189
/-- GoodbyeQuay.fault -/
def e_190 : w_E := (20, [w_r 2, w_t 0], [], [], [([], some (w_t 0), [])], 1)
abbrev x_C_fault_0 : w_E := e_190
/-- GoodbyeQuay.isShip -/
def e_191 : w_E := (35, [w_r 2, w_t 0], [(66, w_r 5)], [], [([], some (w_n 0 0 0), []), ([(1, (2147483648, 2147483652))], some (w_n 1 1 0), [(12352, w_n 1 5 0)])], 1)
abbrev x_C_isShip_0 : w_E := e_191
/-- GoodbyeQuay.isGone -/
def e_192 : w_E := (33, [w_r 2, w_n 0 4 0], [(66, w_r 5)], [], [([], some (w_n 0 0 0), []), ([], some (w_n 1 1 0), [])], 4)
abbrev x_C_isGone_0 : w_E := e_192
/-- GoodbyeQuay$Told.pairsOf -/
def e_193 : w_E := (155, [w_r 5, w_n 0 4 0], [], [], [([], some (w_n 0 127 0), [])], 1)
abbrev x_Told_pairsOf_0 : w_E := e_193
/-- GoodbyeQuay.ship -/
def e_194 : w_E := (67, [w_r 2, w_t 0, w_t 0], [(66, w_r 5)], [], [([], some (w_g 2147483647 2147483948 0), [])], 5)
abbrev x_C_ship_0 : w_E := e_194
/-- GoodbyeQuay.isShip -/
def e_195 : w_E := (35, [w_r 2, w_t 0], [(66, w_r 17)], [], [([], some (w_n 0 0 0), []), ([(1, (2147483648, 2147483652))], some (w_n 1 1 0), [(61504, w_n 1 5 0)])], 1)
abbrev x_C_isShip_1 : w_E := e_195
/-- GoodbyeQuay.isGone -/
def e_196 : w_E := (33, [w_r 2, w_n 0 4 0], [(66, w_r 17)], [], [([], some (w_n 0 0 0), []), ([], some (w_n 1 1 0), [])], 4)
abbrev x_C_isGone_1 : w_E := e_196
/-- GoodbyeQuay$Told.pairsOf -/
def e_197 : w_E := (155, [w_r 17, w_n 0 4 0], [], [], [([], some (w_n 0 127 0), [])], 1)
abbrev x_Told_pairsOf_1 : w_E := e_197
/-- GoodbyeQuay.ship -/
def e_198 : w_E := (67, [w_r 2, w_t 0, w_t 0], [(66, w_r 17)], [], [([], some (w_g 2147483647 2147483948 0), [])], 5)
abbrev x_C_ship_1 : w_E := e_198
/-- GoodbyeQuay.isPair -/
def e_199 : w_E := (34, [w_r 2, w_t 0], [(66, w_r 5)], [], [([], some (w_n 0 0 0), []), ([(1, (2147483648, 2147483654))], some (w_n 1 1 0), [(12356, w_n 1 7 0)])], 1)
abbrev x_C_isPair_0 : w_E := e_199
/-- GoodbyeQuay.holds -/
def e_200 : w_E := (28, [w_t 0, w_n 0 6 0], [], [], [([], some (w_n 0 0 0), []), ([], some (w_n 1 1 0), [])], 1)
abbrev x_C_holds_2 : w_E := e_200
/-- GoodbyeQuay$State.isBrief -/
def e_201 : w_E := (143, [w_r 30, w_n 0 6 0], [], [], [([], some (w_n 0 0 0), []), ([], some (w_n 1 1 0), [])], 2)
abbrev x_State_isBrief_0 : w_E := e_201
/-- GoodbyeQuay$State.placeOf -/
def e_202 : w_E := (147, [w_r 30, w_n 0 6 0], [], [], [([], some (w_g 2147483647 2147483654 0), [])], 1)
abbrev x_State_placeOf_0 : w_E := e_202
/-- GoodbyeQuay.pair -/
def e_203 : w_E := (54, [w_r 2, w_t 0, w_t 0], [(66, w_r 5)], [], [([], some (w_g 2147483647 2147483678 0), [])], 3)
abbrev x_C_pair_0 : w_E := e_203
/-- GoodbyeQuay.isPair -/
def e_204 : w_E := (34, [w_r 2, w_t 0], [(66, w_r 17)], [], [([], some (w_n 0 0 0), []), ([(1, (2147483648, 2147483654))], some (w_n 1 1 0), [(61508, w_n 1 7 0)])], 1)
abbrev x_C_isPair_1 : w_E := e_204
/-- GoodbyeQuay.pair -/
def e_205 : w_E := (54, [w_r 2, w_t 0, w_t 0], [(66, w_r 17)], [], [([], some (w_g 2147483647 2147483678 0), [])], 3)
abbrev x_C_pair_1 : w_E := e_205
/-- GoodbyeQuay.queue -/
def e_206 : w_E := (58, [w_r 2, w_t 0], [], [], [([], some (w_g 2147483647 2147483654 0), [])], 1)
abbrev x_C_queue_0 : w_E := e_206
/-- GoodbyeQuay.rail -/
def e_207 : w_E := (59, [w_r 2, w_t 0, w_t 0], [(66, w_r 5)], [], [([], some (w_t 0), [])], 1)
abbrev x_C_rail_0 : w_E := e_207
/-- GoodbyeQuay.rail -/
def e_208 : w_E := (59, [w_r 2, w_t 0, w_t 0], [(66, w_r 17)], [], [([], some (w_t 0), [])], 1)
abbrev x_C_rail_1 : w_E := e_208
/-- GoodbyeQuay.inQueue -/
def e_209 : w_E := (30, [w_r 2, w_t 0], [(66, w_r 5)], [], [([], some (w_n 0 0 0), []), ([(1, (2147483648, 2147483654))], some (w_n 1 1 0), [(12356, w_n 1 7 0)])], 2)
abbrev x_C_inQueue_0 : w_E := e_209
/-- GoodbyeQuay.openTrial -/
def e_210 : w_E := (52, [w_r 2], [(66, w_r 5)], [(147520, 147520), (147522, 147522), (147526, 147528), (147530, 147530), (147534, 147535), (151616, 151622), (155712, 155719), (159808, 159812), (163904, 163906), (168000, 168002)], [([], none, [(147520, w_r 5), (147527, w_n 1 60 0), (147528, w_n 0 0 0), (147530, w_n 1 2 0), (163906, w_g 2147483647 2147483647 0), (168002, w_n 0 0 0)])], 5)
abbrev x_C_openTrial_0 : w_E := e_210
/-- GoodbyeQuay.lengthNow -/
def e_211 : w_E := (42, [w_r 2, w_n 0 6 0], [(66, w_r 5)], [(53312, 53341), (57408, 57413), (147520, 147520), (147522, 147522), (147526, 147528), (147530, 147530), (147534, 147535), (151616, 151622), (155712, 155719), (159808, 159812), (163904, 163906), (168000, 168002)], [([], some (w_n 1 60 0), [(147520, w_r 5), (147527, w_n 1 60 0), (147528, w_n 0 0 0), (147530, w_n 1 2 0), (163906, w_g 2147483647 2147483647 0), (168002, w_n 0 0 0)])], 6)
abbrev x_C_lengthNow_0 : w_E := e_211
/-- GoodbyeQuay.length -/
def e_212 : w_E := (41, [w_r 2, w_t 0], [(66, w_r 5)], [(53312, 53341), (57408, 57413), (147520, 147520), (147522, 147522), (147526, 147528), (147530, 147530), (147534, 147535), (151616, 151622), (155712, 155719), (159808, 159812), (163904, 163906), (168000, 168002)], [([], some (w_g 2147483647 2147483708 0), [])], 7)
abbrev x_C_length_0 : w_E := e_212
/-- GoodbyeQuay.inQueue -/
def e_213 : w_E := (30, [w_r 2, w_t 0], [(66, w_r 17)], [], [([], some (w_n 0 0 0), []), ([(1, (2147483648, 2147483654))], some (w_n 1 1 0), [(61508, w_n 1 7 0)])], 2)
abbrev x_C_inQueue_1 : w_E := e_213
/-- GoodbyeQuay.openTrial -/
def e_214 : w_E := (52, [w_r 2], [(66, w_r 17)], [(147520, 147520), (147522, 147522), (147526, 147528), (147530, 147530), (147534, 147535), (151616, 151622), (155712, 155719), (159808, 159812), (163904, 163906), (168000, 168002)], [([], none, [(147520, w_r 17), (147527, w_n 1 60 0), (147528, w_n 0 0 0), (147530, w_n 1 2 0), (163906, w_g 2147483647 2147483647 0), (168002, w_n 0 0 0)])], 5)
abbrev x_C_openTrial_1 : w_E := e_214
/-- GoodbyeQuay.lengthNow -/
def e_215 : w_E := (42, [w_r 2, w_n 0 6 0], [(66, w_r 17)], [(102464, 102493), (106560, 106565), (147520, 147520), (147522, 147522), (147526, 147528), (147530, 147530), (147534, 147535), (151616, 151622), (155712, 155719), (159808, 159812), (163904, 163906), (168000, 168002)], [([], some (w_n 1 60 0), [(147520, w_r 17), (147527, w_n 1 60 0), (147528, w_n 0 0 0), (147530, w_n 1 2 0), (163906, w_g 2147483647 2147483647 0), (168002, w_n 0 0 0)])], 6)
abbrev x_C_lengthNow_1 : w_E := e_215
/-- GoodbyeQuay.length -/
def e_216 : w_E := (41, [w_r 2, w_t 0], [(66, w_r 17)], [(102464, 102493), (106560, 106565), (147520, 147520), (147522, 147522), (147526, 147528), (147530, 147530), (147534, 147535), (151616, 151622), (155712, 155719), (159808, 159812), (163904, 163906), (168000, 168002)], [([], some (w_g 2147483647 2147483708 0), [])], 7)
abbrev x_C_length_1 : w_E := e_216
/-- GoodbyeQuay.waves -/
def e_217 : w_E := (79, [w_r 2], [], [], [([], some (w_t 0), [])], 1)
abbrev x_C_waves_0 : w_E := e_217
/-- GoodbyeQuay.soonest -/
def e_218 : w_E := (70, [w_r 2], [(66, w_r 5)], [], [([], some (w_g 2147483647 2147483652 0), [])], 5)
abbrev x_C_soonest_0 : w_E := e_218
/-- GoodbyeQuay.soonest -/
def e_219 : w_E := (70, [w_r 2], [(66, w_r 17)], [], [([], some (w_g 2147483647 2147483652 0), [])], 5)
abbrev x_C_soonest_1 : w_E := e_219
/-- GoodbyeQuay.fondest -/
def e_220 : w_E := (24, [w_r 2], [(66, w_r 5)], [], [([], some (w_g 2147483647 2147483654 0), [])], 1)
abbrev x_C_fondest_0 : w_E := e_220
/-- GoodbyeQuay.fondest -/
def e_221 : w_E := (24, [w_r 2], [(66, w_r 17)], [], [([], some (w_g 2147483647 2147483654 0), [])], 1)
abbrev x_C_fondest_1 : w_E := e_221
/-- GoodbyeQuay.aboutKept -/
def e_222 : w_E := (2, [w_r 2, w_n 8 2147483647 0], [(66, w_r 5)], [], [([], some (w_t 0), [])], 1)
abbrev x_C_aboutKept_0 : w_E := e_222
/-- GoodbyeQuay.bitsOf -/
def e_223 : w_E := (8, [w_r 2, w_n 0 3 0], [(66, w_r 5)], [], [([], some (w_n 0 127 0), [])], 2)
abbrev x_C_bitsOf_0 : w_E := e_223
/-- GoodbyeQuay.about -/
def e_224 : w_E := (1, [w_r 2, w_t 0], [(66, w_r 5)], [], [([], some (w_t 0), [])], 3)
abbrev x_C_about_0 : w_E := e_224
/-- GoodbyeQuay.aboutKept -/
def e_225 : w_E := (2, [w_r 2, w_n 8 2147483647 0], [(66, w_r 17)], [], [([], some (w_t 0), [])], 1)
abbrev x_C_aboutKept_1 : w_E := e_225
/-- GoodbyeQuay.bitsOf -/
def e_226 : w_E := (8, [w_r 2, w_n 0 3 0], [(66, w_r 17)], [], [([], some (w_n 0 127 0), [])], 2)
abbrev x_C_bitsOf_1 : w_E := e_226
/-- GoodbyeQuay.about -/
def e_227 : w_E := (1, [w_r 2, w_t 0], [(66, w_r 17)], [], [([], some (w_t 0), [])], 3)
abbrev x_C_about_1 : w_E := e_227
/-- GoodbyeQuay$State.isEmpty -/
def e_228 : w_E := (144, [w_r 30], [], [], [([], some (w_n 0 0 0), []), ([], some (w_n 1 1 0), [])], 1)
abbrev x_State_isEmpty_0 : w_E := e_228
/-- GoodbyeQuay$State.freeRail (by hand) -/
def e_229 : w_E := (141, [w_r 30, w_n 1 1 0, w_n 2 2 0], [(127041, w_n 0 6 0)], [(122944, 122950), (127041, 127041), (131137, 131137)], [([], none, [(127041, w_g 2147483647 2147483647 0), (131137, w_n 0 0 0)])], 1)
abbrev x_State_freeRail_0 : w_E := e_229
/-- GoodbyeQuay$State.freeRail (by hand) -/
def e_230 : w_E := (141, [w_r 30, w_n 0 0 0, w_n 2 2 0], [(127040, w_n 0 6 0)], [(122944, 122950), (127040, 127040), (131136, 131136)], [([], none, [(127040, w_g 2147483647 2147483647 0), (131136, w_n 0 0 0)])], 1)
abbrev x_State_freeRail_1 : w_E := e_230
/-- GoodbyeQuay.workRails -/
def e_231 : w_E := (82, [w_r 2], [(66, w_r 5)], [(122944, 122950), (127040, 127041), (131136, 131137)], [([], some (w_n 0 127 0), [])], 2)
abbrev x_C_workRails_0 : w_E := e_231
/-- GoodbyeQuay$State.leave (by hand) -/
def e_232 : w_E := (145, [w_r 30, w_g 2147483647 2147483654 0], [], [(114753, 114753), (118848, 118853)], [([], none, [])], 1)
abbrev x_State_leave_0 : w_E := e_232
/-- GoodbyeQuay.fillRail (by hand) -/
def e_233 : w_E := (22, [w_r 2, w_n 0 0 0], [(66, w_r 5)], [(53312, 53341), (57408, 57413), (114753, 114753), (114759, 114759), (114761, 114761), (118848, 118853), (122944, 122950), (127040, 127040), (131136, 131136), (147520, 147520), (147522, 147522), (147526, 147528), (147530, 147530), (147534, 147535), (151616, 151622), (155712, 155719), (159808, 159812), (163904, 163906), (168000, 168002)], [([], none, [])], 7)
abbrev x_C_fillRail_0 : w_E := e_233
/-- GoodbyeQuay.fillRail (by hand) -/
def e_234 : w_E := (22, [w_r 2, w_n 1 1 0], [(66, w_r 5)], [(53312, 53341), (57408, 57413), (114753, 114753), (114759, 114759), (114761, 114761), (118848, 118853), (122944, 122950), (127041, 127041), (131137, 131137), (147520, 147520), (147522, 147522), (147526, 147528), (147530, 147530), (147534, 147535), (151616, 151622), (155712, 155719), (159808, 159812), (163904, 163906), (168000, 168002)], [([], none, [])], 7)
abbrev x_C_fillRail_1 : w_E := e_234
/-- GoodbyeQuay$State.freeRail (by hand) -/
def e_235 : w_E := (141, [w_r 30, w_n 0 0 0, w_n 3 3 0], [(127040, w_n 0 6 0)], [(122944, 122950), (127040, 127040), (131136, 131136)], [([], none, [(127040, w_g 2147483647 2147483647 0), (131136, w_n 0 0 0)])], 1)
abbrev x_State_freeRail_2 : w_E := e_235
/-- GoodbyeQuay$State.freeRail (by hand) -/
def e_236 : w_E := (141, [w_r 30, w_n 1 1 0, w_n 3 3 0], [(127041, w_n 0 6 0)], [(122944, 122950), (127041, 127041), (131137, 131137)], [([], none, [(127041, w_g 2147483647 2147483647 0), (131137, w_n 0 0 0)])], 1)
abbrev x_State_freeRail_3 : w_E := e_236
/-- GoodbyeQuay.cutOffRails -/
def e_237 : w_E := (15, [w_r 2], [(66, w_r 5)], [(114759, 114759), (122944, 122950), (127040, 127041), (131136, 131137)], [([], none, [])], 5)
abbrev x_C_cutOffRails_0 : w_E := e_237
/-- GoodbyeQuay$Past.keep (by hand) -/
def e_238 : w_E := (94, [w_r 35, w_r 30], [], [(135233, 135235), (139328, 140311)], [([], none, [])], 20)
abbrev x_Past_keep_0 : w_E := e_238
/-- GoodbyeQuay.minute -/
def e_239 : w_E := (48, [w_r 2], [(66, w_r 5)], [(53312, 53341), (57408, 57413), (114753, 114753), (114759, 114761), (118848, 118853), (122944, 122950), (127040, 127041), (131136, 131137), (135233, 135235), (139328, 140311), (147520, 147520), (147522, 147522), (147526, 147528), (147530, 147530), (147534, 147535), (151616, 151622), (155712, 155719), (159808, 159812), (163904, 163906), (168000, 168002)], [([], some (w_g 2147483647 2147483775 0), [])], 21)
abbrev x_C_minute_0 : w_E := e_239
/-- GoodbyeQuay.workRails -/
def e_240 : w_E := (82, [w_r 2], [(66, w_r 17)], [(122944, 122950), (127040, 127041), (131136, 131137)], [([], some (w_n 0 127 0), [])], 2)
abbrev x_C_workRails_1 : w_E := e_240
/-- GoodbyeQuay.fillRail (by hand) -/
def e_241 : w_E := (22, [w_r 2, w_n 0 0 0], [(66, w_r 17)], [(102464, 102493), (106560, 106565), (114753, 114753), (114759, 114759), (114761, 114761), (118848, 118853), (122944, 122950), (127040, 127040), (131136, 131136), (147520, 147520), (147522, 147522), (147526, 147528), (147530, 147530), (147534, 147535), (151616, 151622), (155712, 155719), (159808, 159812), (163904, 163906), (168000, 168002)], [([], none, [])], 7)
abbrev x_C_fillRail_2 : w_E := e_241
/-- GoodbyeQuay.fillRail (by hand) -/
def e_242 : w_E := (22, [w_r 2, w_n 1 1 0], [(66, w_r 17)], [(102464, 102493), (106560, 106565), (114753, 114753), (114759, 114759), (114761, 114761), (118848, 118853), (122944, 122950), (127041, 127041), (131137, 131137), (147520, 147520), (147522, 147522), (147526, 147528), (147530, 147530), (147534, 147535), (151616, 151622), (155712, 155719), (159808, 159812), (163904, 163906), (168000, 168002)], [([], none, [])], 7)
abbrev x_C_fillRail_3 : w_E := e_242
/-- GoodbyeQuay.cutOffRails -/
def e_243 : w_E := (15, [w_r 2], [(66, w_r 17)], [(114759, 114759), (122944, 122950), (127040, 127041), (131136, 131137)], [([], none, [])], 5)
abbrev x_C_cutOffRails_1 : w_E := e_243
/-- GoodbyeQuay.minute -/
def e_244 : w_E := (48, [w_r 2], [(66, w_r 17)], [(102464, 102493), (106560, 106565), (114753, 114753), (114759, 114761), (118848, 118853), (122944, 122950), (127040, 127041), (131136, 131137), (135233, 135235), (139328, 140311), (147520, 147520), (147522, 147522), (147526, 147528), (147530, 147530), (147534, 147535), (151616, 151622), (155712, 155719), (159808, 159812), (163904, 163906), (168000, 168002)], [([], some (w_g 2147483647 2147483775 0), [])], 21)
abbrev x_C_minute_1 : w_E := e_244
/-- java/lang/Integer.bitCount (by hand) -/
def e_245 : w_E := (325, [w_n 0 255 0], [], [], [([], some (w_n 0 8 0), [])], 1)
abbrev x_J_bitCount_0 : w_E := e_245
/-- GoodbyeQuay.triedCount -/
def e_246 : w_E := (76, [w_r 2], [(147520, w_r 5)], [(53312, 53341), (57408, 57413), (147529, 147529), (147536, 147537), (172096, 172098), (176192, 176199), (180288, 180295)], [([], some (w_n 0 8 0), [])], 6)
abbrev x_C_triedCount_0 : w_E := e_246
/-- GoodbyeQuay.countNow -/
def e_247 : w_E := (14, [w_r 2], [(66, w_r 5)], [(53312, 53341), (57408, 57413), (147520, 147520), (147522, 147522), (147526, 147530), (147534, 147537), (151616, 151622), (155712, 155719), (159808, 159812), (163904, 163906), (168000, 168002), (172096, 172098), (176192, 176199), (180288, 180295)], [([], some (w_n 0 8 0), [(147520, w_r 5), (147527, w_n 1 60 0), (147528, w_n 0 0 0), (147530, w_n 1 2 0), (163906, w_g 2147483647 2147483647 0), (168002, w_n 0 0 0)])], 7)
abbrev x_C_countNow_0 : w_E := e_247
/-- GoodbyeQuay.change (by hand) -/
def e_248 : w_E := (10, [w_r 2, w_t 0, w_t 0], [(66, w_r 5)], [(53312, 53341), (57408, 57413), (118848, 118854), (135233, 135235), (139328, 140311), (147520, 147520), (147522, 147522), (147526, 147530), (147534, 147537), (151616, 151622), (155712, 155719), (159808, 159812), (163904, 163906), (168000, 168002), (172096, 172098), (176192, 176199), (180288, 180295)], [([], some (w_g 2147483647 2147483656 0), [])], 21)
abbrev x_C_change_0 : w_E := e_248
/-- GoodbyeQuay.triedCount -/
def e_249 : w_E := (76, [w_r 2], [(147520, w_r 17)], [(102464, 102493), (106560, 106565), (147529, 147529), (147536, 147537), (172096, 172098), (176192, 176199), (180288, 180295)], [([], some (w_n 0 8 0), [])], 6)
abbrev x_C_triedCount_1 : w_E := e_249
/-- GoodbyeQuay.countNow -/
def e_250 : w_E := (14, [w_r 2], [(66, w_r 17)], [(102464, 102493), (106560, 106565), (147520, 147520), (147522, 147522), (147526, 147530), (147534, 147537), (151616, 151622), (155712, 155719), (159808, 159812), (163904, 163906), (168000, 168002), (172096, 172098), (176192, 176199), (180288, 180295)], [([], some (w_n 0 8 0), [(147520, w_r 17), (147527, w_n 1 60 0), (147528, w_n 0 0 0), (147530, w_n 1 2 0), (163906, w_g 2147483647 2147483647 0), (168002, w_n 0 0 0)])], 7)
abbrev x_C_countNow_1 : w_E := e_250
/-- GoodbyeQuay.change (by hand) -/
def e_251 : w_E := (10, [w_r 2, w_t 0, w_t 0], [(66, w_r 17)], [(102464, 102493), (106560, 106565), (118848, 118854), (135233, 135235), (139328, 140311), (147520, 147520), (147522, 147522), (147526, 147530), (147534, 147537), (151616, 151622), (155712, 155719), (159808, 159812), (163904, 163906), (168000, 168002), (172096, 172098), (176192, 176199), (180288, 180295)], [([], some (w_g 2147483647 2147483656 0), [])], 21)
abbrev x_C_change_1 : w_E := e_251
/-- GoodbyeQuay.agreeOnShort -/
def e_252 : w_E := (3, [w_r 2, w_t 0, w_n 0 1 0], [(66, w_r 5)], [(53312, 53341), (57408, 57413), (114755, 114755), (135233, 135235), (139328, 140311), (147520, 147520), (147522, 147522), (147526, 147528), (147530, 147530), (147534, 147535), (151616, 151622), (155712, 155719), (159808, 159812), (163904, 163906), (168000, 168002)], [([], some (w_g 2147483647 2147483708 0), [])], 21)
abbrev x_C_agreeOnShort_0 : w_E := e_252
/-- GoodbyeQuay.shorten -/
def e_253 : w_E := (68, [w_r 2, w_t 0], [(66, w_r 5)], [(53312, 53341), (57408, 57413), (114755, 114755), (135233, 135235), (139328, 140311), (147520, 147520), (147522, 147522), (147526, 147528), (147530, 147530), (147534, 147535), (151616, 151622), (155712, 155719), (159808, 159812), (163904, 163906), (168000, 168002)], [([], some (w_g 2147483647 2147483708 0), [])], 22)
abbrev x_C_shorten_0 : w_E := e_253
/-- GoodbyeQuay.agreeOnShort -/
def e_254 : w_E := (3, [w_r 2, w_t 0, w_n 0 1 0], [(66, w_r 17)], [(102464, 102493), (106560, 106565), (114755, 114755), (135233, 135235), (139328, 140311), (147520, 147520), (147522, 147522), (147526, 147528), (147530, 147530), (147534, 147535), (151616, 151622), (155712, 155719), (159808, 159812), (163904, 163906), (168000, 168002)], [([], some (w_g 2147483647 2147483708 0), [])], 21)
abbrev x_C_agreeOnShort_1 : w_E := e_254
/-- GoodbyeQuay.shorten -/
def e_255 : w_E := (68, [w_r 2, w_t 0], [(66, w_r 17)], [(102464, 102493), (106560, 106565), (114755, 114755), (135233, 135235), (139328, 140311), (147520, 147520), (147522, 147522), (147526, 147528), (147530, 147530), (147534, 147535), (151616, 151622), (155712, 155719), (159808, 159812), (163904, 163906), (168000, 168002)], [([], some (w_g 2147483647 2147483708 0), [])], 22)
abbrev x_C_shorten_1 : w_E := e_255
/-- GoodbyeQuay.insist -/
def e_256 : w_E := (31, [w_r 2, w_t 0], [(66, w_r 5)], [(53312, 53341), (57408, 57413), (114755, 114755), (135233, 135235), (139328, 140311), (147520, 147520), (147522, 147522), (147526, 147528), (147530, 147530), (147534, 147535), (151616, 151622), (155712, 155719), (159808, 159812), (163904, 163906), (168000, 168002)], [([], some (w_g 2147483647 2147483708 0), [])], 22)
abbrev x_C_insist_0 : w_E := e_256
/-- GoodbyeQuay.insist -/
def e_257 : w_E := (31, [w_r 2, w_t 0], [(66, w_r 17)], [(102464, 102493), (106560, 106565), (114755, 114755), (135233, 135235), (139328, 140311), (147520, 147520), (147522, 147522), (147526, 147528), (147530, 147530), (147534, 147535), (151616, 151622), (155712, 155719), (159808, 159812), (163904, 163906), (168000, 168002)], [([], some (w_g 2147483647 2147483708 0), [])], 22)
abbrev x_C_insist_1 : w_E := e_257
/-- GoodbyeQuay.giveUp (by hand) -/
def e_258 : w_E := (25, [w_r 2, w_t 0], [(66, w_r 5)], [(114753, 114753), (118848, 118853), (122944, 122950), (135233, 135235), (139328, 140311)], [([], some (w_g 2147483647 2147483655 0), [])], 21)
abbrev x_C_giveUp_0 : w_E := e_258
/-- GoodbyeQuay.giveUp (by hand) -/
def e_259 : w_E := (25, [w_r 2, w_t 0], [(66, w_r 17)], [(114753, 114753), (118848, 118853), (122944, 122950), (135233, 135235), (139328, 140311)], [([], some (w_g 2147483647 2147483655 0), [])], 21)
abbrev x_C_giveUp_1 : w_E := e_259
/-- GoodbyeQuay.join (by hand) -/
def e_260 : w_E := (36, [w_r 2, w_t 0], [(66, w_r 5)], [(114753, 114753), (118848, 118854), (122944, 122950), (135233, 135235), (139328, 140311)], [([], some (w_g 2147483647 2147483654 0), [])], 21)
abbrev x_C_join_0 : w_E := e_260
/-- GoodbyeQuay.join (by hand) -/
def e_261 : w_E := (36, [w_r 2, w_t 0], [(66, w_r 17)], [(114753, 114753), (118848, 118854), (122944, 122950), (135233, 135235), (139328, 140311)], [([], some (w_g 2147483647 2147483654 0), [])], 21)
abbrev x_C_join_1 : w_E := e_261
/-- GoodbyeQuay.await -/
def e_262 : w_E := (6, [w_r 2, w_t 0], [(66, w_r 5)], [(114758, 114758), (135233, 135235), (139328, 140311)], [([], some (w_g 2147483647 2147483948 0), [])], 21)
abbrev x_C_await_0 : w_E := e_262
/-- GoodbyeQuay.await -/
def e_263 : w_E := (6, [w_r 2, w_t 0], [(66, w_r 17)], [(114758, 114758), (135233, 135235), (139328, 140311)], [([], some (w_g 2147483647 2147483948 0), [])], 21)
abbrev x_C_await_1 : w_E := e_263
/-- GoodbyeQuay$Past.takeBack (by hand) -/
def e_264 : w_E := (98, [w_r 35, w_r 30], [], [(114753, 114753), (114755, 114755), (114758, 114761), (118848, 118854), (122944, 122950), (127040, 127041), (131136, 131137), (135234, 135235)], [([], some (w_n 0 0 0), []), ([], some (w_n 1 1 0), [])], 20)
abbrev x_Past_takeBack_0 : w_E := e_264
/-- GoodbyeQuay.undo -/
def e_265 : w_E := (77, [w_r 2], [], [(114753, 114753), (114755, 114755), (114758, 114761), (118848, 118854), (122944, 122950), (127040, 127041), (131136, 131137), (135234, 135235)], [([], some (w_n 0 0 0), []), ([], some (w_n 1 1 0), [])], 21)
abbrev x_C_undo_0 : w_E := e_265
/-- GoodbyeQuay$Past.takeAgain (by hand) -/
def e_266 : w_E := (97, [w_r 35, w_r 30], [], [(114753, 114753), (114755, 114755), (114758, 114761), (118848, 118854), (122944, 122950), (127040, 127041), (131136, 131137), (135234, 135235)], [([], some (w_n 0 0 0), []), ([], some (w_n 1 1 0), [])], 20)
abbrev x_Past_takeAgain_0 : w_E := e_266
/-- GoodbyeQuay.redo -/
def e_267 : w_E := (60, [w_r 2], [], [(114753, 114753), (114755, 114755), (114758, 114761), (118848, 118854), (122944, 122950), (127040, 127041), (131136, 131137), (135234, 135235)], [([], some (w_n 0 0 0), []), ([], some (w_n 1 1 0), [])], 21)
abbrev x_C_redo_0 : w_E := e_267
/-- GoodbyeQuay.image (by hand) -/
def e_268 : w_E := (29, [w_r 2, w_t 0], [], [(71, 71), (143424, 143495)], [([], some (w_t 0), [])], 20)
abbrev x_C_image_0 : w_E := e_268
/-- GoodbyeQuay.back (by hand) -/
def e_269 : w_E := (7, [w_r 2, w_t 0], [], [(114753, 114753), (114755, 114755), (114758, 114761), (118848, 118854), (122944, 122950), (127040, 127041), (131136, 131137), (135233, 135235), (139328, 140311), (143424, 143495)], [([], some (w_t 0), [])], 20)
abbrev x_C_back_0 : w_E := e_269
/-- GoodbyeQuay.holds -/
def e_270 : w_E := (28, [w_n 0 255 0, w_n 0 6 0], [], [], [([], some (w_n 0 0 0), []), ([], some (w_n 1 1 0), [])], 1)
abbrev x_C_holds_3 : w_E := e_270
/-- GoodbyeQuay$Trial.howBehind -/
def e_271 : w_E := (160, [w_r 38, w_n 0 6 0, w_n 0 400 0], [], [], [([], some (w_n 0 3 0), [])], 2)
abbrev x_Trial_howBehind_0 : w_E := e_271
/-- GoodbyeQuay.will -/
def e_272 : w_E := (80, [w_r 2, w_t 0, w_t 0, w_t 0], [(66, w_r 5)], [(53312, 53341), (57408, 57413), (147520, 147520), (147522, 147522), (147526, 147530), (147534, 147537), (151616, 151622), (155712, 155719), (159808, 159812), (163904, 163906), (168000, 168002), (172096, 172098), (176192, 176199), (180288, 180295)], [([], some (w_g 2147483647 2147483652 0), [])], 6)
abbrev x_C_will_0 : w_E := e_272
/-- GoodbyeQuay.will -/
def e_273 : w_E := (80, [w_r 2, w_t 0, w_t 0, w_t 0], [(66, w_r 17)], [(102464, 102493), (106560, 106565), (147520, 147520), (147522, 147522), (147526, 147530), (147534, 147537), (151616, 151622), (155712, 155719), (159808, 159812), (163904, 163906), (168000, 168002), (172096, 172098), (176192, 176199), (180288, 180295)], [([], some (w_g 2147483647 2147483652 0), [])], 6)
abbrev x_C_will_1 : w_E := e_273
/-- GoodbyeQuay.holds -/
def e_274 : w_E := (28, [w_n 0 127 0, w_n 0 6 0], [], [], [([], some (w_n 0 0 0), []), ([], some (w_n 1 1 0), [])], 1)
abbrev x_C_holds_4 : w_E := e_274
/-- GoodbyeQuay$Trial.saysIn -/
def e_275 : w_E := (168, [w_r 38, w_n 0 6 0], [], [], [([], some (w_t 0), [])], 2)
abbrev x_Trial_saysIn_0 : w_E := e_275
/-- GoodbyeQuay.says -/
def e_276 : w_E := (63, [w_r 2, w_t 0], [(66, w_r 5)], [(53312, 53341), (57408, 57413), (147520, 147520), (147522, 147522), (147526, 147530), (147534, 147537), (151616, 151622), (155712, 155719), (159808, 159812), (163904, 163906), (168000, 168002), (172096, 172098), (176192, 176199), (180288, 180295)], [([], some (w_t 0), [])], 6)
abbrev x_C_says_0 : w_E := e_276
/-- GoodbyeQuay.says -/
def e_277 : w_E := (63, [w_r 2, w_t 0], [(66, w_r 17)], [(102464, 102493), (106560, 106565), (147520, 147520), (147522, 147522), (147526, 147530), (147534, 147537), (151616, 151622), (155712, 155719), (159808, 159812), (163904, 163906), (168000, 168002), (172096, 172098), (176192, 176199), (180288, 180295)], [([], some (w_t 0), [])], 6)
abbrev x_C_says_1 : w_E := e_277
/-- GoodbyeQuay$Trial.stepsIn -/
def e_278 : w_E := (171, [w_r 38, w_n 0 6 0], [], [], [([], some (w_t 0), [])], 1)
abbrev x_Trial_stepsIn_0 : w_E := e_278
/-- GoodbyeQuay.steps -/
def e_279 : w_E := (72, [w_r 2, w_t 0], [(66, w_r 5)], [(53312, 53341), (57408, 57413), (147520, 147520), (147522, 147522), (147526, 147530), (147534, 147537), (151616, 151622), (155712, 155719), (159808, 159812), (163904, 163906), (168000, 168002), (172096, 172098), (176192, 176199), (180288, 180295)], [([], some (w_t 0), [])], 6)
abbrev x_C_steps_0 : w_E := e_279
/-- GoodbyeQuay.steps -/
def e_280 : w_E := (72, [w_r 2, w_t 0], [(66, w_r 17)], [(102464, 102493), (106560, 106565), (147520, 147520), (147522, 147522), (147526, 147530), (147534, 147537), (151616, 151622), (155712, 155719), (159808, 159812), (163904, 163906), (168000, 168002), (172096, 172098), (176192, 176199), (180288, 180295)], [([], some (w_t 0), [])], 6)
abbrev x_C_steps_1 : w_E := e_280
/-- GoodbyeQuay.missing -/
def e_281 : w_E := (49, [w_r 2], [(66, w_r 5)], [(53312, 53341), (57408, 57413), (147520, 147520), (147522, 147522), (147526, 147530), (147534, 147537), (151616, 151622), (155712, 155719), (159808, 159812), (163904, 163906), (168000, 168002), (172096, 172098), (176192, 176199), (180288, 180295)], [([], some (w_n 0 255 0), [(147520, w_r 5), (147527, w_n 1 60 0), (147528, w_n 0 0 0), (147530, w_n 1 2 0), (163906, w_g 2147483647 2147483647 0), (168002, w_n 0 0 0)])], 6)
abbrev x_C_missing_0 : w_E := e_281
/-- GoodbyeQuay.missing -/
def e_282 : w_E := (49, [w_r 2], [(66, w_r 17)], [(102464, 102493), (106560, 106565), (147520, 147520), (147522, 147522), (147526, 147530), (147534, 147537), (151616, 151622), (155712, 155719), (159808, 159812), (163904, 163906), (168000, 168002), (172096, 172098), (176192, 176199), (180288, 180295)], [([], some (w_n 0 255 0), [(147520, w_r 17), (147527, w_n 1 60 0), (147528, w_n 0 0 0), (147530, w_n 1 2 0), (163906, w_g 2147483647 2147483647 0), (168002, w_n 0 0 0)])], 6)
abbrev x_C_missing_1 : w_E := e_282
/-- GoodbyeQuay$Trial.emptyIn -/
def e_283 : w_E := (157, [w_r 38], [], [], [([], some (w_t 0), [])], 1)
abbrev x_Trial_emptyIn_0 : w_E := e_283
/-- GoodbyeQuay.empty -/
def e_284 : w_E := (18, [w_r 2], [(66, w_r 5)], [(53312, 53341), (57408, 57413), (147520, 147520), (147522, 147522), (147526, 147530), (147534, 147537), (151616, 151622), (155712, 155719), (159808, 159812), (163904, 163906), (168000, 168002), (172096, 172098), (176192, 176199), (180288, 180295)], [([], some (w_t 0), [(147520, w_r 5), (147527, w_n 1 60 0), (147528, w_n 0 0 0), (147530, w_n 1 2 0), (163906, w_g 2147483647 2147483647 0), (168002, w_n 0 0 0)])], 6)
abbrev x_C_empty_0 : w_E := e_284
/-- GoodbyeQuay.empty -/
def e_285 : w_E := (18, [w_r 2], [(66, w_r 17)], [(102464, 102493), (106560, 106565), (147520, 147520), (147522, 147522), (147526, 147530), (147534, 147537), (151616, 151622), (155712, 155719), (159808, 159812), (163904, 163906), (168000, 168002), (172096, 172098), (176192, 176199), (180288, 180295)], [([], some (w_t 0), [(147520, w_r 17), (147527, w_n 1 60 0), (147528, w_n 0 0 0), (147530, w_n 1 2 0), (163906, w_g 2147483647 2147483647 0), (168002, w_n 0 0 0)])], 6)
abbrev x_C_empty_1 : w_E := e_285
/-- GoodbyeQuay.count -/
def e_286 : w_E := (12, [w_r 2], [(66, w_r 5)], [(53312, 53341), (57408, 57413), (147520, 147520), (147522, 147522), (147526, 147530), (147534, 147537), (151616, 151622), (155712, 155719), (159808, 159812), (163904, 163906), (168000, 168002), (172096, 172098), (176192, 176199), (180288, 180295)], [([], some (w_n 0 8 0), [(147520, w_r 5), (147527, w_n 1 60 0), (147528, w_n 0 0 0), (147530, w_n 1 2 0), (163906, w_g 2147483647 2147483647 0), (168002, w_n 0 0 0)])], 8)
abbrev x_C_count_0 : w_E := e_286
/-- GoodbyeQuay.count -/
def e_287 : w_E := (12, [w_r 2], [(66, w_r 17)], [(102464, 102493), (106560, 106565), (147520, 147520), (147522, 147522), (147526, 147530), (147534, 147537), (151616, 151622), (155712, 155719), (159808, 159812), (163904, 163906), (168000, 168002), (172096, 172098), (176192, 176199), (180288, 180295)], [([], some (w_n 0 8 0), [(147520, w_r 17), (147527, w_n 1 60 0), (147528, w_n 0 0 0), (147530, w_n 1 2 0), (163906, w_g 2147483647 2147483647 0), (168002, w_n 0 0 0)])], 8)
abbrev x_C_count_1 : w_E := e_287
/-- GoodbyeQuay.holds -/
def e_288 : w_E := (28, [w_n 0 255 0, w_n 0 0 0], [], [], [([], some (w_n 0 0 0), []), ([], some (w_n 1 1 0), [])], 1)
abbrev x_C_holds_5 : w_E := e_288
/-- GoodbyeQuay.loveOf -/
def e_289 : w_E := (47, [w_r 2, w_n 0 255 0], [(66, w_r 5)], [], [([], some (w_t 0), [])], 2)
abbrev x_C_loveOf_0 : w_E := e_289
/-- GoodbyeQuay.love -/
def e_290 : w_E := (46, [w_r 2], [(66, w_r 5)], [(53312, 53341), (57408, 57413), (147520, 147520), (147522, 147522), (147526, 147530), (147534, 147537), (151616, 151622), (155712, 155719), (159808, 159812), (163904, 163906), (168000, 168002), (172096, 172098), (176192, 176199), (180288, 180295)], [([], some (w_t 0), [(147520, w_r 5), (147527, w_n 1 60 0), (147528, w_n 0 0 0), (147530, w_n 1 2 0), (163906, w_g 2147483647 2147483647 0), (168002, w_n 0 0 0)])], 6)
abbrev x_C_love_0 : w_E := e_290
/-- GoodbyeQuay.loveOf -/
def e_291 : w_E := (47, [w_r 2, w_n 0 255 0], [(66, w_r 17)], [], [([], some (w_t 0), [])], 2)
abbrev x_C_loveOf_1 : w_E := e_291
/-- GoodbyeQuay.love -/
def e_292 : w_E := (46, [w_r 2], [(66, w_r 17)], [(102464, 102493), (106560, 106565), (147520, 147520), (147522, 147522), (147526, 147530), (147534, 147537), (151616, 151622), (155712, 155719), (159808, 159812), (163904, 163906), (168000, 168002), (172096, 172098), (176192, 176199), (180288, 180295)], [([], some (w_t 0), [(147520, w_r 17), (147527, w_n 1 60 0), (147528, w_n 0 0 0), (147530, w_n 1 2 0), (163906, w_g 2147483647 2147483647 0), (168002, w_n 0 0 0)])], 6)
abbrev x_C_love_1 : w_E := e_292
/-- GoodbyeQuay.litter -/
def e_293 : w_E := (45, [w_r 2], [(66, w_r 5)], [(53312, 53341), (57408, 57413), (147520, 147520), (147522, 147522), (147526, 147530), (147534, 147537), (151616, 151622), (155712, 155719), (159808, 159812), (163904, 163906), (168000, 168002), (172096, 172098), (176192, 176199), (180288, 180295)], [([], some (w_t 0), [(147520, w_r 5), (147527, w_n 1 60 0), (147528, w_n 0 0 0), (147530, w_n 1 2 0), (163906, w_g 2147483647 2147483647 0), (168002, w_n 0 0 0)])], 6)
abbrev x_C_litter_0 : w_E := e_293
/-- GoodbyeQuay.litter -/
def e_294 : w_E := (45, [w_r 2], [(66, w_r 17)], [(102464, 102493), (106560, 106565), (147520, 147520), (147522, 147522), (147526, 147530), (147534, 147537), (151616, 151622), (155712, 155719), (159808, 159812), (163904, 163906), (168000, 168002), (172096, 172098), (176192, 176199), (180288, 180295)], [([], some (w_t 0), [(147520, w_r 17), (147527, w_n 1 60 0), (147528, w_n 0 0 0), (147530, w_n 1 2 0), (163906, w_g 2147483647 2147483647 0), (168002, w_n 0 0 0)])], 6)
abbrev x_C_litter_1 : w_E := e_294
/-- GoodbyeQuay.law -/
def e_295 : w_E := (39, [w_r 2, w_t 0], [(66, w_r 5)], [(53312, 53341), (57408, 57413), (147520, 147520), (147522, 147522), (147526, 147530), (147534, 147537), (151616, 151622), (155712, 155719), (159808, 159812), (163904, 163906), (168000, 168002), (172096, 172098), (176192, 176199), (180288, 180295)], [([], some (w_g 2147483647 2147483656 0), [])], 7)
abbrev x_C_law_0 : w_E := e_295
/-- GoodbyeQuay.law -/
def e_296 : w_E := (39, [w_r 2, w_t 0], [(66, w_r 17)], [(102464, 102493), (106560, 106565), (147520, 147520), (147522, 147522), (147526, 147530), (147534, 147537), (151616, 151622), (155712, 155719), (159808, 159812), (163904, 163906), (168000, 168002), (172096, 172098), (176192, 176199), (180288, 180295)], [([], some (w_g 2147483647 2147483656 0), [])], 7)
abbrev x_C_law_1 : w_E := e_296
/-- GoodbyeQuay.second -/
def e_297 : w_E := (64, [w_r 2], [(66, w_r 5)], [(53312, 53341), (57408, 57413), (147520, 147520), (147522, 147522), (147526, 147530), (147534, 147537), (151616, 151622), (155712, 155719), (159808, 159812), (163904, 163906), (168000, 168002), (172096, 172098), (176192, 176199), (180288, 180295)], [([], some (w_n 0 8 0), [(147520, w_r 5), (147527, w_n 1 60 0), (147528, w_n 0 0 0), (147530, w_n 2 3 0), (163906, w_g 2147483647 2147483647 0), (168002, w_n 0 0 0)])], 7)
abbrev x_C_second_0 : w_E := e_297
/-- GoodbyeQuay.second -/
def e_298 : w_E := (64, [w_r 2], [(66, w_r 17)], [(102464, 102493), (106560, 106565), (147520, 147520), (147522, 147522), (147526, 147530), (147534, 147537), (151616, 151622), (155712, 155719), (159808, 159812), (163904, 163906), (168000, 168002), (172096, 172098), (176192, 176199), (180288, 180295)], [([], some (w_n 0 8 0), [(147520, w_r 17), (147527, w_n 1 60 0), (147528, w_n 0 0 0), (147530, w_n 2 3 0), (163906, w_g 2147483647 2147483647 0), (168002, w_n 0 0 0)])], 7)
abbrev x_C_second_1 : w_E := e_298
/-- GoodbyeQuay$Trial.guestSays -/
def e_299 : w_E := (159, [w_r 38, w_n 0 240 0], [(147520, w_r 5)], [(53312, 53341), (57408, 57413), (147529, 147529), (147536, 147537), (172096, 172098), (176192, 176199), (180288, 180295)], [([], some (w_n 0 0 0), []), ([], some (w_n 1 1 0), [])], 5)
abbrev x_Trial_guestSays_0 : w_E := e_299
/-- GoodbyeQuay.last -/
def e_300 : w_E := (37, [w_r 2, w_t 0, w_t 0], [(66, w_r 5)], [(53312, 53341), (57408, 57413), (147520, 147520), (147522, 147522), (147524, 147524), (147526, 147530), (147534, 147537), (151616, 151622), (155712, 155719), (159808, 159812), (163904, 163906), (168000, 168002), (172096, 172098), (176192, 176199), (180288, 180295)], [([], some (w_g 2147483647 2147483888 0), [])], 6)
abbrev x_C_last_0 : w_E := e_300
/-- GoodbyeQuay$Trial.guestSays -/
def e_301 : w_E := (159, [w_r 38, w_n 0 240 0], [(147520, w_r 17)], [(102464, 102493), (106560, 106565), (147529, 147529), (147536, 147537), (172096, 172098), (176192, 176199), (180288, 180295)], [([], some (w_n 0 0 0), []), ([], some (w_n 1 1 0), [])], 5)
abbrev x_Trial_guestSays_1 : w_E := e_301
/-- GoodbyeQuay.last -/
def e_302 : w_E := (37, [w_r 2, w_t 0, w_t 0], [(66, w_r 17)], [(102464, 102493), (106560, 106565), (147520, 147520), (147522, 147522), (147524, 147524), (147526, 147530), (147534, 147537), (151616, 151622), (155712, 155719), (159808, 159812), (163904, 163906), (168000, 168002), (172096, 172098), (176192, 176199), (180288, 180295)], [([], some (w_g 2147483647 2147483888 0), [])], 6)
abbrev x_C_last_1 : w_E := e_302
/-- GoodbyeQuay.room -/
def e_303 : w_E := (61, [w_r 2], [(66, w_r 5)], [(53312, 53341), (57408, 57413), (147520, 147520), (147522, 147522), (147526, 147530), (147534, 147537), (151616, 151622), (155712, 155719), (159808, 159812), (163904, 163906), (168000, 168002), (172096, 172098), (176192, 176199), (180288, 180295)], [([], some (w_n 0 60 0), [(147520, w_r 5), (147527, w_n 1 60 0), (147528, w_n 0 0 0), (147530, w_n 1 2 0), (163906, w_g 2147483647 2147483647 0), (168002, w_n 0 0 0)])], 6)
abbrev x_C_room_0 : w_E := e_303
/-- GoodbyeQuay.room -/
def e_304 : w_E := (61, [w_r 2], [(66, w_r 17)], [(102464, 102493), (106560, 106565), (147520, 147520), (147522, 147522), (147526, 147530), (147534, 147537), (151616, 151622), (155712, 155719), (159808, 159812), (163904, 163906), (168000, 168002), (172096, 172098), (176192, 176199), (180288, 180295)], [([], some (w_n 0 60 0), [(147520, w_r 17), (147527, w_n 1 60 0), (147528, w_n 0 0 0), (147530, w_n 1 2 0), (163906, w_g 2147483647 2147483647 0), (168002, w_n 0 0 0)])], 6)
abbrev x_C_room_1 : w_E := e_304
/-- GoodbyeQuay.lets -/
def e_305 : w_E := (43, [w_r 2, w_t 0], [(66, w_r 5)], [(53312, 53341), (57408, 57413), (147520, 147520), (147522, 147522), (147526, 147530), (147534, 147537), (151616, 151622), (155712, 155719), (159808, 159812), (163904, 163906), (168000, 168002), (172096, 172098), (176192, 176199), (180288, 180295)], [([], some (w_g 2147483647 2147483903 0), [])], 6)
abbrev x_C_lets_0 : w_E := e_305
/-- GoodbyeQuay.lets -/
def e_306 : w_E := (43, [w_r 2, w_t 0], [(66, w_r 17)], [(102464, 102493), (106560, 106565), (147520, 147520), (147522, 147522), (147526, 147530), (147534, 147537), (151616, 151622), (155712, 155719), (159808, 159812), (163904, 163906), (168000, 168002), (172096, 172098), (176192, 176199), (180288, 180295)], [([], some (w_g 2147483647 2147483903 0), [])], 6)
abbrev x_C_lets_1 : w_E := e_306
/-- GoodbyeQuay.hold -/
def e_307 : w_E := (27, [w_r 2, w_t 0], [(66, w_r 5)], [(53312, 53341), (57408, 57413), (147520, 147520), (147522, 147522), (147526, 147530), (147534, 147537), (151616, 151622), (155712, 155719), (159808, 159812), (163904, 163906), (168000, 168002), (172096, 172098), (176192, 176199), (180288, 180295)], [([], some (w_g 2147483647 2147483888 0), [])], 6)
abbrev x_C_hold_0 : w_E := e_307
/-- GoodbyeQuay.hold -/
def e_308 : w_E := (27, [w_r 2, w_t 0], [(66, w_r 17)], [(102464, 102493), (106560, 106565), (147520, 147520), (147522, 147522), (147526, 147530), (147534, 147537), (151616, 151622), (155712, 155719), (159808, 159812), (163904, 163906), (168000, 168002), (172096, 172098), (176192, 176199), (180288, 180295)], [([], some (w_g 2147483647 2147483888 0), [])], 6)
abbrev x_C_hold_1 : w_E := e_308
/-- java/lang/Integer.bitCount (by hand) -/
def e_309 : w_E := (325, [w_n 0 127 0], [], [], [([], some (w_n 0 7 0), [])], 1)
abbrev x_J_bitCount_1 : w_E := e_309
/-- GoodbyeQuay$Orders.keepIfMore -/
def e_310 : w_E := (92, [w_r 47, w_t 0], [], [(184391, 184391), (192576, 192582)], [([], none, [])], 1)
abbrev x_Orders_keepIfMore_0 : w_E := e_310
/-- GoodbyeQuay$Orders.hopeOf -/
def e_311 : w_E := (90, [w_r 47, w_n 0 127 0], [(147520, w_r 5)], [], [([], some (w_t 0), [])], 2)
abbrev x_Orders_hopeOf_0 : w_E := e_311
/-- GoodbyeQuay$Orders.isKnown -/
def e_312 : w_E := (91, [w_r 47, w_n 0 127 0, w_t 0], [], [(200768, 201791), (204864, 205887)], [([], some (w_n 1 1 0), []), ([], some (w_n 0 0 0), [])], 1)
abbrev x_Orders_isKnown_0 : w_E := e_312
/-- GoodbyeQuay$Orders.goOn -/
def e_313 : w_E := (89, [w_r 47, w_n 7 7 0, w_n 0 127 0, w_t 0], [(147520, w_r 5)], [(184391, 184391), (192576, 192582)], [([], none, [])], 2)
abbrev x_Orders_goOn_0 : w_E := e_313
/-- GoodbyeQuay$Orders.goOn -/
def e_314 : w_E := (89, [w_r 47, w_n 6 6 0, w_n 0 127 0, w_t 0], [(147520, w_r 5)], [(53312, 53341), (57408, 57413), (147529, 147529), (147536, 147537), (172096, 172098), (176192, 176199), (180288, 180295), (184391, 184391), (192576, 192582), (196678, 196678), (200768, 201791), (204864, 205887)], [([], none, [])], 5)
abbrev x_Orders_goOn_1 : w_E := e_314
/-- GoodbyeQuay$Orders.goOn -/
def e_315 : w_E := (89, [w_r 47, w_n 5 5 0, w_n 0 127 0, w_t 0], [(147520, w_r 5)], [(53312, 53341), (57408, 57413), (147529, 147529), (147536, 147537), (172096, 172098), (176192, 176199), (180288, 180295), (184391, 184391), (192576, 192582), (196677, 196678), (200768, 201791), (204864, 205887)], [([], none, [])], 6)
abbrev x_Orders_goOn_2 : w_E := e_315
/-- GoodbyeQuay$Orders.goOn -/
def e_316 : w_E := (89, [w_r 47, w_n 4 4 0, w_n 0 127 0, w_t 0], [(147520, w_r 5)], [(53312, 53341), (57408, 57413), (147529, 147529), (147536, 147537), (172096, 172098), (176192, 176199), (180288, 180295), (184391, 184391), (192576, 192582), (196676, 196678), (200768, 201791), (204864, 205887)], [([], none, [])], 7)
abbrev x_Orders_goOn_3 : w_E := e_316
/-- GoodbyeQuay$Orders.goOn -/
def e_317 : w_E := (89, [w_r 47, w_n 3 3 0, w_n 0 127 0, w_t 0], [(147520, w_r 5)], [(53312, 53341), (57408, 57413), (147529, 147529), (147536, 147537), (172096, 172098), (176192, 176199), (180288, 180295), (184391, 184391), (192576, 192582), (196675, 196678), (200768, 201791), (204864, 205887)], [([], none, [])], 8)
abbrev x_Orders_goOn_4 : w_E := e_317
/-- GoodbyeQuay$Orders.goOn -/
def e_318 : w_E := (89, [w_r 47, w_n 2 2 0, w_n 0 127 0, w_t 0], [(147520, w_r 5)], [(53312, 53341), (57408, 57413), (147529, 147529), (147536, 147537), (172096, 172098), (176192, 176199), (180288, 180295), (184391, 184391), (192576, 192582), (196674, 196678), (200768, 201791), (204864, 205887)], [([], none, [])], 9)
abbrev x_Orders_goOn_5 : w_E := e_318
/-- GoodbyeQuay$Orders.goOn -/
def e_319 : w_E := (89, [w_r 47, w_n 1 1 0, w_n 0 127 0, w_t 0], [(147520, w_r 5)], [(53312, 53341), (57408, 57413), (147529, 147529), (147536, 147537), (172096, 172098), (176192, 176199), (180288, 180295), (184391, 184391), (192576, 192582), (196673, 196678), (200768, 201791), (204864, 205887)], [([], none, [])], 10)
abbrev x_Orders_goOn_6 : w_E := e_319
/-- GoodbyeQuay$Orders.goOn -/
def e_320 : w_E := (89, [w_r 47, w_n 0 0 0, w_n 0 127 0, w_n 0 0 0], [(147520, w_r 5)], [(53312, 53341), (57408, 57413), (147529, 147529), (147536, 147537), (172096, 172098), (176192, 176199), (180288, 180295), (184391, 184391), (192576, 192582), (196672, 196678), (200768, 201791), (204864, 205887)], [([], none, [])], 11)
abbrev x_Orders_goOn_7 : w_E := e_320
/-- GoodbyeQuay$Orders.findBest -/
def e_321 : w_E := (88, [w_r 47, w_n 0 127 0], [(147520, w_r 5)], [(53312, 53341), (57408, 57413), (147529, 147529), (147536, 147537), (172096, 172098), (176192, 176199), (180288, 180295), (184390, 184391), (192576, 192582), (196672, 196678), (200768, 201791), (204864, 205887)], [([], some (w_t 0), [])], 12)
abbrev x_Orders_findBest_0 : w_E := e_321
/-- GoodbyeQuay.layBestOrder -/
def e_322 : w_E := (40, [w_r 2], [(66, w_r 5), (147520, w_r 5)], [(78, 78), (53312, 53341), (57408, 57413), (147529, 147529), (147536, 147537), (172096, 172098), (176192, 176199), (180288, 180295), (184390, 184391), (192576, 192582), (196672, 196678), (200768, 201791), (204864, 205887), (262208, 262214)], [([], some (w_t 0), [])], 13)
abbrev x_C_layBestOrder_0 : w_E := e_322
/-- GoodbyeQuay.order -/
def e_323 : w_E := (53, [w_r 2], [(66, w_r 5)], [(78, 78), (53312, 53341), (57408, 57413), (147520, 147520), (147522, 147522), (147526, 147530), (147534, 147537), (151616, 151622), (155712, 155719), (159808, 159812), (163904, 163906), (168000, 168002), (172096, 172098), (176192, 176199), (180288, 180295), (184390, 184391), (188480, 188486), (192576, 192582), (196672, 196678), (200768, 201791), (204864, 205887), (262208, 262214)], [([], some (w_t 0), [(147520, w_r 5), (147527, w_n 1 60 0), (147528, w_n 0 0 0), (147530, w_n 1 2 0), (163906, w_g 2147483647 2147483647 0), (168002, w_n 0 0 0)])], 14)
abbrev x_C_order_0 : w_E := e_323
/-- GoodbyeQuay$Orders.hopeOf -/
def e_324 : w_E := (90, [w_r 47, w_n 0 127 0], [(147520, w_r 17)], [], [([], some (w_t 0), [])], 2)
abbrev x_Orders_hopeOf_1 : w_E := e_324
/-- GoodbyeQuay$Orders.goOn -/
def e_325 : w_E := (89, [w_r 47, w_n 7 7 0, w_n 0 127 0, w_t 0], [(147520, w_r 17)], [(184391, 184391), (192576, 192582)], [([], none, [])], 2)
abbrev x_Orders_goOn_8 : w_E := e_325
/-- GoodbyeQuay$Orders.goOn -/
def e_326 : w_E := (89, [w_r 47, w_n 6 6 0, w_n 0 127 0, w_t 0], [(147520, w_r 17)], [(102464, 102493), (106560, 106565), (147529, 147529), (147536, 147537), (172096, 172098), (176192, 176199), (180288, 180295), (184391, 184391), (192576, 192582), (196678, 196678), (200768, 201791), (204864, 205887)], [([], none, [])], 5)
abbrev x_Orders_goOn_9 : w_E := e_326
/-- GoodbyeQuay$Orders.goOn -/
def e_327 : w_E := (89, [w_r 47, w_n 5 5 0, w_n 0 127 0, w_t 0], [(147520, w_r 17)], [(102464, 102493), (106560, 106565), (147529, 147529), (147536, 147537), (172096, 172098), (176192, 176199), (180288, 180295), (184391, 184391), (192576, 192582), (196677, 196678), (200768, 201791), (204864, 205887)], [([], none, [])], 6)
abbrev x_Orders_goOn_10 : w_E := e_327
/-- GoodbyeQuay$Orders.goOn -/
def e_328 : w_E := (89, [w_r 47, w_n 4 4 0, w_n 0 127 0, w_t 0], [(147520, w_r 17)], [(102464, 102493), (106560, 106565), (147529, 147529), (147536, 147537), (172096, 172098), (176192, 176199), (180288, 180295), (184391, 184391), (192576, 192582), (196676, 196678), (200768, 201791), (204864, 205887)], [([], none, [])], 7)
abbrev x_Orders_goOn_11 : w_E := e_328
/-- GoodbyeQuay$Orders.goOn -/
def e_329 : w_E := (89, [w_r 47, w_n 3 3 0, w_n 0 127 0, w_t 0], [(147520, w_r 17)], [(102464, 102493), (106560, 106565), (147529, 147529), (147536, 147537), (172096, 172098), (176192, 176199), (180288, 180295), (184391, 184391), (192576, 192582), (196675, 196678), (200768, 201791), (204864, 205887)], [([], none, [])], 8)
abbrev x_Orders_goOn_12 : w_E := e_329
/-- GoodbyeQuay$Orders.goOn -/
def e_330 : w_E := (89, [w_r 47, w_n 2 2 0, w_n 0 127 0, w_t 0], [(147520, w_r 17)], [(102464, 102493), (106560, 106565), (147529, 147529), (147536, 147537), (172096, 172098), (176192, 176199), (180288, 180295), (184391, 184391), (192576, 192582), (196674, 196678), (200768, 201791), (204864, 205887)], [([], none, [])], 9)
abbrev x_Orders_goOn_13 : w_E := e_330
/-- GoodbyeQuay$Orders.goOn -/
def e_331 : w_E := (89, [w_r 47, w_n 1 1 0, w_n 0 127 0, w_t 0], [(147520, w_r 17)], [(102464, 102493), (106560, 106565), (147529, 147529), (147536, 147537), (172096, 172098), (176192, 176199), (180288, 180295), (184391, 184391), (192576, 192582), (196673, 196678), (200768, 201791), (204864, 205887)], [([], none, [])], 10)
abbrev x_Orders_goOn_14 : w_E := e_331
/-- GoodbyeQuay$Orders.goOn -/
def e_332 : w_E := (89, [w_r 47, w_n 0 0 0, w_n 0 127 0, w_n 0 0 0], [(147520, w_r 17)], [(102464, 102493), (106560, 106565), (147529, 147529), (147536, 147537), (172096, 172098), (176192, 176199), (180288, 180295), (184391, 184391), (192576, 192582), (196672, 196678), (200768, 201791), (204864, 205887)], [([], none, [])], 11)
abbrev x_Orders_goOn_15 : w_E := e_332
/-- GoodbyeQuay$Orders.findBest -/
def e_333 : w_E := (88, [w_r 47, w_n 0 127 0], [(147520, w_r 17)], [(102464, 102493), (106560, 106565), (147529, 147529), (147536, 147537), (172096, 172098), (176192, 176199), (180288, 180295), (184390, 184391), (192576, 192582), (196672, 196678), (200768, 201791), (204864, 205887)], [([], some (w_t 0), [])], 12)
abbrev x_Orders_findBest_1 : w_E := e_333
/-- GoodbyeQuay.layBestOrder -/
def e_334 : w_E := (40, [w_r 2], [(66, w_r 17), (147520, w_r 17)], [(78, 78), (102464, 102493), (106560, 106565), (147529, 147529), (147536, 147537), (172096, 172098), (176192, 176199), (180288, 180295), (184390, 184391), (192576, 192582), (196672, 196678), (200768, 201791), (204864, 205887), (262208, 262214)], [([], some (w_t 0), [])], 13)
abbrev x_C_layBestOrder_1 : w_E := e_334
/-- GoodbyeQuay.order -/
def e_335 : w_E := (53, [w_r 2], [(66, w_r 17)], [(78, 78), (102464, 102493), (106560, 106565), (147520, 147520), (147522, 147522), (147526, 147530), (147534, 147537), (151616, 151622), (155712, 155719), (159808, 159812), (163904, 163906), (168000, 168002), (172096, 172098), (176192, 176199), (180288, 180295), (184390, 184391), (188480, 188486), (192576, 192582), (196672, 196678), (200768, 201791), (204864, 205887), (262208, 262214)], [([], some (w_t 0), [(147520, w_r 17), (147527, w_n 1 60 0), (147528, w_n 0 0 0), (147530, w_n 1 2 0), (163906, w_g 2147483647 2147483647 0), (168002, w_n 0 0 0)])], 14)
abbrev x_C_order_1 : w_E := e_335
/-- GoodbyeQuay.dearest -/
def e_336 : w_E := (16, [w_r 2], [(66, w_r 5)], [(78, 78), (53312, 53341), (57408, 57413), (147520, 147520), (147522, 147522), (147526, 147530), (147534, 147537), (151616, 151622), (155712, 155719), (159808, 159812), (163904, 163906), (168000, 168002), (172096, 172098), (176192, 176199), (180288, 180295), (184390, 184391), (188480, 188486), (192576, 192582), (196672, 196678), (200768, 201791), (204864, 205887), (262208, 262214)], [([], some (w_t 0), [(147520, w_r 5), (147527, w_n 1 60 0), (147528, w_n 0 0 0), (147530, w_n 1 2 0), (163906, w_g 2147483647 2147483647 0), (168002, w_n 0 0 0)])], 14)
abbrev x_C_dearest_0 : w_E := e_336
/-- GoodbyeQuay.dearest -/
def e_337 : w_E := (16, [w_r 2], [(66, w_r 17)], [(78, 78), (102464, 102493), (106560, 106565), (147520, 147520), (147522, 147522), (147526, 147530), (147534, 147537), (151616, 151622), (155712, 155719), (159808, 159812), (163904, 163906), (168000, 168002), (172096, 172098), (176192, 176199), (180288, 180295), (184390, 184391), (188480, 188486), (192576, 192582), (196672, 196678), (200768, 201791), (204864, 205887), (262208, 262214)], [([], some (w_t 0), [(147520, w_r 17), (147527, w_n 1 60 0), (147528, w_n 0 0 0), (147530, w_n 1 2 0), (163906, w_g 2147483647 2147483647 0), (168002, w_n 0 0 0)])], 14)
abbrev x_C_dearest_1 : w_E := e_337
/-- GoodbyeQuay.isFewer -/
def e_338 : w_E := (32, [w_n 0 127 0, w_g 2147483647 2147483775 0], [], [], [([], some (w_n 1 1 0), []), ([(1, (2147483648, 2147483775))], some (w_n 0 0 0), [])], 2)
abbrev x_C_isFewer_0 : w_E := e_338
/-- GoodbyeQuay.setOrSize -/
def e_339 : w_E := (66, [w_g 2147483647 2147483775 0, w_n 0 1 0], [], [], [([], some (w_g 2147483647 2147483775 0), [])], 2)
abbrev x_C_setOrSize_0 : w_E := e_339
/-- GoodbyeQuay.shortest -/
def e_340 : w_E := (69, [w_r 2, w_t 0], [(66, w_r 5)], [(53312, 53341), (57408, 57413), (147520, 147520), (147522, 147522), (147526, 147530), (147534, 147537), (151616, 151622), (155712, 155719), (159808, 159812), (163904, 163906), (168000, 168002), (172096, 172098), (176192, 176199), (180288, 180295)], [([], some (w_g 2147483647 2147483775 0), [])], 6)
abbrev x_C_shortest_0 : w_E := e_340
/-- GoodbyeQuay.shortest -/
def e_341 : w_E := (69, [w_r 2, w_t 0], [(66, w_r 17)], [(102464, 102493), (106560, 106565), (147520, 147520), (147522, 147522), (147526, 147530), (147534, 147537), (151616, 151622), (155712, 155719), (159808, 159812), (163904, 163906), (168000, 168002), (172096, 172098), (176192, 176199), (180288, 180295)], [([], some (w_g 2147483647 2147483775 0), [])], 6)
abbrev x_C_shortest_1 : w_E := e_341
/-- GoodbyeQuay$Trial.leaveOut -/
def e_342 : w_E := (161, [w_r 38, w_n 0 127 0], [], [(147522, 147522), (151616, 151622)], [([], none, [])], 2)
abbrev x_Trial_leaveOut_0 : w_E := e_342
/-- GoodbyeQuay.runWithout -/
def e_343 : w_E := (62, [w_r 2, w_n 0 127 0], [(66, w_r 5)], [(53312, 53341), (57408, 57413), (147520, 147520), (147522, 147522), (147526, 147530), (147534, 147537), (151616, 151622), (155712, 155719), (159808, 159812), (163904, 163906), (168000, 168002), (172096, 172098), (176192, 176199), (180288, 180295)], [([], none, [(147520, w_r 5), (147527, w_n 1 60 0), (147528, w_n 0 0 0), (147530, w_n 1 2 0), (163906, w_g 2147483647 2147483647 0), (168002, w_n 0 0 0)])], 6)
abbrev x_C_runWithout_0 : w_E := e_343
/-- GoodbyeQuay.spare -/
def e_344 : w_E := (71, [w_r 2, w_t 0], [(66, w_r 5)], [(53312, 53341), (57408, 57413), (147520, 147520), (147522, 147522), (147526, 147530), (147534, 147537), (151616, 151622), (155712, 155719), (159808, 159812), (163904, 163906), (168000, 168002), (172096, 172098), (176192, 176199), (180288, 180295)], [([], some (w_g 2147483647 2147483775 0), [])], 7)
abbrev x_C_spare_0 : w_E := e_344
/-- GoodbyeQuay.runWithout -/
def e_345 : w_E := (62, [w_r 2, w_n 0 127 0], [(66, w_r 17)], [(102464, 102493), (106560, 106565), (147520, 147520), (147522, 147522), (147526, 147530), (147534, 147537), (151616, 151622), (155712, 155719), (159808, 159812), (163904, 163906), (168000, 168002), (172096, 172098), (176192, 176199), (180288, 180295)], [([], none, [(147520, w_r 17), (147527, w_n 1 60 0), (147528, w_n 0 0 0), (147530, w_n 1 2 0), (163906, w_g 2147483647 2147483647 0), (168002, w_n 0 0 0)])], 6)
abbrev x_C_runWithout_1 : w_E := e_345
/-- GoodbyeQuay.spare -/
def e_346 : w_E := (71, [w_r 2, w_t 0], [(66, w_r 17)], [(102464, 102493), (106560, 106565), (147520, 147520), (147522, 147522), (147526, 147530), (147534, 147537), (151616, 151622), (155712, 155719), (159808, 159812), (163904, 163906), (168000, 168002), (172096, 172098), (176192, 176199), (180288, 180295)], [([], some (w_g 2147483647 2147483775 0), [])], 7)
abbrev x_C_spare_1 : w_E := e_346
/-- GoodbyeQuay.isPair -/
def e_347 : w_E := (34, [w_r 2, w_n 0 6 0], [(66, w_r 5)], [], [([], some (w_n 0 0 0), [(12356, w_n 0 6 0)]), ([], some (w_n 1 1 0), [(12356, w_n 1 7 0)])], 1)
abbrev x_C_isPair_2 : w_E := e_347
/-- GoodbyeQuay.inQueue -/
def e_348 : w_E := (30, [w_r 2, w_n 0 6 0], [(66, w_r 5)], [], [([], some (w_n 0 0 0), []), ([], some (w_n 1 1 0), [(12356, w_n 1 7 0)])], 2)
abbrev x_C_inQueue_2 : w_E := e_348
/-- GoodbyeQuay.isPair -/
def e_349 : w_E := (34, [w_r 2, w_n 1 6 0], [(66, w_r 5)], [], [([], some (w_n 0 0 0), [(12356, w_n 0 6 0)]), ([], some (w_n 1 1 0), [(12356, w_n 2 7 0)])], 1)
abbrev x_C_isPair_3 : w_E := e_349
/-- GoodbyeQuay.inQueue -/
def e_350 : w_E := (30, [w_r 2, w_n 1 6 0], [(66, w_r 5)], [], [([], some (w_n 0 0 0), []), ([], some (w_n 1 1 0), [(12356, w_n 2 7 0)])], 2)
abbrev x_C_inQueue_3 : w_E := e_350
/-- GoodbyeQuay$Trial.open -/
def e_351 : w_E := (164, [w_r 38, w_r 5, w_r 30], [(147520, w_r 5)], [(147520, 147520), (147522, 147522), (147526, 147528), (147530, 147530), (147534, 147535), (151616, 151622), (155712, 155719), (159808, 159812), (163904, 163906), (168000, 168002)], [([], none, [(147520, w_r 5), (147527, w_n 1 60 0), (147528, w_n 0 0 0), (147530, w_n 1 2 0), (163906, w_g 2147483647 2147483647 0), (168002, w_n 0 0 0)])], 4)
abbrev x_Trial_open_2 : w_E := e_351
/-- GoodbyeQuay.openTrial -/
def e_352 : w_E := (52, [w_r 2], [(66, w_r 5), (147520, w_r 5)], [(147520, 147520), (147522, 147522), (147526, 147528), (147530, 147530), (147534, 147535), (151616, 151622), (155712, 155719), (159808, 159812), (163904, 163906), (168000, 168002)], [([], none, [(147520, w_r 5), (147527, w_n 1 60 0), (147528, w_n 0 0 0), (147530, w_n 1 2 0), (163906, w_g 2147483647 2147483647 0), (168002, w_n 0 0 0)])], 5)
abbrev x_C_openTrial_2 : w_E := e_352
/-- GoodbyeQuay.countChanged -/
def e_353 : w_E := (13, [w_r 2, w_n 0 6 0, w_n 1 6 0], [(66, w_r 5), (147520, w_r 5)], [(53312, 53341), (57408, 57413), (147520, 147520), (147522, 147522), (147526, 147530), (147534, 147537), (151616, 151622), (155712, 155719), (159808, 159812), (163904, 163906), (168000, 168002), (172096, 172098), (176192, 176199), (180288, 180295)], [([], some (w_n 0 8 0), [(147520, w_r 5), (147527, w_n 1 60 0), (147528, w_n 0 0 0), (147530, w_n 1 2 0), (163906, w_g 2147483647 2147483647 0), (168002, w_n 0 0 0)])], 7)
abbrev x_C_countChanged_0 : w_E := e_353
/-- GoodbyeQuay.swap -/
def e_354 : w_E := (74, [w_r 2, w_t 0], [(66, w_r 5)], [(53312, 53341), (57408, 57413), (147520, 147520), (147522, 147522), (147526, 147530), (147534, 147537), (151616, 151622), (155712, 155719), (159808, 159812), (163904, 163906), (168000, 168002), (172096, 172098), (176192, 176199), (180288, 180295)], [([], some (w_g 2147483647 2147483656 0), [])], 8)
abbrev x_C_swap_0 : w_E := e_354
/-- GoodbyeQuay.isPair -/
def e_355 : w_E := (34, [w_r 2, w_n 0 6 0], [(66, w_r 17)], [], [([], some (w_n 0 0 0), [(61508, w_n 0 6 0)]), ([], some (w_n 1 1 0), [(61508, w_n 1 7 0)])], 1)
abbrev x_C_isPair_4 : w_E := e_355
/-- GoodbyeQuay.inQueue -/
def e_356 : w_E := (30, [w_r 2, w_n 0 6 0], [(66, w_r 17)], [], [([], some (w_n 0 0 0), []), ([], some (w_n 1 1 0), [(61508, w_n 1 7 0)])], 2)
abbrev x_C_inQueue_4 : w_E := e_356
/-- GoodbyeQuay.isPair -/
def e_357 : w_E := (34, [w_r 2, w_n 1 6 0], [(66, w_r 17)], [], [([], some (w_n 0 0 0), [(61508, w_n 0 6 0)]), ([], some (w_n 1 1 0), [(61508, w_n 2 7 0)])], 1)
abbrev x_C_isPair_5 : w_E := e_357
/-- GoodbyeQuay.inQueue -/
def e_358 : w_E := (30, [w_r 2, w_n 1 6 0], [(66, w_r 17)], [], [([], some (w_n 0 0 0), []), ([], some (w_n 1 1 0), [(61508, w_n 2 7 0)])], 2)
abbrev x_C_inQueue_5 : w_E := e_358
/-- GoodbyeQuay$Trial.open -/
def e_359 : w_E := (164, [w_r 38, w_r 17, w_r 30], [(147520, w_r 17)], [(147520, 147520), (147522, 147522), (147526, 147528), (147530, 147530), (147534, 147535), (151616, 151622), (155712, 155719), (159808, 159812), (163904, 163906), (168000, 168002)], [([], none, [(147520, w_r 17), (147527, w_n 1 60 0), (147528, w_n 0 0 0), (147530, w_n 1 2 0), (163906, w_g 2147483647 2147483647 0), (168002, w_n 0 0 0)])], 4)
abbrev x_Trial_open_3 : w_E := e_359
/-- GoodbyeQuay.openTrial -/
def e_360 : w_E := (52, [w_r 2], [(66, w_r 17), (147520, w_r 17)], [(147520, 147520), (147522, 147522), (147526, 147528), (147530, 147530), (147534, 147535), (151616, 151622), (155712, 155719), (159808, 159812), (163904, 163906), (168000, 168002)], [([], none, [(147520, w_r 17), (147527, w_n 1 60 0), (147528, w_n 0 0 0), (147530, w_n 1 2 0), (163906, w_g 2147483647 2147483647 0), (168002, w_n 0 0 0)])], 5)
abbrev x_C_openTrial_3 : w_E := e_360
/-- GoodbyeQuay.countChanged -/
def e_361 : w_E := (13, [w_r 2, w_n 0 6 0, w_n 1 6 0], [(66, w_r 17), (147520, w_r 17)], [(102464, 102493), (106560, 106565), (147520, 147520), (147522, 147522), (147526, 147530), (147534, 147537), (151616, 151622), (155712, 155719), (159808, 159812), (163904, 163906), (168000, 168002), (172096, 172098), (176192, 176199), (180288, 180295)], [([], some (w_n 0 8 0), [(147520, w_r 17), (147527, w_n 1 60 0), (147528, w_n 0 0 0), (147530, w_n 1 2 0), (163906, w_g 2147483647 2147483647 0), (168002, w_n 0 0 0)])], 7)
abbrev x_C_countChanged_1 : w_E := e_361
/-- GoodbyeQuay.swap -/
def e_362 : w_E := (74, [w_r 2, w_t 0], [(66, w_r 17)], [(102464, 102493), (106560, 106565), (147520, 147520), (147522, 147522), (147526, 147530), (147534, 147537), (151616, 151622), (155712, 155719), (159808, 159812), (163904, 163906), (168000, 168002), (172096, 172098), (176192, 176199), (180288, 180295)], [([], some (w_g 2147483647 2147483656 0), [])], 8)
abbrev x_C_swap_1 : w_E := e_362
/-- GoodbyeQuay$Trial.sendToEnd (by hand) -/
def e_363 : w_E := (169, [w_r 38, w_g 2147483647 2147483654 0], [], [(151616, 151622)], [([], none, [])], 2)
abbrev x_Trial_sendToEnd_0 : w_E := e_363
/-- GoodbyeQuay.aside -/
def e_364 : w_E := (4, [w_r 2, w_t 0], [(66, w_r 5)], [(53312, 53341), (57408, 57413), (147520, 147520), (147522, 147522), (147526, 147530), (147534, 147537), (151616, 151622), (155712, 155719), (159808, 159812), (163904, 163906), (168000, 168002), (172096, 172098), (176192, 176199), (180288, 180295)], [([], some (w_g 2147483647 2147483656 0), [])], 7)
abbrev x_C_aside_0 : w_E := e_364
/-- GoodbyeQuay.aside -/
def e_365 : w_E := (4, [w_r 2, w_t 0], [(66, w_r 17)], [(102464, 102493), (106560, 106565), (147520, 147520), (147522, 147522), (147526, 147530), (147534, 147537), (151616, 151622), (155712, 155719), (159808, 159812), (163904, 163906), (168000, 168002), (172096, 172098), (176192, 176199), (180288, 180295)], [([], some (w_g 2147483647 2147483656 0), [])], 7)
abbrev x_C_aside_1 : w_E := e_365
/-- GoodbyeQuay.wish (by hand) -/
def e_366 : w_E := (81, [w_r 2, w_t 0], [(66, w_r 5)], [(53312, 53341), (57408, 57413), (102464, 102493), (106560, 106565), (147520, 147539), (151616, 151622), (155712, 155719), (159808, 159812), (163904, 163906), (168000, 168002), (172096, 172098), (176192, 176199), (180288, 180295), (208960, 208963), (213056, 213104), (217152, 217158), (221248, 221254)], [([], some (w_t 0), [])], 20)
abbrev x_C_wish_0 : w_E := e_366
/-- GoodbyeQuay.wish (by hand) -/
def e_367 : w_E := (81, [w_r 2, w_t 0], [(66, w_r 17)], [(53312, 53341), (57408, 57413), (102464, 102493), (106560, 106565), (147520, 147539), (151616, 151622), (155712, 155719), (159808, 159812), (163904, 163906), (168000, 168002), (172096, 172098), (176192, 176199), (180288, 180295), (208960, 208963), (213056, 213104), (217152, 217158), (221248, 221254)], [([], some (w_t 0), [])], 20)
abbrev x_C_wish_1 : w_E := e_367
/-- GoodbyeQuay$Places.learn -/
def e_368 : w_E := (100, [w_r 53, w_r 38, w_r 5, w_r 30, w_n 0 6 0], [], [(53312, 53341), (57408, 57413), (147520, 147520), (147522, 147522), (147526, 147530), (147534, 147537), (151616, 151622), (155712, 155719), (159808, 159812), (163904, 163906), (168000, 168002), (172096, 172098), (176192, 176199), (180288, 180295), (208963, 208963), (213056, 213104)], [([], none, [])], 6)
abbrev x_Places_learn_0 : w_E := e_368
/-- GoodbyeQuay.holds -/
def e_369 : w_E := (28, [w_n 1 127 0, w_n 0 0 0], [], [], [([], some (w_n 0 0 0), []), ([], some (w_n 1 1 0), [])], 1)
abbrev x_C_holds_6 : w_E := e_369
/-- GoodbyeQuay.holds -/
def e_370 : w_E := (28, [w_n 1 127 0, w_n 0 6 0], [], [], [([], some (w_n 0 0 0), []), ([], some (w_n 1 1 0), [])], 1)
abbrev x_C_holds_7 : w_E := e_370
/-- GoodbyeQuay$Places.wishAmong -/
def e_371 : w_E := (103, [w_r 53, w_n 0 6 0, w_n 1 127 0], [], [], [([], some (w_n 0 6 0), [])], 2)
abbrev x_Places_wishAmong_0 : w_E := e_371
/-- GoodbyeQuay.holds -/
def e_372 : w_E := (28, [w_n 1 127 0, w_n 1 6 0], [], [], [([], some (w_n 0 0 0), []), ([], some (w_n 1 1 0), [])], 1)
abbrev x_C_holds_8 : w_E := e_372
/-- GoodbyeQuay.holds -/
def e_373 : w_E := (28, [w_n 1 127 0, w_n 2 6 0], [], [], [([], some (w_n 0 0 0), []), ([], some (w_n 1 1 0), [])], 1)
abbrev x_C_holds_9 : w_E := e_373
/-- GoodbyeQuay$Places.roundOf -/
def e_374 : w_E := (101, [w_r 53, w_n 0 6 0, w_n 1 7 0], [], [], [([], some (w_n 0 127 0), [])], 1)
abbrev x_Places_roundOf_0 : w_E := e_374
/-- GoodbyeQuay$Places.tradeAll -/
def e_375 : w_E := (102, [w_r 53, w_n 0 7 0], [], [(217152, 217158), (221248, 221254)], [([], some (w_t 0), [])], 3)
abbrev x_Places_tradeAll_0 : w_E := e_375
/-- GoodbyeQuay.trade -/
def e_376 : w_E := (75, [w_r 2], [(66, w_r 5)], [(78, 78), (53312, 53341), (57408, 57413), (147520, 147520), (147522, 147522), (147526, 147530), (147534, 147537), (151616, 151622), (155712, 155719), (159808, 159812), (163904, 163906), (168000, 168002), (172096, 172098), (176192, 176199), (180288, 180295), (208963, 208963), (213056, 213104), (217152, 217158), (221248, 221254), (262208, 262214)], [([], some (w_t 0), [])], 7)
abbrev x_C_trade_0 : w_E := e_376
/-- GoodbyeQuay$Places.learn -/
def e_377 : w_E := (100, [w_r 53, w_r 38, w_r 17, w_r 30, w_n 0 6 0], [], [(102464, 102493), (106560, 106565), (147520, 147520), (147522, 147522), (147526, 147530), (147534, 147537), (151616, 151622), (155712, 155719), (159808, 159812), (163904, 163906), (168000, 168002), (172096, 172098), (176192, 176199), (180288, 180295), (208963, 208963), (213056, 213104)], [([], none, [])], 6)
abbrev x_Places_learn_1 : w_E := e_377
/-- GoodbyeQuay.trade -/
def e_378 : w_E := (75, [w_r 2], [(66, w_r 17)], [(78, 78), (102464, 102493), (106560, 106565), (147520, 147520), (147522, 147522), (147526, 147530), (147534, 147537), (151616, 151622), (155712, 155719), (159808, 159812), (163904, 163906), (168000, 168002), (172096, 172098), (176192, 176199), (180288, 180295), (208963, 208963), (213056, 213104), (217152, 217158), (221248, 221254), (262208, 262214)], [([], some (w_t 0), [])], 7)
abbrev x_C_trade_1 : w_E := e_378
/-- GoodbyeQuay.runWithout -/
def e_379 : w_E := (62, [w_r 2, w_n 1 64 0], [(66, w_r 5), (147520, w_r 5)], [(53312, 53341), (57408, 57413), (147520, 147520), (147522, 147522), (147526, 147530), (147534, 147537), (151616, 151622), (155712, 155719), (159808, 159812), (163904, 163906), (168000, 168002), (172096, 172098), (176192, 176199), (180288, 180295)], [([], none, [(147520, w_r 5), (147527, w_n 1 60 0), (147528, w_n 0 0 0), (147530, w_n 1 2 0), (163906, w_g 2147483647 2147483647 0), (168002, w_n 0 0 0)])], 6)
abbrev x_C_runWithout_2 : w_E := e_379
/-- GoodbyeQuay.delay -/
def e_380 : w_E := (17, [w_r 2, w_t 0, w_t 0], [(66, w_r 5)], [(53312, 53341), (57408, 57413), (147520, 147520), (147522, 147522), (147526, 147530), (147534, 147537), (151616, 151622), (155712, 155719), (159808, 159812), (163904, 163906), (168000, 168002), (172096, 172098), (176192, 176199), (180288, 180295)], [([], some (w_t 0), [])], 7)
abbrev x_C_delay_0 : w_E := e_380
/-- GoodbyeQuay.runWithout -/
def e_381 : w_E := (62, [w_r 2, w_n 1 64 0], [(66, w_r 17), (147520, w_r 17)], [(102464, 102493), (106560, 106565), (147520, 147520), (147522, 147522), (147526, 147530), (147534, 147537), (151616, 151622), (155712, 155719), (159808, 159812), (163904, 163906), (168000, 168002), (172096, 172098), (176192, 176199), (180288, 180295)], [([], none, [(147520, w_r 17), (147527, w_n 1 60 0), (147528, w_n 0 0 0), (147530, w_n 1 2 0), (163906, w_g 2147483647 2147483647 0), (168002, w_n 0 0 0)])], 6)
abbrev x_C_runWithout_3 : w_E := e_381
/-- GoodbyeQuay.delay -/
def e_382 : w_E := (17, [w_r 2, w_t 0, w_t 0], [(66, w_r 17)], [(102464, 102493), (106560, 106565), (147520, 147520), (147522, 147522), (147526, 147530), (147534, 147537), (151616, 151622), (155712, 155719), (159808, 159812), (163904, 163906), (168000, 168002), (172096, 172098), (176192, 176199), (180288, 180295)], [([], some (w_t 0), [])], 7)
abbrev x_C_delay_1 : w_E := e_382
/-- GoodbyeQuay.grudge -/
def e_383 : w_E := (26, [w_r 2, w_t 0], [(66, w_r 5)], [(53312, 53341), (57408, 57413), (147520, 147520), (147522, 147522), (147526, 147530), (147534, 147537), (151616, 151622), (155712, 155719), (159808, 159812), (163904, 163906), (168000, 168002), (172096, 172098), (176192, 176199), (180288, 180295)], [([], some (w_g 2147483647 2147483775 0), [])], 7)
abbrev x_C_grudge_0 : w_E := e_383
/-- GoodbyeQuay.grudge -/
def e_384 : w_E := (26, [w_r 2, w_t 0], [(66, w_r 17)], [(102464, 102493), (106560, 106565), (147520, 147520), (147522, 147522), (147526, 147530), (147534, 147537), (151616, 151622), (155712, 155719), (159808, 159812), (163904, 163906), (168000, 168002), (172096, 172098), (176192, 176199), (180288, 180295)], [([], some (w_g 2147483647 2147483775 0), [])], 7)
abbrev x_C_grudge_1 : w_E := e_384
/-- GoodbyeQuay.blame (by hand) -/
def e_385 : w_E := (9, [w_r 2, w_t 0, w_t 0], [(66, w_r 5)], [(53312, 53341), (57408, 57413), (102464, 102493), (106560, 106565), (147520, 147539), (151616, 151622), (155712, 155719), (159808, 159812), (163904, 163906), (168000, 168002), (172096, 172098), (176192, 176199), (180288, 180295), (258112, 258239)], [([], some (w_t 0), [])], 20)
abbrev x_C_blame_0 : w_E := e_385
/-- GoodbyeQuay.blame (by hand) -/
def e_386 : w_E := (9, [w_r 2, w_t 0, w_t 0], [(66, w_r 17)], [(53312, 53341), (57408, 57413), (102464, 102493), (106560, 106565), (147520, 147539), (151616, 151622), (155712, 155719), (159808, 159812), (163904, 163906), (168000, 168002), (172096, 172098), (176192, 176199), (180288, 180295), (258112, 258239)], [([], some (w_t 0), [])], 20)
abbrev x_C_blame_1 : w_E := e_386
/-- GoodbyeQuay.commonDivisor -/
def e_387 : w_E := (11, [w_t 0, w_t 0], [], [], [([], some (w_t 0), [])], 1)
abbrev x_C_commonDivisor_0 : w_E := e_387
/-- GoodbyeQuay.partOf -/
def e_388 : w_E := (55, [w_t 0, w_t 0, w_n 0 1 0], [], [], [([], some (w_t 0), [])], 2)
abbrev x_C_partOf_0 : w_E := e_388
/-- GoodbyeQuay.odds -/
def e_389 : w_E := (51, [w_r 2, w_t 0, w_t 0], [(66, w_r 5)], [], [([], some (w_t 0), [])], 3)
abbrev x_C_odds_0 : w_E := e_389
/-- GoodbyeQuay.odds -/
def e_390 : w_E := (51, [w_r 2, w_t 0, w_t 0], [(66, w_r 17)], [], [([], some (w_t 0), [])], 3)
abbrev x_C_odds_1 : w_E := e_390
/-- GoodbyeQuay.lies -/
def e_391 : w_E := (44, [w_r 2, w_t 0], [], [], [([], some (w_g 2147483646 2147483654 0), [])], 1)
abbrev x_C_lies_0 : w_E := e_391
/-- GoodbyeQuay$Sight.note -/
def e_392 : w_E := (134, [w_r 57, w_t 0, w_t 0, w_n 0 1 0], [], [(225345, 225345), (229440, 229469), (233536, 233565), (237632, 237661), (241728, 241757), (245824, 245853)], [([], some (w_g 2147483647 2147483677 0), [])], 1)
abbrev x_Sight_note_0 : w_E := e_392
/-- GoodbyeQuay.seen -/
def e_393 : w_E := (65, [w_r 2, w_t 0, w_t 0, w_n 0 1 0], [(66, w_r 5)], [(225345, 225345), (229440, 229469), (233536, 233565), (237632, 237661), (241728, 241757), (245824, 245853)], [([], some (w_g 2147483647 2147483677 0), [])], 2)
abbrev x_C_seen_0 : w_E := e_393
/-- GoodbyeQuay.seen -/
def e_394 : w_E := (65, [w_r 2, w_t 0, w_t 0, w_n 0 1 0], [(66, w_r 17)], [(225345, 225345), (229440, 229469), (233536, 233565), (237632, 237661), (241728, 241757), (245824, 245853)], [([], some (w_g 2147483647 2147483677 0), [])], 2)
abbrev x_C_seen_1 : w_E := e_394
/-- GoodbyeQuay$Sight.takeOut -/
def e_395 : w_E := (137, [w_r 57, w_t 0], [], [(245824, 245853)], [([], some (w_n 0 0 0), []), ([(1, (2147483648, 2147483677))], some (w_n 1 1 0), [])], 1)
abbrev x_Sight_takeOut_0 : w_E := e_395
/-- GoodbyeQuay.untell -/
def e_396 : w_E := (78, [w_r 2, w_t 0], [], [(245824, 245853)], [([], some (w_n 0 0 0), []), ([(1, (2147483648, 2147483677))], some (w_n 1 1 0), [])], 2)
abbrev x_C_untell_0 : w_E := e_396
/-- GoodbyeQuay.later -/
def e_397 : w_E := (38, [w_r 2, w_t 0], [], [(225344, 225344)], [([], some (w_t 0), [])], 1)
abbrev x_C_later_0 : w_E := e_397
/-- GoodbyeQuay$Sight.outBehind -/
def e_398 : w_E := (135, [w_r 57, w_n 0 29 0, w_n 0 60 0], [], [], [([], some (w_n 0 7 0), [])], 1)
abbrev x_Sight_outBehind_0 : w_E := e_398
/-- GoodbyeQuay$Sight.isFitting -/
def e_399 : w_E := (132, [w_r 57, w_n 0 29 0, w_t 0], [], [], [([], some (w_n 1 1 0), []), ([], some (w_n 0 0 0), [])], 2)
abbrev x_Sight_isFitting_0 : w_E := e_399
/-- GoodbyeQuay$Sight.fitting -/
def e_400 : w_E := (131, [w_r 57, w_t 0], [], [], [([], some (w_n 0 2147483647 0), [])], 3)
abbrev x_Sight_fitting_0 : w_E := e_400
/-- java/lang/Integer.bitCount (by hand) -/
def e_401 : w_E := (325, [w_t 0], [], [], [([], some (w_t 0), [])], 1)
abbrev x_J_bitCount_2 : w_E := e_401
/-- GoodbyeQuay.fits -/
def e_402 : w_E := (23, [w_r 2, w_t 0], [], [], [([], some (w_t 0), [])], 4)
abbrev x_C_fits_0 : w_E := e_402
/-- GoodbyeQuay.holds -/
def e_403 : w_E := (28, [w_n 1 2147483647 0, w_n 0 0 0], [], [], [([], some (w_n 0 0 0), []), ([], some (w_n 1 1 0), [])], 1)
abbrev x_C_holds_10 : w_E := e_403
/-- GoodbyeQuay.holds -/
def e_404 : w_E := (28, [w_n 1 2147483647 0, w_n 0 29 0], [], [], [([], some (w_n 0 0 0), []), ([], some (w_n 1 1 0), [])], 1)
abbrev x_C_holds_11 : w_E := e_404
/-- GoodbyeQuay.sure -/
def e_405 : w_E := (73, [w_r 2, w_t 0, w_t 0], [], [], [([], some (w_g 2147483647 2147483678 0), [])], 4)
abbrev x_C_sure_0 : w_E := e_405
/-- GoodbyeQuay$Sight.mostAlike -/
def e_406 : w_E := (133, [w_r 57, w_n 1 2147483647 0, w_n 0 60 0], [], [(254016, 254023)], [([], some (w_n 0 2147483647 0), [])], 2)
abbrev x_Sight_mostAlike_0 : w_E := e_406
/-- GoodbyeQuay.ask -/
def e_407 : w_E := (5, [w_r 2, w_t 0, w_t 0], [], [(254016, 254023)], [([], some (w_g 2147483647 4294967295 0), [])], 4)
abbrev x_C_ask_0 : w_E := e_407
/-- GoodbyeQuayModel.four (by hand) -/
def e_408 : w_E := (209, [w_r 67, w_t 0], [], [(266305, 266305), (270400, 271999)], [([], none, [(266305, w_n 4 1600 0)])], 1)
abbrev x_M_four_0 : w_E := e_408
/-- GoodbyeQuayModel.four (by hand) -/
def e_409 : w_E := (209, [w_r 67, w_t 0], [(266305, w_n 4 1600 0)], [(266305, 266305), (270404, 271999)], [([], none, [(266305, w_n 8 1600 0)])], 1)
abbrev x_M_four_1 : w_E := e_409
/-- GoodbyeQuayModel.four (by hand) -/
def e_410 : w_E := (209, [w_r 67, w_t 0], [(266305, w_n 8 1600 0)], [(266305, 266305), (270408, 271999)], [([], none, [(266305, w_n 12 1600 0)])], 1)
abbrev x_M_four_2 : w_E := e_410
/-- GoodbyeQuayModel.four (by hand) -/
def e_411 : w_E := (209, [w_r 67, w_t 0], [(266305, w_n 12 1600 0)], [(266305, 266305), (270412, 271999)], [([], none, [(266305, w_n 16 1600 0)])], 1)
abbrev x_M_four_3 : w_E := e_411
/-- GoodbyeQuayModel.four (by hand) -/
def e_412 : w_E := (209, [w_r 67, w_t 0], [(266305, w_n 16 1600 0)], [(266305, 266305), (270416, 271999)], [([], none, [(266305, w_n 20 1600 0)])], 1)
abbrev x_M_four_4 : w_E := e_412
/-- GoodbyeQuayModel.feed (by hand) -/
def e_413 : w_E := (202, [w_r 67, w_t 0, w_t 0, w_t 0, w_t 0, w_t 0], [], [(266305, 266305), (270400, 271999)], [([], some (w_g 2147483647 2147485248 0), [])], 2)
abbrev x_M_feed_0 : w_E := e_413
/-- GoodbyeQuayModel.end -/
def e_414 : w_E := (198, [w_r 67, w_t 0], [], [(266305, 266305)], [([], some (w_g 2147483647 2147485248 0), [])], 1)
abbrev x_M_end_0 : w_E := e_414
/-- GoodbyeQuayModel.token (by hand) -/
def e_415 : w_E := (309, [w_r 67], [], [(266308, 266308), (266310, 266313)], [([], none, [])], 2)
abbrev x_M_token_0 : w_E := e_415
/-- GoodbyeQuayModel.isWord -/
def e_416 : w_E := (238, [w_r 67, w_l], [], [], [([], some (w_n 0 0 0), []), ([], some (w_n 1 1 0), [])], 1)
abbrev x_M_isWord_0 : w_E := e_416
/-- GoodbyeQuayModel.find -/
def e_417 : w_E := (204, [w_r 67, w_n 0 0 0, w_n 0 4 0], [], [], [([], some (w_g 2147483647 2147483651 0), [])], 1)
abbrev x_M_find_0 : w_E := e_417
/-- GoodbyeQuayModel.newName -/
def e_418 : w_E := (263, [w_r 67, w_n 0 0 0, w_n 0 4 0], [], [(266306, 266308), (266310, 266313), (274496, 274500)], [([], none, [])], 3)
abbrev x_M_newName_0 : w_E := e_418
/-- GoodbyeQuayModel.want -/
def e_419 : w_E := (318, [w_r 67, w_l], [], [(266306, 266308), (266310, 266313)], [([], none, [])], 3)
abbrev x_M_want_0 : w_E := e_419
/-- GoodbyeQuayModel.toldNumber -/
def e_420 : w_E := (311, [w_r 67, w_n 0 0 0, w_n 240 240 0], [], [(266306, 266308), (266310, 266313)], [([], some (w_n 0 9999 0), [])], 3)
abbrev x_M_toldNumber_0 : w_E := e_420
/-- GoodbyeQuayModel.told -/
def e_421 : w_E := (310, [w_r 67, w_l, w_n 0 0 0, w_n 240 240 0], [], [(266306, 266308), (266310, 266313)], [([], some (w_n 0 9999 0), [])], 4)
abbrev x_M_told_0 : w_E := e_421
/-- GoodbyeQuayModel.toldNumber -/
def e_422 : w_E := (311, [w_r 67, w_n 0 0 0, w_n 60 60 0], [], [(266306, 266308), (266310, 266313)], [([], some (w_n 0 9999 0), [])], 3)
abbrev x_M_toldNumber_1 : w_E := e_422
/-- GoodbyeQuayModel.told -/
def e_423 : w_E := (310, [w_r 67, w_l, w_n 0 0 0, w_n 60 60 0], [], [(266306, 266308), (266310, 266313)], [([], some (w_n 0 9999 0), [])], 4)
abbrev x_M_told_1 : w_E := e_423
/-- GoodbyeQuayModel.mayTell -/
def e_424 : w_E := (258, [w_r 67, w_l, w_n 60 60 0, w_n 0 0 0], [], [(266306, 266308), (266310, 266313)], [([], some (w_n 0 9999 0), [])], 5)
abbrev x_M_mayTell_0 : w_E := e_424
/-- GoodbyeQuayModel.readShip -/
def e_425 : w_E := (284, [w_r 67], [(266345, w_n 0 4 0)], [(266306, 266308), (266310, 266313), (266345, 266345), (274496, 274500), (307264, 307268), (311360, 311364)], [([], none, [])], 6)
abbrev x_M_readShip_0 : w_E := e_425
/-- GoodbyeQuayModel.find -/
def e_426 : w_E := (204, [w_r 67, w_n 5 5 0, w_n 0 6 0], [], [], [([], some (w_g 2147483647 2147483653 0), [])], 1)
abbrev x_M_find_1 : w_E := e_426
/-- GoodbyeQuayModel.newName -/
def e_427 : w_E := (263, [w_r 67, w_n 5 5 0, w_n 0 6 0], [], [(266306, 266308), (266310, 266313), (274501, 274507)], [([], none, [])], 3)
abbrev x_M_newName_1 : w_E := e_427
/-- GoodbyeQuayModel.oldShip (by hand) -/
def e_428 : w_E := (266, [w_r 67], [], [(266306, 266308), (266310, 266313)], [([], some (w_n 0 4 0), [])], 3)
abbrev x_M_oldShip_0 : w_E := e_428
/-- GoodbyeQuayModel.toldNumber -/
def e_429 : w_E := (311, [w_r 67, w_n 1 1 0, w_n 30 30 0], [], [(266306, 266308), (266310, 266313)], [([], some (w_n 0 9999 0), [])], 3)
abbrev x_M_toldNumber_2 : w_E := e_429
/-- GoodbyeQuayModel.told -/
def e_430 : w_E := (310, [w_r 67, w_l, w_n 1 1 0, w_n 30 30 0], [], [(266306, 266308), (266310, 266313)], [([], some (w_n 0 9999 0), [])], 4)
abbrev x_M_told_2 : w_E := e_430
/-- GoodbyeQuayModel.toldNumber -/
def e_431 : w_E := (311, [w_r 67, w_n 0 0 0, w_n 20 20 0], [], [(266306, 266308), (266310, 266313)], [([], some (w_n 0 9999 0), [])], 3)
abbrev x_M_toldNumber_3 : w_E := e_431
/-- GoodbyeQuayModel.told -/
def e_432 : w_E := (310, [w_r 67, w_l, w_n 0 0 0, w_n 20 20 0], [], [(266306, 266308), (266310, 266313)], [([], some (w_n 0 9999 0), [])], 4)
abbrev x_M_told_3 : w_E := e_432
/-- GoodbyeQuayModel.mayTell -/
def e_433 : w_E := (258, [w_r 67, w_l, w_n 20 20 0, w_n 1 1 0], [], [(266306, 266308), (266310, 266313)], [([], some (w_n 0 9999 0), [])], 5)
abbrev x_M_mayTell_1 : w_E := e_433
/-- GoodbyeQuayModel.readPair -/
def e_434 : w_E := (283, [w_r 67], [(266346, w_n 0 6 0)], [(266306, 266308), (266310, 266313), (266346, 266346), (274501, 274507), (315456, 315462), (319552, 319558), (323648, 323654)], [([], none, [])], 6)
abbrev x_M_readPair_0 : w_E := e_434
/-- GoodbyeQuayModel.toldNumber -/
def e_435 : w_E := (311, [w_r 67, w_n 1 1 0, w_n 60 60 0], [], [(266306, 266308), (266310, 266313)], [([], some (w_n 0 9999 0), [])], 3)
abbrev x_M_toldNumber_4 : w_E := e_435
/-- GoodbyeQuayModel.told -/
def e_436 : w_E := (310, [w_r 67, w_l, w_n 1 1 0, w_n 60 60 0], [], [(266306, 266308), (266310, 266313)], [([], some (w_n 0 9999 0), [])], 4)
abbrev x_M_told_4 : w_E := e_436
/-- GoodbyeQuayModel.toldNumber -/
def e_437 : w_E := (311, [w_r 67, w_n 1 1 0, w_n 2 2 0], [], [(266306, 266308), (266310, 266313)], [([], some (w_n 0 9999 0), [])], 3)
abbrev x_M_toldNumber_5 : w_E := e_437
/-- GoodbyeQuayModel.told -/
def e_438 : w_E := (310, [w_r 67, w_l, w_n 1 1 0, w_n 2 2 0], [], [(266306, 266308), (266310, 266313)], [([], some (w_n 0 9999 0), [])], 4)
abbrev x_M_told_5 : w_E := e_438
/-- GoodbyeQuayModel.tight -/
def e_439 : w_E := (308, [w_n 0 255 0], [], [], [([], some (w_n 1 6 0), [])], 1)
abbrev x_M_tight_0 : w_E := e_439
/-- GoodbyeQuayModel.mayNot -/
def e_440 : w_E := (257, [w_r 67], [], [], [([], some (w_n 1 1 0), []), ([], some (w_n 0 0 0), [])], 2)
abbrev x_M_mayNot_0 : w_E := e_440
/-- GoodbyeQuayModel.isFull -/
def e_441 : w_E := (228, [w_r 67], [], [], [([], some (w_n 1 1 0), []), ([], some (w_n 0 0 0), [])], 1)
abbrev x_M_isFull_0 : w_E := e_441
/-- GoodbyeQuayModel.countUnit (by hand) -/
def e_442 : w_E := (191, [w_r 67], [], [(266324, 266324), (266326, 266326)], [([], none, [(266324, w_n 1 61 0), (266326, w_n 1 31 0)])], 1)
abbrev x_M_countUnit_0 : w_E := e_442
/-- GoodbyeQuayModel.openUp (by hand) -/
def e_443 : w_E := (267, [w_r 67, w_n 20 21 0], [], [(266308, 266308), (266310, 266313), (266323, 266323), (266327, 266327), (294976, 295135)], [([], none, [(266323, w_n 1 160 0)])], 3)
abbrev x_M_openUp_0 : w_E := e_443
/-- GoodbyeQuayModel.asked -/
def e_444 : w_E := (180, [w_r 67], [], [], [([], some (w_g 2147483647 2147483653 0), [])], 1)
abbrev x_M_asked_0 : w_E := e_444
/-- GoodbyeQuayModel.add (by hand) -/
def e_445 : w_E := (176, [w_r 67, w_n 0 3 0, w_n 0 9999 0], [], [(266321, 266321), (278592, 278911), (282688, 283007)], [([], none, [(266321, w_n 1 320 0)])], 1)
abbrev x_M_add_0 : w_E := e_445
/-- GoodbyeQuayModel.unit (by hand) -/
def e_446 : w_E := (316, [w_r 67], [], [(266306, 266308), (266310, 266313), (266321, 266321), (266323, 266324), (266326, 266327), (278592, 278911), (282688, 283007), (294976, 295135)], [([], none, [])], 4)
abbrev x_M_unit_0 : w_E := e_446
/-- GoodbyeQuayModel.sign -/
def e_447 : w_E := (300, [w_r 67], [], [], [([], some (w_n 0 124 0), [])], 2)
abbrev x_M_sign_0 : w_E := e_447
/-- GoodbyeQuayModel.hasBracket -/
def e_448 : w_E := (217, [w_r 67], [], [], [([], some (w_n 0 0 0), []), ([], some (w_n 1 1 0), [])], 1)
abbrev x_M_hasBracket_0 : w_E := e_448
/-- GoodbyeQuayModel.close (by hand) -/
def e_449 : w_E := (187, [w_r 67, w_n 0 6 0], [], [(266321, 266321), (266323, 266323), (266327, 266327), (278592, 278911), (282688, 283007)], [([], none, [])], 2)
abbrev x_M_close_0 : w_E := e_449
/-- GoodbyeQuayModel.tight -/
def e_450 : w_E := (308, [w_n 1 124 0], [], [], [([], some (w_n 1 6 0), [])], 1)
abbrev x_M_tight_1 : w_E := e_450
/-- GoodbyeQuayModel.hasRelation -/
def e_451 : w_E := (218, [w_r 67], [], [], [([], some (w_n 0 0 0), []), ([], some (w_n 1 1 0), [])], 2)
abbrev x_M_hasRelation_0 : w_E := e_451
/-- GoodbyeQuayModel.formula (by hand) -/
def e_452 : w_E := (208, [w_r 67], [], [(266306, 266308), (266310, 266313), (266321, 266321), (266323, 266324), (266326, 266328), (278592, 278911), (282688, 283007), (294976, 295135)], [([], none, [(266328, w_n 1 1 0)])], 5)
abbrev x_M_formula_0 : w_E := e_452
/-- GoodbyeQuayModel.toldNumber -/
def e_453 : w_E := (311, [w_r 67, w_n 0 0 0, w_n 100 100 0], [], [(266306, 266308), (266310, 266313)], [([], some (w_n 0 9999 0), [])], 3)
abbrev x_M_toldNumber_6 : w_E := e_453
/-- GoodbyeQuayModel.told -/
def e_454 : w_E := (310, [w_r 67, w_l, w_n 0 0 0, w_n 100 100 0], [], [(266306, 266308), (266310, 266313)], [([], some (w_n 0 9999 0), [])], 4)
abbrev x_M_told_6 : w_E := e_454
/-- GoodbyeQuayModel.toldNumber -/
def e_455 : w_E := (311, [w_r 67, w_n 0 0 0, w_n 999 999 0], [], [(266306, 266308), (266310, 266313)], [([], some (w_n 0 9999 0), [])], 3)
abbrev x_M_toldNumber_7 : w_E := e_455
/-- GoodbyeQuayModel.told -/
def e_456 : w_E := (310, [w_r 67, w_l, w_n 0 0 0, w_n 999 999 0], [], [(266306, 266308), (266310, 266313)], [([], some (w_n 0 9999 0), [])], 4)
abbrev x_M_told_7 : w_E := e_456
/-- GoodbyeQuayModel.readLine (by hand) -/
def e_457 : w_E := (282, [w_r 67], [], [(266306, 266308), (266310, 266313), (266321, 266321), (266323, 266324), (266326, 266328), (266345, 266350), (266357, 266360), (274496, 274507), (278592, 278911), (282688, 283007), (294976, 295135), (307264, 307268), (311360, 311364), (315456, 315462), (319552, 319558), (323648, 323654)], [([], none, [])], 7)
abbrev x_M_readLine_0 : w_E := e_457
/-- GoodbyeQuayModel.readAll (by hand) -/
def e_458 : w_E := (281, [w_r 67], [], [(266305, 266313), (266321, 266321), (266323, 266324), (266326, 266328), (266345, 266350), (266357, 266360), (274496, 274507), (278592, 278911), (282688, 283007), (294976, 295135), (307264, 307268), (311360, 311364), (315456, 315462), (319552, 319558), (323648, 323654)], [([], none, [(266305, w_n 0 0 0)])], 8)
abbrev x_M_readAll_0 : w_E := e_458
/-- GoodbyeQuayModel.asTold -/
def e_459 : w_E := (177, [w_r 67], [], [(266331, 266333), (266363, 266363), (266366, 266366), (356416, 356418), (360512, 360514), (364608, 364615), (368704, 368711)], [([], none, [(266332, w_n 1 2 0), (266333, w_g 2147483647 2147483647 0), (266363, w_n 0 0 0), (266366, w_n 0 0 0), (356416, w_n 0 0 0), (356417, w_n 0 0 0), (356418, w_n 0 0 0), (360512, w_n 0 0 0), (360513, w_n 0 0 0), (360514, w_n 0 0 0), (364608, w_g 2147483647 2147483647 0), (364609, w_g 2147483647 2147483647 0), (364610, w_g 2147483647 2147483647 0), (364611, w_g 2147483647 2147483647 0), (364612, w_g 2147483647 2147483647 0), (364613, w_g 2147483647 2147483647 0), (364614, w_g 2147483647 2147483647 0), (364615, w_g 2147483647 2147483647 0), (368704, w_g 2147483647 2147483647 0), (368705, w_g 2147483647 2147483647 0), (368706, w_g 2147483647 2147483647 0), (368707, w_g 2147483647 2147483647 0), (368708, w_g 2147483647 2147483647 0), (368709, w_g 2147483647 2147483647 0), (368710, w_g 2147483647 2147483647 0), (368711, w_g 2147483647 2147483647 0)])], 1)
abbrev x_M_asTold_0 : w_E := e_459
/-- GoodbyeQuayModel.layTold -/
def e_460 : w_E := (245, [w_r 67], [], [(266331, 266333), (266363, 266363), (266366, 266366), (352320, 352347), (356416, 356418), (360512, 360514), (364608, 364615), (368704, 368711)], [([], none, [(266332, w_n 1 2 0), (266333, w_g 2147483647 2147483647 0), (266363, w_n 0 0 0), (266366, w_n 0 0 0), (352320, w_n 0 0 0), (352321, w_n 0 1 0), (352322, w_n 0 2 0), (352323, w_n 0 3 0), (352324, w_n 0 4 0), (352325, w_n 0 5 0), (352326, w_n 0 6 0), (352327, w_n 0 0 0), (352328, w_n 0 7 0), (352329, w_n 0 0 0), (352330, w_n 0 0 0), (352331, w_n 0 0 0), (352332, w_n 0 0 0), (352333, w_n 0 0 0), (352334, w_n 0 0 0), (352335, w_n 0 0 0), (352336, w_n 0 0 0), (352337, w_n 0 0 0), (352338, w_g 2147483647 2147483647 0), (352339, w_g 2147483647 2147483647 0), (352340, w_g 2147483647 2147483647 0), (352341, w_n 0 0 0), (352342, w_n 0 0 0), (352343, w_n 0 0 0), (352344, w_n 0 0 0), (352345, w_n 0 0 0), (352346, w_n 0 0 0), (356416, w_n 0 0 0), (356417, w_n 0 0 0), (356418, w_n 0 0 0), (360512, w_n 0 0 0), (360513, w_n 0 0 0), (360514, w_n 0 0 0), (364608, w_g 2147483647 2147483647 0), (364609, w_g 2147483647 2147483647 0), (364610, w_g 2147483647 2147483647 0), (364611, w_g 2147483647 2147483647 0), (364612, w_g 2147483647 2147483647 0), (364613, w_g 2147483647 2147483647 0), (364614, w_g 2147483647 2147483647 0), (364615, w_g 2147483647 2147483647 0), (368704, w_g 2147483647 2147483647 0), (368705, w_g 2147483647 2147483647 0), (368706, w_g 2147483647 2147483647 0), (368707, w_g 2147483647 2147483647 0), (368708, w_g 2147483647 2147483647 0), (368709, w_g 2147483647 2147483647 0), (368710, w_g 2147483647 2147483647 0), (368711, w_g 2147483647 2147483647 0)])], 2)
abbrev x_M_layTold_0 : w_E := e_460
/-- GoodbyeQuayModel.keepAir (by hand) -/
def e_461 : w_E := (240, [w_r 67], [], [(348224, 348251)], [([], none, [])], 1)
abbrev x_M_keepAir_0 : w_E := e_461
/-- GoodbyeQuayModel.quay (by hand) -/
def e_462 : w_E := (275, [w_r 67], [], [(266305, 266313), (266321, 266329), (266331, 266333), (266345, 266360), (266363, 266363), (266366, 266366), (266370, 266371), (266374, 266374), (266382, 266382), (274496, 274507), (278592, 278911), (282688, 283007), (286784, 287103), (290880, 291199), (294976, 295135), (307264, 307268), (311360, 311364), (315456, 315462), (319552, 319558), (323648, 323654), (327744, 327748), (331840, 331844), (335936, 335942), (340032, 340038), (344128, 344134), (348224, 348251), (352320, 352347), (356416, 356418), (360512, 360514), (364608, 364615), (368704, 368711), (426048, 426050)], [([], some (w_g 2147483647 2147483655 0), [(266305, w_n 0 0 0)])], 9)
abbrev x_M_quay_0 : w_E := e_462
/-- GoodbyeQuayModel.fault -/
def e_463 : w_E := (201, [w_r 67, w_t 0], [], [], [([], some (w_t 0), [])], 1)
abbrev x_M_fault_0 : w_E := e_463
/-- GoodbyeQuayModel.isIn -/
def e_464 : w_E := (230, [w_t 0, w_n 0 0 0, w_g 2147483647 2147483652 0], [], [], [([], some (w_n 0 0 0), []), ([(0, (2147483648, 2147483652)), (2, (2147483648, 2147483652))], some (w_n 1 1 0), [])], 1)
abbrev x_M_isIn_0 : w_E := e_464
/-- GoodbyeQuayModel.isShip -/
def e_465 : w_E := (236, [w_r 67, w_t 0], [], [], [([], some (w_n 0 0 0), []), ([(1, (2147483648, 2147483652))], some (w_n 1 1 0), [])], 2)
abbrev x_M_isShip_0 : w_E := e_465
/-- GoodbyeQuayModel.fill -/
def e_466 : w_E := (203, [w_r 67], [], [(266331, 266333), (266363, 266363), (266366, 266366), (352320, 352347), (356416, 356418), (360512, 360514), (364608, 364615), (368704, 368711)], [([], none, [(266332, w_n 1 2 0), (266333, w_g 2147483647 2147483647 0), (266363, w_n 0 0 0), (266366, w_n 0 0 0), (352320, w_n 0 6 0), (352321, w_n 0 6 0), (352322, w_n 0 6 0), (352323, w_n 0 6 0), (352324, w_n 0 6 0), (352325, w_n 0 6 0), (352326, w_n 0 6 0), (352327, w_n 0 6 0), (352328, w_n 0 7 0), (352338, w_g 2147483647 2147483654 0), (352339, w_g 2147483647 2147483654 0), (352340, w_g 2147483647 2147483654 0), (356416, w_n 0 0 0), (356417, w_n 0 0 0), (356418, w_n 0 0 0), (360512, w_n 0 0 0), (360513, w_n 0 0 0), (360514, w_n 0 0 0), (364608, w_g 2147483647 2147483647 0), (364609, w_g 2147483647 2147483647 0), (364610, w_g 2147483647 2147483647 0), (364611, w_g 2147483647 2147483647 0), (364612, w_g 2147483647 2147483647 0), (364613, w_g 2147483647 2147483647 0), (364614, w_g 2147483647 2147483647 0), (364615, w_g 2147483647 2147483647 0), (368704, w_g 2147483647 2147483647 0), (368705, w_g 2147483647 2147483647 0), (368706, w_g 2147483647 2147483647 0), (368707, w_g 2147483647 2147483647 0), (368708, w_g 2147483647 2147483647 0), (368709, w_g 2147483647 2147483647 0), (368710, w_g 2147483647 2147483647 0), (368711, w_g 2147483647 2147483647 0)])], 2)
abbrev x_M_fill_0 : w_E := e_466
/-- GoodbyeQuayModel.has -/
def e_467 : w_E := (216, [w_t 0, w_n 0 4 0], [], [], [([], some (w_n 0 0 0), []), ([], some (w_n 1 1 0), [])], 1)
abbrev x_M_has_1 : w_E := e_467
/-- GoodbyeQuayModel.sailsAt -/
def e_468 : w_E := (291, [w_r 67, w_n 0 4 0], [], [], [([], some (w_n 0 20238 0), [])], 2)
abbrev x_M_sailsAt_0 : w_E := e_468
/-- GoodbyeQuayModel.isGone -/
def e_469 : w_E := (229, [w_r 67, w_n 0 4 0], [], [], [([], some (w_n 0 0 0), []), ([], some (w_n 1 1 0), [])], 3)
abbrev x_M_isGone_0 : w_E := e_469
/-- GoodbyeQuayModel.ship -/
def e_470 : w_E := (297, [w_r 67, w_t 0, w_t 0], [], [(266331, 266333), (266363, 266363), (266366, 266366), (352320, 352347), (356416, 356418), (360512, 360514), (364608, 364615), (368704, 368711)], [([], some (w_g 2147483647 2147503886 0), [])], 4)
abbrev x_M_ship_0 : w_E := e_470
/-- GoodbyeQuayModel.isIn -/
def e_471 : w_E := (230, [w_t 0, w_n 0 0 0, w_g 2147483647 2147483654 0], [], [], [([], some (w_n 0 0 0), []), ([(0, (2147483648, 2147483654)), (2, (2147483648, 2147483654))], some (w_n 1 1 0), [])], 1)
abbrev x_M_isIn_1 : w_E := e_471
/-- GoodbyeQuayModel.isPair -/
def e_472 : w_E := (234, [w_r 67, w_t 0], [], [], [([], some (w_n 0 0 0), []), ([(1, (2147483648, 2147483654))], some (w_n 1 1 0), [])], 2)
abbrev x_M_isPair_0 : w_E := e_472
/-- GoodbyeQuayModel.queueMany -/
def e_473 : w_E := (277, [w_r 67], [], [], [([], some (w_n 0 8 0), [])], 1)
abbrev x_M_queueMany_0 : w_E := e_473
/-- GoodbyeQuayModel.placeOf -/
def e_474 : w_E := (272, [w_r 67, w_n 0 6 0], [], [], [([], some (w_g 2147483647 2147483655 0), [])], 2)
abbrev x_M_placeOf_0 : w_E := e_474
/-- GoodbyeQuayModel.has -/
def e_475 : w_E := (216, [w_t 0, w_n 0 6 0], [], [], [([], some (w_n 0 0 0), []), ([], some (w_n 1 1 0), [])], 1)
abbrev x_M_has_2 : w_E := e_475
/-- GoodbyeQuayModel.pair -/
def e_476 : w_E := (271, [w_r 67, w_t 0, w_t 0], [], [(266331, 266333), (266363, 266363), (266366, 266366), (352320, 352347), (356416, 356418), (360512, 360514), (364608, 364615), (368704, 368711)], [([], some (w_t 0), [])], 3)
abbrev x_M_pair_0 : w_E := e_476
/-- GoodbyeQuayModel.queue -/
def e_477 : w_E := (276, [w_r 67, w_t 0], [], [], [([], some (w_g 2147483647 2147483654 0), [])], 2)
abbrev x_M_queue_0 : w_E := e_477
/-- GoodbyeQuayModel.isIn -/
def e_478 : w_E := (230, [w_t 0, w_n 0 0 0, w_n 0 1 0], [], [], [([], some (w_n 0 0 0), []), ([(0, (2147483648, 2147483649))], some (w_n 1 1 0), [])], 1)
abbrev x_M_isIn_2 : w_E := e_478
/-- GoodbyeQuayModel.rail -/
def e_479 : w_E := (279, [w_r 67, w_t 0, w_t 0], [], [], [([], some (w_t 0), [])], 2)
abbrev x_M_rail_0 : w_E := e_479
/-- GoodbyeQuayModel.isQueued -/
def e_480 : w_E := (235, [w_r 67, w_t 0], [], [], [([], some (w_n 0 0 0), []), ([(1, (2147483648, 2147483654))], some (w_n 1 1 0), [])], 3)
abbrev x_M_isQueued_0 : w_E := e_480
/-- GoodbyeQuayModel.lengthOf (by hand) -/
def e_481 : w_E := (250, [w_r 67, w_n 0 7 0, w_t 0], [], [(299072, 299135), (303168, 303173)], [([], some (w_n 1 60 0), [])], 3)
abbrev x_M_lengthOf_0 : w_E := e_481
/-- GoodbyeQuayModel.lengthNow -/
def e_482 : w_E := (249, [w_r 67, w_n 0 6 0], [], [(266331, 266333), (266363, 266363), (266366, 266366), (299072, 299135), (303168, 303173), (352320, 352347), (356416, 356418), (360512, 360514), (364608, 364615), (368704, 368711)], [([], some (w_n 1 60 0), [(266332, w_n 1 2 0), (266333, w_g 2147483647 2147483647 0), (266363, w_n 0 0 0), (266366, w_n 0 0 0), (352320, w_n 0 6 0), (352321, w_n 0 6 0), (352322, w_n 0 6 0), (352323, w_n 0 6 0), (352324, w_n 0 6 0), (352325, w_n 0 6 0), (352326, w_n 0 6 0), (352327, w_n 0 6 0), (352328, w_n 0 7 0), (352338, w_g 2147483647 2147483654 0), (352339, w_g 2147483647 2147483654 0), (352340, w_g 2147483647 2147483654 0), (356416, w_n 0 0 0), (356417, w_n 0 0 0), (356418, w_n 0 0 0), (360512, w_n 0 0 0), (360513, w_n 0 0 0), (360514, w_n 0 0 0), (364608, w_g 2147483647 2147483647 0), (364609, w_g 2147483647 2147483647 0), (364610, w_g 2147483647 2147483647 0), (364611, w_g 2147483647 2147483647 0), (364612, w_g 2147483647 2147483647 0), (364613, w_g 2147483647 2147483647 0), (364614, w_g 2147483647 2147483647 0), (364615, w_g 2147483647 2147483647 0), (368704, w_g 2147483647 2147483647 0), (368705, w_g 2147483647 2147483647 0), (368706, w_g 2147483647 2147483647 0), (368707, w_g 2147483647 2147483647 0), (368708, w_g 2147483647 2147483647 0), (368709, w_g 2147483647 2147483647 0), (368710, w_g 2147483647 2147483647 0), (368711, w_g 2147483647 2147483647 0)])], 4)
abbrev x_M_lengthNow_0 : w_E := e_482
/-- GoodbyeQuayModel.length -/
def e_483 : w_E := (248, [w_r 67, w_t 0], [], [(266331, 266333), (266363, 266363), (266366, 266366), (299072, 299135), (303168, 303173), (352320, 352347), (356416, 356418), (360512, 360514), (364608, 364615), (368704, 368711)], [([], some (w_g 2147483647 2147483708 0), [])], 5)
abbrev x_M_length_0 : w_E := e_483
/-- GoodbyeQuayModel.minute (by hand) -/
def e_484 : w_E := (260, [w_r 67], [], [(266331, 266333), (266363, 266363), (266366, 266366), (299072, 299135), (303168, 303173), (352320, 352347), (356416, 356418), (360512, 360514), (364608, 364615), (368704, 368711)], [([], some (w_t 0), [])], 20)
abbrev x_M_minute_0 : w_E := e_484
/-- GoodbyeQuayModel.change (by hand) -/
def e_485 : w_E := (185, [w_r 67, w_t 0, w_t 0], [], [(266331, 266333), (266363, 266363), (266366, 266366), (299072, 299135), (303168, 303173), (352320, 352347), (356416, 356418), (360512, 360514), (364608, 364615), (368704, 368711)], [([], some (w_t 0), [])], 20)
abbrev x_M_change_0 : w_E := e_485
/-- GoodbyeQuayModel.act (by hand) -/
def e_486 : w_E := (175, [w_r 67], [], [(266331, 266333), (266363, 266363), (266366, 266366), (266370, 266371), (352320, 352347), (356416, 356418), (360512, 360514), (364608, 364615), (368704, 368711), (372800, 373919)], [([], none, [])], 3)
abbrev x_M_act_0 : w_E := e_486
/-- GoodbyeQuayModel.turnShort -/
def e_487 : w_E := (314, [w_r 67, w_n 0 6 0], [], [(266331, 266333), (266363, 266363), (266366, 266366), (266370, 266371), (299072, 299135), (303168, 303173), (348241, 348241), (352320, 352347), (356416, 356418), (360512, 360514), (364608, 364615), (368704, 368711), (372800, 373919)], [([], some (w_n 1 60 0), [(266332, w_n 1 2 0), (266333, w_g 2147483647 2147483647 0), (266363, w_n 0 0 0), (266366, w_n 0 0 0), (352320, w_n 0 6 0), (352321, w_n 0 6 0), (352322, w_n 0 6 0), (352323, w_n 0 6 0), (352324, w_n 0 6 0), (352325, w_n 0 6 0), (352326, w_n 0 6 0), (352327, w_n 0 6 0), (352328, w_n 0 7 0), (352338, w_g 2147483647 2147483654 0), (352339, w_g 2147483647 2147483654 0), (352340, w_g 2147483647 2147483654 0), (356416, w_n 0 0 0), (356417, w_n 0 0 0), (356418, w_n 0 0 0), (360512, w_n 0 0 0), (360513, w_n 0 0 0), (360514, w_n 0 0 0), (364608, w_g 2147483647 2147483647 0), (364609, w_g 2147483647 2147483647 0), (364610, w_g 2147483647 2147483647 0), (364611, w_g 2147483647 2147483647 0), (364612, w_g 2147483647 2147483647 0), (364613, w_g 2147483647 2147483647 0), (364614, w_g 2147483647 2147483647 0), (364615, w_g 2147483647 2147483647 0), (368704, w_g 2147483647 2147483647 0), (368705, w_g 2147483647 2147483647 0), (368706, w_g 2147483647 2147483647 0), (368707, w_g 2147483647 2147483647 0), (368708, w_g 2147483647 2147483647 0), (368709, w_g 2147483647 2147483647 0), (368710, w_g 2147483647 2147483647 0), (368711, w_g 2147483647 2147483647 0)])], 5)
abbrev x_M_turnShort_0 : w_E := e_487
/-- GoodbyeQuayModel.shorten -/
def e_488 : w_E := (298, [w_r 67, w_t 0], [], [(266331, 266333), (266363, 266363), (266366, 266366), (266370, 266371), (299072, 299135), (303168, 303173), (348241, 348241), (352320, 352347), (356416, 356418), (360512, 360514), (364608, 364615), (368704, 368711), (372800, 373919)], [([], some (w_g 2147483647 2147483708 0), [])], 6)
abbrev x_M_shorten_0 : w_E := e_488
/-- GoodbyeQuayModel.insist -/
def e_489 : w_E := (223, [w_r 67, w_t 0], [], [(266331, 266333), (266363, 266363), (266366, 266366), (266370, 266371), (299072, 299135), (303168, 303173), (348241, 348241), (352320, 352347), (356416, 356418), (360512, 360514), (364608, 364615), (368704, 368711), (372800, 373919)], [([], some (w_g 2147483647 2147483708 0), [])], 6)
abbrev x_M_insist_0 : w_E := e_489
/-- GoodbyeQuayModel.giveUp (by hand) -/
def e_490 : w_E := (211, [w_r 67, w_t 0], [], [(266331, 266333), (266363, 266363), (266366, 266366), (299072, 299135), (303168, 303173), (352320, 352347), (356416, 356418), (360512, 360514), (364608, 364615), (368704, 368711)], [([], some (w_t 0), [])], 20)
abbrev x_M_giveUp_0 : w_E := e_490
/-- GoodbyeQuayModel.join (by hand) -/
def e_491 : w_E := (239, [w_r 67, w_t 0], [], [(266331, 266333), (266363, 266363), (266366, 266366), (299072, 299135), (303168, 303173), (352320, 352347), (356416, 356418), (360512, 360514), (364608, 364615), (368704, 368711)], [([], some (w_t 0), [])], 20)
abbrev x_M_join_0 : w_E := e_491
/-- GoodbyeQuayModel.await -/
def e_492 : w_E := (181, [w_r 67, w_t 0], [], [(266331, 266333), (266363, 266363), (266366, 266366), (266370, 266371), (348248, 348248), (352320, 352347), (356416, 356418), (360512, 360514), (364608, 364615), (368704, 368711), (372800, 373919)], [([], some (w_g 2147483647 2147503886 0), [(266332, w_n 1 2 0), (266333, w_g 2147483647 2147483647 0), (266363, w_n 0 0 0), (266366, w_n 0 0 0), (352320, w_n 0 6 0), (352321, w_n 0 6 0), (352322, w_n 0 6 0), (352323, w_n 0 6 0), (352324, w_n 0 6 0), (352325, w_n 0 6 0), (352326, w_n 0 6 0), (352327, w_n 0 6 0), (352328, w_n 0 7 0), (352338, w_g 2147483647 2147483654 0), (352339, w_g 2147483647 2147483654 0), (352340, w_g 2147483647 2147483654 0), (356416, w_n 0 0 0), (356417, w_n 0 0 0), (356418, w_n 0 0 0), (360512, w_n 0 0 0), (360513, w_n 0 0 0), (360514, w_n 0 0 0), (364608, w_g 2147483647 2147483647 0), (364609, w_g 2147483647 2147483647 0), (364610, w_g 2147483647 2147483647 0), (364611, w_g 2147483647 2147483647 0), (364612, w_g 2147483647 2147483647 0), (364613, w_g 2147483647 2147483647 0), (364614, w_g 2147483647 2147483647 0), (364615, w_g 2147483647 2147483647 0), (368704, w_g 2147483647 2147483647 0), (368705, w_g 2147483647 2147483647 0), (368706, w_g 2147483647 2147483647 0), (368707, w_g 2147483647 2147483647 0), (368708, w_g 2147483647 2147483647 0), (368709, w_g 2147483647 2147483647 0), (368710, w_g 2147483647 2147483647 0), (368711, w_g 2147483647 2147483647 0)])], 4)
abbrev x_M_await_0 : w_E := e_492
/-- GoodbyeQuayModel.undo (by hand) -/
def e_493 : w_E := (315, [w_r 67], [], [(266331, 266333), (266363, 266363), (266366, 266366), (299072, 299135), (303168, 303173), (352320, 352347), (356416, 356418), (360512, 360514), (364608, 364615), (368704, 368711)], [([], some (w_t 0), [])], 20)
abbrev x_M_undo_0 : w_E := e_493
/-- GoodbyeQuayModel.redo (by hand) -/
def e_494 : w_E := (285, [w_r 67], [], [(266331, 266333), (266363, 266363), (266366, 266366), (299072, 299135), (303168, 303173), (352320, 352347), (356416, 356418), (360512, 360514), (364608, 364615), (368704, 368711)], [([], some (w_t 0), [])], 20)
abbrev x_M_redo_0 : w_E := e_494
/-- GoodbyeQuayModel.isIn -/
def e_495 : w_E := (230, [w_t 0, w_n 0 0 0, w_n 400 400 0], [], [], [([], some (w_n 0 0 0), []), ([(0, (2147483648, 2147484048))], some (w_n 1 1 0), [])], 1)
abbrev x_M_isIn_3 : w_E := e_495
/-- GoodbyeQuayModel.isIn -/
def e_496 : w_E := (230, [w_t 0, w_n 0 0 0, w_n 1 1 0], [], [], [([], some (w_n 0 0 0), []), ([(0, (2147483648, 2147483649))], some (w_n 1 1 0), [])], 1)
abbrev x_M_isIn_4 : w_E := e_496
/-- GoodbyeQuayModel.isFree -/
def e_497 : w_E := (227, [w_r 67, w_n 0 0 0], [], [], [([], some (w_n 0 0 0), [(352338, w_n 0 7 0)]), ([], some (w_n 1 1 0), [(352338, w_g 2147483647 2147483647 0)])], 1)
abbrev x_M_isFree_0 : w_E := e_497
/-- GoodbyeQuayModel.isFree -/
def e_498 : w_E := (227, [w_r 67, w_n 1 1 0], [], [], [([], some (w_n 0 0 0), [(352339, w_n 0 7 0)]), ([], some (w_n 1 1 0), [(352339, w_g 2147483647 2147483647 0)])], 1)
abbrev x_M_isFree_1 : w_E := e_498
/-- GoodbyeQuayModel.isFree -/
def e_499 : w_E := (227, [w_r 67, w_n 2 2 0], [], [], [([], some (w_n 0 0 0), [(352340, w_n 0 7 0)]), ([], some (w_n 1 1 0), [(352340, w_g 2147483647 2147483647 0)])], 1)
abbrev x_M_isFree_2 : w_E := e_499
/-- GoodbyeQuayModel.isEmpty -/
def e_500 : w_E := (226, [w_r 67], [], [], [([], some (w_n 1 1 0), []), ([], some (w_n 0 0 0), [])], 2)
abbrev x_M_isEmpty_0 : w_E := e_500
/-- GoodbyeQuayModel.misses -/
def e_501 : w_E := (261, [w_r 67, w_n 0 7 0], [], [(352329, 352336), (352345, 352345)], [([], none, [])], 1)
abbrev x_M_misses_0 : w_E := e_501
/-- GoodbyeQuayModel.frees -/
def e_502 : w_E := (210, [w_r 67, w_n 2 2 0], [], [(352340, 352340), (352343, 352343), (356418, 356418), (360514, 360514)], [([], none, [(352340, w_g 2147483647 2147483647 0), (352343, w_n 0 0 0), (360514, w_n 0 0 0)])], 1)
abbrev x_M_frees_0 : w_E := e_502
/-- GoodbyeQuayModel.frees -/
def e_503 : w_E := (210, [w_r 67, w_n 1 1 0], [], [(352339, 352339), (352342, 352342), (356417, 356417), (360513, 360513)], [([], none, [(352339, w_g 2147483647 2147483647 0), (352342, w_n 0 0 0), (360513, w_n 0 0 0)])], 1)
abbrev x_M_frees_1 : w_E := e_503
/-- GoodbyeQuayModel.frees -/
def e_504 : w_E := (210, [w_r 67, w_n 0 0 0], [], [(352338, 352338), (352341, 352341), (356416, 356416), (360512, 360512)], [([], none, [(352338, w_g 2147483647 2147483647 0), (352341, w_n 0 0 0), (360512, w_n 0 0 0)])], 1)
abbrev x_M_frees_2 : w_E := e_504
/-- GoodbyeQuayModel.takeOut -/
def e_505 : w_E := (307, [w_r 67, w_n 0 7 0], [(352328, w_n 1 8 0)], [(352320, 352326), (352328, 352328)], [([], some (w_n 0 7 0), [(352328, w_n 0 7 0)])], 2)
abbrev x_M_takeOut_0 : w_E := e_505
/-- GoodbyeQuayModel.stepsUp (by hand) -/
def e_506 : w_E := (304, [w_r 67, w_n 2 2 0, w_n 0 1 0], [(352328, w_n 0 7 0)], [(299072, 299135), (303168, 303173), (352320, 352326), (352328, 352336), (352340, 352340), (352343, 352343), (352345, 352345), (352347, 352347), (368704, 368711)], [([], none, [(352328, w_n 0 7 0)])], 4)
abbrev x_M_stepsUp_0 : w_E := e_506
/-- GoodbyeQuayModel.stepsUp (by hand) -/
def e_507 : w_E := (304, [w_r 67, w_n 1 1 0, w_n 0 1 0], [(352328, w_n 0 7 0)], [(299072, 299135), (303168, 303173), (352320, 352326), (352328, 352336), (352339, 352339), (352342, 352342), (352345, 352345), (352347, 352347), (368704, 368711)], [([], none, [(352328, w_n 0 7 0)])], 4)
abbrev x_M_stepsUp_1 : w_E := e_507
/-- GoodbyeQuayModel.stepsUp (by hand) -/
def e_508 : w_E := (304, [w_r 67, w_n 0 0 0, w_n 0 1 0], [(352328, w_n 0 7 0)], [(299072, 299135), (303168, 303173), (352320, 352326), (352328, 352336), (352338, 352338), (352341, 352341), (352345, 352345), (352347, 352347), (368704, 368711)], [([], none, [(352328, w_n 0 7 0)])], 4)
abbrev x_M_stepsUp_2 : w_E := e_508
/-- GoodbyeQuayModel.goMinute -/
def e_509 : w_E := (212, [w_r 67, w_n 0 1 0], [(352328, w_n 0 7 0)], [(266366, 266366), (299072, 299135), (303168, 303173), (352320, 352326), (352328, 352336), (352338, 352343), (352345, 352347), (356416, 356418), (360512, 360514), (364608, 364615), (368704, 368711)], [([], some (w_n 0 255 0), [(352328, w_n 0 7 0)])], 5)
abbrev x_M_goMinute_0 : w_E := e_509
/-- GoodbyeQuayModel.will -/
def e_510 : w_E := (320, [w_r 67, w_t 0, w_t 0, w_t 0], [], [(266331, 266333), (266363, 266363), (266366, 266366), (299072, 299135), (303168, 303173), (352320, 352347), (356416, 356418), (360512, 360514), (364608, 364615), (368704, 368711)], [([], some (w_g 2147483647 2147483652 0), [])], 6)
abbrev x_M_will_0 : w_E := e_510
/-- GoodbyeQuayModel.stepsUp (by hand) -/
def e_511 : w_E := (304, [w_r 67, w_n 2 2 0, w_n 0 0 0], [], [(299072, 299135), (303168, 303173), (352320, 352326), (352328, 352336), (352340, 352340), (352343, 352343), (352345, 352345), (368704, 368711)], [([], none, [])], 4)
abbrev x_M_stepsUp_3 : w_E := e_511
/-- GoodbyeQuayModel.stepsUp (by hand) -/
def e_512 : w_E := (304, [w_r 67, w_n 1 1 0, w_n 0 0 0], [], [(299072, 299135), (303168, 303173), (352320, 352326), (352328, 352336), (352339, 352339), (352342, 352342), (352345, 352345), (368704, 368711)], [([], none, [])], 4)
abbrev x_M_stepsUp_4 : w_E := e_512
/-- GoodbyeQuayModel.stepsUp (by hand) -/
def e_513 : w_E := (304, [w_r 67, w_n 0 0 0, w_n 0 0 0], [], [(299072, 299135), (303168, 303173), (352320, 352326), (352328, 352336), (352338, 352338), (352341, 352341), (352345, 352345), (368704, 368711)], [([], none, [])], 4)
abbrev x_M_stepsUp_5 : w_E := e_513
/-- GoodbyeQuayModel.goMinute -/
def e_514 : w_E := (212, [w_r 67, w_n 0 0 0], [], [(266366, 266366), (299072, 299135), (303168, 303173), (352320, 352326), (352328, 352336), (352338, 352343), (352345, 352346), (356416, 356418), (360512, 360514), (364608, 364615), (368704, 368711)], [([], some (w_n 0 255 0), [])], 5)
abbrev x_M_goMinute_1 : w_E := e_514
/-- GoodbyeQuayModel.goOn (by hand) -/
def e_515 : w_E := (213, [w_r 67], [], [(266366, 266366), (299072, 299135), (303168, 303173), (352320, 352326), (352328, 352336), (352338, 352343), (352345, 352346), (356416, 356418), (360512, 360514), (364608, 364615), (368704, 368711)], [([], none, [])], 6)
abbrev x_M_goOn_0 : w_E := e_515
/-- GoodbyeQuayModel.greater -/
def e_516 : w_E := (214, [w_n 0 0 0, w_t 0], [], [], [([], some (w_n 0 2147483647 0), [])], 1)
abbrev x_M_greater_1 : w_E := e_516
/-- GoodbyeQuayModel.saidHere -/
def e_517 : w_E := (288, [w_r 67, w_n 0 6 0], [], [], [([], some (w_n 0 2147483647 0), [])], 2)
abbrev x_M_saidHere_0 : w_E := e_517
/-- GoodbyeQuayModel.orNone -/
def e_518 : w_E := (268, [w_n 0 2147483647 0], [], [], [([], some (w_g 2147483647 4294967295 0), [])], 1)
abbrev x_M_orNone_0 : w_E := e_518
/-- GoodbyeQuayModel.says -/
def e_519 : w_E := (292, [w_r 67, w_t 0], [], [(266331, 266333), (266363, 266363), (266366, 266366), (299072, 299135), (303168, 303173), (352320, 352347), (356416, 356418), (360512, 360514), (364608, 364615), (368704, 368711)], [([], some (w_g 2147483647 4294967295 0), [])], 7)
abbrev x_M_says_0 : w_E := e_519
/-- GoodbyeQuayModel.steps -/
def e_520 : w_E := (303, [w_r 67, w_t 0], [], [(266331, 266333), (266363, 266363), (266366, 266366), (299072, 299135), (303168, 303173), (352320, 352347), (356416, 356418), (360512, 360514), (364608, 364615), (368704, 368711)], [([], some (w_t 0), [])], 7)
abbrev x_M_steps_0 : w_E := e_520
/-- GoodbyeQuayModel.missing -/
def e_521 : w_E := (262, [w_r 67], [], [(266331, 266333), (266363, 266363), (266366, 266366), (299072, 299135), (303168, 303173), (352320, 352347), (356416, 356418), (360512, 360514), (364608, 364615), (368704, 368711)], [([], some (w_n 0 127 0), [(266332, w_n 1 2 0), (266333, w_g 2147483647 2147483647 0), (266363, w_n 0 0 0), (352327, w_n 0 6 0)])], 7)
abbrev x_M_missing_0 : w_E := e_521
/-- GoodbyeQuayModel.empty -/
def e_522 : w_E := (197, [w_r 67], [], [(266331, 266333), (266363, 266363), (266366, 266366), (299072, 299135), (303168, 303173), (352320, 352347), (356416, 356418), (360512, 360514), (364608, 364615), (368704, 368711)], [([], some (w_t 0), [(266332, w_n 1 2 0), (266333, w_g 2147483647 2147483647 0), (266363, w_n 0 0 0), (352327, w_n 0 6 0)])], 7)
abbrev x_M_empty_0 : w_E := e_522
/-- GoodbyeQuayModel.saidOnes -/
def e_523 : w_E := (290, [w_r 67], [], [], [([], some (w_n 0 255 0), [])], 2)
abbrev x_M_saidOnes_0 : w_E := e_523
/-- GoodbyeQuayModel.members -/
def e_524 : w_E := (259, [w_n 0 255 0], [], [], [([], some (w_n 0 8 0), [])], 1)
abbrev x_M_members_0 : w_E := e_524
/-- GoodbyeQuayModel.countHere -/
def e_525 : w_E := (189, [w_r 67], [], [(266366, 266366), (299072, 299135), (303168, 303173), (352320, 352326), (352328, 352336), (352338, 352343), (352345, 352346), (356416, 356418), (360512, 360514), (364608, 364615), (368704, 368711)], [([], some (w_n 0 8 0), [])], 7)
abbrev x_M_countHere_0 : w_E := e_525
/-- GoodbyeQuayModel.count -/
def e_526 : w_E := (188, [w_r 67], [], [(266331, 266333), (266363, 266363), (266366, 266366), (299072, 299135), (303168, 303173), (352320, 352347), (356416, 356418), (360512, 360514), (364608, 364615), (368704, 368711)], [([], some (w_n 0 8 0), [(266332, w_n 1 2 0), (266333, w_g 2147483647 2147483647 0), (266363, w_n 0 0 0), (352327, w_n 0 6 0)])], 8)
abbrev x_M_count_0 : w_E := e_526
/-- GoodbyeQuayModel.loveHere -/
def e_527 : w_E := (256, [w_r 67], [], [(266366, 266366), (299072, 299135), (303168, 303173), (352320, 352326), (352328, 352336), (352338, 352343), (352345, 352346), (356416, 356418), (360512, 360514), (364608, 364615), (368704, 368711)], [([], some (w_t 0), [])], 7)
abbrev x_M_loveHere_0 : w_E := e_527
/-- GoodbyeQuayModel.love -/
def e_528 : w_E := (255, [w_r 67], [], [(266331, 266333), (266363, 266363), (266366, 266366), (299072, 299135), (303168, 303173), (352320, 352347), (356416, 356418), (360512, 360514), (364608, 364615), (368704, 368711)], [([], some (w_t 0), [(266332, w_n 1 2 0), (266333, w_g 2147483647 2147483647 0), (266363, w_n 0 0 0), (352327, w_n 0 6 0)])], 8)
abbrev x_M_love_0 : w_E := e_528
/-- GoodbyeQuayModel.bestOrder (by hand) -/
def e_529 : w_E := (183, [w_r 67, w_n 0 1 0], [], [(266331, 266333), (266363, 266363), (266366, 266366), (266374, 266374), (299072, 299135), (303168, 303173), (352320, 352347), (356416, 356418), (360512, 360514), (364608, 364615), (368704, 368711), (376896, 376902), (380992, 380998)], [([], some (w_t 0), [])], 8)
abbrev x_M_bestOrder_0 : w_E := e_529
/-- GoodbyeQuayModel.order -/
def e_530 : w_E := (269, [w_r 67], [], [(266331, 266333), (266363, 266363), (266366, 266366), (266374, 266374), (299072, 299135), (303168, 303173), (352320, 352347), (356416, 356418), (360512, 360514), (364608, 364615), (368704, 368711), (376896, 376902), (380992, 380998)], [([], some (w_t 0), [])], 9)
abbrev x_M_order_0 : w_E := e_530
/-- GoodbyeQuayModel.dearest -/
def e_531 : w_E := (192, [w_r 67], [], [(266331, 266333), (266363, 266363), (266366, 266366), (266374, 266374), (299072, 299135), (303168, 303173), (352320, 352347), (356416, 356418), (360512, 360514), (364608, 364615), (368704, 368711), (376896, 376902), (380992, 380998)], [([], some (w_t 0), [])], 9)
abbrev x_M_dearest_0 : w_E := e_531
/-- GoodbyeQuayModel.isIn -/
def e_532 : w_E := (230, [w_n 0 0 0, w_n 0 0 0, w_g 2147483647 2147483654 0], [], [], [([(2, (2147483647, 2147483647))], some (w_n 0 0 0), []), ([(2, (2147483648, 2147483654))], some (w_n 1 1 0), [])], 1)
abbrev x_M_isIn_5 : w_E := e_532
/-- GoodbyeQuayModel.isPair -/
def e_533 : w_E := (234, [w_r 67, w_n 0 0 0], [], [], [([], some (w_n 0 0 0), []), ([], some (w_n 1 1 0), [])], 2)
abbrev x_M_isPair_1 : w_E := e_533
/-- GoodbyeQuayModel.isQueued -/
def e_534 : w_E := (235, [w_r 67, w_n 0 0 0], [], [], [([], some (w_n 0 0 0), []), ([], some (w_n 1 1 0), [(348233, w_n 0 0 0)])], 3)
abbrev x_M_isQueued_1 : w_E := e_534
/-- GoodbyeQuayModel.isIn -/
def e_535 : w_E := (230, [w_n 0 6 0, w_n 0 0 0, w_g 2147483647 2147483654 0], [], [], [([(2, (2147483647, 2147483653))], some (w_n 0 0 0), []), ([(2, (2147483648, 2147483654))], some (w_n 1 1 0), [])], 1)
abbrev x_M_isIn_6 : w_E := e_535
/-- GoodbyeQuayModel.isPair -/
def e_536 : w_E := (234, [w_r 67, w_n 0 6 0], [], [], [([], some (w_n 0 0 0), []), ([], some (w_n 1 1 0), [])], 2)
abbrev x_M_isPair_2 : w_E := e_536
/-- GoodbyeQuayModel.isQueued -/
def e_537 : w_E := (235, [w_r 67, w_n 0 6 0], [], [], [([], some (w_n 0 0 0), []), ([], some (w_n 1 1 0), [])], 3)
abbrev x_M_isQueued_2 : w_E := e_537
/-- GoodbyeQuayModel.queuedOnes -/
def e_538 : w_E := (278, [w_r 67], [], [], [([], some (w_n 0 127 0), [])], 4)
abbrev x_M_queuedOnes_0 : w_E := e_538
/-- GoodbyeQuayModel.railedOnes -/
def e_539 : w_E := (280, [w_r 67], [], [], [([], some (w_n 0 127 0), [])], 2)
abbrev x_M_railedOnes_0 : w_E := e_539
/-- GoodbyeQuayModel.doAllSay -/
def e_540 : w_E := (195, [w_r 67, w_n 0 127 0], [], [(266366, 266366), (299072, 299135), (303168, 303173), (352320, 352326), (352328, 352336), (352338, 352343), (352345, 352346), (356416, 356418), (360512, 360514), (364608, 364615), (368704, 368711)], [([], some (w_n 0 0 0), []), ([], some (w_n 1 1 0), [])], 7)
abbrev x_M_doAllSay_0 : w_E := e_540
/-- GoodbyeQuayModel.shortest -/
def e_541 : w_E := (299, [w_r 67, w_t 0], [], [(266331, 266333), (266363, 266363), (266366, 266366), (299072, 299135), (303168, 303173), (352320, 352347), (356416, 356418), (360512, 360514), (364608, 364615), (368704, 368711)], [([], some (w_g 2147483647 2147483775 0), [])], 8)
abbrev x_M_shortest_0 : w_E := e_541
/-- GoodbyeQuayModel.spare (by hand) -/
def e_542 : w_E := (302, [w_r 67, w_t 0], [], [(266331, 266333), (266363, 266363), (266366, 266366), (299072, 299135), (303168, 303173), (352320, 352347), (356416, 356418), (360512, 360514), (364608, 364615), (368704, 368711)], [([], some (w_t 0), [])], 20)
abbrev x_M_spare_0 : w_E := e_542
/-- GoodbyeQuayModel.has -/
def e_543 : w_E := (216, [w_n 0 127 0, w_n 0 0 0], [], [], [([], some (w_n 0 0 0), []), ([], some (w_n 1 1 0), [])], 1)
abbrev x_M_has_3 : w_E := e_543
/-- GoodbyeQuayModel.has -/
def e_544 : w_E := (216, [w_n 0 127 0, w_n 0 6 0], [], [], [([], some (w_n 0 0 0), []), ([], some (w_n 1 1 0), [])], 1)
abbrev x_M_has_4 : w_E := e_544
/-- GoodbyeQuayModel.hold -/
def e_545 : w_E := (220, [w_r 67, w_t 0], [], [(266331, 266334), (266363, 266363), (266366, 266366), (299072, 299135), (303168, 303173), (352320, 352347), (356416, 356418), (360512, 360514), (364608, 364615), (368704, 368711)], [([], some (w_g 2147483647 2147483888 0), [(266332, w_n 1 2 0), (266363, w_n 0 0 0), (352327, w_n 0 6 0)])], 8)
abbrev x_M_hold_0 : w_E := e_545
/-- GoodbyeQuayModel.swap (by hand) -/
def e_546 : w_E := (306, [w_r 67, w_t 0], [], [(266331, 266333), (266363, 266363), (266366, 266366), (299072, 299135), (303168, 303173), (352320, 352347), (356416, 356418), (360512, 360514), (364608, 364615), (368704, 368711)], [([], some (w_t 0), [])], 20)
abbrev x_M_swap_0 : w_E := e_546
/-- GoodbyeQuayModel.wish (by hand) -/
def e_547 : w_E := (321, [w_r 67, w_t 0], [], [(266331, 266333), (266363, 266363), (266366, 266366), (299072, 299135), (303168, 303173), (352320, 352347), (356416, 356418), (360512, 360514), (364608, 364615), (368704, 368711)], [([], some (w_t 0), [])], 20)
abbrev x_M_wish_0 : w_E := e_547
/-- GoodbyeQuayModel.trade (by hand) -/
def e_548 : w_E := (312, [w_r 67], [], [(266331, 266333), (266363, 266363), (266366, 266366), (299072, 299135), (303168, 303173), (352320, 352347), (356416, 356418), (360512, 360514), (364608, 364615), (368704, 368711)], [([], some (w_t 0), [])], 20)
abbrev x_M_trade_0 : w_E := e_548
/-- GoodbyeQuayModel.delay (by hand) -/
def e_549 : w_E := (193, [w_r 67, w_t 0, w_t 0], [], [(266331, 266333), (266363, 266363), (266366, 266366), (299072, 299135), (303168, 303173), (352320, 352347), (356416, 356418), (360512, 360514), (364608, 364615), (368704, 368711)], [([], some (w_t 0), [])], 20)
abbrev x_M_delay_0 : w_E := e_549
/-- GoodbyeQuayModel.grudge (by hand) -/
def e_550 : w_E := (215, [w_r 67, w_t 0], [], [(266331, 266333), (266363, 266363), (266366, 266366), (299072, 299135), (303168, 303173), (352320, 352347), (356416, 356418), (360512, 360514), (364608, 364615), (368704, 368711)], [([], some (w_t 0), [])], 20)
abbrev x_M_grudge_0 : w_E := e_550
/-- GoodbyeQuayModel.orders -/
def e_551 : w_E := (270, [w_g 2147483639 2147483656 0], [], [], [([], some (w_n 1 40320 0), [])], 1)
abbrev x_M_orders_0 : w_E := e_551
/-- GoodbyeQuayModel.countOnly (by hand) -/
def e_552 : w_E := (190, [w_r 67, w_n 0 127 0], [], [(266331, 266333), (266363, 266363), (266366, 266366), (299072, 299135), (303168, 303173), (352320, 352347), (356416, 356418), (360512, 360514), (364608, 364615), (368704, 368711)], [([], some (w_n 0 8 0), [])], 8)
abbrev x_M_countOnly_0 : w_E := e_552
/-- GoodbyeQuayModel.divisor (by hand) -/
def e_553 : w_E := (194, [w_n 1 2147483647 0, w_t 0], [], [], [([], some (w_n 1 2147483647 0), [])], 1)
abbrev x_M_divisor_0 : w_E := e_553
/-- GoodbyeQuayModel.blame -/
def e_554 : w_E := (184, [w_r 67, w_t 0, w_t 0], [], [(266331, 266333), (266363, 266363), (266366, 266366), (299072, 299135), (303168, 303173), (352320, 352347), (356416, 356418), (360512, 360514), (364608, 364615), (368704, 368711)], [([], some (w_t 0), [])], 9)
abbrev x_M_blame_0 : w_E := e_554
/-- GoodbyeQuayModel.isIn -/
def e_555 : w_E := (230, [w_t 0, w_n 0 0 0, w_n 60 60 0], [], [], [([], some (w_n 0 0 0), []), ([(0, (2147483648, 2147483708))], some (w_n 1 1 0), [])], 1)
abbrev x_M_isIn_7 : w_E := e_555
/-- GoodbyeQuayModel.isFree -/
def e_556 : w_E := (227, [w_r 67, w_n 0 1 0], [], [], [([], some (w_n 0 0 0), []), ([], some (w_n 1 1 0), [])], 1)
abbrev x_M_isFree_3 : w_E := e_556
/-- GoodbyeQuayModel.saidIfHeld -/
def e_557 : w_E := (289, [w_r 67, w_n 0 60 0], [], [(266331, 266333), (266363, 266363), (266366, 266366), (299072, 299135), (303168, 303173), (352320, 352347), (356416, 356418), (360512, 360514), (364608, 364615), (368704, 368711)], [([], some (w_n 0 255 0), [(266332, w_n 1 2 0), (266333, w_g 2147483647 2147483647 0), (352327, w_n 0 6 0)])], 7)
abbrev x_M_saidIfHeld_0 : w_E := e_557
/-- GoodbyeQuayModel.lets -/
def e_558 : w_E := (252, [w_r 67, w_t 0], [], [(266331, 266333), (266363, 266363), (266366, 266366), (299072, 299135), (303168, 303173), (352320, 352347), (356416, 356418), (360512, 360514), (364608, 364615), (368704, 368711)], [([], some (w_g 2147483647 2147483903 0), [])], 8)
abbrev x_M_lets_0 : w_E := e_558
/-- GoodbyeQuayModel.room -/
def e_559 : w_E := (286, [w_r 67], [], [(266331, 266333), (266363, 266363), (266366, 266366), (299072, 299135), (303168, 303173), (352320, 352347), (356416, 356418), (360512, 360514), (364608, 364615), (368704, 368711)], [([], some (w_n 0 60 0), [(266332, w_n 1 2 0), (266333, w_g 2147483647 2147483647 0), (352327, w_n 0 6 0)])], 8)
abbrev x_M_room_0 : w_E := e_559
/-- GoodbyeQuayModel.isIn -/
def e_560 : w_E := (230, [w_t 0, w_n 1 1 0, w_n 30 30 0], [], [], [([], some (w_n 0 0 0), []), ([(0, (2147483649, 2147483678))], some (w_n 1 1 0), [])], 1)
abbrev x_M_isIn_8 : w_E := e_560
/-- GoodbyeQuayModel.putLast (by hand) -/
def e_561 : w_E := (274, [w_r 67, w_n 0 7 0], [(352328, w_n 0 7 0)], [(352320, 352336)], [([], none, [(352328, w_n 1 8 0)])], 2)
abbrev x_M_putLast_0 : w_E := e_561
/-- GoodbyeQuayModel.last -/
def e_562 : w_E := (241, [w_r 67, w_t 0, w_t 0], [], [(266331, 266333), (266363, 266363), (266366, 266366), (299072, 299135), (303168, 303173), (335943, 335943), (340039, 340039), (344135, 344135), (352320, 352347), (356416, 356418), (360512, 360514), (364608, 364615), (368704, 368711)], [([], some (w_g 2147483647 2147483888 0), [])], 7)
abbrev x_M_last_0 : w_E := e_562
/-- GoodbyeQuayModel.lesser -/
def e_563 : w_E := (251, [w_n 3 3 0, w_n 2 3 0], [], [], [([], some (w_n 2 3 0), [])], 1)
abbrev x_M_lesser_1 : w_E := e_563
/-- GoodbyeQuayModel.second -/
def e_564 : w_E := (295, [w_r 67], [], [(266331, 266333), (266363, 266363), (266366, 266366), (299072, 299135), (303168, 303173), (352320, 352347), (356416, 356418), (360512, 360514), (364608, 364615), (368704, 368711)], [([], some (w_n 0 8 0), [(266332, w_n 2 3 0), (266333, w_g 2147483647 2147483647 0), (266363, w_n 0 0 0), (352327, w_n 0 6 0)])], 8)
abbrev x_M_second_0 : w_E := e_564
/-- GoodbyeQuayModel.aside (by hand) -/
def e_565 : w_E := (178, [w_r 67, w_t 0], [], [(266331, 266333), (266363, 266363), (266366, 266366), (299072, 299135), (303168, 303173), (352320, 352347), (356416, 356418), (360512, 360514), (364608, 364615), (368704, 368711)], [([], some (w_t 0), [])], 20)
abbrev x_M_aside_0 : w_E := e_565
/-- GoodbyeQuayModel.soonest -/
def e_566 : w_E := (301, [w_r 67], [], [(266331, 266333), (266363, 266363), (266366, 266366), (352320, 352347), (356416, 356418), (360512, 360514), (364608, 364615), (368704, 368711)], [([], some (w_g 2147483647 2147483652 0), [(266332, w_n 1 2 0), (266333, w_g 2147483647 2147483647 0), (266363, w_n 0 0 0), (266366, w_n 0 0 0), (352320, w_n 0 6 0), (352321, w_n 0 6 0), (352322, w_n 0 6 0), (352323, w_n 0 6 0), (352324, w_n 0 6 0), (352325, w_n 0 6 0), (352326, w_n 0 6 0), (352327, w_n 0 6 0), (352328, w_n 0 7 0), (352338, w_g 2147483647 2147483654 0), (352339, w_g 2147483647 2147483654 0), (352340, w_g 2147483647 2147483654 0), (356416, w_n 0 0 0), (356417, w_n 0 0 0), (356418, w_n 0 0 0), (360512, w_n 0 0 0), (360513, w_n 0 0 0), (360514, w_n 0 0 0), (364608, w_g 2147483647 2147483647 0), (364609, w_g 2147483647 2147483647 0), (364610, w_g 2147483647 2147483647 0), (364611, w_g 2147483647 2147483647 0), (364612, w_g 2147483647 2147483647 0), (364613, w_g 2147483647 2147483647 0), (364614, w_g 2147483647 2147483647 0), (364615, w_g 2147483647 2147483647 0), (368704, w_g 2147483647 2147483647 0), (368705, w_g 2147483647 2147483647 0), (368706, w_g 2147483647 2147483647 0), (368707, w_g 2147483647 2147483647 0), (368708, w_g 2147483647 2147483647 0), (368709, w_g 2147483647 2147483647 0), (368710, w_g 2147483647 2147483647 0), (368711, w_g 2147483647 2147483647 0)])], 4)
abbrev x_M_soonest_0 : w_E := e_566
/-- GoodbyeQuayModel.fondest -/
def e_567 : w_E := (207, [w_r 67], [], [], [([], some (w_g 2147483647 2147483654 0), [])], 1)
abbrev x_M_fondest_0 : w_E := e_567
/-- GoodbyeQuayModel.waves -/
def e_568 : w_E := (319, [w_r 67], [], [], [([], some (w_t 0), [])], 1)
abbrev x_M_waves_0 : w_E := e_568
/-- GoodbyeQuayModel.litter -/
def e_569 : w_E := (254, [w_r 67], [], [(266331, 266333), (266363, 266363), (266366, 266366), (299072, 299135), (303168, 303173), (352320, 352347), (356416, 356418), (360512, 360514), (364608, 364615), (368704, 368711)], [([], some (w_t 0), [(266332, w_n 1 2 0), (266333, w_g 2147483647 2147483647 0), (266363, w_n 0 0 0), (352327, w_n 0 6 0)])], 7)
abbrev x_M_litter_0 : w_E := e_569
/-- GoodbyeQuayModel.isIn -/
def e_570 : w_E := (230, [w_t 0, w_n 1 1 0, w_n 60 60 0], [], [], [([], some (w_n 0 0 0), []), ([(0, (2147483649, 2147483708))], some (w_n 1 1 0), [])], 1)
abbrev x_M_isIn_9 : w_E := e_570
/-- GoodbyeQuayModel.law -/
def e_571 : w_E := (243, [w_r 67, w_t 0], [], [(266331, 266333), (266363, 266363), (266366, 266366), (299072, 299135), (303168, 303173), (352320, 352347), (356416, 356418), (360512, 360514), (364608, 364615), (368704, 368711)], [([], some (w_g 2147483647 2147483656 0), [])], 8)
abbrev x_M_law_0 : w_E := e_571
/-- GoodbyeQuayModel.isIn -/
def e_572 : w_E := (230, [w_t 0, w_n 0 0 0, w_n 4 4 0], [], [], [([], some (w_n 0 0 0), []), ([(0, (2147483648, 2147483652))], some (w_n 1 1 0), [])], 1)
abbrev x_M_isIn_10 : w_E := e_572
/-- GoodbyeQuayModel.power -/
def e_573 : w_E := (273, [w_t 0, w_n 0 4 0], [], [], [([], some (w_t 0), [])], 1)
abbrev x_M_power_0 : w_E := e_573
/-- GoodbyeQuayModel.power -/
def e_574 : w_E := (273, [w_n 100 100 0, w_n 0 4 0], [], [], [([], some (w_n 1 100000000 0), [])], 1)
abbrev x_M_power_1 : w_E := e_574
/-- GoodbyeQuayModel.odds -/
def e_575 : w_E := (265, [w_r 67, w_t 0, w_t 0], [], [], [([], some (w_t 0), [])], 2)
abbrev x_M_odds_0 : w_E := e_575
/-- GoodbyeQuayModel.lies -/
def e_576 : w_E := (253, [w_r 67, w_t 0], [], [], [([], some (w_g 2147483646 2147483654 0), [])], 2)
abbrev x_M_lies_0 : w_E := e_576
/-- GoodbyeQuayModel.isIn -/
def e_577 : w_E := (230, [w_t 0, w_n 0 0 0, w_n 7 7 0], [], [], [([], some (w_n 0 0 0), []), ([(0, (2147483648, 2147483655))], some (w_n 1 1 0), [])], 1)
abbrev x_M_isIn_11 : w_E := e_577
/-- GoodbyeQuayModel.seen -/
def e_578 : w_E := (296, [w_r 67, w_t 0, w_t 0, w_n 0 1 0], [], [(266382, 266382), (393280, 393309), (397376, 397405), (401472, 401501), (405568, 405597), (409664, 409693)], [([], some (w_g 2147483647 2147483677 0), [])], 2)
abbrev x_M_seen_0 : w_E := e_578
/-- GoodbyeQuayModel.isIn -/
def e_579 : w_E := (230, [w_t 0, w_n 0 0 0, w_g 2147483647 2147483677 0], [], [], [([], some (w_n 0 0 0), []), ([(0, (2147483648, 2147483677)), (2, (2147483648, 2147483677))], some (w_n 1 1 0), [])], 1)
abbrev x_M_isIn_12 : w_E := e_579
/-- GoodbyeQuayModel.untell -/
def e_580 : w_E := (317, [w_r 67, w_t 0], [], [(405568, 405597)], [([], some (w_n 0 0 0), []), ([(1, (2147483648, 2147483677))], some (w_n 1 1 0), [])], 2)
abbrev x_M_untell_0 : w_E := e_580
/-- GoodbyeQuayModel.later -/
def e_581 : w_E := (242, [w_r 67, w_t 0], [], [(266383, 266383)], [([], some (w_t 0), [])], 1)
abbrev x_M_later_0 : w_E := e_581
/-- GoodbyeQuayModel.fitsNeeds -/
def e_582 : w_E := (206, [w_r 67, w_n 1 30 0, w_t 0], [], [], [([], some (w_n 1 1 0), []), ([], some (w_n 0 0 0), [])], 1)
abbrev x_M_fitsNeeds_0 : w_E := e_582
/-- GoodbyeQuayModel.truth -/
def e_583 : w_E := (313, [w_n 0 1 0], [], [], [([], some (w_n 0 1 0), [])], 1)
abbrev x_M_truth_2 : w_E := e_583
/-- GoodbyeQuayModel.layFits (by hand) -/
def e_584 : w_E := (244, [w_r 67, w_t 0], [], [(266331, 266333), (266363, 266363), (266366, 266366), (299072, 299135), (303168, 303173), (340032, 340038), (352320, 352347), (356416, 356418), (360512, 360514), (364608, 364615), (368704, 368711), (413821, 415650), (421953, 421982)], [([], some (w_t 0), [])], 6)
abbrev x_M_layFits_0 : w_E := e_584
/-- GoodbyeQuayModel.fits -/
def e_585 : w_E := (205, [w_r 67, w_t 0], [], [(266331, 266333), (266363, 266363), (266366, 266366), (299072, 299135), (303168, 303173), (340032, 340038), (352320, 352347), (356416, 356418), (360512, 360514), (364608, 364615), (368704, 368711), (413821, 415650), (421953, 421982)], [([], some (w_t 0), [])], 7)
abbrev x_M_fits_0 : w_E := e_585
/-- GoodbyeQuayModel.sure -/
def e_586 : w_E := (305, [w_r 67, w_t 0, w_t 0], [], [(266331, 266333), (266363, 266363), (266366, 266366), (299072, 299135), (303168, 303173), (340032, 340038), (352320, 352347), (356416, 356418), (360512, 360514), (364608, 364615), (368704, 368711), (413821, 415650), (421953, 421982)], [([], some (w_g 2147483647 2147483678 0), [])], 7)
abbrev x_M_sure_0 : w_E := e_586
/-- GoodbyeQuayModel.greater -/
def e_587 : w_E := (214, [w_n 0 2147483647 0, w_t 0], [], [], [([], some (w_n 0 2147483647 0), [])], 1)
abbrev x_M_greater_2 : w_E := e_587
/-- GoodbyeQuayModel.leftBy -/
def e_588 : w_E := (247, [w_r 67, w_n 0 60 0], [], [(417856, 417863)], [([], some (w_n 0 2147483647 0), [])], 2)
abbrev x_M_leftBy_0 : w_E := e_588
/-- GoodbyeQuayModel.ask -/
def e_589 : w_E := (179, [w_r 67, w_t 0, w_t 0], [], [(266331, 266333), (266363, 266363), (266366, 266366), (299072, 299135), (303168, 303173), (340032, 340038), (352320, 352347), (356416, 356418), (360512, 360514), (364608, 364615), (368704, 368711), (413821, 415650), (417856, 417863), (421953, 421982)], [([], some (w_g 2147483647 4294967295 0), [])], 7)
abbrev x_M_ask_0 : w_E := e_589
/-- GoodbyeQuayModel.image (by hand) -/
def e_590 : w_E := (222, [w_r 67, w_t 0], [], [(266331, 266333), (266363, 266363), (266366, 266366), (299072, 299135), (303168, 303173), (352320, 352347), (356416, 356418), (360512, 360514), (364608, 364615), (368704, 368711)], [([], some (w_t 0), [])], 20)
abbrev x_M_image_0 : w_E := e_590
/-- GoodbyeQuayModel.back (by hand) -/
def e_591 : w_E := (182, [w_r 67, w_t 0], [], [(266331, 266333), (266363, 266363), (266366, 266366), (299072, 299135), (303168, 303173), (352320, 352347), (356416, 356418), (360512, 360514), (364608, 364615), (368704, 368711)], [([], some (w_t 0), [])], 20)
abbrev x_M_back_0 : w_E := e_591
/-- GoodbyeQuayModel.howMany -/
def e_592 : w_E := (221, [w_r 67, w_n 2 3 0], [], [], [([], some (w_n 0 127 0), [])], 2)
abbrev x_M_howMany_0 : w_E := e_592
/-- GoodbyeQuayModel.about -/
def e_593 : w_E := (174, [w_r 67, w_t 0], [], [], [([], some (w_t 0), [])], 3)
abbrev x_M_about_0 : w_E := e_593
