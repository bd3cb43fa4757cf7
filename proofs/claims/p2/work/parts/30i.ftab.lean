/-! code tables of the fast machine; printed by wip/gen/gen30.py -/
noncomputable def fDs_7 (i : Nat) : Nat × fLk := @Bool.rec (fun _ => Nat × fLk) ((4, lX0_price)) ((3, lX0_init)) (Nat.ble i 0)
noncomputable def fDs_8 (i : Nat) : Nat × fLk := @Bool.rec (fun _ => Nat × fLk) ((1, lX0_isPush)) ((4, lX0_landing)) (Nat.ble i 2)
noncomputable def fDs_6 (i : Nat) : Nat × fLk := @Bool.rec (fun _ => Nat × fLk) (fDs_8 i) (fDs_7 i) (Nat.ble i 1)
noncomputable def fDs_10 (i : Nat) : Nat × fLk := @Bool.rec (fun _ => Nat × fLk) ((5, lX0_priceFor)) ((2, lX0_banksBehind)) (Nat.ble i 4)
noncomputable def fDs_11 (i : Nat) : Nat × fLk := @Bool.rec (fun _ => Nat × fLk) ((4, lX0_settle)) ((4, lX0_obey)) (Nat.ble i 6)
noncomputable def fDs_9 (i : Nat) : Nat × fLk := @Bool.rec (fun _ => Nat × fLk) (fDs_11 i) (fDs_10 i) (Nat.ble i 5)
noncomputable def fDs_5 (i : Nat) : Nat × fLk := @Bool.rec (fun _ => Nat × fLk) (fDs_9 i) (fDs_6 i) (Nat.ble i 3)
noncomputable def fDs_14 (i : Nat) : Nat × fLk := @Bool.rec (fun _ => Nat × fLk) ((4, lX0_chosen)) ((8, lX0_sail)) (Nat.ble i 8)
noncomputable def fDs_15 (i : Nat) : Nat × fLk := @Bool.rec (fun _ => Nat × fLk) ((4, lX1_face)) ((2, lX1_init)) (Nat.ble i 10)
noncomputable def fDs_13 (i : Nat) : Nat × fLk := @Bool.rec (fun _ => Nat × fLk) (fDs_15 i) (fDs_14 i) (Nat.ble i 9)
noncomputable def fDs_17 (i : Nat) : Nat × fLk := @Bool.rec (fun _ => Nat × fLk) ((2, lX1_isNipping)) ((2, lX1_isOpen)) (Nat.ble i 12)
noncomputable def fDs_19 (i : Nat) : Nat × fLk := @Bool.rec (fun _ => Nat × fLk) ((7, lX1_drive)) ((3, lX1_toll)) (Nat.ble i 15)
noncomputable def fDs_18 (i : Nat) : Nat × fLk := @Bool.rec (fun _ => Nat × fLk) (fDs_19 i) ((2, lX1_isFirm)) (Nat.ble i 14)
noncomputable def fDs_16 (i : Nat) : Nat × fLk := @Bool.rec (fun _ => Nat × fLk) (fDs_18 i) (fDs_17 i) (Nat.ble i 13)
noncomputable def fDs_12 (i : Nat) : Nat × fLk := @Bool.rec (fun _ => Nat × fLk) (fDs_16 i) (fDs_13 i) (Nat.ble i 11)
noncomputable def fDs_4 (i : Nat) : Nat × fLk := @Bool.rec (fun _ => Nat × fLk) (fDs_12 i) (fDs_5 i) (Nat.ble i 7)
noncomputable def fDs_23 (i : Nat) : Nat × fLk := @Bool.rec (fun _ => Nat × fLk) ((5, lX1_anySo)) ((4, lX1_wants)) (Nat.ble i 17)
noncomputable def fDs_24 (i : Nat) : Nat × fLk := @Bool.rec (fun _ => Nat × fLk) ((5, lX1_named)) ((9, lX1_value)) (Nat.ble i 19)
noncomputable def fDs_22 (i : Nat) : Nat × fLk := @Bool.rec (fun _ => Nat × fLk) (fDs_24 i) (fDs_23 i) (Nat.ble i 18)
noncomputable def fDs_26 (i : Nat) : Nat × fLk := @Bool.rec (fun _ => Nat × fLk) ((2, lX2_init)) ((3, lX1_joined)) (Nat.ble i 21)
noncomputable def fDs_28 (i : Nat) : Nat × fLk := @Bool.rec (fun _ => Nat × fLk) ((4, lX2_seenIn)) ((4, lX2_go)) (Nat.ble i 24)
noncomputable def fDs_27 (i : Nat) : Nat × fLk := @Bool.rec (fun _ => Nat × fLk) (fDs_28 i) ((3, lX2_add)) (Nat.ble i 23)
noncomputable def fDs_25 (i : Nat) : Nat × fLk := @Bool.rec (fun _ => Nat × fLk) (fDs_27 i) (fDs_26 i) (Nat.ble i 22)
noncomputable def fDs_21 (i : Nat) : Nat × fLk := @Bool.rec (fun _ => Nat × fLk) (fDs_25 i) (fDs_22 i) (Nat.ble i 20)
noncomputable def fDs_31 (i : Nat) : Nat × fLk := @Bool.rec (fun _ => Nat × fLk) ((8, lX2_weight)) ((6, lX2_thousandths)) (Nat.ble i 26)
noncomputable def fDs_32 (i : Nat) : Nat × fLk := @Bool.rec (fun _ => Nat × fLk) ((4, lX3_init)) ((2, lX2_take)) (Nat.ble i 28)
noncomputable def fDs_30 (i : Nat) : Nat × fLk := @Bool.rec (fun _ => Nat × fLk) (fDs_32 i) (fDs_31 i) (Nat.ble i 27)
noncomputable def fDs_34 (i : Nat) : Nat × fLk := @Bool.rec (fun _ => Nat × fLk) ((5, lX3_weigh)) ((3, lX3_tens)) (Nat.ble i 30)
noncomputable def fDs_36 (i : Nat) : Nat × fLk := @Bool.rec (fun _ => Nat × fLk) ((4, lX3_leaves)) ((8, lX3_bestFrom)) (Nat.ble i 33)
noncomputable def fDs_35 (i : Nat) : Nat × fLk := @Bool.rec (fun _ => Nat × fLk) (fDs_36 i) ((13, lX3_chanceBy)) (Nat.ble i 32)
noncomputable def fDs_33 (i : Nat) : Nat × fLk := @Bool.rec (fun _ => Nat × fLk) (fDs_35 i) (fDs_34 i) (Nat.ble i 31)
noncomputable def fDs_29 (i : Nat) : Nat × fLk := @Bool.rec (fun _ => Nat × fLk) (fDs_33 i) (fDs_30 i) (Nat.ble i 29)
noncomputable def fDs_20 (i : Nat) : Nat × fLk := @Bool.rec (fun _ => Nat × fLk) (fDs_29 i) (fDs_21 i) (Nat.ble i 25)
noncomputable def fDs_3 (i : Nat) : Nat × fLk := @Bool.rec (fun _ => Nat × fLk) (fDs_20 i) (fDs_4 i) (Nat.ble i 16)
noncomputable def fDs_41 (i : Nat) : Nat × fLk := @Bool.rec (fun _ => Nat × fLk) ((7, lX3_tenthsOf)) ((7, lX3_knownAhead)) (Nat.ble i 35)
noncomputable def fDs_42 (i : Nat) : Nat × fLk := @Bool.rec (fun _ => Nat × fLk) ((3, lX4_init)) ((13, lX3_getsOut)) (Nat.ble i 37)
noncomputable def fDs_40 (i : Nat) : Nat × fLk := @Bool.rec (fun _ => Nat × fLk) (fDs_42 i) (fDs_41 i) (Nat.ble i 36)
noncomputable def fDs_44 (i : Nat) : Nat × fLk := @Bool.rec (fun _ => Nat × fLk) ((6, lX4_foreseeAll)) ((2, lX4_foresee)) (Nat.ble i 39)
noncomputable def fDs_46 (i : Nat) : Nat × fLk := @Bool.rec (fun _ => Nat × fLk) ((5, lX4_follow)) ((1, lX4_begin)) (Nat.ble i 42)
noncomputable def fDs_45 (i : Nat) : Nat × fLk := @Bool.rec (fun _ => Nat × fLk) (fDs_46 i) ((2, lX4_behind)) (Nat.ble i 41)
noncomputable def fDs_43 (i : Nat) : Nat × fLk := @Bool.rec (fun _ => Nat × fLk) (fDs_45 i) (fDs_44 i) (Nat.ble i 40)
noncomputable def fDs_39 (i : Nat) : Nat × fLk := @Bool.rec (fun _ => Nat × fLk) (fDs_43 i) (fDs_40 i) (Nat.ble i 38)
noncomputable def fDs_49 (i : Nat) : Nat × fLk := @Bool.rec (fun _ => Nat × fLk) ((5, lX4_tollOf)) ((3, lX4_askTolls)) (Nat.ble i 44)
noncomputable def fDs_50 (i : Nat) : Nat × fLk := @Bool.rec (fun _ => Nat × fLk) ((3, lX5_take)) ((1, lX5_init)) (Nat.ble i 46)
noncomputable def fDs_48 (i : Nat) : Nat × fLk := @Bool.rec (fun _ => Nat × fLk) (fDs_50 i) (fDs_49 i) (Nat.ble i 45)
noncomputable def fDs_52 (i : Nat) : Nat × fLk := @Bool.rec (fun _ => Nat × fLk) ((1, lX5_next)) ((3, lX5_reads)) (Nat.ble i 48)
noncomputable def fDs_54 (i : Nat) : Nat × fLk := @Bool.rec (fun _ => Nat × fLk) ((2, lX5_readsOrder)) ((4, lX5_readsClause)) (Nat.ble i 51)
noncomputable def fDs_53 (i : Nat) : Nat × fLk := @Bool.rec (fun _ => Nat × fLk) (fDs_54 i) ((2, lX5_faulty)) (Nat.ble i 50)
noncomputable def fDs_51 (i : Nat) : Nat × fLk := @Bool.rec (fun _ => Nat × fLk) (fDs_53 i) (fDs_52 i) (Nat.ble i 49)
noncomputable def fDs_47 (i : Nat) : Nat × fLk := @Bool.rec (fun _ => Nat × fLk) (fDs_51 i) (fDs_48 i) (Nat.ble i 47)
noncomputable def fDs_38 (i : Nat) : Nat × fLk := @Bool.rec (fun _ => Nat × fLk) (fDs_47 i) (fDs_39 i) (Nat.ble i 43)
noncomputable def fDs_58 (i : Nat) : Nat × fLk := @Bool.rec (fun _ => Nat × fLk) ((4, lX5_readsAsk)) ((4, lX5_readsEither)) (Nat.ble i 53)
noncomputable def fDs_59 (i : Nat) : Nat × fLk := @Bool.rec (fun _ => Nat × fLk) ((5, lX5_readsOne)) ((5, lX5_readsSum)) (Nat.ble i 55)
noncomputable def fDs_57 (i : Nat) : Nat × fLk := @Bool.rec (fun _ => Nat × fLk) (fDs_59 i) (fDs_58 i) (Nat.ble i 54)
noncomputable def fDs_61 (i : Nat) : Nat × fLk := @Bool.rec (fun _ => Nat × fLk) ((5, lX5_splitWord)) ((2, lX5_splitTape)) (Nat.ble i 57)
noncomputable def fDs_63 (i : Nat) : Nat × fLk := @Bool.rec (fun _ => Nat × fLk) ((2, lX5_splitSign)) ((2, lX5_splitNumber)) (Nat.ble i 60)
noncomputable def fDs_62 (i : Nat) : Nat × fLk := @Bool.rec (fun _ => Nat × fLk) (fDs_63 i) ((5, lX5_isWord)) (Nat.ble i 59)
noncomputable def fDs_60 (i : Nat) : Nat × fLk := @Bool.rec (fun _ => Nat × fLk) (fDs_62 i) (fDs_61 i) (Nat.ble i 58)
noncomputable def fDs_56 (i : Nat) : Nat × fLk := @Bool.rec (fun _ => Nat × fLk) (fDs_60 i) (fDs_57 i) (Nat.ble i 56)
noncomputable def fDs_66 (i : Nat) : Nat × fLk := @Bool.rec (fun _ => Nat × fLk) ((1, lX5_isLetter)) ((1, lX5_plainSign)) (Nat.ble i 62)
noncomputable def fDs_67 (i : Nat) : Nat × fLk := @Bool.rec (fun _ => Nat × fLk) ((4, lX6_init)) ((1, lX5_isDigit)) (Nat.ble i 64)
noncomputable def fDs_65 (i : Nat) : Nat × fLk := @Bool.rec (fun _ => Nat × fLk) (fDs_67 i) (fDs_66 i) (Nat.ble i 63)
noncomputable def fDs_69 (i : Nat) : Nat × fLk := @Bool.rec (fun _ => Nat × fLk) ((6, lX6_off)) ((2, lX6_has)) (Nat.ble i 66)
noncomputable def fDs_71 (i : Nat) : Nat × fLk := @Bool.rec (fun _ => Nat × fLk) ((4, lX6_afloat)) ((3, lX6_carried)) (Nat.ble i 69)
noncomputable def fDs_70 (i : Nat) : Nat × fLk := @Bool.rec (fun _ => Nat × fLk) (fDs_71 i) ((3, lX6_beside)) (Nat.ble i 68)
noncomputable def fDs_68 (i : Nat) : Nat × fLk := @Bool.rec (fun _ => Nat × fLk) (fDs_70 i) (fDs_69 i) (Nat.ble i 67)
noncomputable def fDs_64 (i : Nat) : Nat × fLk := @Bool.rec (fun _ => Nat × fLk) (fDs_68 i) (fDs_65 i) (Nat.ble i 65)
noncomputable def fDs_55 (i : Nat) : Nat × fLk := @Bool.rec (fun _ => Nat × fLk) (fDs_64 i) (fDs_56 i) (Nat.ble i 61)
noncomputable def fDs_37 (i : Nat) : Nat × fLk := @Bool.rec (fun _ => Nat × fLk) (fDs_55 i) (fDs_38 i) (Nat.ble i 52)
noncomputable def fDs_2 (i : Nat) : Nat × fLk := @Bool.rec (fun _ => Nat × fLk) (fDs_37 i) (fDs_3 i) (Nat.ble i 34)
noncomputable def fDs_77 (i : Nat) : Nat × fLk := @Bool.rec (fun _ => Nat × fLk) ((2, lX6_take)) ((5, lX6_drawn)) (Nat.ble i 71)
noncomputable def fDs_78 (i : Nat) : Nat × fLk := @Bool.rec (fun _ => Nat × fLk) ((3, lX7_put)) ((2, lX7_init)) (Nat.ble i 73)
noncomputable def fDs_76 (i : Nat) : Nat × fLk := @Bool.rec (fun _ => Nat × fLk) (fDs_78 i) (fDs_77 i) (Nat.ble i 72)
noncomputable def fDs_80 (i : Nat) : Nat × fLk := @Bool.rec (fun _ => Nat × fLk) ((1, lX8_init)) ((2, lX7_take)) (Nat.ble i 75)
noncomputable def fDs_82 (i : Nat) : Nat × fLk := @Bool.rec (fun _ => Nat × fLk) ((3, lX8_close)) ((2, lX8_add)) (Nat.ble i 78)
noncomputable def fDs_81 (i : Nat) : Nat × fLk := @Bool.rec (fun _ => Nat × fLk) (fDs_82 i) ((1, lX8_clear)) (Nat.ble i 77)
noncomputable def fDs_79 (i : Nat) : Nat × fLk := @Bool.rec (fun _ => Nat × fLk) (fDs_81 i) (fDs_80 i) (Nat.ble i 76)
noncomputable def fDs_75 (i : Nat) : Nat × fLk := @Bool.rec (fun _ => Nat × fLk) (fDs_79 i) (fDs_76 i) (Nat.ble i 74)
noncomputable def fDs_85 (i : Nat) : Nat × fLk := @Bool.rec (fun _ => Nat × fLk) ((6, lX9_init)) ((3, lX8_firstOf)) (Nat.ble i 80)
noncomputable def fDs_86 (i : Nat) : Nat × fLk := @Bool.rec (fun _ => Nat × fLk) ((1, lX9_coalLeft)) ((1, lX9_fewestWatches)) (Nat.ble i 82)
noncomputable def fDs_84 (i : Nat) : Nat × fLk := @Bool.rec (fun _ => Nat × fLk) (fDs_86 i) (fDs_85 i) (Nat.ble i 81)
noncomputable def fDs_88 (i : Nat) : Nat × fLk := @Bool.rec (fun _ => Nat × fLk) ((5, lX9_seekOut)) ((1, lX9_leastCoal)) (Nat.ble i 84)
noncomputable def fDs_90 (i : Nat) : Nat × fLk := @Bool.rec (fun _ => Nat × fLk) ((7, lX9_orderOfBest)) ((11, lX9_seekFrom)) (Nat.ble i 87)
noncomputable def fDs_89 (i : Nat) : Nat × fLk := @Bool.rec (fun _ => Nat × fLk) (fDs_90 i) ((3, lX9_clearSpent)) (Nat.ble i 86)
noncomputable def fDs_87 (i : Nat) : Nat × fLk := @Bool.rec (fun _ => Nat × fLk) (fDs_89 i) (fDs_88 i) (Nat.ble i 85)
noncomputable def fDs_83 (i : Nat) : Nat × fLk := @Bool.rec (fun _ => Nat × fLk) (fDs_87 i) (fDs_84 i) (Nat.ble i 83)
noncomputable def fDs_74 (i : Nat) : Nat × fLk := @Bool.rec (fun _ => Nat × fLk) (fDs_83 i) (fDs_75 i) (Nat.ble i 79)
noncomputable def fDs_94 (i : Nat) : Nat × fLk := @Bool.rec (fun _ => Nat × fLk) ((2, lX9_place)) ((6, lX9_lowestBest)) (Nat.ble i 89)
noncomputable def fDs_95 (i : Nat) : Nat × fLk := @Bool.rec (fun _ => Nat × fLk) ((8, lX9_leastNeed)) ((5, lX9_askNeeds)) (Nat.ble i 91)
noncomputable def fDs_93 (i : Nat) : Nat × fLk := @Bool.rec (fun _ => Nat × fLk) (fDs_95 i) (fDs_94 i) (Nat.ble i 90)
noncomputable def fDs_97 (i : Nat) : Nat × fLk := @Bool.rec (fun _ => Nat × fLk) ((3, lX9_followTold)) ((8, lX9_needBy)) (Nat.ble i 93)
noncomputable def fDs_99 (i : Nat) : Nat × fLk := @Bool.rec (fun _ => Nat × fLk) ((4, lX9_lastTurn)) ((2, lX9_toldCell)) (Nat.ble i 96)
noncomputable def fDs_98 (i : Nat) : Nat × fLk := @Bool.rec (fun _ => Nat × fLk) (fDs_99 i) ((6, lX9_goesOn)) (Nat.ble i 95)
noncomputable def fDs_96 (i : Nat) : Nat × fLk := @Bool.rec (fun _ => Nat × fLk) (fDs_98 i) (fDs_97 i) (Nat.ble i 94)
noncomputable def fDs_92 (i : Nat) : Nat × fLk := @Bool.rec (fun _ => Nat × fLk) (fDs_96 i) (fDs_93 i) (Nat.ble i 92)
noncomputable def fDs_102 (i : Nat) : Nat × fLk := @Bool.rec (fun _ => Nat × fLk) ((3, lX9_lastLeave)) ((3, lX9_watchesAfoot)) (Nat.ble i 98)
noncomputable def fDs_103 (i : Nat) : Nat × fLk := @Bool.rec (fun _ => Nat × fLk) ((4, lX9_afootBehind)) ((3, lX9_askAfoot)) (Nat.ble i 100)
noncomputable def fDs_101 (i : Nat) : Nat × fLk := @Bool.rec (fun _ => Nat × fLk) (fDs_103 i) (fDs_102 i) (Nat.ble i 99)
noncomputable def fDs_105 (i : Nat) : Nat × fLk := @Bool.rec (fun _ => Nat × fLk) ((5, lX9_nipsIn)) ((6, lX9_reachAfoot)) (Nat.ble i 102)
noncomputable def fDs_107 (i : Nat) : Nat × fLk := @Bool.rec (fun _ => Nat × fLk) ((6, lX9_spread)) ((4, lX9_openLeads)) (Nat.ble i 105)
noncomputable def fDs_106 (i : Nat) : Nat × fLk := @Bool.rec (fun _ => Nat × fLk) (fDs_107 i) ((3, lX9_calmest)) (Nat.ble i 104)
noncomputable def fDs_104 (i : Nat) : Nat × fLk := @Bool.rec (fun _ => Nat × fLk) (fDs_106 i) (fDs_105 i) (Nat.ble i 103)
noncomputable def fDs_100 (i : Nat) : Nat × fLk := @Bool.rec (fun _ => Nat × fLk) (fDs_104 i) (fDs_101 i) (Nat.ble i 101)
noncomputable def fDs_91 (i : Nat) : Nat × fLk := @Bool.rec (fun _ => Nat × fLk) (fDs_100 i) (fDs_92 i) (Nat.ble i 97)
noncomputable def fDs_73 (i : Nat) : Nat × fLk := @Bool.rec (fun _ => Nat × fLk) (fDs_91 i) (fDs_74 i) (Nat.ble i 88)
noncomputable def fDs_112 (i : Nat) : Nat × fLk := @Bool.rec (fun _ => Nat × fLk) ((4, lX10_init)) ((2, lX9_pushesTo)) (Nat.ble i 107)
noncomputable def fDs_113 (i : Nat) : Nat × fLk := @Bool.rec (fun _ => Nat × fLk) ((6, lX11_init)) ((2, lX10_take)) (Nat.ble i 109)
noncomputable def fDs_111 (i : Nat) : Nat × fLk := @Bool.rec (fun _ => Nat × fLk) (fDs_113 i) (fDs_112 i) (Nat.ble i 108)
noncomputable def fDs_115 (i : Nat) : Nat × fLk := @Bool.rec (fun _ => Nat × fLk) ((2, lX11_iceAt)) ((3, lX11_ice)) (Nat.ble i 111)
noncomputable def fDs_117 (i : Nat) : Nat × fLk := @Bool.rec (fun _ => Nat × fLk) ((4, lX11_drift)) ((2, lX11_edge)) (Nat.ble i 114)
noncomputable def fDs_116 (i : Nat) : Nat × fLk := @Bool.rec (fun _ => Nat × fLk) (fDs_117 i) ((4, lX11_mark)) (Nat.ble i 113)
noncomputable def fDs_114 (i : Nat) : Nat × fLk := @Bool.rec (fun _ => Nat × fLk) (fDs_116 i) (fDs_115 i) (Nat.ble i 112)
noncomputable def fDs_110 (i : Nat) : Nat × fLk := @Bool.rec (fun _ => Nat × fLk) (fDs_114 i) (fDs_111 i) (Nat.ble i 110)
noncomputable def fDs_120 (i : Nat) : Nat × fLk := @Bool.rec (fun _ => Nat × fLk) ((4, lX11_ship)) ((8, lX11_chances)) (Nat.ble i 116)
noncomputable def fDs_121 (i : Nat) : Nat × fLk := @Bool.rec (fun _ => Nat × fLk) ((2, lX11_wind)) ((4, lX11_costs)) (Nat.ble i 118)
noncomputable def fDs_119 (i : Nat) : Nat × fLk := @Bool.rec (fun _ => Nat × fLk) (fDs_121 i) (fDs_120 i) (Nat.ble i 117)
noncomputable def fDs_123 (i : Nat) : Nat × fLk := @Bool.rec (fun _ => Nat × fLk) ((2, lX11_end)) ((6, lX11_feed)) (Nat.ble i 120)
noncomputable def fDs_125 (i : Nat) : Nat × fLk := @Bool.rec (fun _ => Nat × fLk) ((2, lX11_by)) ((2, lX11_fault)) (Nat.ble i 123)
noncomputable def fDs_124 (i : Nat) : Nat × fLk := @Bool.rec (fun _ => Nat × fLk) (fDs_125 i) ((3, lX11_text)) (Nat.ble i 122)
noncomputable def fDs_122 (i : Nat) : Nat × fLk := @Bool.rec (fun _ => Nat × fLk) (fDs_124 i) (fDs_123 i) (Nat.ble i 121)
noncomputable def fDs_118 (i : Nat) : Nat × fLk := @Bool.rec (fun _ => Nat × fLk) (fDs_122 i) (fDs_119 i) (Nat.ble i 119)
noncomputable def fDs_109 (i : Nat) : Nat × fLk := @Bool.rec (fun _ => Nat × fLk) (fDs_118 i) (fDs_110 i) (Nat.ble i 115)
noncomputable def fDs_129 (i : Nat) : Nat × fLk := @Bool.rec (fun _ => Nat × fLk) ((10, lX11_watch)) ((3, lX11_can)) (Nat.ble i 125)
noncomputable def fDs_130 (i : Nat) : Nat × fLk := @Bool.rec (fun _ => Nat × fLk) ((3, lX11_ahead)) ((4, lX11_of)) (Nat.ble i 127)
noncomputable def fDs_128 (i : Nat) : Nat × fLk := @Bool.rec (fun _ => Nat × fLk) (fDs_130 i) (fDs_129 i) (Nat.ble i 126)
noncomputable def fDs_132 (i : Nat) : Nat × fLk := @Bool.rec (fun _ => Nat × fLk) ((4, lX11_soonest)) ((3, lX11_many)) (Nat.ble i 129)
noncomputable def fDs_134 (i : Nat) : Nat × fLk := @Bool.rec (fun _ => Nat × fLk) ((3, lX11_told)) ((3, lX11_order)) (Nat.ble i 132)
noncomputable def fDs_133 (i : Nat) : Nat × fLk := @Bool.rec (fun _ => Nat × fLk) (fDs_134 i) ((1, lX11_least)) (Nat.ble i 131)
noncomputable def fDs_131 (i : Nat) : Nat × fLk := @Bool.rec (fun _ => Nat × fLk) (fDs_133 i) (fDs_132 i) (Nat.ble i 130)
noncomputable def fDs_127 (i : Nat) : Nat × fLk := @Bool.rec (fun _ => Nat × fLk) (fDs_131 i) (fDs_128 i) (Nat.ble i 128)
noncomputable def fDs_137 (i : Nat) : Nat × fLk := @Bool.rec (fun _ => Nat × fLk) ((1, lX11_last)) ((2, lX11_home)) (Nat.ble i 134)
noncomputable def fDs_138 (i : Nat) : Nat × fLk := @Bool.rec (fun _ => Nat × fLk) ((1, lX11_leave)) ((2, lX11_walk)) (Nat.ble i 136)
noncomputable def fDs_136 (i : Nat) : Nat × fLk := @Bool.rec (fun _ => Nat × fLk) (fDs_138 i) (fDs_137 i) (Nat.ble i 135)
noncomputable def fDs_140 (i : Nat) : Nat × fLk := @Bool.rec (fun _ => Nat × fLk) ((4, lX11_surest)) ((4, lX11_winter)) (Nat.ble i 138)
noncomputable def fDs_142 (i : Nat) : Nat × fLk := @Bool.rec (fun _ => Nat × fLk) ((3, lX11_look)) ((3, lX11_prior)) (Nat.ble i 141)
noncomputable def fDs_141 (i : Nat) : Nat × fLk := @Bool.rec (fun _ => Nat × fLk) (fDs_142 i) ((3, lX11_leads)) (Nat.ble i 140)
noncomputable def fDs_139 (i : Nat) : Nat × fLk := @Bool.rec (fun _ => Nat × fLk) (fDs_141 i) (fDs_140 i) (Nat.ble i 139)
noncomputable def fDs_135 (i : Nat) : Nat × fLk := @Bool.rec (fun _ => Nat × fLk) (fDs_139 i) (fDs_136 i) (Nat.ble i 137)
noncomputable def fDs_126 (i : Nat) : Nat × fLk := @Bool.rec (fun _ => Nat × fLk) (fDs_135 i) (fDs_127 i) (Nat.ble i 133)
noncomputable def fDs_108 (i : Nat) : Nat × fLk := @Bool.rec (fun _ => Nat × fLk) (fDs_126 i) (fDs_109 i) (Nat.ble i 124)
noncomputable def fDs_72 (i : Nat) : Nat × fLk := @Bool.rec (fun _ => Nat × fLk) (fDs_108 i) (fDs_73 i) (Nat.ble i 106)
noncomputable def fDs_1 (i : Nat) : Nat × fLk := @Bool.rec (fun _ => Nat × fLk) (fDs_72 i) (fDs_2 i) (Nat.ble i 70)
noncomputable def fDs_149 (i : Nat) : Nat × fLk := @Bool.rec (fun _ => Nat × fLk) ((6, lX11_run)) ((3, lX11_think)) (Nat.ble i 143)
noncomputable def fDs_150 (i : Nat) : Nat × fLk := @Bool.rec (fun _ => Nat × fLk) ((1, lX11_image)) ((9, lX11_runs)) (Nat.ble i 145)
noncomputable def fDs_148 (i : Nat) : Nat × fLk := @Bool.rec (fun _ => Nat × fLk) (fDs_150 i) (fDs_149 i) (Nat.ble i 144)
noncomputable def fDs_152 (i : Nat) : Nat × fLk := @Bool.rec (fun _ => Nat × fLk) ((2, lX11_about)) ((1, lX11_back)) (Nat.ble i 147)
noncomputable def fDs_154 (i : Nat) : Nat × fLk := @Bool.rec (fun _ => Nat × fLk) ((1, lX11_heedLaw)) ((2, lX11_isText)) (Nat.ble i 150)
noncomputable def fDs_153 (i : Nat) : Nat × fLk := @Bool.rec (fun _ => Nat × fLk) (fDs_154 i) ((2, lX11_shipOf)) (Nat.ble i 149)
noncomputable def fDs_151 (i : Nat) : Nat × fLk := @Bool.rec (fun _ => Nat × fLk) (fDs_153 i) (fDs_152 i) (Nat.ble i 148)
noncomputable def fDs_147 (i : Nat) : Nat × fLk := @Bool.rec (fun _ => Nat × fLk) (fDs_151 i) (fDs_148 i) (Nat.ble i 146)
noncomputable def fDs_157 (i : Nat) : Nat × fLk := @Bool.rec (fun _ => Nat × fLk) ((1, lX11_isOrder)) ((1, lX11_isWind)) (Nat.ble i 152)
noncomputable def fDs_158 (i : Nat) : Nat × fLk := @Bool.rec (fun _ => Nat × fLk) ((3, lX11_held)) ((3, lX11_within)) (Nat.ble i 154)
noncomputable def fDs_156 (i : Nat) : Nat × fLk := @Bool.rec (fun _ => Nat × fLk) (fDs_158 i) (fDs_157 i) (Nat.ble i 153)
noncomputable def fDs_160 (i : Nat) : Nat × fLk := @Bool.rec (fun _ => Nat × fLk) ((3, lX12_copyRow)) ((4, lX12_init)) (Nat.ble i 156)
noncomputable def fDs_162 (i : Nat) : Nat × fLk := @Bool.rec (fun _ => Nat × fLk) ((1, lX12_isWind)) ((2, lX12_isCell)) (Nat.ble i 159)
noncomputable def fDs_161 (i : Nat) : Nat × fLk := @Bool.rec (fun _ => Nat × fLk) (fDs_162 i) ((3, lX12_isIn)) (Nat.ble i 158)
noncomputable def fDs_159 (i : Nat) : Nat × fLk := @Bool.rec (fun _ => Nat × fLk) (fDs_161 i) (fDs_160 i) (Nat.ble i 157)
noncomputable def fDs_155 (i : Nat) : Nat × fLk := @Bool.rec (fun _ => Nat × fLk) (fDs_159 i) (fDs_156 i) (Nat.ble i 155)
noncomputable def fDs_146 (i : Nat) : Nat × fLk := @Bool.rec (fun _ => Nat × fLk) (fDs_155 i) (fDs_147 i) (Nat.ble i 151)
noncomputable def fDs_166 (i : Nat) : Nat × fLk := @Bool.rec (fun _ => Nat × fLk) ((3, lX12_pushed)) ((6, lX12_besideBy)) (Nat.ble i 161)
noncomputable def fDs_167 (i : Nat) : Nat × fLk := @Bool.rec (fun _ => Nat × fLk) ((2, lX12_iceAt)) ((3, lX12_ice)) (Nat.ble i 163)
noncomputable def fDs_165 (i : Nat) : Nat × fLk := @Bool.rec (fun _ => Nat × fLk) (fDs_167 i) (fDs_166 i) (Nat.ble i 162)
noncomputable def fDs_169 (i : Nat) : Nat × fLk := @Bool.rec (fun _ => Nat × fLk) ((2, lX12_edge)) ((4, lX12_mark)) (Nat.ble i 165)
noncomputable def fDs_171 (i : Nat) : Nat × fLk := @Bool.rec (fun _ => Nat × fLk) ((1, lX12_isShip)) ((6, lX12_chances)) (Nat.ble i 168)
noncomputable def fDs_170 (i : Nat) : Nat × fLk := @Bool.rec (fun _ => Nat × fLk) (fDs_171 i) ((4, lX12_drift)) (Nat.ble i 167)
noncomputable def fDs_168 (i : Nat) : Nat × fLk := @Bool.rec (fun _ => Nat × fLk) (fDs_170 i) (fDs_169 i) (Nat.ble i 166)
noncomputable def fDs_164 (i : Nat) : Nat × fLk := @Bool.rec (fun _ => Nat × fLk) (fDs_168 i) (fDs_165 i) (Nat.ble i 164)
noncomputable def fDs_174 (i : Nat) : Nat × fLk := @Bool.rec (fun _ => Nat × fLk) ((4, lX12_ship)) ((2, lX12_ofShip)) (Nat.ble i 170)
noncomputable def fDs_175 (i : Nat) : Nat × fLk := @Bool.rec (fun _ => Nat × fLk) ((2, lX12_wind)) ((4, lX12_costs)) (Nat.ble i 172)
noncomputable def fDs_173 (i : Nat) : Nat × fLk := @Bool.rec (fun _ => Nat × fLk) (fDs_175 i) (fDs_174 i) (Nat.ble i 171)
noncomputable def fDs_177 (i : Nat) : Nat × fLk := @Bool.rec (fun _ => Nat × fLk) ((6, lX12_feed)) ((3, lX12_four)) (Nat.ble i 174)
noncomputable def fDs_179 (i : Nat) : Nat × fLk := @Bool.rec (fun _ => Nat × fLk) ((1, lX12_isLetter)) ((2, lX12_byteAt)) (Nat.ble i 177)
noncomputable def fDs_178 (i : Nat) : Nat × fLk := @Bool.rec (fun _ => Nat × fLk) (fDs_179 i) ((2, lX12_end)) (Nat.ble i 176)
noncomputable def fDs_176 (i : Nat) : Nat × fLk := @Bool.rec (fun _ => Nat × fLk) (fDs_178 i) (fDs_177 i) (Nat.ble i 175)
noncomputable def fDs_172 (i : Nat) : Nat × fLk := @Bool.rec (fun _ => Nat × fLk) (fDs_176 i) (fDs_173 i) (Nat.ble i 173)
noncomputable def fDs_163 (i : Nat) : Nat × fLk := @Bool.rec (fun _ => Nat × fLk) (fDs_172 i) (fDs_164 i) (Nat.ble i 169)
noncomputable def fDs_145 (i : Nat) : Nat × fLk := @Bool.rec (fun _ => Nat × fLk) (fDs_163 i) (fDs_146 i) (Nat.ble i 160)
noncomputable def fDs_184 (i : Nat) : Nat × fLk := @Bool.rec (fun _ => Nat × fLk) ((3, lX12_nextToken)) ((1, lX12_isDigit)) (Nat.ble i 179)
noncomputable def fDs_185 (i : Nat) : Nat × fLk := @Bool.rec (fun _ => Nat × fLk) ((5, lX12_w5)) ((3, lX12_w3)) (Nat.ble i 181)
noncomputable def fDs_183 (i : Nat) : Nat × fLk := @Bool.rec (fun _ => Nat × fLk) (fDs_185 i) (fDs_184 i) (Nat.ble i 180)
noncomputable def fDs_187 (i : Nat) : Nat × fLk := @Bool.rec (fun _ => Nat × fLk) ((6, lX12_w6)) ((4, lX12_w4)) (Nat.ble i 183)
noncomputable def fDs_189 (i : Nat) : Nat × fLk := @Bool.rec (fun _ => Nat × fLk) ((2, lX12_push)) ((3, lX12_emit)) (Nat.ble i 186)
noncomputable def fDs_188 (i : Nat) : Nat × fLk := @Bool.rec (fun _ => Nat × fLk) (fDs_189 i) ((3, lX12_isWord)) (Nat.ble i 185)
noncomputable def fDs_186 (i : Nat) : Nat × fLk := @Bool.rec (fun _ => Nat × fLk) (fDs_188 i) (fDs_187 i) (Nat.ble i 184)
noncomputable def fDs_182 (i : Nat) : Nat × fLk := @Bool.rec (fun _ => Nat × fLk) (fDs_186 i) (fDs_183 i) (Nat.ble i 182)
noncomputable def fDs_192 (i : Nat) : Nat × fLk := @Bool.rec (fun _ => Nat × fLk) ((2, lX12_settle)) ((1, lX12_whole)) (Nat.ble i 188)
noncomputable def fDs_193 (i : Nat) : Nat × fLk := @Bool.rec (fun _ => Nat × fLk) ((2, lX12_isBarred)) ((1, lX12_nameOf)) (Nat.ble i 190)
noncomputable def fDs_191 (i : Nat) : Nat × fLk := @Bool.rec (fun _ => Nat × fLk) (fDs_193 i) (fDs_192 i) (Nat.ble i 189)
noncomputable def fDs_195 (i : Nat) : Nat × fLk := @Bool.rec (fun _ => Nat × fLk) ((2, lX12_hasParen)) ((2, lX12_beginOne)) (Nat.ble i 192)
noncomputable def fDs_197 (i : Nat) : Nat × fLk := @Bool.rec (fun _ => Nat × fLk) ((2, lX12_summed)) ((2, lX12_behindOne)) (Nat.ble i 195)
noncomputable def fDs_196 (i : Nat) : Nat × fLk := @Bool.rec (fun _ => Nat × fLk) (fDs_197 i) ((1, lX12_goesOn)) (Nat.ble i 194)
noncomputable def fDs_194 (i : Nat) : Nat × fLk := @Bool.rec (fun _ => Nat × fLk) (fDs_196 i) (fDs_195 i) (Nat.ble i 193)
noncomputable def fDs_190 (i : Nat) : Nat × fLk := @Bool.rec (fun _ => Nat × fLk) (fDs_194 i) (fDs_191 i) (Nat.ble i 191)
noncomputable def fDs_181 (i : Nat) : Nat × fLk := @Bool.rec (fun _ => Nat × fLk) (fDs_190 i) (fDs_182 i) (Nat.ble i 187)
noncomputable def fDs_201 (i : Nat) : Nat × fLk := @Bool.rec (fun _ => Nat × fLk) ((5, lX12_asks)) ((1, lX12_compareOf)) (Nat.ble i 197)
noncomputable def fDs_202 (i : Nat) : Nat × fLk := @Bool.rec (fun _ => Nat × fLk) ((1, lX12_sortOf)) ((6, lX12_either)) (Nat.ble i 199)
noncomputable def fDs_200 (i : Nat) : Nat × fLk := @Bool.rec (fun _ => Nat × fLk) (fDs_202 i) (fDs_201 i) (Nat.ble i 198)
noncomputable def fDs_204 (i : Nat) : Nat × fLk := @Bool.rec (fun _ => Nat × fLk) ((5, lX12_clause)) ((2, lX12_goesBy)) (Nat.ble i 201)
noncomputable def fDs_206 (i : Nat) : Nat × fLk := @Bool.rec (fun _ => Nat × fLk) ((2, lX12_fault)) ((1, lX12_text)) (Nat.ble i 204)
noncomputable def fDs_205 (i : Nat) : Nat × fLk := @Bool.rec (fun _ => Nat × fLk) (fDs_206 i) ((2, lX12_readText)) (Nat.ble i 203)
noncomputable def fDs_203 (i : Nat) : Nat × fLk := @Bool.rec (fun _ => Nat × fLk) (fDs_205 i) (fDs_204 i) (Nat.ble i 202)
noncomputable def fDs_199 (i : Nat) : Nat × fLk := @Bool.rec (fun _ => Nat × fLk) (fDs_203 i) (fDs_200 i) (Nat.ble i 200)
noncomputable def fDs_209 (i : Nat) : Nat × fLk := @Bool.rec (fun _ => Nat × fLk) ((2, lX12_clip)) ((2, lX12_by)) (Nat.ble i 206)
noncomputable def fDs_210 (i : Nat) : Nat × fLk := @Bool.rec (fun _ => Nat × fLk) ((5, lX12_isAsked)) ((5, lX12_two)) (Nat.ble i 208)
noncomputable def fDs_208 (i : Nat) : Nat × fLk := @Bool.rec (fun _ => Nat × fLk) (fDs_210 i) (fDs_209 i) (Nat.ble i 207)
noncomputable def fDs_212 (i : Nat) : Nat × fLk := @Bool.rec (fun _ => Nat × fLk) ((3, lX12_sortAt)) ((10, lX12_work)) (Nat.ble i 210)
noncomputable def fDs_214 (i : Nat) : Nat × fLk := @Bool.rec (fun _ => Nat × fLk) ((6, lX12_nameCell)) ((3, lX12_iceOf)) (Nat.ble i 213)
noncomputable def fDs_213 (i : Nat) : Nat × fLk := @Bool.rec (fun _ => Nat × fLk) (fDs_214 i) ((2, lX12_clauses)) (Nat.ble i 212)
noncomputable def fDs_211 (i : Nat) : Nat × fLk := @Bool.rec (fun _ => Nat × fLk) (fDs_213 i) (fDs_212 i) (Nat.ble i 211)
noncomputable def fDs_207 (i : Nat) : Nat × fLk := @Bool.rec (fun _ => Nat × fLk) (fDs_211 i) (fDs_208 i) (Nat.ble i 209)
noncomputable def fDs_198 (i : Nat) : Nat × fLk := @Bool.rec (fun _ => Nat × fLk) (fDs_207 i) (fDs_199 i) (Nat.ble i 205)
noncomputable def fDs_180 (i : Nat) : Nat × fLk := @Bool.rec (fun _ => Nat × fLk) (fDs_198 i) (fDs_181 i) (Nat.ble i 196)
noncomputable def fDs_144 (i : Nat) : Nat × fLk := @Bool.rec (fun _ => Nat × fLk) (fDs_180 i) (fDs_145 i) (Nat.ble i 178)
noncomputable def fDs_220 (i : Nat) : Nat × fLk := @Bool.rec (fun _ => Nat × fLk) ((4, lX12_sumOf)) ((5, lX12_isAny)) (Nat.ble i 215)
noncomputable def fDs_221 (i : Nat) : Nat × fLk := @Bool.rec (fun _ => Nat × fLk) ((5, lX12_nips)) ((5, lX12_pushCost)) (Nat.ble i 217)
noncomputable def fDs_219 (i : Nat) : Nat × fLk := @Bool.rec (fun _ => Nat × fLk) (fDs_221 i) (fDs_220 i) (Nat.ble i 216)
noncomputable def fDs_223 (i : Nat) : Nat × fLk := @Bool.rec (fun _ => Nat × fLk) ((4, lX12_driven)) ((5, lX12_walks)) (Nat.ble i 219)
noncomputable def fDs_225 (i : Nat) : Nat × fLk := @Bool.rec (fun _ => Nat × fLk) ((3, lX12_layNow)) ((6, lX12_go)) (Nat.ble i 222)
noncomputable def fDs_224 (i : Nat) : Nat × fLk := @Bool.rec (fun _ => Nat × fLk) (fDs_225 i) ((4, lX12_drifted)) (Nat.ble i 221)
noncomputable def fDs_222 (i : Nat) : Nat × fLk := @Bool.rec (fun _ => Nat × fLk) (fDs_224 i) (fDs_223 i) (Nat.ble i 220)
noncomputable def fDs_218 (i : Nat) : Nat × fLk := @Bool.rec (fun _ => Nat × fLk) (fDs_222 i) (fDs_219 i) (Nat.ble i 218)
noncomputable def fDs_228 (i : Nat) : Nat × fLk := @Bool.rec (fun _ => Nat × fLk) ((9, lX12_orderCost)) ((1, lX12_isOrder)) (Nat.ble i 224)
noncomputable def fDs_229 (i : Nat) : Nat × fLk := @Bool.rec (fun _ => Nat × fLk) ((2, lX12_isFree)) ((2, lX12_firesBehind)) (Nat.ble i 226)
noncomputable def fDs_227 (i : Nat) : Nat × fLk := @Bool.rec (fun _ => Nat × fLk) (fDs_229 i) (fDs_228 i) (Nat.ble i 225)
noncomputable def fDs_231 (i : Nat) : Nat × fLk := @Bool.rec (fun _ => Nat × fLk) ((3, lX12_can)) ((4, lX12_costOf)) (Nat.ble i 228)
noncomputable def fDs_233 (i : Nat) : Nat × fLk := @Bool.rec (fun _ => Nat × fLk) ((8, lX12_watch)) ((6, lX12_floatShip)) (Nat.ble i 231)
noncomputable def fDs_232 (i : Nat) : Nat × fLk := @Bool.rec (fun _ => Nat × fLk) (fDs_233 i) ((6, lX12_does)) (Nat.ble i 230)
noncomputable def fDs_230 (i : Nat) : Nat × fLk := @Bool.rec (fun _ => Nat × fLk) (fDs_232 i) (fDs_231 i) (Nat.ble i 229)
noncomputable def fDs_226 (i : Nat) : Nat × fLk := @Bool.rec (fun _ => Nat × fLk) (fDs_230 i) (fDs_227 i) (Nat.ble i 227)
noncomputable def fDs_217 (i : Nat) : Nat × fLk := @Bool.rec (fun _ => Nat × fLk) (fDs_226 i) (fDs_218 i) (Nat.ble i 223)
noncomputable def fDs_237 (i : Nat) : Nat × fLk := @Bool.rec (fun _ => Nat × fLk) ((3, lX12_ahead)) ((3, lX12_of)) (Nat.ble i 233)
noncomputable def fDs_238 (i : Nat) : Nat × fLk := @Bool.rec (fun _ => Nat × fLk) ((2, lX12_windBefore)) ((3, lX12_many)) (Nat.ble i 235)
noncomputable def fDs_236 (i : Nat) : Nat × fLk := @Bool.rec (fun _ => Nat × fLk) (fDs_238 i) (fDs_237 i) (Nat.ble i 234)
noncomputable def fDs_240 (i : Nat) : Nat × fLk := @Bool.rec (fun _ => Nat × fLk) ((8, lX12_costAhead)) ((4, lX12_look)) (Nat.ble i 237)
noncomputable def fDs_242 (i : Nat) : Nat × fLk := @Bool.rec (fun _ => Nat × fLk) ((9, lX12_outBy)) ((4, lX12_stateAt)) (Nat.ble i 240)
noncomputable def fDs_241 (i : Nat) : Nat × fLk := @Bool.rec (fun _ => Nat × fLk) (fDs_242 i) ((4, lX12_cellAhead)) (Nat.ble i 239)
noncomputable def fDs_239 (i : Nat) : Nat × fLk := @Bool.rec (fun _ => Nat × fLk) (fDs_241 i) (fDs_240 i) (Nat.ble i 238)
noncomputable def fDs_235 (i : Nat) : Nat × fLk := @Bool.rec (fun _ => Nat × fLk) (fDs_239 i) (fDs_236 i) (Nat.ble i 236)
noncomputable def fDs_245 (i : Nat) : Nat × fLk := @Bool.rec (fun _ => Nat × fLk) ((6, lX12_findOut)) ((9, lX12_bestOut)) (Nat.ble i 242)
noncomputable def fDs_246 (i : Nat) : Nat × fLk := @Bool.rec (fun _ => Nat × fLk) ((1, lX12_shipCoal)) ((1, lX12_shipCell)) (Nat.ble i 244)
noncomputable def fDs_244 (i : Nat) : Nat × fLk := @Bool.rec (fun _ => Nat × fLk) (fDs_246 i) (fDs_245 i) (Nat.ble i 243)
noncomputable def fDs_248 (i : Nat) : Nat × fLk := @Bool.rec (fun _ => Nat × fLk) ((9, lX12_soonest)) ((1, lX12_shipBanked)) (Nat.ble i 246)
noncomputable def fDs_250 (i : Nat) : Nat × fLk := @Bool.rec (fun _ => Nat × fLk) ((6, lX12_follow)) ((3, lX12_order)) (Nat.ble i 249)
noncomputable def fDs_249 (i : Nat) : Nat × fLk := @Bool.rec (fun _ => Nat × fLk) (fDs_250 i) ((2, lX12_least)) (Nat.ble i 248)
noncomputable def fDs_247 (i : Nat) : Nat × fLk := @Bool.rec (fun _ => Nat × fLk) (fDs_249 i) (fDs_248 i) (Nat.ble i 247)
noncomputable def fDs_243 (i : Nat) : Nat × fLk := @Bool.rec (fun _ => Nat × fLk) (fDs_247 i) (fDs_244 i) (Nat.ble i 245)
noncomputable def fDs_234 (i : Nat) : Nat × fLk := @Bool.rec (fun _ => Nat × fLk) (fDs_243 i) (fDs_235 i) (Nat.ble i 241)
noncomputable def fDs_216 (i : Nat) : Nat × fLk := @Bool.rec (fun _ => Nat × fLk) (fDs_234 i) (fDs_217 i) (Nat.ble i 232)
noncomputable def fDs_255 (i : Nat) : Nat × fLk := @Bool.rec (fun _ => Nat × fLk) ((2, lX12_home)) ((2, lX12_told)) (Nat.ble i 251)
noncomputable def fDs_256 (i : Nat) : Nat × fLk := @Bool.rec (fun _ => Nat × fLk) ((5, lX12_last)) ((8, lX12_canHome)) (Nat.ble i 253)
noncomputable def fDs_254 (i : Nat) : Nat × fLk := @Bool.rec (fun _ => Nat × fLk) (fDs_256 i) (fDs_255 i) (Nat.ble i 252)
noncomputable def fDs_258 (i : Nat) : Nat × fLk := @Bool.rec (fun _ => Nat × fLk) ((5, lX12_walkFrom)) ((5, lX12_walkOn)) (Nat.ble i 255)
noncomputable def fDs_260 (i : Nat) : Nat × fLk := @Bool.rec (fun _ => Nat × fLk) ((5, lX12_winterAt)) ((2, lX12_leave)) (Nat.ble i 258)
noncomputable def fDs_259 (i : Nat) : Nat × fLk := @Bool.rec (fun _ => Nat × fLk) (fDs_260 i) ((2, lX12_walk)) (Nat.ble i 257)
noncomputable def fDs_257 (i : Nat) : Nat × fLk := @Bool.rec (fun _ => Nat × fLk) (fDs_259 i) (fDs_258 i) (Nat.ble i 256)
noncomputable def fDs_253 (i : Nat) : Nat × fLk := @Bool.rec (fun _ => Nat × fLk) (fDs_257 i) (fDs_254 i) (Nat.ble i 254)
noncomputable def fDs_263 (i : Nat) : Nat × fLk := @Bool.rec (fun _ => Nat × fLk) ((3, lX12_chanceOf)) ((4, lX12_winter)) (Nat.ble i 260)
noncomputable def fDs_264 (i : Nat) : Nat × fLk := @Bool.rec (fun _ => Nat × fLk) ((3, lX12_isWayOut)) ((4, lX12_behind)) (Nat.ble i 262)
noncomputable def fDs_262 (i : Nat) : Nat × fLk := @Bool.rec (fun _ => Nat × fLk) (fDs_264 i) (fDs_263 i) (Nat.ble i 261)
noncomputable def fDs_266 (i : Nat) : Nat × fLk := @Bool.rec (fun _ => Nat × fLk) ((14, lX12_hopeTwo)) ((8, lX12_hopeOne)) (Nat.ble i 264)
noncomputable def fDs_268 (i : Nat) : Nat × fLk := @Bool.rec (fun _ => Nat × fLk) ((8, lX12_known)) ((9, lX12_hopeBehind)) (Nat.ble i 267)
noncomputable def fDs_267 (i : Nat) : Nat × fLk := @Bool.rec (fun _ => Nat × fLk) (fDs_268 i) ((6, lX12_hope)) (Nat.ble i 266)
noncomputable def fDs_265 (i : Nat) : Nat × fLk := @Bool.rec (fun _ => Nat × fLk) (fDs_267 i) (fDs_266 i) (Nat.ble i 265)
noncomputable def fDs_261 (i : Nat) : Nat × fLk := @Bool.rec (fun _ => Nat × fLk) (fDs_265 i) (fDs_262 i) (Nat.ble i 263)
noncomputable def fDs_252 (i : Nat) : Nat × fLk := @Bool.rec (fun _ => Nat × fLk) (fDs_261 i) (fDs_253 i) (Nat.ble i 259)
noncomputable def fDs_272 (i : Nat) : Nat × fLk := @Bool.rec (fun _ => Nat × fLk) ((7, lX12_leads)) ((5, lX12_surest)) (Nat.ble i 269)
noncomputable def fDs_273 (i : Nat) : Nat × fLk := @Bool.rec (fun _ => Nat × fLk) ((3, lX12_look_)) ((3, lX12_prior)) (Nat.ble i 271)
noncomputable def fDs_271 (i : Nat) : Nat × fLk := @Bool.rec (fun _ => Nat × fLk) (fDs_273 i) (fDs_272 i) (Nat.ble i 270)
noncomputable def fDs_275 (i : Nat) : Nat × fLk := @Bool.rec (fun _ => Nat × fLk) ((7, lX12_think)) ((8, lX12_weigh)) (Nat.ble i 273)
noncomputable def fDs_277 (i : Nat) : Nat × fLk := @Bool.rec (fun _ => Nat × fLk) ((4, lX12_orderBy)) ((2, lX12_canRun)) (Nat.ble i 276)
noncomputable def fDs_276 (i : Nat) : Nat × fLk := @Bool.rec (fun _ => Nat × fLk) (fDs_277 i) ((2, lX12_isText)) (Nat.ble i 275)
noncomputable def fDs_274 (i : Nat) : Nat × fLk := @Bool.rec (fun _ => Nat × fLk) (fDs_276 i) (fDs_275 i) (Nat.ble i 274)
noncomputable def fDs_270 (i : Nat) : Nat × fLk := @Bool.rec (fun _ => Nat × fLk) (fDs_274 i) (fDs_271 i) (Nat.ble i 272)
noncomputable def fDs_280 (i : Nat) : Nat × fLk := @Bool.rec (fun _ => Nat × fLk) ((5, lX12_runOne)) ((4, lX12_drawWind)) (Nat.ble i 278)
noncomputable def fDs_281 (i : Nat) : Nat × fLk := @Bool.rec (fun _ => Nat × fLk) ((5, lX12_run)) ((6, lX12_runAll)) (Nat.ble i 280)
noncomputable def fDs_279 (i : Nat) : Nat × fLk := @Bool.rec (fun _ => Nat × fLk) (fDs_281 i) (fDs_280 i) (Nat.ble i 279)
noncomputable def fDs_283 (i : Nat) : Nat × fLk := @Bool.rec (fun _ => Nat × fLk) ((1, lX12_image)) ((8, lX12_runs)) (Nat.ble i 282)
noncomputable def fDs_285 (i : Nat) : Nat × fLk := @Bool.rec (fun _ => Nat × fLk) ((2, lL_cell)) ((2, lX12_about)) (Nat.ble i 285)
noncomputable def fDs_284 (i : Nat) : Nat × fLk := @Bool.rec (fun _ => Nat × fLk) (fDs_285 i) ((1, lX12_back)) (Nat.ble i 284)
noncomputable def fDs_282 (i : Nat) : Nat × fLk := @Bool.rec (fun _ => Nat × fLk) (fDs_284 i) (fDs_283 i) (Nat.ble i 283)
noncomputable def fDs_278 (i : Nat) : Nat × fLk := @Bool.rec (fun _ => Nat × fLk) (fDs_282 i) (fDs_279 i) (Nat.ble i 281)
noncomputable def fDs_269 (i : Nat) : Nat × fLk := @Bool.rec (fun _ => Nat × fLk) (fDs_278 i) (fDs_270 i) (Nat.ble i 277)
noncomputable def fDs_251 (i : Nat) : Nat × fLk := @Bool.rec (fun _ => Nat × fLk) (fDs_269 i) (fDs_252 i) (Nat.ble i 268)
noncomputable def fDs_215 (i : Nat) : Nat × fLk := @Bool.rec (fun _ => Nat × fLk) (fDs_251 i) (fDs_216 i) (Nat.ble i 250)
noncomputable def fDs_143 (i : Nat) : Nat × fLk := @Bool.rec (fun _ => Nat × fLk) (fDs_215 i) (fDs_144 i) (Nat.ble i 214)
noncomputable def fDs (i : Nat) : Nat × fLk := @Bool.rec (fun _ => Nat × fLk) (@Bool.rec (fun _ => Nat × fLk) (fDs_143 i) (fDs_1 i) (Nat.ble i 142)) ((0, fun _ => [])) (Nat.ble 287 i)
noncomputable def fCs_3 (i : Nat) : Nat := @Bool.rec (fun _ => Nat) (2) (1) (Nat.ble i 21)
noncomputable def fCs_2 (i : Nat) : Nat := @Bool.rec (fun _ => Nat) (fCs_3 i) (0) (Nat.ble i 9)
noncomputable def fCs_5 (i : Nat) : Nat := @Bool.rec (fun _ => Nat) (4) (3) (Nat.ble i 37)
noncomputable def fCs_6 (i : Nat) : Nat := @Bool.rec (fun _ => Nat) (6) (5) (Nat.ble i 64)
noncomputable def fCs_4 (i : Nat) : Nat := @Bool.rec (fun _ => Nat) (fCs_6 i) (fCs_5 i) (Nat.ble i 45)
noncomputable def fCs_1 (i : Nat) : Nat := @Bool.rec (fun _ => Nat) (fCs_4 i) (fCs_2 i) (Nat.ble i 28)
noncomputable def fCs_9 (i : Nat) : Nat := @Bool.rec (fun _ => Nat) (9) (8) (Nat.ble i 80)
noncomputable def fCs_8 (i : Nat) : Nat := @Bool.rec (fun _ => Nat) (fCs_9 i) (7) (Nat.ble i 75)
noncomputable def fCs_11 (i : Nat) : Nat := @Bool.rec (fun _ => Nat) (11) (10) (Nat.ble i 109)
noncomputable def fCs_12 (i : Nat) : Nat := @Bool.rec (fun _ => Nat) (13) (12) (Nat.ble i 285)
noncomputable def fCs_10 (i : Nat) : Nat := @Bool.rec (fun _ => Nat) (fCs_12 i) (fCs_11 i) (Nat.ble i 155)
noncomputable def fCs_7 (i : Nat) : Nat := @Bool.rec (fun _ => Nat) (fCs_10 i) (fCs_8 i) (Nat.ble i 107)
noncomputable def fCs (i : Nat) : Nat := @Bool.rec (fun _ => Nat) (@Bool.rec (fun _ => Nat) (fCs_7 i) (fCs_1 i) (Nat.ble i 72)) (0) (Nat.ble 287 i)
def fDat (m : Nat) : Prop := (fDs m).1 = (pMe m).2.2.2.1 ∧ fCs m = (pMe m).1 ∧ ∀ pc, ∀ e ∈ (fDs m).2 pc, fEok (pMe m).1 (pKind.getD m 9 == 2) (pMe m).2.2.2.1 (pCode m) (pMe m).2.2.2.2 e
theorem fDat_0 : fDat 0 := ⟨rfl, rfl, lX0_init_ok⟩
theorem fDat_1 : fDat 1 := ⟨rfl, rfl, lX0_price_ok⟩
theorem fDat_2 : fDat 2 := ⟨rfl, rfl, lX0_landing_ok⟩
theorem fDat_3 : fDat 3 := ⟨rfl, rfl, lX0_isPush_ok⟩
theorem fDat_4 : fDat 4 := ⟨rfl, rfl, lX0_banksBehind_ok⟩
theorem fDat_5 : fDat 5 := ⟨rfl, rfl, lX0_priceFor_ok⟩
theorem fDat_6 : fDat 6 := ⟨rfl, rfl, lX0_obey_ok⟩
theorem fDat_7 : fDat 7 := ⟨rfl, rfl, lX0_settle_ok⟩
theorem fDat_8 : fDat 8 := ⟨rfl, rfl, lX0_sail_ok⟩
theorem fDat_9 : fDat 9 := ⟨rfl, rfl, lX0_chosen_ok⟩
theorem fDat_10 : fDat 10 := ⟨rfl, rfl, lX1_init_ok⟩
theorem fDat_11 : fDat 11 := ⟨rfl, rfl, lX1_face_ok⟩
theorem fDat_12 : fDat 12 := ⟨rfl, rfl, lX1_isOpen_ok⟩
theorem fDat_13 : fDat 13 := ⟨rfl, rfl, lX1_isNipping_ok⟩
theorem fDat_14 : fDat 14 := ⟨rfl, rfl, lX1_isFirm_ok⟩
theorem fDat_15 : fDat 15 := ⟨rfl, rfl, lX1_toll_ok⟩
theorem fDat_16 : fDat 16 := ⟨rfl, rfl, lX1_drive_ok⟩
theorem fDat_17 : fDat 17 := ⟨rfl, rfl, lX1_wants_ok⟩
theorem fDat_18 : fDat 18 := ⟨rfl, rfl, lX1_anySo_ok⟩
theorem fDat_19 : fDat 19 := ⟨rfl, rfl, lX1_value_ok⟩
theorem fDat_20 : fDat 20 := ⟨rfl, rfl, lX1_named_ok⟩
theorem fDat_21 : fDat 21 := ⟨rfl, rfl, lX1_joined_ok⟩
theorem fDat_22 : fDat 22 := ⟨rfl, rfl, lX2_init_ok⟩
theorem fDat_23 : fDat 23 := ⟨rfl, rfl, lX2_add_ok⟩
theorem fDat_24 : fDat 24 := ⟨rfl, rfl, lX2_go_ok⟩
theorem fDat_25 : fDat 25 := ⟨rfl, rfl, lX2_seenIn_ok⟩
theorem fDat_26 : fDat 26 := ⟨rfl, rfl, lX2_thousandths_ok⟩
theorem fDat_27 : fDat 27 := ⟨rfl, rfl, lX2_weight_ok⟩
theorem fDat_28 : fDat 28 := ⟨rfl, rfl, lX2_take_ok⟩
theorem fDat_29 : fDat 29 := ⟨rfl, rfl, lX3_init_ok⟩
theorem fDat_30 : fDat 30 := ⟨rfl, rfl, lX3_tens_ok⟩
theorem fDat_31 : fDat 31 := ⟨rfl, rfl, lX3_weigh_ok⟩
theorem fDat_32 : fDat 32 := ⟨rfl, rfl, lX3_chanceBy_ok⟩
theorem fDat_33 : fDat 33 := ⟨rfl, rfl, lX3_bestFrom_ok⟩
theorem fDat_34 : fDat 34 := ⟨rfl, rfl, lX3_leaves_ok⟩
theorem fDat_35 : fDat 35 := ⟨rfl, rfl, lX3_knownAhead_ok⟩
theorem fDat_36 : fDat 36 := ⟨rfl, rfl, lX3_tenthsOf_ok⟩
theorem fDat_37 : fDat 37 := ⟨rfl, rfl, lX3_getsOut_ok⟩
theorem fDat_38 : fDat 38 := ⟨rfl, rfl, lX4_init_ok⟩
theorem fDat_39 : fDat 39 := ⟨rfl, rfl, lX4_foresee_ok⟩
theorem fDat_40 : fDat 40 := ⟨rfl, rfl, lX4_foreseeAll_ok⟩
theorem fDat_41 : fDat 41 := ⟨rfl, rfl, lX4_behind_ok⟩
theorem fDat_42 : fDat 42 := ⟨rfl, rfl, lX4_begin_ok⟩
theorem fDat_43 : fDat 43 := ⟨rfl, rfl, lX4_follow_ok⟩
theorem fDat_44 : fDat 44 := ⟨rfl, rfl, lX4_askTolls_ok⟩
theorem fDat_45 : fDat 45 := ⟨rfl, rfl, lX4_tollOf_ok⟩
theorem fDat_46 : fDat 46 := ⟨rfl, rfl, lX5_init_ok⟩
theorem fDat_47 : fDat 47 := ⟨rfl, rfl, lX5_take_ok⟩
theorem fDat_48 : fDat 48 := ⟨rfl, rfl, lX5_reads_ok⟩
theorem fDat_49 : fDat 49 := ⟨rfl, rfl, lX5_next_ok⟩
theorem fDat_50 : fDat 50 := ⟨rfl, rfl, lX5_faulty_ok⟩
theorem fDat_51 : fDat 51 := ⟨rfl, rfl, lX5_readsClause_ok⟩
theorem fDat_52 : fDat 52 := ⟨rfl, rfl, lX5_readsOrder_ok⟩
theorem fDat_53 : fDat 53 := ⟨rfl, rfl, lX5_readsEither_ok⟩
theorem fDat_54 : fDat 54 := ⟨rfl, rfl, lX5_readsAsk_ok⟩
theorem fDat_55 : fDat 55 := ⟨rfl, rfl, lX5_readsSum_ok⟩
theorem fDat_56 : fDat 56 := ⟨rfl, rfl, lX5_readsOne_ok⟩
theorem fDat_57 : fDat 57 := ⟨rfl, rfl, lX5_splitTape_ok⟩
theorem fDat_58 : fDat 58 := ⟨rfl, rfl, lX5_splitWord_ok⟩
theorem fDat_59 : fDat 59 := ⟨rfl, rfl, lX5_isWord_ok⟩
theorem fDat_60 : fDat 60 := ⟨rfl, rfl, lX5_splitNumber_ok⟩
theorem fDat_61 : fDat 61 := ⟨rfl, rfl, lX5_splitSign_ok⟩
theorem fDat_62 : fDat 62 := ⟨rfl, rfl, lX5_plainSign_ok⟩
theorem fDat_63 : fDat 63 := ⟨rfl, rfl, lX5_isLetter_ok⟩
theorem fDat_64 : fDat 64 := ⟨rfl, rfl, lX5_isDigit_ok⟩
theorem fDat_65 : fDat 65 := ⟨rfl, rfl, lX6_init_ok⟩
theorem fDat_66 : fDat 66 := ⟨rfl, rfl, lX6_has_ok⟩
theorem fDat_67 : fDat 67 := ⟨rfl, rfl, lX6_off_ok⟩
theorem fDat_68 : fDat 68 := ⟨rfl, rfl, lX6_beside_ok⟩
theorem fDat_69 : fDat 69 := ⟨rfl, rfl, lX6_carried_ok⟩
theorem fDat_70 : fDat 70 := ⟨rfl, rfl, lX6_afloat_ok⟩
theorem fDat_71 : fDat 71 := ⟨rfl, rfl, lX6_drawn_ok⟩
theorem fDat_72 : fDat 72 := ⟨rfl, rfl, lX6_take_ok⟩
theorem fDat_73 : fDat 73 := ⟨rfl, rfl, lX7_init_ok⟩
theorem fDat_74 : fDat 74 := ⟨rfl, rfl, lX7_put_ok⟩
theorem fDat_75 : fDat 75 := ⟨rfl, rfl, lX7_take_ok⟩
theorem fDat_76 : fDat 76 := ⟨rfl, rfl, lX8_init_ok⟩
theorem fDat_77 : fDat 77 := ⟨rfl, rfl, lX8_clear_ok⟩
theorem fDat_78 : fDat 78 := ⟨rfl, rfl, lX8_add_ok⟩
theorem fDat_79 : fDat 79 := ⟨rfl, rfl, lX8_close_ok⟩
theorem fDat_80 : fDat 80 := ⟨rfl, rfl, lX8_firstOf_ok⟩
theorem fDat_81 : fDat 81 := ⟨rfl, rfl, lX9_init_ok⟩
theorem fDat_82 : fDat 82 := ⟨rfl, rfl, lX9_fewestWatches_ok⟩
theorem fDat_83 : fDat 83 := ⟨rfl, rfl, lX9_coalLeft_ok⟩
theorem fDat_84 : fDat 84 := ⟨rfl, rfl, lX9_leastCoal_ok⟩
theorem fDat_85 : fDat 85 := ⟨rfl, rfl, lX9_seekOut_ok⟩
theorem fDat_86 : fDat 86 := ⟨rfl, rfl, lX9_clearSpent_ok⟩
theorem fDat_87 : fDat 87 := ⟨rfl, rfl, lX9_seekFrom_ok⟩
theorem fDat_88 : fDat 88 := ⟨rfl, rfl, lX9_orderOfBest_ok⟩
theorem fDat_89 : fDat 89 := ⟨rfl, rfl, lX9_lowestBest_ok⟩
theorem fDat_90 : fDat 90 := ⟨rfl, rfl, lX9_place_ok⟩
theorem fDat_91 : fDat 91 := ⟨rfl, rfl, lX9_askNeeds_ok⟩
theorem fDat_92 : fDat 92 := ⟨rfl, rfl, lX9_leastNeed_ok⟩
theorem fDat_93 : fDat 93 := ⟨rfl, rfl, lX9_needBy_ok⟩
theorem fDat_94 : fDat 94 := ⟨rfl, rfl, lX9_followTold_ok⟩
theorem fDat_95 : fDat 95 := ⟨rfl, rfl, lX9_goesOn_ok⟩
theorem fDat_96 : fDat 96 := ⟨rfl, rfl, lX9_toldCell_ok⟩
theorem fDat_97 : fDat 97 := ⟨rfl, rfl, lX9_lastTurn_ok⟩
theorem fDat_98 : fDat 98 := ⟨rfl, rfl, lX9_watchesAfoot_ok⟩
theorem fDat_99 : fDat 99 := ⟨rfl, rfl, lX9_lastLeave_ok⟩
theorem fDat_100 : fDat 100 := ⟨rfl, rfl, lX9_askAfoot_ok⟩
theorem fDat_101 : fDat 101 := ⟨rfl, rfl, lX9_afootBehind_ok⟩
theorem fDat_102 : fDat 102 := ⟨rfl, rfl, lX9_reachAfoot_ok⟩
theorem fDat_103 : fDat 103 := ⟨rfl, rfl, lX9_nipsIn_ok⟩
theorem fDat_104 : fDat 104 := ⟨rfl, rfl, lX9_calmest_ok⟩
theorem fDat_105 : fDat 105 := ⟨rfl, rfl, lX9_openLeads_ok⟩
theorem fDat_106 : fDat 106 := ⟨rfl, rfl, lX9_spread_ok⟩
theorem fDat_107 : fDat 107 := ⟨rfl, rfl, lX9_pushesTo_ok⟩
theorem fDat_108 : fDat 108 := ⟨rfl, rfl, lX10_init_ok⟩
theorem fDat_109 : fDat 109 := ⟨rfl, rfl, lX10_take_ok⟩
theorem fDat_110 : fDat 110 := ⟨rfl, rfl, lX11_init_ok⟩
theorem fDat_111 : fDat 111 := ⟨rfl, rfl, lX11_ice_ok⟩
theorem fDat_112 : fDat 112 := ⟨rfl, rfl, lX11_iceAt_ok⟩
theorem fDat_113 : fDat 113 := ⟨rfl, rfl, lX11_mark_ok⟩
theorem fDat_114 : fDat 114 := ⟨rfl, rfl, lX11_edge_ok⟩
theorem fDat_115 : fDat 115 := ⟨rfl, rfl, lX11_drift_ok⟩
theorem fDat_116 : fDat 116 := ⟨rfl, rfl, lX11_chances_ok⟩
theorem fDat_117 : fDat 117 := ⟨rfl, rfl, lX11_ship_ok⟩
theorem fDat_118 : fDat 118 := ⟨rfl, rfl, lX11_costs_ok⟩
theorem fDat_119 : fDat 119 := ⟨rfl, rfl, lX11_wind_ok⟩
theorem fDat_120 : fDat 120 := ⟨rfl, rfl, lX11_feed_ok⟩
theorem fDat_121 : fDat 121 := ⟨rfl, rfl, lX11_end_ok⟩
theorem fDat_122 : fDat 122 := ⟨rfl, rfl, lX11_text_ok⟩
theorem fDat_123 : fDat 123 := ⟨rfl, rfl, lX11_fault_ok⟩
theorem fDat_124 : fDat 124 := ⟨rfl, rfl, lX11_by_ok⟩
theorem fDat_125 : fDat 125 := ⟨rfl, rfl, lX11_can_ok⟩
theorem fDat_126 : fDat 126 := ⟨rfl, rfl, lX11_watch_ok⟩
theorem fDat_127 : fDat 127 := ⟨rfl, rfl, lX11_of_ok⟩
theorem fDat_128 : fDat 128 := ⟨rfl, rfl, lX11_ahead_ok⟩
theorem fDat_129 : fDat 129 := ⟨rfl, rfl, lX11_many_ok⟩
theorem fDat_130 : fDat 130 := ⟨rfl, rfl, lX11_soonest_ok⟩
theorem fDat_131 : fDat 131 := ⟨rfl, rfl, lX11_least_ok⟩
theorem fDat_132 : fDat 132 := ⟨rfl, rfl, lX11_order_ok⟩
theorem fDat_133 : fDat 133 := ⟨rfl, rfl, lX11_told_ok⟩
theorem fDat_134 : fDat 134 := ⟨rfl, rfl, lX11_home_ok⟩
theorem fDat_135 : fDat 135 := ⟨rfl, rfl, lX11_last_ok⟩
theorem fDat_136 : fDat 136 := ⟨rfl, rfl, lX11_walk_ok⟩
theorem fDat_137 : fDat 137 := ⟨rfl, rfl, lX11_leave_ok⟩
theorem fDat_138 : fDat 138 := ⟨rfl, rfl, lX11_winter_ok⟩
theorem fDat_139 : fDat 139 := ⟨rfl, rfl, lX11_surest_ok⟩
theorem fDat_140 : fDat 140 := ⟨rfl, rfl, lX11_leads_ok⟩
theorem fDat_141 : fDat 141 := ⟨rfl, rfl, lX11_prior_ok⟩
theorem fDat_142 : fDat 142 := ⟨rfl, rfl, lX11_look_ok⟩
theorem fDat_143 : fDat 143 := ⟨rfl, rfl, lX11_think_ok⟩
theorem fDat_144 : fDat 144 := ⟨rfl, rfl, lX11_run_ok⟩
theorem fDat_145 : fDat 145 := ⟨rfl, rfl, lX11_runs_ok⟩
theorem fDat_146 : fDat 146 := ⟨rfl, rfl, lX11_image_ok⟩
theorem fDat_147 : fDat 147 := ⟨rfl, rfl, lX11_back_ok⟩
theorem fDat_148 : fDat 148 := ⟨rfl, rfl, lX11_about_ok⟩
theorem fDat_149 : fDat 149 := ⟨rfl, rfl, lX11_shipOf_ok⟩
theorem fDat_150 : fDat 150 := ⟨rfl, rfl, lX11_isText_ok⟩
theorem fDat_151 : fDat 151 := ⟨rfl, rfl, lX11_heedLaw_ok⟩
theorem fDat_152 : fDat 152 := ⟨rfl, rfl, lX11_isWind_ok⟩
theorem fDat_153 : fDat 153 := ⟨rfl, rfl, lX11_isOrder_ok⟩
theorem fDat_154 : fDat 154 := ⟨rfl, rfl, lX11_within_ok⟩
theorem fDat_155 : fDat 155 := ⟨rfl, rfl, lX11_held_ok⟩
theorem fDat_156 : fDat 156 := ⟨rfl, rfl, lX12_init_ok⟩
theorem fDat_157 : fDat 157 := ⟨rfl, rfl, lX12_copyRow_ok⟩
theorem fDat_158 : fDat 158 := ⟨rfl, rfl, lX12_isIn_ok⟩
theorem fDat_159 : fDat 159 := ⟨rfl, rfl, lX12_isCell_ok⟩
theorem fDat_160 : fDat 160 := ⟨rfl, rfl, lX12_isWind_ok⟩
theorem fDat_161 : fDat 161 := ⟨rfl, rfl, lX12_besideBy_ok⟩
theorem fDat_162 : fDat 162 := ⟨rfl, rfl, lX12_pushed_ok⟩
theorem fDat_163 : fDat 163 := ⟨rfl, rfl, lX12_ice_ok⟩
theorem fDat_164 : fDat 164 := ⟨rfl, rfl, lX12_iceAt_ok⟩
theorem fDat_165 : fDat 165 := ⟨rfl, rfl, lX12_mark_ok⟩
theorem fDat_166 : fDat 166 := ⟨rfl, rfl, lX12_edge_ok⟩
theorem fDat_167 : fDat 167 := ⟨rfl, rfl, lX12_drift_ok⟩
theorem fDat_168 : fDat 168 := ⟨rfl, rfl, lX12_chances_ok⟩
theorem fDat_169 : fDat 169 := ⟨rfl, rfl, lX12_isShip_ok⟩
theorem fDat_170 : fDat 170 := ⟨rfl, rfl, lX12_ofShip_ok⟩
theorem fDat_171 : fDat 171 := ⟨rfl, rfl, lX12_ship_ok⟩
theorem fDat_172 : fDat 172 := ⟨rfl, rfl, lX12_costs_ok⟩
theorem fDat_173 : fDat 173 := ⟨rfl, rfl, lX12_wind_ok⟩
theorem fDat_174 : fDat 174 := ⟨rfl, rfl, lX12_four_ok⟩
theorem fDat_175 : fDat 175 := ⟨rfl, rfl, lX12_feed_ok⟩
theorem fDat_176 : fDat 176 := ⟨rfl, rfl, lX12_end_ok⟩
theorem fDat_177 : fDat 177 := ⟨rfl, rfl, lX12_byteAt_ok⟩
theorem fDat_178 : fDat 178 := ⟨rfl, rfl, lX12_isLetter_ok⟩
theorem fDat_179 : fDat 179 := ⟨rfl, rfl, lX12_isDigit_ok⟩
theorem fDat_180 : fDat 180 := ⟨rfl, rfl, lX12_nextToken_ok⟩
theorem fDat_181 : fDat 181 := ⟨rfl, rfl, lX12_w3_ok⟩
theorem fDat_182 : fDat 182 := ⟨rfl, rfl, lX12_w5_ok⟩
theorem fDat_183 : fDat 183 := ⟨rfl, rfl, lX12_w4_ok⟩
theorem fDat_184 : fDat 184 := ⟨rfl, rfl, lX12_w6_ok⟩
theorem fDat_185 : fDat 185 := ⟨rfl, rfl, lX12_isWord_ok⟩
theorem fDat_186 : fDat 186 := ⟨rfl, rfl, lX12_emit_ok⟩
theorem fDat_187 : fDat 187 := ⟨rfl, rfl, lX12_push_ok⟩
theorem fDat_188 : fDat 188 := ⟨rfl, rfl, lX12_whole_ok⟩
theorem fDat_189 : fDat 189 := ⟨rfl, rfl, lX12_settle_ok⟩
theorem fDat_190 : fDat 190 := ⟨rfl, rfl, lX12_nameOf_ok⟩
theorem fDat_191 : fDat 191 := ⟨rfl, rfl, lX12_isBarred_ok⟩
theorem fDat_192 : fDat 192 := ⟨rfl, rfl, lX12_beginOne_ok⟩
theorem fDat_193 : fDat 193 := ⟨rfl, rfl, lX12_hasParen_ok⟩
theorem fDat_194 : fDat 194 := ⟨rfl, rfl, lX12_goesOn_ok⟩
theorem fDat_195 : fDat 195 := ⟨rfl, rfl, lX12_behindOne_ok⟩
theorem fDat_196 : fDat 196 := ⟨rfl, rfl, lX12_summed_ok⟩
theorem fDat_197 : fDat 197 := ⟨rfl, rfl, lX12_compareOf_ok⟩
theorem fDat_198 : fDat 198 := ⟨rfl, rfl, lX12_asks_ok⟩
theorem fDat_199 : fDat 199 := ⟨rfl, rfl, lX12_either_ok⟩
theorem fDat_200 : fDat 200 := ⟨rfl, rfl, lX12_sortOf_ok⟩
theorem fDat_201 : fDat 201 := ⟨rfl, rfl, lX12_goesBy_ok⟩
theorem fDat_202 : fDat 202 := ⟨rfl, rfl, lX12_clause_ok⟩
theorem fDat_203 : fDat 203 := ⟨rfl, rfl, lX12_readText_ok⟩
theorem fDat_204 : fDat 204 := ⟨rfl, rfl, lX12_text_ok⟩
theorem fDat_205 : fDat 205 := ⟨rfl, rfl, lX12_fault_ok⟩
theorem fDat_206 : fDat 206 := ⟨rfl, rfl, lX12_by_ok⟩
theorem fDat_207 : fDat 207 := ⟨rfl, rfl, lX12_clip_ok⟩
theorem fDat_208 : fDat 208 := ⟨rfl, rfl, lX12_two_ok⟩
theorem fDat_209 : fDat 209 := ⟨rfl, rfl, lX12_isAsked_ok⟩
theorem fDat_210 : fDat 210 := ⟨rfl, rfl, lX12_work_ok⟩
theorem fDat_211 : fDat 211 := ⟨rfl, rfl, lX12_sortAt_ok⟩
theorem fDat_212 : fDat 212 := ⟨rfl, rfl, lX12_clauses_ok⟩
theorem fDat_213 : fDat 213 := ⟨rfl, rfl, lX12_iceOf_ok⟩
theorem fDat_214 : fDat 214 := ⟨rfl, rfl, lX12_nameCell_ok⟩
theorem fDat_215 : fDat 215 := ⟨rfl, rfl, lX12_isAny_ok⟩
theorem fDat_216 : fDat 216 := ⟨rfl, rfl, lX12_sumOf_ok⟩
theorem fDat_217 : fDat 217 := ⟨rfl, rfl, lX12_pushCost_ok⟩
theorem fDat_218 : fDat 218 := ⟨rfl, rfl, lX12_nips_ok⟩
theorem fDat_219 : fDat 219 := ⟨rfl, rfl, lX12_walks_ok⟩
theorem fDat_220 : fDat 220 := ⟨rfl, rfl, lX12_driven_ok⟩
theorem fDat_221 : fDat 221 := ⟨rfl, rfl, lX12_drifted_ok⟩
theorem fDat_222 : fDat 222 := ⟨rfl, rfl, lX12_go_ok⟩
theorem fDat_223 : fDat 223 := ⟨rfl, rfl, lX12_layNow_ok⟩
theorem fDat_224 : fDat 224 := ⟨rfl, rfl, lX12_isOrder_ok⟩
theorem fDat_225 : fDat 225 := ⟨rfl, rfl, lX12_orderCost_ok⟩
theorem fDat_226 : fDat 226 := ⟨rfl, rfl, lX12_firesBehind_ok⟩
theorem fDat_227 : fDat 227 := ⟨rfl, rfl, lX12_isFree_ok⟩
theorem fDat_228 : fDat 228 := ⟨rfl, rfl, lX12_costOf_ok⟩
theorem fDat_229 : fDat 229 := ⟨rfl, rfl, lX12_can_ok⟩
theorem fDat_230 : fDat 230 := ⟨rfl, rfl, lX12_does_ok⟩
theorem fDat_231 : fDat 231 := ⟨rfl, rfl, lX12_floatShip_ok⟩
theorem fDat_232 : fDat 232 := ⟨rfl, rfl, lX12_watch_ok⟩
theorem fDat_233 : fDat 233 := ⟨rfl, rfl, lX12_of_ok⟩
theorem fDat_234 : fDat 234 := ⟨rfl, rfl, lX12_ahead_ok⟩
theorem fDat_235 : fDat 235 := ⟨rfl, rfl, lX12_many_ok⟩
theorem fDat_236 : fDat 236 := ⟨rfl, rfl, lX12_windBefore_ok⟩
theorem fDat_237 : fDat 237 := ⟨rfl, rfl, lX12_look_ok⟩
theorem fDat_238 : fDat 238 := ⟨rfl, rfl, lX12_costAhead_ok⟩
theorem fDat_239 : fDat 239 := ⟨rfl, rfl, lX12_cellAhead_ok⟩
theorem fDat_240 : fDat 240 := ⟨rfl, rfl, lX12_stateAt_ok⟩
theorem fDat_241 : fDat 241 := ⟨rfl, rfl, lX12_outBy_ok⟩
theorem fDat_242 : fDat 242 := ⟨rfl, rfl, lX12_bestOut_ok⟩
theorem fDat_243 : fDat 243 := ⟨rfl, rfl, lX12_findOut_ok⟩
theorem fDat_244 : fDat 244 := ⟨rfl, rfl, lX12_shipCell_ok⟩
theorem fDat_245 : fDat 245 := ⟨rfl, rfl, lX12_shipCoal_ok⟩
theorem fDat_246 : fDat 246 := ⟨rfl, rfl, lX12_shipBanked_ok⟩
theorem fDat_247 : fDat 247 := ⟨rfl, rfl, lX12_soonest_ok⟩
theorem fDat_248 : fDat 248 := ⟨rfl, rfl, lX12_least_ok⟩
theorem fDat_249 : fDat 249 := ⟨rfl, rfl, lX12_order_ok⟩
theorem fDat_250 : fDat 250 := ⟨rfl, rfl, lX12_follow_ok⟩
theorem fDat_251 : fDat 251 := ⟨rfl, rfl, lX12_told_ok⟩
theorem fDat_252 : fDat 252 := ⟨rfl, rfl, lX12_home_ok⟩
theorem fDat_253 : fDat 253 := ⟨rfl, rfl, lX12_canHome_ok⟩
theorem fDat_254 : fDat 254 := ⟨rfl, rfl, lX12_last_ok⟩
theorem fDat_255 : fDat 255 := ⟨rfl, rfl, lX12_walkOn_ok⟩
theorem fDat_256 : fDat 256 := ⟨rfl, rfl, lX12_walkFrom_ok⟩
theorem fDat_257 : fDat 257 := ⟨rfl, rfl, lX12_walk_ok⟩
theorem fDat_258 : fDat 258 := ⟨rfl, rfl, lX12_leave_ok⟩
theorem fDat_259 : fDat 259 := ⟨rfl, rfl, lX12_winterAt_ok⟩
theorem fDat_260 : fDat 260 := ⟨rfl, rfl, lX12_winter_ok⟩
theorem fDat_261 : fDat 261 := ⟨rfl, rfl, lX12_chanceOf_ok⟩
theorem fDat_262 : fDat 262 := ⟨rfl, rfl, lX12_behind_ok⟩
theorem fDat_263 : fDat 263 := ⟨rfl, rfl, lX12_isWayOut_ok⟩
theorem fDat_264 : fDat 264 := ⟨rfl, rfl, lX12_hopeOne_ok⟩
theorem fDat_265 : fDat 265 := ⟨rfl, rfl, lX12_hopeTwo_ok⟩
theorem fDat_266 : fDat 266 := ⟨rfl, rfl, lX12_hope_ok⟩
theorem fDat_267 : fDat 267 := ⟨rfl, rfl, lX12_hopeBehind_ok⟩
theorem fDat_268 : fDat 268 := ⟨rfl, rfl, lX12_known_ok⟩
theorem fDat_269 : fDat 269 := ⟨rfl, rfl, lX12_surest_ok⟩
theorem fDat_270 : fDat 270 := ⟨rfl, rfl, lX12_leads_ok⟩
theorem fDat_271 : fDat 271 := ⟨rfl, rfl, lX12_prior_ok⟩
theorem fDat_272 : fDat 272 := ⟨rfl, rfl, lX12_look__ok⟩
theorem fDat_273 : fDat 273 := ⟨rfl, rfl, lX12_weigh_ok⟩
theorem fDat_274 : fDat 274 := ⟨rfl, rfl, lX12_think_ok⟩
theorem fDat_275 : fDat 275 := ⟨rfl, rfl, lX12_isText_ok⟩
theorem fDat_276 : fDat 276 := ⟨rfl, rfl, lX12_canRun_ok⟩
theorem fDat_277 : fDat 277 := ⟨rfl, rfl, lX12_orderBy_ok⟩
theorem fDat_278 : fDat 278 := ⟨rfl, rfl, lX12_drawWind_ok⟩
theorem fDat_279 : fDat 279 := ⟨rfl, rfl, lX12_runOne_ok⟩
theorem fDat_280 : fDat 280 := ⟨rfl, rfl, lX12_runAll_ok⟩
theorem fDat_281 : fDat 281 := ⟨rfl, rfl, lX12_run_ok⟩
theorem fDat_282 : fDat 282 := ⟨rfl, rfl, lX12_runs_ok⟩
theorem fDat_283 : fDat 283 := ⟨rfl, rfl, lX12_image_ok⟩
theorem fDat_284 : fDat 284 := ⟨rfl, rfl, lX12_back_ok⟩
theorem fDat_285 : fDat 285 := ⟨rfl, rfl, lX12_about_ok⟩
theorem fDat_286 : fDat 286 := ⟨rfl, rfl, lL_cell_ok⟩
theorem fDa_0_2 {m : Nat} (h1 : 0 ≤ m) (h2 : m < 2) : fDat m := by
  by_cases h : m < 1
  · exact by rw [show m = 0 by omega]; exact fDat_0
  · exact by rw [show m = 1 by omega]; exact fDat_1
theorem fDa_2_4 {m : Nat} (h1 : 2 ≤ m) (h2 : m < 4) : fDat m := by
  by_cases h : m < 3
  · exact by rw [show m = 2 by omega]; exact fDat_2
  · exact by rw [show m = 3 by omega]; exact fDat_3
theorem fDa_0_4 {m : Nat} (h1 : 0 ≤ m) (h2 : m < 4) : fDat m := by
  by_cases h : m < 2
  · exact fDa_0_2 (by omega) (by omega)
  · exact fDa_2_4 (by omega) (by omega)
theorem fDa_4_6 {m : Nat} (h1 : 4 ≤ m) (h2 : m < 6) : fDat m := by
  by_cases h : m < 5
  · exact by rw [show m = 4 by omega]; exact fDat_4
  · exact by rw [show m = 5 by omega]; exact fDat_5
theorem fDa_6_8 {m : Nat} (h1 : 6 ≤ m) (h2 : m < 8) : fDat m := by
  by_cases h : m < 7
  · exact by rw [show m = 6 by omega]; exact fDat_6
  · exact by rw [show m = 7 by omega]; exact fDat_7
theorem fDa_4_8 {m : Nat} (h1 : 4 ≤ m) (h2 : m < 8) : fDat m := by
  by_cases h : m < 6
  · exact fDa_4_6 (by omega) (by omega)
  · exact fDa_6_8 (by omega) (by omega)
theorem fDa_0_8 {m : Nat} (h1 : 0 ≤ m) (h2 : m < 8) : fDat m := by
  by_cases h : m < 4
  · exact fDa_0_4 (by omega) (by omega)
  · exact fDa_4_8 (by omega) (by omega)
theorem fDa_8_10 {m : Nat} (h1 : 8 ≤ m) (h2 : m < 10) : fDat m := by
  by_cases h : m < 9
  · exact by rw [show m = 8 by omega]; exact fDat_8
  · exact by rw [show m = 9 by omega]; exact fDat_9
theorem fDa_10_12 {m : Nat} (h1 : 10 ≤ m) (h2 : m < 12) : fDat m := by
  by_cases h : m < 11
  · exact by rw [show m = 10 by omega]; exact fDat_10
  · exact by rw [show m = 11 by omega]; exact fDat_11
theorem fDa_8_12 {m : Nat} (h1 : 8 ≤ m) (h2 : m < 12) : fDat m := by
  by_cases h : m < 10
  · exact fDa_8_10 (by omega) (by omega)
  · exact fDa_10_12 (by omega) (by omega)
theorem fDa_12_14 {m : Nat} (h1 : 12 ≤ m) (h2 : m < 14) : fDat m := by
  by_cases h : m < 13
  · exact by rw [show m = 12 by omega]; exact fDat_12
  · exact by rw [show m = 13 by omega]; exact fDat_13
theorem fDa_15_17 {m : Nat} (h1 : 15 ≤ m) (h2 : m < 17) : fDat m := by
  by_cases h : m < 16
  · exact by rw [show m = 15 by omega]; exact fDat_15
  · exact by rw [show m = 16 by omega]; exact fDat_16
theorem fDa_14_17 {m : Nat} (h1 : 14 ≤ m) (h2 : m < 17) : fDat m := by
  by_cases h : m < 15
  · exact by rw [show m = 14 by omega]; exact fDat_14
  · exact fDa_15_17 (by omega) (by omega)
theorem fDa_12_17 {m : Nat} (h1 : 12 ≤ m) (h2 : m < 17) : fDat m := by
  by_cases h : m < 14
  · exact fDa_12_14 (by omega) (by omega)
  · exact fDa_14_17 (by omega) (by omega)
theorem fDa_8_17 {m : Nat} (h1 : 8 ≤ m) (h2 : m < 17) : fDat m := by
  by_cases h : m < 12
  · exact fDa_8_12 (by omega) (by omega)
  · exact fDa_12_17 (by omega) (by omega)
theorem fDa_0_17 {m : Nat} (h1 : 0 ≤ m) (h2 : m < 17) : fDat m := by
  by_cases h : m < 8
  · exact fDa_0_8 (by omega) (by omega)
  · exact fDa_8_17 (by omega) (by omega)
theorem fDa_17_19 {m : Nat} (h1 : 17 ≤ m) (h2 : m < 19) : fDat m := by
  by_cases h : m < 18
  · exact by rw [show m = 17 by omega]; exact fDat_17
  · exact by rw [show m = 18 by omega]; exact fDat_18
theorem fDa_19_21 {m : Nat} (h1 : 19 ≤ m) (h2 : m < 21) : fDat m := by
  by_cases h : m < 20
  · exact by rw [show m = 19 by omega]; exact fDat_19
  · exact by rw [show m = 20 by omega]; exact fDat_20
theorem fDa_17_21 {m : Nat} (h1 : 17 ≤ m) (h2 : m < 21) : fDat m := by
  by_cases h : m < 19
  · exact fDa_17_19 (by omega) (by omega)
  · exact fDa_19_21 (by omega) (by omega)
theorem fDa_21_23 {m : Nat} (h1 : 21 ≤ m) (h2 : m < 23) : fDat m := by
  by_cases h : m < 22
  · exact by rw [show m = 21 by omega]; exact fDat_21
  · exact by rw [show m = 22 by omega]; exact fDat_22
theorem fDa_24_26 {m : Nat} (h1 : 24 ≤ m) (h2 : m < 26) : fDat m := by
  by_cases h : m < 25
  · exact by rw [show m = 24 by omega]; exact fDat_24
  · exact by rw [show m = 25 by omega]; exact fDat_25
theorem fDa_23_26 {m : Nat} (h1 : 23 ≤ m) (h2 : m < 26) : fDat m := by
  by_cases h : m < 24
  · exact by rw [show m = 23 by omega]; exact fDat_23
  · exact fDa_24_26 (by omega) (by omega)
theorem fDa_21_26 {m : Nat} (h1 : 21 ≤ m) (h2 : m < 26) : fDat m := by
  by_cases h : m < 23
  · exact fDa_21_23 (by omega) (by omega)
  · exact fDa_23_26 (by omega) (by omega)
theorem fDa_17_26 {m : Nat} (h1 : 17 ≤ m) (h2 : m < 26) : fDat m := by
  by_cases h : m < 21
  · exact fDa_17_21 (by omega) (by omega)
  · exact fDa_21_26 (by omega) (by omega)
theorem fDa_26_28 {m : Nat} (h1 : 26 ≤ m) (h2 : m < 28) : fDat m := by
  by_cases h : m < 27
  · exact by rw [show m = 26 by omega]; exact fDat_26
  · exact by rw [show m = 27 by omega]; exact fDat_27
theorem fDa_28_30 {m : Nat} (h1 : 28 ≤ m) (h2 : m < 30) : fDat m := by
  by_cases h : m < 29
  · exact by rw [show m = 28 by omega]; exact fDat_28
  · exact by rw [show m = 29 by omega]; exact fDat_29
theorem fDa_26_30 {m : Nat} (h1 : 26 ≤ m) (h2 : m < 30) : fDat m := by
  by_cases h : m < 28
  · exact fDa_26_28 (by omega) (by omega)
  · exact fDa_28_30 (by omega) (by omega)
theorem fDa_30_32 {m : Nat} (h1 : 30 ≤ m) (h2 : m < 32) : fDat m := by
  by_cases h : m < 31
  · exact by rw [show m = 30 by omega]; exact fDat_30
  · exact by rw [show m = 31 by omega]; exact fDat_31
theorem fDa_33_35 {m : Nat} (h1 : 33 ≤ m) (h2 : m < 35) : fDat m := by
  by_cases h : m < 34
  · exact by rw [show m = 33 by omega]; exact fDat_33
  · exact by rw [show m = 34 by omega]; exact fDat_34
theorem fDa_32_35 {m : Nat} (h1 : 32 ≤ m) (h2 : m < 35) : fDat m := by
  by_cases h : m < 33
  · exact by rw [show m = 32 by omega]; exact fDat_32
  · exact fDa_33_35 (by omega) (by omega)
theorem fDa_30_35 {m : Nat} (h1 : 30 ≤ m) (h2 : m < 35) : fDat m := by
  by_cases h : m < 32
  · exact fDa_30_32 (by omega) (by omega)
  · exact fDa_32_35 (by omega) (by omega)
theorem fDa_26_35 {m : Nat} (h1 : 26 ≤ m) (h2 : m < 35) : fDat m := by
  by_cases h : m < 30
  · exact fDa_26_30 (by omega) (by omega)
  · exact fDa_30_35 (by omega) (by omega)
theorem fDa_17_35 {m : Nat} (h1 : 17 ≤ m) (h2 : m < 35) : fDat m := by
  by_cases h : m < 26
  · exact fDa_17_26 (by omega) (by omega)
  · exact fDa_26_35 (by omega) (by omega)
theorem fDa_0_35 {m : Nat} (h1 : 0 ≤ m) (h2 : m < 35) : fDat m := by
  by_cases h : m < 17
  · exact fDa_0_17 (by omega) (by omega)
  · exact fDa_17_35 (by omega) (by omega)
theorem fDa_35_37 {m : Nat} (h1 : 35 ≤ m) (h2 : m < 37) : fDat m := by
  by_cases h : m < 36
  · exact by rw [show m = 35 by omega]; exact fDat_35
  · exact by rw [show m = 36 by omega]; exact fDat_36
theorem fDa_37_39 {m : Nat} (h1 : 37 ≤ m) (h2 : m < 39) : fDat m := by
  by_cases h : m < 38
  · exact by rw [show m = 37 by omega]; exact fDat_37
  · exact by rw [show m = 38 by omega]; exact fDat_38
theorem fDa_35_39 {m : Nat} (h1 : 35 ≤ m) (h2 : m < 39) : fDat m := by
  by_cases h : m < 37
  · exact fDa_35_37 (by omega) (by omega)
  · exact fDa_37_39 (by omega) (by omega)
theorem fDa_39_41 {m : Nat} (h1 : 39 ≤ m) (h2 : m < 41) : fDat m := by
  by_cases h : m < 40
  · exact by rw [show m = 39 by omega]; exact fDat_39
  · exact by rw [show m = 40 by omega]; exact fDat_40
theorem fDa_42_44 {m : Nat} (h1 : 42 ≤ m) (h2 : m < 44) : fDat m := by
  by_cases h : m < 43
  · exact by rw [show m = 42 by omega]; exact fDat_42
  · exact by rw [show m = 43 by omega]; exact fDat_43
theorem fDa_41_44 {m : Nat} (h1 : 41 ≤ m) (h2 : m < 44) : fDat m := by
  by_cases h : m < 42
  · exact by rw [show m = 41 by omega]; exact fDat_41
  · exact fDa_42_44 (by omega) (by omega)
theorem fDa_39_44 {m : Nat} (h1 : 39 ≤ m) (h2 : m < 44) : fDat m := by
  by_cases h : m < 41
  · exact fDa_39_41 (by omega) (by omega)
  · exact fDa_41_44 (by omega) (by omega)
theorem fDa_35_44 {m : Nat} (h1 : 35 ≤ m) (h2 : m < 44) : fDat m := by
  by_cases h : m < 39
  · exact fDa_35_39 (by omega) (by omega)
  · exact fDa_39_44 (by omega) (by omega)
theorem fDa_44_46 {m : Nat} (h1 : 44 ≤ m) (h2 : m < 46) : fDat m := by
  by_cases h : m < 45
  · exact by rw [show m = 44 by omega]; exact fDat_44
  · exact by rw [show m = 45 by omega]; exact fDat_45
theorem fDa_46_48 {m : Nat} (h1 : 46 ≤ m) (h2 : m < 48) : fDat m := by
  by_cases h : m < 47
  · exact by rw [show m = 46 by omega]; exact fDat_46
  · exact by rw [show m = 47 by omega]; exact fDat_47
theorem fDa_44_48 {m : Nat} (h1 : 44 ≤ m) (h2 : m < 48) : fDat m := by
  by_cases h : m < 46
  · exact fDa_44_46 (by omega) (by omega)
  · exact fDa_46_48 (by omega) (by omega)
theorem fDa_48_50 {m : Nat} (h1 : 48 ≤ m) (h2 : m < 50) : fDat m := by
  by_cases h : m < 49
  · exact by rw [show m = 48 by omega]; exact fDat_48
  · exact by rw [show m = 49 by omega]; exact fDat_49
theorem fDa_51_53 {m : Nat} (h1 : 51 ≤ m) (h2 : m < 53) : fDat m := by
  by_cases h : m < 52
  · exact by rw [show m = 51 by omega]; exact fDat_51
  · exact by rw [show m = 52 by omega]; exact fDat_52
theorem fDa_50_53 {m : Nat} (h1 : 50 ≤ m) (h2 : m < 53) : fDat m := by
  by_cases h : m < 51
  · exact by rw [show m = 50 by omega]; exact fDat_50
  · exact fDa_51_53 (by omega) (by omega)
theorem fDa_48_53 {m : Nat} (h1 : 48 ≤ m) (h2 : m < 53) : fDat m := by
  by_cases h : m < 50
  · exact fDa_48_50 (by omega) (by omega)
  · exact fDa_50_53 (by omega) (by omega)
theorem fDa_44_53 {m : Nat} (h1 : 44 ≤ m) (h2 : m < 53) : fDat m := by
  by_cases h : m < 48
  · exact fDa_44_48 (by omega) (by omega)
  · exact fDa_48_53 (by omega) (by omega)
theorem fDa_35_53 {m : Nat} (h1 : 35 ≤ m) (h2 : m < 53) : fDat m := by
  by_cases h : m < 44
  · exact fDa_35_44 (by omega) (by omega)
  · exact fDa_44_53 (by omega) (by omega)
theorem fDa_53_55 {m : Nat} (h1 : 53 ≤ m) (h2 : m < 55) : fDat m := by
  by_cases h : m < 54
  · exact by rw [show m = 53 by omega]; exact fDat_53
  · exact by rw [show m = 54 by omega]; exact fDat_54
theorem fDa_55_57 {m : Nat} (h1 : 55 ≤ m) (h2 : m < 57) : fDat m := by
  by_cases h : m < 56
  · exact by rw [show m = 55 by omega]; exact fDat_55
  · exact by rw [show m = 56 by omega]; exact fDat_56
theorem fDa_53_57 {m : Nat} (h1 : 53 ≤ m) (h2 : m < 57) : fDat m := by
  by_cases h : m < 55
  · exact fDa_53_55 (by omega) (by omega)
  · exact fDa_55_57 (by omega) (by omega)
theorem fDa_57_59 {m : Nat} (h1 : 57 ≤ m) (h2 : m < 59) : fDat m := by
  by_cases h : m < 58
  · exact by rw [show m = 57 by omega]; exact fDat_57
  · exact by rw [show m = 58 by omega]; exact fDat_58
theorem fDa_60_62 {m : Nat} (h1 : 60 ≤ m) (h2 : m < 62) : fDat m := by
  by_cases h : m < 61
  · exact by rw [show m = 60 by omega]; exact fDat_60
  · exact by rw [show m = 61 by omega]; exact fDat_61
theorem fDa_59_62 {m : Nat} (h1 : 59 ≤ m) (h2 : m < 62) : fDat m := by
  by_cases h : m < 60
  · exact by rw [show m = 59 by omega]; exact fDat_59
  · exact fDa_60_62 (by omega) (by omega)
theorem fDa_57_62 {m : Nat} (h1 : 57 ≤ m) (h2 : m < 62) : fDat m := by
  by_cases h : m < 59
  · exact fDa_57_59 (by omega) (by omega)
  · exact fDa_59_62 (by omega) (by omega)
theorem fDa_53_62 {m : Nat} (h1 : 53 ≤ m) (h2 : m < 62) : fDat m := by
  by_cases h : m < 57
  · exact fDa_53_57 (by omega) (by omega)
  · exact fDa_57_62 (by omega) (by omega)
theorem fDa_62_64 {m : Nat} (h1 : 62 ≤ m) (h2 : m < 64) : fDat m := by
  by_cases h : m < 63
  · exact by rw [show m = 62 by omega]; exact fDat_62
  · exact by rw [show m = 63 by omega]; exact fDat_63
theorem fDa_64_66 {m : Nat} (h1 : 64 ≤ m) (h2 : m < 66) : fDat m := by
  by_cases h : m < 65
  · exact by rw [show m = 64 by omega]; exact fDat_64
  · exact by rw [show m = 65 by omega]; exact fDat_65
theorem fDa_62_66 {m : Nat} (h1 : 62 ≤ m) (h2 : m < 66) : fDat m := by
  by_cases h : m < 64
  · exact fDa_62_64 (by omega) (by omega)
  · exact fDa_64_66 (by omega) (by omega)
theorem fDa_66_68 {m : Nat} (h1 : 66 ≤ m) (h2 : m < 68) : fDat m := by
  by_cases h : m < 67
  · exact by rw [show m = 66 by omega]; exact fDat_66
  · exact by rw [show m = 67 by omega]; exact fDat_67
theorem fDa_69_71 {m : Nat} (h1 : 69 ≤ m) (h2 : m < 71) : fDat m := by
  by_cases h : m < 70
  · exact by rw [show m = 69 by omega]; exact fDat_69
  · exact by rw [show m = 70 by omega]; exact fDat_70
theorem fDa_68_71 {m : Nat} (h1 : 68 ≤ m) (h2 : m < 71) : fDat m := by
  by_cases h : m < 69
  · exact by rw [show m = 68 by omega]; exact fDat_68
  · exact fDa_69_71 (by omega) (by omega)
theorem fDa_66_71 {m : Nat} (h1 : 66 ≤ m) (h2 : m < 71) : fDat m := by
  by_cases h : m < 68
  · exact fDa_66_68 (by omega) (by omega)
  · exact fDa_68_71 (by omega) (by omega)
theorem fDa_62_71 {m : Nat} (h1 : 62 ≤ m) (h2 : m < 71) : fDat m := by
  by_cases h : m < 66
  · exact fDa_62_66 (by omega) (by omega)
  · exact fDa_66_71 (by omega) (by omega)
theorem fDa_53_71 {m : Nat} (h1 : 53 ≤ m) (h2 : m < 71) : fDat m := by
  by_cases h : m < 62
  · exact fDa_53_62 (by omega) (by omega)
  · exact fDa_62_71 (by omega) (by omega)
theorem fDa_35_71 {m : Nat} (h1 : 35 ≤ m) (h2 : m < 71) : fDat m := by
  by_cases h : m < 53
  · exact fDa_35_53 (by omega) (by omega)
  · exact fDa_53_71 (by omega) (by omega)
theorem fDa_0_71 {m : Nat} (h1 : 0 ≤ m) (h2 : m < 71) : fDat m := by
  by_cases h : m < 35
  · exact fDa_0_35 (by omega) (by omega)
  · exact fDa_35_71 (by omega) (by omega)
theorem fDa_71_73 {m : Nat} (h1 : 71 ≤ m) (h2 : m < 73) : fDat m := by
  by_cases h : m < 72
  · exact by rw [show m = 71 by omega]; exact fDat_71
  · exact by rw [show m = 72 by omega]; exact fDat_72
theorem fDa_73_75 {m : Nat} (h1 : 73 ≤ m) (h2 : m < 75) : fDat m := by
  by_cases h : m < 74
  · exact by rw [show m = 73 by omega]; exact fDat_73
  · exact by rw [show m = 74 by omega]; exact fDat_74
theorem fDa_71_75 {m : Nat} (h1 : 71 ≤ m) (h2 : m < 75) : fDat m := by
  by_cases h : m < 73
  · exact fDa_71_73 (by omega) (by omega)
  · exact fDa_73_75 (by omega) (by omega)
theorem fDa_75_77 {m : Nat} (h1 : 75 ≤ m) (h2 : m < 77) : fDat m := by
  by_cases h : m < 76
  · exact by rw [show m = 75 by omega]; exact fDat_75
  · exact by rw [show m = 76 by omega]; exact fDat_76
theorem fDa_78_80 {m : Nat} (h1 : 78 ≤ m) (h2 : m < 80) : fDat m := by
  by_cases h : m < 79
  · exact by rw [show m = 78 by omega]; exact fDat_78
  · exact by rw [show m = 79 by omega]; exact fDat_79
theorem fDa_77_80 {m : Nat} (h1 : 77 ≤ m) (h2 : m < 80) : fDat m := by
  by_cases h : m < 78
  · exact by rw [show m = 77 by omega]; exact fDat_77
  · exact fDa_78_80 (by omega) (by omega)
theorem fDa_75_80 {m : Nat} (h1 : 75 ≤ m) (h2 : m < 80) : fDat m := by
  by_cases h : m < 77
  · exact fDa_75_77 (by omega) (by omega)
  · exact fDa_77_80 (by omega) (by omega)
theorem fDa_71_80 {m : Nat} (h1 : 71 ≤ m) (h2 : m < 80) : fDat m := by
  by_cases h : m < 75
  · exact fDa_71_75 (by omega) (by omega)
  · exact fDa_75_80 (by omega) (by omega)
theorem fDa_80_82 {m : Nat} (h1 : 80 ≤ m) (h2 : m < 82) : fDat m := by
  by_cases h : m < 81
  · exact by rw [show m = 80 by omega]; exact fDat_80
  · exact by rw [show m = 81 by omega]; exact fDat_81
theorem fDa_82_84 {m : Nat} (h1 : 82 ≤ m) (h2 : m < 84) : fDat m := by
  by_cases h : m < 83
  · exact by rw [show m = 82 by omega]; exact fDat_82
  · exact by rw [show m = 83 by omega]; exact fDat_83
theorem fDa_80_84 {m : Nat} (h1 : 80 ≤ m) (h2 : m < 84) : fDat m := by
  by_cases h : m < 82
  · exact fDa_80_82 (by omega) (by omega)
  · exact fDa_82_84 (by omega) (by omega)
theorem fDa_84_86 {m : Nat} (h1 : 84 ≤ m) (h2 : m < 86) : fDat m := by
  by_cases h : m < 85
  · exact by rw [show m = 84 by omega]; exact fDat_84
  · exact by rw [show m = 85 by omega]; exact fDat_85
theorem fDa_87_89 {m : Nat} (h1 : 87 ≤ m) (h2 : m < 89) : fDat m := by
  by_cases h : m < 88
  · exact by rw [show m = 87 by omega]; exact fDat_87
  · exact by rw [show m = 88 by omega]; exact fDat_88
theorem fDa_86_89 {m : Nat} (h1 : 86 ≤ m) (h2 : m < 89) : fDat m := by
  by_cases h : m < 87
  · exact by rw [show m = 86 by omega]; exact fDat_86
  · exact fDa_87_89 (by omega) (by omega)
theorem fDa_84_89 {m : Nat} (h1 : 84 ≤ m) (h2 : m < 89) : fDat m := by
  by_cases h : m < 86
  · exact fDa_84_86 (by omega) (by omega)
  · exact fDa_86_89 (by omega) (by omega)
theorem fDa_80_89 {m : Nat} (h1 : 80 ≤ m) (h2 : m < 89) : fDat m := by
  by_cases h : m < 84
  · exact fDa_80_84 (by omega) (by omega)
  · exact fDa_84_89 (by omega) (by omega)
theorem fDa_71_89 {m : Nat} (h1 : 71 ≤ m) (h2 : m < 89) : fDat m := by
  by_cases h : m < 80
  · exact fDa_71_80 (by omega) (by omega)
  · exact fDa_80_89 (by omega) (by omega)
theorem fDa_89_91 {m : Nat} (h1 : 89 ≤ m) (h2 : m < 91) : fDat m := by
  by_cases h : m < 90
  · exact by rw [show m = 89 by omega]; exact fDat_89
  · exact by rw [show m = 90 by omega]; exact fDat_90
theorem fDa_91_93 {m : Nat} (h1 : 91 ≤ m) (h2 : m < 93) : fDat m := by
  by_cases h : m < 92
  · exact by rw [show m = 91 by omega]; exact fDat_91
  · exact by rw [show m = 92 by omega]; exact fDat_92
theorem fDa_89_93 {m : Nat} (h1 : 89 ≤ m) (h2 : m < 93) : fDat m := by
  by_cases h : m < 91
  · exact fDa_89_91 (by omega) (by omega)
  · exact fDa_91_93 (by omega) (by omega)
theorem fDa_93_95 {m : Nat} (h1 : 93 ≤ m) (h2 : m < 95) : fDat m := by
  by_cases h : m < 94
  · exact by rw [show m = 93 by omega]; exact fDat_93
  · exact by rw [show m = 94 by omega]; exact fDat_94
theorem fDa_96_98 {m : Nat} (h1 : 96 ≤ m) (h2 : m < 98) : fDat m := by
  by_cases h : m < 97
  · exact by rw [show m = 96 by omega]; exact fDat_96
  · exact by rw [show m = 97 by omega]; exact fDat_97
theorem fDa_95_98 {m : Nat} (h1 : 95 ≤ m) (h2 : m < 98) : fDat m := by
  by_cases h : m < 96
  · exact by rw [show m = 95 by omega]; exact fDat_95
  · exact fDa_96_98 (by omega) (by omega)
theorem fDa_93_98 {m : Nat} (h1 : 93 ≤ m) (h2 : m < 98) : fDat m := by
  by_cases h : m < 95
  · exact fDa_93_95 (by omega) (by omega)
  · exact fDa_95_98 (by omega) (by omega)
theorem fDa_89_98 {m : Nat} (h1 : 89 ≤ m) (h2 : m < 98) : fDat m := by
  by_cases h : m < 93
  · exact fDa_89_93 (by omega) (by omega)
  · exact fDa_93_98 (by omega) (by omega)
theorem fDa_98_100 {m : Nat} (h1 : 98 ≤ m) (h2 : m < 100) : fDat m := by
  by_cases h : m < 99
  · exact by rw [show m = 98 by omega]; exact fDat_98
  · exact by rw [show m = 99 by omega]; exact fDat_99
theorem fDa_100_102 {m : Nat} (h1 : 100 ≤ m) (h2 : m < 102) : fDat m := by
  by_cases h : m < 101
  · exact by rw [show m = 100 by omega]; exact fDat_100
  · exact by rw [show m = 101 by omega]; exact fDat_101
theorem fDa_98_102 {m : Nat} (h1 : 98 ≤ m) (h2 : m < 102) : fDat m := by
  by_cases h : m < 100
  · exact fDa_98_100 (by omega) (by omega)
  · exact fDa_100_102 (by omega) (by omega)
theorem fDa_102_104 {m : Nat} (h1 : 102 ≤ m) (h2 : m < 104) : fDat m := by
  by_cases h : m < 103
  · exact by rw [show m = 102 by omega]; exact fDat_102
  · exact by rw [show m = 103 by omega]; exact fDat_103
theorem fDa_105_107 {m : Nat} (h1 : 105 ≤ m) (h2 : m < 107) : fDat m := by
  by_cases h : m < 106
  · exact by rw [show m = 105 by omega]; exact fDat_105
  · exact by rw [show m = 106 by omega]; exact fDat_106
theorem fDa_104_107 {m : Nat} (h1 : 104 ≤ m) (h2 : m < 107) : fDat m := by
  by_cases h : m < 105
  · exact by rw [show m = 104 by omega]; exact fDat_104
  · exact fDa_105_107 (by omega) (by omega)
theorem fDa_102_107 {m : Nat} (h1 : 102 ≤ m) (h2 : m < 107) : fDat m := by
  by_cases h : m < 104
  · exact fDa_102_104 (by omega) (by omega)
  · exact fDa_104_107 (by omega) (by omega)
theorem fDa_98_107 {m : Nat} (h1 : 98 ≤ m) (h2 : m < 107) : fDat m := by
  by_cases h : m < 102
  · exact fDa_98_102 (by omega) (by omega)
  · exact fDa_102_107 (by omega) (by omega)
theorem fDa_89_107 {m : Nat} (h1 : 89 ≤ m) (h2 : m < 107) : fDat m := by
  by_cases h : m < 98
  · exact fDa_89_98 (by omega) (by omega)
  · exact fDa_98_107 (by omega) (by omega)
theorem fDa_71_107 {m : Nat} (h1 : 71 ≤ m) (h2 : m < 107) : fDat m := by
  by_cases h : m < 89
  · exact fDa_71_89 (by omega) (by omega)
  · exact fDa_89_107 (by omega) (by omega)
theorem fDa_107_109 {m : Nat} (h1 : 107 ≤ m) (h2 : m < 109) : fDat m := by
  by_cases h : m < 108
  · exact by rw [show m = 107 by omega]; exact fDat_107
  · exact by rw [show m = 108 by omega]; exact fDat_108
theorem fDa_109_111 {m : Nat} (h1 : 109 ≤ m) (h2 : m < 111) : fDat m := by
  by_cases h : m < 110
  · exact by rw [show m = 109 by omega]; exact fDat_109
  · exact by rw [show m = 110 by omega]; exact fDat_110
theorem fDa_107_111 {m : Nat} (h1 : 107 ≤ m) (h2 : m < 111) : fDat m := by
  by_cases h : m < 109
  · exact fDa_107_109 (by omega) (by omega)
  · exact fDa_109_111 (by omega) (by omega)
theorem fDa_111_113 {m : Nat} (h1 : 111 ≤ m) (h2 : m < 113) : fDat m := by
  by_cases h : m < 112
  · exact by rw [show m = 111 by omega]; exact fDat_111
  · exact by rw [show m = 112 by omega]; exact fDat_112
theorem fDa_114_116 {m : Nat} (h1 : 114 ≤ m) (h2 : m < 116) : fDat m := by
  by_cases h : m < 115
  · exact by rw [show m = 114 by omega]; exact fDat_114
  · exact by rw [show m = 115 by omega]; exact fDat_115
theorem fDa_113_116 {m : Nat} (h1 : 113 ≤ m) (h2 : m < 116) : fDat m := by
  by_cases h : m < 114
  · exact by rw [show m = 113 by omega]; exact fDat_113
  · exact fDa_114_116 (by omega) (by omega)
theorem fDa_111_116 {m : Nat} (h1 : 111 ≤ m) (h2 : m < 116) : fDat m := by
  by_cases h : m < 113
  · exact fDa_111_113 (by omega) (by omega)
  · exact fDa_113_116 (by omega) (by omega)
theorem fDa_107_116 {m : Nat} (h1 : 107 ≤ m) (h2 : m < 116) : fDat m := by
  by_cases h : m < 111
  · exact fDa_107_111 (by omega) (by omega)
  · exact fDa_111_116 (by omega) (by omega)
theorem fDa_116_118 {m : Nat} (h1 : 116 ≤ m) (h2 : m < 118) : fDat m := by
  by_cases h : m < 117
  · exact by rw [show m = 116 by omega]; exact fDat_116
  · exact by rw [show m = 117 by omega]; exact fDat_117
theorem fDa_118_120 {m : Nat} (h1 : 118 ≤ m) (h2 : m < 120) : fDat m := by
  by_cases h : m < 119
  · exact by rw [show m = 118 by omega]; exact fDat_118
  · exact by rw [show m = 119 by omega]; exact fDat_119
theorem fDa_116_120 {m : Nat} (h1 : 116 ≤ m) (h2 : m < 120) : fDat m := by
  by_cases h : m < 118
  · exact fDa_116_118 (by omega) (by omega)
  · exact fDa_118_120 (by omega) (by omega)
theorem fDa_120_122 {m : Nat} (h1 : 120 ≤ m) (h2 : m < 122) : fDat m := by
  by_cases h : m < 121
  · exact by rw [show m = 120 by omega]; exact fDat_120
  · exact by rw [show m = 121 by omega]; exact fDat_121
theorem fDa_123_125 {m : Nat} (h1 : 123 ≤ m) (h2 : m < 125) : fDat m := by
  by_cases h : m < 124
  · exact by rw [show m = 123 by omega]; exact fDat_123
  · exact by rw [show m = 124 by omega]; exact fDat_124
theorem fDa_122_125 {m : Nat} (h1 : 122 ≤ m) (h2 : m < 125) : fDat m := by
  by_cases h : m < 123
  · exact by rw [show m = 122 by omega]; exact fDat_122
  · exact fDa_123_125 (by omega) (by omega)
theorem fDa_120_125 {m : Nat} (h1 : 120 ≤ m) (h2 : m < 125) : fDat m := by
  by_cases h : m < 122
  · exact fDa_120_122 (by omega) (by omega)
  · exact fDa_122_125 (by omega) (by omega)
theorem fDa_116_125 {m : Nat} (h1 : 116 ≤ m) (h2 : m < 125) : fDat m := by
  by_cases h : m < 120
  · exact fDa_116_120 (by omega) (by omega)
  · exact fDa_120_125 (by omega) (by omega)
theorem fDa_107_125 {m : Nat} (h1 : 107 ≤ m) (h2 : m < 125) : fDat m := by
  by_cases h : m < 116
  · exact fDa_107_116 (by omega) (by omega)
  · exact fDa_116_125 (by omega) (by omega)
theorem fDa_125_127 {m : Nat} (h1 : 125 ≤ m) (h2 : m < 127) : fDat m := by
  by_cases h : m < 126
  · exact by rw [show m = 125 by omega]; exact fDat_125
  · exact by rw [show m = 126 by omega]; exact fDat_126
theorem fDa_127_129 {m : Nat} (h1 : 127 ≤ m) (h2 : m < 129) : fDat m := by
  by_cases h : m < 128
  · exact by rw [show m = 127 by omega]; exact fDat_127
  · exact by rw [show m = 128 by omega]; exact fDat_128
theorem fDa_125_129 {m : Nat} (h1 : 125 ≤ m) (h2 : m < 129) : fDat m := by
  by_cases h : m < 127
  · exact fDa_125_127 (by omega) (by omega)
  · exact fDa_127_129 (by omega) (by omega)
theorem fDa_129_131 {m : Nat} (h1 : 129 ≤ m) (h2 : m < 131) : fDat m := by
  by_cases h : m < 130
  · exact by rw [show m = 129 by omega]; exact fDat_129
  · exact by rw [show m = 130 by omega]; exact fDat_130
theorem fDa_132_134 {m : Nat} (h1 : 132 ≤ m) (h2 : m < 134) : fDat m := by
  by_cases h : m < 133
  · exact by rw [show m = 132 by omega]; exact fDat_132
  · exact by rw [show m = 133 by omega]; exact fDat_133
theorem fDa_131_134 {m : Nat} (h1 : 131 ≤ m) (h2 : m < 134) : fDat m := by
  by_cases h : m < 132
  · exact by rw [show m = 131 by omega]; exact fDat_131
  · exact fDa_132_134 (by omega) (by omega)
theorem fDa_129_134 {m : Nat} (h1 : 129 ≤ m) (h2 : m < 134) : fDat m := by
  by_cases h : m < 131
  · exact fDa_129_131 (by omega) (by omega)
  · exact fDa_131_134 (by omega) (by omega)
theorem fDa_125_134 {m : Nat} (h1 : 125 ≤ m) (h2 : m < 134) : fDat m := by
  by_cases h : m < 129
  · exact fDa_125_129 (by omega) (by omega)
  · exact fDa_129_134 (by omega) (by omega)
theorem fDa_134_136 {m : Nat} (h1 : 134 ≤ m) (h2 : m < 136) : fDat m := by
  by_cases h : m < 135
  · exact by rw [show m = 134 by omega]; exact fDat_134
  · exact by rw [show m = 135 by omega]; exact fDat_135
theorem fDa_136_138 {m : Nat} (h1 : 136 ≤ m) (h2 : m < 138) : fDat m := by
  by_cases h : m < 137
  · exact by rw [show m = 136 by omega]; exact fDat_136
  · exact by rw [show m = 137 by omega]; exact fDat_137
theorem fDa_134_138 {m : Nat} (h1 : 134 ≤ m) (h2 : m < 138) : fDat m := by
  by_cases h : m < 136
  · exact fDa_134_136 (by omega) (by omega)
  · exact fDa_136_138 (by omega) (by omega)
theorem fDa_138_140 {m : Nat} (h1 : 138 ≤ m) (h2 : m < 140) : fDat m := by
  by_cases h : m < 139
  · exact by rw [show m = 138 by omega]; exact fDat_138
  · exact by rw [show m = 139 by omega]; exact fDat_139
theorem fDa_141_143 {m : Nat} (h1 : 141 ≤ m) (h2 : m < 143) : fDat m := by
  by_cases h : m < 142
  · exact by rw [show m = 141 by omega]; exact fDat_141
  · exact by rw [show m = 142 by omega]; exact fDat_142
theorem fDa_140_143 {m : Nat} (h1 : 140 ≤ m) (h2 : m < 143) : fDat m := by
  by_cases h : m < 141
  · exact by rw [show m = 140 by omega]; exact fDat_140
  · exact fDa_141_143 (by omega) (by omega)
theorem fDa_138_143 {m : Nat} (h1 : 138 ≤ m) (h2 : m < 143) : fDat m := by
  by_cases h : m < 140
  · exact fDa_138_140 (by omega) (by omega)
  · exact fDa_140_143 (by omega) (by omega)
theorem fDa_134_143 {m : Nat} (h1 : 134 ≤ m) (h2 : m < 143) : fDat m := by
  by_cases h : m < 138
  · exact fDa_134_138 (by omega) (by omega)
  · exact fDa_138_143 (by omega) (by omega)
theorem fDa_125_143 {m : Nat} (h1 : 125 ≤ m) (h2 : m < 143) : fDat m := by
  by_cases h : m < 134
  · exact fDa_125_134 (by omega) (by omega)
  · exact fDa_134_143 (by omega) (by omega)
theorem fDa_107_143 {m : Nat} (h1 : 107 ≤ m) (h2 : m < 143) : fDat m := by
  by_cases h : m < 125
  · exact fDa_107_125 (by omega) (by omega)
  · exact fDa_125_143 (by omega) (by omega)
theorem fDa_71_143 {m : Nat} (h1 : 71 ≤ m) (h2 : m < 143) : fDat m := by
  by_cases h : m < 107
  · exact fDa_71_107 (by omega) (by omega)
  · exact fDa_107_143 (by omega) (by omega)
theorem fDa_0_143 {m : Nat} (h1 : 0 ≤ m) (h2 : m < 143) : fDat m := by
  by_cases h : m < 71
  · exact fDa_0_71 (by omega) (by omega)
  · exact fDa_71_143 (by omega) (by omega)
theorem fDa_143_145 {m : Nat} (h1 : 143 ≤ m) (h2 : m < 145) : fDat m := by
  by_cases h : m < 144
  · exact by rw [show m = 143 by omega]; exact fDat_143
  · exact by rw [show m = 144 by omega]; exact fDat_144
theorem fDa_145_147 {m : Nat} (h1 : 145 ≤ m) (h2 : m < 147) : fDat m := by
  by_cases h : m < 146
  · exact by rw [show m = 145 by omega]; exact fDat_145
  · exact by rw [show m = 146 by omega]; exact fDat_146
theorem fDa_143_147 {m : Nat} (h1 : 143 ≤ m) (h2 : m < 147) : fDat m := by
  by_cases h : m < 145
  · exact fDa_143_145 (by omega) (by omega)
  · exact fDa_145_147 (by omega) (by omega)
theorem fDa_147_149 {m : Nat} (h1 : 147 ≤ m) (h2 : m < 149) : fDat m := by
  by_cases h : m < 148
  · exact by rw [show m = 147 by omega]; exact fDat_147
  · exact by rw [show m = 148 by omega]; exact fDat_148
theorem fDa_150_152 {m : Nat} (h1 : 150 ≤ m) (h2 : m < 152) : fDat m := by
  by_cases h : m < 151
  · exact by rw [show m = 150 by omega]; exact fDat_150
  · exact by rw [show m = 151 by omega]; exact fDat_151
theorem fDa_149_152 {m : Nat} (h1 : 149 ≤ m) (h2 : m < 152) : fDat m := by
  by_cases h : m < 150
  · exact by rw [show m = 149 by omega]; exact fDat_149
  · exact fDa_150_152 (by omega) (by omega)
theorem fDa_147_152 {m : Nat} (h1 : 147 ≤ m) (h2 : m < 152) : fDat m := by
  by_cases h : m < 149
  · exact fDa_147_149 (by omega) (by omega)
  · exact fDa_149_152 (by omega) (by omega)
theorem fDa_143_152 {m : Nat} (h1 : 143 ≤ m) (h2 : m < 152) : fDat m := by
  by_cases h : m < 147
  · exact fDa_143_147 (by omega) (by omega)
  · exact fDa_147_152 (by omega) (by omega)
theorem fDa_152_154 {m : Nat} (h1 : 152 ≤ m) (h2 : m < 154) : fDat m := by
  by_cases h : m < 153
  · exact by rw [show m = 152 by omega]; exact fDat_152
  · exact by rw [show m = 153 by omega]; exact fDat_153
theorem fDa_154_156 {m : Nat} (h1 : 154 ≤ m) (h2 : m < 156) : fDat m := by
  by_cases h : m < 155
  · exact by rw [show m = 154 by omega]; exact fDat_154
  · exact by rw [show m = 155 by omega]; exact fDat_155
theorem fDa_152_156 {m : Nat} (h1 : 152 ≤ m) (h2 : m < 156) : fDat m := by
  by_cases h : m < 154
  · exact fDa_152_154 (by omega) (by omega)
  · exact fDa_154_156 (by omega) (by omega)
theorem fDa_156_158 {m : Nat} (h1 : 156 ≤ m) (h2 : m < 158) : fDat m := by
  by_cases h : m < 157
  · exact by rw [show m = 156 by omega]; exact fDat_156
  · exact by rw [show m = 157 by omega]; exact fDat_157
theorem fDa_159_161 {m : Nat} (h1 : 159 ≤ m) (h2 : m < 161) : fDat m := by
  by_cases h : m < 160
  · exact by rw [show m = 159 by omega]; exact fDat_159
  · exact by rw [show m = 160 by omega]; exact fDat_160
theorem fDa_158_161 {m : Nat} (h1 : 158 ≤ m) (h2 : m < 161) : fDat m := by
  by_cases h : m < 159
  · exact by rw [show m = 158 by omega]; exact fDat_158
  · exact fDa_159_161 (by omega) (by omega)
theorem fDa_156_161 {m : Nat} (h1 : 156 ≤ m) (h2 : m < 161) : fDat m := by
  by_cases h : m < 158
  · exact fDa_156_158 (by omega) (by omega)
  · exact fDa_158_161 (by omega) (by omega)
theorem fDa_152_161 {m : Nat} (h1 : 152 ≤ m) (h2 : m < 161) : fDat m := by
  by_cases h : m < 156
  · exact fDa_152_156 (by omega) (by omega)
  · exact fDa_156_161 (by omega) (by omega)
theorem fDa_143_161 {m : Nat} (h1 : 143 ≤ m) (h2 : m < 161) : fDat m := by
  by_cases h : m < 152
  · exact fDa_143_152 (by omega) (by omega)
  · exact fDa_152_161 (by omega) (by omega)
theorem fDa_161_163 {m : Nat} (h1 : 161 ≤ m) (h2 : m < 163) : fDat m := by
  by_cases h : m < 162
  · exact by rw [show m = 161 by omega]; exact fDat_161
  · exact by rw [show m = 162 by omega]; exact fDat_162
theorem fDa_163_165 {m : Nat} (h1 : 163 ≤ m) (h2 : m < 165) : fDat m := by
  by_cases h : m < 164
  · exact by rw [show m = 163 by omega]; exact fDat_163
  · exact by rw [show m = 164 by omega]; exact fDat_164
theorem fDa_161_165 {m : Nat} (h1 : 161 ≤ m) (h2 : m < 165) : fDat m := by
  by_cases h : m < 163
  · exact fDa_161_163 (by omega) (by omega)
  · exact fDa_163_165 (by omega) (by omega)
theorem fDa_165_167 {m : Nat} (h1 : 165 ≤ m) (h2 : m < 167) : fDat m := by
  by_cases h : m < 166
  · exact by rw [show m = 165 by omega]; exact fDat_165
  · exact by rw [show m = 166 by omega]; exact fDat_166
theorem fDa_168_170 {m : Nat} (h1 : 168 ≤ m) (h2 : m < 170) : fDat m := by
  by_cases h : m < 169
  · exact by rw [show m = 168 by omega]; exact fDat_168
  · exact by rw [show m = 169 by omega]; exact fDat_169
theorem fDa_167_170 {m : Nat} (h1 : 167 ≤ m) (h2 : m < 170) : fDat m := by
  by_cases h : m < 168
  · exact by rw [show m = 167 by omega]; exact fDat_167
  · exact fDa_168_170 (by omega) (by omega)
theorem fDa_165_170 {m : Nat} (h1 : 165 ≤ m) (h2 : m < 170) : fDat m := by
  by_cases h : m < 167
  · exact fDa_165_167 (by omega) (by omega)
  · exact fDa_167_170 (by omega) (by omega)
theorem fDa_161_170 {m : Nat} (h1 : 161 ≤ m) (h2 : m < 170) : fDat m := by
  by_cases h : m < 165
  · exact fDa_161_165 (by omega) (by omega)
  · exact fDa_165_170 (by omega) (by omega)
theorem fDa_170_172 {m : Nat} (h1 : 170 ≤ m) (h2 : m < 172) : fDat m := by
  by_cases h : m < 171
  · exact by rw [show m = 170 by omega]; exact fDat_170
  · exact by rw [show m = 171 by omega]; exact fDat_171
theorem fDa_172_174 {m : Nat} (h1 : 172 ≤ m) (h2 : m < 174) : fDat m := by
  by_cases h : m < 173
  · exact by rw [show m = 172 by omega]; exact fDat_172
  · exact by rw [show m = 173 by omega]; exact fDat_173
theorem fDa_170_174 {m : Nat} (h1 : 170 ≤ m) (h2 : m < 174) : fDat m := by
  by_cases h : m < 172
  · exact fDa_170_172 (by omega) (by omega)
  · exact fDa_172_174 (by omega) (by omega)
theorem fDa_174_176 {m : Nat} (h1 : 174 ≤ m) (h2 : m < 176) : fDat m := by
  by_cases h : m < 175
  · exact by rw [show m = 174 by omega]; exact fDat_174
  · exact by rw [show m = 175 by omega]; exact fDat_175
theorem fDa_177_179 {m : Nat} (h1 : 177 ≤ m) (h2 : m < 179) : fDat m := by
  by_cases h : m < 178
  · exact by rw [show m = 177 by omega]; exact fDat_177
  · exact by rw [show m = 178 by omega]; exact fDat_178
theorem fDa_176_179 {m : Nat} (h1 : 176 ≤ m) (h2 : m < 179) : fDat m := by
  by_cases h : m < 177
  · exact by rw [show m = 176 by omega]; exact fDat_176
  · exact fDa_177_179 (by omega) (by omega)
theorem fDa_174_179 {m : Nat} (h1 : 174 ≤ m) (h2 : m < 179) : fDat m := by
  by_cases h : m < 176
  · exact fDa_174_176 (by omega) (by omega)
  · exact fDa_176_179 (by omega) (by omega)
theorem fDa_170_179 {m : Nat} (h1 : 170 ≤ m) (h2 : m < 179) : fDat m := by
  by_cases h : m < 174
  · exact fDa_170_174 (by omega) (by omega)
  · exact fDa_174_179 (by omega) (by omega)
theorem fDa_161_179 {m : Nat} (h1 : 161 ≤ m) (h2 : m < 179) : fDat m := by
  by_cases h : m < 170
  · exact fDa_161_170 (by omega) (by omega)
  · exact fDa_170_179 (by omega) (by omega)
theorem fDa_143_179 {m : Nat} (h1 : 143 ≤ m) (h2 : m < 179) : fDat m := by
  by_cases h : m < 161
  · exact fDa_143_161 (by omega) (by omega)
  · exact fDa_161_179 (by omega) (by omega)
theorem fDa_179_181 {m : Nat} (h1 : 179 ≤ m) (h2 : m < 181) : fDat m := by
  by_cases h : m < 180
  · exact by rw [show m = 179 by omega]; exact fDat_179
  · exact by rw [show m = 180 by omega]; exact fDat_180
theorem fDa_181_183 {m : Nat} (h1 : 181 ≤ m) (h2 : m < 183) : fDat m := by
  by_cases h : m < 182
  · exact by rw [show m = 181 by omega]; exact fDat_181
  · exact by rw [show m = 182 by omega]; exact fDat_182
theorem fDa_179_183 {m : Nat} (h1 : 179 ≤ m) (h2 : m < 183) : fDat m := by
  by_cases h : m < 181
  · exact fDa_179_181 (by omega) (by omega)
  · exact fDa_181_183 (by omega) (by omega)
theorem fDa_183_185 {m : Nat} (h1 : 183 ≤ m) (h2 : m < 185) : fDat m := by
  by_cases h : m < 184
  · exact by rw [show m = 183 by omega]; exact fDat_183
  · exact by rw [show m = 184 by omega]; exact fDat_184
theorem fDa_186_188 {m : Nat} (h1 : 186 ≤ m) (h2 : m < 188) : fDat m := by
  by_cases h : m < 187
  · exact by rw [show m = 186 by omega]; exact fDat_186
  · exact by rw [show m = 187 by omega]; exact fDat_187
theorem fDa_185_188 {m : Nat} (h1 : 185 ≤ m) (h2 : m < 188) : fDat m := by
  by_cases h : m < 186
  · exact by rw [show m = 185 by omega]; exact fDat_185
  · exact fDa_186_188 (by omega) (by omega)
theorem fDa_183_188 {m : Nat} (h1 : 183 ≤ m) (h2 : m < 188) : fDat m := by
  by_cases h : m < 185
  · exact fDa_183_185 (by omega) (by omega)
  · exact fDa_185_188 (by omega) (by omega)
theorem fDa_179_188 {m : Nat} (h1 : 179 ≤ m) (h2 : m < 188) : fDat m := by
  by_cases h : m < 183
  · exact fDa_179_183 (by omega) (by omega)
  · exact fDa_183_188 (by omega) (by omega)
theorem fDa_188_190 {m : Nat} (h1 : 188 ≤ m) (h2 : m < 190) : fDat m := by
  by_cases h : m < 189
  · exact by rw [show m = 188 by omega]; exact fDat_188
  · exact by rw [show m = 189 by omega]; exact fDat_189
theorem fDa_190_192 {m : Nat} (h1 : 190 ≤ m) (h2 : m < 192) : fDat m := by
  by_cases h : m < 191
  · exact by rw [show m = 190 by omega]; exact fDat_190
  · exact by rw [show m = 191 by omega]; exact fDat_191
theorem fDa_188_192 {m : Nat} (h1 : 188 ≤ m) (h2 : m < 192) : fDat m := by
  by_cases h : m < 190
  · exact fDa_188_190 (by omega) (by omega)
  · exact fDa_190_192 (by omega) (by omega)
theorem fDa_192_194 {m : Nat} (h1 : 192 ≤ m) (h2 : m < 194) : fDat m := by
  by_cases h : m < 193
  · exact by rw [show m = 192 by omega]; exact fDat_192
  · exact by rw [show m = 193 by omega]; exact fDat_193
theorem fDa_195_197 {m : Nat} (h1 : 195 ≤ m) (h2 : m < 197) : fDat m := by
  by_cases h : m < 196
  · exact by rw [show m = 195 by omega]; exact fDat_195
  · exact by rw [show m = 196 by omega]; exact fDat_196
theorem fDa_194_197 {m : Nat} (h1 : 194 ≤ m) (h2 : m < 197) : fDat m := by
  by_cases h : m < 195
  · exact by rw [show m = 194 by omega]; exact fDat_194
  · exact fDa_195_197 (by omega) (by omega)
theorem fDa_192_197 {m : Nat} (h1 : 192 ≤ m) (h2 : m < 197) : fDat m := by
  by_cases h : m < 194
  · exact fDa_192_194 (by omega) (by omega)
  · exact fDa_194_197 (by omega) (by omega)
theorem fDa_188_197 {m : Nat} (h1 : 188 ≤ m) (h2 : m < 197) : fDat m := by
  by_cases h : m < 192
  · exact fDa_188_192 (by omega) (by omega)
  · exact fDa_192_197 (by omega) (by omega)
theorem fDa_179_197 {m : Nat} (h1 : 179 ≤ m) (h2 : m < 197) : fDat m := by
  by_cases h : m < 188
  · exact fDa_179_188 (by omega) (by omega)
  · exact fDa_188_197 (by omega) (by omega)
theorem fDa_197_199 {m : Nat} (h1 : 197 ≤ m) (h2 : m < 199) : fDat m := by
  by_cases h : m < 198
  · exact by rw [show m = 197 by omega]; exact fDat_197
  · exact by rw [show m = 198 by omega]; exact fDat_198
theorem fDa_199_201 {m : Nat} (h1 : 199 ≤ m) (h2 : m < 201) : fDat m := by
  by_cases h : m < 200
  · exact by rw [show m = 199 by omega]; exact fDat_199
  · exact by rw [show m = 200 by omega]; exact fDat_200
theorem fDa_197_201 {m : Nat} (h1 : 197 ≤ m) (h2 : m < 201) : fDat m := by
  by_cases h : m < 199
  · exact fDa_197_199 (by omega) (by omega)
  · exact fDa_199_201 (by omega) (by omega)
theorem fDa_201_203 {m : Nat} (h1 : 201 ≤ m) (h2 : m < 203) : fDat m := by
  by_cases h : m < 202
  · exact by rw [show m = 201 by omega]; exact fDat_201
  · exact by rw [show m = 202 by omega]; exact fDat_202
theorem fDa_204_206 {m : Nat} (h1 : 204 ≤ m) (h2 : m < 206) : fDat m := by
  by_cases h : m < 205
  · exact by rw [show m = 204 by omega]; exact fDat_204
  · exact by rw [show m = 205 by omega]; exact fDat_205
theorem fDa_203_206 {m : Nat} (h1 : 203 ≤ m) (h2 : m < 206) : fDat m := by
  by_cases h : m < 204
  · exact by rw [show m = 203 by omega]; exact fDat_203
  · exact fDa_204_206 (by omega) (by omega)
theorem fDa_201_206 {m : Nat} (h1 : 201 ≤ m) (h2 : m < 206) : fDat m := by
  by_cases h : m < 203
  · exact fDa_201_203 (by omega) (by omega)
  · exact fDa_203_206 (by omega) (by omega)
theorem fDa_197_206 {m : Nat} (h1 : 197 ≤ m) (h2 : m < 206) : fDat m := by
  by_cases h : m < 201
  · exact fDa_197_201 (by omega) (by omega)
  · exact fDa_201_206 (by omega) (by omega)
theorem fDa_206_208 {m : Nat} (h1 : 206 ≤ m) (h2 : m < 208) : fDat m := by
  by_cases h : m < 207
  · exact by rw [show m = 206 by omega]; exact fDat_206
  · exact by rw [show m = 207 by omega]; exact fDat_207
theorem fDa_208_210 {m : Nat} (h1 : 208 ≤ m) (h2 : m < 210) : fDat m := by
  by_cases h : m < 209
  · exact by rw [show m = 208 by omega]; exact fDat_208
  · exact by rw [show m = 209 by omega]; exact fDat_209
theorem fDa_206_210 {m : Nat} (h1 : 206 ≤ m) (h2 : m < 210) : fDat m := by
  by_cases h : m < 208
  · exact fDa_206_208 (by omega) (by omega)
  · exact fDa_208_210 (by omega) (by omega)
theorem fDa_210_212 {m : Nat} (h1 : 210 ≤ m) (h2 : m < 212) : fDat m := by
  by_cases h : m < 211
  · exact by rw [show m = 210 by omega]; exact fDat_210
  · exact by rw [show m = 211 by omega]; exact fDat_211
theorem fDa_213_215 {m : Nat} (h1 : 213 ≤ m) (h2 : m < 215) : fDat m := by
  by_cases h : m < 214
  · exact by rw [show m = 213 by omega]; exact fDat_213
  · exact by rw [show m = 214 by omega]; exact fDat_214
theorem fDa_212_215 {m : Nat} (h1 : 212 ≤ m) (h2 : m < 215) : fDat m := by
  by_cases h : m < 213
  · exact by rw [show m = 212 by omega]; exact fDat_212
  · exact fDa_213_215 (by omega) (by omega)
theorem fDa_210_215 {m : Nat} (h1 : 210 ≤ m) (h2 : m < 215) : fDat m := by
  by_cases h : m < 212
  · exact fDa_210_212 (by omega) (by omega)
  · exact fDa_212_215 (by omega) (by omega)
theorem fDa_206_215 {m : Nat} (h1 : 206 ≤ m) (h2 : m < 215) : fDat m := by
  by_cases h : m < 210
  · exact fDa_206_210 (by omega) (by omega)
  · exact fDa_210_215 (by omega) (by omega)
theorem fDa_197_215 {m : Nat} (h1 : 197 ≤ m) (h2 : m < 215) : fDat m := by
  by_cases h : m < 206
  · exact fDa_197_206 (by omega) (by omega)
  · exact fDa_206_215 (by omega) (by omega)
theorem fDa_179_215 {m : Nat} (h1 : 179 ≤ m) (h2 : m < 215) : fDat m := by
  by_cases h : m < 197
  · exact fDa_179_197 (by omega) (by omega)
  · exact fDa_197_215 (by omega) (by omega)
theorem fDa_143_215 {m : Nat} (h1 : 143 ≤ m) (h2 : m < 215) : fDat m := by
  by_cases h : m < 179
  · exact fDa_143_179 (by omega) (by omega)
  · exact fDa_179_215 (by omega) (by omega)
theorem fDa_215_217 {m : Nat} (h1 : 215 ≤ m) (h2 : m < 217) : fDat m := by
  by_cases h : m < 216
  · exact by rw [show m = 215 by omega]; exact fDat_215
  · exact by rw [show m = 216 by omega]; exact fDat_216
theorem fDa_217_219 {m : Nat} (h1 : 217 ≤ m) (h2 : m < 219) : fDat m := by
  by_cases h : m < 218
  · exact by rw [show m = 217 by omega]; exact fDat_217
  · exact by rw [show m = 218 by omega]; exact fDat_218
theorem fDa_215_219 {m : Nat} (h1 : 215 ≤ m) (h2 : m < 219) : fDat m := by
  by_cases h : m < 217
  · exact fDa_215_217 (by omega) (by omega)
  · exact fDa_217_219 (by omega) (by omega)
theorem fDa_219_221 {m : Nat} (h1 : 219 ≤ m) (h2 : m < 221) : fDat m := by
  by_cases h : m < 220
  · exact by rw [show m = 219 by omega]; exact fDat_219
  · exact by rw [show m = 220 by omega]; exact fDat_220
theorem fDa_222_224 {m : Nat} (h1 : 222 ≤ m) (h2 : m < 224) : fDat m := by
  by_cases h : m < 223
  · exact by rw [show m = 222 by omega]; exact fDat_222
  · exact by rw [show m = 223 by omega]; exact fDat_223
theorem fDa_221_224 {m : Nat} (h1 : 221 ≤ m) (h2 : m < 224) : fDat m := by
  by_cases h : m < 222
  · exact by rw [show m = 221 by omega]; exact fDat_221
  · exact fDa_222_224 (by omega) (by omega)
theorem fDa_219_224 {m : Nat} (h1 : 219 ≤ m) (h2 : m < 224) : fDat m := by
  by_cases h : m < 221
  · exact fDa_219_221 (by omega) (by omega)
  · exact fDa_221_224 (by omega) (by omega)
theorem fDa_215_224 {m : Nat} (h1 : 215 ≤ m) (h2 : m < 224) : fDat m := by
  by_cases h : m < 219
  · exact fDa_215_219 (by omega) (by omega)
  · exact fDa_219_224 (by omega) (by omega)
theorem fDa_224_226 {m : Nat} (h1 : 224 ≤ m) (h2 : m < 226) : fDat m := by
  by_cases h : m < 225
  · exact by rw [show m = 224 by omega]; exact fDat_224
  · exact by rw [show m = 225 by omega]; exact fDat_225
theorem fDa_226_228 {m : Nat} (h1 : 226 ≤ m) (h2 : m < 228) : fDat m := by
  by_cases h : m < 227
  · exact by rw [show m = 226 by omega]; exact fDat_226
  · exact by rw [show m = 227 by omega]; exact fDat_227
theorem fDa_224_228 {m : Nat} (h1 : 224 ≤ m) (h2 : m < 228) : fDat m := by
  by_cases h : m < 226
  · exact fDa_224_226 (by omega) (by omega)
  · exact fDa_226_228 (by omega) (by omega)
theorem fDa_228_230 {m : Nat} (h1 : 228 ≤ m) (h2 : m < 230) : fDat m := by
  by_cases h : m < 229
  · exact by rw [show m = 228 by omega]; exact fDat_228
  · exact by rw [show m = 229 by omega]; exact fDat_229
theorem fDa_231_233 {m : Nat} (h1 : 231 ≤ m) (h2 : m < 233) : fDat m := by
  by_cases h : m < 232
  · exact by rw [show m = 231 by omega]; exact fDat_231
  · exact by rw [show m = 232 by omega]; exact fDat_232
theorem fDa_230_233 {m : Nat} (h1 : 230 ≤ m) (h2 : m < 233) : fDat m := by
  by_cases h : m < 231
  · exact by rw [show m = 230 by omega]; exact fDat_230
  · exact fDa_231_233 (by omega) (by omega)
theorem fDa_228_233 {m : Nat} (h1 : 228 ≤ m) (h2 : m < 233) : fDat m := by
  by_cases h : m < 230
  · exact fDa_228_230 (by omega) (by omega)
  · exact fDa_230_233 (by omega) (by omega)
theorem fDa_224_233 {m : Nat} (h1 : 224 ≤ m) (h2 : m < 233) : fDat m := by
  by_cases h : m < 228
  · exact fDa_224_228 (by omega) (by omega)
  · exact fDa_228_233 (by omega) (by omega)
theorem fDa_215_233 {m : Nat} (h1 : 215 ≤ m) (h2 : m < 233) : fDat m := by
  by_cases h : m < 224
  · exact fDa_215_224 (by omega) (by omega)
  · exact fDa_224_233 (by omega) (by omega)
theorem fDa_233_235 {m : Nat} (h1 : 233 ≤ m) (h2 : m < 235) : fDat m := by
  by_cases h : m < 234
  · exact by rw [show m = 233 by omega]; exact fDat_233
  · exact by rw [show m = 234 by omega]; exact fDat_234
theorem fDa_235_237 {m : Nat} (h1 : 235 ≤ m) (h2 : m < 237) : fDat m := by
  by_cases h : m < 236
  · exact by rw [show m = 235 by omega]; exact fDat_235
  · exact by rw [show m = 236 by omega]; exact fDat_236
theorem fDa_233_237 {m : Nat} (h1 : 233 ≤ m) (h2 : m < 237) : fDat m := by
  by_cases h : m < 235
  · exact fDa_233_235 (by omega) (by omega)
  · exact fDa_235_237 (by omega) (by omega)
theorem fDa_237_239 {m : Nat} (h1 : 237 ≤ m) (h2 : m < 239) : fDat m := by
  by_cases h : m < 238
  · exact by rw [show m = 237 by omega]; exact fDat_237
  · exact by rw [show m = 238 by omega]; exact fDat_238
theorem fDa_240_242 {m : Nat} (h1 : 240 ≤ m) (h2 : m < 242) : fDat m := by
  by_cases h : m < 241
  · exact by rw [show m = 240 by omega]; exact fDat_240
  · exact by rw [show m = 241 by omega]; exact fDat_241
theorem fDa_239_242 {m : Nat} (h1 : 239 ≤ m) (h2 : m < 242) : fDat m := by
  by_cases h : m < 240
  · exact by rw [show m = 239 by omega]; exact fDat_239
  · exact fDa_240_242 (by omega) (by omega)
theorem fDa_237_242 {m : Nat} (h1 : 237 ≤ m) (h2 : m < 242) : fDat m := by
  by_cases h : m < 239
  · exact fDa_237_239 (by omega) (by omega)
  · exact fDa_239_242 (by omega) (by omega)
theorem fDa_233_242 {m : Nat} (h1 : 233 ≤ m) (h2 : m < 242) : fDat m := by
  by_cases h : m < 237
  · exact fDa_233_237 (by omega) (by omega)
  · exact fDa_237_242 (by omega) (by omega)
theorem fDa_242_244 {m : Nat} (h1 : 242 ≤ m) (h2 : m < 244) : fDat m := by
  by_cases h : m < 243
  · exact by rw [show m = 242 by omega]; exact fDat_242
  · exact by rw [show m = 243 by omega]; exact fDat_243
theorem fDa_244_246 {m : Nat} (h1 : 244 ≤ m) (h2 : m < 246) : fDat m := by
  by_cases h : m < 245
  · exact by rw [show m = 244 by omega]; exact fDat_244
  · exact by rw [show m = 245 by omega]; exact fDat_245
theorem fDa_242_246 {m : Nat} (h1 : 242 ≤ m) (h2 : m < 246) : fDat m := by
  by_cases h : m < 244
  · exact fDa_242_244 (by omega) (by omega)
  · exact fDa_244_246 (by omega) (by omega)
theorem fDa_246_248 {m : Nat} (h1 : 246 ≤ m) (h2 : m < 248) : fDat m := by
  by_cases h : m < 247
  · exact by rw [show m = 246 by omega]; exact fDat_246
  · exact by rw [show m = 247 by omega]; exact fDat_247
theorem fDa_249_251 {m : Nat} (h1 : 249 ≤ m) (h2 : m < 251) : fDat m := by
  by_cases h : m < 250
  · exact by rw [show m = 249 by omega]; exact fDat_249
  · exact by rw [show m = 250 by omega]; exact fDat_250
theorem fDa_248_251 {m : Nat} (h1 : 248 ≤ m) (h2 : m < 251) : fDat m := by
  by_cases h : m < 249
  · exact by rw [show m = 248 by omega]; exact fDat_248
  · exact fDa_249_251 (by omega) (by omega)
theorem fDa_246_251 {m : Nat} (h1 : 246 ≤ m) (h2 : m < 251) : fDat m := by
  by_cases h : m < 248
  · exact fDa_246_248 (by omega) (by omega)
  · exact fDa_248_251 (by omega) (by omega)
theorem fDa_242_251 {m : Nat} (h1 : 242 ≤ m) (h2 : m < 251) : fDat m := by
  by_cases h : m < 246
  · exact fDa_242_246 (by omega) (by omega)
  · exact fDa_246_251 (by omega) (by omega)
theorem fDa_233_251 {m : Nat} (h1 : 233 ≤ m) (h2 : m < 251) : fDat m := by
  by_cases h : m < 242
  · exact fDa_233_242 (by omega) (by omega)
  · exact fDa_242_251 (by omega) (by omega)
theorem fDa_215_251 {m : Nat} (h1 : 215 ≤ m) (h2 : m < 251) : fDat m := by
  by_cases h : m < 233
  · exact fDa_215_233 (by omega) (by omega)
  · exact fDa_233_251 (by omega) (by omega)
theorem fDa_251_253 {m : Nat} (h1 : 251 ≤ m) (h2 : m < 253) : fDat m := by
  by_cases h : m < 252
  · exact by rw [show m = 251 by omega]; exact fDat_251
  · exact by rw [show m = 252 by omega]; exact fDat_252
theorem fDa_253_255 {m : Nat} (h1 : 253 ≤ m) (h2 : m < 255) : fDat m := by
  by_cases h : m < 254
  · exact by rw [show m = 253 by omega]; exact fDat_253
  · exact by rw [show m = 254 by omega]; exact fDat_254
theorem fDa_251_255 {m : Nat} (h1 : 251 ≤ m) (h2 : m < 255) : fDat m := by
  by_cases h : m < 253
  · exact fDa_251_253 (by omega) (by omega)
  · exact fDa_253_255 (by omega) (by omega)
theorem fDa_255_257 {m : Nat} (h1 : 255 ≤ m) (h2 : m < 257) : fDat m := by
  by_cases h : m < 256
  · exact by rw [show m = 255 by omega]; exact fDat_255
  · exact by rw [show m = 256 by omega]; exact fDat_256
theorem fDa_258_260 {m : Nat} (h1 : 258 ≤ m) (h2 : m < 260) : fDat m := by
  by_cases h : m < 259
  · exact by rw [show m = 258 by omega]; exact fDat_258
  · exact by rw [show m = 259 by omega]; exact fDat_259
theorem fDa_257_260 {m : Nat} (h1 : 257 ≤ m) (h2 : m < 260) : fDat m := by
  by_cases h : m < 258
  · exact by rw [show m = 257 by omega]; exact fDat_257
  · exact fDa_258_260 (by omega) (by omega)
theorem fDa_255_260 {m : Nat} (h1 : 255 ≤ m) (h2 : m < 260) : fDat m := by
  by_cases h : m < 257
  · exact fDa_255_257 (by omega) (by omega)
  · exact fDa_257_260 (by omega) (by omega)
theorem fDa_251_260 {m : Nat} (h1 : 251 ≤ m) (h2 : m < 260) : fDat m := by
  by_cases h : m < 255
  · exact fDa_251_255 (by omega) (by omega)
  · exact fDa_255_260 (by omega) (by omega)
theorem fDa_260_262 {m : Nat} (h1 : 260 ≤ m) (h2 : m < 262) : fDat m := by
  by_cases h : m < 261
  · exact by rw [show m = 260 by omega]; exact fDat_260
  · exact by rw [show m = 261 by omega]; exact fDat_261
theorem fDa_262_264 {m : Nat} (h1 : 262 ≤ m) (h2 : m < 264) : fDat m := by
  by_cases h : m < 263
  · exact by rw [show m = 262 by omega]; exact fDat_262
  · exact by rw [show m = 263 by omega]; exact fDat_263
theorem fDa_260_264 {m : Nat} (h1 : 260 ≤ m) (h2 : m < 264) : fDat m := by
  by_cases h : m < 262
  · exact fDa_260_262 (by omega) (by omega)
  · exact fDa_262_264 (by omega) (by omega)
theorem fDa_264_266 {m : Nat} (h1 : 264 ≤ m) (h2 : m < 266) : fDat m := by
  by_cases h : m < 265
  · exact by rw [show m = 264 by omega]; exact fDat_264
  · exact by rw [show m = 265 by omega]; exact fDat_265
theorem fDa_267_269 {m : Nat} (h1 : 267 ≤ m) (h2 : m < 269) : fDat m := by
  by_cases h : m < 268
  · exact by rw [show m = 267 by omega]; exact fDat_267
  · exact by rw [show m = 268 by omega]; exact fDat_268
theorem fDa_266_269 {m : Nat} (h1 : 266 ≤ m) (h2 : m < 269) : fDat m := by
  by_cases h : m < 267
  · exact by rw [show m = 266 by omega]; exact fDat_266
  · exact fDa_267_269 (by omega) (by omega)
theorem fDa_264_269 {m : Nat} (h1 : 264 ≤ m) (h2 : m < 269) : fDat m := by
  by_cases h : m < 266
  · exact fDa_264_266 (by omega) (by omega)
  · exact fDa_266_269 (by omega) (by omega)
theorem fDa_260_269 {m : Nat} (h1 : 260 ≤ m) (h2 : m < 269) : fDat m := by
  by_cases h : m < 264
  · exact fDa_260_264 (by omega) (by omega)
  · exact fDa_264_269 (by omega) (by omega)
theorem fDa_251_269 {m : Nat} (h1 : 251 ≤ m) (h2 : m < 269) : fDat m := by
  by_cases h : m < 260
  · exact fDa_251_260 (by omega) (by omega)
  · exact fDa_260_269 (by omega) (by omega)
theorem fDa_269_271 {m : Nat} (h1 : 269 ≤ m) (h2 : m < 271) : fDat m := by
  by_cases h : m < 270
  · exact by rw [show m = 269 by omega]; exact fDat_269
  · exact by rw [show m = 270 by omega]; exact fDat_270
theorem fDa_271_273 {m : Nat} (h1 : 271 ≤ m) (h2 : m < 273) : fDat m := by
  by_cases h : m < 272
  · exact by rw [show m = 271 by omega]; exact fDat_271
  · exact by rw [show m = 272 by omega]; exact fDat_272
theorem fDa_269_273 {m : Nat} (h1 : 269 ≤ m) (h2 : m < 273) : fDat m := by
  by_cases h : m < 271
  · exact fDa_269_271 (by omega) (by omega)
  · exact fDa_271_273 (by omega) (by omega)
theorem fDa_273_275 {m : Nat} (h1 : 273 ≤ m) (h2 : m < 275) : fDat m := by
  by_cases h : m < 274
  · exact by rw [show m = 273 by omega]; exact fDat_273
  · exact by rw [show m = 274 by omega]; exact fDat_274
theorem fDa_276_278 {m : Nat} (h1 : 276 ≤ m) (h2 : m < 278) : fDat m := by
  by_cases h : m < 277
  · exact by rw [show m = 276 by omega]; exact fDat_276
  · exact by rw [show m = 277 by omega]; exact fDat_277
theorem fDa_275_278 {m : Nat} (h1 : 275 ≤ m) (h2 : m < 278) : fDat m := by
  by_cases h : m < 276
  · exact by rw [show m = 275 by omega]; exact fDat_275
  · exact fDa_276_278 (by omega) (by omega)
theorem fDa_273_278 {m : Nat} (h1 : 273 ≤ m) (h2 : m < 278) : fDat m := by
  by_cases h : m < 275
  · exact fDa_273_275 (by omega) (by omega)
  · exact fDa_275_278 (by omega) (by omega)
theorem fDa_269_278 {m : Nat} (h1 : 269 ≤ m) (h2 : m < 278) : fDat m := by
  by_cases h : m < 273
  · exact fDa_269_273 (by omega) (by omega)
  · exact fDa_273_278 (by omega) (by omega)
theorem fDa_278_280 {m : Nat} (h1 : 278 ≤ m) (h2 : m < 280) : fDat m := by
  by_cases h : m < 279
  · exact by rw [show m = 278 by omega]; exact fDat_278
  · exact by rw [show m = 279 by omega]; exact fDat_279
theorem fDa_280_282 {m : Nat} (h1 : 280 ≤ m) (h2 : m < 282) : fDat m := by
  by_cases h : m < 281
  · exact by rw [show m = 280 by omega]; exact fDat_280
  · exact by rw [show m = 281 by omega]; exact fDat_281
theorem fDa_278_282 {m : Nat} (h1 : 278 ≤ m) (h2 : m < 282) : fDat m := by
  by_cases h : m < 280
  · exact fDa_278_280 (by omega) (by omega)
  · exact fDa_280_282 (by omega) (by omega)
theorem fDa_282_284 {m : Nat} (h1 : 282 ≤ m) (h2 : m < 284) : fDat m := by
  by_cases h : m < 283
  · exact by rw [show m = 282 by omega]; exact fDat_282
  · exact by rw [show m = 283 by omega]; exact fDat_283
theorem fDa_285_287 {m : Nat} (h1 : 285 ≤ m) (h2 : m < 287) : fDat m := by
  by_cases h : m < 286
  · exact by rw [show m = 285 by omega]; exact fDat_285
  · exact by rw [show m = 286 by omega]; exact fDat_286
theorem fDa_284_287 {m : Nat} (h1 : 284 ≤ m) (h2 : m < 287) : fDat m := by
  by_cases h : m < 285
  · exact by rw [show m = 284 by omega]; exact fDat_284
  · exact fDa_285_287 (by omega) (by omega)
theorem fDa_282_287 {m : Nat} (h1 : 282 ≤ m) (h2 : m < 287) : fDat m := by
  by_cases h : m < 284
  · exact fDa_282_284 (by omega) (by omega)
  · exact fDa_284_287 (by omega) (by omega)
theorem fDa_278_287 {m : Nat} (h1 : 278 ≤ m) (h2 : m < 287) : fDat m := by
  by_cases h : m < 282
  · exact fDa_278_282 (by omega) (by omega)
  · exact fDa_282_287 (by omega) (by omega)
theorem fDa_269_287 {m : Nat} (h1 : 269 ≤ m) (h2 : m < 287) : fDat m := by
  by_cases h : m < 278
  · exact fDa_269_278 (by omega) (by omega)
  · exact fDa_278_287 (by omega) (by omega)
theorem fDa_251_287 {m : Nat} (h1 : 251 ≤ m) (h2 : m < 287) : fDat m := by
  by_cases h : m < 269
  · exact fDa_251_269 (by omega) (by omega)
  · exact fDa_269_287 (by omega) (by omega)
theorem fDa_215_287 {m : Nat} (h1 : 215 ≤ m) (h2 : m < 287) : fDat m := by
  by_cases h : m < 251
  · exact fDa_215_251 (by omega) (by omega)
  · exact fDa_251_287 (by omega) (by omega)
theorem fDa_143_287 {m : Nat} (h1 : 143 ≤ m) (h2 : m < 287) : fDat m := by
  by_cases h : m < 215
  · exact fDa_143_215 (by omega) (by omega)
  · exact fDa_215_287 (by omega) (by omega)
theorem fDa_0_287 {m : Nat} (h1 : 0 ≤ m) (h2 : m < 287) : fDat m := by
  by_cases h : m < 143
  · exact fDa_0_143 (by omega) (by omega)
  · exact fDa_143_287 (by omega) (by omega)
theorem fD_ok : fDok fDs fCs := fun m hm => fDa_0_287 (Nat.zero_le _) hm
