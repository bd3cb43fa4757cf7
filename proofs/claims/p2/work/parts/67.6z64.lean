/-! the start on a board of 6 by 4; printed by wip/gen/gen64.py -/
def eR64_0 : List (Nat × aE) := [(1, (1, Int.ofNat 0, Int.ofNat 0, [1])), (2, (1, Int.ofNat 0, Int.ofNat 0, [18])), (3, (1, Int.ofNat 0, Int.ofNat 0, [35])), (4, (1, Int.ofNat 0, Int.ofNat 0, [56])), (5, (1, Int.ofNat 0, Int.ofNat 0, [61])), (6, (1, Int.ofNat 0, Int.ofNat 0, [64])), (7, (1, Int.ofNat 0, Int.ofNat 0, [67])), (8, (1, Int.ofNat 0, Int.ofNat 0, [136])), (9, (1, Int.ofNat 0, Int.ofNat 0, [184]))]
def eR64_1 : List (Nat × aE) := [(1, (1, Int.ofNat 0, Int.ofNat 0, [2])), (2, (1, Int.ofNat 0, Int.ofNat 0, [9])), (3, (1, Int.ofNat 0, Int.ofNat 0, [10])), (4, (1, Int.ofNat 0, Int.ofNat 0, [11])), (5, (1, Int.ofNat 0, Int.ofNat 0, [12])), (6, (1, Int.ofNat 0, Int.ofNat 0, [16])), (7, (1, Int.ofNat 0, Int.ofNat 0, [17])), (11, (0, Int.ofNat 0, Int.ofNat 0, [])), (12, (0, Int.negSucc 0, Int.negSucc 0, []))]
def eR64_2 : List (Nat × aE) := [(1, (0, Int.ofNat 6, Int.ofNat 6, [])), (2, (0, Int.ofNat 4, Int.ofNat 4, [])), (3, (0, Int.ofNat 24, Int.ofNat 24, [])), (4, (1, Int.ofNat 0, Int.ofNat 0, [3])), (5, (1, Int.ofNat 0, Int.ofNat 0, [4])), (6, (1, Int.ofNat 0, Int.ofNat 0, [5])), (7, (1, Int.ofNat 0, Int.ofNat 0, [6])), (8, (1, Int.ofNat 0, Int.ofNat 0, [7])), (9, (1, Int.ofNat 0, Int.ofNat 0, [8])), (12, (0, Int.ofNat 0, Int.ofNat 0, []))]
def eR64_3 : List (Nat × aE) := [(36, (0, Int.ofNat 0, Int.ofNat 0, []))]
def eR64_4 : List (Nat × aE) := [(4, (0, Int.ofNat 0, Int.ofNat 0, []))]
def eR64_5 : List (Nat × aE) := [(1, (0, Int.ofNat 10, Int.ofNat 10, [])), (5, (0, Int.ofNat 0, Int.ofNat 0, [])), (6, (0, Int.ofNat 10, Int.ofNat 10, [])), (10, (0, Int.ofNat 0, Int.ofNat 0, [])), (11, (0, Int.ofNat 10, Int.ofNat 10, [])), (15, (0, Int.ofNat 0, Int.ofNat 0, [])), (16, (0, Int.ofNat 10, Int.ofNat 10, []))]
def eR64_6 : List (Nat × aE) := [(1, (0, Int.ofNat 0, Int.ofNat 0, [])), (2, (0, Int.ofNat 20, Int.ofNat 20, [])), (4, (0, Int.ofNat 0, Int.ofNat 0, [])), (5, (0, Int.ofNat 1, Int.ofNat 1, []))]
def eR64_7 : List (Nat × aE) := [(1, (0, Int.ofNat 0, Int.ofNat 0, [])), (2, (0, Int.ofNat 20, Int.ofNat 20, [])), (5, (0, Int.ofNat 0, Int.ofNat 0, []))]
def eR64_8 : List (Nat × aE) := [(1, (0, Int.ofNat 1, Int.ofNat 1, [])), (2, (0, Int.ofNat 2, Int.ofNat 2, [])), (3, (0, Int.ofNat 3, Int.ofNat 3, []))]
def eR64_9 : List (Nat × aE) := [(1, (1, Int.ofNat 0, Int.ofNat 0, [13])), (2, (1, Int.ofNat 0, Int.ofNat 0, [14])), (3, (1, Int.ofNat 0, Int.ofNat 0, [15])), (4, (0, Int.ofNat 0, Int.ofNat 0, []))]
def eR64_10 : List (Nat × aE) := [(6, (0, Int.ofNat 1, Int.ofNat 1, []))]
def eR64_11 : List (Nat × aE) := [(30, (0, Int.ofNat 0, Int.ofNat 0, []))]
def eR64_12 : List (Nat × aE) := [(12, (0, Int.ofNat 0, Int.ofNat 0, []))]
def eR64_13 : List (Nat × aE) := [(12, (0, Int.ofNat 4, Int.ofNat 4, []))]
def eR64_14 : List (Nat × aE) := [(1, (1, Int.ofNat 0, Int.ofNat 0, [19])), (2, (1, Int.ofNat 0, Int.ofNat 0, [26])), (3, (1, Int.ofNat 0, Int.ofNat 0, [27])), (4, (1, Int.ofNat 0, Int.ofNat 0, [28])), (5, (1, Int.ofNat 0, Int.ofNat 0, [29])), (6, (1, Int.ofNat 0, Int.ofNat 0, [33])), (7, (1, Int.ofNat 0, Int.ofNat 0, [34])), (11, (0, Int.ofNat 0, Int.ofNat 0, [])), (12, (0, Int.negSucc 0, Int.negSucc 0, []))]
def eR64_15 : List (Nat × aE) := [(1, (0, Int.ofNat 6, Int.ofNat 6, [])), (2, (0, Int.ofNat 4, Int.ofNat 4, [])), (3, (0, Int.ofNat 24, Int.ofNat 24, [])), (4, (1, Int.ofNat 0, Int.ofNat 0, [20])), (5, (1, Int.ofNat 0, Int.ofNat 0, [21])), (6, (1, Int.ofNat 0, Int.ofNat 0, [22])), (7, (1, Int.ofNat 0, Int.ofNat 0, [23])), (8, (1, Int.ofNat 0, Int.ofNat 0, [24])), (9, (1, Int.ofNat 0, Int.ofNat 0, [25])), (12, (0, Int.ofNat 0, Int.ofNat 0, []))]
def eR64_16 : List (Nat × aE) := [(1, (1, Int.ofNat 0, Int.ofNat 0, [30])), (2, (1, Int.ofNat 0, Int.ofNat 0, [31])), (3, (1, Int.ofNat 0, Int.ofNat 0, [32])), (4, (0, Int.ofNat 0, Int.ofNat 0, []))]
def eR64_17 : List (Nat × aE) := [(1, (1, Int.ofNat 0, Int.ofNat 0, [36])), (2, (1, Int.ofNat 0, Int.ofNat 0, [41])), (3, (1, Int.ofNat 0, Int.ofNat 0, [46])), (4, (1, Int.ofNat 0, Int.ofNat 0, [51]))]
def eR64_18 : List (Nat × aE) := [(1, (1, Int.ofNat 0, Int.ofNat 0, [37])), (2, (1, Int.ofNat 0, Int.ofNat 0, [38])), (3, (1, Int.ofNat 0, Int.ofNat 0, [39])), (4, (1, Int.ofNat 0, Int.ofNat 0, [40])), (6, (0, Int.ofNat 0, Int.ofNat 0, []))]
def eR64_19 : List (Nat × aE) := [(300, (0, Int.ofNat 0, Int.ofNat 0, []))]
def eR64_20 : List (Nat × aE) := [(13, (0, Int.ofNat 0, Int.ofNat 0, []))]
def eR64_21 : List (Nat × aE) := [(1, (1, Int.ofNat 0, Int.ofNat 0, [42])), (2, (1, Int.ofNat 0, Int.ofNat 0, [43])), (3, (1, Int.ofNat 0, Int.ofNat 0, [44])), (4, (1, Int.ofNat 0, Int.ofNat 0, [45])), (6, (0, Int.ofNat 0, Int.ofNat 0, []))]
def eR64_22 : List (Nat × aE) := [(1, (1, Int.ofNat 0, Int.ofNat 0, [47])), (2, (1, Int.ofNat 0, Int.ofNat 0, [48])), (3, (1, Int.ofNat 0, Int.ofNat 0, [49])), (4, (1, Int.ofNat 0, Int.ofNat 0, [50])), (6, (0, Int.ofNat 0, Int.ofNat 0, []))]
def eR64_23 : List (Nat × aE) := [(1, (1, Int.ofNat 0, Int.ofNat 0, [52])), (2, (1, Int.ofNat 0, Int.ofNat 0, [53])), (3, (1, Int.ofNat 0, Int.ofNat 0, [54])), (4, (1, Int.ofNat 0, Int.ofNat 0, [55])), (6, (0, Int.ofNat 0, Int.ofNat 0, []))]
def eR64_24 : List (Nat × aE) := [(1, (1, Int.ofNat 0, Int.ofNat 0, [57])), (2, (1, Int.ofNat 0, Int.ofNat 0, [58])), (3, (1, Int.ofNat 0, Int.ofNat 0, [59])), (4, (1, Int.ofNat 0, Int.ofNat 0, [60])), (5, (0, Int.ofNat 0, Int.ofNat 0, [])), (7, (0, Int.negSucc 0, Int.negSucc 0, [])), (8, (1, Int.ofNat 1, Int.ofNat 0, [])), (10, (0, Int.ofNat 0, Int.ofNat 0, [])), (11, (0, Int.ofNat 50, Int.ofNat 50, [])), (12, (0, Int.ofNat 0, Int.ofNat 0, []))]
def eR64_25 : List (Nat × aE) := [(301, (0, Int.ofNat 0, Int.ofNat 0, []))]
def eR64_26 : List (Nat × aE) := [(1, (1, Int.ofNat 0, Int.ofNat 0, [2])), (2, (1, Int.ofNat 0, Int.ofNat 0, [62])), (3, (1, Int.ofNat 0, Int.ofNat 0, [63])), (4, (1, Int.ofNat 1, Int.ofNat 0, [])), (5, (1, Int.ofNat 0, Int.ofNat 0, [3])), (9, (0, Int.ofNat 0, Int.ofNat 0, []))]
def eR64_27 : List (Nat × aE) := [(64, (0, Int.ofNat 0, Int.ofNat 0, []))]
def eR64_28 : List (Nat × aE) := [(1, (1, Int.ofNat 0, Int.ofNat 0, [1])), (2, (1, Int.ofNat 0, Int.ofNat 0, [2])), (3, (1, Int.ofNat 0, Int.ofNat 0, [61])), (4, (1, Int.ofNat 0, Int.ofNat 0, [65])), (5, (1, Int.ofNat 0, Int.ofNat 0, [66])), (6, (0, Int.ofNat 0, Int.ofNat 0, []))]
def eR64_29 : List (Nat × aE) := [(1, (1, Int.ofNat 0, Int.ofNat 0, [1])), (2, (1, Int.ofNat 0, Int.ofNat 0, [2])), (3, (1, Int.ofNat 0, Int.ofNat 0, [61])), (4, (1, Int.ofNat 0, Int.ofNat 0, [68])), (5, (1, Int.ofNat 0, Int.ofNat 0, [90])), (6, (1, Int.ofNat 0, Int.ofNat 0, [112])), (7, (1, Int.ofNat 0, Int.ofNat 0, [134])), (8, (1, Int.ofNat 0, Int.ofNat 0, [135]))]
def eR64_30 : List (Nat × aE) := [(1, (1, Int.ofNat 0, Int.ofNat 0, [69])), (2, (1, Int.ofNat 0, Int.ofNat 0, [70])), (3, (1, Int.ofNat 0, Int.ofNat 0, [71])), (4, (1, Int.ofNat 0, Int.ofNat 0, [72])), (5, (1, Int.ofNat 0, Int.ofNat 0, [73])), (6, (1, Int.ofNat 0, Int.ofNat 0, [74])), (7, (1, Int.ofNat 0, Int.ofNat 0, [75])), (8, (1, Int.ofNat 0, Int.ofNat 0, [76])), (9, (1, Int.ofNat 0, Int.ofNat 0, [77])), (10, (1, Int.ofNat 0, Int.ofNat 0, [78])), (11, (1, Int.ofNat 0, Int.ofNat 0, [79])), (12, (1, Int.ofNat 0, Int.ofNat 0, [80])), (13, (1, Int.ofNat 0, Int.ofNat 0, [81])), (14, (1, Int.ofNat 0, Int.ofNat 0, [82])), (15, (1, Int.ofNat 0, Int.ofNat 0, [83])), (16, (1, Int.ofNat 0, Int.ofNat 0, [84])), (17, (1, Int.ofNat 0, Int.ofNat 0, [85])), (18, (1, Int.ofNat 0, Int.ofNat 0, [86])), (19, (1, Int.ofNat 0, Int.ofNat 0, [87])), (20, (1, Int.ofNat 0, Int.ofNat 0, [88])), (21, (1, Int.ofNat 0, Int.ofNat 0, [89]))]
def eR64_31 : List (Nat × aE) := [(1, (1, Int.ofNat 0, Int.ofNat 0, [91])), (2, (1, Int.ofNat 0, Int.ofNat 0, [92])), (3, (1, Int.ofNat 0, Int.ofNat 0, [93])), (4, (1, Int.ofNat 0, Int.ofNat 0, [94])), (5, (1, Int.ofNat 0, Int.ofNat 0, [95])), (6, (1, Int.ofNat 0, Int.ofNat 0, [96])), (7, (1, Int.ofNat 0, Int.ofNat 0, [97])), (8, (1, Int.ofNat 0, Int.ofNat 0, [98])), (9, (1, Int.ofNat 0, Int.ofNat 0, [99])), (10, (1, Int.ofNat 0, Int.ofNat 0, [100])), (11, (1, Int.ofNat 0, Int.ofNat 0, [101])), (12, (1, Int.ofNat 0, Int.ofNat 0, [102])), (13, (1, Int.ofNat 0, Int.ofNat 0, [103])), (14, (1, Int.ofNat 0, Int.ofNat 0, [104])), (15, (1, Int.ofNat 0, Int.ofNat 0, [105])), (16, (1, Int.ofNat 0, Int.ofNat 0, [106])), (17, (1, Int.ofNat 0, Int.ofNat 0, [107])), (18, (1, Int.ofNat 0, Int.ofNat 0, [108])), (19, (1, Int.ofNat 0, Int.ofNat 0, [109])), (20, (1, Int.ofNat 0, Int.ofNat 0, [110])), (21, (1, Int.ofNat 0, Int.ofNat 0, [111]))]
def eR64_32 : List (Nat × aE) := [(1, (1, Int.ofNat 0, Int.ofNat 0, [113])), (2, (1, Int.ofNat 0, Int.ofNat 0, [114])), (3, (1, Int.ofNat 0, Int.ofNat 0, [115])), (4, (1, Int.ofNat 0, Int.ofNat 0, [116])), (5, (1, Int.ofNat 0, Int.ofNat 0, [117])), (6, (1, Int.ofNat 0, Int.ofNat 0, [118])), (7, (1, Int.ofNat 0, Int.ofNat 0, [119])), (8, (1, Int.ofNat 0, Int.ofNat 0, [120])), (9, (1, Int.ofNat 0, Int.ofNat 0, [121])), (10, (1, Int.ofNat 0, Int.ofNat 0, [122])), (11, (1, Int.ofNat 0, Int.ofNat 0, [123])), (12, (1, Int.ofNat 0, Int.ofNat 0, [124])), (13, (1, Int.ofNat 0, Int.ofNat 0, [125])), (14, (1, Int.ofNat 0, Int.ofNat 0, [126])), (15, (1, Int.ofNat 0, Int.ofNat 0, [127])), (16, (1, Int.ofNat 0, Int.ofNat 0, [128])), (17, (1, Int.ofNat 0, Int.ofNat 0, [129])), (18, (1, Int.ofNat 0, Int.ofNat 0, [130])), (19, (1, Int.ofNat 0, Int.ofNat 0, [131])), (20, (1, Int.ofNat 0, Int.ofNat 0, [132])), (21, (1, Int.ofNat 0, Int.ofNat 0, [133]))]
def eR64_33 : List (Nat × aE) := [(21, (0, Int.ofNat 0, Int.ofNat 0, []))]
def eR64_34 : List (Nat × aE) := [(1, (1, Int.ofNat 0, Int.ofNat 0, [1])), (2, (1, Int.ofNat 0, Int.ofNat 0, [2])), (3, (1, Int.ofNat 0, Int.ofNat 0, [64])), (4, (1, Int.ofNat 0, Int.ofNat 0, [61])), (5, (1, Int.ofNat 0, Int.ofNat 0, [67])), (6, (1, Int.ofNat 0, Int.ofNat 0, [137])), (7, (1, Int.ofNat 0, Int.ofNat 0, [140])), (8, (1, Int.ofNat 0, Int.ofNat 0, [154])), (9, (1, Int.ofNat 0, Int.ofNat 0, [168])), (10, (1, Int.ofNat 0, Int.ofNat 0, [182])), (11, (1, Int.ofNat 0, Int.ofNat 0, [183])), (12, (0, Int.ofNat 0, Int.ofNat 0, []))]
def eR64_35 : List (Nat × aE) := [(1, (1, Int.ofNat 0, Int.ofNat 0, [138])), (2, (1, Int.ofNat 0, Int.ofNat 0, [139]))]
def eR64_36 : List (Nat × aE) := [(72, (0, Int.ofNat 0, Int.ofNat 0, []))]
def eR64_37 : List (Nat × aE) := [(1, (1, Int.ofNat 0, Int.ofNat 0, [141])), (2, (1, Int.ofNat 0, Int.ofNat 0, [142])), (3, (1, Int.ofNat 0, Int.ofNat 0, [143])), (4, (1, Int.ofNat 0, Int.ofNat 0, [144])), (5, (1, Int.ofNat 0, Int.ofNat 0, [145])), (6, (1, Int.ofNat 0, Int.ofNat 0, [146])), (7, (1, Int.ofNat 0, Int.ofNat 0, [147])), (8, (1, Int.ofNat 0, Int.ofNat 0, [148])), (9, (1, Int.ofNat 0, Int.ofNat 0, [149])), (10, (1, Int.ofNat 0, Int.ofNat 0, [150])), (11, (1, Int.ofNat 0, Int.ofNat 0, [151])), (12, (1, Int.ofNat 0, Int.ofNat 0, [152])), (13, (1, Int.ofNat 0, Int.ofNat 0, [153]))]
def eR64_38 : List (Nat × aE) := [(1, (1, Int.ofNat 0, Int.ofNat 0, [155])), (2, (1, Int.ofNat 0, Int.ofNat 0, [156])), (3, (1, Int.ofNat 0, Int.ofNat 0, [157])), (4, (1, Int.ofNat 0, Int.ofNat 0, [158])), (5, (1, Int.ofNat 0, Int.ofNat 0, [159])), (6, (1, Int.ofNat 0, Int.ofNat 0, [160])), (7, (1, Int.ofNat 0, Int.ofNat 0, [161])), (8, (1, Int.ofNat 0, Int.ofNat 0, [162])), (9, (1, Int.ofNat 0, Int.ofNat 0, [163])), (10, (1, Int.ofNat 0, Int.ofNat 0, [164])), (11, (1, Int.ofNat 0, Int.ofNat 0, [165])), (12, (1, Int.ofNat 0, Int.ofNat 0, [166])), (13, (1, Int.ofNat 0, Int.ofNat 0, [167]))]
def eR64_39 : List (Nat × aE) := [(1, (1, Int.ofNat 0, Int.ofNat 0, [169])), (2, (1, Int.ofNat 0, Int.ofNat 0, [170])), (3, (1, Int.ofNat 0, Int.ofNat 0, [171])), (4, (1, Int.ofNat 0, Int.ofNat 0, [172])), (5, (1, Int.ofNat 0, Int.ofNat 0, [173])), (6, (1, Int.ofNat 0, Int.ofNat 0, [174])), (7, (1, Int.ofNat 0, Int.ofNat 0, [175])), (8, (1, Int.ofNat 0, Int.ofNat 0, [176])), (9, (1, Int.ofNat 0, Int.ofNat 0, [177])), (10, (1, Int.ofNat 0, Int.ofNat 0, [178])), (11, (1, Int.ofNat 0, Int.ofNat 0, [179])), (12, (1, Int.ofNat 0, Int.ofNat 0, [180])), (13, (1, Int.ofNat 0, Int.ofNat 0, [181]))]
def eR64_40 : List (Nat × aE) := [(1, (1, Int.ofNat 0, Int.ofNat 0, [1])), (2, (1, Int.ofNat 0, Int.ofNat 0, [2])), (3, (1, Int.ofNat 0, Int.ofNat 0, [64])), (4, (1, Int.ofNat 0, Int.ofNat 0, [67])), (6, (0, Int.ofNat 0, Int.ofNat 0, []))]
def eR64_41 : List (Nat × aE) := [(1, (0, Int.ofNat 6, Int.ofNat 6, [])), (2, (0, Int.ofNat 4, Int.ofNat 4, [])), (3, (0, Int.ofNat 24, Int.ofNat 24, [])), (4, (1, Int.ofNat 0, Int.ofNat 0, [186])), (5, (1, Int.ofNat 0, Int.ofNat 0, [187])), (6, (1, Int.ofNat 0, Int.ofNat 0, [188])), (7, (1, Int.ofNat 0, Int.ofNat 0, [189])), (8, (0, Int.ofNat 0, Int.ofNat 0, [])), (10, (0, Int.negSucc 0, Int.negSucc 0, [])), (14, (0, Int.ofNat 0, Int.ofNat 0, [])), (15, (2, Int.ofNat 0, Int.ofNat 0, [])), (19, (0, Int.ofNat 0, Int.ofNat 0, [])), (20, (1, Int.ofNat 0, Int.ofNat 0, [190])), (25, (0, Int.ofNat 0, Int.ofNat 0, [])), (26, (1, Int.ofNat 0, Int.ofNat 0, [191])), (27, (1, Int.ofNat 0, Int.ofNat 0, [192])), (28, (1, Int.ofNat 0, Int.ofNat 0, [193])), (29, (1, Int.ofNat 0, Int.ofNat 0, [194])), (30, (1, Int.ofNat 0, Int.ofNat 0, [195])), (31, (1, Int.ofNat 0, Int.ofNat 0, [196])), (32, (1, Int.ofNat 0, Int.ofNat 0, [197])), (33, (0, Int.ofNat 0, Int.ofNat 0, [])), (34, (1, Int.ofNat 0, Int.ofNat 0, [198])), (35, (1, Int.ofNat 0, Int.ofNat 0, [199])), (36, (1, Int.ofNat 0, Int.ofNat 0, [200])), (37, (1, Int.ofNat 0, Int.ofNat 0, [201])), (38, (1, Int.ofNat 0, Int.ofNat 0, [202])), (39, (1, Int.ofNat 0, Int.ofNat 0, [203])), (40, (0, Int.ofNat 0, Int.ofNat 0, [])), (41, (1, Int.ofNat 0, Int.ofNat 0, [204])), (47, (0, Int.ofNat 0, Int.ofNat 0, []))]
def eR64_42 : List (Nat × aE) := [(3, (0, Int.ofNat 0, Int.ofNat 0, [])), (4, (0, Int.negSucc 0, Int.negSucc 0, [])), (9, (0, Int.ofNat 0, Int.ofNat 0, [])), (10, (0, Int.ofNat 1, Int.ofNat 1, [])), (11, (0, Int.ofNat 2, Int.ofNat 2, [])), (12, (0, Int.ofNat 3, Int.ofNat 3, [])), (21, (0, Int.ofNat 0, Int.ofNat 0, [])), (22, (0, Int.ofNat 20, Int.ofNat 20, [])), (24, (0, Int.ofNat 0, Int.ofNat 0, [])), (25, (0, Int.ofNat 1, Int.ofNat 1, [])), (26, (0, Int.ofNat 0, Int.ofNat 0, [])), (27, (0, Int.ofNat 20, Int.ofNat 20, [])), (160, (0, Int.ofNat 0, Int.ofNat 0, [])), (161, (0, Int.ofNat 10, Int.ofNat 10, [])), (165, (0, Int.ofNat 0, Int.ofNat 0, [])), (166, (0, Int.ofNat 10, Int.ofNat 10, [])), (170, (0, Int.ofNat 0, Int.ofNat 0, [])), (171, (0, Int.ofNat 10, Int.ofNat 10, [])), (175, (0, Int.ofNat 0, Int.ofNat 0, [])), (176, (0, Int.ofNat 10, Int.ofNat 10, [])), (195, (0, Int.ofNat 0, Int.ofNat 0, [])), (207, (0, Int.ofNat 4, Int.ofNat 4, [])), (210, (0, Int.ofNat 0, Int.ofNat 0, [])), (216, (0, Int.ofNat 1, Int.ofNat 1, [])), (280, (0, Int.ofNat 0, Int.ofNat 0, []))]
def eR64_43 : List (Nat × aE) := [(3200, (0, Int.ofNat 0, Int.ofNat 0, []))]
def eR64_44 : List (Nat × aE) := [(160, (0, Int.ofNat 0, Int.ofNat 0, []))]
def eR64_45 : List (Nat × aE) := [(11, (0, Int.ofNat 0, Int.ofNat 0, []))]
def eR64_46 : List (Nat × aE) := [(330, (2, Int.ofNat 0, Int.ofNat 0, []))]
def eR64_47 : List (Nat × aE) := [(330, (0, Int.ofNat 0, Int.ofNat 0, []))]
def eR64_48 : List (Nat × aE) := [(720, (0, Int.ofNat 0, Int.ofNat 0, []))]
def eR64_49 : List (Nat × aE) := [(468, (0, Int.ofNat 0, Int.ofNat 0, []))]
def eR64_50 : List (Nat × aE) := [(93600, (0, Int.ofNat 0, Int.ofNat 0, []))]
noncomputable def eB64_5 (i : Nat) : List (Nat × aE) := @Bool.rec (fun _ => List (Nat × aE)) (eR64_1) (eR64_0) (Nat.ble i 0)
noncomputable def eB64_7 (i : Nat) : List (Nat × aE) := @Bool.rec (fun _ => List (Nat × aE)) (eR64_4) (eR64_3) (Nat.ble i 5)
noncomputable def eB64_6 (i : Nat) : List (Nat × aE) := @Bool.rec (fun _ => List (Nat × aE)) (eB64_7 i) (eR64_2) (Nat.ble i 2)
noncomputable def eB64_4 (i : Nat) : List (Nat × aE) := @Bool.rec (fun _ => List (Nat × aE)) (eB64_6 i) (eB64_5 i) (Nat.ble i 1)
noncomputable def eB64_9 (i : Nat) : List (Nat × aE) := @Bool.rec (fun _ => List (Nat × aE)) (eR64_6) (eR64_5) (Nat.ble i 8)
noncomputable def eB64_11 (i : Nat) : List (Nat × aE) := @Bool.rec (fun _ => List (Nat × aE)) (eR64_9) (eR64_8) (Nat.ble i 11)
noncomputable def eB64_10 (i : Nat) : List (Nat × aE) := @Bool.rec (fun _ => List (Nat × aE)) (eB64_11 i) (eR64_7) (Nat.ble i 10)
noncomputable def eB64_8 (i : Nat) : List (Nat × aE) := @Bool.rec (fun _ => List (Nat × aE)) (eB64_10 i) (eB64_9 i) (Nat.ble i 9)
noncomputable def eB64_3 (i : Nat) : List (Nat × aE) := @Bool.rec (fun _ => List (Nat × aE)) (eB64_8 i) (eB64_4 i) (Nat.ble i 7)
noncomputable def eB64_14 (i : Nat) : List (Nat × aE) := @Bool.rec (fun _ => List (Nat × aE)) (eR64_11) (eR64_10) (Nat.ble i 13)
noncomputable def eB64_16 (i : Nat) : List (Nat × aE) := @Bool.rec (fun _ => List (Nat × aE)) (eR64_14) (eR64_13) (Nat.ble i 17)
noncomputable def eB64_15 (i : Nat) : List (Nat × aE) := @Bool.rec (fun _ => List (Nat × aE)) (eB64_16 i) (eR64_12) (Nat.ble i 16)
noncomputable def eB64_13 (i : Nat) : List (Nat × aE) := @Bool.rec (fun _ => List (Nat × aE)) (eB64_15 i) (eB64_14 i) (Nat.ble i 15)
noncomputable def eB64_19 (i : Nat) : List (Nat × aE) := @Bool.rec (fun _ => List (Nat × aE)) (eR64_4) (eR64_3) (Nat.ble i 22)
noncomputable def eB64_18 (i : Nat) : List (Nat × aE) := @Bool.rec (fun _ => List (Nat × aE)) (eB64_19 i) (eR64_15) (Nat.ble i 19)
noncomputable def eB64_21 (i : Nat) : List (Nat × aE) := @Bool.rec (fun _ => List (Nat × aE)) (eR64_7) (eR64_6) (Nat.ble i 26)
noncomputable def eB64_20 (i : Nat) : List (Nat × aE) := @Bool.rec (fun _ => List (Nat × aE)) (eB64_21 i) (eR64_5) (Nat.ble i 25)
noncomputable def eB64_17 (i : Nat) : List (Nat × aE) := @Bool.rec (fun _ => List (Nat × aE)) (eB64_20 i) (eB64_18 i) (Nat.ble i 24)
noncomputable def eB64_12 (i : Nat) : List (Nat × aE) := @Bool.rec (fun _ => List (Nat × aE)) (eB64_17 i) (eB64_13 i) (Nat.ble i 18)
noncomputable def eB64_2 (i : Nat) : List (Nat × aE) := @Bool.rec (fun _ => List (Nat × aE)) (eB64_12 i) (eB64_3 i) (Nat.ble i 12)
noncomputable def eB64_25 (i : Nat) : List (Nat × aE) := @Bool.rec (fun _ => List (Nat × aE)) (eR64_16) (eR64_8) (Nat.ble i 28)
noncomputable def eB64_27 (i : Nat) : List (Nat × aE) := @Bool.rec (fun _ => List (Nat × aE)) (eR64_12) (eR64_11) (Nat.ble i 32)
noncomputable def eB64_26 (i : Nat) : List (Nat × aE) := @Bool.rec (fun _ => List (Nat × aE)) (eB64_27 i) (eR64_10) (Nat.ble i 30)
noncomputable def eB64_24 (i : Nat) : List (Nat × aE) := @Bool.rec (fun _ => List (Nat × aE)) (eB64_26 i) (eB64_25 i) (Nat.ble i 29)
noncomputable def eB64_30 (i : Nat) : List (Nat × aE) := @Bool.rec (fun _ => List (Nat × aE)) (eR64_18) (eR64_17) (Nat.ble i 35)
noncomputable def eB64_29 (i : Nat) : List (Nat × aE) := @Bool.rec (fun _ => List (Nat × aE)) (eB64_30 i) (eR64_13) (Nat.ble i 34)
noncomputable def eB64_32 (i : Nat) : List (Nat × aE) := @Bool.rec (fun _ => List (Nat × aE)) (eR64_12) (eR64_20) (Nat.ble i 38)
noncomputable def eB64_31 (i : Nat) : List (Nat × aE) := @Bool.rec (fun _ => List (Nat × aE)) (eB64_32 i) (eR64_19) (Nat.ble i 37)
noncomputable def eB64_28 (i : Nat) : List (Nat × aE) := @Bool.rec (fun _ => List (Nat × aE)) (eB64_31 i) (eB64_29 i) (Nat.ble i 36)
noncomputable def eB64_23 (i : Nat) : List (Nat × aE) := @Bool.rec (fun _ => List (Nat × aE)) (eB64_28 i) (eB64_24 i) (Nat.ble i 33)
noncomputable def eB64_35 (i : Nat) : List (Nat × aE) := @Bool.rec (fun _ => List (Nat × aE)) (eR64_19) (eR64_21) (Nat.ble i 41)
noncomputable def eB64_37 (i : Nat) : List (Nat × aE) := @Bool.rec (fun _ => List (Nat × aE)) (eR64_22) (eR64_12) (Nat.ble i 45)
noncomputable def eB64_36 (i : Nat) : List (Nat × aE) := @Bool.rec (fun _ => List (Nat × aE)) (eB64_37 i) (eR64_20) (Nat.ble i 43)
noncomputable def eB64_34 (i : Nat) : List (Nat × aE) := @Bool.rec (fun _ => List (Nat × aE)) (eB64_36 i) (eB64_35 i) (Nat.ble i 42)
noncomputable def eB64_40 (i : Nat) : List (Nat × aE) := @Bool.rec (fun _ => List (Nat × aE)) (eR64_12) (eR64_20) (Nat.ble i 48)
noncomputable def eB64_39 (i : Nat) : List (Nat × aE) := @Bool.rec (fun _ => List (Nat × aE)) (eB64_40 i) (eR64_19) (Nat.ble i 47)
noncomputable def eB64_42 (i : Nat) : List (Nat × aE) := @Bool.rec (fun _ => List (Nat × aE)) (eR64_20) (eR64_19) (Nat.ble i 52)
noncomputable def eB64_41 (i : Nat) : List (Nat × aE) := @Bool.rec (fun _ => List (Nat × aE)) (eB64_42 i) (eR64_23) (Nat.ble i 51)
noncomputable def eB64_38 (i : Nat) : List (Nat × aE) := @Bool.rec (fun _ => List (Nat × aE)) (eB64_41 i) (eB64_39 i) (Nat.ble i 50)
noncomputable def eB64_33 (i : Nat) : List (Nat × aE) := @Bool.rec (fun _ => List (Nat × aE)) (eB64_38 i) (eB64_34 i) (Nat.ble i 46)
noncomputable def eB64_22 (i : Nat) : List (Nat × aE) := @Bool.rec (fun _ => List (Nat × aE)) (eB64_33 i) (eB64_23 i) (Nat.ble i 40)
noncomputable def eB64_1 (i : Nat) : List (Nat × aE) := @Bool.rec (fun _ => List (Nat × aE)) (eB64_22 i) (eB64_2 i) (Nat.ble i 27)
noncomputable def eB64_47 (i : Nat) : List (Nat × aE) := @Bool.rec (fun _ => List (Nat × aE)) (eR64_24) (eR64_12) (Nat.ble i 55)
noncomputable def eB64_49 (i : Nat) : List (Nat × aE) := @Bool.rec (fun _ => List (Nat × aE)) (eR64_26) (eR64_25) (Nat.ble i 60)
noncomputable def eB64_48 (i : Nat) : List (Nat × aE) := @Bool.rec (fun _ => List (Nat × aE)) (eB64_49 i) (eR64_19) (Nat.ble i 57)
noncomputable def eB64_46 (i : Nat) : List (Nat × aE) := @Bool.rec (fun _ => List (Nat × aE)) (eB64_48 i) (eB64_47 i) (Nat.ble i 56)
noncomputable def eB64_52 (i : Nat) : List (Nat × aE) := @Bool.rec (fun _ => List (Nat × aE)) (eR64_28) (eR64_3) (Nat.ble i 63)
noncomputable def eB64_51 (i : Nat) : List (Nat × aE) := @Bool.rec (fun _ => List (Nat × aE)) (eB64_52 i) (eR64_27) (Nat.ble i 62)
noncomputable def eB64_54 (i : Nat) : List (Nat × aE) := @Bool.rec (fun _ => List (Nat × aE)) (eR64_29) (eR64_6) (Nat.ble i 66)
noncomputable def eB64_53 (i : Nat) : List (Nat × aE) := @Bool.rec (fun _ => List (Nat × aE)) (eB64_54 i) (eR64_3) (Nat.ble i 65)
noncomputable def eB64_50 (i : Nat) : List (Nat × aE) := @Bool.rec (fun _ => List (Nat × aE)) (eB64_53 i) (eB64_51 i) (Nat.ble i 64)
noncomputable def eB64_45 (i : Nat) : List (Nat × aE) := @Bool.rec (fun _ => List (Nat × aE)) (eB64_50 i) (eB64_46 i) (Nat.ble i 61)
noncomputable def eB64_57 (i : Nat) : List (Nat × aE) := @Bool.rec (fun _ => List (Nat × aE)) (eR64_3) (eR64_30) (Nat.ble i 68)
noncomputable def eB64_59 (i : Nat) : List (Nat × aE) := @Bool.rec (fun _ => List (Nat × aE)) (eR64_32) (eR64_3) (Nat.ble i 111)
noncomputable def eB64_58 (i : Nat) : List (Nat × aE) := @Bool.rec (fun _ => List (Nat × aE)) (eB64_59 i) (eR64_31) (Nat.ble i 90)
noncomputable def eB64_56 (i : Nat) : List (Nat × aE) := @Bool.rec (fun _ => List (Nat × aE)) (eB64_58 i) (eB64_57 i) (Nat.ble i 89)
noncomputable def eB64_62 (i : Nat) : List (Nat × aE) := @Bool.rec (fun _ => List (Nat × aE)) (eR64_34) (eR64_33) (Nat.ble i 135)
noncomputable def eB64_61 (i : Nat) : List (Nat × aE) := @Bool.rec (fun _ => List (Nat × aE)) (eB64_62 i) (eR64_3) (Nat.ble i 133)
noncomputable def eB64_64 (i : Nat) : List (Nat × aE) := @Bool.rec (fun _ => List (Nat × aE)) (eR64_37) (eR64_36) (Nat.ble i 139)
noncomputable def eB64_63 (i : Nat) : List (Nat × aE) := @Bool.rec (fun _ => List (Nat × aE)) (eB64_64 i) (eR64_35) (Nat.ble i 137)
noncomputable def eB64_60 (i : Nat) : List (Nat × aE) := @Bool.rec (fun _ => List (Nat × aE)) (eB64_63 i) (eB64_61 i) (Nat.ble i 136)
noncomputable def eB64_55 (i : Nat) : List (Nat × aE) := @Bool.rec (fun _ => List (Nat × aE)) (eB64_60 i) (eB64_56 i) (Nat.ble i 112)
noncomputable def eB64_44 (i : Nat) : List (Nat × aE) := @Bool.rec (fun _ => List (Nat × aE)) (eB64_55 i) (eB64_45 i) (Nat.ble i 67)
noncomputable def eB64_68 (i : Nat) : List (Nat × aE) := @Bool.rec (fun _ => List (Nat × aE)) (eR64_38) (eR64_36) (Nat.ble i 153)
noncomputable def eB64_70 (i : Nat) : List (Nat × aE) := @Bool.rec (fun _ => List (Nat × aE)) (eR64_6) (eR64_39) (Nat.ble i 168)
noncomputable def eB64_69 (i : Nat) : List (Nat × aE) := @Bool.rec (fun _ => List (Nat × aE)) (eB64_70 i) (eR64_3) (Nat.ble i 167)
noncomputable def eB64_67 (i : Nat) : List (Nat × aE) := @Bool.rec (fun _ => List (Nat × aE)) (eB64_69 i) (eB64_68 i) (Nat.ble i 154)
noncomputable def eB64_73 (i : Nat) : List (Nat × aE) := @Bool.rec (fun _ => List (Nat × aE)) (eR64_41) (eR64_40) (Nat.ble i 184)
noncomputable def eB64_72 (i : Nat) : List (Nat × aE) := @Bool.rec (fun _ => List (Nat × aE)) (eB64_73 i) (eR64_3) (Nat.ble i 183)
noncomputable def eB64_75 (i : Nat) : List (Nat × aE) := @Bool.rec (fun _ => List (Nat × aE)) (eR64_19) (eR64_43) (Nat.ble i 188)
noncomputable def eB64_74 (i : Nat) : List (Nat × aE) := @Bool.rec (fun _ => List (Nat × aE)) (eB64_75 i) (eR64_42) (Nat.ble i 187)
noncomputable def eB64_71 (i : Nat) : List (Nat × aE) := @Bool.rec (fun _ => List (Nat × aE)) (eB64_74 i) (eB64_72 i) (Nat.ble i 185)
noncomputable def eB64_66 (i : Nat) : List (Nat × aE) := @Bool.rec (fun _ => List (Nat × aE)) (eB64_71 i) (eB64_67 i) (Nat.ble i 181)
noncomputable def eB64_78 (i : Nat) : List (Nat × aE) := @Bool.rec (fun _ => List (Nat × aE)) (eR64_45) (eR64_44) (Nat.ble i 190)
noncomputable def eB64_80 (i : Nat) : List (Nat × aE) := @Bool.rec (fun _ => List (Nat × aE)) (eR64_48) (eR64_47) (Nat.ble i 193)
noncomputable def eB64_79 (i : Nat) : List (Nat × aE) := @Bool.rec (fun _ => List (Nat × aE)) (eB64_80 i) (eR64_46) (Nat.ble i 192)
noncomputable def eB64_77 (i : Nat) : List (Nat × aE) := @Bool.rec (fun _ => List (Nat × aE)) (eB64_79 i) (eB64_78 i) (Nat.ble i 191)
noncomputable def eB64_83 (i : Nat) : List (Nat × aE) := @Bool.rec (fun _ => List (Nat × aE)) (eR64_20) (eR64_50) (Nat.ble i 197)
noncomputable def eB64_82 (i : Nat) : List (Nat × aE) := @Bool.rec (fun _ => List (Nat × aE)) (eB64_83 i) (eR64_49) (Nat.ble i 196)
noncomputable def eB64_85 (i : Nat) : List (Nat × aE) := @Bool.rec (fun _ => List (Nat × aE)) (eR64_20) (eR64_3) (Nat.ble i 203)
noncomputable def eB64_84 (i : Nat) : List (Nat × aE) := @Bool.rec (fun _ => List (Nat × aE)) (eB64_85 i) (eR64_50) (Nat.ble i 201)
noncomputable def eB64_81 (i : Nat) : List (Nat × aE) := @Bool.rec (fun _ => List (Nat × aE)) (eB64_84 i) (eB64_82 i) (Nat.ble i 200)
noncomputable def eB64_76 (i : Nat) : List (Nat × aE) := @Bool.rec (fun _ => List (Nat × aE)) (eB64_81 i) (eB64_77 i) (Nat.ble i 194)
noncomputable def eB64_65 (i : Nat) : List (Nat × aE) := @Bool.rec (fun _ => List (Nat × aE)) (eB64_76 i) (eB64_66 i) (Nat.ble i 189)
noncomputable def eB64_43 (i : Nat) : List (Nat × aE) := @Bool.rec (fun _ => List (Nat × aE)) (eB64_65 i) (eB64_44 i) (Nat.ble i 140)
noncomputable def eB64 (i : Nat) : List (Nat × aE) := @Bool.rec (fun _ => List (Nat × aE)) (@Bool.rec (fun _ => List (Nat × aE)) (eB64_43 i) (eB64_1 i) (Nat.ble i 53)) ([]) (Nat.ble 205 i)
theorem eB64_t : fTau eB64 := fun i h => by
  unfold eB64
  rw [Nat.ble_eq_true_of_le h]
theorem le64 : fTauLe eB64 tG6 205 = true := by decide +kernel
theorem fr64 : frB eB64 = true := by decide +kernel
theorem df64 : defA eB64 = true := by decide +kernel
theorem sB64 : rB eB64 1000000 246 (0, Int.ofNat 6, Int.ofNat 2147483647, []) (0, Int.ofNat 4, Int.ofNat 4, []) = true := by decide +kernel
theorem sD64 : rD eB64 1000000 246 (0, Int.ofNat 6, Int.ofNat 2147483647, []) (0, Int.ofNat 4, Int.ofNat 4, []) = true := by decide +kernel
theorem bd64 {n : Nat} {xs : Nat → Int32} (hn : n ≤ 3074) (hw : satE (0, Int.ofNat 6, Int.ofNat 2147483647, []) (.int (sx n xs 0))) (hh : satE (0, Int.ofNat 4, Int.ofNat 4, []) (.int (sx n xs 1))) : pLaw n xs := start2 eB64_t hn (by decide) (by decide) hw hh (by decide +kernel) (by decide +kernel) df64 sB64 sD64 (start3 (z := 24) eB64_t tG6_t hn le64 fr64 (by decide +kernel) (by decide +kernel) lw_6)
