def gR0 : List (Nat × aE) := [(1, (1, Int.ofNat 0, Int.ofNat 0, [1])), (2, (1, Int.ofNat 0, Int.ofNat 0, [18])), (3, (1, Int.ofNat 0, Int.ofNat 0, [35])), (4, (1, Int.ofNat 0, Int.ofNat 0, [56])), (5, (1, Int.ofNat 0, Int.ofNat 0, [61])), (6, (1, Int.ofNat 0, Int.ofNat 0, [64])), (7, (1, Int.ofNat 0, Int.ofNat 0, [67])), (8, (1, Int.ofNat 0, Int.ofNat 0, [136])), (9, (1, Int.ofNat 0, Int.ofNat 0, [184]))]
def gR1 : List (Nat × aE) := [(1, (1, Int.ofNat 0, Int.ofNat 0, [2])), (2, (1, Int.ofNat 0, Int.ofNat 0, [9])), (3, (1, Int.ofNat 0, Int.ofNat 0, [10])), (4, (1, Int.ofNat 0, Int.ofNat 0, [11])), (5, (1, Int.ofNat 0, Int.ofNat 0, [12])), (6, (1, Int.ofNat 0, Int.ofNat 0, [16])), (7, (1, Int.ofNat 0, Int.ofNat 0, [17])), (11, (0, Int.ofNat 0, Int.ofNat 0, [])), (12, (0, Int.negSucc 0, Int.negSucc 0, []))]
def gR2 : List (Nat × aE) := [(2, (0, Int.ofNat 3, Int.ofNat 3, [])), (3, (0, Int.ofNat 9, Int.ofNat 9, [])), (4, (1, Int.ofNat 0, Int.ofNat 0, [3])), (5, (1, Int.ofNat 0, Int.ofNat 0, [4])), (6, (1, Int.ofNat 0, Int.ofNat 0, [5])), (7, (1, Int.ofNat 0, Int.ofNat 0, [6])), (8, (1, Int.ofNat 0, Int.ofNat 0, [7])), (9, (1, Int.ofNat 0, Int.ofNat 0, [8])), (10, (0, Int.ofNat 0, Int.ofNat 0, [])), (11, (0, Int.ofNat 0, Int.ofNat 3, [])), (12, (0, Int.ofNat 0, Int.ofNat 1, []))]
def gR3 : List (Nat × aE) := [(36, (0, Int.ofNat 0, Int.ofNat 0, []))]
def gR4 : List (Nat × aE) := [(4, (0, Int.ofNat 0, Int.ofNat 0, []))]
def gR5 : List (Nat × aE) := [(1, (0, Int.ofNat 10, Int.ofNat 10, [])), (5, (0, Int.ofNat 0, Int.ofNat 0, [])), (6, (0, Int.ofNat 10, Int.ofNat 10, [])), (10, (0, Int.ofNat 0, Int.ofNat 0, [])), (11, (0, Int.ofNat 10, Int.ofNat 10, [])), (15, (0, Int.ofNat 0, Int.ofNat 0, [])), (16, (0, Int.ofNat 10, Int.ofNat 10, []))]
def gR6 : List (Nat × aE) := [(1, (0, Int.ofNat 0, Int.ofNat 8, [])), (2, (0, Int.ofNat 0, Int.ofNat 20, [])), (3, (0, Int.ofNat 0, Int.ofNat 0, [])), (4, (0, Int.ofNat 0, Int.ofNat 1, [])), (5, (0, Int.ofNat 1, Int.ofNat 1, []))]
def gR7 : List (Nat × aE) := [(1, (0, Int.ofNat 0, Int.ofNat 0, [])), (2, (0, Int.ofNat 20, Int.ofNat 20, [])), (5, (0, Int.ofNat 0, Int.ofNat 0, []))]
def gR8 : List (Nat × aE) := [(1, (0, Int.ofNat 1, Int.ofNat 1, [])), (2, (0, Int.ofNat 2, Int.ofNat 2, [])), (3, (0, Int.ofNat 3, Int.ofNat 3, []))]
def gR9 : List (Nat × aE) := [(1, (1, Int.ofNat 0, Int.ofNat 0, [13])), (2, (1, Int.ofNat 0, Int.ofNat 0, [14])), (3, (1, Int.ofNat 0, Int.ofNat 0, [15])), (4, (0, Int.ofNat 0, Int.ofNat 0, []))]
def gR10 : List (Nat × aE) := [(6, (0, Int.ofNat 1, Int.ofNat 1, []))]
def gR11 : List (Nat × aE) := [(30, (0, Int.ofNat 0, Int.ofNat 0, []))]
def gR12 : List (Nat × aE) := [(12, (0, Int.ofNat 0, Int.ofNat 0, []))]
def gR13 : List (Nat × aE) := [(12, (0, Int.ofNat 4, Int.ofNat 4, []))]
def gR14 : List (Nat × aE) := [(1, (1, Int.ofNat 0, Int.ofNat 0, [19])), (2, (1, Int.ofNat 0, Int.ofNat 0, [26])), (3, (1, Int.ofNat 0, Int.ofNat 0, [27])), (4, (1, Int.ofNat 0, Int.ofNat 0, [28])), (5, (1, Int.ofNat 0, Int.ofNat 0, [29])), (6, (1, Int.ofNat 0, Int.ofNat 0, [33])), (7, (1, Int.ofNat 0, Int.ofNat 0, [34])), (11, (0, Int.ofNat 0, Int.ofNat 0, [])), (12, (0, Int.negSucc 0, Int.negSucc 0, []))]
def gR15 : List (Nat × aE) := [(2, (0, Int.ofNat 3, Int.ofNat 3, [])), (3, (0, Int.ofNat 9, Int.ofNat 9, [])), (4, (1, Int.ofNat 0, Int.ofNat 0, [20])), (5, (1, Int.ofNat 0, Int.ofNat 0, [21])), (6, (1, Int.ofNat 0, Int.ofNat 0, [22])), (7, (1, Int.ofNat 0, Int.ofNat 0, [23])), (8, (1, Int.ofNat 0, Int.ofNat 0, [24])), (9, (1, Int.ofNat 0, Int.ofNat 0, [25])), (12, (0, Int.ofNat 0, Int.ofNat 0, []))]
def gR16 : List (Nat × aE) := [(1, (0, Int.ofNat 0, Int.ofNat 0, [])), (2, (0, Int.ofNat 20, Int.ofNat 20, [])), (4, (0, Int.ofNat 0, Int.ofNat 0, [])), (5, (0, Int.ofNat 1, Int.ofNat 1, []))]
def gR17 : List (Nat × aE) := [(1, (1, Int.ofNat 0, Int.ofNat 0, [30])), (2, (1, Int.ofNat 0, Int.ofNat 0, [31])), (3, (1, Int.ofNat 0, Int.ofNat 0, [32])), (4, (0, Int.ofNat 0, Int.ofNat 0, []))]
def gR18 : List (Nat × aE) := [(1, (1, Int.ofNat 0, Int.ofNat 0, [36])), (2, (1, Int.ofNat 0, Int.ofNat 0, [41])), (3, (1, Int.ofNat 0, Int.ofNat 0, [46])), (4, (1, Int.ofNat 0, Int.ofNat 0, [51]))]
def gR19 : List (Nat × aE) := [(1, (1, Int.ofNat 0, Int.ofNat 0, [37])), (2, (1, Int.ofNat 0, Int.ofNat 0, [38])), (3, (1, Int.ofNat 0, Int.ofNat 0, [39])), (4, (1, Int.ofNat 0, Int.ofNat 0, [40])), (6, (0, Int.ofNat 0, Int.ofNat 0, []))]
def gR20 : List (Nat × aE) := [(300, (0, Int.ofNat 0, Int.ofNat 0, []))]
def gR21 : List (Nat × aE) := [(13, (0, Int.ofNat 0, Int.ofNat 0, []))]
def gR22 : List (Nat × aE) := [(1, (1, Int.ofNat 0, Int.ofNat 0, [42])), (2, (1, Int.ofNat 0, Int.ofNat 0, [43])), (3, (1, Int.ofNat 0, Int.ofNat 0, [44])), (4, (1, Int.ofNat 0, Int.ofNat 0, [45])), (6, (0, Int.ofNat 0, Int.ofNat 0, []))]
def gR23 : List (Nat × aE) := [(1, (1, Int.ofNat 0, Int.ofNat 0, [47])), (2, (1, Int.ofNat 0, Int.ofNat 0, [48])), (3, (1, Int.ofNat 0, Int.ofNat 0, [49])), (4, (1, Int.ofNat 0, Int.ofNat 0, [50])), (6, (0, Int.ofNat 0, Int.ofNat 0, []))]
def gR24 : List (Nat × aE) := [(1, (1, Int.ofNat 0, Int.ofNat 0, [52])), (2, (1, Int.ofNat 0, Int.ofNat 0, [53])), (3, (1, Int.ofNat 0, Int.ofNat 0, [54])), (4, (1, Int.ofNat 0, Int.ofNat 0, [55])), (6, (0, Int.ofNat 0, Int.ofNat 0, []))]
def gR25 : List (Nat × aE) := [(1, (1, Int.ofNat 0, Int.ofNat 0, [57])), (2, (1, Int.ofNat 0, Int.ofNat 0, [58])), (3, (1, Int.ofNat 0, Int.ofNat 0, [59])), (4, (1, Int.ofNat 0, Int.ofNat 0, [60])), (5, (0, Int.ofNat 0, Int.ofNat 0, [])), (7, (0, Int.negSucc 0, Int.negSucc 0, [])), (8, (1, Int.ofNat 1, Int.ofNat 0, [])), (10, (0, Int.ofNat 0, Int.ofNat 0, [])), (11, (0, Int.ofNat 50, Int.ofNat 50, [])), (12, (0, Int.ofNat 0, Int.ofNat 0, []))]
def gR26 : List (Nat × aE) := [(301, (0, Int.ofNat 0, Int.ofNat 0, []))]
def gR27 : List (Nat × aE) := [(1, (1, Int.ofNat 0, Int.ofNat 0, [2])), (2, (1, Int.ofNat 0, Int.ofNat 0, [62])), (3, (1, Int.ofNat 0, Int.ofNat 0, [63])), (4, (1, Int.ofNat 1, Int.ofNat 0, [])), (5, (1, Int.ofNat 0, Int.ofNat 0, [3, 63, 69, 70, 71, 72, 73, 74, 75, 76, 77, 78, 79, 80, 81, 82, 83, 84, 85, 86, 87, 88, 89])), (6, (0, Int.negSucc 0, Int.ofNat 3, [])), (7, (0, Int.ofNat 0, Int.ofNat 5, [])), (9, (0, Int.ofNat 0, Int.ofNat 0, []))]
def gR28 : List (Nat × aE) := [(64, (0, Int.ofNat 0, Int.ofNat 0, []))]
def gR29 : List (Nat × aE) := [(1, (1, Int.ofNat 0, Int.ofNat 0, [1])), (2, (1, Int.ofNat 0, Int.ofNat 0, [2])), (3, (1, Int.ofNat 0, Int.ofNat 0, [61])), (4, (1, Int.ofNat 0, Int.ofNat 0, [65])), (5, (1, Int.ofNat 0, Int.ofNat 0, [66])), (6, (0, Int.ofNat 0, Int.ofNat 0, []))]
def gR30 : List (Nat × aE) := [(1, (1, Int.ofNat 0, Int.ofNat 0, [1])), (2, (1, Int.ofNat 0, Int.ofNat 0, [2])), (3, (1, Int.ofNat 0, Int.ofNat 0, [61])), (4, (1, Int.ofNat 0, Int.ofNat 0, [68])), (5, (1, Int.ofNat 0, Int.ofNat 0, [90])), (6, (1, Int.ofNat 0, Int.ofNat 0, [112])), (7, (1, Int.ofNat 0, Int.ofNat 0, [134])), (8, (1, Int.ofNat 0, Int.ofNat 0, [135]))]
def gR31 : List (Nat × aE) := [(1, (1, Int.ofNat 0, Int.ofNat 0, [69])), (2, (1, Int.ofNat 0, Int.ofNat 0, [70])), (3, (1, Int.ofNat 0, Int.ofNat 0, [71])), (4, (1, Int.ofNat 0, Int.ofNat 0, [72])), (5, (1, Int.ofNat 0, Int.ofNat 0, [73])), (6, (1, Int.ofNat 0, Int.ofNat 0, [74])), (7, (1, Int.ofNat 0, Int.ofNat 0, [75])), (8, (1, Int.ofNat 0, Int.ofNat 0, [76])), (9, (1, Int.ofNat 0, Int.ofNat 0, [77])), (10, (1, Int.ofNat 0, Int.ofNat 0, [78])), (11, (1, Int.ofNat 0, Int.ofNat 0, [79])), (12, (1, Int.ofNat 0, Int.ofNat 0, [80])), (13, (1, Int.ofNat 0, Int.ofNat 0, [81])), (14, (1, Int.ofNat 0, Int.ofNat 0, [82])), (15, (1, Int.ofNat 0, Int.ofNat 0, [83])), (16, (1, Int.ofNat 0, Int.ofNat 0, [84])), (17, (1, Int.ofNat 0, Int.ofNat 0, [85])), (18, (1, Int.ofNat 0, Int.ofNat 0, [86])), (19, (1, Int.ofNat 0, Int.ofNat 0, [87])), (20, (1, Int.ofNat 0, Int.ofNat 0, [88])), (21, (1, Int.ofNat 0, Int.ofNat 0, [89]))]
def gR32 : List (Nat × aE) := [(1, (1, Int.ofNat 0, Int.ofNat 0, [91])), (2, (1, Int.ofNat 0, Int.ofNat 0, [92])), (3, (1, Int.ofNat 0, Int.ofNat 0, [93])), (4, (1, Int.ofNat 0, Int.ofNat 0, [94])), (5, (1, Int.ofNat 0, Int.ofNat 0, [95])), (6, (1, Int.ofNat 0, Int.ofNat 0, [96])), (7, (1, Int.ofNat 0, Int.ofNat 0, [97])), (8, (1, Int.ofNat 0, Int.ofNat 0, [98])), (9, (1, Int.ofNat 0, Int.ofNat 0, [99])), (10, (1, Int.ofNat 0, Int.ofNat 0, [100])), (11, (1, Int.ofNat 0, Int.ofNat 0, [101])), (12, (1, Int.ofNat 0, Int.ofNat 0, [102])), (13, (1, Int.ofNat 0, Int.ofNat 0, [103])), (14, (1, Int.ofNat 0, Int.ofNat 0, [104])), (15, (1, Int.ofNat 0, Int.ofNat 0, [105])), (16, (1, Int.ofNat 0, Int.ofNat 0, [106])), (17, (1, Int.ofNat 0, Int.ofNat 0, [107])), (18, (1, Int.ofNat 0, Int.ofNat 0, [108])), (19, (1, Int.ofNat 0, Int.ofNat 0, [109])), (20, (1, Int.ofNat 0, Int.ofNat 0, [110])), (21, (1, Int.ofNat 0, Int.ofNat 0, [111]))]
def gR33 : List (Nat × aE) := [(36, (0, Int.ofNat 0, Int.ofNat 1, []))]
def gR34 : List (Nat × aE) := [(1, (1, Int.ofNat 0, Int.ofNat 0, [113])), (2, (1, Int.ofNat 0, Int.ofNat 0, [114])), (3, (1, Int.ofNat 0, Int.ofNat 0, [115])), (4, (1, Int.ofNat 0, Int.ofNat 0, [116])), (5, (1, Int.ofNat 0, Int.ofNat 0, [117])), (6, (1, Int.ofNat 0, Int.ofNat 0, [118])), (7, (1, Int.ofNat 0, Int.ofNat 0, [119])), (8, (1, Int.ofNat 0, Int.ofNat 0, [120])), (9, (1, Int.ofNat 0, Int.ofNat 0, [121])), (10, (1, Int.ofNat 0, Int.ofNat 0, [122])), (11, (1, Int.ofNat 0, Int.ofNat 0, [123])), (12, (1, Int.ofNat 0, Int.ofNat 0, [124])), (13, (1, Int.ofNat 0, Int.ofNat 0, [125])), (14, (1, Int.ofNat 0, Int.ofNat 0, [126])), (15, (1, Int.ofNat 0, Int.ofNat 0, [127])), (16, (1, Int.ofNat 0, Int.ofNat 0, [128])), (17, (1, Int.ofNat 0, Int.ofNat 0, [129])), (18, (1, Int.ofNat 0, Int.ofNat 0, [130])), (19, (1, Int.ofNat 0, Int.ofNat 0, [131])), (20, (1, Int.ofNat 0, Int.ofNat 0, [132])), (21, (1, Int.ofNat 0, Int.ofNat 0, [133]))]
def gR35 : List (Nat × aE) := [(21, (0, Int.negSucc 0, Int.ofNat 3, []))]
def gR36 : List (Nat × aE) := [(21, (0, Int.ofNat 0, Int.ofNat 5, []))]
def gR37 : List (Nat × aE) := [(1, (1, Int.ofNat 0, Int.ofNat 0, [1])), (2, (1, Int.ofNat 0, Int.ofNat 0, [2])), (3, (1, Int.ofNat 0, Int.ofNat 0, [64])), (4, (1, Int.ofNat 0, Int.ofNat 0, [61])), (5, (1, Int.ofNat 0, Int.ofNat 0, [67])), (6, (1, Int.ofNat 0, Int.ofNat 0, [137])), (7, (1, Int.ofNat 0, Int.ofNat 0, [140])), (8, (1, Int.ofNat 0, Int.ofNat 0, [154])), (9, (1, Int.ofNat 0, Int.ofNat 0, [168])), (10, (1, Int.ofNat 0, Int.ofNat 0, [182])), (11, (1, Int.ofNat 0, Int.ofNat 0, [183])), (12, (0, Int.ofNat 0, Int.ofNat 1000000, []))]
def gR38 : List (Nat × aE) := [(1, (1, Int.ofNat 0, Int.ofNat 0, [138])), (2, (1, Int.ofNat 0, Int.ofNat 0, [139]))]
def gR39 : List (Nat × aE) := [(72, (0, Int.ofNat 0, Int.ofNat 1000000, []))]
def gR40 : List (Nat × aE) := [(1, (1, Int.ofNat 0, Int.ofNat 0, [141])), (2, (1, Int.ofNat 0, Int.ofNat 0, [142])), (3, (1, Int.ofNat 0, Int.ofNat 0, [143])), (4, (1, Int.ofNat 0, Int.ofNat 0, [144])), (5, (1, Int.ofNat 0, Int.ofNat 0, [145])), (6, (1, Int.ofNat 0, Int.ofNat 0, [146])), (7, (1, Int.ofNat 0, Int.ofNat 0, [147])), (8, (1, Int.ofNat 0, Int.ofNat 0, [148])), (9, (1, Int.ofNat 0, Int.ofNat 0, [149])), (10, (1, Int.ofNat 0, Int.ofNat 0, [150])), (11, (1, Int.ofNat 0, Int.ofNat 0, [151])), (12, (1, Int.ofNat 0, Int.ofNat 0, [152])), (13, (1, Int.ofNat 0, Int.ofNat 0, [153]))]
def gR41 : List (Nat × aE) := [(1, (1, Int.ofNat 0, Int.ofNat 0, [155])), (2, (1, Int.ofNat 0, Int.ofNat 0, [156])), (3, (1, Int.ofNat 0, Int.ofNat 0, [157])), (4, (1, Int.ofNat 0, Int.ofNat 0, [158])), (5, (1, Int.ofNat 0, Int.ofNat 0, [159])), (6, (1, Int.ofNat 0, Int.ofNat 0, [160])), (7, (1, Int.ofNat 0, Int.ofNat 0, [161])), (8, (1, Int.ofNat 0, Int.ofNat 0, [162])), (9, (1, Int.ofNat 0, Int.ofNat 0, [163])), (10, (1, Int.ofNat 0, Int.ofNat 0, [164])), (11, (1, Int.ofNat 0, Int.ofNat 0, [165])), (12, (1, Int.ofNat 0, Int.ofNat 0, [166])), (13, (1, Int.ofNat 0, Int.ofNat 0, [167]))]
def gR42 : List (Nat × aE) := [(36, (0, Int.ofNat 0, Int.ofNat 1000000, []))]
def gR43 : List (Nat × aE) := [(1, (1, Int.ofNat 0, Int.ofNat 0, [169])), (2, (1, Int.ofNat 0, Int.ofNat 0, [170])), (3, (1, Int.ofNat 0, Int.ofNat 0, [171])), (4, (1, Int.ofNat 0, Int.ofNat 0, [172])), (5, (1, Int.ofNat 0, Int.ofNat 0, [173])), (6, (1, Int.ofNat 0, Int.ofNat 0, [174])), (7, (1, Int.ofNat 0, Int.ofNat 0, [175])), (8, (1, Int.ofNat 0, Int.ofNat 0, [176])), (9, (1, Int.ofNat 0, Int.ofNat 0, [177])), (10, (1, Int.ofNat 0, Int.ofNat 0, [178])), (11, (1, Int.ofNat 0, Int.ofNat 0, [179])), (12, (1, Int.ofNat 0, Int.ofNat 0, [180])), (13, (1, Int.ofNat 0, Int.ofNat 0, [181]))]
def gR44 : List (Nat × aE) := [(36, (0, Int.negSucc 0, Int.ofNat 36, []))]
def gR45 : List (Nat × aE) := [(36, (0, Int.ofNat 0, Int.ofNat 8, []))]
def gR46 : List (Nat × aE) := [(1, (1, Int.ofNat 0, Int.ofNat 0, [1])), (2, (1, Int.ofNat 0, Int.ofNat 0, [2])), (3, (1, Int.ofNat 0, Int.ofNat 0, [64])), (4, (1, Int.ofNat 0, Int.ofNat 0, [67])), (5, (0, Int.ofNat 0, Int.ofNat 0, [])), (6, (0, Int.negSucc 0, Int.ofNat 7, []))]
def gR47 : List (Nat × aE) := [(2, (0, Int.ofNat 3, Int.ofNat 3, [])), (3, (0, Int.ofNat 9, Int.ofNat 9, [])), (4, (1, Int.ofNat 0, Int.ofNat 0, [186])), (5, (1, Int.ofNat 0, Int.ofNat 0, [187])), (6, (1, Int.ofNat 0, Int.ofNat 0, [188])), (7, (1, Int.ofNat 0, Int.ofNat 0, [189])), (8, (0, Int.ofNat 0, Int.ofNat 0, [])), (10, (0, Int.negSucc 0, Int.negSucc 0, [])), (14, (0, Int.ofNat 0, Int.ofNat 0, [])), (15, (2, Int.ofNat 0, Int.ofNat 0, [])), (19, (0, Int.ofNat 0, Int.ofNat 0, [])), (20, (1, Int.ofNat 0, Int.ofNat 0, [190])), (25, (0, Int.ofNat 0, Int.ofNat 0, [])), (26, (1, Int.ofNat 0, Int.ofNat 0, [191])), (27, (1, Int.ofNat 0, Int.ofNat 0, [192])), (28, (1, Int.ofNat 0, Int.ofNat 0, [193])), (29, (1, Int.ofNat 0, Int.ofNat 0, [194])), (30, (1, Int.ofNat 0, Int.ofNat 0, [195])), (31, (1, Int.ofNat 0, Int.ofNat 0, [196])), (32, (1, Int.ofNat 0, Int.ofNat 0, [197])), (33, (0, Int.ofNat 0, Int.ofNat 0, [])), (34, (1, Int.ofNat 0, Int.ofNat 0, [198])), (35, (1, Int.ofNat 0, Int.ofNat 0, [199])), (36, (1, Int.ofNat 0, Int.ofNat 0, [200])), (37, (1, Int.ofNat 0, Int.ofNat 0, [201])), (38, (1, Int.ofNat 0, Int.ofNat 0, [202])), (39, (1, Int.ofNat 0, Int.ofNat 0, [203])), (40, (0, Int.negSucc 0, Int.ofNat 7, [])), (41, (1, Int.ofNat 0, Int.ofNat 0, [204])), (47, (0, Int.ofNat 0, Int.ofNat 0, []))]
def gR48 : List (Nat × aE) := [(1, (0, Int.ofNat 0, Int.ofNat 1, [])), (2, (0, Int.ofNat 0, Int.ofNat 3, [])), (3, (0, Int.ofNat 0, Int.ofNat 0, [])), (4, (0, Int.negSucc 0, Int.negSucc 0, [])), (5, (0, Int.ofNat 0, Int.ofNat 3, [])), (9, (0, Int.ofNat 0, Int.ofNat 0, [])), (10, (0, Int.ofNat 1, Int.ofNat 1, [])), (11, (0, Int.ofNat 2, Int.ofNat 2, [])), (12, (0, Int.ofNat 3, Int.ofNat 3, [])), (20, (0, Int.ofNat 0, Int.ofNat 0, [])), (21, (0, Int.ofNat 0, Int.ofNat 8, [])), (22, (0, Int.ofNat 0, Int.ofNat 20, [])), (23, (0, Int.ofNat 0, Int.ofNat 1, [])), (24, (0, Int.ofNat 0, Int.ofNat 0, [])), (25, (0, Int.ofNat 1, Int.ofNat 1, [])), (26, (0, Int.ofNat 0, Int.ofNat 0, [])), (27, (0, Int.ofNat 20, Int.ofNat 20, [])), (160, (0, Int.ofNat 0, Int.ofNat 0, [])), (161, (0, Int.ofNat 10, Int.ofNat 10, [])), (165, (0, Int.ofNat 0, Int.ofNat 0, [])), (166, (0, Int.ofNat 10, Int.ofNat 10, [])), (170, (0, Int.ofNat 0, Int.ofNat 0, [])), (171, (0, Int.ofNat 10, Int.ofNat 10, [])), (175, (0, Int.ofNat 0, Int.ofNat 0, [])), (176, (0, Int.ofNat 10, Int.ofNat 10, [])), (180, (0, Int.ofNat 0, Int.ofNat 0, [])), (183, (0, Int.ofNat 0, Int.ofNat 3, [])), (195, (0, Int.ofNat 0, Int.ofNat 0, [])), (207, (0, Int.ofNat 4, Int.ofNat 4, [])), (210, (0, Int.ofNat 0, Int.ofNat 0, [])), (216, (0, Int.ofNat 1, Int.ofNat 1, [])), (280, (0, Int.ofNat 0, Int.ofNat 0, []))]
def gR49 : List (Nat × aE) := [(3, (0, Int.ofNat 0, Int.ofNat 0, [])), (4, (0, Int.negSucc 0, Int.negSucc 0, [])), (9, (0, Int.ofNat 0, Int.ofNat 0, [])), (10, (0, Int.ofNat 1, Int.ofNat 1, [])), (11, (0, Int.ofNat 2, Int.ofNat 2, [])), (12, (0, Int.ofNat 3, Int.ofNat 3, [])), (21, (0, Int.ofNat 0, Int.ofNat 0, [])), (22, (0, Int.ofNat 20, Int.ofNat 20, [])), (24, (0, Int.ofNat 0, Int.ofNat 0, [])), (25, (0, Int.ofNat 1, Int.ofNat 1, [])), (26, (0, Int.ofNat 0, Int.ofNat 0, [])), (27, (0, Int.ofNat 20, Int.ofNat 20, [])), (160, (0, Int.ofNat 0, Int.ofNat 0, [])), (161, (0, Int.ofNat 10, Int.ofNat 10, [])), (165, (0, Int.ofNat 0, Int.ofNat 0, [])), (166, (0, Int.ofNat 10, Int.ofNat 10, [])), (170, (0, Int.ofNat 0, Int.ofNat 0, [])), (171, (0, Int.ofNat 10, Int.ofNat 10, [])), (175, (0, Int.ofNat 0, Int.ofNat 0, [])), (176, (0, Int.ofNat 10, Int.ofNat 10, [])), (195, (0, Int.ofNat 0, Int.ofNat 0, [])), (207, (0, Int.ofNat 4, Int.ofNat 4, [])), (210, (0, Int.ofNat 0, Int.ofNat 0, [])), (216, (0, Int.ofNat 1, Int.ofNat 1, [])), (280, (0, Int.ofNat 0, Int.ofNat 0, []))]
def gR50 : List (Nat × aE) := [(3200, (0, Int.ofNat 0, Int.ofNat 0, []))]
def gR51 : List (Nat × aE) := [(160, (0, Int.ofNat 0, Int.ofNat 0, []))]
def gR52 : List (Nat × aE) := [(5, (0, Int.ofNat 0, Int.ofNat 0, [])), (6, (0, Int.ofNat 0, Int.ofNat 2, [])), (7, (0, Int.ofNat 0, Int.ofNat 8, [])), (8, (0, Int.ofNat 0, Int.ofNat 3, [])), (9, (0, Int.ofNat 0, Int.ofNat 4, [])), (11, (0, Int.ofNat 0, Int.ofNat 0, []))]
def gR53 : List (Nat × aE) := [(330, (2, Int.ofNat 0, Int.ofNat 0, []))]
def gR54 : List (Nat × aE) := [(330, (0, Int.ofNat 0, Int.ofNat 0, []))]
def gR55 : List (Nat × aE) := [(720, (0, Int.ofNat 0, Int.ofNat 0, []))]
def gR56 : List (Nat × aE) := [(468, (0, Int.ofNat 0, Int.ofNat 1, []))]
def gR57 : List (Nat × aE) := [(468, (0, Int.ofNat 0, Int.ofNat 0, []))]
def gR58 : List (Nat × aE) := [(93600, (0, Int.negSucc 0, Int.ofNat 36, []))]
def gR59 : List (Nat × aE) := [(13, (0, Int.ofNat 0, Int.ofNat 20, []))]
def gR60 : List (Nat × aE) := [(93600, (0, Int.ofNat 0, Int.ofNat 1, []))]
noncomputable def tB33_5 (i : Nat) : List (Nat × aE) := @Bool.rec (fun _ => List (Nat × aE)) (gR1) (gR0) (Nat.ble i 0)
noncomputable def tB33_7 (i : Nat) : List (Nat × aE) := @Bool.rec (fun _ => List (Nat × aE)) (gR4) (gR3) (Nat.ble i 5)
noncomputable def tB33_6 (i : Nat) : List (Nat × aE) := @Bool.rec (fun _ => List (Nat × aE)) (tB33_7 i) (gR2) (Nat.ble i 2)
noncomputable def tB33_4 (i : Nat) : List (Nat × aE) := @Bool.rec (fun _ => List (Nat × aE)) (tB33_6 i) (tB33_5 i) (Nat.ble i 1)
noncomputable def tB33_10 (i : Nat) : List (Nat × aE) := @Bool.rec (fun _ => List (Nat × aE)) (gR7) (gR6) (Nat.ble i 9)
noncomputable def tB33_9 (i : Nat) : List (Nat × aE) := @Bool.rec (fun _ => List (Nat × aE)) (tB33_10 i) (gR5) (Nat.ble i 8)
noncomputable def tB33_12 (i : Nat) : List (Nat × aE) := @Bool.rec (fun _ => List (Nat × aE)) (gR10) (gR9) (Nat.ble i 12)
noncomputable def tB33_11 (i : Nat) : List (Nat × aE) := @Bool.rec (fun _ => List (Nat × aE)) (tB33_12 i) (gR8) (Nat.ble i 11)
noncomputable def tB33_8 (i : Nat) : List (Nat × aE) := @Bool.rec (fun _ => List (Nat × aE)) (tB33_11 i) (tB33_9 i) (Nat.ble i 10)
noncomputable def tB33_3 (i : Nat) : List (Nat × aE) := @Bool.rec (fun _ => List (Nat × aE)) (tB33_8 i) (tB33_4 i) (Nat.ble i 7)
noncomputable def tB33_16 (i : Nat) : List (Nat × aE) := @Bool.rec (fun _ => List (Nat × aE)) (gR13) (gR12) (Nat.ble i 16)
noncomputable def tB33_15 (i : Nat) : List (Nat × aE) := @Bool.rec (fun _ => List (Nat × aE)) (tB33_16 i) (gR11) (Nat.ble i 15)
noncomputable def tB33_18 (i : Nat) : List (Nat × aE) := @Bool.rec (fun _ => List (Nat × aE)) (gR3) (gR15) (Nat.ble i 19)
noncomputable def tB33_17 (i : Nat) : List (Nat × aE) := @Bool.rec (fun _ => List (Nat × aE)) (tB33_18 i) (gR14) (Nat.ble i 18)
noncomputable def tB33_14 (i : Nat) : List (Nat × aE) := @Bool.rec (fun _ => List (Nat × aE)) (tB33_17 i) (tB33_15 i) (Nat.ble i 17)
noncomputable def tB33_21 (i : Nat) : List (Nat × aE) := @Bool.rec (fun _ => List (Nat × aE)) (gR16) (gR5) (Nat.ble i 25)
noncomputable def tB33_20 (i : Nat) : List (Nat × aE) := @Bool.rec (fun _ => List (Nat × aE)) (tB33_21 i) (gR4) (Nat.ble i 24)
noncomputable def tB33_23 (i : Nat) : List (Nat × aE) := @Bool.rec (fun _ => List (Nat × aE)) (gR17) (gR8) (Nat.ble i 28)
noncomputable def tB33_22 (i : Nat) : List (Nat × aE) := @Bool.rec (fun _ => List (Nat × aE)) (tB33_23 i) (gR7) (Nat.ble i 27)
noncomputable def tB33_19 (i : Nat) : List (Nat × aE) := @Bool.rec (fun _ => List (Nat × aE)) (tB33_22 i) (tB33_20 i) (Nat.ble i 26)
noncomputable def tB33_13 (i : Nat) : List (Nat × aE) := @Bool.rec (fun _ => List (Nat × aE)) (tB33_19 i) (tB33_14 i) (Nat.ble i 22)
noncomputable def tB33_2 (i : Nat) : List (Nat × aE) := @Bool.rec (fun _ => List (Nat × aE)) (tB33_13 i) (tB33_3 i) (Nat.ble i 13)
noncomputable def tB33_27 (i : Nat) : List (Nat × aE) := @Bool.rec (fun _ => List (Nat × aE)) (gR11) (gR10) (Nat.ble i 30)
noncomputable def tB33_29 (i : Nat) : List (Nat × aE) := @Bool.rec (fun _ => List (Nat × aE)) (gR18) (gR13) (Nat.ble i 34)
noncomputable def tB33_28 (i : Nat) : List (Nat × aE) := @Bool.rec (fun _ => List (Nat × aE)) (tB33_29 i) (gR12) (Nat.ble i 33)
noncomputable def tB33_26 (i : Nat) : List (Nat × aE) := @Bool.rec (fun _ => List (Nat × aE)) (tB33_28 i) (tB33_27 i) (Nat.ble i 32)
noncomputable def tB33_32 (i : Nat) : List (Nat × aE) := @Bool.rec (fun _ => List (Nat × aE)) (gR21) (gR20) (Nat.ble i 37)
noncomputable def tB33_31 (i : Nat) : List (Nat × aE) := @Bool.rec (fun _ => List (Nat × aE)) (tB33_32 i) (gR19) (Nat.ble i 36)
noncomputable def tB33_34 (i : Nat) : List (Nat × aE) := @Bool.rec (fun _ => List (Nat × aE)) (gR20) (gR22) (Nat.ble i 41)
noncomputable def tB33_33 (i : Nat) : List (Nat × aE) := @Bool.rec (fun _ => List (Nat × aE)) (tB33_34 i) (gR12) (Nat.ble i 40)
noncomputable def tB33_30 (i : Nat) : List (Nat × aE) := @Bool.rec (fun _ => List (Nat × aE)) (tB33_33 i) (tB33_31 i) (Nat.ble i 38)
noncomputable def tB33_25 (i : Nat) : List (Nat × aE) := @Bool.rec (fun _ => List (Nat × aE)) (tB33_30 i) (tB33_26 i) (Nat.ble i 35)
noncomputable def tB33_38 (i : Nat) : List (Nat × aE) := @Bool.rec (fun _ => List (Nat × aE)) (gR23) (gR12) (Nat.ble i 45)
noncomputable def tB33_37 (i : Nat) : List (Nat × aE) := @Bool.rec (fun _ => List (Nat × aE)) (tB33_38 i) (gR21) (Nat.ble i 43)
noncomputable def tB33_40 (i : Nat) : List (Nat × aE) := @Bool.rec (fun _ => List (Nat × aE)) (gR12) (gR21) (Nat.ble i 48)
noncomputable def tB33_39 (i : Nat) : List (Nat × aE) := @Bool.rec (fun _ => List (Nat × aE)) (tB33_40 i) (gR20) (Nat.ble i 47)
noncomputable def tB33_36 (i : Nat) : List (Nat × aE) := @Bool.rec (fun _ => List (Nat × aE)) (tB33_39 i) (tB33_37 i) (Nat.ble i 46)
noncomputable def tB33_43 (i : Nat) : List (Nat × aE) := @Bool.rec (fun _ => List (Nat × aE)) (gR21) (gR20) (Nat.ble i 52)
noncomputable def tB33_42 (i : Nat) : List (Nat × aE) := @Bool.rec (fun _ => List (Nat × aE)) (tB33_43 i) (gR24) (Nat.ble i 51)
noncomputable def tB33_45 (i : Nat) : List (Nat × aE) := @Bool.rec (fun _ => List (Nat × aE)) (gR20) (gR25) (Nat.ble i 56)
noncomputable def tB33_44 (i : Nat) : List (Nat × aE) := @Bool.rec (fun _ => List (Nat × aE)) (tB33_45 i) (gR12) (Nat.ble i 55)
noncomputable def tB33_41 (i : Nat) : List (Nat × aE) := @Bool.rec (fun _ => List (Nat × aE)) (tB33_44 i) (tB33_42 i) (Nat.ble i 53)
noncomputable def tB33_35 (i : Nat) : List (Nat × aE) := @Bool.rec (fun _ => List (Nat × aE)) (tB33_41 i) (tB33_36 i) (Nat.ble i 50)
noncomputable def tB33_24 (i : Nat) : List (Nat × aE) := @Bool.rec (fun _ => List (Nat × aE)) (tB33_35 i) (tB33_25 i) (Nat.ble i 42)
noncomputable def tB33_1 (i : Nat) : List (Nat × aE) := @Bool.rec (fun _ => List (Nat × aE)) (tB33_24 i) (tB33_2 i) (Nat.ble i 29)
noncomputable def tB33_50 (i : Nat) : List (Nat × aE) := @Bool.rec (fun _ => List (Nat × aE)) (gR27) (gR26) (Nat.ble i 60)
noncomputable def tB33_52 (i : Nat) : List (Nat × aE) := @Bool.rec (fun _ => List (Nat × aE)) (gR29) (gR3) (Nat.ble i 63)
noncomputable def tB33_51 (i : Nat) : List (Nat × aE) := @Bool.rec (fun _ => List (Nat × aE)) (tB33_52 i) (gR28) (Nat.ble i 62)
noncomputable def tB33_49 (i : Nat) : List (Nat × aE) := @Bool.rec (fun _ => List (Nat × aE)) (tB33_51 i) (tB33_50 i) (Nat.ble i 61)
noncomputable def tB33_55 (i : Nat) : List (Nat × aE) := @Bool.rec (fun _ => List (Nat × aE)) (gR30) (gR16) (Nat.ble i 66)
noncomputable def tB33_54 (i : Nat) : List (Nat × aE) := @Bool.rec (fun _ => List (Nat × aE)) (tB33_55 i) (gR3) (Nat.ble i 65)
noncomputable def tB33_57 (i : Nat) : List (Nat × aE) := @Bool.rec (fun _ => List (Nat × aE)) (gR32) (gR3) (Nat.ble i 89)
noncomputable def tB33_56 (i : Nat) : List (Nat × aE) := @Bool.rec (fun _ => List (Nat × aE)) (tB33_57 i) (gR31) (Nat.ble i 68)
noncomputable def tB33_53 (i : Nat) : List (Nat × aE) := @Bool.rec (fun _ => List (Nat × aE)) (tB33_56 i) (tB33_54 i) (Nat.ble i 67)
noncomputable def tB33_48 (i : Nat) : List (Nat × aE) := @Bool.rec (fun _ => List (Nat × aE)) (tB33_53 i) (tB33_49 i) (Nat.ble i 64)
noncomputable def tB33_61 (i : Nat) : List (Nat × aE) := @Bool.rec (fun _ => List (Nat × aE)) (gR3) (gR34) (Nat.ble i 112)
noncomputable def tB33_60 (i : Nat) : List (Nat × aE) := @Bool.rec (fun _ => List (Nat × aE)) (tB33_61 i) (gR33) (Nat.ble i 111)
noncomputable def tB33_63 (i : Nat) : List (Nat × aE) := @Bool.rec (fun _ => List (Nat × aE)) (gR37) (gR36) (Nat.ble i 135)
noncomputable def tB33_62 (i : Nat) : List (Nat × aE) := @Bool.rec (fun _ => List (Nat × aE)) (tB33_63 i) (gR35) (Nat.ble i 134)
noncomputable def tB33_59 (i : Nat) : List (Nat × aE) := @Bool.rec (fun _ => List (Nat × aE)) (tB33_62 i) (tB33_60 i) (Nat.ble i 133)
noncomputable def tB33_66 (i : Nat) : List (Nat × aE) := @Bool.rec (fun _ => List (Nat × aE)) (gR40) (gR39) (Nat.ble i 139)
noncomputable def tB33_65 (i : Nat) : List (Nat × aE) := @Bool.rec (fun _ => List (Nat × aE)) (tB33_66 i) (gR38) (Nat.ble i 137)
noncomputable def tB33_68 (i : Nat) : List (Nat × aE) := @Bool.rec (fun _ => List (Nat × aE)) (gR42) (gR41) (Nat.ble i 154)
noncomputable def tB33_67 (i : Nat) : List (Nat × aE) := @Bool.rec (fun _ => List (Nat × aE)) (tB33_68 i) (gR39) (Nat.ble i 153)
noncomputable def tB33_64 (i : Nat) : List (Nat × aE) := @Bool.rec (fun _ => List (Nat × aE)) (tB33_67 i) (tB33_65 i) (Nat.ble i 140)
noncomputable def tB33_58 (i : Nat) : List (Nat × aE) := @Bool.rec (fun _ => List (Nat × aE)) (tB33_64 i) (tB33_59 i) (Nat.ble i 136)
noncomputable def tB33_47 (i : Nat) : List (Nat × aE) := @Bool.rec (fun _ => List (Nat × aE)) (tB33_58 i) (tB33_48 i) (Nat.ble i 90)
noncomputable def tB33_73 (i : Nat) : List (Nat × aE) := @Bool.rec (fun _ => List (Nat × aE)) (gR44) (gR16) (Nat.ble i 181)
noncomputable def tB33_72 (i : Nat) : List (Nat × aE) := @Bool.rec (fun _ => List (Nat × aE)) (tB33_73 i) (gR43) (Nat.ble i 168)
noncomputable def tB33_75 (i : Nat) : List (Nat × aE) := @Bool.rec (fun _ => List (Nat × aE)) (gR47) (gR46) (Nat.ble i 184)
noncomputable def tB33_74 (i : Nat) : List (Nat × aE) := @Bool.rec (fun _ => List (Nat × aE)) (tB33_75 i) (gR45) (Nat.ble i 183)
noncomputable def tB33_71 (i : Nat) : List (Nat × aE) := @Bool.rec (fun _ => List (Nat × aE)) (tB33_74 i) (tB33_72 i) (Nat.ble i 182)
noncomputable def tB33_78 (i : Nat) : List (Nat × aE) := @Bool.rec (fun _ => List (Nat × aE)) (gR50) (gR49) (Nat.ble i 187)
noncomputable def tB33_77 (i : Nat) : List (Nat × aE) := @Bool.rec (fun _ => List (Nat × aE)) (tB33_78 i) (gR48) (Nat.ble i 186)
noncomputable def tB33_80 (i : Nat) : List (Nat × aE) := @Bool.rec (fun _ => List (Nat × aE)) (gR52) (gR51) (Nat.ble i 190)
noncomputable def tB33_79 (i : Nat) : List (Nat × aE) := @Bool.rec (fun _ => List (Nat × aE)) (tB33_80 i) (gR20) (Nat.ble i 189)
noncomputable def tB33_76 (i : Nat) : List (Nat × aE) := @Bool.rec (fun _ => List (Nat × aE)) (tB33_79 i) (tB33_77 i) (Nat.ble i 188)
noncomputable def tB33_70 (i : Nat) : List (Nat × aE) := @Bool.rec (fun _ => List (Nat × aE)) (tB33_76 i) (tB33_71 i) (Nat.ble i 185)
noncomputable def tB33_84 (i : Nat) : List (Nat × aE) := @Bool.rec (fun _ => List (Nat × aE)) (gR55) (gR54) (Nat.ble i 193)
noncomputable def tB33_83 (i : Nat) : List (Nat × aE) := @Bool.rec (fun _ => List (Nat × aE)) (tB33_84 i) (gR53) (Nat.ble i 192)
noncomputable def tB33_86 (i : Nat) : List (Nat × aE) := @Bool.rec (fun _ => List (Nat × aE)) (gR58) (gR57) (Nat.ble i 196)
noncomputable def tB33_85 (i : Nat) : List (Nat × aE) := @Bool.rec (fun _ => List (Nat × aE)) (tB33_86 i) (gR56) (Nat.ble i 195)
noncomputable def tB33_82 (i : Nat) : List (Nat × aE) := @Bool.rec (fun _ => List (Nat × aE)) (tB33_85 i) (tB33_83 i) (Nat.ble i 194)
noncomputable def tB33_89 (i : Nat) : List (Nat × aE) := @Bool.rec (fun _ => List (Nat × aE)) (gR21) (gR59) (Nat.ble i 199)
noncomputable def tB33_88 (i : Nat) : List (Nat × aE) := @Bool.rec (fun _ => List (Nat × aE)) (tB33_89 i) (gR21) (Nat.ble i 198)
noncomputable def tB33_91 (i : Nat) : List (Nat × aE) := @Bool.rec (fun _ => List (Nat × aE)) (gR21) (gR33) (Nat.ble i 203)
noncomputable def tB33_90 (i : Nat) : List (Nat × aE) := @Bool.rec (fun _ => List (Nat × aE)) (tB33_91 i) (gR60) (Nat.ble i 201)
noncomputable def tB33_87 (i : Nat) : List (Nat × aE) := @Bool.rec (fun _ => List (Nat × aE)) (tB33_90 i) (tB33_88 i) (Nat.ble i 200)
noncomputable def tB33_81 (i : Nat) : List (Nat × aE) := @Bool.rec (fun _ => List (Nat × aE)) (tB33_87 i) (tB33_82 i) (Nat.ble i 197)
noncomputable def tB33_69 (i : Nat) : List (Nat × aE) := @Bool.rec (fun _ => List (Nat × aE)) (tB33_81 i) (tB33_70 i) (Nat.ble i 191)
noncomputable def tB33_46 (i : Nat) : List (Nat × aE) := @Bool.rec (fun _ => List (Nat × aE)) (tB33_69 i) (tB33_47 i) (Nat.ble i 167)
noncomputable def tB33 (i : Nat) : List (Nat × aE) := @Bool.rec (fun _ => List (Nat × aE)) (@Bool.rec (fun _ => List (Nat × aE)) (tB33_46 i) (tB33_1 i) (Nat.ble i 57)) ([]) (Nat.ble 205 i)
theorem tB33_t : fTau tB33 := fun i h => by
  unfold tB33
  rw [Nat.ble_eq_true_of_le h]
def gR61 : List (Nat × aE) := [(2, (0, Int.ofNat 3, Int.ofNat 3, [])), (3, (0, Int.ofNat 9, Int.ofNat 9, [])), (4, (1, Int.ofNat 0, Int.ofNat 0, [3])), (5, (1, Int.ofNat 0, Int.ofNat 0, [4])), (6, (1, Int.ofNat 0, Int.ofNat 0, [5])), (7, (1, Int.ofNat 0, Int.ofNat 0, [6])), (8, (1, Int.ofNat 0, Int.ofNat 0, [7])), (9, (1, Int.ofNat 0, Int.ofNat 0, [8])), (12, (0, Int.ofNat 0, Int.ofNat 0, []))]
def gR62 : List (Nat × aE) := [(1, (1, Int.ofNat 0, Int.ofNat 0, [2])), (2, (1, Int.ofNat 0, Int.ofNat 0, [62])), (3, (1, Int.ofNat 0, Int.ofNat 0, [63])), (4, (1, Int.ofNat 1, Int.ofNat 0, [])), (5, (1, Int.ofNat 0, Int.ofNat 0, [3])), (9, (0, Int.ofNat 0, Int.ofNat 0, []))]
def gR63 : List (Nat × aE) := [(21, (0, Int.ofNat 0, Int.ofNat 0, []))]
def gR64 : List (Nat × aE) := [(1, (1, Int.ofNat 0, Int.ofNat 0, [1])), (2, (1, Int.ofNat 0, Int.ofNat 0, [2])), (3, (1, Int.ofNat 0, Int.ofNat 0, [64])), (4, (1, Int.ofNat 0, Int.ofNat 0, [61])), (5, (1, Int.ofNat 0, Int.ofNat 0, [67])), (6, (1, Int.ofNat 0, Int.ofNat 0, [137])), (7, (1, Int.ofNat 0, Int.ofNat 0, [140])), (8, (1, Int.ofNat 0, Int.ofNat 0, [154])), (9, (1, Int.ofNat 0, Int.ofNat 0, [168])), (10, (1, Int.ofNat 0, Int.ofNat 0, [182])), (11, (1, Int.ofNat 0, Int.ofNat 0, [183])), (12, (0, Int.ofNat 0, Int.ofNat 0, []))]
def gR65 : List (Nat × aE) := [(72, (0, Int.ofNat 0, Int.ofNat 0, []))]
def gR66 : List (Nat × aE) := [(1, (1, Int.ofNat 0, Int.ofNat 0, [1])), (2, (1, Int.ofNat 0, Int.ofNat 0, [2])), (3, (1, Int.ofNat 0, Int.ofNat 0, [64])), (4, (1, Int.ofNat 0, Int.ofNat 0, [67])), (6, (0, Int.ofNat 0, Int.ofNat 0, []))]
def gR67 : List (Nat × aE) := [(2, (0, Int.ofNat 3, Int.ofNat 3, [])), (3, (0, Int.ofNat 9, Int.ofNat 9, [])), (4, (1, Int.ofNat 0, Int.ofNat 0, [186])), (5, (1, Int.ofNat 0, Int.ofNat 0, [187])), (6, (1, Int.ofNat 0, Int.ofNat 0, [188])), (7, (1, Int.ofNat 0, Int.ofNat 0, [189])), (8, (0, Int.ofNat 0, Int.ofNat 0, [])), (10, (0, Int.negSucc 0, Int.negSucc 0, [])), (14, (0, Int.ofNat 0, Int.ofNat 0, [])), (15, (2, Int.ofNat 0, Int.ofNat 0, [])), (19, (0, Int.ofNat 0, Int.ofNat 0, [])), (20, (1, Int.ofNat 0, Int.ofNat 0, [190])), (25, (0, Int.ofNat 0, Int.ofNat 0, [])), (26, (1, Int.ofNat 0, Int.ofNat 0, [191])), (27, (1, Int.ofNat 0, Int.ofNat 0, [192])), (28, (1, Int.ofNat 0, Int.ofNat 0, [193])), (29, (1, Int.ofNat 0, Int.ofNat 0, [194])), (30, (1, Int.ofNat 0, Int.ofNat 0, [195])), (31, (1, Int.ofNat 0, Int.ofNat 0, [196])), (32, (1, Int.ofNat 0, Int.ofNat 0, [197])), (33, (0, Int.ofNat 0, Int.ofNat 0, [])), (34, (1, Int.ofNat 0, Int.ofNat 0, [198])), (35, (1, Int.ofNat 0, Int.ofNat 0, [199])), (36, (1, Int.ofNat 0, Int.ofNat 0, [200])), (37, (1, Int.ofNat 0, Int.ofNat 0, [201])), (38, (1, Int.ofNat 0, Int.ofNat 0, [202])), (39, (1, Int.ofNat 0, Int.ofNat 0, [203])), (40, (0, Int.ofNat 0, Int.ofNat 0, [])), (41, (1, Int.ofNat 0, Int.ofNat 0, [204])), (47, (0, Int.ofNat 0, Int.ofNat 0, []))]
def gR68 : List (Nat × aE) := [(11, (0, Int.ofNat 0, Int.ofNat 0, []))]
def gR69 : List (Nat × aE) := [(93600, (0, Int.ofNat 0, Int.ofNat 0, []))]
noncomputable def eB33_5 (i : Nat) : List (Nat × aE) := @Bool.rec (fun _ => List (Nat × aE)) (gR1) (gR0) (Nat.ble i 0)
noncomputable def eB33_7 (i : Nat) : List (Nat × aE) := @Bool.rec (fun _ => List (Nat × aE)) (gR4) (gR3) (Nat.ble i 5)
noncomputable def eB33_6 (i : Nat) : List (Nat × aE) := @Bool.rec (fun _ => List (Nat × aE)) (eB33_7 i) (gR61) (Nat.ble i 2)
noncomputable def eB33_4 (i : Nat) : List (Nat × aE) := @Bool.rec (fun _ => List (Nat × aE)) (eB33_6 i) (eB33_5 i) (Nat.ble i 1)
noncomputable def eB33_9 (i : Nat) : List (Nat × aE) := @Bool.rec (fun _ => List (Nat × aE)) (gR16) (gR5) (Nat.ble i 8)
noncomputable def eB33_11 (i : Nat) : List (Nat × aE) := @Bool.rec (fun _ => List (Nat × aE)) (gR9) (gR8) (Nat.ble i 11)
noncomputable def eB33_10 (i : Nat) : List (Nat × aE) := @Bool.rec (fun _ => List (Nat × aE)) (eB33_11 i) (gR7) (Nat.ble i 10)
noncomputable def eB33_8 (i : Nat) : List (Nat × aE) := @Bool.rec (fun _ => List (Nat × aE)) (eB33_10 i) (eB33_9 i) (Nat.ble i 9)
noncomputable def eB33_3 (i : Nat) : List (Nat × aE) := @Bool.rec (fun _ => List (Nat × aE)) (eB33_8 i) (eB33_4 i) (Nat.ble i 7)
noncomputable def eB33_14 (i : Nat) : List (Nat × aE) := @Bool.rec (fun _ => List (Nat × aE)) (gR11) (gR10) (Nat.ble i 13)
noncomputable def eB33_16 (i : Nat) : List (Nat × aE) := @Bool.rec (fun _ => List (Nat × aE)) (gR14) (gR13) (Nat.ble i 17)
noncomputable def eB33_15 (i : Nat) : List (Nat × aE) := @Bool.rec (fun _ => List (Nat × aE)) (eB33_16 i) (gR12) (Nat.ble i 16)
noncomputable def eB33_13 (i : Nat) : List (Nat × aE) := @Bool.rec (fun _ => List (Nat × aE)) (eB33_15 i) (eB33_14 i) (Nat.ble i 15)
noncomputable def eB33_19 (i : Nat) : List (Nat × aE) := @Bool.rec (fun _ => List (Nat × aE)) (gR4) (gR3) (Nat.ble i 22)
noncomputable def eB33_18 (i : Nat) : List (Nat × aE) := @Bool.rec (fun _ => List (Nat × aE)) (eB33_19 i) (gR15) (Nat.ble i 19)
noncomputable def eB33_21 (i : Nat) : List (Nat × aE) := @Bool.rec (fun _ => List (Nat × aE)) (gR7) (gR16) (Nat.ble i 26)
noncomputable def eB33_20 (i : Nat) : List (Nat × aE) := @Bool.rec (fun _ => List (Nat × aE)) (eB33_21 i) (gR5) (Nat.ble i 25)
noncomputable def eB33_17 (i : Nat) : List (Nat × aE) := @Bool.rec (fun _ => List (Nat × aE)) (eB33_20 i) (eB33_18 i) (Nat.ble i 24)
noncomputable def eB33_12 (i : Nat) : List (Nat × aE) := @Bool.rec (fun _ => List (Nat × aE)) (eB33_17 i) (eB33_13 i) (Nat.ble i 18)
noncomputable def eB33_2 (i : Nat) : List (Nat × aE) := @Bool.rec (fun _ => List (Nat × aE)) (eB33_12 i) (eB33_3 i) (Nat.ble i 12)
noncomputable def eB33_25 (i : Nat) : List (Nat × aE) := @Bool.rec (fun _ => List (Nat × aE)) (gR17) (gR8) (Nat.ble i 28)
noncomputable def eB33_27 (i : Nat) : List (Nat × aE) := @Bool.rec (fun _ => List (Nat × aE)) (gR12) (gR11) (Nat.ble i 32)
noncomputable def eB33_26 (i : Nat) : List (Nat × aE) := @Bool.rec (fun _ => List (Nat × aE)) (eB33_27 i) (gR10) (Nat.ble i 30)
noncomputable def eB33_24 (i : Nat) : List (Nat × aE) := @Bool.rec (fun _ => List (Nat × aE)) (eB33_26 i) (eB33_25 i) (Nat.ble i 29)
noncomputable def eB33_30 (i : Nat) : List (Nat × aE) := @Bool.rec (fun _ => List (Nat × aE)) (gR19) (gR18) (Nat.ble i 35)
noncomputable def eB33_29 (i : Nat) : List (Nat × aE) := @Bool.rec (fun _ => List (Nat × aE)) (eB33_30 i) (gR13) (Nat.ble i 34)
noncomputable def eB33_32 (i : Nat) : List (Nat × aE) := @Bool.rec (fun _ => List (Nat × aE)) (gR12) (gR21) (Nat.ble i 38)
noncomputable def eB33_31 (i : Nat) : List (Nat × aE) := @Bool.rec (fun _ => List (Nat × aE)) (eB33_32 i) (gR20) (Nat.ble i 37)
noncomputable def eB33_28 (i : Nat) : List (Nat × aE) := @Bool.rec (fun _ => List (Nat × aE)) (eB33_31 i) (eB33_29 i) (Nat.ble i 36)
noncomputable def eB33_23 (i : Nat) : List (Nat × aE) := @Bool.rec (fun _ => List (Nat × aE)) (eB33_28 i) (eB33_24 i) (Nat.ble i 33)
noncomputable def eB33_35 (i : Nat) : List (Nat × aE) := @Bool.rec (fun _ => List (Nat × aE)) (gR20) (gR22) (Nat.ble i 41)
noncomputable def eB33_37 (i : Nat) : List (Nat × aE) := @Bool.rec (fun _ => List (Nat × aE)) (gR23) (gR12) (Nat.ble i 45)
noncomputable def eB33_36 (i : Nat) : List (Nat × aE) := @Bool.rec (fun _ => List (Nat × aE)) (eB33_37 i) (gR21) (Nat.ble i 43)
noncomputable def eB33_34 (i : Nat) : List (Nat × aE) := @Bool.rec (fun _ => List (Nat × aE)) (eB33_36 i) (eB33_35 i) (Nat.ble i 42)
noncomputable def eB33_40 (i : Nat) : List (Nat × aE) := @Bool.rec (fun _ => List (Nat × aE)) (gR12) (gR21) (Nat.ble i 48)
noncomputable def eB33_39 (i : Nat) : List (Nat × aE) := @Bool.rec (fun _ => List (Nat × aE)) (eB33_40 i) (gR20) (Nat.ble i 47)
noncomputable def eB33_42 (i : Nat) : List (Nat × aE) := @Bool.rec (fun _ => List (Nat × aE)) (gR21) (gR20) (Nat.ble i 52)
noncomputable def eB33_41 (i : Nat) : List (Nat × aE) := @Bool.rec (fun _ => List (Nat × aE)) (eB33_42 i) (gR24) (Nat.ble i 51)
noncomputable def eB33_38 (i : Nat) : List (Nat × aE) := @Bool.rec (fun _ => List (Nat × aE)) (eB33_41 i) (eB33_39 i) (Nat.ble i 50)
noncomputable def eB33_33 (i : Nat) : List (Nat × aE) := @Bool.rec (fun _ => List (Nat × aE)) (eB33_38 i) (eB33_34 i) (Nat.ble i 46)
noncomputable def eB33_22 (i : Nat) : List (Nat × aE) := @Bool.rec (fun _ => List (Nat × aE)) (eB33_33 i) (eB33_23 i) (Nat.ble i 40)
noncomputable def eB33_1 (i : Nat) : List (Nat × aE) := @Bool.rec (fun _ => List (Nat × aE)) (eB33_22 i) (eB33_2 i) (Nat.ble i 27)
noncomputable def eB33_47 (i : Nat) : List (Nat × aE) := @Bool.rec (fun _ => List (Nat × aE)) (gR25) (gR12) (Nat.ble i 55)
noncomputable def eB33_49 (i : Nat) : List (Nat × aE) := @Bool.rec (fun _ => List (Nat × aE)) (gR62) (gR26) (Nat.ble i 60)
noncomputable def eB33_48 (i : Nat) : List (Nat × aE) := @Bool.rec (fun _ => List (Nat × aE)) (eB33_49 i) (gR20) (Nat.ble i 57)
noncomputable def eB33_46 (i : Nat) : List (Nat × aE) := @Bool.rec (fun _ => List (Nat × aE)) (eB33_48 i) (eB33_47 i) (Nat.ble i 56)
noncomputable def eB33_52 (i : Nat) : List (Nat × aE) := @Bool.rec (fun _ => List (Nat × aE)) (gR29) (gR3) (Nat.ble i 63)
noncomputable def eB33_51 (i : Nat) : List (Nat × aE) := @Bool.rec (fun _ => List (Nat × aE)) (eB33_52 i) (gR28) (Nat.ble i 62)
noncomputable def eB33_54 (i : Nat) : List (Nat × aE) := @Bool.rec (fun _ => List (Nat × aE)) (gR30) (gR16) (Nat.ble i 66)
noncomputable def eB33_53 (i : Nat) : List (Nat × aE) := @Bool.rec (fun _ => List (Nat × aE)) (eB33_54 i) (gR3) (Nat.ble i 65)
noncomputable def eB33_50 (i : Nat) : List (Nat × aE) := @Bool.rec (fun _ => List (Nat × aE)) (eB33_53 i) (eB33_51 i) (Nat.ble i 64)
noncomputable def eB33_45 (i : Nat) : List (Nat × aE) := @Bool.rec (fun _ => List (Nat × aE)) (eB33_50 i) (eB33_46 i) (Nat.ble i 61)
noncomputable def eB33_57 (i : Nat) : List (Nat × aE) := @Bool.rec (fun _ => List (Nat × aE)) (gR3) (gR31) (Nat.ble i 68)
noncomputable def eB33_59 (i : Nat) : List (Nat × aE) := @Bool.rec (fun _ => List (Nat × aE)) (gR34) (gR3) (Nat.ble i 111)
noncomputable def eB33_58 (i : Nat) : List (Nat × aE) := @Bool.rec (fun _ => List (Nat × aE)) (eB33_59 i) (gR32) (Nat.ble i 90)
noncomputable def eB33_56 (i : Nat) : List (Nat × aE) := @Bool.rec (fun _ => List (Nat × aE)) (eB33_58 i) (eB33_57 i) (Nat.ble i 89)
noncomputable def eB33_62 (i : Nat) : List (Nat × aE) := @Bool.rec (fun _ => List (Nat × aE)) (gR64) (gR63) (Nat.ble i 135)
noncomputable def eB33_61 (i : Nat) : List (Nat × aE) := @Bool.rec (fun _ => List (Nat × aE)) (eB33_62 i) (gR3) (Nat.ble i 133)
noncomputable def eB33_64 (i : Nat) : List (Nat × aE) := @Bool.rec (fun _ => List (Nat × aE)) (gR40) (gR65) (Nat.ble i 139)
noncomputable def eB33_63 (i : Nat) : List (Nat × aE) := @Bool.rec (fun _ => List (Nat × aE)) (eB33_64 i) (gR38) (Nat.ble i 137)
noncomputable def eB33_60 (i : Nat) : List (Nat × aE) := @Bool.rec (fun _ => List (Nat × aE)) (eB33_63 i) (eB33_61 i) (Nat.ble i 136)
noncomputable def eB33_55 (i : Nat) : List (Nat × aE) := @Bool.rec (fun _ => List (Nat × aE)) (eB33_60 i) (eB33_56 i) (Nat.ble i 112)
noncomputable def eB33_44 (i : Nat) : List (Nat × aE) := @Bool.rec (fun _ => List (Nat × aE)) (eB33_55 i) (eB33_45 i) (Nat.ble i 67)
noncomputable def eB33_68 (i : Nat) : List (Nat × aE) := @Bool.rec (fun _ => List (Nat × aE)) (gR41) (gR65) (Nat.ble i 153)
noncomputable def eB33_70 (i : Nat) : List (Nat × aE) := @Bool.rec (fun _ => List (Nat × aE)) (gR16) (gR43) (Nat.ble i 168)
noncomputable def eB33_69 (i : Nat) : List (Nat × aE) := @Bool.rec (fun _ => List (Nat × aE)) (eB33_70 i) (gR3) (Nat.ble i 167)
noncomputable def eB33_67 (i : Nat) : List (Nat × aE) := @Bool.rec (fun _ => List (Nat × aE)) (eB33_69 i) (eB33_68 i) (Nat.ble i 154)
noncomputable def eB33_73 (i : Nat) : List (Nat × aE) := @Bool.rec (fun _ => List (Nat × aE)) (gR67) (gR66) (Nat.ble i 184)
noncomputable def eB33_72 (i : Nat) : List (Nat × aE) := @Bool.rec (fun _ => List (Nat × aE)) (eB33_73 i) (gR3) (Nat.ble i 183)
noncomputable def eB33_75 (i : Nat) : List (Nat × aE) := @Bool.rec (fun _ => List (Nat × aE)) (gR20) (gR50) (Nat.ble i 188)
noncomputable def eB33_74 (i : Nat) : List (Nat × aE) := @Bool.rec (fun _ => List (Nat × aE)) (eB33_75 i) (gR49) (Nat.ble i 187)
noncomputable def eB33_71 (i : Nat) : List (Nat × aE) := @Bool.rec (fun _ => List (Nat × aE)) (eB33_74 i) (eB33_72 i) (Nat.ble i 185)
noncomputable def eB33_66 (i : Nat) : List (Nat × aE) := @Bool.rec (fun _ => List (Nat × aE)) (eB33_71 i) (eB33_67 i) (Nat.ble i 181)
noncomputable def eB33_78 (i : Nat) : List (Nat × aE) := @Bool.rec (fun _ => List (Nat × aE)) (gR68) (gR51) (Nat.ble i 190)
noncomputable def eB33_80 (i : Nat) : List (Nat × aE) := @Bool.rec (fun _ => List (Nat × aE)) (gR55) (gR54) (Nat.ble i 193)
noncomputable def eB33_79 (i : Nat) : List (Nat × aE) := @Bool.rec (fun _ => List (Nat × aE)) (eB33_80 i) (gR53) (Nat.ble i 192)
noncomputable def eB33_77 (i : Nat) : List (Nat × aE) := @Bool.rec (fun _ => List (Nat × aE)) (eB33_79 i) (eB33_78 i) (Nat.ble i 191)
noncomputable def eB33_83 (i : Nat) : List (Nat × aE) := @Bool.rec (fun _ => List (Nat × aE)) (gR21) (gR69) (Nat.ble i 197)
noncomputable def eB33_82 (i : Nat) : List (Nat × aE) := @Bool.rec (fun _ => List (Nat × aE)) (eB33_83 i) (gR57) (Nat.ble i 196)
noncomputable def eB33_85 (i : Nat) : List (Nat × aE) := @Bool.rec (fun _ => List (Nat × aE)) (gR21) (gR3) (Nat.ble i 203)
noncomputable def eB33_84 (i : Nat) : List (Nat × aE) := @Bool.rec (fun _ => List (Nat × aE)) (eB33_85 i) (gR69) (Nat.ble i 201)
noncomputable def eB33_81 (i : Nat) : List (Nat × aE) := @Bool.rec (fun _ => List (Nat × aE)) (eB33_84 i) (eB33_82 i) (Nat.ble i 200)
noncomputable def eB33_76 (i : Nat) : List (Nat × aE) := @Bool.rec (fun _ => List (Nat × aE)) (eB33_81 i) (eB33_77 i) (Nat.ble i 194)
noncomputable def eB33_65 (i : Nat) : List (Nat × aE) := @Bool.rec (fun _ => List (Nat × aE)) (eB33_76 i) (eB33_66 i) (Nat.ble i 189)
noncomputable def eB33_43 (i : Nat) : List (Nat × aE) := @Bool.rec (fun _ => List (Nat × aE)) (eB33_65 i) (eB33_44 i) (Nat.ble i 140)
noncomputable def eB33 (i : Nat) : List (Nat × aE) := @Bool.rec (fun _ => List (Nat × aE)) (@Bool.rec (fun _ => List (Nat × aE)) (eB33_43 i) (eB33_1 i) (Nat.ble i 53)) ([]) (Nat.ble 205 i)
theorem eB33_t : fTau eB33 := fun i h => by
  unfold eB33
  rw [Nat.ble_eq_true_of_le h]
def fB33 : fFs := [((2, 10), Int.ofNat 0), ((2, 11), Int.ofNat 0), ((9, 0), Int.ofNat 0), ((9, 1), Int.ofNat 20), ((9, 3), Int.ofNat 0), ((61, 5), Int.ofNat 0), ((61, 6), Int.ofNat 0), ((136, 11), Int.ofNat 0), ((184, 5), Int.ofNat 0), ((185, 39), Int.ofNat 0), ((186, 0), Int.ofNat 0), ((186, 1), Int.ofNat 0), ((186, 4), Int.ofNat 0), ((186, 20), Int.ofNat 0), ((186, 21), Int.ofNat 20), ((186, 22), Int.ofNat 0), ((186, 180), Int.ofNat 0), ((186, 181), Int.ofNat 0), ((186, 182), Int.ofNat 0), ((199, 0), Int.ofNat 0)]
theorem le33 : fTauLe eB33 tB33 205 = true := by decide +kernel
theorem lf33 : fTyF eB33 fB33 = true := by decide +kernel
noncomputable def kc33_0 : fCn := ([(1, Int.ofNat 0, Int.ofNat 0, [185]), (0, Int.ofNat 0, Int.ofNat 8, []), (0, Int.negSucc 0, Int.ofNat 1, []), (0, Int.negSucc 0, Int.ofNat 1, [])], [(0, Int.negSucc 0, Int.ofNat 8, [])], (some []), [], [])
theorem kn33_0 {S : pScr} : cnOk tB33 S 9 161 kc33_0 := con_ok (f := 1000000) (d := 8) (cs := []) (sp := []) (n := 0) tB33_t (tab_nil (d := 0)) rfl (by decide +kernel)
noncomputable def kt33_0 : List (Nat × fCn) := (161, kc33_0) :: ([] : List (Nat × fCn))
theorem ko33_0 {S : pScr} : tabOk tB33 S 9 kt33_0 := tab_cons (tab_nil (d := 0)) kn33_0 (by decide)
noncomputable def kc33_1 : fCn := ([(1, Int.ofNat 0, Int.ofNat 0, [185]), (0, Int.ofNat 0, Int.ofNat 8, []), (0, Int.ofNat 0, Int.ofNat 3, [])], [(0, Int.negSucc 0, Int.ofNat 8, [])], (some []), [], [])
theorem kn33_1 {S : pScr} : cnOk tB33 S 18 162 kc33_1 := con_ok (f := 1000000) (d := 17) (cs := []) (sp := []) (n := 0) tB33_t ko33_0 rfl (by decide +kernel)
noncomputable def kt33_1 : List (Nat × fCn) := (162, kc33_1) :: kt33_0
theorem ko33_1 {S : pScr} : tabOk tB33 S 18 kt33_1 := tab_cons ko33_0 kn33_1 (by decide)
noncomputable def kc33_2 : fCn := ([(1, Int.ofNat 0, Int.ofNat 0, [185]), (0, Int.ofNat 0, Int.ofNat 684, []), (0, Int.negSucc 0, Int.ofNat 8, [])], [(0, Int.ofNat 0, Int.ofNat 0, [])], (some []), [], [])
theorem kn33_2 {S : pScr} : cnOk tB33 S 27 213 kc33_2 := con_ok (f := 1000000) (d := 26) (cs := []) (sp := []) (n := 0) tB33_t ko33_1 rfl (by decide +kernel)
noncomputable def kt33_2 : List (Nat × fCn) := (213, kc33_2) :: kt33_1
theorem ko33_2 {S : pScr} : tabOk tB33 S 27 kt33_2 := tab_cons ko33_1 kn33_2 (by decide)
noncomputable def kc33_3 : fCn := ([(1, Int.ofNat 0, Int.ofNat 0, [185]), (0, Int.ofNat 0, Int.ofNat 684, []), (0, Int.ofNat 0, Int.ofNat 8, []), (0, Int.ofNat 0, Int.ofNat 3, []), (0, Int.ofNat 0, Int.ofNat 4, [])], [], (some [191]), [], [])
theorem kn33_3 {S : pScr} : cnOk tB33 S 36 214 kc33_3 := con_ok (f := 1000000) (d := 35) (cs := []) (sp := []) (n := 0) tB33_t ko33_2 rfl (by decide +kernel)
noncomputable def kt33_3 : List (Nat × fCn) := (214, kc33_3) :: kt33_2
theorem ko33_3 {S : pScr} : tabOk tB33 S 36 kt33_3 := tab_cons ko33_2 kn33_3 (by decide)
noncomputable def kc33_4 : fCn := ([(1, Int.ofNat 0, Int.ofNat 0, [185]), (0, Int.ofNat 0, Int.ofNat 8, []), (0, Int.ofNat 0, Int.ofNat 3, []), (0, Int.negSucc 0, Int.ofNat 1, [])], [(0, Int.negSucc 0, Int.ofNat 8, [])], (some []), [], [])
theorem kn33_4 {S : pScr} : cnOk tB33 S 45 220 kc33_4 := con_ok (f := 1000000) (d := 44) (cs := []) (sp := []) (n := 0) tB33_t ko33_3 rfl (by decide +kernel)
noncomputable def kt33_4 : List (Nat × fCn) := (220, kc33_4) :: kt33_3
theorem ko33_4 {S : pScr} : tabOk tB33 S 45 kt33_4 := tab_cons ko33_3 kn33_4 (by decide)
noncomputable def kc33_5 : fCn := ([(1, Int.ofNat 0, Int.ofNat 0, [185]), (0, Int.ofNat 0, Int.ofNat 8, []), (0, Int.ofNat 0, Int.ofNat 3, [])], [(0, Int.ofNat 0, Int.ofNat 8, [])], (some []), [], [])
theorem kn33_5 {S : pScr} : cnOk tB33 S 54 221 kc33_5 := con_ok (f := 1000000) (d := 53) (cs := []) (sp := []) (n := 0) tB33_t ko33_4 rfl (by decide +kernel)
noncomputable def kt33_5 : List (Nat × fCn) := (221, kc33_5) :: kt33_4
theorem ko33_5 {S : pScr} : tabOk tB33 S 54 kt33_5 := tab_cons ko33_4 kn33_5 (by decide)
noncomputable def kc33_6 : fCn := ([(1, Int.ofNat 0, Int.ofNat 0, [185]), (0, Int.ofNat 0, Int.ofNat 684, [])], [], (some [194]), [], [])
theorem kn33_6 {S : pScr} : cnOk tB33 S 63 223 kc33_6 := con_ok (f := 1000000) (d := 62) (cs := [(2, [(0, (1, Int.ofNat 0, Int.ofNat 0, [185])), (1, (0, Int.ofNat 0, Int.ofNat 684, [])), (2, (0, Int.ofNat 0, Int.ofNat 9, []))], [(1, 2, Int.ofNat 9)], [])]) (sp := []) (n := 1) tB33_t ko33_5 rfl (by decide +kernel)
noncomputable def kt33_6 : List (Nat × fCn) := (223, kc33_6) :: kt33_5
theorem ko33_6 {S : pScr} : tabOk tB33 S 63 kt33_6 := tab_cons ko33_5 kn33_6 (by decide)
noncomputable def kc33_7 : fCn := ([(1, Int.ofNat 0, Int.ofNat 0, [185]), (0, Int.ofNat 0, Int.ofNat 684, []), (0, Int.ofNat 0, Int.ofNat 684, []), (0, Int.ofNat 0, Int.ofNat 3, []), (0, Int.ofNat 0, Int.ofNat 4, [])], [], (some [191, 194]), [], [])
theorem kn33_7 {S : pScr} : cnOk tB33 S 72 222 kc33_7 := con_ok (f := 1000000) (d := 71) (cs := [(3, [(0, (1, Int.ofNat 0, Int.ofNat 0, [185])), (1, (0, Int.ofNat 0, Int.ofNat 684, [])), (2, (0, Int.ofNat 0, Int.ofNat 684, [])), (3, (0, Int.ofNat 0, Int.ofNat 3, [])), (4, (0, Int.ofNat 0, Int.ofNat 4, [])), (5, (0, Int.ofNat 0, Int.ofNat 9, []))], [(0, 0, Int.ofNat 1), (1, 5, Int.ofNat 9)], []), (45, [(0, (1, Int.ofNat 0, Int.ofNat 0, [185])), (1, (0, Int.ofNat 0, Int.ofNat 684, [])), (2, (0, Int.ofNat 0, Int.ofNat 684, [])), (3, (0, Int.ofNat 0, Int.ofNat 3, [])), (4, (0, Int.ofNat 0, Int.ofNat 4, [])), (5, (0, Int.ofNat 0, Int.ofNat 9, []))], [(0, 0, Int.ofNat 0), (1, 5, Int.ofNat 9)], [])]) (sp := []) (n := 2) tB33_t ko33_6 rfl (by decide +kernel)
noncomputable def kt33_7 : List (Nat × fCn) := (222, kc33_7) :: kt33_6
theorem ko33_7 {S : pScr} : tabOk tB33 S 72 kt33_7 := tab_cons ko33_6 kn33_7 (by decide)
noncomputable def kc33_8 : fCn := ([(1, Int.ofNat 0, Int.ofNat 0, [2]), (0, Int.ofNat 0, Int.ofNat 8, []), (0, Int.negSucc 0, Int.ofNat 1, []), (0, Int.negSucc 0, Int.ofNat 1, [])], [(0, Int.negSucc 0, Int.ofNat 8, [])], (some []), [], [])
theorem kn33_8 {S : pScr} : cnOk tB33 S 81 67 kc33_8 := con_ok (f := 1000000) (d := 80) (cs := []) (sp := []) (n := 0) tB33_t ko33_7 rfl (by decide +kernel)
noncomputable def kt33_8 : List (Nat × fCn) := (67, kc33_8) :: kt33_7
theorem ko33_8 {S : pScr} : tabOk tB33 S 81 kt33_8 := tab_cons ko33_7 kn33_8 (by decide)
noncomputable def kc33_9 : fCn := ([(1, Int.ofNat 0, Int.ofNat 0, [2]), (0, Int.ofNat 0, Int.ofNat 8, []), (0, Int.ofNat 0, Int.ofNat 7, [])], [(0, Int.negSucc 0, Int.ofNat 8, [])], (some []), [], [])
theorem kn33_9 {S : pScr} : cnOk tB33 S 90 68 kc33_9 := con_ok (f := 1000000) (d := 89) (cs := []) (sp := []) (n := 0) tB33_t ko33_8 rfl (by decide +kernel)
noncomputable def kt33_9 : List (Nat × fCn) := (68, kc33_9) :: kt33_8
theorem ko33_9 {S : pScr} : tabOk tB33 S 90 kt33_9 := tab_cons ko33_8 kn33_9 (by decide)
noncomputable def kc33_10 : fCn := ([(1, Int.ofNat 0, Int.ofNat 0, [2]), (0, Int.ofNat 0, Int.ofNat 8, []), (0, Int.ofNat 0, Int.ofNat 3, [])], [(0, Int.ofNat 0, Int.ofNat 8, [])], (some []), [], [])
theorem kn33_10 {S : pScr} : cnOk tB33 S 99 70 kc33_10 := con_ok (f := 1000000) (d := 98) (cs := []) (sp := []) (n := 0) tB33_t ko33_9 rfl (by decide +kernel)
noncomputable def kt33_10 : List (Nat × fCn) := (70, kc33_10) :: kt33_9
theorem ko33_10 {S : pScr} : tabOk tB33 S 99 kt33_10 := tab_cons ko33_9 kn33_10 (by decide)
noncomputable def kc33_11 : fCn := ([(1, Int.ofNat 0, Int.ofNat 0, [61]), (1, Int.ofNat 0, Int.ofNat 0, [3]), (1, Int.ofNat 0, Int.ofNat 0, [3]), (0, Int.ofNat 0, Int.ofNat 3, []), (0, Int.ofNat 0, Int.ofNat 4, [])], [], (some [3, 61, 63]), [], [])
theorem kn33_11 {S : pScr} : cnOk tB33 S 108 16 kc33_11 := con_ok (f := 1000000) (d := 107) (cs := [(3, [(0, (1, Int.ofNat 0, Int.ofNat 0, [61])), (1, (1, Int.ofNat 0, Int.ofNat 0, [3])), (2, (1, Int.ofNat 0, Int.ofNat 0, [3])), (3, (0, Int.ofNat 0, Int.ofNat 3, [])), (4, (0, Int.ofNat 0, Int.ofNat 4, [])), (5, (0, Int.ofNat 0, Int.ofNat 9, []))], [(0, 0, Int.ofNat 1), (1, 5, Int.ofNat 9)], []), (114, [(0, (1, Int.ofNat 0, Int.ofNat 0, [61])), (1, (1, Int.ofNat 0, Int.ofNat 0, [3])), (2, (1, Int.ofNat 0, Int.ofNat 0, [3])), (3, (0, Int.ofNat 0, Int.ofNat 3, [])), (4, (0, Int.ofNat 0, Int.ofNat 4, [])), (5, (0, Int.negSucc 0, Int.negSucc 0, [])), (6, (0, Int.ofNat 0, Int.ofNat 9, []))], [(0, 0, Int.ofNat 0), (1, 6, Int.ofNat 9)], [])]) (sp := []) (n := 2) tB33_t ko33_10 rfl (by decide +kernel)
noncomputable def kt33_11 : List (Nat × fCn) := (16, kc33_11) :: kt33_10
theorem ko33_11 {S : pScr} : tabOk tB33 S 108 kt33_11 := tab_cons ko33_10 kn33_11 (by decide)
noncomputable def kc33_12 : fCn := ([(1, Int.ofNat 0, Int.ofNat 0, [61]), (1, Int.ofNat 0, Int.ofNat 0, [69]), (1, Int.ofNat 0, Int.ofNat 0, [70]), (0, Int.ofNat 0, Int.ofNat 3, []), (0, Int.ofNat 0, Int.ofNat 4, [])], [], (some [70, 61, 63]), [], [])
theorem kn33_12 {S : pScr} : cnOk tB33 S 117 16 kc33_12 := con_ok (f := 1000000) (d := 116) (cs := [(3, [(0, (1, Int.ofNat 0, Int.ofNat 0, [61])), (1, (1, Int.ofNat 0, Int.ofNat 0, [69])), (2, (1, Int.ofNat 0, Int.ofNat 0, [70])), (3, (0, Int.ofNat 0, Int.ofNat 3, [])), (4, (0, Int.ofNat 0, Int.ofNat 4, [])), (5, (0, Int.ofNat 0, Int.ofNat 9, []))], [(0, 0, Int.ofNat 1), (1, 5, Int.ofNat 9)], []), (114, [(0, (1, Int.ofNat 0, Int.ofNat 0, [61])), (1, (1, Int.ofNat 0, Int.ofNat 0, [69])), (2, (1, Int.ofNat 0, Int.ofNat 0, [70])), (3, (0, Int.ofNat 0, Int.ofNat 3, [])), (4, (0, Int.ofNat 0, Int.ofNat 4, [])), (5, (0, Int.negSucc 0, Int.negSucc 0, [])), (6, (0, Int.ofNat 0, Int.ofNat 9, []))], [(0, 0, Int.ofNat 0), (1, 6, Int.ofNat 9)], [])]) (sp := []) (n := 2) tB33_t ko33_11 rfl (by decide +kernel)
noncomputable def kt33_12 : List (Nat × fCn) := (16, kc33_12) :: kt33_11
theorem ko33_12 {S : pScr} : tabOk tB33 S 117 kt33_12 := tab_cons ko33_11 kn33_12 (by decide)
noncomputable def kc33_13 : fCn := ([(1, Int.ofNat 0, Int.ofNat 0, [61]), (1, Int.ofNat 0, Int.ofNat 0, [70]), (1, Int.ofNat 0, Int.ofNat 0, [74]), (0, Int.ofNat 0, Int.ofNat 3, []), (0, Int.ofNat 0, Int.ofNat 4, [])], [], (some [74, 61, 63]), [], [])
theorem kn33_13 {S : pScr} : cnOk tB33 S 126 16 kc33_13 := con_ok (f := 1000000) (d := 125) (cs := [(3, [(0, (1, Int.ofNat 0, Int.ofNat 0, [61])), (1, (1, Int.ofNat 0, Int.ofNat 0, [70])), (2, (1, Int.ofNat 0, Int.ofNat 0, [74])), (3, (0, Int.ofNat 0, Int.ofNat 3, [])), (4, (0, Int.ofNat 0, Int.ofNat 4, [])), (5, (0, Int.ofNat 0, Int.ofNat 9, []))], [(0, 0, Int.ofNat 1), (1, 5, Int.ofNat 9)], []), (114, [(0, (1, Int.ofNat 0, Int.ofNat 0, [61])), (1, (1, Int.ofNat 0, Int.ofNat 0, [70])), (2, (1, Int.ofNat 0, Int.ofNat 0, [74])), (3, (0, Int.ofNat 0, Int.ofNat 3, [])), (4, (0, Int.ofNat 0, Int.ofNat 4, [])), (5, (0, Int.negSucc 0, Int.negSucc 0, [])), (6, (0, Int.ofNat 0, Int.ofNat 9, []))], [(0, 0, Int.ofNat 0), (1, 6, Int.ofNat 9)], [])]) (sp := []) (n := 2) tB33_t ko33_12 rfl (by decide +kernel)
noncomputable def kt33_13 : List (Nat × fCn) := (16, kc33_13) :: kt33_12
theorem ko33_13 {S : pScr} : tabOk tB33 S 126 kt33_13 := tab_cons ko33_12 kn33_13 (by decide)
noncomputable def kc33_14 : fCn := ([(1, Int.ofNat 0, Int.ofNat 0, [67]), (0, Int.ofNat 0, Int.ofNat 0, [])], [], (some [61, 91]), [], [])
theorem kn33_14 {S : pScr} : cnOk tB33 S 135 44 kc33_14 := con_ok (f := 1000000) (d := 134) (cs := [(27, [(0, (1, Int.ofNat 0, Int.ofNat 0, [67])), (1, (0, Int.ofNat 0, Int.ofNat 0, [])), (2, (0, Int.ofNat 0, Int.ofNat 9, []))], [(1, 2, Int.ofNat 9)], [])]) (sp := []) (n := 1) tB33_t ko33_13 rfl (by decide +kernel)
noncomputable def kt33_14 : List (Nat × fCn) := (44, kc33_14) :: kt33_13
theorem ko33_14 {S : pScr} : tabOk tB33 S 135 kt33_14 := tab_cons ko33_13 kn33_14 (by decide)
noncomputable def kc33_15 : fCn := ([(1, Int.ofNat 0, Int.ofNat 0, [67]), (0, Int.ofNat 1, Int.ofNat 1, [])], [], (some [61, 92]), [], [])
theorem kn33_15 {S : pScr} : cnOk tB33 S 144 44 kc33_15 := con_ok (f := 1000000) (d := 143) (cs := [(27, [(0, (1, Int.ofNat 0, Int.ofNat 0, [67])), (1, (0, Int.ofNat 1, Int.ofNat 1, [])), (2, (0, Int.ofNat 0, Int.ofNat 9, []))], [(1, 2, Int.ofNat 9)], [])]) (sp := []) (n := 1) tB33_t ko33_14 rfl (by decide +kernel)
noncomputable def kt33_15 : List (Nat × fCn) := (44, kc33_15) :: kt33_14
theorem ko33_15 {S : pScr} : tabOk tB33 S 144 kt33_15 := tab_cons ko33_14 kn33_15 (by decide)
noncomputable def kc33_16 : fCn := ([(1, Int.ofNat 0, Int.ofNat 0, [67]), (0, Int.ofNat 5, Int.ofNat 5, [])], [], (some [61, 96]), [], [])
theorem kn33_16 {S : pScr} : cnOk tB33 S 153 44 kc33_16 := con_ok (f := 1000000) (d := 152) (cs := [(27, [(0, (1, Int.ofNat 0, Int.ofNat 0, [67])), (1, (0, Int.ofNat 5, Int.ofNat 5, [])), (2, (0, Int.ofNat 0, Int.ofNat 9, []))], [(1, 2, Int.ofNat 9)], [])]) (sp := []) (n := 1) tB33_t ko33_15 rfl (by decide +kernel)
noncomputable def kt33_16 : List (Nat × fCn) := (44, kc33_16) :: kt33_15
theorem ko33_16 {S : pScr} : tabOk tB33 S 153 kt33_16 := tab_cons ko33_15 kn33_16 (by decide)
noncomputable def kc33_17 : fCn := ([(1, Int.ofNat 0, Int.ofNat 0, [136]), (0, Int.ofNat 0, Int.ofNat 0, [])], [], (some [138]), [], [])
theorem kn33_17 {S : pScr} : cnOk tB33 S 162 86 kc33_17 := con_ok (f := 1000000) (d := 161) (cs := [(2, [(0, (1, Int.ofNat 0, Int.ofNat 0, [136])), (1, (0, Int.ofNat 0, Int.ofNat 0, [])), (2, (0, Int.ofNat 0, Int.ofNat 72, []))], [(1, 2, Int.ofNat 72)], [])]) (sp := []) (n := 1) tB33_t ko33_16 rfl (by decide +kernel)
noncomputable def kt33_17 : List (Nat × fCn) := (86, kc33_17) :: kt33_16
theorem ko33_17 {S : pScr} : tabOk tB33 S 162 kt33_17 := tab_cons ko33_16 kn33_17 (by decide)
noncomputable def kc33_18 : fCn := ([(1, Int.ofNat 0, Int.ofNat 0, [184]), (0, Int.ofNat 0, Int.ofNat 7, []), (0, Int.ofNat 0, Int.ofNat 20, []), (0, Int.ofNat 0, Int.ofNat 8, []), (0, Int.negSucc 5, Int.ofNat 20, []), (0, Int.ofNat 0, Int.ofNat 1, []), (0, Int.ofNat 1, Int.ofNat 1, [])], [(0, Int.negSucc 0, Int.ofNat 0, [])], (some []), [], [])
theorem kn33_18 {S : pScr} : cnOk tB33 S 171 32 kc33_18 := con_ok (f := 1000000) (d := 170) (cs := []) (sp := []) (n := 0) tB33_t ko33_17 rfl (by decide +kernel)
noncomputable def kt33_18 : List (Nat × fCn) := (32, kc33_18) :: kt33_17
theorem ko33_18 {S : pScr} : tabOk tB33 S 171 kt33_18 := tab_cons ko33_17 kn33_18 (by decide)
noncomputable def kc33_19 : fCn := ([(1, Int.ofNat 0, Int.ofNat 0, [184]), (0, Int.ofNat 0, Int.ofNat 20, []), (0, Int.ofNat 0, Int.ofNat 8, []), (0, Int.negSucc 5, Int.ofNat 20, []), (0, Int.ofNat 0, Int.ofNat 1, []), (0, Int.ofNat 1, Int.ofNat 1, [])], [(0, Int.ofNat 0, Int.ofNat 0, [])], (some []), [], [])
theorem kn33_19 {S : pScr} : cnOk tB33 S 180 33 kc33_19 := con_ok (f := 1000000) (d := 179) (cs := [(6, [(0, (1, Int.ofNat 0, Int.ofNat 0, [184])), (1, (0, Int.ofNat 0, Int.ofNat 20, [])), (2, (0, Int.ofNat 0, Int.ofNat 8, [])), (3, (0, Int.negSucc 5, Int.ofNat 20, [])), (4, (0, Int.ofNat 0, Int.ofNat 1, [])), (5, (0, Int.ofNat 1, Int.ofNat 1, [])), (6, (0, Int.ofNat 0, Int.ofNat 0, [])), (7, (0, Int.ofNat 0, Int.ofNat 8, []))], [(1, 7, Int.ofNat 8)], [])]) (sp := []) (n := 1) tB33_t ko33_18 rfl (by decide +kernel)
noncomputable def kt33_19 : List (Nat × fCn) := (33, kc33_19) :: kt33_18
theorem ko33_19 {S : pScr} : tabOk tB33 S 180 kt33_19 := tab_cons ko33_18 kn33_19 (by decide)
noncomputable def kc33_20 : fCn := ([(1, Int.ofNat 0, Int.ofNat 0, [184]), (0, Int.ofNat 0, Int.ofNat 15, []), (0, Int.ofNat 0, Int.ofNat 20, []), (0, Int.ofNat 0, Int.ofNat 8, []), (0, Int.negSucc 5, Int.ofNat 20, []), (0, Int.ofNat 0, Int.ofNat 1, []), (0, Int.ofNat 1, Int.ofNat 1, [])], [(0, Int.ofNat 0, Int.ofNat 0, [])], (some []), [], [])
theorem kn33_20 {S : pScr} : cnOk tB33 S 189 37 kc33_20 := con_ok (f := 1000000) (d := 188) (cs := [(3, [(0, (1, Int.ofNat 0, Int.ofNat 0, [184])), (1, (0, Int.ofNat 0, Int.ofNat 15, [])), (2, (0, Int.ofNat 0, Int.ofNat 20, [])), (3, (0, Int.ofNat 0, Int.ofNat 8, [])), (4, (0, Int.negSucc 5, Int.ofNat 20, [])), (5, (0, Int.ofNat 0, Int.ofNat 1, [])), (6, (0, Int.ofNat 1, Int.ofNat 1, [])), (7, (0, Int.ofNat 0, Int.ofNat 8, []))], [(1, 7, Int.ofNat 8)], [])]) (sp := []) (n := 1) tB33_t ko33_19 rfl (by decide +kernel)
noncomputable def kt33_20 : List (Nat × fCn) := (37, kc33_20) :: kt33_19
theorem ko33_20 {S : pScr} : tabOk tB33 S 189 kt33_20 := tab_cons ko33_19 kn33_20 (by decide)
noncomputable def kc33_21 : fCn := ([(1, Int.ofNat 0, Int.ofNat 0, [185]), (0, Int.ofNat 0, Int.ofNat 684, []), (0, Int.ofNat 0, Int.ofNat 8, []), (0, Int.negSucc 5, Int.ofNat 20, []), (0, Int.ofNat 0, Int.ofNat 1, []), (0, Int.ofNat 0, Int.ofNat 7, []), (0, Int.ofNat 0, Int.ofNat 3, []), (0, Int.ofNat 0, Int.ofNat 4, [])], [(0, Int.negSucc 0, Int.ofNat 3, [])], (some [191]), [], [])
theorem kn33_21 {S : pScr} : cnOk tB33 S 198 225 kc33_21 := con_ok (f := 1000000) (d := 197) (cs := []) (sp := []) (n := 0) tB33_t ko33_20 rfl (by decide +kernel)
noncomputable def kt33_21 : List (Nat × fCn) := (225, kc33_21) :: kt33_20
theorem ko33_21 {S : pScr} : tabOk tB33 S 198 kt33_21 := tab_cons ko33_20 kn33_21 (by decide)
noncomputable def kc33_22 : fCn := ([(1, Int.ofNat 0, Int.ofNat 0, [185]), (0, Int.ofNat 0, Int.ofNat 684, []), (0, Int.ofNat 0, Int.ofNat 8, []), (0, Int.negSucc 5, Int.ofNat 20, []), (0, Int.ofNat 0, Int.ofNat 1, []), (0, Int.ofNat 0, Int.ofNat 3, []), (0, Int.ofNat 0, Int.ofNat 4, [])], [(0, Int.ofNat 0, Int.ofNat 0, [])], (some [191]), [], [])
theorem kn33_22 {S : pScr} : cnOk tB33 S 207 264 kc33_22 := con_ok (f := 1000000) (d := 206) (cs := [(3, [(0, (1, Int.ofNat 0, Int.ofNat 0, [185])), (1, (0, Int.ofNat 0, Int.ofNat 684, [])), (2, (0, Int.ofNat 0, Int.ofNat 8, [])), (3, (0, Int.negSucc 5, Int.ofNat 20, [])), (4, (0, Int.ofNat 0, Int.ofNat 1, [])), (5, (0, Int.ofNat 0, Int.ofNat 3, [])), (6, (0, Int.ofNat 0, Int.ofNat 4, [])), (7, (0, Int.ofNat 0, Int.ofNat 4, []))], [(1, 7, Int.ofNat 4)], [])]) (sp := []) (n := 1) tB33_t ko33_21 rfl (by decide +kernel)
noncomputable def kt33_22 : List (Nat × fCn) := (264, kc33_22) :: kt33_21
theorem ko33_22 {S : pScr} : tabOk tB33 S 207 kt33_22 := tab_cons ko33_21 kn33_22 (by decide)
noncomputable def kc33_23 : fCn := ([(1, Int.ofNat 0, Int.ofNat 0, [185])], [], (some [191, 194, 195, 196]), [((186, 4), Int.ofNat 0)], [])
theorem kn33_23 {S : pScr} : cnOk tB33 S 216 237 kc33_23 := con_ok (f := 1000000) (d := 215) (cs := []) (sp := []) (n := 0) tB33_t ko33_22 rfl (by decide +kernel)
noncomputable def kt33_23 : List (Nat × fCn) := (237, kc33_23) :: kt33_22
theorem ko33_23 {S : pScr} : tabOk tB33 S 216 kt33_23 := tab_cons ko33_22 kn33_23 (by decide)
noncomputable def kc33_24 : fCn := ([(1, Int.ofNat 0, Int.ofNat 0, [185])], [], (some [191, 194, 195, 196]), [((186, 4), Int.ofNat 1)], [])
theorem kn33_24 {S : pScr} : cnOk tB33 S 225 237 kc33_24 := con_ok (f := 1000000) (d := 224) (cs := [(14, [(0, (1, Int.ofNat 0, Int.ofNat 0, [185])), (1, (0, Int.ofNat 1, Int.ofNat 1, [])), (2, (0, Int.ofNat 0, Int.ofNat 1, []))], [(1, 2, Int.ofNat 1), (0, 0, Int.ofNat 9), (0, 0, Int.ofNat 0)], [((186, 4), Int.ofNat 1)]), (21, [(0, (1, Int.ofNat 0, Int.ofNat 0, [185])), (1, (0, Int.ofNat 1, Int.ofNat 1, [])), (2, (0, Int.ofNat 0, Int.ofNat 0, [])), (3, (0, Int.ofNat 0, Int.ofNat 9, []))], [(1, 2, Int.ofNat 1), (0, 0, Int.ofNat 8), (1, 3, Int.ofNat 9)], [((186, 4), Int.ofNat 1)]), (102, [(0, (1, Int.ofNat 0, Int.ofNat 0, [185])), (1, (0, Int.ofNat 1, Int.ofNat 1, [])), (2, (0, Int.ofNat 0, Int.ofNat 0, [])), (3, (0, Int.ofNat 0, Int.ofNat 9, []))], [(1, 2, Int.ofNat 1), (0, 0, Int.ofNat 7), (1, 3, Int.ofNat 9)], [((186, 4), Int.ofNat 1)])]) (sp := []) (n := 3) tB33_t ko33_23 rfl (by decide +kernel)
noncomputable def kt33_24 : List (Nat × fCn) := (237, kc33_24) :: kt33_23
theorem ko33_24 {S : pScr} : tabOk tB33 S 225 kt33_24 := tab_cons ko33_23 kn33_24 (by decide)
noncomputable def kc33_25 : fCn := ([(1, Int.ofNat 0, Int.ofNat 0, [185])], [], (some [191, 194, 195, 196]), [((186, 4), Int.ofNat 2)], [])
theorem kn33_25 {S : pScr} : cnOk tB33 S 234 237 kc33_25 := con_ok (f := 1000000) (d := 233) (cs := [(14, [(0, (1, Int.ofNat 0, Int.ofNat 0, [185])), (1, (0, Int.ofNat 2, Int.ofNat 2, [])), (2, (0, Int.ofNat 0, Int.ofNat 2, []))], [(1, 2, Int.ofNat 2), (0, 0, Int.ofNat 9), (0, 0, Int.ofNat 0)], [((186, 4), Int.ofNat 2)]), (21, [(0, (1, Int.ofNat 0, Int.ofNat 0, [185])), (1, (0, Int.ofNat 2, Int.ofNat 2, [])), (2, (0, Int.ofNat 0, Int.ofNat 1, [])), (3, (0, Int.ofNat 0, Int.ofNat 9, []))], [(1, 2, Int.ofNat 2), (0, 0, Int.ofNat 8), (1, 3, Int.ofNat 9)], [((186, 4), Int.ofNat 2)]), (102, [(0, (1, Int.ofNat 0, Int.ofNat 0, [185])), (1, (0, Int.ofNat 2, Int.ofNat 2, [])), (2, (0, Int.ofNat 0, Int.ofNat 1, [])), (3, (0, Int.ofNat 0, Int.ofNat 9, []))], [(1, 2, Int.ofNat 2), (0, 0, Int.ofNat 7), (1, 3, Int.ofNat 9)], [((186, 4), Int.ofNat 2)])]) (sp := []) (n := 3) tB33_t ko33_24 rfl (by decide +kernel)
noncomputable def kt33_25 : List (Nat × fCn) := (237, kc33_25) :: kt33_24
theorem ko33_25 {S : pScr} : tabOk tB33 S 234 kt33_25 := tab_cons ko33_24 kn33_25 (by decide)
noncomputable def kc33_26 : fCn := ([(1, Int.ofNat 0, Int.ofNat 0, [185])], [], (some [191, 194, 195, 196]), [((186, 4), Int.ofNat 3)], [])
theorem kn33_26 {S : pScr} : cnOk tB33 S 243 237 kc33_26 := con_ok (f := 1000000) (d := 242) (cs := [(14, [(0, (1, Int.ofNat 0, Int.ofNat 0, [185])), (1, (0, Int.ofNat 3, Int.ofNat 3, [])), (2, (0, Int.ofNat 0, Int.ofNat 3, []))], [(1, 2, Int.ofNat 3), (0, 0, Int.ofNat 9), (0, 0, Int.ofNat 0)], [((186, 4), Int.ofNat 3)]), (21, [(0, (1, Int.ofNat 0, Int.ofNat 0, [185])), (1, (0, Int.ofNat 3, Int.ofNat 3, [])), (2, (0, Int.ofNat 0, Int.ofNat 2, [])), (3, (0, Int.ofNat 0, Int.ofNat 9, []))], [(1, 2, Int.ofNat 3), (0, 0, Int.ofNat 8), (1, 3, Int.ofNat 9)], [((186, 4), Int.ofNat 3)]), (102, [(0, (1, Int.ofNat 0, Int.ofNat 0, [185])), (1, (0, Int.ofNat 3, Int.ofNat 3, [])), (2, (0, Int.ofNat 0, Int.ofNat 2, [])), (3, (0, Int.ofNat 0, Int.ofNat 9, []))], [(1, 2, Int.ofNat 3), (0, 0, Int.ofNat 7), (1, 3, Int.ofNat 9)], [((186, 4), Int.ofNat 3)])]) (sp := []) (n := 3) tB33_t ko33_25 rfl (by decide +kernel)
noncomputable def kt33_26 : List (Nat × fCn) := (237, kc33_26) :: kt33_25
theorem ko33_26 {S : pScr} : tabOk tB33 S 243 kt33_26 := tab_cons ko33_25 kn33_26 (by decide)
noncomputable def kc33_27 : fCn := ([(1, Int.ofNat 0, Int.ofNat 0, [185])], [(0, Int.ofNat 0, Int.ofNat 0, [])], none, [((186, 4), Int.ofNat 0), ((186, 6), Int.ofNat 0), ((186, 20), Int.ofNat 0), ((186, 21), Int.ofNat 20), ((186, 22), Int.ofNat 0)], [])
theorem kn33_27 {S : pScr} : cnOk tB33 S 252 254 kc33_27 := con_ok (f := 1000000) (d := 251) (cs := [(46, [(0, (1, Int.ofNat 0, Int.ofNat 0, [185])), (1, (0, Int.ofNat 0, Int.ofNat 0, [])), (2, (0, Int.ofNat 0, Int.ofNat 0, [])), (3, (0, Int.ofNat 0, Int.ofNat 19, [])), (4, (0, Int.ofNat 0, Int.ofNat 2, []))], [(0, 0, Int.ofNat 30), (1, 2, Int.ofNat 9), (1, 3, Int.ofNat 100), (1, 4, Int.ofNat 2)], [((186, 4), Int.ofNat 0), ((186, 6), Int.ofNat 0), ((199, 0), Int.ofNat 20), ((198, 0), Int.ofNat 0), ((200, 0), Int.ofNat 0)]), (46, [(0, (1, Int.ofNat 0, Int.ofNat 0, [185])), (1, (0, Int.ofNat 0, Int.ofNat 0, [])), (2, (0, Int.ofNat 0, Int.ofNat 0, [])), (3, (0, Int.ofNat 20, Int.ofNat 20, [])), (4, (0, Int.ofNat 0, Int.ofNat 0, []))], [(0, 0, Int.ofNat 20), (1, 2, Int.ofNat 9), (1, 3, Int.ofNat 100), (1, 4, Int.ofNat 2)], [((186, 4), Int.ofNat 0), ((186, 6), Int.ofNat 0), ((199, 0), Int.ofNat 20), ((198, 0), Int.ofNat 0), ((200, 0), Int.ofNat 0)]), (46, [(0, (1, Int.ofNat 0, Int.ofNat 0, [185])), (1, (0, Int.ofNat 0, Int.ofNat 0, [])), (2, (0, Int.ofNat 0, Int.ofNat 0, [])), (3, (0, Int.ofNat 20, Int.ofNat 20, [])), (4, (0, Int.ofNat 1, Int.ofNat 2, []))], [(0, 0, Int.ofNat 15), (1, 2, Int.ofNat 9), (1, 3, Int.ofNat 100), (1, 4, Int.ofNat 2)], [((186, 4), Int.ofNat 0), ((186, 6), Int.ofNat 0), ((199, 0), Int.ofNat 20), ((198, 0), Int.ofNat 0), ((200, 0), Int.ofNat 0), ((201, 40), Int.ofNat 1)]), (46, [(0, (1, Int.ofNat 0, Int.ofNat 0, [185])), (1, (0, Int.ofNat 0, Int.ofNat 0, [])), (2, (0, Int.ofNat 0, Int.ofNat 0, [])), (3, (0, Int.ofNat 21, Int.ofNat 99, [])), (4, (0, Int.ofNat 0, Int.ofNat 2, []))], [(0, 0, Int.ofNat 10), (1, 2, Int.ofNat 9), (1, 3, Int.ofNat 100), (1, 4, Int.ofNat 2)], [((186, 4), Int.ofNat 0), ((186, 6), Int.ofNat 0), ((199, 0), Int.ofNat 20), ((198, 0), Int.ofNat 0), ((200, 0), Int.ofNat 0), ((201, 40), Int.ofNat 1)]), (46, [(0, (1, Int.ofNat 0, Int.ofNat 0, [185])), (1, (0, Int.ofNat 0, Int.ofNat 0, [])), (2, (0, Int.ofNat 1, Int.ofNat 8, [])), (3, (0, Int.ofNat 0, Int.ofNat 99, [])), (4, (0, Int.ofNat 0, Int.ofNat 2, []))], [(0, 0, Int.ofNat 5), (1, 2, Int.ofNat 9), (1, 3, Int.ofNat 100), (1, 4, Int.ofNat 2)], [((186, 4), Int.ofNat 0), ((186, 6), Int.ofNat 0), ((199, 0), Int.ofNat 20), ((198, 0), Int.ofNat 0), ((200, 0), Int.ofNat 0), ((201, 40), Int.ofNat 1)])]) (sp := [(46, 2, Int.ofNat 0), (46, 3, Int.ofNat 19), (46, 3, Int.ofNat 20), (46, 4, Int.ofNat 0)]) (n := 4) tB33_t ko33_26 rfl (by decide +kernel)
noncomputable def kt33_27 : List (Nat × fCn) := (254, kc33_27) :: kt33_26
theorem ko33_27 {S : pScr} : tabOk tB33 S 252 kt33_27 := tab_cons ko33_26 kn33_27 (by decide)
