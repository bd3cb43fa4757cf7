def gR0 : List (Nat × aE) := [(1, (1, Int.ofNat 0, Int.ofNat 0, [1])), (2, (1, Int.ofNat 0, Int.ofNat 0, [18])), (3, (1, Int.ofNat 0, Int.ofNat 0, [35])), (4, (1, Int.ofNat 0, Int.ofNat 0, [56])), (5, (1, Int.ofNat 0, Int.ofNat 0, [61])), (6, (1, Int.ofNat 0, Int.ofNat 0, [64])), (7, (1, Int.ofNat 0, Int.ofNat 0, [67])), (8, (1, Int.ofNat 0, Int.ofNat 0, [136])), (9, (1, Int.ofNat 0, Int.ofNat 0, [184]))]
def gR1 : List (Nat × aE) := [(1, (1, Int.ofNat 0, Int.ofNat 0, [2])), (2, (1, Int.ofNat 0, Int.ofNat 0, [9])), (3, (1, Int.ofNat 0, Int.ofNat 0, [10])), (4, (1, Int.ofNat 0, Int.ofNat 0, [11])), (5, (1, Int.ofNat 0, Int.ofNat 0, [12])), (6, (1, Int.ofNat 0, Int.ofNat 0, [16])), (7, (1, Int.ofNat 0, Int.ofNat 0, [17])), (11, (0, Int.ofNat 0, Int.ofNat 0, [])), (12, (0, Int.negSucc 0, Int.negSucc 0, []))]
def gR2 : List (Nat × aE) := [(2, (0, Int.ofNat 3, Int.ofNat 3, [])), (3, (0, Int.ofNat 9, Int.ofNat 9, [])), (4, (1, Int.ofNat 0, Int.ofNat 0, [3])), (5, (1, Int.ofNat 0, Int.ofNat 0, [4])), (6, (1, Int.ofNat 0, Int.ofNat 0, [5])), (7, (1, Int.ofNat 0, Int.ofNat 0, [6])), (8, (1, Int.ofNat 0, Int.ofNat 0, [7])), (9, (1, Int.ofNat 0, Int.ofNat 0, [8])), (10, (0, Int.ofNat 0, Int.ofNat 0, [])), (11, (0, Int.ofNat 0, Int.ofNat 3, [])), (12, (0, Int.ofNat 0, Int.ofNat 1, []))]
def gR3 : List (Nat × aE) := [(36, (0, Int.ofNat 0, Int.ofNat 0, []))]
def gR4 : List (Nat × aE) := [(4, (0, Int.ofNat 0, Int.ofNat 0, []))]
def gR5 : List (Nat × aE) := [(1, (0, Int.ofNat 10, Int.ofNat 10, [])), (5, (0, Int.ofNat 0, Int.ofNat 0, [])), (6, (0, Int.ofNat 10, Int.ofNat 10, [])), (10, (0, Int.ofNat 0, Int.ofNat 0, [])), (11, (0, Int.ofNat 10, Int.ofNat 10, [])), (15, (0, Int.ofNat 0, Int.ofNat 0, [])), (16, (0, Int.ofNat 10, Int.ofNat 10, []))]
def gR6 : List (Nat × aE) := [(1, (0, Int.ofNat 0, Int.ofNat 8, [])), (2, (0, Int.ofNat 0, Int.ofNat 20, [])), (3, (0, Int.ofNat 0, Int.ofNat 0, [])), (4, (0, Int.ofNat 0, Int.ofNat 1, [])), (5, (0, Int.ofNat 1, Int.ofNat 1, []))]
def gR7 : List (Nat × aE) := [(1, (0, Int.ofNat 0, Int.ofNat 0, [])), (2, (0, Int.ofNat 20, Int.ofNat 20, [])), (5, (0, Int.ofNat 0, Int.ofNat 0, []))]
def gR8 : List (Nat × aE) := [(1, (0, Int.ofNat 1, Int.ofNat 1, [])), (2, (0, Int.ofNat 2, Int.ofNat 2, [])), (3, (0, Int.ofNat 3, Int.ofNat 3, []))]
def gR9 : List (Nat × aE) := [(1, (1, Int.ofNat 0, Int.ofNat 0, [13])), (2, (1, Int.ofNat 0, Int.ofNat 0, [14])), (3, (1, Int.ofNat 0, Int.ofNat 0, [15])), (4, (0, Int.ofNat 0, Int.ofNat 0, []))]
def gR10 : List (Nat × aE) := [(6, (0, Int.ofNat 1, Int.ofNat 1, []))]
def gR11 : List (Nat × aE) := [(30, (0, Int.ofNat 0, Int.ofNat 0, []))]
def gR12 : List (Nat × aE) := [(12, (0, Int.ofNat 0, Int.ofNat 0, []))]
def gR13 : List (Nat × aE) := [(12, (0, Int.ofNat 4, Int.ofNat 4, []))]
def gR14 : List (Nat × aE) := [(1, (1, Int.ofNat 0, Int.ofNat 0, [19])), (2, (1, Int.ofNat 0, Int.ofNat 0, [26])), (3, (1, Int.ofNat 0, Int.ofNat 0, [27])), (4, (1, Int.ofNat 0, Int.ofNat 0, [28])), (5, (1, Int.ofNat 0, Int.ofNat 0, [29])), (6, (1, Int.ofNat 0, Int.ofNat 0, [33])), (7, (1, Int.ofNat 0, Int.ofNat 0, [34])), (11, (0, Int.ofNat 0, Int.ofNat 0, [])), (12, (0, Int.negSucc 0, Int.negSucc 0, []))]
def gR15 : List (Nat × aE) := [(2, (0, Int.ofNat 3, Int.ofNat 3, [])), (3, (0, Int.ofNat 9, Int.ofNat 9, [])), (4, (1, Int.ofNat 0, Int.ofNat 0, [20])), (5, (1, Int.ofNat 0, Int.ofNat 0, [21])), (6, (1, Int.ofNat 0, Int.ofNat 0, [22])), (7, (1, Int.ofNat 0, Int.ofNat 0, [23])), (8, (1, Int.ofNat 0, Int.ofNat 0, [24])), (9, (1, Int.ofNat 0, Int.ofNat 0, [25])), (12, (0, Int.ofNat 0, Int.ofNat 0, []))]
def gR16 : List (Nat × aE) := [(1, (0, Int.ofNat 0, Int.ofNat 0, [])), (2, (0, Int.ofNat 20, Int.ofNat 20, [])), (4, (0, Int.ofNat 0, Int.ofNat 0, [])), (5, (0, Int.ofNat 1, Int.ofNat 1, []))]
def gR17 : List (Nat × aE) := [(1, (1, Int.ofNat 0, Int.ofNat 0, [30])), (2, (1, Int.ofNat 0, Int.ofNat 0, [31])), (3, (1, Int.ofNat 0, Int.ofNat 0, [32])), (4, (0, Int.ofNat 0, Int.ofNat 0, []))]
def gR18 : List (Nat × aE) := [(1, (1, Int.ofNat 0, Int.ofNat 0, [36])), (2, (1, Int.ofNat 0, Int.ofNat 0, [41])), (3, (1, Int.ofNat 0, Int.ofNat 0, [46])), (4, (1, Int.ofNat 0, Int.ofNat 0, [51]))]
def gR19 : List (Nat × aE) := [(1, (1, Int.ofNat 0, Int.ofNat 0, [37])), (2, (1, Int.ofNat 0, Int.ofNat 0, [38])), (3, (1, Int.ofNat 0, Int.ofNat 0, [39])), (4, (1, Int.ofNat 0, Int.ofNat 0, [40])), (6, (0, Int.ofNat 0, Int.ofNat 0, []))]
def gR20 : List (Nat × aE) := [(300, (0, Int.ofNat 0, Int.ofNat 0, []))]
def gR21 : List (Nat × aE) := [(13, (0, Int.ofNat 0, Int.ofNat 0, []))]
def gR22 : List (Nat × aE) := [(1, (1, Int.ofNat 0, Int.ofNat 0, [42])), (2, (1, Int.ofNat 0, Int.ofNat 0, [43])), (3, (1, Int.ofNat 0, Int.ofNat 0, [44])), (4, (1, Int.ofNat 0, Int.ofNat 0, [45])), (6, (0, Int.ofNat 0, Int.ofNat 0, []))]
def gR23 : List (Nat × aE) := [(1, (1, Int.ofNat 0, Int.ofNat 0, [47])), (2, (1, Int.ofNat 0, Int.ofNat 0, [48])), (3, (1, Int.ofNat 0, Int.ofNat 0, [49])), (4, (1, Int.ofNat 0, Int.ofNat 0, [50])), (6, (0, Int.ofNat 0, Int.ofNat 0, []))]
def gR24 : List (Nat × aE) := [(1, (1, Int.ofNat 0, Int.ofNat 0, [52])), (2, (1, Int.ofNat 0, Int.ofNat 0, [53])), (3, (1, Int.ofNat 0, Int.ofNat 0, [54])), (4, (1, Int.ofNat 0, Int.ofNat 0, [55])), (6, (0, Int.ofNat 0, Int.ofNat 0, []))]
def gR25 : List (Nat × aE) := [(1, (1, Int.ofNat 0, Int.ofNat 0, [57])), (2, (1, Int.ofNat 0, Int.ofNat 0, [58])), (3, (1, Int.ofNat 0, Int.ofNat 0, [59])), (4, (1, Int.ofNat 0, Int.ofNat 0, [60])), (5, (0, Int.ofNat 0, Int.ofNat 0, [])), (7, (0, Int.negSucc 0, Int.negSucc 0, [])), (8, (1, Int.ofNat 1, Int.ofNat 0, [])), (10, (0, Int.ofNat 0, Int.ofNat 0, [])), (11, (0, Int.ofNat 50, Int.ofNat 50, [])), (12, (0, Int.ofNat 0, Int.ofNat 0, []))]
def gR26 : List (Nat × aE) := [(301, (0, Int.ofNat 0, Int.ofNat 0, []))]
def gR27 : List (Nat × aE) := [(1, (1, Int.ofNat 0, Int.ofNat 0, [2])), (2, (1, Int.ofNat 0, Int.ofNat 0, [62])), (3, (1, Int.ofNat 0, Int.ofNat 0, [63])), (4, (1, Int.ofNat 1, Int.ofNat 0, [])), (5, (1, Int.ofNat 0, Int.ofNat 0, [3, 63, 69, 70, 71, 72, 73, 74, 75, 76, 77, 78, 79, 80, 81, 82, 83, 84, 85, 86, 87, 88, 89])), (6, (0, Int.negSucc 0, Int.ofNat 3, [])), (7, (0, Int.ofNat 0, Int.ofNat 5, [])), (9, (0, Int.ofNat 0, Int.ofNat 0, []))]
def gR28 : List (Nat × aE) := [(64, (0, Int.ofNat 0, Int.ofNat 0, []))]
def gR29 : List (Nat × aE) := [(1, (1, Int.ofNat 0, Int.ofNat 0, [1])), (2, (1, Int.ofNat 0, Int.ofNat 0, [2])), (3, (1, Int.ofNat 0, Int.ofNat 0, [61])), (4, (1, Int.ofNat 0, Int.ofNat 0, [65])), (5, (1, Int.ofNat 0, Int.ofNat 0, [66])), (6, (0, Int.ofNat 0, Int.ofNat 0, []))]
def gR30 : List (Nat × aE) := [(1, (1, Int.ofNat 0, Int.ofNat 0, [1])), (2, (1, Int.ofNat 0, Int.ofNat 0, [2])), (3, (1, Int.ofNat 0, Int.ofNat 0, [61])), (4, (1, Int.ofNat 0, Int.ofNat 0, [68])), (5, (1, Int.ofNat 0, Int.ofNat 0, [90])), (6, (1, Int.ofNat 0, Int.ofNat 0, [112])), (7, (1, Int.ofNat 0, Int.ofNat 0, [134])), (8, (1, Int.ofNat 0, Int.ofNat 0, [135]))]
def gR31 : List (Nat × aE) := [(1, (1, Int.ofNat 0, Int.ofNat 0, [69])), (2, (1, Int.ofNat 0, Int.ofNat 0, [70])), (3, (1, Int.ofNat 0, Int.ofNat 0, [71])), (4, (1, Int.ofNat 0, Int.ofNat 0, [72])), (5, (1, Int.ofNat 0, Int.ofNat 0, [73])), (6, (1, Int.ofNat 0, Int.ofNat 0, [74])), (7, (1, Int.ofNat 0, Int.ofNat 0, [75])), (8, (1, Int.ofNat 0, Int.ofNat 0, [76])), (9, (1, Int.ofNat 0, Int.ofNat 0, [77])), (10, (1, Int.ofNat 0, Int.ofNat 0, [78])), (11, (1, Int.ofNat 0, Int.ofNat 0, [79])), (12, (1, Int.ofNat 0, Int.ofNat 0, [80])), (13, (1, Int.ofNat 0, Int.ofNat 0, [81])), (14, (1, Int.ofNat 0, Int.ofNat 0, [82])), (15, (1, Int.ofNat 0, Int.ofNat 0, [83])), (16, (1, Int.ofNat 0, Int.ofNat 0, [84])), (17, (1, Int.ofNat 0, Int.ofNat 0, [85])), (18, (1, Int.ofNat 0, Int.ofNat 0, [86])), (19, (1, Int.ofNat 0, Int.ofNat 0, [87])), (20, (1, Int.ofNat 0, Int.ofNat 0, [88])), (21, (1, Int.ofNat 0, Int.ofNat 0, [89]))]
def gR32 : List (Nat × aE) := [(1, (1, Int.ofNat 0, Int.ofNat 0, [91])), (2, (1, Int.ofNat 0, Int.ofNat 0, [92])), (3, (1, Int.ofNat 0, Int.ofNat 0, [93])), (4, (1, Int.ofNat 0, Int.ofNat 0, [94])), (5, (1, Int.ofNat 0, Int.ofNat 0, [95])), (6, (1, Int.ofNat 0, Int.ofNat 0, [96])), (7, (1, Int.ofNat 0, Int.ofNat 0, [97])), (8, (1, Int.ofNat 0, Int.ofNat 0, [98])), (9, (1, Int.ofNat 0, Int.ofNat 0, [99])), (10, (1, Int.ofNat 0, Int.ofNat 0, [100])), (11, (1, Int.ofNat 0, Int.ofNat 0, [101])), (12, (1, Int.ofNat 0, Int.ofNat 0, [102])), (13, (1, Int.ofNat 0, Int.ofNat 0, [103])), (14, (1, Int.ofNat 0, Int.ofNat 0, [104])), (15, (1, Int.ofNat 0, Int.ofNat 0, [105])), (16, (1, Int.ofNat 0, Int.ofNat 0, [106])), (17, (1, Int.ofNat 0, Int.ofNat 0, [107])), (18, (1, Int.ofNat 0, Int.ofNat 0, [108])), (19, (1, Int.ofNat 0, Int.ofNat 0, [109])), (20, (1, Int.ofNat 0, Int.ofNat 0, [110])), (21, (1, Int.ofNat 0, Int.ofNat 0, [111]))]
def gR33 : List (Nat × aE) := [(36, (0, Int.ofNat 0, Int.ofNat 1, []))]
def gR34 : List (Nat × aE) := [(1, (1, Int.ofNat 0, Int.ofNat 0, [113])), (2, (1, Int.ofNat 0, Int.ofNat 0, [114])), (3, (1, Int.ofNat 0, Int.ofNat 0, [115])), (4, (1, Int.ofNat 0, Int.ofNat 0, [116])), (5, (1, Int.ofNat 0, Int.ofNat 0, [117])), (6, (1, Int.ofNat 0, Int.ofNat 0, [118])), (7, (1, Int.ofNat 0, Int.ofNat 0, [119])), (8, (1, Int.ofNat 0, Int.ofNat 0, [120])), (9, (1, Int.ofNat 0, Int.ofNat 0, [121])), (10, (1, Int.ofNat 0, Int.ofNat 0, [122])), (11, (1, Int.ofNat 0, Int.ofNat 0, [123])), (12, (1, Int.ofNat 0, Int.ofNat 0, [124])), (13, (1, Int.ofNat 0, Int.ofNat 0, [125])), (14, (1, Int.ofNat 0, Int.ofNat 0, [126])), (15, (1, Int.ofNat 0, Int.ofNat 0, [127])), (16, (1, Int.ofNat 0, Int.ofNat 0, [128])), (17, (1, Int.ofNat 0, Int.ofNat 0, [129])), (18, (1, Int.ofNat 0, Int.ofNat 0, [130])), (19, (1, Int.ofNat 0, Int.ofNat 0, [131])), (20, (1, Int.ofNat 0, Int.ofNat 0, [132])), (21, (1, Int.ofNat 0, Int.ofNat 0, [133]))]
def gR35 : List (Nat × aE) := [(21, (0, Int.negSucc 0, Int.ofNat 3, []))]
def gR36 : List (Nat × aE) := [(21, (0, Int.ofNat 0, Int.ofNat 5, []))]
def gR37 : List (Nat × aE) := [(1, (1, Int.ofNat 0, Int.ofNat 0, [1])), (2, (1, Int.ofNat 0, Int.ofNat 0, [2])), (3, (1, Int.ofNat 0, Int.ofNat 0, [64])), (4, (1, Int.ofNat 0, Int.ofNat 0, [61])), (5, (1, Int.ofNat 0, Int.ofNat 0, [67])), (6, (1, Int.ofNat 0, Int.ofNat 0, [137])), (7, (1, Int.ofNat 0, Int.ofNat 0, [140])), (8, (1, Int.ofNat 0, Int.ofNat 0, [154])), (9, (1, Int.ofNat 0, Int.ofNat 0, [168])), (10, (1, Int.ofNat 0, Int.ofNat 0, [182])), (11, (1, Int.ofNat 0, Int.ofNat 0, [183])), (12, (0, Int.ofNat 0, Int.ofNat 1000000, []))]
def gR38 : List (Nat × aE) := [(1, (1, Int.ofNat 0, Int.ofNat 0, [138])), (2, (1, Int.ofNat 0, Int.ofNat 0, [139]))]
def gR39 : List (Nat × aE) := [(72, (0, Int.ofNat 0, Int.ofNat 1000000, []))]
def gR40 : List (Nat × aE) := [(1, (1, Int.ofNat 0, Int.ofNat 0, [141])), (2, (1, Int.ofNat 0, Int.ofNat 0, [142])), (3, (1, Int.ofNat 0, Int.ofNat 0, [143])), (4, (1, Int.ofNat 0, Int.ofNat 0, [144])), (5, (1, Int.ofNat 0, Int.ofNat 0, [145])), (6, (1, Int.ofNat 0, Int.ofNat 0, [146])), (7, (1, Int.ofNat 0, Int.ofNat 0, [147])), (8, (1, Int.ofNat 0, Int.ofNat 0, [148])), (9, (1, Int.ofNat 0, Int.ofNat 0, [149])), (10, (1, Int.ofNat 0, Int.ofNat 0, [150])), (11, (1, Int.ofNat 0, Int.ofNat 0, [151])), (12, (1, Int.ofNat 0, Int.ofNat 0, [152])), (13, (1, Int.ofNat 0, Int.ofNat 0, [153]))]
def gR41 : List (Nat × aE) := [(1, (1, Int.ofNat 0, Int.ofNat 0, [155])), (2, (1, Int.ofNat 0, Int.ofNat 0, [156])), (3, (1, Int.ofNat 0, Int.ofNat 0, [157])), (4, (1, Int.ofNat 0, Int.ofNat 0, [158])), (5, (1, Int.ofNat 0, Int.ofNat 0, [159])), (6, (1, Int.ofNat 0, Int.ofNat 0, [160])), (7, (1, Int.ofNat 0, Int.ofNat 0, [161])), (8, (1, Int.ofNat 0, Int.ofNat 0, [162])), (9, (1, Int.ofNat 0, Int.ofNat 0, [163])), (10, (1, Int.ofNat 0, Int.ofNat 0, [164])), (11, (1, Int.ofNat 0, Int.ofNat 0, [165])), (12, (1, Int.ofNat 0, Int.ofNat 0, [166])), (13, (1, Int.ofNat 0, Int.ofNat 0, [167]))]
def gR42 : List (Nat × aE) := [(36, (0, Int.ofNat 0, Int.ofNat 1000000, []))]
def gR43 : List (Nat × aE) := [(1, (1, Int.ofNat 0, Int.ofNat 0, [169])), (2, (1, Int.ofNat 0, Int.ofNat 0, [170])), (3, (1, Int.ofNat 0, Int.ofNat 0, [171])), (4, (1, Int.ofNat 0, Int.ofNat 0, [172])), (5, (1, Int.ofNat 0, Int.ofNat 0, [173])), (6, (1, Int.ofNat 0, Int.ofNat 0, [174])), (7, (1, Int.ofNat 0, Int.ofNat 0, [175])), (8, (1, Int.ofNat 0, Int.ofNat 0, [176])), (9, (1, Int.ofNat 0, Int.ofNat 0, [177])), (10, (1, Int.ofNat 0, Int.ofNat 0, [178])), (11, (1, Int.ofNat 0, Int.ofNat 0, [179])), (12, (1, Int.ofNat 0, Int.ofNat 0, [180])), (13, (1, Int.ofNat 0, Int.ofNat 0, [181]))]
def gR44 : List (Nat × aE) := [(36, (0, Int.negSucc 0, Int.ofNat 36, []))]
def gR45 : List (Nat × aE) := [(36, (0, Int.ofNat 0, Int.ofNat 8, []))]
def gR46 : List (Nat × aE) := [(1, (1, Int.ofNat 0, Int.ofNat 0, [1])), (2, (1, Int.ofNat 0, Int.ofNat 0, [2])), (3, (1, Int.ofNat 0, Int.ofNat 0, [64])), (4, (1, Int.ofNat 0, Int.ofNat 0, [67])), (5, (0, Int.ofNat 0, Int.ofNat 0, [])), (6, (0, Int.negSucc 0, Int.ofNat 7, []))]
def gR47 : List (Nat × aE) := [(2, (0, Int.ofNat 3, Int.ofNat 3, [])), (3, (0, Int.ofNat 9, Int.ofNat 9, [])), (4, (1, Int.ofNat 0, Int.ofNat 0, [186])), (5, (1, Int.ofNat 0, Int.ofNat 0, [187])), (6, (1, Int.ofNat 0, Int.ofNat 0, [188])), (7, (1, Int.ofNat 0, Int.ofNat 0, [189])), (8, (0, Int.ofNat 0, Int.ofNat 0, [])), (10, (0, Int.negSucc 0, Int.negSucc 0, [])), (14, (0, Int.ofNat 0, Int.ofNat 0, [])), (15, (2, Int.ofNat 0, Int.ofNat 0, [])), (19, (0, Int.ofNat 0, Int.ofNat 0, [])), (20, (1, Int.ofNat 0, Int.ofNat 0, [190])), (25, (0, Int.ofNat 0, Int.ofNat 0, [])), (26, (1, Int.ofNat 0, Int.ofNat 0, [191])), (27, (1, Int.ofNat 0, Int.ofNat 0, [192])), (28, (1, Int.ofNat 0, Int.ofNat 0, [193])), (29, (1, Int.ofNat 0, Int.ofNat 0, [194])), (30, (1, Int.ofNat 0, Int.ofNat 0, [195])), (31, (1, Int.ofNat 0, Int.ofNat 0, [196])), (32, (1, Int.ofNat 0, Int.ofNat 0, [197])), (33, (0, Int.ofNat 0, Int.ofNat 0, [])), (34, (1, Int.ofNat 0, Int.ofNat 0, [198])), (35, (1, Int.ofNat 0, Int.ofNat 0, [199])), (36, (1, Int.ofNat 0, Int.ofNat 0, [200])), (37, (1, Int.ofNat 0, Int.ofNat 0, [201])), (38, (1, Int.ofNat 0, Int.ofNat 0, [202])), (39, (1, Int.ofNat 0, Int.ofNat 0, [203])), (40, (0, Int.negSucc 0, Int.ofNat 7, [])), (41, (1, Int.ofNat 0, Int.ofNat 0, [204])), (47, (0, Int.ofNat 0, Int.ofNat 0, []))]
def gR48 : List (Nat × aE) := [(1, (0, Int.ofNat 0, Int.ofNat 1, [])), (2, (0, Int.ofNat 0, Int.ofNat 3, [])), (3, (0, Int.ofNat 0, Int.ofNat 0, [])), (4, (0, Int.negSucc 0, Int.negSucc 0, [])), (5, (0, Int.ofNat 0, Int.ofNat 3, [])), (9, (0, Int.ofNat 0, Int.ofNat 0, [])), (10, (0, Int.ofNat 1, Int.ofNat 1, [])), (11, (0, Int.ofNat 2, Int.ofNat 2, [])), (12, (0, Int.ofNat 3, Int.ofNat 3, [])), (20, (0, Int.ofNat 0, Int.ofNat 0, [])), (21, (0, Int.ofNat 0, Int.ofNat 8, [])), (22, (0, Int.ofNat 0, Int.ofNat 20, [])), (23, (0, Int.ofNat 0, Int.ofNat 1, [])), (24, (0, Int.ofNat 0, Int.ofNat 0, [])), (25, (0, Int.ofNat 1, Int.ofNat 1, [])), (26, (0, Int.ofNat 0, Int.ofNat 0, [])), (27, (0, Int.ofNat 20, Int.ofNat 20, [])), (160, (0, Int.ofNat 0, Int.ofNat 0, [])), (161, (0, Int.ofNat 10, Int.ofNat 10, [])), (165, (0, Int.ofNat 0, Int.ofNat 0, [])), (166, (0, Int.ofNat 10, Int.ofNat 10, [])), (170, (0, Int.ofNat 0, Int.ofNat 0, [])), (171, (0, Int.ofNat 10, Int.ofNat 10, [])), (175, (0, Int.ofNat 0, Int.ofNat 0, [])), (176, (0, Int.ofNat 10, Int.ofNat 10, [])), (180, (0, Int.ofNat 0, Int.ofNat 0, [])), (183, (0, Int.ofNat 0, Int.ofNat 3, [])), (195, (0, Int.ofNat 0, Int.ofNat 0, [])), (207, (0, Int.ofNat 4, Int.ofNat 4, [])), (210, (0, Int.ofNat 0, Int.ofNat 0, [])), (216, (0, Int.ofNat 1, Int.ofNat 1, [])), (280, (0, Int.ofNat 0, Int.ofNat 0, []))]
def gR49 : List (Nat × aE) := [(3, (0, Int.ofNat 0, Int.ofNat 0, [])), (4, (0, Int.negSucc 0, Int.negSucc 0, [])), (9, (0, Int.ofNat 0, Int.ofNat 0, [])), (10, (0, Int.ofNat 1, Int.ofNat 1, [])), (11, (0, Int.ofNat 2, Int.ofNat 2, [])), (12, (0, Int.ofNat 3, Int.ofNat 3, [])), (21, (0, Int.ofNat 0, Int.ofNat 0, [])), (22, (0, Int.ofNat 20, Int.ofNat 20, [])), (24, (0, Int.ofNat 0, Int.ofNat 0, [])), (25, (0, Int.ofNat 1, Int.ofNat 1, [])), (26, (0, Int.ofNat 0, Int.ofNat 0, [])), (27, (0, Int.ofNat 20, Int.ofNat 20, [])), (160, (0, Int.ofNat 0, Int.ofNat 0, [])), (161, (0, Int.ofNat 10, Int.ofNat 10, [])), (165, (0, Int.ofNat 0, Int.ofNat 0, [])), (166, (0, Int.ofNat 10, Int.ofNat 10, [])), (170, (0, Int.ofNat 0, Int.ofNat 0, [])), (171, (0, Int.ofNat 10, Int.ofNat 10, [])), (175, (0, Int.ofNat 0, Int.ofNat 0, [])), (176, (0, Int.ofNat 10, Int.ofNat 10, [])), (195, (0, Int.ofNat 0, Int.ofNat 0, [])), (207, (0, Int.ofNat 4, Int.ofNat 4, [])), (210, (0, Int.ofNat 0, Int.ofNat 0, [])), (216, (0, Int.ofNat 1, Int.ofNat 1, [])), (280, (0, Int.ofNat 0, Int.ofNat 0, []))]
def gR50 : List (Nat × aE) := [(3200, (0, Int.ofNat 0, Int.ofNat 0, []))]
def gR51 : List (Nat × aE) := [(160, (0, Int.ofNat 0, Int.ofNat 0, []))]
def gR52 : List (Nat × aE) := [(5, (0, Int.ofNat 0, Int.ofNat 0, [])), (6, (0, Int.ofNat 0, Int.ofNat 2, [])), (7, (0, Int.ofNat 0, Int.ofNat 8, [])), (8, (0, Int.ofNat 0, Int.ofNat 3, [])), (9, (0, Int.ofNat 0, Int.ofNat 4, [])), (11, (0, Int.ofNat 0, Int.ofNat 0, []))]
def gR53 : List (Nat × aE) := [(330, (2, Int.ofNat 0, Int.ofNat 0, []))]
def gR54 : List (Nat × aE) := [(330, (0, Int.ofNat 0, Int.ofNat 0, []))]
def gR55 : List (Nat × aE) := [(720, (0, Int.ofNat 0, Int.ofNat 0, []))]
def gR56 : List (Nat × aE) := [(468, (0, Int.ofNat 0, Int.ofNat 1, []))]
def gR57 : List (Nat × aE) := [(468, (0, Int.ofNat 0, Int.ofNat 0, []))]
def gR58 : List (Nat × aE) := [(93600, (0, Int.negSucc 0, Int.ofNat 36, []))]
def gR59 : List (Nat × aE) := [(13, (0, Int.ofNat 0, Int.ofNat 20, []))]
def gR60 : List (Nat × aE) := [(93600, (0, Int.ofNat 0, Int.ofNat 1, []))]
noncomputable def tB33_5 (i : Nat) : List (Nat × aE) := @Bool.rec (fun _ => List (Nat × aE)) (gR1) (gR0) (Nat.ble i 0)
noncomputable def tB33_7 (i : Nat) : List (Nat × aE) := @Bool.rec (fun _ => List (Nat × aE)) (gR4) (gR3) (Nat.ble i 5)
noncomputable def tB33_6 (i : Nat) : List (Nat × aE) := @Bool.rec (fun _ => List (Nat × aE)) (tB33_7 i) (gR2) (Nat.ble i 2)
noncomputable def tB33_4 (i : Nat) : List (Nat × aE) := @Bool.rec (fun _ => List (Nat × aE)) (tB33_6 i) (tB33_5 i) (Nat.ble i 1)
noncomputable def tB33_10 (i : Nat) : List (Nat × aE) := @Bool.rec (fun _ => List (Nat × aE)) (gR7) (gR6) (Nat.ble i 9)
noncomputable def tB33_9 (i : Nat) : List (Nat × aE) := @Bool.rec (fun _ => List (Nat × aE)) (tB33_10 i) (gR5) (Nat.ble i 8)
noncomputable def tB33_12 (i : Nat) : List (Nat × aE) := @Bool.rec (fun _ => List (Nat × aE)) (gR10) (gR9) (Nat.ble i 12)
noncomputable def tB33_11 (i : Nat) : List (Nat × aE) := @Bool.rec (fun _ => List (Nat × aE)) (tB33_12 i) (gR8) (Nat.ble i 11)
noncomputable def tB33_8 (i : Nat) : List (Nat × aE) := @Bool.rec (fun _ => List (Nat × aE)) (tB33_11 i) (tB33_9 i) (Nat.ble i 10)
noncomputable def tB33_3 (i : Nat) : List (Nat × aE) := @Bool.rec (fun _ => List (Nat × aE)) (tB33_8 i) (tB33_4 i) (Nat.ble i 7)
noncomputable def tB33_16 (i : Nat) : List (Nat × aE) := @Bool.rec (fun _ => List (Nat × aE)) (gR13) (gR12) (Nat.ble i 16)
noncomputable def tB33_15 (i : Nat) : List (Nat × aE) := @Bool.rec (fun _ => List (Nat × aE)) (tB33_16 i) (gR11) (Nat.ble i 15)
noncomputable def tB33_18 (i : Nat) : List (Nat × aE) := @Bool.rec (fun _ => List (Nat × aE)) (gR3) (gR15) (Nat.ble i 19)
noncomputable def tB33_17 (i : Nat) : List (Nat × aE) := @Bool.rec (fun _ => List (Nat × aE)) (tB33_18 i) (gR14) (Nat.ble i 18)
noncomputable def tB33_14 (i : Nat) : List (Nat × aE) := @Bool.rec (fun _ => List (Nat × aE)) (tB33_17 i) (tB33_15 i) (Nat.ble i 17)
noncomputable def tB33_21 (i : Nat) : List (Nat × aE) := @Bool.rec (fun _ => List (Nat × aE)) (gR16) (gR5) (Nat.ble i 25)
noncomputable def tB33_20 (i : Nat) : List (Nat × aE) := @Bool.rec (fun _ => List (Nat × aE)) (tB33_21 i) (gR4) (Nat.ble i 24)
noncomputable def tB33_23 (i : Nat) : List (Nat × aE) := @Bool.rec (fun _ => List (Nat × aE)) (gR17) (gR8) (Nat.ble i 28)
noncomputable def tB33_22 (i : Nat) : List (Nat × aE) := @Bool.rec (fun _ => List (Nat × aE)) (tB33_23 i) (gR7) (Nat.ble i 27)
noncomputable def tB33_19 (i : Nat) : List (Nat × aE) := @Bool.rec (fun _ => List (Nat × aE)) (tB33_22 i) (tB33_20 i) (Nat.ble i 26)
noncomputable def tB33_13 (i : Nat) : List (Nat × aE) := @Bool.rec (fun _ => List (Nat × aE)) (tB33_19 i) (tB33_14 i) (Nat.ble i 22)
noncomputable def tB33_2 (i : Nat) : List (Nat × aE) := @Bool.rec (fun _ => List (Nat × aE)) (tB33_13 i) (tB33_3 i) (Nat.ble i 13)
noncomputable def tB33_27 (i : Nat) : List (Nat × aE) := @Bool.rec (fun _ => List (Nat × aE)) (gR11) (gR10) (Nat.ble i 30)
noncomputable def tB33_29 (i : Nat) : List (Nat × aE) := @Bool.rec (fun _ => List (Nat × aE)) (gR18) (gR13) (Nat.ble i 34)
noncomputable def tB33_28 (i : Nat) : List (Nat × aE) := @Bool.rec (fun _ => List (Nat × aE)) (tB33_29 i) (gR12) (Nat.ble i 33)
noncomputable def tB33_26 (i : Nat) : List (Nat × aE) := @Bool.rec (fun _ => List (Nat × aE)) (tB33_28 i) (tB33_27 i) (Nat.ble i 32)
noncomputable def tB33_32 (i : Nat) : List (Nat × aE) := @Bool.rec (fun _ => List (Nat × aE)) (gR21) (gR20) (Nat.ble i 37)
noncomputable def tB33_31 (i : Nat) : List (Nat × aE) := @Bool.rec (fun _ => List (Nat × aE)) (tB33_32 i) (gR19) (Nat.ble i 36)
noncomputable def tB33_34 (i : Nat) : List (Nat × aE) := @Bool.rec (fun _ => List (Nat × aE)) (gR20) (gR22) (Nat.ble i 41)
noncomputable def tB33_33 (i : Nat) : List (Nat × aE) := @Bool.rec (fun _ => List (Nat × aE)) (tB33_34 i) (gR12) (Nat.ble i 40)
noncomputable def tB33_30 (i : Nat) : List (Nat × aE) := @Bool.rec (fun _ => List (Nat × aE)) (tB33_33 i) (tB33_31 i) (Nat.ble i 38)
noncomputable def tB33_25 (i : Nat) : List (Nat × aE) := @Bool.rec (fun _ => List (Nat × aE)) (tB33_30 i) (tB33_26 i) (Nat.ble i 35)
noncomputable def tB33_38 (i : Nat) : List (Nat × aE) := @Bool.rec (fun _ => List (Nat × aE)) (gR23) (gR12) (Nat.ble i 45)
noncomputable def tB33_37 (i : Nat) : List (Nat × aE) := @Bool.rec (fun _ => List (Nat × aE)) (tB33_38 i) (gR21) (Nat.ble i 43)
noncomputable def tB33_40 (i : Nat) : List (Nat × aE) := @Bool.rec (fun _ => List (Nat × aE)) (gR12) (gR21) (Nat.ble i 48)
noncomputable def tB33_39 (i : Nat) : List (Nat × aE) := @Bool.rec (fun _ => List (Nat × aE)) (tB33_40 i) (gR20) (Nat.ble i 47)
noncomputable def tB33_36 (i : Nat) : List (Nat × aE) := @Bool.rec (fun _ => List (Nat × aE)) (tB33_39 i) (tB33_37 i) (Nat.ble i 46)
noncomputable def tB33_43 (i : Nat) : List (Nat × aE) := @Bool.rec (fun _ => List (Nat × aE)) (gR21) (gR20) (Nat.ble i 52)
noncomputable def tB33_42 (i : Nat) : List (Nat × aE) := @Bool.rec (fun _ => List (Nat × aE)) (tB33_43 i) (gR24) (Nat.ble i 51)
noncomputable def tB33_45 (i : Nat) : List (Nat × aE) := @Bool.rec (fun _ => List (Nat × aE)) (gR20) (gR25) (Nat.ble i 56)
noncomputable def tB33_44 (i : Nat) : List (Nat × aE) := @Bool.rec (fun _ => List (Nat × aE)) (tB33_45 i) (gR12) (Nat.ble i 55)
noncomputable def tB33_41 (i : Nat) : List (Nat × aE) := @Bool.rec (fun _ => List (Nat × aE)) (tB33_44 i) (tB33_42 i) (Nat.ble i 53)
noncomputable def tB33_35 (i : Nat) : List (Nat × aE) := @Bool.rec (fun _ => List (Nat × aE)) (tB33_41 i) (tB33_36 i) (Nat.ble i 50)
noncomputable def tB33_24 (i : Nat) : List (Nat × aE) := @Bool.rec (fun _ => List (Nat × aE)) (tB33_35 i) (tB33_25 i) (Nat.ble i 42)
noncomputable def tB33_1 (i : Nat) : List (Nat × aE) := @Bool.rec (fun _ => List (Nat × aE)) (tB33_24 i) (tB33_2 i) (Nat.ble i 29)
noncomputable def tB33_50 (i : Nat) : List (Nat × aE) := @Bool.rec (fun _ => List (Nat × aE)) (gR27) (gR26) (Nat.ble i 60)
noncomputable def tB33_52 (i : Nat) : List (Nat × aE) := @Bool.rec (fun _ => List (Nat × aE)) (gR29) (gR3) (Nat.ble i 63)
noncomputable def tB33_51 (i : Nat) : List (Nat × aE) := @Bool.rec (fun _ => List (Nat × aE)) (tB33_52 i) (gR28) (Nat.ble i 62)
noncomputable def tB33_49 (i : Nat) : List (Nat × aE) := @Bool.rec (fun _ => List (Nat × aE)) (tB33_51 i) (tB33_50 i) (Nat.ble i 61)
noncomputable def tB33_55 (i : Nat) : List (Nat × aE) := @Bool.rec (fun _ => List (Nat × aE)) (gR30) (gR16) (Nat.ble i 66)
noncomputable def tB33_54 (i : Nat) : List (Nat × aE) := @Bool.rec (fun _ => List (Nat × aE)) (tB33_55 i) (gR3) (Nat.ble i 65)
noncomputable def tB33_57 (i : Nat) : List (Nat × aE) := @Bool.rec (fun _ => List (Nat × aE)) (gR32) (gR3) (Nat.ble i 89)
noncomputable def tB33_56 (i : Nat) : List (Nat × aE) := @Bool.rec (fun _ => List (Nat × aE)) (tB33_57 i) (gR31) (Nat.ble i 68)
noncomputable def tB33_53 (i : Nat) : List (Nat × aE) := @Bool.rec (fun _ => List (Nat × aE)) (tB33_56 i) (tB33_54 i) (Nat.ble i 67)
noncomputable def tB33_48 (i : Nat) : List (Nat × aE) := @Bool.rec (fun _ => List (Nat × aE)) (tB33_53 i) (tB33_49 i) (Nat.ble i 64)
noncomputable def tB33_61 (i : Nat) : List (Nat × aE) := @Bool.rec (fun _ => List (Nat × aE)) (gR3) (gR34) (Nat.ble i 112)
noncomputable def tB33_60 (i : Nat) : List (Nat × aE) := @Bool.rec (fun _ => List (Nat × aE)) (tB33_61 i) (gR33) (Nat.ble i 111)
noncomputable def tB33_63 (i : Nat) : List (Nat × aE) := @Bool.rec (fun _ => List (Nat × aE)) (gR37) (gR36) (Nat.ble i 135)
noncomputable def tB33_62 (i : Nat) : List (Nat × aE) := @Bool.rec (fun _ => List (Nat × aE)) (tB33_63 i) (gR35) (Nat.ble i 134)
noncomputable def tB33_59 (i : Nat) : List (Nat × aE) := @Bool.rec (fun _ => List (Nat × aE)) (tB33_62 i) (tB33_60 i) (Nat.ble i 133)
noncomputable def tB33_66 (i : Nat) : List (Nat × aE) := @Bool.rec (fun _ => List (Nat × aE)) (gR40) (gR39) (Nat.ble i 139)
noncomputable def tB33_65 (i : Nat) : List (Nat × aE) := @Bool.rec (fun _ => List (Nat × aE)) (tB33_66 i) (gR38) (Nat.ble i 137)
noncomputable def tB33_68 (i : Nat) : List (Nat × aE) := @Bool.rec (fun _ => List (Nat × aE)) (gR42) (gR41) (Nat.ble i 154)
noncomputable def tB33_67 (i : Nat) : List (Nat × aE) := @Bool.rec (fun _ => List (Nat × aE)) (tB33_68 i) (gR39) (Nat.ble i 153)
noncomputable def tB33_64 (i : Nat) : List (Nat × aE) := @Bool.rec (fun _ => List (Nat × aE)) (tB33_67 i) (tB33_65 i) (Nat.ble i 140)
noncomputable def tB33_58 (i : Nat) : List (Nat × aE) := @Bool.rec (fun _ => List (Nat × aE)) (tB33_64 i) (tB33_59 i) (Nat.ble i 136)
noncomputable def tB33_47 (i : Nat) : List (Nat × aE) := @Bool.rec (fun _ => List (Nat × aE)) (tB33_58 i) (tB33_48 i) (Nat.ble i 90)
noncomputable def tB33_73 (i : Nat) : List (Nat × aE) := @Bool.rec (fun _ => List (Nat × aE)) (gR44) (gR16) (Nat.ble i 181)
noncomputable def tB33_72 (i : Nat) : List (Nat × aE) := @Bool.rec (fun _ => List (Nat × aE)) (tB33_73 i) (gR43) (Nat.ble i 168)
noncomputable def tB33_75 (i : Nat) : List (Nat × aE) := @Bool.rec (fun _ => List (Nat × aE)) (gR47) (gR46) (Nat.ble i 184)
noncomputable def tB33_74 (i : Nat) : List (Nat × aE) := @Bool.rec (fun _ => List (Nat × aE)) (tB33_75 i) (gR45) (Nat.ble i 183)
noncomputable def tB33_71 (i : Nat) : List (Nat × aE) := @Bool.rec (fun _ => List (Nat × aE)) (tB33_74 i) (tB33_72 i) (Nat.ble i 182)
noncomputable def tB33_78 (i : Nat) : List (Nat × aE) := @Bool.rec (fun _ => List (Nat × aE)) (gR50) (gR49) (Nat.ble i 187)
noncomputable def tB33_77 (i : Nat) : List (Nat × aE) := @Bool.rec (fun _ => List (Nat × aE)) (tB33_78 i) (gR48) (Nat.ble i 186)
noncomputable def tB33_80 (i : Nat) : List (Nat × aE) := @Bool.rec (fun _ => List (Nat × aE)) (gR52) (gR51) (Nat.ble i 190)
noncomputable def tB33_79 (i : Nat) : List (Nat × aE) := @Bool.rec (fun _ => List (Nat × aE)) (tB33_80 i) (gR20) (Nat.ble i 189)
noncomputable def tB33_76 (i : Nat) : List (Nat × aE) := @Bool.rec (fun _ => List (Nat × aE)) (tB33_79 i) (tB33_77 i) (Nat.ble i 188)
noncomputable def tB33_70 (i : Nat) : List (Nat × aE) := @Bool.rec (fun _ => List (Nat × aE)) (tB33_76 i) (tB33_71 i) (Nat.ble i 185)
noncomputable def tB33_84 (i : Nat) : List (Nat × aE) := @Bool.rec (fun _ => List (Nat × aE)) (gR55) (gR54) (Nat.ble i 193)
noncomputable def tB33_83 (i : Nat) : List (Nat × aE) := @Bool.rec (fun _ => List (Nat × aE)) (tB33_84 i) (gR53) (Nat.ble i 192)
noncomputable def tB33_86 (i : Nat) : List (Nat × aE) := @Bool.rec (fun _ => List (Nat × aE)) (gR58) (gR57) (Nat.ble i 196)
noncomputable def tB33_85 (i : Nat) : List (Nat × aE) := @Bool.rec (fun _ => List (Nat × aE)) (tB33_86 i) (gR56) (Nat.ble i 195)
noncomputable def tB33_82 (i : Nat) : List (Nat × aE) := @Bool.rec (fun _ => List (Nat × aE)) (tB33_85 i) (tB33_83 i) (Nat.ble i 194)
noncomputable def tB33_89 (i : Nat) : List (Nat × aE) := @Bool.rec (fun _ => List (Nat × aE)) (gR21) (gR59) (Nat.ble i 199)
noncomputable def tB33_88 (i : Nat) : List (Nat × aE) := @Bool.rec (fun _ => List (Nat × aE)) (tB33_89 i) (gR21) (Nat.ble i 198)
noncomputable def tB33_91 (i : Nat) : List (Nat × aE) := @Bool.rec (fun _ => List (Nat × aE)) (gR21) (gR33) (Nat.ble i 203)
noncomputable def tB33_90 (i : Nat) : List (Nat × aE) := @Bool.rec (fun _ => List (Nat × aE)) (tB33_91 i) (gR60) (Nat.ble i 201)
noncomputable def tB33_87 (i : Nat) : List (Nat × aE) := @Bool.rec (fun _ => List (Nat × aE)) (tB33_90 i) (tB33_88 i) (Nat.ble i 200)
noncomputable def tB33_81 (i : Nat) : List (Nat × aE) := @Bool.rec (fun _ => List (Nat × aE)) (tB33_87 i) (tB33_82 i) (Nat.ble i 197)
noncomputable def tB33_69 (i : Nat) : List (Nat × aE) := @Bool.rec (fun _ => List (Nat × aE)) (tB33_81 i) (tB33_70 i) (Nat.ble i 191)
noncomputable def tB33_46 (i : Nat) : List (Nat × aE) := @Bool.rec (fun _ => List (Nat × aE)) (tB33_69 i) (tB33_47 i) (Nat.ble i 167)
noncomputable def tB33 (i : Nat) : List (Nat × aE) := @Bool.rec (fun _ => List (Nat × aE)) (@Bool.rec (fun _ => List (Nat × aE)) (tB33_46 i) (tB33_1 i) (Nat.ble i 57)) ([]) (Nat.ble 205 i)
theorem tB33_t : fTau tB33 := fun i h => by
  unfold tB33
  rw [Nat.ble_eq_true_of_le h]
def fB33 : fFs := [((2, 10), Int.ofNat 0), ((2, 11), Int.ofNat 0), ((9, 0), Int.ofNat 0), ((9, 1), Int.ofNat 20), ((9, 3), Int.ofNat 0), ((61, 5), Int.ofNat 0), ((61, 6), Int.ofNat 0), ((136, 11), Int.ofNat 0), ((184, 5), Int.ofNat 0), ((185, 39), Int.ofNat 0), ((186, 0), Int.ofNat 0), ((186, 1), Int.ofNat 0), ((186, 4), Int.ofNat 0), ((186, 20), Int.ofNat 0), ((186, 21), Int.ofNat 20), ((186, 22), Int.ofNat 0), ((186, 180), Int.ofNat 0), ((186, 181), Int.ofNat 0), ((186, 182), Int.ofNat 0), ((199, 0), Int.ofNat 0)]
theorem cr33_3 : lRun tB33 (some (8, 2), []) (fun _ => []) 0 1000000 60 (fun _ => none) 351 [(0, Int.negSucc 2147483647, Int.ofNat 2147483647, []), (0, Int.negSucc 2147483647, Int.ofNat 2147483647, []), (0, Int.negSucc 2147483647, Int.ofNat 2147483647, []), (0, Int.negSucc 2147483647, Int.ofNat 2147483647, []), (0, Int.negSucc 2147483647, Int.ofNat 2147483647, []), (0, Int.negSucc 2147483647, Int.ofNat 2147483647, []), (0, Int.negSucc 2147483647, Int.ofNat 2147483647, []), (0, Int.negSucc 2147483647, Int.ofNat 2147483647, [])] [(0, (3, 0, 0, [])), (1, (1, 0, 0, [0])), (2, (1, 0, 0, [185])), (3, (0, Int.ofNat 2, Int.ofNat 2, []))] [] fB33 [] 205 = true := by decide +kernel
