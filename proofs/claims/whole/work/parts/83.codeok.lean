set_option maxRecDepth 100000
theorem am_ok0 : am_okL 0 0 am_c0 = true := by decide +kernel
theorem am_ok1 : am_okL 1 0 am_c1 = true := by decide +kernel
theorem am_ok2 : am_okL 2 0 am_c2 = true := by decide +kernel
theorem am_ok3 : am_okL 3 0 am_c3 = true := by decide +kernel
theorem am_ok4 : am_okL 4 0 am_c4 = true := by decide +kernel
theorem am_ok5 : am_okL 5 0 am_c5 = true := by decide +kernel
theorem am_ok6 : am_okL 6 0 am_c6 = true := by decide +kernel
theorem am_ok7 : am_okL 7 0 am_c7 = true := by decide +kernel
theorem am_ok8 : am_okL 8 0 am_c8 = true := by decide +kernel
theorem am_ok9 : am_okL 9 0 am_c9 = true := by decide +kernel
theorem am_ok10 : am_okL 10 0 am_c10 = true := by decide +kernel
theorem am_ok11 : am_okL 11 0 am_c11 = true := by decide +kernel
theorem am_ok12 : am_okL 12 0 am_c12 = true := by decide +kernel
theorem am_ok13 : am_okL 13 0 am_c13 = true := by decide +kernel
theorem am_ok14 : am_okL 14 0 am_c14 = true := by decide +kernel
theorem am_ok15 : am_okL 15 0 am_c15 = true := by decide +kernel
theorem am_ok16 : am_okL 16 0 am_c16 = true := by decide +kernel
theorem am_ok17 : am_okL 17 0 am_c17 = true := by decide +kernel
theorem am_ok18 : am_okL 18 0 am_c18 = true := by decide +kernel
theorem am_ok19 : am_okL 19 0 am_c19 = true := by decide +kernel
theorem am_ok20 : am_okL 20 0 am_c20 = true := by decide +kernel
theorem am_ok21 : am_okL 21 0 am_c21 = true := by decide +kernel
theorem am_ok22 : am_okL 22 0 am_c22 = true := by decide +kernel
theorem am_ok23 : am_okL 23 0 am_c23 = true := by decide +kernel
theorem am_ok24 : am_okL 24 0 am_c24 = true := by decide +kernel
theorem am_ok25 : am_okL 25 0 am_c25 = true := by decide +kernel
theorem am_ok26 : am_okL 26 0 am_c26 = true := by decide +kernel
theorem am_ok27 : am_okL 27 0 am_c27 = true := by decide +kernel
theorem am_ok28 : am_okL 28 0 am_c28 = true := by decide +kernel
theorem am_ok29 : am_okL 29 0 am_c29 = true := by decide +kernel
theorem am_ok30 : am_okL 30 0 am_c30 = true := by decide +kernel
theorem am_ok31 : am_okL 31 0 am_c31 = true := by decide +kernel
theorem am_ok32 : am_okL 32 0 am_c32 = true := by decide +kernel
theorem am_ok33 : am_okL 33 0 am_c33 = true := by decide +kernel
theorem am_ok34 : am_okL 34 0 am_c34 = true := by decide +kernel
theorem am_ok35 : am_okL 35 0 am_c35 = true := by decide +kernel
theorem am_ok36 : am_okL 36 0 am_c36 = true := by decide +kernel
theorem am_ok37 : am_okL 37 0 am_c37 = true := by decide +kernel
theorem am_ok38 : am_okL 38 0 am_c38 = true := by decide +kernel
theorem am_ok39 : am_okL 39 0 am_c39 = true := by decide +kernel
theorem am_ok40 : am_okL 40 0 am_c40 = true := by decide +kernel
theorem am_ok41 : am_okL 41 0 am_c41 = true := by decide +kernel
theorem am_ok42 : am_okL 42 0 am_c42 = true := by decide +kernel
theorem am_ok43 : am_okL 43 0 am_c43 = true := by decide +kernel
theorem am_ok44 : am_okL 44 0 am_c44 = true := by decide +kernel
theorem am_ok45 : am_okL 45 0 am_c45 = true := by decide +kernel
theorem am_ok46 : am_okL 46 0 am_c46 = true := by decide +kernel
theorem am_ok47 : am_okL 47 0 am_c47 = true := by decide +kernel
theorem am_ok48 : am_okL 48 0 am_c48 = true := by decide +kernel
theorem am_ok49 : am_okL 49 0 am_c49 = true := by decide +kernel
theorem am_ok50 : am_okL 50 0 am_c50 = true := by decide +kernel
theorem am_ok51 : am_okL 51 0 am_c51 = true := by decide +kernel
theorem am_ok52 : am_okL 52 0 am_c52 = true := by decide +kernel
theorem am_ok53 : am_okL 53 0 am_c53 = true := by decide +kernel
theorem am_ok54 : am_okL 54 0 am_c54 = true := by decide +kernel
theorem am_ok55 : am_okL 55 0 am_c55 = true := by decide +kernel
theorem am_ok56 : am_okL 56 0 am_c56 = true := by decide +kernel
theorem am_ok57 : am_okL 57 0 am_c57 = true := by decide +kernel
theorem am_ok58 : am_okL 58 0 am_c58 = true := by decide +kernel
theorem am_ok59 : am_okL 59 0 am_c59 = true := by decide +kernel
theorem am_ok60 : am_okL 60 0 am_c60 = true := by decide +kernel
theorem am_ok61 : am_okL 61 0 am_c61 = true := by decide +kernel
theorem am_ok62 : am_okL 62 0 am_c62 = true := by decide +kernel
theorem am_ok63 : am_okL 63 0 am_c63 = true := by decide +kernel
theorem am_ok64 : am_okL 64 0 am_c64 = true := by decide +kernel
theorem am_ok65 : am_okL 65 0 am_c65 = true := by decide +kernel
theorem am_ok66 : am_okL 66 0 am_c66 = true := by decide +kernel
theorem am_ok67 : am_okL 67 0 am_c67 = true := by decide +kernel
theorem am_ok68 : am_okL 68 0 am_c68 = true := by decide +kernel
theorem am_ok69 : am_okL 69 0 am_c69 = true := by decide +kernel
theorem am_ok70 : am_okL 70 0 am_c70 = true := by decide +kernel
theorem am_ok71 : am_okL 71 0 am_c71 = true := by decide +kernel
theorem am_ok72 : am_okL 72 0 am_c72 = true := by decide +kernel
theorem am_ok73 : am_okL 73 0 am_c73 = true := by decide +kernel
theorem am_ok74 : am_okL 74 0 am_c74 = true := by decide +kernel
theorem am_ok75 : am_okL 75 0 am_c75 = true := by decide +kernel
theorem am_ok76 : am_okL 76 0 am_c76 = true := by decide +kernel
theorem am_ok77 : am_okL 77 0 am_c77 = true := by decide +kernel
theorem am_ok78 : am_okL 78 0 am_c78 = true := by decide +kernel
theorem am_ok79 : am_okL 79 0 am_c79 = true := by decide +kernel
theorem am_ok80 : am_okL 80 0 am_c80 = true := by decide +kernel
theorem am_ok81 : am_okL 81 0 am_c81 = true := by decide +kernel
theorem am_ok82 : am_okL 82 0 am_c82 = true := by decide +kernel
theorem am_ok83 : am_okL 83 0 am_c83 = true := by decide +kernel
theorem am_ok84 : am_okL 84 0 am_c84 = true := by decide +kernel
theorem am_ok85 : am_okL 85 0 am_c85 = true := by decide +kernel
theorem am_ok86 : am_okL 86 0 am_c86 = true := by decide +kernel
theorem am_ok87 : am_okL 87 0 am_c87 = true := by decide +kernel
theorem am_ok88 : am_okL 88 0 am_c88 = true := by decide +kernel
theorem am_ok89 : am_okL 89 0 am_c89 = true := by decide +kernel
theorem am_ok90 : am_okL 90 0 am_c90 = true := by decide +kernel
theorem am_ok91 : am_okL 91 0 am_c91 = true := by decide +kernel
theorem am_ok92 : am_okL 92 0 am_c92 = true := by decide +kernel
theorem am_ok93 : am_okL 93 0 am_c93 = true := by decide +kernel
theorem am_ok94 : am_okL 94 0 am_c94 = true := by decide +kernel
theorem am_ok95 : am_okL 95 0 am_c95 = true := by decide +kernel
theorem am_ok96 : am_okL 96 0 am_c96 = true := by decide +kernel
theorem am_ok97 : am_okL 97 0 am_c97 = true := by decide +kernel
theorem am_ok98 : am_okL 98 0 am_c98 = true := by decide +kernel
theorem am_ok99 : am_okL 99 0 am_c99 = true := by decide +kernel
theorem am_ok100 : am_okL 100 0 am_c100 = true := by decide +kernel
theorem am_ok101 : am_okL 101 0 am_c101 = true := by decide +kernel
theorem am_ok102 : am_okL 102 0 am_c102 = true := by decide +kernel
theorem am_ok103 : am_okL 103 0 am_c103 = true := by decide +kernel
theorem am_ok104 : am_okL 104 0 am_c104 = true := by decide +kernel
theorem am_ok105 : am_okL 105 0 am_c105 = true := by decide +kernel
theorem am_ok106 : am_okL 106 0 am_c106 = true := by decide +kernel
theorem am_ok107 : am_okL 107 0 am_c107 = true := by decide +kernel
theorem am_ok108 : am_okL 108 0 am_c108 = true := by decide +kernel
theorem am_ok109 : am_okL 109 0 am_c109 = true := by decide +kernel
theorem am_ok110 : am_okL 110 0 am_c110 = true := by decide +kernel
theorem am_ok111 : am_okL 111 0 am_c111 = true := by decide +kernel
theorem am_ok112 : am_okL 112 0 am_c112 = true := by decide +kernel
theorem am_ok113 : am_okL 113 0 am_c113 = true := by decide +kernel
theorem am_ok114 : am_okL 114 0 am_c114 = true := by decide +kernel
theorem am_ok115 : am_okL 115 0 am_c115 = true := by decide +kernel
theorem am_ok116 : am_okL 116 0 am_c116 = true := by decide +kernel
theorem am_ok117 : am_okL 117 0 am_c117 = true := by decide +kernel
theorem am_ok118 : am_okL 118 0 am_c118 = true := by decide +kernel
theorem am_ok119 : am_okL 119 0 am_c119 = true := by decide +kernel
theorem am_ok120 : am_okL 120 0 am_c120 = true := by decide +kernel
theorem am_ok121 : am_okL 121 0 am_c121 = true := by decide +kernel
theorem am_ok122 : am_okL 122 0 am_c122 = true := by decide +kernel
theorem am_ok123 : am_okL 123 0 am_c123 = true := by decide +kernel
theorem am_ok124 : am_okL 124 0 am_c124 = true := by decide +kernel
theorem am_ok125 : am_okL 125 0 am_c125 = true := by decide +kernel
theorem am_ok126 : am_okL 126 0 am_c126 = true := by decide +kernel
theorem am_ok127 : am_okL 127 0 am_c127 = true := by decide +kernel
theorem am_ok128 : am_okL 128 0 am_c128 = true := by decide +kernel
theorem am_ok129 : am_okL 129 0 am_c129 = true := by decide +kernel
theorem am_ok130 : am_okL 130 0 am_c130 = true := by decide +kernel
theorem am_ok131 : am_okL 131 0 am_c131 = true := by decide +kernel
theorem am_ok132 : am_okL 132 0 am_c132 = true := by decide +kernel
theorem am_ok133 : am_okL 133 0 am_c133 = true := by decide +kernel
theorem am_ok134 : am_okL 134 0 am_c134 = true := by decide +kernel
theorem am_ok135 : am_okL 135 0 am_c135 = true := by decide +kernel
theorem am_ok136 : am_okL 136 0 am_c136 = true := by decide +kernel
theorem am_okA : ∀ y, y < 137 → am_okL y 0 (am_cd y) = true := fun y h => match y, h with
  | 0, _ => am_ok0
  | 1, _ => am_ok1
  | 2, _ => am_ok2
  | 3, _ => am_ok3
  | 4, _ => am_ok4
  | 5, _ => am_ok5
  | 6, _ => am_ok6
  | 7, _ => am_ok7
  | 8, _ => am_ok8
  | 9, _ => am_ok9
  | 10, _ => am_ok10
  | 11, _ => am_ok11
  | 12, _ => am_ok12
  | 13, _ => am_ok13
  | 14, _ => am_ok14
  | 15, _ => am_ok15
  | 16, _ => am_ok16
  | 17, _ => am_ok17
  | 18, _ => am_ok18
  | 19, _ => am_ok19
  | 20, _ => am_ok20
  | 21, _ => am_ok21
  | 22, _ => am_ok22
  | 23, _ => am_ok23
  | 24, _ => am_ok24
  | 25, _ => am_ok25
  | 26, _ => am_ok26
  | 27, _ => am_ok27
  | 28, _ => am_ok28
  | 29, _ => am_ok29
  | 30, _ => am_ok30
  | 31, _ => am_ok31
  | 32, _ => am_ok32
  | 33, _ => am_ok33
  | 34, _ => am_ok34
  | 35, _ => am_ok35
  | 36, _ => am_ok36
  | 37, _ => am_ok37
  | 38, _ => am_ok38
  | 39, _ => am_ok39
  | 40, _ => am_ok40
  | 41, _ => am_ok41
  | 42, _ => am_ok42
  | 43, _ => am_ok43
  | 44, _ => am_ok44
  | 45, _ => am_ok45
  | 46, _ => am_ok46
  | 47, _ => am_ok47
  | 48, _ => am_ok48
  | 49, _ => am_ok49
  | 50, _ => am_ok50
  | 51, _ => am_ok51
  | 52, _ => am_ok52
  | 53, _ => am_ok53
  | 54, _ => am_ok54
  | 55, _ => am_ok55
  | 56, _ => am_ok56
  | 57, _ => am_ok57
  | 58, _ => am_ok58
  | 59, _ => am_ok59
  | 60, _ => am_ok60
  | 61, _ => am_ok61
  | 62, _ => am_ok62
  | 63, _ => am_ok63
  | 64, _ => am_ok64
  | 65, _ => am_ok65
  | 66, _ => am_ok66
  | 67, _ => am_ok67
  | 68, _ => am_ok68
  | 69, _ => am_ok69
  | 70, _ => am_ok70
  | 71, _ => am_ok71
  | 72, _ => am_ok72
  | 73, _ => am_ok73
  | 74, _ => am_ok74
  | 75, _ => am_ok75
  | 76, _ => am_ok76
  | 77, _ => am_ok77
  | 78, _ => am_ok78
  | 79, _ => am_ok79
  | 80, _ => am_ok80
  | 81, _ => am_ok81
  | 82, _ => am_ok82
  | 83, _ => am_ok83
  | 84, _ => am_ok84
  | 85, _ => am_ok85
  | 86, _ => am_ok86
  | 87, _ => am_ok87
  | 88, _ => am_ok88
  | 89, _ => am_ok89
  | 90, _ => am_ok90
  | 91, _ => am_ok91
  | 92, _ => am_ok92
  | 93, _ => am_ok93
  | 94, _ => am_ok94
  | 95, _ => am_ok95
  | 96, _ => am_ok96
  | 97, _ => am_ok97
  | 98, _ => am_ok98
  | 99, _ => am_ok99
  | 100, _ => am_ok100
  | 101, _ => am_ok101
  | 102, _ => am_ok102
  | 103, _ => am_ok103
  | 104, _ => am_ok104
  | 105, _ => am_ok105
  | 106, _ => am_ok106
  | 107, _ => am_ok107
  | 108, _ => am_ok108
  | 109, _ => am_ok109
  | 110, _ => am_ok110
  | 111, _ => am_ok111
  | 112, _ => am_ok112
  | 113, _ => am_ok113
  | 114, _ => am_ok114
  | 115, _ => am_ok115
  | 116, _ => am_ok116
  | 117, _ => am_ok117
  | 118, _ => am_ok118
  | 119, _ => am_ok119
  | 120, _ => am_ok120
  | 121, _ => am_ok121
  | 122, _ => am_ok122
  | 123, _ => am_ok123
  | 124, _ => am_ok124
  | 125, _ => am_ok125
  | 126, _ => am_ok126
  | 127, _ => am_ok127
  | 128, _ => am_ok128
  | 129, _ => am_ok129
  | 130, _ => am_ok130
  | 131, _ => am_ok131
  | 132, _ => am_ok132
  | 133, _ => am_ok133
  | 134, _ => am_ok134
  | 135, _ => am_ok135
  | 136, _ => am_ok136
  | n + 137, h => absurd h (by omega)
