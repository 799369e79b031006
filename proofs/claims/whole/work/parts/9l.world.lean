/-! where each cell of the start lies in the world that the two constructors made -/
def adF (R M : Nat) (q q' : Nat → Nat → Nat) (s0 s1 v0 v1 b : Nat) : Nat → Nat := fun k => cond (Nat.blt k 206) (cond (Nat.blt k 103) (cond (Nat.blt k 51) (cond (Nat.blt k 25) (cond (Nat.blt k 12) (cond (Nat.blt k 6) (cond (Nat.blt k 3) (cond (Nat.blt k 1) (rb q 8) (cond (Nat.blt k 2) (rb q 9) (rb q 7))) (cond (Nat.blt k 4) (rb q 2) (cond (Nat.blt k 5) (rb q 5) (rb q 0)))) (cond (Nat.blt k 9) (cond (Nat.blt k 7) (rb q 10) (cond (Nat.blt k 8) (rb q 1) (rb q 6))) (cond (Nat.blt k 10) (rb q 3) (cond (Nat.blt k 11) (rb q 4) (R))))) (cond (Nat.blt k 18) (cond (Nat.blt k 15) (cond (Nat.blt k 13) (M) (cond (Nat.blt k 14) (rq q 8 0 0) (rq q 8 1 0))) (cond (Nat.blt k 16) (rq q 8 2 0) (cond (Nat.blt k 17) (rq q 8 3 0) (rq q 8 4 0)))) (cond (Nat.blt k 21) (cond (Nat.blt k 19) (rq q 8 5 0) (cond (Nat.blt k 20) (rq q 8 6 0) (rq q 8 7 0))) (cond (Nat.blt k 23) (cond (Nat.blt k 22) (rq q 9 0 0) (rq q 9 1 0)) (cond (Nat.blt k 24) (rq q 9 1 1) (rq q 9 1 2)))))) (cond (Nat.blt k 38) (cond (Nat.blt k 31) (cond (Nat.blt k 28) (cond (Nat.blt k 26) (rq q 9 1 3) (cond (Nat.blt k 27) (rq q 9 1 4) (rq q 9 1 5))) (cond (Nat.blt k 29) (rq q 9 1 6) (cond (Nat.blt k 30) (rq q 9 1 7) (rq q 9 2 0)))) (cond (Nat.blt k 34) (cond (Nat.blt k 32) (rq q 9 3 0) (cond (Nat.blt k 33) (rq q 9 4 0) (rq q 9 5 0))) (cond (Nat.blt k 36) (cond (Nat.blt k 35) (rq q 9 5 1) (rq q 9 5 2)) (cond (Nat.blt k 37) (rq q 9 5 3) (rq q 9 5 4))))) (cond (Nat.blt k 44) (cond (Nat.blt k 41) (cond (Nat.blt k 39) (rq q 9 5 5) (cond (Nat.blt k 40) (rq q 9 5 6) (rq q 9 5 7))) (cond (Nat.blt k 42) (rq q 9 6 0) (cond (Nat.blt k 43) (rq q 9 7 0) (rq q 9 7 1)))) (cond (Nat.blt k 47) (cond (Nat.blt k 45) (rq q 9 7 2) (cond (Nat.blt k 46) (rq q 9 7 3) (rq q 9 7 4))) (cond (Nat.blt k 49) (cond (Nat.blt k 48) (rq q 9 7 5) (rq q 9 7 6)) (cond (Nat.blt k 50) (rq q 9 7 7) (rq q 7 0 0))))))) (cond (Nat.blt k 77) (cond (Nat.blt k 64) (cond (Nat.blt k 57) (cond (Nat.blt k 54) (cond (Nat.blt k 52) (rq q 7 1 0) (cond (Nat.blt k 53) (rq q 7 2 0) (rq q 7 3 0))) (cond (Nat.blt k 55) (rq q 2 0 0) (cond (Nat.blt k 56) (rq q 2 1 0) (rq q 2 2 0)))) (cond (Nat.blt k 60) (cond (Nat.blt k 58) (rq q 2 3 0) (cond (Nat.blt k 59) (rq q 2 4 0) (rq q 2 5 0))) (cond (Nat.blt k 62) (cond (Nat.blt k 61) (rq q 2 6 0) (rq q 2 7 0)) (cond (Nat.blt k 63) (rq q 2 8 0) (rq q 2 9 0))))) (cond (Nat.blt k 70) (cond (Nat.blt k 67) (cond (Nat.blt k 65) (rq q 2 10 0) (cond (Nat.blt k 66) (rq q 2 11 0) (rq q 5 0 0))) (cond (Nat.blt k 68) (rq q 5 1 0) (cond (Nat.blt k 69) (rq q 5 2 0) (rq q 5 2 1)))) (cond (Nat.blt k 73) (cond (Nat.blt k 71) (rq q 5 2 2) (cond (Nat.blt k 72) (rq q 5 2 3) (rq q 5 2 4))) (cond (Nat.blt k 75) (cond (Nat.blt k 74) (rq q 5 2 5) (rq q 5 2 6)) (cond (Nat.blt k 76) (rq q 5 2 7) (rq q 5 2 8)))))) (cond (Nat.blt k 90) (cond (Nat.blt k 83) (cond (Nat.blt k 80) (cond (Nat.blt k 78) (rq q 5 2 9) (cond (Nat.blt k 79) (rq q 5 3 0) (rq q 0 0 0))) (cond (Nat.blt k 81) (rq q 0 1 0) (cond (Nat.blt k 82) (rq q 0 2 0) (rq q 0 3 0)))) (cond (Nat.blt k 86) (cond (Nat.blt k 84) (rq q 0 4 0) (cond (Nat.blt k 85) (rq q 0 5 0) (rq q 0 6 0))) (cond (Nat.blt k 88) (cond (Nat.blt k 87) (rq q 10 0 0) (rq q 10 1 0)) (cond (Nat.blt k 89) (rq q 10 2 0) (rq q 10 3 0))))) (cond (Nat.blt k 96) (cond (Nat.blt k 93) (cond (Nat.blt k 91) (rq q 10 4 0) (cond (Nat.blt k 92) (rq q 10 4 1) (rq q 10 4 2))) (cond (Nat.blt k 94) (rq q 10 4 3) (cond (Nat.blt k 95) (rq q 10 4 4) (rq q 10 4 5)))) (cond (Nat.blt k 99) (cond (Nat.blt k 97) (rq q 10 5 0) (cond (Nat.blt k 98) (rq q 10 6 0) (rq q 10 6 1))) (cond (Nat.blt k 101) (cond (Nat.blt k 100) (rq q 10 6 2) (rq q 10 6 3)) (cond (Nat.blt k 102) (rq q 10 6 4) (rq q 10 7 0)))))))) (cond (Nat.blt k 154) (cond (Nat.blt k 128) (cond (Nat.blt k 115) (cond (Nat.blt k 109) (cond (Nat.blt k 106) (cond (Nat.blt k 104) (rq q 10 8 0) (cond (Nat.blt k 105) (rq q 1 0 0) (rq q 1 1 0))) (cond (Nat.blt k 107) (rq q 1 2 0) (cond (Nat.blt k 108) (rq q 1 3 0) (rq q 1 4 0)))) (cond (Nat.blt k 112) (cond (Nat.blt k 110) (rq q 1 5 0) (cond (Nat.blt k 111) (rq q 1 6 0) (rq q 1 7 0))) (cond (Nat.blt k 113) (rq q 1 8 0) (cond (Nat.blt k 114) (rq q 1 9 0) (rq q 6 0 0))))) (cond (Nat.blt k 121) (cond (Nat.blt k 118) (cond (Nat.blt k 116) (rq q 6 1 0) (cond (Nat.blt k 117) (rq q 6 2 0) (rq q 3 0 0))) (cond (Nat.blt k 119) (rq q 3 1 0) (cond (Nat.blt k 120) (rq q 4 0 0) (rq q 4 1 0)))) (cond (Nat.blt k 124) (cond (Nat.blt k 122) (rq q 4 1 1) (cond (Nat.blt k 123) (rq q 4 1 2) (rq q 4 1 3))) (cond (Nat.blt k 126) (cond (Nat.blt k 125) (rq q 4 1 4) (rq q 4 1 5)) (cond (Nat.blt k 127) (rq q 4 1 6) (rq q 4 1 7)))))) (cond (Nat.blt k 141) (cond (Nat.blt k 134) (cond (Nat.blt k 131) (cond (Nat.blt k 129) (rq q 4 1 8) (cond (Nat.blt k 130) (rq q 4 1 9) (rq q 4 1 10))) (cond (Nat.blt k 132) (rq q 4 1 11) (cond (Nat.blt k 133) (rq q 4 1 12) (rq q 4 1 13)))) (cond (Nat.blt k 137) (cond (Nat.blt k 135) (rq q 4 1 14) (cond (Nat.blt k 136) (rq q 4 1 15) (rq q 4 1 16))) (cond (Nat.blt k 139) (cond (Nat.blt k 138) (rq q 4 1 17) (rq q 4 1 18)) (cond (Nat.blt k 140) (rq q 4 1 19) (rq q 4 2 0))))) (cond (Nat.blt k 147) (cond (Nat.blt k 144) (cond (Nat.blt k 142) (rb q 11) (cond (Nat.blt k 143) (rb q 12) (rb q 13))) (cond (Nat.blt k 145) (q' 0 0) (cond (Nat.blt k 146) (q' 0 1) (q' 0 2)))) (cond (Nat.blt k 150) (cond (Nat.blt k 148) (q' 0 3) (cond (Nat.blt k 149) (q' 0 4) (q' 0 5))) (cond (Nat.blt k 152) (cond (Nat.blt k 151) (q' 0 6) (q' 0 7)) (cond (Nat.blt k 153) (q' 0 8) (q' 1 0))))))) (cond (Nat.blt k 180) (cond (Nat.blt k 167) (cond (Nat.blt k 160) (cond (Nat.blt k 157) (cond (Nat.blt k 155) (q' 2 0) (cond (Nat.blt k 156) (q' 2 1) (q' 2 2))) (cond (Nat.blt k 158) (q' 2 3) (cond (Nat.blt k 159) (q' 2 4) (q' 2 5)))) (cond (Nat.blt k 163) (cond (Nat.blt k 161) (q' 2 6) (cond (Nat.blt k 162) (q' 2 7) (q' 2 8))) (cond (Nat.blt k 165) (cond (Nat.blt k 164) (q' 2 9) (q' 2 10)) (cond (Nat.blt k 166) (q' 3 0) (q' 4 0))))) (cond (Nat.blt k 173) (cond (Nat.blt k 170) (cond (Nat.blt k 168) (q' 4 1) (cond (Nat.blt k 169) (q' 4 2) (q' 4 3))) (cond (Nat.blt k 171) (q' 4 4) (cond (Nat.blt k 172) (q' 4 5) (q' 4 6)))) (cond (Nat.blt k 176) (cond (Nat.blt k 174) (q' 4 7) (cond (Nat.blt k 175) (q' 4 8) (q' 4 9))) (cond (Nat.blt k 178) (cond (Nat.blt k 177) (q' 4 10) (q' 4 11)) (cond (Nat.blt k 179) (q' 4 12) (q' 4 13)))))) (cond (Nat.blt k 193) (cond (Nat.blt k 186) (cond (Nat.blt k 183) (cond (Nat.blt k 181) (q' 4 14) (cond (Nat.blt k 182) (q' 4 15) (q' 4 16))) (cond (Nat.blt k 184) (q' 4 17) (cond (Nat.blt k 185) (q' 4 18) (q' 4 19)))) (cond (Nat.blt k 189) (cond (Nat.blt k 187) (q' 4 20) (cond (Nat.blt k 188) (q' 4 21) (q' 4 22))) (cond (Nat.blt k 191) (cond (Nat.blt k 190) (q' 4 23) (q' 4 24)) (cond (Nat.blt k 192) (q' 4 25) (q' 4 26))))) (cond (Nat.blt k 199) (cond (Nat.blt k 196) (cond (Nat.blt k 194) (q' 4 27) (cond (Nat.blt k 195) (q' 4 28) (q' 4 29))) (cond (Nat.blt k 197) (q' 4 30) (cond (Nat.blt k 198) (q' 4 31) (q' 4 32)))) (cond (Nat.blt k 202) (cond (Nat.blt k 200) (q' 4 33) (cond (Nat.blt k 201) (q' 4 34) (q' 4 35))) (cond (Nat.blt k 204) (cond (Nat.blt k 203) (q' 4 36) (q' 4 37)) (cond (Nat.blt k 205) (q' 4 38) (q' 4 39))))))))) (cond (Nat.beq k 1000) s0 (cond (Nat.beq k 1001) s1 (cond (Nat.beq k 1002) v0 (cond (Nat.beq k 1003) v1 b))))
def PI (k : Nat) : Nat := (cond (Nat.blt k 103) (cond (Nat.blt k 51) (cond (Nat.blt k 25) (cond (Nat.blt k 12) (cond (Nat.blt k 6) (cond (Nat.blt k 3) (cond (Nat.blt k 1) (85) (cond (Nat.blt k 2) (94) (80))) (cond (Nat.blt k 4) (23) (cond (Nat.blt k 5) (62) (4)))) (cond (Nat.blt k 9) (cond (Nat.blt k 7) (124) (cond (Nat.blt k 8) (12) (76))) (cond (Nat.blt k 10) (36) (cond (Nat.blt k 11) (39) (0))))) (cond (Nat.blt k 18) (cond (Nat.blt k 15) (cond (Nat.blt k 13) (143) (cond (Nat.blt k 14) (93) (92))) (cond (Nat.blt k 16) (91) (cond (Nat.blt k 17) (90) (89)))) (cond (Nat.blt k 21) (cond (Nat.blt k 19) (88) (cond (Nat.blt k 20) (87) (86))) (cond (Nat.blt k 23) (cond (Nat.blt k 22) (115) (116)) (cond (Nat.blt k 24) (117) (118)))))) (cond (Nat.blt k 38) (cond (Nat.blt k 31) (cond (Nat.blt k 28) (cond (Nat.blt k 26) (119) (cond (Nat.blt k 27) (120) (121))) (cond (Nat.blt k 29) (122) (cond (Nat.blt k 30) (123) (114)))) (cond (Nat.blt k 34) (cond (Nat.blt k 32) (113) (cond (Nat.blt k 33) (104) (105))) (cond (Nat.blt k 36) (cond (Nat.blt k 35) (106) (107)) (cond (Nat.blt k 37) (108) (109))))) (cond (Nat.blt k 44) (cond (Nat.blt k 41) (cond (Nat.blt k 39) (110) (cond (Nat.blt k 40) (111) (112))) (cond (Nat.blt k 42) (95) (cond (Nat.blt k 43) (96) (97)))) (cond (Nat.blt k 47) (cond (Nat.blt k 45) (98) (cond (Nat.blt k 46) (99) (100))) (cond (Nat.blt k 49) (cond (Nat.blt k 48) (101) (102)) (cond (Nat.blt k 50) (103) (84))))))) (cond (Nat.blt k 77) (cond (Nat.blt k 64) (cond (Nat.blt k 57) (cond (Nat.blt k 54) (cond (Nat.blt k 52) (83) (cond (Nat.blt k 53) (82) (81))) (cond (Nat.blt k 55) (35) (cond (Nat.blt k 56) (34) (33)))) (cond (Nat.blt k 60) (cond (Nat.blt k 58) (32) (cond (Nat.blt k 59) (31) (30))) (cond (Nat.blt k 62) (cond (Nat.blt k 61) (29) (28)) (cond (Nat.blt k 63) (27) (26))))) (cond (Nat.blt k 70) (cond (Nat.blt k 67) (cond (Nat.blt k 65) (25) (cond (Nat.blt k 66) (24) (75))) (cond (Nat.blt k 68) (64) (cond (Nat.blt k 69) (65) (66)))) (cond (Nat.blt k 73) (cond (Nat.blt k 71) (67) (cond (Nat.blt k 72) (68) (69))) (cond (Nat.blt k 75) (cond (Nat.blt k 74) (70) (71)) (cond (Nat.blt k 76) (72) (73)))))) (cond (Nat.blt k 90) (cond (Nat.blt k 83) (cond (Nat.blt k 80) (cond (Nat.blt k 78) (74) (cond (Nat.blt k 79) (63) (11))) (cond (Nat.blt k 81) (10) (cond (Nat.blt k 82) (9) (8)))) (cond (Nat.blt k 86) (cond (Nat.blt k 84) (7) (cond (Nat.blt k 85) (6) (5))) (cond (Nat.blt k 88) (cond (Nat.blt k 87) (142) (141)) (cond (Nat.blt k 89) (140) (133))))) (cond (Nat.blt k 96) (cond (Nat.blt k 93) (cond (Nat.blt k 91) (134) (cond (Nat.blt k 92) (135) (136))) (cond (Nat.blt k 94) (137) (cond (Nat.blt k 95) (138) (139)))) (cond (Nat.blt k 99) (cond (Nat.blt k 97) (127) (cond (Nat.blt k 98) (128) (129))) (cond (Nat.blt k 101) (cond (Nat.blt k 100) (130) (131)) (cond (Nat.blt k 102) (132) (126)))))))) (cond (Nat.blt k 154) (cond (Nat.blt k 128) (cond (Nat.blt k 115) (cond (Nat.blt k 109) (cond (Nat.blt k 106) (cond (Nat.blt k 104) (125) (cond (Nat.blt k 105) (22) (21))) (cond (Nat.blt k 107) (20) (cond (Nat.blt k 108) (19) (18)))) (cond (Nat.blt k 112) (cond (Nat.blt k 110) (17) (cond (Nat.blt k 111) (16) (15))) (cond (Nat.blt k 113) (14) (cond (Nat.blt k 114) (13) (79))))) (cond (Nat.blt k 121) (cond (Nat.blt k 118) (cond (Nat.blt k 116) (78) (cond (Nat.blt k 117) (77) (38))) (cond (Nat.blt k 119) (37) (cond (Nat.blt k 120) (41) (42)))) (cond (Nat.blt k 124) (cond (Nat.blt k 122) (43) (cond (Nat.blt k 123) (44) (45))) (cond (Nat.blt k 126) (cond (Nat.blt k 125) (46) (47)) (cond (Nat.blt k 127) (48) (49)))))) (cond (Nat.blt k 141) (cond (Nat.blt k 134) (cond (Nat.blt k 131) (cond (Nat.blt k 129) (50) (cond (Nat.blt k 130) (51) (52))) (cond (Nat.blt k 132) (53) (cond (Nat.blt k 133) (54) (55)))) (cond (Nat.blt k 137) (cond (Nat.blt k 135) (56) (cond (Nat.blt k 136) (57) (58))) (cond (Nat.blt k 139) (cond (Nat.blt k 138) (59) (60)) (cond (Nat.blt k 140) (61) (40))))) (cond (Nat.blt k 147) (cond (Nat.blt k 144) (cond (Nat.blt k 142) (3) (cond (Nat.blt k 143) (2) (1))) (cond (Nat.blt k 145) (205) (cond (Nat.blt k 146) (204) (203)))) (cond (Nat.blt k 150) (cond (Nat.blt k 148) (202) (cond (Nat.blt k 149) (201) (200))) (cond (Nat.blt k 152) (cond (Nat.blt k 151) (199) (198)) (cond (Nat.blt k 153) (197) (196))))))) (cond (Nat.blt k 180) (cond (Nat.blt k 167) (cond (Nat.blt k 160) (cond (Nat.blt k 157) (cond (Nat.blt k 155) (195) (cond (Nat.blt k 156) (194) (193))) (cond (Nat.blt k 158) (192) (cond (Nat.blt k 159) (191) (190)))) (cond (Nat.blt k 163) (cond (Nat.blt k 161) (189) (cond (Nat.blt k 162) (188) (187))) (cond (Nat.blt k 165) (cond (Nat.blt k 164) (186) (185)) (cond (Nat.blt k 166) (184) (183))))) (cond (Nat.blt k 173) (cond (Nat.blt k 170) (cond (Nat.blt k 168) (182) (cond (Nat.blt k 169) (181) (180))) (cond (Nat.blt k 171) (179) (cond (Nat.blt k 172) (178) (177)))) (cond (Nat.blt k 176) (cond (Nat.blt k 174) (176) (cond (Nat.blt k 175) (175) (174))) (cond (Nat.blt k 178) (cond (Nat.blt k 177) (173) (172)) (cond (Nat.blt k 179) (171) (170)))))) (cond (Nat.blt k 193) (cond (Nat.blt k 186) (cond (Nat.blt k 183) (cond (Nat.blt k 181) (169) (cond (Nat.blt k 182) (168) (167))) (cond (Nat.blt k 184) (166) (cond (Nat.blt k 185) (165) (164)))) (cond (Nat.blt k 189) (cond (Nat.blt k 187) (163) (cond (Nat.blt k 188) (162) (161))) (cond (Nat.blt k 191) (cond (Nat.blt k 190) (160) (159)) (cond (Nat.blt k 192) (158) (157))))) (cond (Nat.blt k 199) (cond (Nat.blt k 196) (cond (Nat.blt k 194) (156) (cond (Nat.blt k 195) (155) (154))) (cond (Nat.blt k 197) (153) (cond (Nat.blt k 198) (152) (151)))) (cond (Nat.blt k 202) (cond (Nat.blt k 200) (150) (cond (Nat.blt k 201) (149) (148))) (cond (Nat.blt k 204) (cond (Nat.blt k 203) (147) (146)) (cond (Nat.blt k 205) (145) (144)))))))))
def QI (k : Nat) : Nat := (cond (Nat.blt k 103) (cond (Nat.blt k 51) (cond (Nat.blt k 25) (cond (Nat.blt k 12) (cond (Nat.blt k 6) (cond (Nat.blt k 3) (cond (Nat.blt k 1) (11) (cond (Nat.blt k 2) (143) (142))) (cond (Nat.blt k 4) (141) (cond (Nat.blt k 5) (5) (85)))) (cond (Nat.blt k 9) (cond (Nat.blt k 7) (84) (cond (Nat.blt k 8) (83) (82))) (cond (Nat.blt k 10) (81) (cond (Nat.blt k 11) (80) (79))))) (cond (Nat.blt k 18) (cond (Nat.blt k 15) (cond (Nat.blt k 13) (7) (cond (Nat.blt k 14) (113) (112))) (cond (Nat.blt k 16) (111) (cond (Nat.blt k 17) (110) (109)))) (cond (Nat.blt k 21) (cond (Nat.blt k 19) (108) (cond (Nat.blt k 20) (107) (106))) (cond (Nat.blt k 23) (cond (Nat.blt k 22) (105) (104)) (cond (Nat.blt k 24) (3) (65)))))) (cond (Nat.blt k 38) (cond (Nat.blt k 31) (cond (Nat.blt k 28) (cond (Nat.blt k 26) (64) (cond (Nat.blt k 27) (63) (62))) (cond (Nat.blt k 29) (61) (cond (Nat.blt k 30) (60) (59)))) (cond (Nat.blt k 34) (cond (Nat.blt k 32) (58) (cond (Nat.blt k 33) (57) (56))) (cond (Nat.blt k 36) (cond (Nat.blt k 35) (55) (54)) (cond (Nat.blt k 37) (9) (118))))) (cond (Nat.blt k 44) (cond (Nat.blt k 41) (cond (Nat.blt k 39) (117) (cond (Nat.blt k 40) (10) (140))) (cond (Nat.blt k 42) (119) (cond (Nat.blt k 43) (120) (121)))) (cond (Nat.blt k 47) (cond (Nat.blt k 45) (122) (cond (Nat.blt k 46) (123) (124))) (cond (Nat.blt k 49) (cond (Nat.blt k 48) (125) (126)) (cond (Nat.blt k 50) (127) (128))))))) (cond (Nat.blt k 77) (cond (Nat.blt k 64) (cond (Nat.blt k 57) (cond (Nat.blt k 54) (cond (Nat.blt k 52) (129) (cond (Nat.blt k 53) (130) (131))) (cond (Nat.blt k 55) (132) (cond (Nat.blt k 56) (133) (134)))) (cond (Nat.blt k 60) (cond (Nat.blt k 58) (135) (cond (Nat.blt k 59) (136) (137))) (cond (Nat.blt k 62) (cond (Nat.blt k 61) (138) (139)) (cond (Nat.blt k 63) (4) (78))))) (cond (Nat.blt k 70) (cond (Nat.blt k 67) (cond (Nat.blt k 65) (67) (cond (Nat.blt k 66) (68) (69))) (cond (Nat.blt k 68) (70) (cond (Nat.blt k 69) (71) (72)))) (cond (Nat.blt k 73) (cond (Nat.blt k 71) (73) (cond (Nat.blt k 72) (74) (75))) (cond (Nat.blt k 75) (cond (Nat.blt k 74) (76) (77)) (cond (Nat.blt k 76) (66) (8)))))) (cond (Nat.blt k 90) (cond (Nat.blt k 83) (cond (Nat.blt k 80) (cond (Nat.blt k 78) (116) (cond (Nat.blt k 79) (115) (114))) (cond (Nat.blt k 81) (2) (cond (Nat.blt k 82) (53) (52)))) (cond (Nat.blt k 86) (cond (Nat.blt k 84) (51) (cond (Nat.blt k 85) (50) (0))) (cond (Nat.blt k 88) (cond (Nat.blt k 87) (20) (19)) (cond (Nat.blt k 89) (18) (17))))) (cond (Nat.blt k 96) (cond (Nat.blt k 93) (cond (Nat.blt k 91) (16) (cond (Nat.blt k 92) (15) (14))) (cond (Nat.blt k 94) (13) (cond (Nat.blt k 95) (1) (41)))) (cond (Nat.blt k 99) (cond (Nat.blt k 97) (42) (cond (Nat.blt k 98) (43) (44))) (cond (Nat.blt k 101) (cond (Nat.blt k 100) (45) (46)) (cond (Nat.blt k 102) (47) (48)))))))) (cond (Nat.blt k 154) (cond (Nat.blt k 128) (cond (Nat.blt k 115) (cond (Nat.blt k 109) (cond (Nat.blt k 106) (cond (Nat.blt k 104) (49) (cond (Nat.blt k 105) (32) (33))) (cond (Nat.blt k 107) (34) (cond (Nat.blt k 108) (35) (36)))) (cond (Nat.blt k 112) (cond (Nat.blt k 110) (37) (cond (Nat.blt k 111) (38) (39))) (cond (Nat.blt k 113) (40) (cond (Nat.blt k 114) (31) (30))))) (cond (Nat.blt k 121) (cond (Nat.blt k 118) (cond (Nat.blt k 116) (21) (cond (Nat.blt k 117) (22) (23))) (cond (Nat.blt k 119) (24) (cond (Nat.blt k 120) (25) (26)))) (cond (Nat.blt k 124) (cond (Nat.blt k 122) (27) (cond (Nat.blt k 123) (28) (29))) (cond (Nat.blt k 126) (cond (Nat.blt k 125) (6) (103)) (cond (Nat.blt k 127) (102) (96)))))) (cond (Nat.blt k 141) (cond (Nat.blt k 134) (cond (Nat.blt k 131) (cond (Nat.blt k 129) (97) (cond (Nat.blt k 130) (98) (99))) (cond (Nat.blt k 132) (100) (cond (Nat.blt k 133) (101) (89)))) (cond (Nat.blt k 137) (cond (Nat.blt k 135) (90) (cond (Nat.blt k 136) (91) (92))) (cond (Nat.blt k 139) (cond (Nat.blt k 138) (93) (94)) (cond (Nat.blt k 140) (95) (88))))) (cond (Nat.blt k 147) (cond (Nat.blt k 144) (cond (Nat.blt k 142) (87) (cond (Nat.blt k 143) (86) (12))) (cond (Nat.blt k 145) (205) (cond (Nat.blt k 146) (204) (203)))) (cond (Nat.blt k 150) (cond (Nat.blt k 148) (202) (cond (Nat.blt k 149) (201) (200))) (cond (Nat.blt k 152) (cond (Nat.blt k 151) (199) (198)) (cond (Nat.blt k 153) (197) (196))))))) (cond (Nat.blt k 180) (cond (Nat.blt k 167) (cond (Nat.blt k 160) (cond (Nat.blt k 157) (cond (Nat.blt k 155) (195) (cond (Nat.blt k 156) (194) (193))) (cond (Nat.blt k 158) (192) (cond (Nat.blt k 159) (191) (190)))) (cond (Nat.blt k 163) (cond (Nat.blt k 161) (189) (cond (Nat.blt k 162) (188) (187))) (cond (Nat.blt k 165) (cond (Nat.blt k 164) (186) (185)) (cond (Nat.blt k 166) (184) (183))))) (cond (Nat.blt k 173) (cond (Nat.blt k 170) (cond (Nat.blt k 168) (182) (cond (Nat.blt k 169) (181) (180))) (cond (Nat.blt k 171) (179) (cond (Nat.blt k 172) (178) (177)))) (cond (Nat.blt k 176) (cond (Nat.blt k 174) (176) (cond (Nat.blt k 175) (175) (174))) (cond (Nat.blt k 178) (cond (Nat.blt k 177) (173) (172)) (cond (Nat.blt k 179) (171) (170)))))) (cond (Nat.blt k 193) (cond (Nat.blt k 186) (cond (Nat.blt k 183) (cond (Nat.blt k 181) (169) (cond (Nat.blt k 182) (168) (167))) (cond (Nat.blt k 184) (166) (cond (Nat.blt k 185) (165) (164)))) (cond (Nat.blt k 189) (cond (Nat.blt k 187) (163) (cond (Nat.blt k 188) (162) (161))) (cond (Nat.blt k 191) (cond (Nat.blt k 190) (160) (159)) (cond (Nat.blt k 192) (158) (157))))) (cond (Nat.blt k 199) (cond (Nat.blt k 196) (cond (Nat.blt k 194) (156) (cond (Nat.blt k 195) (155) (154))) (cond (Nat.blt k 197) (153) (cond (Nat.blt k 198) (152) (151)))) (cond (Nat.blt k 202) (cond (Nat.blt k 200) (150) (cond (Nat.blt k 201) (149) (148))) (cond (Nat.blt k 204) (cond (Nat.blt k 203) (147) (146)) (cond (Nat.blt k 205) (145) (144)))))))))
theorem PI_inv : ∀ k, k < 206 → QI (PI k) = k := by decide +kernel
def Wst (kx : Nat → ClassId) (s5 R M : Nat) (q q' : Nat → Nat → Nat) : va_W := ([] ++ shp0 kx s5 R q) ++ shp156 kx s5 M q'
theorem arr0 {ad : Nat → Nat} {kx : Nat → ClassId} {k t N : Nat} (h : shq k = .inl (t, (N : Int))) (hw : w0 k = fun _ => 0) : cE ad kx w0 k = .inl (kx t, N, .inl fun _ => 0) := by
  rw [cE_arr h]
  have e : (fun i => Int32.ofInt (w0 k i)) = fun _ => 0 := by
    funext i
    rw [hw]
    exact oi_0
  rw [e]
  rfl
theorem arrL {ad : Nat → Nat} {kx : Nat → ClassId} {k t N : Nat} {f : Nat → Int32} {g : Nat → Int} (h : shq k = .inl (t, (N : Int))) (hw : w0 k = g) (hf : (fun i => Int32.ofInt (g i)) = f) : cE ad kx w0 k = .inl (kx t, N, .inl f) := by
  rw [cE_arr h, hw, hf]
  rfl
theorem out0 {ad : Nat → Nat} {kx : Nat → ClassId} {k b N : Nat} {f : Nat → Nat} (h : shq k = .inr (.inl (b, (N : Int)))) (hf : ∀ i, i < N → ad (b + i) = f i) : cE ad kx w0 k = .inl (kx 2, N, .inr (.inr (.inr (.inr fun j => if j < N then some (f j) else none)))) := by
  rw [cE_out h]
  have e : (fun i => if i < (N : Int).toNat then some (ad (b + i)) else none) = fun j => if j < N then some (f j) else none := by
    funext i
    show (if i < N then some (ad (b + i)) else none) = _
    by_cases hi : i < N
    · rw [if_pos hi, if_pos hi, hf i hi]
    · rw [if_neg hi, if_neg hi]
  rw [e]
  rfl
/-- the fields of an object whose numbers are all 0 -/
def fz (ad : Nat → Nat) : List Nat → List Value
  | [] => []
  | 0 :: t => .int 0 :: fz ad t
  | 1 :: t => .ref (ad 1000) :: fz ad t
  | 2 :: t => .int 0 :: fz ad t
  | (q + 3) :: t => .ref (ad q) :: fz ad t
theorem fv_z {ad : Nat → Nat} {w : Wd} {k : Nat} (hw : ∀ j, w k j = 0) : ∀ (fs : List Nat) (j : Nat), fv ad w k j fs = fz ad fs
  | [], _ => rfl
  | 0 :: t, j => by
    show Value.int (Int32.ofInt (w k j)) :: fv ad w k (j + 1) t = .int 0 :: fz ad t
    rw [hw, fv_z hw t, oi_0]
  | 1 :: t, j => by
    show Value.ref (ad (1000 + (w k j).toNat)) :: fv ad w k (j + 1) t = .ref (ad 1000) :: fz ad t
    rw [hw, fv_z hw t]
    rfl
  | 2 :: t, j => by
    show Value.int (Int32.ofInt (w k j)) :: fv ad w k (j + 1) t = .int 0 :: fz ad t
    rw [hw, fv_z hw t, oi_0]
  | (q + 3) :: t, j => by
    show Value.ref (ad q) :: fv ad w k (j + 1) t = .ref (ad q) :: fz ad t
    rw [fv_z hw t]
theorem obj0 {ad : Nat → Nat} {kx : Nat → ClassId} {k c : Nat} {fs : List Nat} (h : shq k = .inr (.inr (c, fs))) (hw : ∀ j, w0 k j = 0) : cE ad kx w0 k = .inr (c, fz ad fs) := by
  rw [cE_obj h, fv_z hw]
theorem upd_sd : (fun i => Int32.ofInt (sd0 i)) = upd (upd (upd (upd (upd (upd (fun _ => 0) (0 : Int32).toNatClampNeg 0) (1 : Int32).toNatClampNeg 1) (2 : Int32).toNatClampNeg 2) (3 : Int32).toNatClampNeg 3) (4 : Int32).toNatClampNeg 0) (5 : Int32).toNatClampNeg 1 := by
  funext i
  rw [show (0 : Int32).toNatClampNeg = 0 by decide, show (1 : Int32).toNatClampNeg = 1 by decide, show (2 : Int32).toNatClampNeg = 2 by decide, show (3 : Int32).toNatClampNeg = 3 by decide, show (4 : Int32).toNatClampNeg = 4 by decide, show (5 : Int32).toNatClampNeg = 5 by decide]
  unfold upd sd0
  by_cases h5 : i = 5
  · subst h5; decide
  by_cases h4 : i = 4
  · subst h4; decide
  by_cases h3 : i = 3
  · subst h3; decide
  by_cases h2 : i = 2
  · subst h2; decide
  by_cases h1 : i = 1
  · subst h1; decide
  by_cases h0 : i = 0
  · subst h0; decide
  rw [if_neg (by omega), if_neg h2, if_neg h3, if_neg h5, if_neg h4, if_neg h3, if_neg h2, if_neg h1, if_neg h0]
  exact oi_0
theorem upd_wt : (fun i => Int32.ofInt (wt0 i)) = upd (upd (fun _ => 0) (0 : Int32).toNatClampNeg 1) (1 : Int32).toNatClampNeg 1 := by
  funext i
  rw [show (0 : Int32).toNatClampNeg = 0 by decide, show (1 : Int32).toNatClampNeg = 1 by decide]
  unfold upd wt0
  by_cases h1 : i = 1
  · subst h1; decide
  by_cases h0 : i = 0
  · subst h0; decide
  rw [if_neg (by omega), if_neg h1, if_neg h0]
  exact oi_0
def vlM (q : Nat → Nat → Nat) (n : Nat) : Value := if n = 0 then .int 0 else if n = 1 then .null else .ref (q ((n - 2) / 100) ((n - 2) % 100))
def setN (fam : Nat) : List It → Nat → List Nat → List Nat
  | [], _, c => c
  | it :: r, t, c => setN fam r (t + 1) (c.set it.2.2.2.2 (2 + 100 * fam + t))
theorem vlM_at {q : Nat → Nat → Nat} {fam t : Nat} (h : t < 100) : vlM q (2 + 100 * fam + t) = .ref (q fam t) := by
  unfold vlM
  rw [if_neg (by omega), if_neg (by omega), show (2 + 100 * fam + t - 2) / 100 = fam by omega, show (2 + 100 * fam + t - 2) % 100 = t by omega]
theorem setF_map {q : Nat → Nat → Nat} {fam : Nat} : ∀ (its : List It) (t : Nat) (c : List Nat), t + its.length ≤ 100 → setF its t (q fam) (c.map (vlM q)) = (setN fam its t c).map (vlM q)
  | [], _, _, _ => rfl
  | it :: r, t, c, h => by
    have h2 : t + (r.length + 1) ≤ 100 := h
    show setF r (t + 1) (q fam) ((c.map (vlM q)).set it.2.2.2.2 (.ref (q fam t))) = (setN fam r (t + 1) (c.set it.2.2.2.2 (2 + 100 * fam + t))).map (vlM q)
    rw [← vlM_at (q := q) (fam := fam) (show t < 100 by omega), ← List.map_set]
    exact setF_map r (t + 1) _ (by omega)
def c0M : List Nat := [0, 0, 1, 1, 1, 0, 1, 1, 1, 1, 1, 1, 1, 0, 1, 1, 1, 1, 1, 0, 1, 1, 1, 1, 1, 1, 1, 1, 1, 1, 0, 0, 0, 1, 1, 0, 0, 0, 0, 0, 0, 0, 1, 0, 1, 0, 0, 1, 1, 1, 0, 1, 1, 1, 1, 0, 0, 0, 1, 1, 1, 0, 1, 1, 1, 1, 1, 1, 1, 1, 1, 1, 1, 1, 1, 1, 1, 1, 1, 1, 1, 1, 1, 1, 0, 0, 1, 0]
def clM12 : List Nat := [0, 0, 2, 3, 4, 0, 5, 6, 7, 8, 9, 10, 102, 0, 202, 203, 204, 205, 206, 0, 207, 208, 209, 210, 211, 212, 302, 402, 403, 404, 0, 0, 0, 405, 406, 0, 0, 0, 0, 0, 0, 0, 407, 0, 408, 0, 0, 409, 410, 411, 0, 412, 413, 414, 415, 0, 0, 0, 416, 417, 418, 0, 419, 420, 421, 422, 423, 424, 425, 426, 427, 428, 429, 430, 431, 432, 433, 434, 435, 436, 437, 438, 439, 440, 0, 0, 441, 0]
theorem cod12 : setN 4 IM2 0 ((setN 2 IM1 0 ((setN 0 IM0 0 c0M).set 12 102)).set 26 302) = clM12 := by decide +kernel
theorem fm12 {q : Nat → Nat → Nat} : setF IM2 0 (q 4) ((setF IM1 0 (q 2) ((setF IM0 0 (q 0) FM0).set 12 (.ref (q 1 0)))).set 26 (.ref (q 3 0))) = clM12.map (vlM q) := by
  have e0 : FM0 = c0M.map (vlM q) := rfl
  have e1 : (Value.ref (q 1 0)) = vlM q 102 := rfl
  have e3 : (Value.ref (q 3 0)) = vlM q 302 := rfl
  rw [e0, setF_map IM0 0 c0M (by decide), e1, ← List.map_set, setF_map IM1 0 _ (by decide), e3, ← List.map_set, setF_map IM2 0 _ (by decide), cod12]
def Wr (kx : Nat → ClassId) (s5 R M : Nat) (q q' : Nat → Nat → Nat) : va_W := (R, .inr (11, [.ref (rb q 0), .ref (rb q 1), .ref (rb q 2), .ref (rb q 3), .ref (rb q 4), .ref (rb q 5), .ref (rb q 6), .ref (rb q 7), .ref (rb q 8), .ref (rb q 9), .ref (rb q 10), .ref (rb q 11), .ref (rb q 12), .ref (rb q 13), .int 0, .int 0])) :: (rb q 13, .inl (kx 0, 20, .inl fun _ => 0)) :: (rb q 12, .inl (kx 0, 4, .inl fun _ => 0)) :: (rb q 11, .inl (kx 0, 6, .inl fun _ => 0)) :: (shp2 kx s5 (rb q 0) (rq q 0) ++ (shp3 kx s5 (rb q 1) (rq q 1) ++ (shp4 kx s5 (rb q 2) (rq q 2) ++ (shp5 kx s5 (rb q 3) (rq q 3) ++ (shp6 kx s5 (rb q 4) (rq q 4) ++ (shp7 kx s5 (rb q 5) (rq q 5) ++ (shp8 kx s5 (rb q 6) (rq q 6) ++ (shp9 kx s5 (rb q 7) (rq q 7) ++ (shp10 kx s5 (rb q 8) (rq q 8) ++ (shp11 kx s5 (rb q 9) (rq q 9) ++ (shp12 kx s5 (rb q 10) (rq q 10) ++ (shp156 kx s5 M q'))))))))))))
theorem Wst_r {kx : Nat → ClassId} {s5 R M : Nat} {q q' : Nat → Nat → Nat} : Wst kx s5 R M q q' = Wr kx s5 R M q q' := by
  unfold Wst Wr shp0
  simp only [List.nil_append, List.cons_append, List.append_assoc]
section
variable {kx : Nat → ClassId} {R M s0 s1 v0 v1 b : Nat} {q q' : Nat → Nat → Nat}
def Cok (kx : Nat → ClassId) (R M : Nat) (q q' : Nat → Nat → Nat) (s0 s1 v0 v1 b k : Nat) : Prop := (Wr kx s0 R M q q')[PI k]? = some (adF R M q q' s0 s1 v0 v1 b k, cE (adF R M q q' s0 s1 v0 v1 b) kx w0 k)
set_option maxRecDepth 20000 in
theorem ck0 : Cok kx R M q q' s0 s1 v0 v1 b 0 := by
  unfold Cok
  rw [obj0 (k := 0) rfl (fun _ => rfl)]
  rfl
set_option maxRecDepth 20000 in
theorem ck1 : Cok kx R M q q' s0 s1 v0 v1 b 1 := by
  unfold Cok
  rw [obj0 (k := 1) rfl (fun _ => rfl)]
  rfl
set_option maxRecDepth 20000 in
theorem ck2 : Cok kx R M q q' s0 s1 v0 v1 b 2 := by
  unfold Cok
  rw [obj0 (k := 2) rfl (fun _ => rfl)]
  rfl
set_option maxRecDepth 20000 in
theorem ck3 : Cok kx R M q q' s0 s1 v0 v1 b 3 := by
  unfold Cok
  rw [obj0 (k := 3) rfl (fun _ => rfl)]
  rfl
set_option maxRecDepth 20000 in
theorem ck4 : Cok kx R M q q' s0 s1 v0 v1 b 4 := by
  unfold Cok
  rw [obj0 (k := 4) rfl (fun _ => rfl)]
  rfl
set_option maxRecDepth 20000 in
theorem ck5 : Cok kx R M q q' s0 s1 v0 v1 b 5 := by
  unfold Cok
  rw [obj0 (k := 5) rfl (fun _ => rfl)]
  rfl
set_option maxRecDepth 20000 in
theorem ck6 : Cok kx R M q q' s0 s1 v0 v1 b 6 := by
  unfold Cok
  rw [obj0 (k := 6) rfl (fun _ => rfl)]
  rfl
set_option maxRecDepth 20000 in
theorem ck7 : Cok kx R M q q' s0 s1 v0 v1 b 7 := by
  unfold Cok
  rw [obj0 (k := 7) rfl (fun _ => rfl)]
  rfl
set_option maxRecDepth 20000 in
theorem ck8 : Cok kx R M q q' s0 s1 v0 v1 b 8 := by
  unfold Cok
  rw [obj0 (k := 8) rfl (fun _ => rfl)]
  rfl
set_option maxRecDepth 20000 in
theorem ck9 : Cok kx R M q q' s0 s1 v0 v1 b 9 := by
  unfold Cok
  rw [obj0 (k := 9) rfl (fun _ => rfl)]
  rfl
set_option maxRecDepth 20000 in
theorem ck10 : Cok kx R M q q' s0 s1 v0 v1 b 10 := by
  unfold Cok
  rw [obj0 (k := 10) rfl (fun _ => rfl)]
  rfl
set_option maxRecDepth 20000 in
theorem ck11 : Cok kx R M q q' s0 s1 v0 v1 b 11 := by
  unfold Cok
  rw [obj0 (k := 11) rfl (fun _ => rfl)]
  rfl
set_option maxRecDepth 20000 in
theorem ck12 : Cok kx R M q q' s0 s1 v0 v1 b 12 := by
  unfold Cok
  rw [obj0 (k := 12) rfl (fun _ => rfl)]
  have h : fz (adF R M q q' s0 s1 v0 v1 b) [0, 0, 147, 148, 149, 0, 150, 151, 152, 153, 154, 155, 156, 0, 157, 158, 159, 160, 161, 0, 162, 163, 164, 165, 166, 167, 168, 169, 170, 171, 0, 0, 0, 172, 173, 2, 2, 0, 0, 0, 2, 0, 174, 0, 175, 0, 0, 176, 177, 178, 0, 179, 180, 181, 182, 0, 0, 0, 183, 184, 185, 0, 186, 187, 188, 189, 190, 191, 192, 193, 194, 195, 196, 197, 198, 199, 200, 201, 202, 203, 204, 205, 206, 207, 0, 2, 208, 0] = clM12.map (vlM q') := rfl
  have h1 : (Wr kx s0 R M q q')[PI 12]? = some (M, .inr (12, setF IM2 0 (q' 4) ((setF IM1 0 (q' 2) ((setF IM0 0 (q' 0) FM0).set 12 (.ref (q' 1 0)))).set 26 (.ref (q' 3 0))))) := rfl
  rw [h1, fm12]
  exact congrArg (fun z => (some (M, (.inr (12, z) : va_E)) : Option (Nat × va_E))) h.symm
set_option maxRecDepth 20000 in
theorem ck13 : Cok kx R M q q' s0 s1 v0 v1 b 13 := by
  unfold Cok
  rw [arr0 (k := 13) (t := 0) (N := 9) rfl rfl]
  rfl
set_option maxRecDepth 20000 in
theorem ck14 : Cok kx R M q q' s0 s1 v0 v1 b 14 := by
  unfold Cok
  rw [arr0 (k := 14) (t := 0) (N := 9) rfl rfl]
  rfl
set_option maxRecDepth 20000 in
theorem ck15 : Cok kx R M q q' s0 s1 v0 v1 b 15 := by
  unfold Cok
  rw [arr0 (k := 15) (t := 0) (N := 9) rfl rfl]
  rfl
set_option maxRecDepth 20000 in
theorem ck16 : Cok kx R M q q' s0 s1 v0 v1 b 16 := by
  unfold Cok
  rw [arr0 (k := 16) (t := 0) (N := 9) rfl rfl]
  rfl
set_option maxRecDepth 20000 in
theorem ck17 : Cok kx R M q q' s0 s1 v0 v1 b 17 := by
  unfold Cok
  rw [arr0 (k := 17) (t := 0) (N := 16) rfl rfl]
  rfl
set_option maxRecDepth 20000 in
theorem ck18 : Cok kx R M q q' s0 s1 v0 v1 b 18 := by
  unfold Cok
  rw [arr0 (k := 18) (t := 0) (N := 16) rfl rfl]
  rfl
set_option maxRecDepth 20000 in
theorem ck19 : Cok kx R M q q' s0 s1 v0 v1 b 19 := by
  unfold Cok
  rw [arr0 (k := 19) (t := 0) (N := 16) rfl rfl]
  rfl
set_option maxRecDepth 20000 in
theorem ck20 : Cok kx R M q q' s0 s1 v0 v1 b 20 := by
  unfold Cok
  rw [arr0 (k := 20) (t := 0) (N := 16) rfl rfl]
  rfl
set_option maxRecDepth 20000 in
theorem ck21 : Cok kx R M q q' s0 s1 v0 v1 b 21 := by
  unfold Cok
  rw [out0 (k := 21) (b := 22) (N := 8) (f := fun i => rq q 9 1 i) rfl (fun i hi => by
    rcases (show i = 0 ∨ i = 1 ∨ i = 2 ∨ i = 3 ∨ i = 4 ∨ i = 5 ∨ i = 6 ∨ i = 7 by omega) with rfl | rfl | rfl | rfl | rfl | rfl | rfl | rfl <;> rfl)]
  rfl
set_option maxRecDepth 20000 in
theorem ck22 : Cok kx R M q q' s0 s1 v0 v1 b 22 := by
  unfold Cok
  rw [arr0 (k := 22) (t := 0) (N := 9) rfl rfl]
  rfl
set_option maxRecDepth 20000 in
theorem ck23 : Cok kx R M q q' s0 s1 v0 v1 b 23 := by
  unfold Cok
  rw [arr0 (k := 23) (t := 0) (N := 9) rfl rfl]
  rfl
set_option maxRecDepth 20000 in
theorem ck24 : Cok kx R M q q' s0 s1 v0 v1 b 24 := by
  unfold Cok
  rw [arr0 (k := 24) (t := 0) (N := 9) rfl rfl]
  rfl
set_option maxRecDepth 20000 in
theorem ck25 : Cok kx R M q q' s0 s1 v0 v1 b 25 := by
  unfold Cok
  rw [arr0 (k := 25) (t := 0) (N := 9) rfl rfl]
  rfl
set_option maxRecDepth 20000 in
theorem ck26 : Cok kx R M q q' s0 s1 v0 v1 b 26 := by
  unfold Cok
  rw [arr0 (k := 26) (t := 0) (N := 9) rfl rfl]
  rfl
set_option maxRecDepth 20000 in
theorem ck27 : Cok kx R M q q' s0 s1 v0 v1 b 27 := by
  unfold Cok
  rw [arr0 (k := 27) (t := 0) (N := 9) rfl rfl]
  rfl
set_option maxRecDepth 20000 in
theorem ck28 : Cok kx R M q q' s0 s1 v0 v1 b 28 := by
  unfold Cok
  rw [arr0 (k := 28) (t := 0) (N := 9) rfl rfl]
  rfl
set_option maxRecDepth 20000 in
theorem ck29 : Cok kx R M q q' s0 s1 v0 v1 b 29 := by
  unfold Cok
  rw [arr0 (k := 29) (t := 0) (N := 9) rfl rfl]
  rfl
set_option maxRecDepth 20000 in
theorem ck30 : Cok kx R M q q' s0 s1 v0 v1 b 30 := by
  unfold Cok
  rw [arr0 (k := 30) (t := 0) (N := 8) rfl rfl]
  rfl
set_option maxRecDepth 20000 in
theorem ck31 : Cok kx R M q q' s0 s1 v0 v1 b 31 := by
  unfold Cok
  rw [arr0 (k := 31) (t := 0) (N := 8) rfl rfl]
  rfl
set_option maxRecDepth 20000 in
theorem ck32 : Cok kx R M q q' s0 s1 v0 v1 b 32 := by
  unfold Cok
  rw [out0 (k := 32) (b := 33) (N := 8) (f := fun i => rq q 9 5 i) rfl (fun i hi => by
    rcases (show i = 0 ∨ i = 1 ∨ i = 2 ∨ i = 3 ∨ i = 4 ∨ i = 5 ∨ i = 6 ∨ i = 7 by omega) with rfl | rfl | rfl | rfl | rfl | rfl | rfl | rfl <;> rfl)]
  rfl
set_option maxRecDepth 20000 in
theorem ck33 : Cok kx R M q q' s0 s1 v0 v1 b 33 := by
  unfold Cok
  rw [arr0 (k := 33) (t := 0) (N := 5) rfl rfl]
  rfl
set_option maxRecDepth 20000 in
theorem ck34 : Cok kx R M q q' s0 s1 v0 v1 b 34 := by
  unfold Cok
  rw [arr0 (k := 34) (t := 0) (N := 5) rfl rfl]
  rfl
set_option maxRecDepth 20000 in
theorem ck35 : Cok kx R M q q' s0 s1 v0 v1 b 35 := by
  unfold Cok
  rw [arr0 (k := 35) (t := 0) (N := 5) rfl rfl]
  rfl
set_option maxRecDepth 20000 in
theorem ck36 : Cok kx R M q q' s0 s1 v0 v1 b 36 := by
  unfold Cok
  rw [arr0 (k := 36) (t := 0) (N := 5) rfl rfl]
  rfl
set_option maxRecDepth 20000 in
theorem ck37 : Cok kx R M q q' s0 s1 v0 v1 b 37 := by
  unfold Cok
  rw [arr0 (k := 37) (t := 0) (N := 5) rfl rfl]
  rfl
set_option maxRecDepth 20000 in
theorem ck38 : Cok kx R M q q' s0 s1 v0 v1 b 38 := by
  unfold Cok
  rw [arr0 (k := 38) (t := 0) (N := 5) rfl rfl]
  rfl
set_option maxRecDepth 20000 in
theorem ck39 : Cok kx R M q q' s0 s1 v0 v1 b 39 := by
  unfold Cok
  rw [arr0 (k := 39) (t := 0) (N := 5) rfl rfl]
  rfl
set_option maxRecDepth 20000 in
theorem ck40 : Cok kx R M q q' s0 s1 v0 v1 b 40 := by
  unfold Cok
  rw [arr0 (k := 40) (t := 0) (N := 5) rfl rfl]
  rfl
set_option maxRecDepth 20000 in
theorem ck41 : Cok kx R M q q' s0 s1 v0 v1 b 41 := by
  unfold Cok
  rw [out0 (k := 41) (b := 42) (N := 8) (f := fun i => rq q 9 7 i) rfl (fun i hi => by
    rcases (show i = 0 ∨ i = 1 ∨ i = 2 ∨ i = 3 ∨ i = 4 ∨ i = 5 ∨ i = 6 ∨ i = 7 by omega) with rfl | rfl | rfl | rfl | rfl | rfl | rfl | rfl <;> rfl)]
  rfl
set_option maxRecDepth 20000 in
theorem ck42 : Cok kx R M q q' s0 s1 v0 v1 b 42 := by
  unfold Cok
  rw [arr0 (k := 42) (t := 0) (N := 5) rfl rfl]
  rfl
set_option maxRecDepth 20000 in
theorem ck43 : Cok kx R M q q' s0 s1 v0 v1 b 43 := by
  unfold Cok
  rw [arr0 (k := 43) (t := 0) (N := 5) rfl rfl]
  rfl
set_option maxRecDepth 20000 in
theorem ck44 : Cok kx R M q q' s0 s1 v0 v1 b 44 := by
  unfold Cok
  rw [arr0 (k := 44) (t := 0) (N := 5) rfl rfl]
  rfl
set_option maxRecDepth 20000 in
theorem ck45 : Cok kx R M q q' s0 s1 v0 v1 b 45 := by
  unfold Cok
  rw [arr0 (k := 45) (t := 0) (N := 5) rfl rfl]
  rfl
set_option maxRecDepth 20000 in
theorem ck46 : Cok kx R M q q' s0 s1 v0 v1 b 46 := by
  unfold Cok
  rw [arr0 (k := 46) (t := 0) (N := 5) rfl rfl]
  rfl
set_option maxRecDepth 20000 in
theorem ck47 : Cok kx R M q q' s0 s1 v0 v1 b 47 := by
  unfold Cok
  rw [arr0 (k := 47) (t := 0) (N := 5) rfl rfl]
  rfl
set_option maxRecDepth 20000 in
theorem ck48 : Cok kx R M q q' s0 s1 v0 v1 b 48 := by
  unfold Cok
  rw [arr0 (k := 48) (t := 0) (N := 5) rfl rfl]
  rfl
set_option maxRecDepth 20000 in
theorem ck49 : Cok kx R M q q' s0 s1 v0 v1 b 49 := by
  unfold Cok
  rw [arr0 (k := 49) (t := 0) (N := 5) rfl rfl]
  rfl
set_option maxRecDepth 20000 in
theorem ck50 : Cok kx R M q q' s0 s1 v0 v1 b 50 := by
  unfold Cok
  rw [arr0 (k := 50) (t := 0) (N := 40) rfl rfl]
  rfl
set_option maxRecDepth 20000 in
theorem ck51 : Cok kx R M q q' s0 s1 v0 v1 b 51 := by
  unfold Cok
  rw [arr0 (k := 51) (t := 0) (N := 8) rfl rfl]
  rfl
set_option maxRecDepth 20000 in
theorem ck52 : Cok kx R M q q' s0 s1 v0 v1 b 52 := by
  unfold Cok
  rw [arr0 (k := 52) (t := 0) (N := 40) rfl rfl]
  rfl
set_option maxRecDepth 20000 in
theorem ck53 : Cok kx R M q q' s0 s1 v0 v1 b 53 := by
  unfold Cok
  rw [arr0 (k := 53) (t := 1) (N := 40) rfl rfl]
  rfl
set_option maxRecDepth 20000 in
theorem ck54 : Cok kx R M q q' s0 s1 v0 v1 b 54 := by
  unfold Cok
  rw [arr0 (k := 54) (t := 0) (N := 40) rfl rfl]
  rfl
set_option maxRecDepth 20000 in
theorem ck55 : Cok kx R M q q' s0 s1 v0 v1 b 55 := by
  unfold Cok
  rw [arr0 (k := 55) (t := 0) (N := 40) rfl rfl]
  rfl
set_option maxRecDepth 20000 in
theorem ck56 : Cok kx R M q q' s0 s1 v0 v1 b 56 := by
  unfold Cok
  rw [arr0 (k := 56) (t := 0) (N := 40) rfl rfl]
  rfl
set_option maxRecDepth 20000 in
theorem ck57 : Cok kx R M q q' s0 s1 v0 v1 b 57 := by
  unfold Cok
  rw [arr0 (k := 57) (t := 0) (N := 40) rfl rfl]
  rfl
set_option maxRecDepth 20000 in
theorem ck58 : Cok kx R M q q' s0 s1 v0 v1 b 58 := by
  unfold Cok
  rw [arr0 (k := 58) (t := 1) (N := 40) rfl rfl]
  rfl
set_option maxRecDepth 20000 in
theorem ck59 : Cok kx R M q q' s0 s1 v0 v1 b 59 := by
  unfold Cok
  rw [arr0 (k := 59) (t := 0) (N := 80) rfl rfl]
  rfl
set_option maxRecDepth 20000 in
theorem ck60 : Cok kx R M q q' s0 s1 v0 v1 b 60 := by
  unfold Cok
  rw [arr0 (k := 60) (t := 0) (N := 80) rfl rfl]
  rfl
set_option maxRecDepth 20000 in
theorem ck61 : Cok kx R M q q' s0 s1 v0 v1 b 61 := by
  unfold Cok
  rw [arr0 (k := 61) (t := 0) (N := 80) rfl rfl]
  rfl
set_option maxRecDepth 20000 in
theorem ck62 : Cok kx R M q q' s0 s1 v0 v1 b 62 := by
  unfold Cok
  rw [arr0 (k := 62) (t := 0) (N := 80) rfl rfl]
  rfl
set_option maxRecDepth 20000 in
theorem ck63 : Cok kx R M q q' s0 s1 v0 v1 b 63 := by
  unfold Cok
  rw [arr0 (k := 63) (t := 0) (N := 80) rfl rfl]
  rfl
set_option maxRecDepth 20000 in
theorem ck64 : Cok kx R M q q' s0 s1 v0 v1 b 64 := by
  unfold Cok
  rw [arr0 (k := 64) (t := 0) (N := 80) rfl rfl]
  rfl
set_option maxRecDepth 20000 in
theorem ck65 : Cok kx R M q q' s0 s1 v0 v1 b 65 := by
  unfold Cok
  rw [arr0 (k := 65) (t := 0) (N := 5) rfl rfl]
  rfl
set_option maxRecDepth 20000 in
theorem ck66 : Cok kx R M q q' s0 s1 v0 v1 b 66 := by
  unfold Cok
  rw [arr0 (k := 66) (t := 0) (N := 10) rfl rfl]
  rfl
set_option maxRecDepth 20000 in
theorem ck67 : Cok kx R M q q' s0 s1 v0 v1 b 67 := by
  unfold Cok
  rw [out0 (k := 67) (b := 68) (N := 10) (f := fun i => rq q 5 2 i) rfl (fun i hi => by
    rcases (show i = 0 ∨ i = 1 ∨ i = 2 ∨ i = 3 ∨ i = 4 ∨ i = 5 ∨ i = 6 ∨ i = 7 ∨ i = 8 ∨ i = 9 by omega) with rfl | rfl | rfl | rfl | rfl | rfl | rfl | rfl | rfl | rfl <;> rfl)]
  rfl
set_option maxRecDepth 20000 in
theorem ck68 : Cok kx R M q q' s0 s1 v0 v1 b 68 := by
  unfold Cok
  rw [arr0 (k := 68) (t := 0) (N := 4) rfl rfl]
  rfl
set_option maxRecDepth 20000 in
theorem ck69 : Cok kx R M q q' s0 s1 v0 v1 b 69 := by
  unfold Cok
  rw [arr0 (k := 69) (t := 0) (N := 4) rfl rfl]
  rfl
set_option maxRecDepth 20000 in
theorem ck70 : Cok kx R M q q' s0 s1 v0 v1 b 70 := by
  unfold Cok
  rw [arr0 (k := 70) (t := 0) (N := 4) rfl rfl]
  rfl
set_option maxRecDepth 20000 in
theorem ck71 : Cok kx R M q q' s0 s1 v0 v1 b 71 := by
  unfold Cok
  rw [arr0 (k := 71) (t := 0) (N := 4) rfl rfl]
  rfl
set_option maxRecDepth 20000 in
theorem ck72 : Cok kx R M q q' s0 s1 v0 v1 b 72 := by
  unfold Cok
  rw [arr0 (k := 72) (t := 0) (N := 4) rfl rfl]
  rfl
set_option maxRecDepth 20000 in
theorem ck73 : Cok kx R M q q' s0 s1 v0 v1 b 73 := by
  unfold Cok
  rw [arr0 (k := 73) (t := 0) (N := 4) rfl rfl]
  rfl
set_option maxRecDepth 20000 in
theorem ck74 : Cok kx R M q q' s0 s1 v0 v1 b 74 := by
  unfold Cok
  rw [arr0 (k := 74) (t := 0) (N := 4) rfl rfl]
  rfl
set_option maxRecDepth 20000 in
theorem ck75 : Cok kx R M q q' s0 s1 v0 v1 b 75 := by
  unfold Cok
  rw [arr0 (k := 75) (t := 0) (N := 4) rfl rfl]
  rfl
set_option maxRecDepth 20000 in
theorem ck76 : Cok kx R M q q' s0 s1 v0 v1 b 76 := by
  unfold Cok
  rw [arr0 (k := 76) (t := 0) (N := 4) rfl rfl]
  rfl
set_option maxRecDepth 20000 in
theorem ck77 : Cok kx R M q q' s0 s1 v0 v1 b 77 := by
  unfold Cok
  rw [arr0 (k := 77) (t := 0) (N := 4) rfl rfl]
  rfl
set_option maxRecDepth 20000 in
theorem ck78 : Cok kx R M q q' s0 s1 v0 v1 b 78 := by
  unfold Cok
  rw [arr0 (k := 78) (t := 0) (N := 4) rfl rfl]
  rfl
set_option maxRecDepth 20000 in
theorem ck79 : Cok kx R M q q' s0 s1 v0 v1 b 79 := by
  unfold Cok
  rw [arr0 (k := 79) (t := 0) (N := 16) rfl rfl]
  rfl
set_option maxRecDepth 20000 in
theorem ck80 : Cok kx R M q q' s0 s1 v0 v1 b 80 := by
  unfold Cok
  rw [arr0 (k := 80) (t := 0) (N := 16) rfl rfl]
  rfl
set_option maxRecDepth 20000 in
theorem ck81 : Cok kx R M q q' s0 s1 v0 v1 b 81 := by
  unfold Cok
  rw [arr0 (k := 81) (t := 0) (N := 16) rfl rfl]
  rfl
set_option maxRecDepth 20000 in
theorem ck82 : Cok kx R M q q' s0 s1 v0 v1 b 82 := by
  unfold Cok
  rw [arrL (k := 82) (t := 0) (N := 6) rfl rfl upd_sd]
  rfl
set_option maxRecDepth 20000 in
theorem ck83 : Cok kx R M q q' s0 s1 v0 v1 b 83 := by
  unfold Cok
  rw [arr0 (k := 83) (t := 0) (N := 40) rfl rfl]
  rfl
set_option maxRecDepth 20000 in
theorem ck84 : Cok kx R M q q' s0 s1 v0 v1 b 84 := by
  unfold Cok
  rw [arr0 (k := 84) (t := 0) (N := 40) rfl rfl]
  rfl
set_option maxRecDepth 20000 in
theorem ck85 : Cok kx R M q q' s0 s1 v0 v1 b 85 := by
  unfold Cok
  rw [arr0 (k := 85) (t := 0) (N := 40) rfl rfl]
  rfl
set_option maxRecDepth 20000 in
theorem ck86 : Cok kx R M q q' s0 s1 v0 v1 b 86 := by
  unfold Cok
  rw [arr0 (k := 86) (t := 0) (N := 9) rfl rfl]
  rfl
set_option maxRecDepth 20000 in
theorem ck87 : Cok kx R M q q' s0 s1 v0 v1 b 87 := by
  unfold Cok
  rw [arr0 (k := 87) (t := 0) (N := 5) rfl rfl]
  rfl
set_option maxRecDepth 20000 in
theorem ck88 : Cok kx R M q q' s0 s1 v0 v1 b 88 := by
  unfold Cok
  rw [arr0 (k := 88) (t := 0) (N := 5) rfl rfl]
  rfl
set_option maxRecDepth 20000 in
theorem ck89 : Cok kx R M q q' s0 s1 v0 v1 b 89 := by
  unfold Cok
  rw [out0 (k := 89) (b := 90) (N := 6) (f := fun i => rq q 10 4 i) rfl (fun i hi => by
    rcases (show i = 0 ∨ i = 1 ∨ i = 2 ∨ i = 3 ∨ i = 4 ∨ i = 5 by omega) with rfl | rfl | rfl | rfl | rfl | rfl <;> rfl)]
  rfl
set_option maxRecDepth 20000 in
theorem ck90 : Cok kx R M q q' s0 s1 v0 v1 b 90 := by
  unfold Cok
  rw [arr0 (k := 90) (t := 0) (N := 512) rfl rfl]
  rfl
set_option maxRecDepth 20000 in
theorem ck91 : Cok kx R M q q' s0 s1 v0 v1 b 91 := by
  unfold Cok
  rw [arr0 (k := 91) (t := 0) (N := 512) rfl rfl]
  rfl
set_option maxRecDepth 20000 in
theorem ck92 : Cok kx R M q q' s0 s1 v0 v1 b 92 := by
  unfold Cok
  rw [arr0 (k := 92) (t := 0) (N := 512) rfl rfl]
  rfl
set_option maxRecDepth 20000 in
theorem ck93 : Cok kx R M q q' s0 s1 v0 v1 b 93 := by
  unfold Cok
  rw [arr0 (k := 93) (t := 0) (N := 512) rfl rfl]
  rfl
set_option maxRecDepth 20000 in
theorem ck94 : Cok kx R M q q' s0 s1 v0 v1 b 94 := by
  unfold Cok
  rw [arr0 (k := 94) (t := 0) (N := 512) rfl rfl]
  rfl
set_option maxRecDepth 20000 in
theorem ck95 : Cok kx R M q q' s0 s1 v0 v1 b 95 := by
  unfold Cok
  rw [arr0 (k := 95) (t := 0) (N := 512) rfl rfl]
  rfl
set_option maxRecDepth 20000 in
theorem ck96 : Cok kx R M q q' s0 s1 v0 v1 b 96 := by
  unfold Cok
  rw [out0 (k := 96) (b := 97) (N := 5) (f := fun i => rq q 10 6 i) rfl (fun i hi => by
    rcases (show i = 0 ∨ i = 1 ∨ i = 2 ∨ i = 3 ∨ i = 4 by omega) with rfl | rfl | rfl | rfl | rfl <;> rfl)]
  rfl
set_option maxRecDepth 20000 in
theorem ck97 : Cok kx R M q q' s0 s1 v0 v1 b 97 := by
  unfold Cok
  rw [arr0 (k := 97) (t := 0) (N := 512) rfl rfl]
  rfl
set_option maxRecDepth 20000 in
theorem ck98 : Cok kx R M q q' s0 s1 v0 v1 b 98 := by
  unfold Cok
  rw [arr0 (k := 98) (t := 0) (N := 512) rfl rfl]
  rfl
set_option maxRecDepth 20000 in
theorem ck99 : Cok kx R M q q' s0 s1 v0 v1 b 99 := by
  unfold Cok
  rw [arr0 (k := 99) (t := 0) (N := 512) rfl rfl]
  rfl
set_option maxRecDepth 20000 in
theorem ck100 : Cok kx R M q q' s0 s1 v0 v1 b 100 := by
  unfold Cok
  rw [arr0 (k := 100) (t := 0) (N := 512) rfl rfl]
  rfl
set_option maxRecDepth 20000 in
theorem ck101 : Cok kx R M q q' s0 s1 v0 v1 b 101 := by
  unfold Cok
  rw [arr0 (k := 101) (t := 0) (N := 512) rfl rfl]
  rfl
set_option maxRecDepth 20000 in
theorem ck102 : Cok kx R M q q' s0 s1 v0 v1 b 102 := by
  unfold Cok
  rw [arr0 (k := 102) (t := 0) (N := 512) rfl rfl]
  rfl
set_option maxRecDepth 20000 in
theorem ck103 : Cok kx R M q q' s0 s1 v0 v1 b 103 := by
  unfold Cok
  rw [arr0 (k := 103) (t := 0) (N := 512) rfl rfl]
  rfl
set_option maxRecDepth 20000 in
theorem ck104 : Cok kx R M q q' s0 s1 v0 v1 b 104 := by
  unfold Cok
  rw [arr0 (k := 104) (t := 0) (N := 120) rfl rfl]
  rfl
set_option maxRecDepth 20000 in
theorem ck105 : Cok kx R M q q' s0 s1 v0 v1 b 105 := by
  unfold Cok
  rw [arr0 (k := 105) (t := 0) (N := 120) rfl rfl]
  rfl
set_option maxRecDepth 20000 in
theorem ck106 : Cok kx R M q q' s0 s1 v0 v1 b 106 := by
  unfold Cok
  rw [arr0 (k := 106) (t := 0) (N := 120) rfl rfl]
  rfl
set_option maxRecDepth 20000 in
theorem ck107 : Cok kx R M q q' s0 s1 v0 v1 b 107 := by
  unfold Cok
  rw [arr0 (k := 107) (t := 0) (N := 120) rfl rfl]
  rfl
set_option maxRecDepth 20000 in
theorem ck108 : Cok kx R M q q' s0 s1 v0 v1 b 108 := by
  unfold Cok
  rw [arr0 (k := 108) (t := 0) (N := 120) rfl rfl]
  rfl
set_option maxRecDepth 20000 in
theorem ck109 : Cok kx R M q q' s0 s1 v0 v1 b 109 := by
  unfold Cok
  rw [arrL (k := 109) (t := 0) (N := 2) rfl rfl upd_wt]
  rfl
set_option maxRecDepth 20000 in
theorem ck110 : Cok kx R M q q' s0 s1 v0 v1 b 110 := by
  unfold Cok
  rw [arr0 (k := 110) (t := 0) (N := 16) rfl rfl]
  rfl
set_option maxRecDepth 20000 in
theorem ck111 : Cok kx R M q q' s0 s1 v0 v1 b 111 := by
  unfold Cok
  rw [arr0 (k := 111) (t := 0) (N := 16) rfl rfl]
  rfl
set_option maxRecDepth 20000 in
theorem ck112 : Cok kx R M q q' s0 s1 v0 v1 b 112 := by
  unfold Cok
  rw [arr0 (k := 112) (t := 0) (N := 16) rfl rfl]
  rfl
set_option maxRecDepth 20000 in
theorem ck113 : Cok kx R M q q' s0 s1 v0 v1 b 113 := by
  unfold Cok
  rw [arr0 (k := 113) (t := 0) (N := 16) rfl rfl]
  rfl
set_option maxRecDepth 20000 in
theorem ck114 : Cok kx R M q q' s0 s1 v0 v1 b 114 := by
  unfold Cok
  rw [arr0 (k := 114) (t := 0) (N := 30) rfl rfl]
  rfl
set_option maxRecDepth 20000 in
theorem ck115 : Cok kx R M q q' s0 s1 v0 v1 b 115 := by
  unfold Cok
  rw [arr0 (k := 115) (t := 0) (N := 30) rfl rfl]
  rfl
set_option maxRecDepth 20000 in
theorem ck116 : Cok kx R M q q' s0 s1 v0 v1 b 116 := by
  unfold Cok
  rw [arr0 (k := 116) (t := 0) (N := 30) rfl rfl]
  rfl
set_option maxRecDepth 20000 in
theorem ck117 : Cok kx R M q q' s0 s1 v0 v1 b 117 := by
  unfold Cok
  rw [arr0 (k := 117) (t := 0) (N := 40) rfl rfl]
  rfl
set_option maxRecDepth 20000 in
theorem ck118 : Cok kx R M q q' s0 s1 v0 v1 b 118 := by
  unfold Cok
  rw [arr0 (k := 118) (t := 0) (N := 40) rfl rfl]
  rfl
set_option maxRecDepth 20000 in
theorem ck119 : Cok kx R M q q' s0 s1 v0 v1 b 119 := by
  unfold Cok
  rw [out0 (k := 119) (b := 120) (N := 20) (f := fun i => rq q 4 1 i) rfl (fun i hi => by
    rcases (show i = 0 ∨ i = 1 ∨ i = 2 ∨ i = 3 ∨ i = 4 ∨ i = 5 ∨ i = 6 ∨ i = 7 ∨ i = 8 ∨ i = 9 ∨ i = 10 ∨ i = 11 ∨ i = 12 ∨ i = 13 ∨ i = 14 ∨ i = 15 ∨ i = 16 ∨ i = 17 ∨ i = 18 ∨ i = 19 by omega) with rfl | rfl | rfl | rfl | rfl | rfl | rfl | rfl | rfl | rfl | rfl | rfl | rfl | rfl | rfl | rfl | rfl | rfl | rfl | rfl <;> rfl)]
  rfl
set_option maxRecDepth 20000 in
theorem ck120 : Cok kx R M q q' s0 s1 v0 v1 b 120 := by
  unfold Cok
  rw [arr0 (k := 120) (t := 0) (N := 40) rfl rfl]
  rfl
set_option maxRecDepth 20000 in
theorem ck121 : Cok kx R M q q' s0 s1 v0 v1 b 121 := by
  unfold Cok
  rw [arr0 (k := 121) (t := 0) (N := 40) rfl rfl]
  rfl
set_option maxRecDepth 20000 in
theorem ck122 : Cok kx R M q q' s0 s1 v0 v1 b 122 := by
  unfold Cok
  rw [arr0 (k := 122) (t := 0) (N := 40) rfl rfl]
  rfl
set_option maxRecDepth 20000 in
theorem ck123 : Cok kx R M q q' s0 s1 v0 v1 b 123 := by
  unfold Cok
  rw [arr0 (k := 123) (t := 0) (N := 40) rfl rfl]
  rfl
set_option maxRecDepth 20000 in
theorem ck124 : Cok kx R M q q' s0 s1 v0 v1 b 124 := by
  unfold Cok
  rw [arr0 (k := 124) (t := 0) (N := 40) rfl rfl]
  rfl
set_option maxRecDepth 20000 in
theorem ck125 : Cok kx R M q q' s0 s1 v0 v1 b 125 := by
  unfold Cok
  rw [arr0 (k := 125) (t := 0) (N := 40) rfl rfl]
  rfl
set_option maxRecDepth 20000 in
theorem ck126 : Cok kx R M q q' s0 s1 v0 v1 b 126 := by
  unfold Cok
  rw [arr0 (k := 126) (t := 0) (N := 40) rfl rfl]
  rfl
set_option maxRecDepth 20000 in
theorem ck127 : Cok kx R M q q' s0 s1 v0 v1 b 127 := by
  unfold Cok
  rw [arr0 (k := 127) (t := 0) (N := 40) rfl rfl]
  rfl
set_option maxRecDepth 20000 in
theorem ck128 : Cok kx R M q q' s0 s1 v0 v1 b 128 := by
  unfold Cok
  rw [arr0 (k := 128) (t := 0) (N := 40) rfl rfl]
  rfl
set_option maxRecDepth 20000 in
theorem ck129 : Cok kx R M q q' s0 s1 v0 v1 b 129 := by
  unfold Cok
  rw [arr0 (k := 129) (t := 0) (N := 40) rfl rfl]
  rfl
set_option maxRecDepth 20000 in
theorem ck130 : Cok kx R M q q' s0 s1 v0 v1 b 130 := by
  unfold Cok
  rw [arr0 (k := 130) (t := 0) (N := 40) rfl rfl]
  rfl
set_option maxRecDepth 20000 in
theorem ck131 : Cok kx R M q q' s0 s1 v0 v1 b 131 := by
  unfold Cok
  rw [arr0 (k := 131) (t := 0) (N := 40) rfl rfl]
  rfl
set_option maxRecDepth 20000 in
theorem ck132 : Cok kx R M q q' s0 s1 v0 v1 b 132 := by
  unfold Cok
  rw [arr0 (k := 132) (t := 0) (N := 40) rfl rfl]
  rfl
set_option maxRecDepth 20000 in
theorem ck133 : Cok kx R M q q' s0 s1 v0 v1 b 133 := by
  unfold Cok
  rw [arr0 (k := 133) (t := 0) (N := 40) rfl rfl]
  rfl
set_option maxRecDepth 20000 in
theorem ck134 : Cok kx R M q q' s0 s1 v0 v1 b 134 := by
  unfold Cok
  rw [arr0 (k := 134) (t := 0) (N := 40) rfl rfl]
  rfl
set_option maxRecDepth 20000 in
theorem ck135 : Cok kx R M q q' s0 s1 v0 v1 b 135 := by
  unfold Cok
  rw [arr0 (k := 135) (t := 0) (N := 40) rfl rfl]
  rfl
set_option maxRecDepth 20000 in
theorem ck136 : Cok kx R M q q' s0 s1 v0 v1 b 136 := by
  unfold Cok
  rw [arr0 (k := 136) (t := 0) (N := 40) rfl rfl]
  rfl
set_option maxRecDepth 20000 in
theorem ck137 : Cok kx R M q q' s0 s1 v0 v1 b 137 := by
  unfold Cok
  rw [arr0 (k := 137) (t := 0) (N := 40) rfl rfl]
  rfl
set_option maxRecDepth 20000 in
theorem ck138 : Cok kx R M q q' s0 s1 v0 v1 b 138 := by
  unfold Cok
  rw [arr0 (k := 138) (t := 0) (N := 40) rfl rfl]
  rfl
set_option maxRecDepth 20000 in
theorem ck139 : Cok kx R M q q' s0 s1 v0 v1 b 139 := by
  unfold Cok
  rw [arr0 (k := 139) (t := 0) (N := 40) rfl rfl]
  rfl
set_option maxRecDepth 20000 in
theorem ck140 : Cok kx R M q q' s0 s1 v0 v1 b 140 := by
  unfold Cok
  rw [arr0 (k := 140) (t := 0) (N := 20) rfl rfl]
  rfl
set_option maxRecDepth 20000 in
theorem ck141 : Cok kx R M q q' s0 s1 v0 v1 b 141 := by
  unfold Cok
  rw [arr0 (k := 141) (t := 0) (N := 6) rfl rfl]
  rfl
set_option maxRecDepth 20000 in
theorem ck142 : Cok kx R M q q' s0 s1 v0 v1 b 142 := by
  unfold Cok
  rw [arr0 (k := 142) (t := 0) (N := 4) rfl rfl]
  rfl
set_option maxRecDepth 20000 in
theorem ck143 : Cok kx R M q q' s0 s1 v0 v1 b 143 := by
  unfold Cok
  rw [arr0 (k := 143) (t := 0) (N := 20) rfl rfl]
  rfl
set_option maxRecDepth 20000 in
theorem ck144 : Cok kx R M q q' s0 s1 v0 v1 b 144 := by
  unfold Cok
  rw [arr0 (k := 144) (t := 0) (N := 16) rfl rfl]
  rfl
set_option maxRecDepth 20000 in
theorem ck145 : Cok kx R M q q' s0 s1 v0 v1 b 145 := by
  unfold Cok
  rw [arr0 (k := 145) (t := 0) (N := 16) rfl rfl]
  rfl
set_option maxRecDepth 20000 in
theorem ck146 : Cok kx R M q q' s0 s1 v0 v1 b 146 := by
  unfold Cok
  rw [arr0 (k := 146) (t := 0) (N := 16) rfl rfl]
  rfl
set_option maxRecDepth 20000 in
theorem ck147 : Cok kx R M q q' s0 s1 v0 v1 b 147 := by
  unfold Cok
  rw [arr0 (k := 147) (t := 0) (N := 120) rfl rfl]
  rfl
set_option maxRecDepth 20000 in
theorem ck148 : Cok kx R M q q' s0 s1 v0 v1 b 148 := by
  unfold Cok
  rw [arr0 (k := 148) (t := 0) (N := 120) rfl rfl]
  rfl
set_option maxRecDepth 20000 in
theorem ck149 : Cok kx R M q q' s0 s1 v0 v1 b 149 := by
  unfold Cok
  rw [arr0 (k := 149) (t := 0) (N := 120) rfl rfl]
  rfl
set_option maxRecDepth 20000 in
theorem ck150 : Cok kx R M q q' s0 s1 v0 v1 b 150 := by
  unfold Cok
  rw [arr0 (k := 150) (t := 0) (N := 120) rfl rfl]
  rfl
set_option maxRecDepth 20000 in
theorem ck151 : Cok kx R M q q' s0 s1 v0 v1 b 151 := by
  unfold Cok
  rw [arr0 (k := 151) (t := 0) (N := 120) rfl rfl]
  rfl
set_option maxRecDepth 20000 in
theorem ck152 : Cok kx R M q q' s0 s1 v0 v1 b 152 := by
  unfold Cok
  rw [arr0 (k := 152) (t := 0) (N := 120) rfl rfl]
  rfl
set_option maxRecDepth 20000 in
theorem ck153 : Cok kx R M q q' s0 s1 v0 v1 b 153 := by
  unfold Cok
  rw [arrL (k := 153) (t := 0) (N := 2) rfl rfl upd_wt]
  rfl
set_option maxRecDepth 20000 in
theorem ck154 : Cok kx R M q q' s0 s1 v0 v1 b 154 := by
  unfold Cok
  rw [arr0 (k := 154) (t := 0) (N := 40) rfl rfl]
  rfl
set_option maxRecDepth 20000 in
theorem ck155 : Cok kx R M q q' s0 s1 v0 v1 b 155 := by
  unfold Cok
  rw [arr0 (k := 155) (t := 0) (N := 40) rfl rfl]
  rfl
set_option maxRecDepth 20000 in
theorem ck156 : Cok kx R M q q' s0 s1 v0 v1 b 156 := by
  unfold Cok
  rw [arr0 (k := 156) (t := 0) (N := 40) rfl rfl]
  rfl
set_option maxRecDepth 20000 in
theorem ck157 : Cok kx R M q q' s0 s1 v0 v1 b 157 := by
  unfold Cok
  rw [arr0 (k := 157) (t := 0) (N := 40) rfl rfl]
  rfl
set_option maxRecDepth 20000 in
theorem ck158 : Cok kx R M q q' s0 s1 v0 v1 b 158 := by
  unfold Cok
  rw [arr0 (k := 158) (t := 1) (N := 40) rfl rfl]
  rfl
set_option maxRecDepth 20000 in
theorem ck159 : Cok kx R M q q' s0 s1 v0 v1 b 159 := by
  unfold Cok
  rw [arr0 (k := 159) (t := 0) (N := 80) rfl rfl]
  rfl
set_option maxRecDepth 20000 in
theorem ck160 : Cok kx R M q q' s0 s1 v0 v1 b 160 := by
  unfold Cok
  rw [arr0 (k := 160) (t := 0) (N := 80) rfl rfl]
  rfl
set_option maxRecDepth 20000 in
theorem ck161 : Cok kx R M q q' s0 s1 v0 v1 b 161 := by
  unfold Cok
  rw [arr0 (k := 161) (t := 0) (N := 80) rfl rfl]
  rfl
set_option maxRecDepth 20000 in
theorem ck162 : Cok kx R M q q' s0 s1 v0 v1 b 162 := by
  unfold Cok
  rw [arr0 (k := 162) (t := 0) (N := 80) rfl rfl]
  rfl
set_option maxRecDepth 20000 in
theorem ck163 : Cok kx R M q q' s0 s1 v0 v1 b 163 := by
  unfold Cok
  rw [arr0 (k := 163) (t := 0) (N := 80) rfl rfl]
  rfl
set_option maxRecDepth 20000 in
theorem ck164 : Cok kx R M q q' s0 s1 v0 v1 b 164 := by
  unfold Cok
  rw [arr0 (k := 164) (t := 0) (N := 80) rfl rfl]
  rfl
set_option maxRecDepth 20000 in
theorem ck165 : Cok kx R M q q' s0 s1 v0 v1 b 165 := by
  unfold Cok
  rw [arrL (k := 165) (t := 0) (N := 6) rfl rfl upd_sd]
  rfl
set_option maxRecDepth 20000 in
theorem ck166 : Cok kx R M q q' s0 s1 v0 v1 b 166 := by
  unfold Cok
  rw [arr0 (k := 166) (t := 0) (N := 7) rfl rfl]
  rfl
set_option maxRecDepth 20000 in
theorem ck167 : Cok kx R M q q' s0 s1 v0 v1 b 167 := by
  unfold Cok
  rw [arr0 (k := 167) (t := 0) (N := 5) rfl rfl]
  rfl
set_option maxRecDepth 20000 in
theorem ck168 : Cok kx R M q q' s0 s1 v0 v1 b 168 := by
  unfold Cok
  rw [arr0 (k := 168) (t := 0) (N := 40) rfl rfl]
  rfl
set_option maxRecDepth 20000 in
theorem ck169 : Cok kx R M q q' s0 s1 v0 v1 b 169 := by
  unfold Cok
  rw [arr0 (k := 169) (t := 0) (N := 1200) rfl rfl]
  rfl
set_option maxRecDepth 20000 in
theorem ck170 : Cok kx R M q q' s0 s1 v0 v1 b 170 := by
  unfold Cok
  rw [arr0 (k := 170) (t := 0) (N := 30) rfl rfl]
  rfl
set_option maxRecDepth 20000 in
theorem ck171 : Cok kx R M q q' s0 s1 v0 v1 b 171 := by
  unfold Cok
  rw [arr0 (k := 171) (t := 1) (N := 60) rfl rfl]
  rfl
set_option maxRecDepth 20000 in
theorem ck172 : Cok kx R M q q' s0 s1 v0 v1 b 172 := by
  unfold Cok
  rw [arr0 (k := 172) (t := 0) (N := 60) rfl rfl]
  rfl
set_option maxRecDepth 20000 in
theorem ck173 : Cok kx R M q q' s0 s1 v0 v1 b 173 := by
  unfold Cok
  rw [arr0 (k := 173) (t := 0) (N := 40) rfl rfl]
  rfl
set_option maxRecDepth 20000 in
theorem ck174 : Cok kx R M q q' s0 s1 v0 v1 b 174 := by
  unfold Cok
  rw [arr0 (k := 174) (t := 0) (N := 40) rfl rfl]
  rfl
set_option maxRecDepth 20000 in
theorem ck175 : Cok kx R M q q' s0 s1 v0 v1 b 175 := by
  unfold Cok
  rw [arr0 (k := 175) (t := 0) (N := 40) rfl rfl]
  rfl
set_option maxRecDepth 20000 in
theorem ck176 : Cok kx R M q q' s0 s1 v0 v1 b 176 := by
  unfold Cok
  rw [arr0 (k := 176) (t := 0) (N := 30) rfl rfl]
  rfl
set_option maxRecDepth 20000 in
theorem ck177 : Cok kx R M q q' s0 s1 v0 v1 b 177 := by
  unfold Cok
  rw [arr0 (k := 177) (t := 0) (N := 30) rfl rfl]
  rfl
set_option maxRecDepth 20000 in
theorem ck178 : Cok kx R M q q' s0 s1 v0 v1 b 178 := by
  unfold Cok
  rw [arr0 (k := 178) (t := 0) (N := 30) rfl rfl]
  rfl
set_option maxRecDepth 20000 in
theorem ck179 : Cok kx R M q q' s0 s1 v0 v1 b 179 := by
  unfold Cok
  rw [arr0 (k := 179) (t := 0) (N := 40) rfl rfl]
  rfl
set_option maxRecDepth 20000 in
theorem ck180 : Cok kx R M q q' s0 s1 v0 v1 b 180 := by
  unfold Cok
  rw [arr0 (k := 180) (t := 0) (N := 40) rfl rfl]
  rfl
set_option maxRecDepth 20000 in
theorem ck181 : Cok kx R M q q' s0 s1 v0 v1 b 181 := by
  unfold Cok
  rw [arr0 (k := 181) (t := 0) (N := 40) rfl rfl]
  rfl
set_option maxRecDepth 20000 in
theorem ck182 : Cok kx R M q q' s0 s1 v0 v1 b 182 := by
  unfold Cok
  rw [arr0 (k := 182) (t := 1) (N := 40) rfl rfl]
  rfl
set_option maxRecDepth 20000 in
theorem ck183 : Cok kx R M q q' s0 s1 v0 v1 b 183 := by
  unfold Cok
  rw [arr0 (k := 183) (t := 0) (N := 9) rfl rfl]
  rfl
set_option maxRecDepth 20000 in
theorem ck184 : Cok kx R M q q' s0 s1 v0 v1 b 184 := by
  unfold Cok
  rw [arr0 (k := 184) (t := 0) (N := 9) rfl rfl]
  rfl
set_option maxRecDepth 20000 in
theorem ck185 : Cok kx R M q q' s0 s1 v0 v1 b 185 := by
  unfold Cok
  rw [arr0 (k := 185) (t := 0) (N := 9) rfl rfl]
  rfl
set_option maxRecDepth 20000 in
theorem ck186 : Cok kx R M q q' s0 s1 v0 v1 b 186 := by
  unfold Cok
  rw [arr0 (k := 186) (t := 0) (N := 9) rfl rfl]
  rfl
set_option maxRecDepth 20000 in
theorem ck187 : Cok kx R M q q' s0 s1 v0 v1 b 187 := by
  unfold Cok
  rw [arr0 (k := 187) (t := 0) (N := 16) rfl rfl]
  rfl
set_option maxRecDepth 20000 in
theorem ck188 : Cok kx R M q q' s0 s1 v0 v1 b 188 := by
  unfold Cok
  rw [arr0 (k := 188) (t := 0) (N := 16) rfl rfl]
  rfl
set_option maxRecDepth 20000 in
theorem ck189 : Cok kx R M q q' s0 s1 v0 v1 b 189 := by
  unfold Cok
  rw [arr0 (k := 189) (t := 0) (N := 16) rfl rfl]
  rfl
set_option maxRecDepth 20000 in
theorem ck190 : Cok kx R M q q' s0 s1 v0 v1 b 190 := by
  unfold Cok
  rw [arr0 (k := 190) (t := 0) (N := 16) rfl rfl]
  rfl
set_option maxRecDepth 20000 in
theorem ck191 : Cok kx R M q q' s0 s1 v0 v1 b 191 := by
  unfold Cok
  rw [arr0 (k := 191) (t := 0) (N := 16) rfl rfl]
  rfl
set_option maxRecDepth 20000 in
theorem ck192 : Cok kx R M q q' s0 s1 v0 v1 b 192 := by
  unfold Cok
  rw [arr0 (k := 192) (t := 1) (N := 40) rfl rfl]
  rfl
set_option maxRecDepth 20000 in
theorem ck193 : Cok kx R M q q' s0 s1 v0 v1 b 193 := by
  unfold Cok
  rw [arr0 (k := 193) (t := 0) (N := 72) rfl rfl]
  rfl
set_option maxRecDepth 20000 in
theorem ck194 : Cok kx R M q q' s0 s1 v0 v1 b 194 := by
  unfold Cok
  rw [arr0 (k := 194) (t := 0) (N := 8) rfl rfl]
  rfl
set_option maxRecDepth 20000 in
theorem ck195 : Cok kx R M q q' s0 s1 v0 v1 b 195 := by
  unfold Cok
  rw [arr0 (k := 195) (t := 0) (N := 8) rfl rfl]
  rfl
set_option maxRecDepth 20000 in
theorem ck196 : Cok kx R M q q' s0 s1 v0 v1 b 196 := by
  unfold Cok
  rw [arr0 (k := 196) (t := 0) (N := 40) rfl rfl]
  rfl
set_option maxRecDepth 20000 in
theorem ck197 : Cok kx R M q q' s0 s1 v0 v1 b 197 := by
  unfold Cok
  rw [arr0 (k := 197) (t := 0) (N := 40) rfl rfl]
  rfl
set_option maxRecDepth 20000 in
theorem ck198 : Cok kx R M q q' s0 s1 v0 v1 b 198 := by
  unfold Cok
  rw [arr0 (k := 198) (t := 1) (N := 45) rfl rfl]
  rfl
set_option maxRecDepth 20000 in
theorem ck199 : Cok kx R M q q' s0 s1 v0 v1 b 199 := by
  unfold Cok
  rw [arr0 (k := 199) (t := 0) (N := 9) rfl rfl]
  rfl
set_option maxRecDepth 20000 in
theorem ck200 : Cok kx R M q q' s0 s1 v0 v1 b 200 := by
  unfold Cok
  rw [arr0 (k := 200) (t := 0) (N := 9) rfl rfl]
  rfl
set_option maxRecDepth 20000 in
theorem ck201 : Cok kx R M q q' s0 s1 v0 v1 b 201 := by
  unfold Cok
  rw [arr0 (k := 201) (t := 0) (N := 10) rfl rfl]
  rfl
set_option maxRecDepth 20000 in
theorem ck202 : Cok kx R M q q' s0 s1 v0 v1 b 202 := by
  unfold Cok
  rw [arr0 (k := 202) (t := 0) (N := 6) rfl rfl]
  rfl
set_option maxRecDepth 20000 in
theorem ck203 : Cok kx R M q q' s0 s1 v0 v1 b 203 := by
  unfold Cok
  rw [arr0 (k := 203) (t := 0) (N := 10) rfl rfl]
  rfl
set_option maxRecDepth 20000 in
theorem ck204 : Cok kx R M q q' s0 s1 v0 v1 b 204 := by
  unfold Cok
  rw [arr0 (k := 204) (t := 0) (N := 4) rfl rfl]
  rfl
set_option maxRecDepth 20000 in
theorem ck205 : Cok kx R M q q' s0 s1 v0 v1 b 205 := by
  unfold Cok
  rw [arr0 (k := 205) (t := 0) (N := 20) rfl rfl]
  rfl
theorem upto {P : Nat → Prop} {n : Nat} (h : ∀ k, k < n → P k) (hn : P n) : ∀ k, k < n + 1 → P k := fun k hk => by
  by_cases e : k = n
  · subst e
    exact hn
  · exact h k (by omega)
theorem ckTo20 : ∀ k, k < 20 → Cok kx R M q q' s0 s1 v0 v1 b k := (upto (n := 19) (upto (n := 18) (upto (n := 17) (upto (n := 16) (upto (n := 15) (upto (n := 14) (upto (n := 13) (upto (n := 12) (upto (n := 11) (upto (n := 10) (upto (n := 9) (upto (n := 8) (upto (n := 7) (upto (n := 6) (upto (n := 5) (upto (n := 4) (upto (n := 3) (upto (n := 2) (upto (n := 1) (upto (n := 0) (fun k hk => absurd hk (Nat.not_lt_zero k)) ck0) ck1) ck2) ck3) ck4) ck5) ck6) ck7) ck8) ck9) ck10) ck11) ck12) ck13) ck14) ck15) ck16) ck17) ck18) ck19)
theorem ckTo40 : ∀ k, k < 40 → Cok kx R M q q' s0 s1 v0 v1 b k := (upto (n := 39) (upto (n := 38) (upto (n := 37) (upto (n := 36) (upto (n := 35) (upto (n := 34) (upto (n := 33) (upto (n := 32) (upto (n := 31) (upto (n := 30) (upto (n := 29) (upto (n := 28) (upto (n := 27) (upto (n := 26) (upto (n := 25) (upto (n := 24) (upto (n := 23) (upto (n := 22) (upto (n := 21) (upto (n := 20) ckTo20 ck20) ck21) ck22) ck23) ck24) ck25) ck26) ck27) ck28) ck29) ck30) ck31) ck32) ck33) ck34) ck35) ck36) ck37) ck38) ck39)
theorem ckTo60 : ∀ k, k < 60 → Cok kx R M q q' s0 s1 v0 v1 b k := (upto (n := 59) (upto (n := 58) (upto (n := 57) (upto (n := 56) (upto (n := 55) (upto (n := 54) (upto (n := 53) (upto (n := 52) (upto (n := 51) (upto (n := 50) (upto (n := 49) (upto (n := 48) (upto (n := 47) (upto (n := 46) (upto (n := 45) (upto (n := 44) (upto (n := 43) (upto (n := 42) (upto (n := 41) (upto (n := 40) ckTo40 ck40) ck41) ck42) ck43) ck44) ck45) ck46) ck47) ck48) ck49) ck50) ck51) ck52) ck53) ck54) ck55) ck56) ck57) ck58) ck59)
theorem ckTo80 : ∀ k, k < 80 → Cok kx R M q q' s0 s1 v0 v1 b k := (upto (n := 79) (upto (n := 78) (upto (n := 77) (upto (n := 76) (upto (n := 75) (upto (n := 74) (upto (n := 73) (upto (n := 72) (upto (n := 71) (upto (n := 70) (upto (n := 69) (upto (n := 68) (upto (n := 67) (upto (n := 66) (upto (n := 65) (upto (n := 64) (upto (n := 63) (upto (n := 62) (upto (n := 61) (upto (n := 60) ckTo60 ck60) ck61) ck62) ck63) ck64) ck65) ck66) ck67) ck68) ck69) ck70) ck71) ck72) ck73) ck74) ck75) ck76) ck77) ck78) ck79)
theorem ckTo100 : ∀ k, k < 100 → Cok kx R M q q' s0 s1 v0 v1 b k := (upto (n := 99) (upto (n := 98) (upto (n := 97) (upto (n := 96) (upto (n := 95) (upto (n := 94) (upto (n := 93) (upto (n := 92) (upto (n := 91) (upto (n := 90) (upto (n := 89) (upto (n := 88) (upto (n := 87) (upto (n := 86) (upto (n := 85) (upto (n := 84) (upto (n := 83) (upto (n := 82) (upto (n := 81) (upto (n := 80) ckTo80 ck80) ck81) ck82) ck83) ck84) ck85) ck86) ck87) ck88) ck89) ck90) ck91) ck92) ck93) ck94) ck95) ck96) ck97) ck98) ck99)
theorem ckTo120 : ∀ k, k < 120 → Cok kx R M q q' s0 s1 v0 v1 b k := (upto (n := 119) (upto (n := 118) (upto (n := 117) (upto (n := 116) (upto (n := 115) (upto (n := 114) (upto (n := 113) (upto (n := 112) (upto (n := 111) (upto (n := 110) (upto (n := 109) (upto (n := 108) (upto (n := 107) (upto (n := 106) (upto (n := 105) (upto (n := 104) (upto (n := 103) (upto (n := 102) (upto (n := 101) (upto (n := 100) ckTo100 ck100) ck101) ck102) ck103) ck104) ck105) ck106) ck107) ck108) ck109) ck110) ck111) ck112) ck113) ck114) ck115) ck116) ck117) ck118) ck119)
theorem ckTo140 : ∀ k, k < 140 → Cok kx R M q q' s0 s1 v0 v1 b k := (upto (n := 139) (upto (n := 138) (upto (n := 137) (upto (n := 136) (upto (n := 135) (upto (n := 134) (upto (n := 133) (upto (n := 132) (upto (n := 131) (upto (n := 130) (upto (n := 129) (upto (n := 128) (upto (n := 127) (upto (n := 126) (upto (n := 125) (upto (n := 124) (upto (n := 123) (upto (n := 122) (upto (n := 121) (upto (n := 120) ckTo120 ck120) ck121) ck122) ck123) ck124) ck125) ck126) ck127) ck128) ck129) ck130) ck131) ck132) ck133) ck134) ck135) ck136) ck137) ck138) ck139)
theorem ckTo160 : ∀ k, k < 160 → Cok kx R M q q' s0 s1 v0 v1 b k := (upto (n := 159) (upto (n := 158) (upto (n := 157) (upto (n := 156) (upto (n := 155) (upto (n := 154) (upto (n := 153) (upto (n := 152) (upto (n := 151) (upto (n := 150) (upto (n := 149) (upto (n := 148) (upto (n := 147) (upto (n := 146) (upto (n := 145) (upto (n := 144) (upto (n := 143) (upto (n := 142) (upto (n := 141) (upto (n := 140) ckTo140 ck140) ck141) ck142) ck143) ck144) ck145) ck146) ck147) ck148) ck149) ck150) ck151) ck152) ck153) ck154) ck155) ck156) ck157) ck158) ck159)
theorem ckTo180 : ∀ k, k < 180 → Cok kx R M q q' s0 s1 v0 v1 b k := (upto (n := 179) (upto (n := 178) (upto (n := 177) (upto (n := 176) (upto (n := 175) (upto (n := 174) (upto (n := 173) (upto (n := 172) (upto (n := 171) (upto (n := 170) (upto (n := 169) (upto (n := 168) (upto (n := 167) (upto (n := 166) (upto (n := 165) (upto (n := 164) (upto (n := 163) (upto (n := 162) (upto (n := 161) (upto (n := 160) ckTo160 ck160) ck161) ck162) ck163) ck164) ck165) ck166) ck167) ck168) ck169) ck170) ck171) ck172) ck173) ck174) ck175) ck176) ck177) ck178) ck179)
theorem ckTo200 : ∀ k, k < 200 → Cok kx R M q q' s0 s1 v0 v1 b k := (upto (n := 199) (upto (n := 198) (upto (n := 197) (upto (n := 196) (upto (n := 195) (upto (n := 194) (upto (n := 193) (upto (n := 192) (upto (n := 191) (upto (n := 190) (upto (n := 189) (upto (n := 188) (upto (n := 187) (upto (n := 186) (upto (n := 185) (upto (n := 184) (upto (n := 183) (upto (n := 182) (upto (n := 181) (upto (n := 180) ckTo180 ck180) ck181) ck182) ck183) ck184) ck185) ck186) ck187) ck188) ck189) ck190) ck191) ck192) ck193) ck194) ck195) ck196) ck197) ck198) ck199)
theorem ckTo206 : ∀ k, k < 206 → Cok kx R M q q' s0 s1 v0 v1 b k := (upto (n := 205) (upto (n := 204) (upto (n := 203) (upto (n := 202) (upto (n := 201) (upto (n := 200) ckTo200 ck200) ck201) ck202) ck203) ck204) ck205)
theorem start_world {D : va_G} {A : Nat → Prop} {H : Heap} (hP : va_P D vwCl (Wst kx s0 R M q q') H) (hD : va_D A (Wst kx s0 R M q q')) : va_P D vwCl (cW (adF R M q q' s0 s1 v0 v1 b) kx w0) H ∧ va_D A (cW (adF R M q q' s0 s1 v0 v1 b) kx w0) := by
  rw [Wst_r] at hP hD
  have hlt : ∀ (k : Nat) (x : Nat × va_E), (cW (adF R M q q' s0 s1 v0 v1 b) kx w0)[k]? = some x → k < 206 ∧ (Wr kx s0 R M q q')[PI k]? = some x := by
    intro k x hk
    have h1 : k < 206 := by
      have := (List.getElem?_eq_some_iff.mp hk).1
      rw [cW_len] at this
      exact this
    rw [cW_at h1] at hk
    exact ⟨h1, (ckTo206 k h1).trans hk⟩
  refine ⟨fun k x hk => hP (PI k) x (hlt k x hk).2, fun i j x y hi hj e => ?_, fun k x hk => hD.2 (PI k) x (hlt k x hk).2⟩
  have h1 := hlt i x hi
  have h2 := hlt j y hj
  have h3 := hD.1 (PI i) (PI j) x y h1.2 h2.2 e
  rw [← PI_inv i h1.1, ← PI_inv j h2.1, h3]
end
