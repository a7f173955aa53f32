/-! the law, from its loop's head: printed by wip/pm/pmlaw.py -/
theorem mcb_241 {b : Nat} {l : List aI} (h : aC_241[b]? = some l) : (aMC 241)[b]? = some l := h
def S_241_1 (X : aX) (P1 : Int32 → pMem → pT Int32) (x3 : Int32) (M : pMem) : pT Int32 := tIf (((Int32.ofNat X.1) - (kI 6)) < x3) (tRet (kI 1) M) (tGd (pIn x3 X.1) <| tIf (((X.2 (ix x3)) &&& (kI 31)) = kI 0) (tGd (pIn (x3 + (kI 1)) X.1) <| tGd (pIn (x3 + (kI 2)) X.1) <| tCall (D_1 (X.2 (ix (x3 + (kI 1)))) (X.2 (ix (x3 + (kI 2)))) M) fun v1 M1 => tGd (pIn (x3 + (kI 1)) X.1) <| tGd (pIn (x3 + (kI 2)) X.1) <| tCall (D_47 (X.2 (ix (x3 + (kI 1)))) (X.2 (ix (x3 + (kI 2)))) M1) fun v2 M2 => P1 (x3 + kI 6) M2) <| tIf (((X.2 (ix x3)) &&& (kI 31)) = kI 1) (tGd (pIn (x3 + (kI 1)) X.1) <| tGd (pIn (x3 + (kI 2)) X.1) <| tGd (pIn (x3 + (kI 3)) X.1) <| tCall (D_2 (X.2 (ix (x3 + (kI 1)))) (X.2 (ix (x3 + (kI 2)))) (X.2 (ix (x3 + (kI 3)))) M) fun v1 M1 => tGd (pIn (x3 + (kI 1)) X.1) <| tGd (pIn (x3 + (kI 2)) X.1) <| tGd (pIn (x3 + (kI 3)) X.1) <| tCall (D_48 (X.2 (ix (x3 + (kI 1)))) (X.2 (ix (x3 + (kI 2)))) (X.2 (ix (x3 + (kI 3)))) M1) fun v2 M2 => P1 (x3 + kI 6) M2) <| tIf (((X.2 (ix x3)) &&& (kI 31)) = kI 2) (tGd (pIn (x3 + (kI 1)) X.1) <| tGd (pIn (x3 + (kI 2)) X.1) <| tGd (pIn (x3 + (kI 3)) X.1) <| tIf ((X.2 (ix (x3 + (kI 3)))) = 0) (tCall (D_3 (X.2 (ix (x3 + (kI 1)))) (X.2 (ix (x3 + (kI 2)))) (kI 0) M) fun v1 M1 => tGd (pIn (x3 + (kI 1)) X.1) <| tGd (pIn (x3 + (kI 2)) X.1) <| tGd (pIn (x3 + (kI 3)) X.1) <| tIf ((X.2 (ix (x3 + (kI 3)))) = 0) (tCall (D_49 (X.2 (ix (x3 + (kI 1)))) (X.2 (ix (x3 + (kI 2)))) (kI 0) M1) fun v2 M2 => P1 (x3 + kI 6) M2) (tCall (D_49 (X.2 (ix (x3 + (kI 1)))) (X.2 (ix (x3 + (kI 2)))) (kI 1) M1) fun v2 M2 => P1 (x3 + kI 6) M2)) (tCall (D_3 (X.2 (ix (x3 + (kI 1)))) (X.2 (ix (x3 + (kI 2)))) (kI 1) M) fun v1 M1 => tGd (pIn (x3 + (kI 1)) X.1) <| tGd (pIn (x3 + (kI 2)) X.1) <| tGd (pIn (x3 + (kI 3)) X.1) <| tIf ((X.2 (ix (x3 + (kI 3)))) = 0) (tCall (D_49 (X.2 (ix (x3 + (kI 1)))) (X.2 (ix (x3 + (kI 2)))) (kI 0) M1) fun v2 M2 => P1 (x3 + kI 6) M2) (tCall (D_49 (X.2 (ix (x3 + (kI 1)))) (X.2 (ix (x3 + (kI 2)))) (kI 1) M1) fun v2 M2 => P1 (x3 + kI 6) M2))) <| tIf (((X.2 (ix x3)) &&& (kI 31)) = kI 3) (tGd (pIn (x3 + (kI 1)) X.1) <| tCall (D_4 (X.2 (ix (x3 + (kI 1)))) M) fun v1 M1 => tGd (pIn (x3 + (kI 1)) X.1) <| tCall (D_50 (X.2 (ix (x3 + (kI 1)))) M1) fun v2 M2 => P1 (x3 + kI 6) M2) <| tIf (((X.2 (ix x3)) &&& (kI 31)) = kI 4) (tGd (pIn (x3 + (kI 1)) X.1) <| tGd (pIn (x3 + (kI 2)) X.1) <| tGd (pIn (x3 + (kI 3)) X.1) <| tGd (pIn (x3 + (kI 4)) X.1) <| tGd (pIn (x3 + (kI 5)) X.1) <| tCall (D_5 (X.2 (ix (x3 + (kI 1)))) (X.2 (ix (x3 + (kI 2)))) (X.2 (ix (x3 + (kI 3)))) (X.2 (ix (x3 + (kI 4)))) (X.2 (ix (x3 + (kI 5)))) M) fun v1 M1 => tGd (pIn (x3 + (kI 1)) X.1) <| tGd (pIn (x3 + (kI 2)) X.1) <| tGd (pIn (x3 + (kI 3)) X.1) <| tGd (pIn (x3 + (kI 4)) X.1) <| tGd (pIn (x3 + (kI 5)) X.1) <| tCall (D_58 (X.2 (ix (x3 + (kI 1)))) (X.2 (ix (x3 + (kI 2)))) (X.2 (ix (x3 + (kI 3)))) (X.2 (ix (x3 + (kI 4)))) (X.2 (ix (x3 + (kI 5)))) M1) fun v2 M2 => P1 (x3 + kI 6) M2) <| tIf (((X.2 (ix x3)) &&& (kI 31)) = kI 5) (tGd (pIn (x3 + (kI 1)) X.1) <| tCall (D_6 (X.2 (ix (x3 + (kI 1)))) M) fun v1 M1 => tGd (pIn (x3 + (kI 1)) X.1) <| tCall (D_59 (X.2 (ix (x3 + (kI 1)))) M1) fun v2 M2 => P1 (x3 + kI 6) M2) <| tIf (((X.2 (ix x3)) &&& (kI 31)) = kI 6) (tGd (pIn (x3 + (kI 1)) X.1) <| tGd (pIn (x3 + (kI 2)) X.1) <| tCall (D_7 (X.2 (ix (x3 + (kI 1)))) (X.2 (ix (x3 + (kI 2)))) M) fun v1 M1 => tGd (pIn (x3 + (kI 1)) X.1) <| tGd (pIn (x3 + (kI 2)) X.1) <| tCall (D_81 (X.2 (ix (x3 + (kI 1)))) (X.2 (ix (x3 + (kI 2)))) M1) fun v2 M2 => P1 (x3 + kI 6) M2) <| tIf (((X.2 (ix x3)) &&& (kI 31)) = kI 7) (tGd (pIn (x3 + (kI 1)) X.1) <| tCall (D_8 (X.2 (ix (x3 + (kI 1)))) M) fun v1 M1 => tGd (pIn (x3 + (kI 1)) X.1) <| tCall (D_82 (X.2 (ix (x3 + (kI 1)))) M1) fun v2 M2 => P1 (x3 + kI 6) M2) <| tIf (((X.2 (ix x3)) &&& (kI 31)) = kI 8) (tGd (pIn (x3 + (kI 1)) X.1) <| tCall (D_9 (X.2 (ix (x3 + (kI 1)))) M) fun v1 M1 => tGd (pIn (x3 + (kI 1)) X.1) <| tCall (D_103 (X.2 (ix (x3 + (kI 1)))) M1) fun v2 M2 => P1 (x3 + kI 6) M2) <| tIf (((X.2 (ix x3)) &&& (kI 31)) = kI 9) (tGd (pIn (x3 + (kI 1)) X.1) <| tGd (pIn (x3 + (kI 2)) X.1) <| tGd (pIn (x3 + (kI 3)) X.1) <| tCall (D_10 (X.2 (ix (x3 + (kI 1)))) (X.2 (ix (x3 + (kI 2)))) (X.2 (ix (x3 + (kI 3)))) M) fun v1 M1 => tGd (pIn (x3 + (kI 1)) X.1) <| tGd (pIn (x3 + (kI 2)) X.1) <| tGd (pIn (x3 + (kI 3)) X.1) <| tCall (D_104 (X.2 (ix (x3 + (kI 1)))) (X.2 (ix (x3 + (kI 2)))) (X.2 (ix (x3 + (kI 3)))) M1) fun v2 M2 => P1 (x3 + kI 6) M2) <| tIf (((X.2 (ix x3)) &&& (kI 31)) = kI 10) (tGd (pIn (x3 + (kI 1)) X.1) <| tCall (D_11 (X.2 (ix (x3 + (kI 1)))) M) fun v1 M1 => tGd (pIn (x3 + (kI 1)) X.1) <| tCall (D_106 (X.2 (ix (x3 + (kI 1)))) M1) fun v2 M2 => P1 (x3 + kI 6) M2) <| tIf (((X.2 (ix x3)) &&& (kI 31)) = kI 11) (tGd (pIn (x3 + (kI 1)) X.1) <| tGd (pIn (x3 + (kI 2)) X.1) <| tCall (D_12 (X.2 (ix (x3 + (kI 1)))) (X.2 (ix (x3 + (kI 2)))) M) fun v1 M1 => tGd (pIn (x3 + (kI 1)) X.1) <| tGd (pIn (x3 + (kI 2)) X.1) <| tCall (D_121 (X.2 (ix (x3 + (kI 1)))) (X.2 (ix (x3 + (kI 2)))) M1) fun v2 M2 => P1 (x3 + kI 6) M2) <| tIf (((X.2 (ix x3)) &&& (kI 31)) = kI 12) (tGd (pIn (x3 + (kI 1)) X.1) <| tGd (pIn (x3 + (kI 2)) X.1) <| tCall (D_13 (X.2 (ix (x3 + (kI 1)))) (X.2 (ix (x3 + (kI 2)))) M) fun v1 M1 => tGd (pIn (x3 + (kI 1)) X.1) <| tGd (pIn (x3 + (kI 2)) X.1) <| tCall (D_122 (X.2 (ix (x3 + (kI 1)))) (X.2 (ix (x3 + (kI 2)))) M1) fun v2 M2 => P1 (x3 + kI 6) M2) <| tIf (((X.2 (ix x3)) &&& (kI 31)) = kI 13) (tGd (pIn (x3 + (kI 1)) X.1) <| tGd (pIn (x3 + (kI 2)) X.1) <| tCall (D_14 (X.2 (ix (x3 + (kI 1)))) (X.2 (ix (x3 + (kI 2)))) M) fun v1 M1 => tGd (pIn (x3 + (kI 1)) X.1) <| tGd (pIn (x3 + (kI 2)) X.1) <| tCall (D_123 (X.2 (ix (x3 + (kI 1)))) (X.2 (ix (x3 + (kI 2)))) M1) fun v2 M2 => P1 (x3 + kI 6) M2) <| tIf (((X.2 (ix x3)) &&& (kI 31)) = kI 14) (tGd (pIn (x3 + (kI 1)) X.1) <| tGd (pIn (x3 + (kI 2)) X.1) <| tGd (pIn (x3 + (kI 3)) X.1) <| tCall (D_15 (X.2 (ix (x3 + (kI 1)))) (X.2 (ix (x3 + (kI 2)))) (X.2 (ix (x3 + (kI 3)))) M) fun v1 M1 => tGd (pIn (x3 + (kI 1)) X.1) <| tGd (pIn (x3 + (kI 2)) X.1) <| tGd (pIn (x3 + (kI 3)) X.1) <| tCall (D_126 (X.2 (ix (x3 + (kI 1)))) (X.2 (ix (x3 + (kI 2)))) (X.2 (ix (x3 + (kI 3)))) M1) fun v2 M2 => P1 (x3 + kI 6) M2) <| tIf (((X.2 (ix x3)) &&& (kI 31)) = kI 15) (tGd (pIn (x3 + (kI 1)) X.1) <| tGd (pIn (x3 + (kI 2)) X.1) <| tCall (D_16 (X.2 (ix (x3 + (kI 1)))) (X.2 (ix (x3 + (kI 2)))) M) fun v1 M1 => tGd (pIn (x3 + (kI 1)) X.1) <| tGd (pIn (x3 + (kI 2)) X.1) <| tCall (D_128 (X.2 (ix (x3 + (kI 1)))) (X.2 (ix (x3 + (kI 2)))) M1) fun v2 M2 => P1 (x3 + kI 6) M2) <| tIf (((X.2 (ix x3)) &&& (kI 31)) = kI 16) (tGd (pIn (x3 + (kI 1)) X.1) <| tGd (pIn (x3 + (kI 2)) X.1) <| tGd (pIn (x3 + (kI 3)) X.1) <| tIf ((X.2 (ix (x3 + (kI 3)))) = 0) (tGd (pIn (x3 + (kI 4)) X.1) <| tCall (D_17 (X.2 (ix (x3 + (kI 1)))) (X.2 (ix (x3 + (kI 2)))) (kI 0) (X.2 (ix (x3 + (kI 4)))) M) fun v1 M1 => tGd (pIn (x3 + (kI 1)) X.1) <| tGd (pIn (x3 + (kI 2)) X.1) <| tGd (pIn (x3 + (kI 3)) X.1) <| tIf ((X.2 (ix (x3 + (kI 3)))) = 0) (tGd (pIn (x3 + (kI 4)) X.1) <| tCall (D_110 (X.2 (ix (x3 + (kI 1)))) (X.2 (ix (x3 + (kI 2)))) (kI 0) (X.2 (ix (x3 + (kI 4)))) M1) fun v2 M2 => P1 (x3 + kI 6) M2) (tGd (pIn (x3 + (kI 4)) X.1) <| tCall (D_110 (X.2 (ix (x3 + (kI 1)))) (X.2 (ix (x3 + (kI 2)))) (kI 1) (X.2 (ix (x3 + (kI 4)))) M1) fun v2 M2 => P1 (x3 + kI 6) M2)) (tGd (pIn (x3 + (kI 4)) X.1) <| tCall (D_17 (X.2 (ix (x3 + (kI 1)))) (X.2 (ix (x3 + (kI 2)))) (kI 1) (X.2 (ix (x3 + (kI 4)))) M) fun v1 M1 => tGd (pIn (x3 + (kI 1)) X.1) <| tGd (pIn (x3 + (kI 2)) X.1) <| tGd (pIn (x3 + (kI 3)) X.1) <| tIf ((X.2 (ix (x3 + (kI 3)))) = 0) (tGd (pIn (x3 + (kI 4)) X.1) <| tCall (D_110 (X.2 (ix (x3 + (kI 1)))) (X.2 (ix (x3 + (kI 2)))) (kI 0) (X.2 (ix (x3 + (kI 4)))) M1) fun v2 M2 => P1 (x3 + kI 6) M2) (tGd (pIn (x3 + (kI 4)) X.1) <| tCall (D_110 (X.2 (ix (x3 + (kI 1)))) (X.2 (ix (x3 + (kI 2)))) (kI 1) (X.2 (ix (x3 + (kI 4)))) M1) fun v2 M2 => P1 (x3 + kI 6) M2))) <| tIf (((X.2 (ix x3)) &&& (kI 31)) = kI 17) (tGd (pIn (x3 + (kI 1)) X.1) <| tGd (pIn (x3 + (kI 2)) X.1) <| tCall (D_18 (X.2 (ix (x3 + (kI 1)))) (X.2 (ix (x3 + (kI 2)))) M) fun v1 M1 => tGd (pIn (x3 + (kI 1)) X.1) <| tGd (pIn (x3 + (kI 2)) X.1) <| tCall (D_111 (X.2 (ix (x3 + (kI 1)))) (X.2 (ix (x3 + (kI 2)))) M1) fun v2 M2 => P1 (x3 + kI 6) M2) <| tIf (((X.2 (ix x3)) &&& (kI 31)) = kI 18) (tGd (pIn (x3 + (kI 1)) X.1) <| tCall (D_19 (X.2 (ix (x3 + (kI 1)))) M) fun v1 M1 => tGd (pIn (x3 + (kI 1)) X.1) <| tCall (D_112 (X.2 (ix (x3 + (kI 1)))) M1) fun v2 M2 => P1 (x3 + kI 6) M2) <| tIf (((X.2 (ix x3)) &&& (kI 31)) = kI 19) (tGd (pIn (x3 + (kI 1)) X.1) <| tCall (D_20 (X.2 (ix (x3 + (kI 1)))) M) fun v1 M1 => tGd (pIn (x3 + (kI 1)) X.1) <| tCall (D_113 (X.2 (ix (x3 + (kI 1)))) M1) fun v2 M2 => P1 (x3 + kI 6) M2) <| tIf (((X.2 (ix x3)) &&& (kI 31)) = kI 20) (tGd (pIn (x3 + (kI 1)) X.1) <| tGd (pIn (x3 + (kI 2)) X.1) <| tGd (pIn (x3 + (kI 3)) X.1) <| tCall (D_21 (X.2 (ix (x3 + (kI 1)))) (X.2 (ix (x3 + (kI 2)))) (X.2 (ix (x3 + (kI 3)))) M) fun v1 M1 => tGd (pIn (x3 + (kI 1)) X.1) <| tGd (pIn (x3 + (kI 2)) X.1) <| tGd (pIn (x3 + (kI 3)) X.1) <| tCall (D_116 (X.2 (ix (x3 + (kI 1)))) (X.2 (ix (x3 + (kI 2)))) (X.2 (ix (x3 + (kI 3)))) M1) fun v2 M2 => P1 (x3 + kI 6) M2) <| tIf (((X.2 (ix x3)) &&& (kI 31)) = kI 21) (tGd (pIn (x3 + (kI 1)) X.1) <| tGd (pIn (x3 + (kI 2)) X.1) <| tCall (D_22 (X.2 (ix (x3 + (kI 1)))) (X.2 (ix (x3 + (kI 2)))) M) fun v1 M1 => tGd (pIn (x3 + (kI 1)) X.1) <| tGd (pIn (x3 + (kI 2)) X.1) <| tCall (D_117 (X.2 (ix (x3 + (kI 1)))) (X.2 (ix (x3 + (kI 2)))) M1) fun v2 M2 => P1 (x3 + kI 6) M2) <| tIf (((X.2 (ix x3)) &&& (kI 31)) = kI 22) (tGd (pIn (x3 + (kI 1)) X.1) <| tGd (pIn (x3 + (kI 2)) X.1) <| tCall (D_23 (X.2 (ix (x3 + (kI 1)))) (X.2 (ix (x3 + (kI 2)))) M) fun v1 M1 => tGd (pIn (x3 + (kI 1)) X.1) <| tGd (pIn (x3 + (kI 2)) X.1) <| tCall (D_119 (X.2 (ix (x3 + (kI 1)))) (X.2 (ix (x3 + (kI 2)))) M1) fun v2 M2 => P1 (x3 + kI 6) M2) <| tIf (((X.2 (ix x3)) &&& (kI 31)) = kI 23) (tGd (pIn (x3 + (kI 1)) X.1) <| tCall (D_24 (X.2 (ix (x3 + (kI 1)))) M) fun v1 M1 => tGd (pIn (x3 + (kI 1)) X.1) <| tCall (D_120 (X.2 (ix (x3 + (kI 1)))) M1) fun v2 M2 => P1 (x3 + kI 6) M2) <| tIf (((X.2 (ix x3)) &&& (kI 31)) = kI 24) (tGd (pIn (x3 + (kI 1)) X.1) <| tGd (pIn (x3 + (kI 2)) X.1) <| tCall (D_25 (X.2 (ix (x3 + (kI 1)))) (X.2 (ix (x3 + (kI 2)))) M) fun v1 M1 => tGd (pIn (x3 + (kI 1)) X.1) <| tGd (pIn (x3 + (kI 2)) X.1) <| tCall (D_52 (X.2 (ix (x3 + (kI 1)))) (X.2 (ix (x3 + (kI 2)))) M1) fun v2 M2 => P1 (x3 + kI 6) M2) <| tIf (((X.2 (ix x3)) &&& (kI 31)) = kI 25) (tGd (pIn (x3 + (kI 1)) X.1) <| tCall (D_26 (X.2 (ix (x3 + (kI 1)))) M) fun v1 M1 => tGd (pIn (x3 + (kI 1)) X.1) <| tCall (D_130 (X.2 (ix (x3 + (kI 1)))) M1) fun v2 M2 => P1 (x3 + kI 6) M2) <| tIf (((X.2 (ix x3)) &&& (kI 31)) = kI 26) (tGd (pIn (x3 + (kI 1)) X.1) <| tGd (pIn (x3 + (kI 2)) X.1) <| tCall (D_27 (X.2 (ix (x3 + (kI 1)))) (X.2 (ix (x3 + (kI 2)))) M) fun v1 M1 => tGd (pIn (x3 + (kI 1)) X.1) <| tGd (pIn (x3 + (kI 2)) X.1) <| tCall (D_131 (X.2 (ix (x3 + (kI 1)))) (X.2 (ix (x3 + (kI 2)))) M1) fun v2 M2 => P1 (x3 + kI 6) M2) <| tIf (((X.2 (ix x3)) &&& (kI 31)) = kI 27) (tGd (pIn (x3 + (kI 1)) X.1) <| tIf ((X.2 (ix (x3 + (kI 1)))) = 0) (tCall (D_28 (kI 0) M) fun v1 M1 => tGd (pIn (x3 + (kI 1)) X.1) <| tIf ((X.2 (ix (x3 + (kI 1)))) = 0) (tCall (D_135 (kI 0) M1) fun v2 M2 => P1 (x3 + kI 6) M2) (tCall (D_135 (kI 1) M1) fun v2 M2 => P1 (x3 + kI 6) M2)) (tCall (D_28 (kI 1) M) fun v1 M1 => tGd (pIn (x3 + (kI 1)) X.1) <| tIf ((X.2 (ix (x3 + (kI 1)))) = 0) (tCall (D_135 (kI 0) M1) fun v2 M2 => P1 (x3 + kI 6) M2) (tCall (D_135 (kI 1) M1) fun v2 M2 => P1 (x3 + kI 6) M2))) <| tIf (((X.2 (ix x3)) &&& (kI 31)) = kI 28) (tGd (pIn (x3 + (kI 1)) X.1) <| tCall (D_29 (X.2 (ix (x3 + (kI 1)))) M) fun v1 M1 => tGd (pIn (x3 + (kI 1)) X.1) <| tCall (D_136 (X.2 (ix (x3 + (kI 1)))) M1) fun v2 M2 => tIf (v1 = v2) (P1 (x3 + kI 6) M2) (tRet (kI 0) M2)) <| P1 (x3 + kI 6) M)
theorem K_241 {X : aX} {F d : Nat} {K : Nat → aK} (hS : pS K) {out : Option Value × aH} (P1 : Int32 → pMem → pT Int32) (hC : ∀ x3 M v N, S_241_1 X P1 x3 M v N → P1 x3 M v N) : ∀ f x3 M, pm X F d 241 f 1 [.iload 3, .aload 0, .arraylength, .bipush 6, .isub, .if_icmp .gt 52] [.ref 90000, .ref 0, .ref 188, .int x3] [] (pH K M) out → pG eI K out (P1 x3 M) := by
  intro f
  induction f using Nat.strongRecOn with
  | _ f ih =>
    intro x3 M H
    refine pG_mono (fun v N h => hC x3 M v N h) ?_
    unfold S_241_1
    replace H := pRun (ls' := [.ref 90000, .ref 0, .ref 188, .int x3]) (st' := [.ref 90000, .int x3]) 2 rfl H
    replace H := pXln H
    replace H := pRun (ls' := [.ref 90000, .ref 0, .ref 188, .int x3]) (st' := [.int ((Int32.ofNat X.1) - (kI 6)), .int x3]) 2 rfl H
    rcases pIfc (n1 := 52) rfl (mcb_241 rfl) (mcb_241 rfl) H with ⟨g1, g0, _, H⟩ | ⟨g1, g0, _, H⟩
    · refine pG_pos (c := ((Int32.ofNat X.1) - (kI 6)) < x3) g1 ?_
      replace H := pRun (ls' := [.ref 90000, .ref 0, .ref 188, .int x3]) (st' := [.int (kI 1)]) 1 rfl H
      exact pG_ret (pRetI H)
    · refine pG_neg (c := ((Int32.ofNat X.1) - (kI 6)) < x3) g1 ?_
      replace H := pRun (ls' := [.ref 90000, .ref 0, .ref 188, .int x3]) (st' := [.int x3, .ref 90000]) 2 rfl H
      obtain ⟨g2, H⟩ := pXld H
      refine pG_gd g2 ?_
      replace H := pRun (ls' := [.ref 90000, .ref 0, .ref 188, .int x3]) (st' := [.int ((X.2 (ix x3)) &&& (kI 31))]) 2 rfl H
      by_cases g3 : ((X.2 (ix x3)) &&& (kI 31)) = kI 0
      · refine pG_pos g3 ?_
        obtain ⟨g0, _, H⟩ := pTsC g3 (by decide) (n1 := 3) rfl (mcb_241 rfl) H
        replace H := pRun (ls' := [.ref 90000, .ref 0, .ref 188, .int x3]) (st' := [.int (x3 + (kI 1)), .ref 90000, .ref 0]) 5 rfl H
        obtain ⟨g4, H⟩ := pXld H
        refine pG_gd g4 ?_
        replace H := pRun (ls' := [.ref 90000, .ref 0, .ref 188, .int x3]) (st' := [.int (x3 + (kI 2)), .ref 90000, .int (X.2 (ix (x3 + (kI 1)))), .ref 0]) 4 rfl H
        obtain ⟨g5, H⟩ := pXld H
        refine pG_gd g5 ?_
        obtain ⟨rv, h1, hc, H⟩ := pCalV 1 2 0 (as := [.int (X.2 (ix (x3 + (kI 1)))), .int (X.2 (ix (x3 + (kI 2))))]) (rest := []) rfl (by decide) (by decide +kernel) rfl rfl H
        obtain ⟨v1, M1, hD, H⟩ := pUseI (D_1_ok hS hc) H
        refine pG_call (x := v1) (M1 := M1) hD ?_
        replace H := pRun (ls' := [.ref 90000, .ref 0, .ref 188, .int x3]) (st' := [.int (x3 + (kI 1)), .ref 90000, .ref 188]) 6 rfl H
        obtain ⟨g6, H⟩ := pXld H
        refine pG_gd g6 ?_
        replace H := pRun (ls' := [.ref 90000, .ref 0, .ref 188, .int x3]) (st' := [.int (x3 + (kI 2)), .ref 90000, .int (X.2 (ix (x3 + (kI 1)))), .ref 188]) 4 rfl H
        obtain ⟨g7, H⟩ := pXld H
        refine pG_gd g7 ?_
        obtain ⟨rv, h1, hc, H⟩ := pCalV 47 2 188 (as := [.int (X.2 (ix (x3 + (kI 1)))), .int (X.2 (ix (x3 + (kI 2))))]) (rest := []) rfl (by decide) (by decide +kernel) rfl rfl H
        obtain ⟨v2, M2, hD, H⟩ := pUseI (D_47_ok hS hc) H
        refine pG_call (x := v2) (M1 := M2) hD ?_
        replace H := pRun (ls' := [.ref 90000, .ref 0, .ref 188, .int x3]) (st' := []) 1 rfl H
        obtain ⟨g0, _, H⟩ := pGo (n1 := 51) rfl (mcb_241 rfl) H
        replace H := pRun (ls' := [.ref 90000, .ref 0, .ref 188, .int (x3 + kI 6)]) (st' := []) 1 rfl H
        obtain ⟨g0, _, H⟩ := pGo (n1 := 1) rfl (mcb_241 rfl) H
        exact ih _ (by omega) _ _ H
      refine pG_neg g3 ?_
      by_cases g4 : ((X.2 (ix x3)) &&& (kI 31)) = kI 1
      · refine pG_pos g4 ?_
        obtain ⟨g0, _, H⟩ := pTsC g4 (by decide) (n1 := 4) rfl (mcb_241 rfl) H
        replace H := pRun (ls' := [.ref 90000, .ref 0, .ref 188, .int x3]) (st' := [.int (x3 + (kI 1)), .ref 90000, .ref 0]) 5 rfl H
        obtain ⟨g5, H⟩ := pXld H
        refine pG_gd g5 ?_
        replace H := pRun (ls' := [.ref 90000, .ref 0, .ref 188, .int x3]) (st' := [.int (x3 + (kI 2)), .ref 90000, .int (X.2 (ix (x3 + (kI 1)))), .ref 0]) 4 rfl H
        obtain ⟨g6, H⟩ := pXld H
        refine pG_gd g6 ?_
        replace H := pRun (ls' := [.ref 90000, .ref 0, .ref 188, .int x3]) (st' := [.int (x3 + (kI 3)), .ref 90000, .int (X.2 (ix (x3 + (kI 2)))), .int (X.2 (ix (x3 + (kI 1)))), .ref 0]) 4 rfl H
        obtain ⟨g7, H⟩ := pXld H
        refine pG_gd g7 ?_
        obtain ⟨rv, h1, hc, H⟩ := pCalV 2 3 0 (as := [.int (X.2 (ix (x3 + (kI 1)))), .int (X.2 (ix (x3 + (kI 2)))), .int (X.2 (ix (x3 + (kI 3))))]) (rest := []) rfl (by decide) (by decide +kernel) rfl rfl H
        obtain ⟨v1, M1, hD, H⟩ := pUseI (D_2_ok hS hc) H
        refine pG_call (x := v1) (M1 := M1) hD ?_
        replace H := pRun (ls' := [.ref 90000, .ref 0, .ref 188, .int x3]) (st' := [.int (x3 + (kI 1)), .ref 90000, .ref 188]) 6 rfl H
        obtain ⟨g8, H⟩ := pXld H
        refine pG_gd g8 ?_
        replace H := pRun (ls' := [.ref 90000, .ref 0, .ref 188, .int x3]) (st' := [.int (x3 + (kI 2)), .ref 90000, .int (X.2 (ix (x3 + (kI 1)))), .ref 188]) 4 rfl H
        obtain ⟨g9, H⟩ := pXld H
        refine pG_gd g9 ?_
        replace H := pRun (ls' := [.ref 90000, .ref 0, .ref 188, .int x3]) (st' := [.int (x3 + (kI 3)), .ref 90000, .int (X.2 (ix (x3 + (kI 2)))), .int (X.2 (ix (x3 + (kI 1)))), .ref 188]) 4 rfl H
        obtain ⟨g10, H⟩ := pXld H
        refine pG_gd g10 ?_
        obtain ⟨rv, h1, hc, H⟩ := pCalV 48 3 188 (as := [.int (X.2 (ix (x3 + (kI 1)))), .int (X.2 (ix (x3 + (kI 2)))), .int (X.2 (ix (x3 + (kI 3))))]) (rest := []) rfl (by decide) (by decide +kernel) rfl rfl H
        obtain ⟨v2, M2, hD, H⟩ := pUseI (D_48_ok hS hc) H
        refine pG_call (x := v2) (M1 := M2) hD ?_
        replace H := pRun (ls' := [.ref 90000, .ref 0, .ref 188, .int x3]) (st' := []) 1 rfl H
        obtain ⟨g0, _, H⟩ := pGo (n1 := 51) rfl (mcb_241 rfl) H
        replace H := pRun (ls' := [.ref 90000, .ref 0, .ref 188, .int (x3 + kI 6)]) (st' := []) 1 rfl H
        obtain ⟨g0, _, H⟩ := pGo (n1 := 1) rfl (mcb_241 rfl) H
        exact ih _ (by omega) _ _ H
      refine pG_neg g4 ?_
      by_cases g5 : ((X.2 (ix x3)) &&& (kI 31)) = kI 2
      · refine pG_pos g5 ?_
        obtain ⟨g0, _, H⟩ := pTsC g5 (by decide) (n1 := 5) rfl (mcb_241 rfl) H
        replace H := pRun (ls' := [.ref 90000, .ref 0, .ref 188, .int x3]) (st' := [.int (x3 + (kI 1)), .ref 90000, .ref 0]) 5 rfl H
        obtain ⟨g6, H⟩ := pXld H
        refine pG_gd g6 ?_
        replace H := pRun (ls' := [.ref 90000, .ref 0, .ref 188, .int x3]) (st' := [.int (x3 + (kI 2)), .ref 90000, .int (X.2 (ix (x3 + (kI 1)))), .ref 0]) 4 rfl H
        obtain ⟨g7, H⟩ := pXld H
        refine pG_gd g7 ?_
        replace H := pRun (ls' := [.ref 90000, .ref 0, .ref 188, .int x3]) (st' := [.int (x3 + (kI 3)), .ref 90000, .int (X.2 (ix (x3 + (kI 2)))), .int (X.2 (ix (x3 + (kI 1)))), .ref 0]) 4 rfl H
        obtain ⟨g8, H⟩ := pXld H
        refine pG_gd g8 ?_
        rcases pIf0 (n1 := 7) rfl (mcb_241 rfl) (mcb_241 rfl) H with ⟨g9, g0, _, H⟩ | ⟨g9, g0, _, H⟩
        · refine pG_pos (c := (X.2 (ix (x3 + (kI 3)))) = 0) g9 ?_
          replace H := pRun (ls' := [.ref 90000, .ref 0, .ref 188, .int x3]) (st' := [.int (kI 0), .int (X.2 (ix (x3 + (kI 2)))), .int (X.2 (ix (x3 + (kI 1)))), .ref 0]) 1 rfl H
          obtain ⟨g0, _, H⟩ := pFall (mcb_241 rfl) H
          obtain ⟨rv, h1, hc, H⟩ := pCalV 3 3 0 (as := [.int (X.2 (ix (x3 + (kI 1)))), .int (X.2 (ix (x3 + (kI 2)))), .int (kI 0)]) (rest := []) rfl (by decide) (by decide +kernel) rfl rfl H
          obtain ⟨v1, M1, hD, H⟩ := pUseI (D_3_ok hS hc) H
          refine pG_call (x := v1) (M1 := M1) hD ?_
          replace H := pRun (ls' := [.ref 90000, .ref 0, .ref 188, .int x3]) (st' := [.int (x3 + (kI 1)), .ref 90000, .ref 188]) 6 rfl H
          obtain ⟨g10, H⟩ := pXld H
          refine pG_gd g10 ?_
          replace H := pRun (ls' := [.ref 90000, .ref 0, .ref 188, .int x3]) (st' := [.int (x3 + (kI 2)), .ref 90000, .int (X.2 (ix (x3 + (kI 1)))), .ref 188]) 4 rfl H
          obtain ⟨g11, H⟩ := pXld H
          refine pG_gd g11 ?_
          replace H := pRun (ls' := [.ref 90000, .ref 0, .ref 188, .int x3]) (st' := [.int (x3 + (kI 3)), .ref 90000, .int (X.2 (ix (x3 + (kI 2)))), .int (X.2 (ix (x3 + (kI 1)))), .ref 188]) 4 rfl H
          obtain ⟨g12, H⟩ := pXld H
          refine pG_gd g12 ?_
          rcases pIf0 (n1 := 10) rfl (mcb_241 rfl) (mcb_241 rfl) H with ⟨g13, g0, _, H⟩ | ⟨g13, g0, _, H⟩
          · refine pG_pos (c := (X.2 (ix (x3 + (kI 3)))) = 0) g13 ?_
            replace H := pRun (ls' := [.ref 90000, .ref 0, .ref 188, .int x3]) (st' := [.int (kI 0), .int (X.2 (ix (x3 + (kI 2)))), .int (X.2 (ix (x3 + (kI 1)))), .ref 188]) 1 rfl H
            obtain ⟨g0, _, H⟩ := pFall (mcb_241 rfl) H
            obtain ⟨rv, h1, hc, H⟩ := pCalV 49 3 188 (as := [.int (X.2 (ix (x3 + (kI 1)))), .int (X.2 (ix (x3 + (kI 2)))), .int (kI 0)]) (rest := []) rfl (by decide) (by decide +kernel) rfl rfl H
            obtain ⟨v2, M2, hD, H⟩ := pUseI (D_49_ok hS hc) H
            refine pG_call (x := v2) (M1 := M2) hD ?_
            replace H := pRun (ls' := [.ref 90000, .ref 0, .ref 188, .int x3]) (st' := []) 1 rfl H
            obtain ⟨g0, _, H⟩ := pGo (n1 := 51) rfl (mcb_241 rfl) H
            replace H := pRun (ls' := [.ref 90000, .ref 0, .ref 188, .int (x3 + kI 6)]) (st' := []) 1 rfl H
            obtain ⟨g0, _, H⟩ := pGo (n1 := 1) rfl (mcb_241 rfl) H
            exact ih _ (by omega) _ _ H
          · refine pG_neg (c := (X.2 (ix (x3 + (kI 3)))) = 0) g13 ?_
            replace H := pRun (ls' := [.ref 90000, .ref 0, .ref 188, .int x3]) (st' := [.int (kI 1), .int (X.2 (ix (x3 + (kI 2)))), .int (X.2 (ix (x3 + (kI 1)))), .ref 188]) 1 rfl H
            obtain ⟨g0, _, H⟩ := pGo (n1 := 11) rfl (mcb_241 rfl) H
            obtain ⟨rv, h1, hc, H⟩ := pCalV 49 3 188 (as := [.int (X.2 (ix (x3 + (kI 1)))), .int (X.2 (ix (x3 + (kI 2)))), .int (kI 1)]) (rest := []) rfl (by decide) (by decide +kernel) rfl rfl H
            obtain ⟨v2, M2, hD, H⟩ := pUseI (D_49_ok hS hc) H
            refine pG_call (x := v2) (M1 := M2) hD ?_
            replace H := pRun (ls' := [.ref 90000, .ref 0, .ref 188, .int x3]) (st' := []) 1 rfl H
            obtain ⟨g0, _, H⟩ := pGo (n1 := 51) rfl (mcb_241 rfl) H
            replace H := pRun (ls' := [.ref 90000, .ref 0, .ref 188, .int (x3 + kI 6)]) (st' := []) 1 rfl H
            obtain ⟨g0, _, H⟩ := pGo (n1 := 1) rfl (mcb_241 rfl) H
            exact ih _ (by omega) _ _ H
        · refine pG_neg (c := (X.2 (ix (x3 + (kI 3)))) = 0) g9 ?_
          replace H := pRun (ls' := [.ref 90000, .ref 0, .ref 188, .int x3]) (st' := [.int (kI 1), .int (X.2 (ix (x3 + (kI 2)))), .int (X.2 (ix (x3 + (kI 1)))), .ref 0]) 1 rfl H
          obtain ⟨g0, _, H⟩ := pGo (n1 := 8) rfl (mcb_241 rfl) H
          obtain ⟨rv, h1, hc, H⟩ := pCalV 3 3 0 (as := [.int (X.2 (ix (x3 + (kI 1)))), .int (X.2 (ix (x3 + (kI 2)))), .int (kI 1)]) (rest := []) rfl (by decide) (by decide +kernel) rfl rfl H
          obtain ⟨v1, M1, hD, H⟩ := pUseI (D_3_ok hS hc) H
          refine pG_call (x := v1) (M1 := M1) hD ?_
          replace H := pRun (ls' := [.ref 90000, .ref 0, .ref 188, .int x3]) (st' := [.int (x3 + (kI 1)), .ref 90000, .ref 188]) 6 rfl H
          obtain ⟨g10, H⟩ := pXld H
          refine pG_gd g10 ?_
          replace H := pRun (ls' := [.ref 90000, .ref 0, .ref 188, .int x3]) (st' := [.int (x3 + (kI 2)), .ref 90000, .int (X.2 (ix (x3 + (kI 1)))), .ref 188]) 4 rfl H
          obtain ⟨g11, H⟩ := pXld H
          refine pG_gd g11 ?_
          replace H := pRun (ls' := [.ref 90000, .ref 0, .ref 188, .int x3]) (st' := [.int (x3 + (kI 3)), .ref 90000, .int (X.2 (ix (x3 + (kI 2)))), .int (X.2 (ix (x3 + (kI 1)))), .ref 188]) 4 rfl H
          obtain ⟨g12, H⟩ := pXld H
          refine pG_gd g12 ?_
          rcases pIf0 (n1 := 10) rfl (mcb_241 rfl) (mcb_241 rfl) H with ⟨g13, g0, _, H⟩ | ⟨g13, g0, _, H⟩
          · refine pG_pos (c := (X.2 (ix (x3 + (kI 3)))) = 0) g13 ?_
            replace H := pRun (ls' := [.ref 90000, .ref 0, .ref 188, .int x3]) (st' := [.int (kI 0), .int (X.2 (ix (x3 + (kI 2)))), .int (X.2 (ix (x3 + (kI 1)))), .ref 188]) 1 rfl H
            obtain ⟨g0, _, H⟩ := pFall (mcb_241 rfl) H
            obtain ⟨rv, h1, hc, H⟩ := pCalV 49 3 188 (as := [.int (X.2 (ix (x3 + (kI 1)))), .int (X.2 (ix (x3 + (kI 2)))), .int (kI 0)]) (rest := []) rfl (by decide) (by decide +kernel) rfl rfl H
            obtain ⟨v2, M2, hD, H⟩ := pUseI (D_49_ok hS hc) H
            refine pG_call (x := v2) (M1 := M2) hD ?_
            replace H := pRun (ls' := [.ref 90000, .ref 0, .ref 188, .int x3]) (st' := []) 1 rfl H
            obtain ⟨g0, _, H⟩ := pGo (n1 := 51) rfl (mcb_241 rfl) H
            replace H := pRun (ls' := [.ref 90000, .ref 0, .ref 188, .int (x3 + kI 6)]) (st' := []) 1 rfl H
            obtain ⟨g0, _, H⟩ := pGo (n1 := 1) rfl (mcb_241 rfl) H
            exact ih _ (by omega) _ _ H
          · refine pG_neg (c := (X.2 (ix (x3 + (kI 3)))) = 0) g13 ?_
            replace H := pRun (ls' := [.ref 90000, .ref 0, .ref 188, .int x3]) (st' := [.int (kI 1), .int (X.2 (ix (x3 + (kI 2)))), .int (X.2 (ix (x3 + (kI 1)))), .ref 188]) 1 rfl H
            obtain ⟨g0, _, H⟩ := pGo (n1 := 11) rfl (mcb_241 rfl) H
            obtain ⟨rv, h1, hc, H⟩ := pCalV 49 3 188 (as := [.int (X.2 (ix (x3 + (kI 1)))), .int (X.2 (ix (x3 + (kI 2)))), .int (kI 1)]) (rest := []) rfl (by decide) (by decide +kernel) rfl rfl H
            obtain ⟨v2, M2, hD, H⟩ := pUseI (D_49_ok hS hc) H
            refine pG_call (x := v2) (M1 := M2) hD ?_
            replace H := pRun (ls' := [.ref 90000, .ref 0, .ref 188, .int x3]) (st' := []) 1 rfl H
            obtain ⟨g0, _, H⟩ := pGo (n1 := 51) rfl (mcb_241 rfl) H
            replace H := pRun (ls' := [.ref 90000, .ref 0, .ref 188, .int (x3 + kI 6)]) (st' := []) 1 rfl H
            obtain ⟨g0, _, H⟩ := pGo (n1 := 1) rfl (mcb_241 rfl) H
            exact ih _ (by omega) _ _ H
      refine pG_neg g5 ?_
      by_cases g6 : ((X.2 (ix x3)) &&& (kI 31)) = kI 3
      · refine pG_pos g6 ?_
        obtain ⟨g0, _, H⟩ := pTsC g6 (by decide) (n1 := 12) rfl (mcb_241 rfl) H
        replace H := pRun (ls' := [.ref 90000, .ref 0, .ref 188, .int x3]) (st' := [.int (x3 + (kI 1)), .ref 90000, .ref 0]) 5 rfl H
        obtain ⟨g7, H⟩ := pXld H
        refine pG_gd g7 ?_
        obtain ⟨rv, h1, hc, H⟩ := pCalV 4 1 0 (as := [.int (X.2 (ix (x3 + (kI 1))))]) (rest := []) rfl (by decide) (by decide +kernel) rfl rfl H
        obtain ⟨v1, M1, hD, H⟩ := pUseI (D_4_ok hS hc) H
        refine pG_call (x := v1) (M1 := M1) hD ?_
        replace H := pRun (ls' := [.ref 90000, .ref 0, .ref 188, .int x3]) (st' := [.int (x3 + (kI 1)), .ref 90000, .ref 188]) 6 rfl H
        obtain ⟨g8, H⟩ := pXld H
        refine pG_gd g8 ?_
        obtain ⟨rv, h1, hc, H⟩ := pCalV 50 1 188 (as := [.int (X.2 (ix (x3 + (kI 1))))]) (rest := []) rfl (by decide) (by decide +kernel) rfl rfl H
        obtain ⟨v2, M2, hD, H⟩ := pUseI (D_50_ok hS hc) H
        refine pG_call (x := v2) (M1 := M2) hD ?_
        replace H := pRun (ls' := [.ref 90000, .ref 0, .ref 188, .int x3]) (st' := []) 1 rfl H
        obtain ⟨g0, _, H⟩ := pGo (n1 := 51) rfl (mcb_241 rfl) H
        replace H := pRun (ls' := [.ref 90000, .ref 0, .ref 188, .int (x3 + kI 6)]) (st' := []) 1 rfl H
        obtain ⟨g0, _, H⟩ := pGo (n1 := 1) rfl (mcb_241 rfl) H
        exact ih _ (by omega) _ _ H
      refine pG_neg g6 ?_
      by_cases g7 : ((X.2 (ix x3)) &&& (kI 31)) = kI 4
      · refine pG_pos g7 ?_
        obtain ⟨g0, _, H⟩ := pTsC g7 (by decide) (n1 := 13) rfl (mcb_241 rfl) H
        replace H := pRun (ls' := [.ref 90000, .ref 0, .ref 188, .int x3]) (st' := [.int (x3 + (kI 1)), .ref 90000, .ref 0]) 5 rfl H
        obtain ⟨g8, H⟩ := pXld H
        refine pG_gd g8 ?_
        replace H := pRun (ls' := [.ref 90000, .ref 0, .ref 188, .int x3]) (st' := [.int (x3 + (kI 2)), .ref 90000, .int (X.2 (ix (x3 + (kI 1)))), .ref 0]) 4 rfl H
        obtain ⟨g9, H⟩ := pXld H
        refine pG_gd g9 ?_
        replace H := pRun (ls' := [.ref 90000, .ref 0, .ref 188, .int x3]) (st' := [.int (x3 + (kI 3)), .ref 90000, .int (X.2 (ix (x3 + (kI 2)))), .int (X.2 (ix (x3 + (kI 1)))), .ref 0]) 4 rfl H
        obtain ⟨g10, H⟩ := pXld H
        refine pG_gd g10 ?_
        replace H := pRun (ls' := [.ref 90000, .ref 0, .ref 188, .int x3]) (st' := [.int (x3 + (kI 4)), .ref 90000, .int (X.2 (ix (x3 + (kI 3)))), .int (X.2 (ix (x3 + (kI 2)))), .int (X.2 (ix (x3 + (kI 1)))), .ref 0]) 4 rfl H
        obtain ⟨g11, H⟩ := pXld H
        refine pG_gd g11 ?_
        replace H := pRun (ls' := [.ref 90000, .ref 0, .ref 188, .int x3]) (st' := [.int (x3 + (kI 5)), .ref 90000, .int (X.2 (ix (x3 + (kI 4)))), .int (X.2 (ix (x3 + (kI 3)))), .int (X.2 (ix (x3 + (kI 2)))), .int (X.2 (ix (x3 + (kI 1)))), .ref 0]) 4 rfl H
        obtain ⟨g12, H⟩ := pXld H
        refine pG_gd g12 ?_
        obtain ⟨rv, h1, hc, H⟩ := pCalV 5 5 0 (as := [.int (X.2 (ix (x3 + (kI 1)))), .int (X.2 (ix (x3 + (kI 2)))), .int (X.2 (ix (x3 + (kI 3)))), .int (X.2 (ix (x3 + (kI 4)))), .int (X.2 (ix (x3 + (kI 5))))]) (rest := []) rfl (by decide) (by decide +kernel) rfl rfl H
        obtain ⟨v1, M1, hD, H⟩ := pUseI (D_5_ok hS hc) H
        refine pG_call (x := v1) (M1 := M1) hD ?_
        replace H := pRun (ls' := [.ref 90000, .ref 0, .ref 188, .int x3]) (st' := [.int (x3 + (kI 1)), .ref 90000, .ref 188]) 6 rfl H
        obtain ⟨g13, H⟩ := pXld H
        refine pG_gd g13 ?_
        replace H := pRun (ls' := [.ref 90000, .ref 0, .ref 188, .int x3]) (st' := [.int (x3 + (kI 2)), .ref 90000, .int (X.2 (ix (x3 + (kI 1)))), .ref 188]) 4 rfl H
        obtain ⟨g14, H⟩ := pXld H
        refine pG_gd g14 ?_
        replace H := pRun (ls' := [.ref 90000, .ref 0, .ref 188, .int x3]) (st' := [.int (x3 + (kI 3)), .ref 90000, .int (X.2 (ix (x3 + (kI 2)))), .int (X.2 (ix (x3 + (kI 1)))), .ref 188]) 4 rfl H
        obtain ⟨g15, H⟩ := pXld H
        refine pG_gd g15 ?_
        replace H := pRun (ls' := [.ref 90000, .ref 0, .ref 188, .int x3]) (st' := [.int (x3 + (kI 4)), .ref 90000, .int (X.2 (ix (x3 + (kI 3)))), .int (X.2 (ix (x3 + (kI 2)))), .int (X.2 (ix (x3 + (kI 1)))), .ref 188]) 4 rfl H
        obtain ⟨g16, H⟩ := pXld H
        refine pG_gd g16 ?_
        replace H := pRun (ls' := [.ref 90000, .ref 0, .ref 188, .int x3]) (st' := [.int (x3 + (kI 5)), .ref 90000, .int (X.2 (ix (x3 + (kI 4)))), .int (X.2 (ix (x3 + (kI 3)))), .int (X.2 (ix (x3 + (kI 2)))), .int (X.2 (ix (x3 + (kI 1)))), .ref 188]) 4 rfl H
        obtain ⟨g17, H⟩ := pXld H
        refine pG_gd g17 ?_
        obtain ⟨rv, h1, hc, H⟩ := pCalV 58 5 188 (as := [.int (X.2 (ix (x3 + (kI 1)))), .int (X.2 (ix (x3 + (kI 2)))), .int (X.2 (ix (x3 + (kI 3)))), .int (X.2 (ix (x3 + (kI 4)))), .int (X.2 (ix (x3 + (kI 5))))]) (rest := []) rfl (by decide) (by decide +kernel) rfl rfl H
        obtain ⟨v2, M2, hD, H⟩ := pUseI (D_58_ok hS hc) H
        refine pG_call (x := v2) (M1 := M2) hD ?_
        replace H := pRun (ls' := [.ref 90000, .ref 0, .ref 188, .int x3]) (st' := []) 1 rfl H
        obtain ⟨g0, _, H⟩ := pGo (n1 := 51) rfl (mcb_241 rfl) H
        replace H := pRun (ls' := [.ref 90000, .ref 0, .ref 188, .int (x3 + kI 6)]) (st' := []) 1 rfl H
        obtain ⟨g0, _, H⟩ := pGo (n1 := 1) rfl (mcb_241 rfl) H
        exact ih _ (by omega) _ _ H
      refine pG_neg g7 ?_
      by_cases g8 : ((X.2 (ix x3)) &&& (kI 31)) = kI 5
      · refine pG_pos g8 ?_
        obtain ⟨g0, _, H⟩ := pTsC g8 (by decide) (n1 := 14) rfl (mcb_241 rfl) H
        replace H := pRun (ls' := [.ref 90000, .ref 0, .ref 188, .int x3]) (st' := [.int (x3 + (kI 1)), .ref 90000, .ref 0]) 5 rfl H
        obtain ⟨g9, H⟩ := pXld H
        refine pG_gd g9 ?_
        obtain ⟨rv, h1, hc, H⟩ := pCalV 6 1 0 (as := [.int (X.2 (ix (x3 + (kI 1))))]) (rest := []) rfl (by decide) (by decide +kernel) rfl rfl H
        obtain ⟨v1, M1, hD, H⟩ := pUseI (D_6_ok hS hc) H
        refine pG_call (x := v1) (M1 := M1) hD ?_
        replace H := pRun (ls' := [.ref 90000, .ref 0, .ref 188, .int x3]) (st' := [.int (x3 + (kI 1)), .ref 90000, .ref 188]) 6 rfl H
        obtain ⟨g10, H⟩ := pXld H
        refine pG_gd g10 ?_
        obtain ⟨rv, h1, hc, H⟩ := pCalV 59 1 188 (as := [.int (X.2 (ix (x3 + (kI 1))))]) (rest := []) rfl (by decide) (by decide +kernel) rfl rfl H
        obtain ⟨v2, M2, hD, H⟩ := pUseI (D_59_ok hS hc) H
        refine pG_call (x := v2) (M1 := M2) hD ?_
        replace H := pRun (ls' := [.ref 90000, .ref 0, .ref 188, .int x3]) (st' := []) 1 rfl H
        obtain ⟨g0, _, H⟩ := pGo (n1 := 51) rfl (mcb_241 rfl) H
        replace H := pRun (ls' := [.ref 90000, .ref 0, .ref 188, .int (x3 + kI 6)]) (st' := []) 1 rfl H
        obtain ⟨g0, _, H⟩ := pGo (n1 := 1) rfl (mcb_241 rfl) H
        exact ih _ (by omega) _ _ H
      refine pG_neg g8 ?_
      by_cases g9 : ((X.2 (ix x3)) &&& (kI 31)) = kI 6
      · refine pG_pos g9 ?_
        obtain ⟨g0, _, H⟩ := pTsC g9 (by decide) (n1 := 15) rfl (mcb_241 rfl) H
        replace H := pRun (ls' := [.ref 90000, .ref 0, .ref 188, .int x3]) (st' := [.int (x3 + (kI 1)), .ref 90000, .ref 0]) 5 rfl H
        obtain ⟨g10, H⟩ := pXld H
        refine pG_gd g10 ?_
        replace H := pRun (ls' := [.ref 90000, .ref 0, .ref 188, .int x3]) (st' := [.int (x3 + (kI 2)), .ref 90000, .int (X.2 (ix (x3 + (kI 1)))), .ref 0]) 4 rfl H
        obtain ⟨g11, H⟩ := pXld H
        refine pG_gd g11 ?_
        obtain ⟨rv, h1, hc, H⟩ := pCalV 7 2 0 (as := [.int (X.2 (ix (x3 + (kI 1)))), .int (X.2 (ix (x3 + (kI 2))))]) (rest := []) rfl (by decide) (by decide +kernel) rfl rfl H
        obtain ⟨v1, M1, hD, H⟩ := pUseI (D_7_ok hS hc) H
        refine pG_call (x := v1) (M1 := M1) hD ?_
        replace H := pRun (ls' := [.ref 90000, .ref 0, .ref 188, .int x3]) (st' := [.int (x3 + (kI 1)), .ref 90000, .ref 188]) 6 rfl H
        obtain ⟨g12, H⟩ := pXld H
        refine pG_gd g12 ?_
        replace H := pRun (ls' := [.ref 90000, .ref 0, .ref 188, .int x3]) (st' := [.int (x3 + (kI 2)), .ref 90000, .int (X.2 (ix (x3 + (kI 1)))), .ref 188]) 4 rfl H
        obtain ⟨g13, H⟩ := pXld H
        refine pG_gd g13 ?_
        obtain ⟨rv, h1, hc, H⟩ := pCalV 81 2 188 (as := [.int (X.2 (ix (x3 + (kI 1)))), .int (X.2 (ix (x3 + (kI 2))))]) (rest := []) rfl (by decide) (by decide +kernel) rfl rfl H
        obtain ⟨v2, M2, hD, H⟩ := pUseI (D_81_ok hS hc) H
        refine pG_call (x := v2) (M1 := M2) hD ?_
        replace H := pRun (ls' := [.ref 90000, .ref 0, .ref 188, .int x3]) (st' := []) 1 rfl H
        obtain ⟨g0, _, H⟩ := pGo (n1 := 51) rfl (mcb_241 rfl) H
        replace H := pRun (ls' := [.ref 90000, .ref 0, .ref 188, .int (x3 + kI 6)]) (st' := []) 1 rfl H
        obtain ⟨g0, _, H⟩ := pGo (n1 := 1) rfl (mcb_241 rfl) H
        exact ih _ (by omega) _ _ H
      refine pG_neg g9 ?_
      by_cases g10 : ((X.2 (ix x3)) &&& (kI 31)) = kI 7
      · refine pG_pos g10 ?_
        obtain ⟨g0, _, H⟩ := pTsC g10 (by decide) (n1 := 16) rfl (mcb_241 rfl) H
        replace H := pRun (ls' := [.ref 90000, .ref 0, .ref 188, .int x3]) (st' := [.int (x3 + (kI 1)), .ref 90000, .ref 0]) 5 rfl H
        obtain ⟨g11, H⟩ := pXld H
        refine pG_gd g11 ?_
        obtain ⟨rv, h1, hc, H⟩ := pCalV 8 1 0 (as := [.int (X.2 (ix (x3 + (kI 1))))]) (rest := []) rfl (by decide) (by decide +kernel) rfl rfl H
        obtain ⟨v1, M1, hD, H⟩ := pUseI (D_8_ok hS hc) H
        refine pG_call (x := v1) (M1 := M1) hD ?_
        replace H := pRun (ls' := [.ref 90000, .ref 0, .ref 188, .int x3]) (st' := [.int (x3 + (kI 1)), .ref 90000, .ref 188]) 6 rfl H
        obtain ⟨g12, H⟩ := pXld H
        refine pG_gd g12 ?_
        obtain ⟨rv, h1, hc, H⟩ := pCalV 82 1 188 (as := [.int (X.2 (ix (x3 + (kI 1))))]) (rest := []) rfl (by decide) (by decide +kernel) rfl rfl H
        obtain ⟨v2, M2, hD, H⟩ := pUseI (D_82_ok hS hc) H
        refine pG_call (x := v2) (M1 := M2) hD ?_
        replace H := pRun (ls' := [.ref 90000, .ref 0, .ref 188, .int x3]) (st' := []) 1 rfl H
        obtain ⟨g0, _, H⟩ := pGo (n1 := 51) rfl (mcb_241 rfl) H
        replace H := pRun (ls' := [.ref 90000, .ref 0, .ref 188, .int (x3 + kI 6)]) (st' := []) 1 rfl H
        obtain ⟨g0, _, H⟩ := pGo (n1 := 1) rfl (mcb_241 rfl) H
        exact ih _ (by omega) _ _ H
      refine pG_neg g10 ?_
      by_cases g11 : ((X.2 (ix x3)) &&& (kI 31)) = kI 8
      · refine pG_pos g11 ?_
        obtain ⟨g0, _, H⟩ := pTsC g11 (by decide) (n1 := 17) rfl (mcb_241 rfl) H
        replace H := pRun (ls' := [.ref 90000, .ref 0, .ref 188, .int x3]) (st' := [.int (x3 + (kI 1)), .ref 90000, .ref 0]) 5 rfl H
        obtain ⟨g12, H⟩ := pXld H
        refine pG_gd g12 ?_
        obtain ⟨rv, h1, hc, H⟩ := pCalV 9 1 0 (as := [.int (X.2 (ix (x3 + (kI 1))))]) (rest := []) rfl (by decide) (by decide +kernel) rfl rfl H
        obtain ⟨v1, M1, hD, H⟩ := pUseI (D_9_ok hS hc) H
        refine pG_call (x := v1) (M1 := M1) hD ?_
        replace H := pRun (ls' := [.ref 90000, .ref 0, .ref 188, .int x3]) (st' := [.int (x3 + (kI 1)), .ref 90000, .ref 188]) 6 rfl H
        obtain ⟨g13, H⟩ := pXld H
        refine pG_gd g13 ?_
        obtain ⟨rv, h1, hc, H⟩ := pCalV 103 1 188 (as := [.int (X.2 (ix (x3 + (kI 1))))]) (rest := []) rfl (by decide) (by decide +kernel) rfl rfl H
        obtain ⟨v2, M2, hD, H⟩ := pUseI (D_103_ok hS hc) H
        refine pG_call (x := v2) (M1 := M2) hD ?_
        replace H := pRun (ls' := [.ref 90000, .ref 0, .ref 188, .int x3]) (st' := []) 1 rfl H
        obtain ⟨g0, _, H⟩ := pGo (n1 := 51) rfl (mcb_241 rfl) H
        replace H := pRun (ls' := [.ref 90000, .ref 0, .ref 188, .int (x3 + kI 6)]) (st' := []) 1 rfl H
        obtain ⟨g0, _, H⟩ := pGo (n1 := 1) rfl (mcb_241 rfl) H
        exact ih _ (by omega) _ _ H
      refine pG_neg g11 ?_
      by_cases g12 : ((X.2 (ix x3)) &&& (kI 31)) = kI 9
      · refine pG_pos g12 ?_
        obtain ⟨g0, _, H⟩ := pTsC g12 (by decide) (n1 := 18) rfl (mcb_241 rfl) H
        replace H := pRun (ls' := [.ref 90000, .ref 0, .ref 188, .int x3]) (st' := [.int (x3 + (kI 1)), .ref 90000, .ref 0]) 5 rfl H
        obtain ⟨g13, H⟩ := pXld H
        refine pG_gd g13 ?_
        replace H := pRun (ls' := [.ref 90000, .ref 0, .ref 188, .int x3]) (st' := [.int (x3 + (kI 2)), .ref 90000, .int (X.2 (ix (x3 + (kI 1)))), .ref 0]) 4 rfl H
        obtain ⟨g14, H⟩ := pXld H
        refine pG_gd g14 ?_
        replace H := pRun (ls' := [.ref 90000, .ref 0, .ref 188, .int x3]) (st' := [.int (x3 + (kI 3)), .ref 90000, .int (X.2 (ix (x3 + (kI 2)))), .int (X.2 (ix (x3 + (kI 1)))), .ref 0]) 4 rfl H
        obtain ⟨g15, H⟩ := pXld H
        refine pG_gd g15 ?_
        obtain ⟨rv, h1, hc, H⟩ := pCalV 10 3 0 (as := [.int (X.2 (ix (x3 + (kI 1)))), .int (X.2 (ix (x3 + (kI 2)))), .int (X.2 (ix (x3 + (kI 3))))]) (rest := []) rfl (by decide) (by decide +kernel) rfl rfl H
        obtain ⟨v1, M1, hD, H⟩ := pUseI (D_10_ok hS hc) H
        refine pG_call (x := v1) (M1 := M1) hD ?_
        replace H := pRun (ls' := [.ref 90000, .ref 0, .ref 188, .int x3]) (st' := [.int (x3 + (kI 1)), .ref 90000, .ref 188]) 6 rfl H
        obtain ⟨g16, H⟩ := pXld H
        refine pG_gd g16 ?_
        replace H := pRun (ls' := [.ref 90000, .ref 0, .ref 188, .int x3]) (st' := [.int (x3 + (kI 2)), .ref 90000, .int (X.2 (ix (x3 + (kI 1)))), .ref 188]) 4 rfl H
        obtain ⟨g17, H⟩ := pXld H
        refine pG_gd g17 ?_
        replace H := pRun (ls' := [.ref 90000, .ref 0, .ref 188, .int x3]) (st' := [.int (x3 + (kI 3)), .ref 90000, .int (X.2 (ix (x3 + (kI 2)))), .int (X.2 (ix (x3 + (kI 1)))), .ref 188]) 4 rfl H
        obtain ⟨g18, H⟩ := pXld H
        refine pG_gd g18 ?_
        obtain ⟨rv, h1, hc, H⟩ := pCalV 104 3 188 (as := [.int (X.2 (ix (x3 + (kI 1)))), .int (X.2 (ix (x3 + (kI 2)))), .int (X.2 (ix (x3 + (kI 3))))]) (rest := []) rfl (by decide) (by decide +kernel) rfl rfl H
        obtain ⟨v2, M2, hD, H⟩ := pUseI (D_104_ok hS hc) H
        refine pG_call (x := v2) (M1 := M2) hD ?_
        replace H := pRun (ls' := [.ref 90000, .ref 0, .ref 188, .int x3]) (st' := []) 1 rfl H
        obtain ⟨g0, _, H⟩ := pGo (n1 := 51) rfl (mcb_241 rfl) H
        replace H := pRun (ls' := [.ref 90000, .ref 0, .ref 188, .int (x3 + kI 6)]) (st' := []) 1 rfl H
        obtain ⟨g0, _, H⟩ := pGo (n1 := 1) rfl (mcb_241 rfl) H
        exact ih _ (by omega) _ _ H
      refine pG_neg g12 ?_
      by_cases g13 : ((X.2 (ix x3)) &&& (kI 31)) = kI 10
      · refine pG_pos g13 ?_
        obtain ⟨g0, _, H⟩ := pTsC g13 (by decide) (n1 := 19) rfl (mcb_241 rfl) H
        replace H := pRun (ls' := [.ref 90000, .ref 0, .ref 188, .int x3]) (st' := [.int (x3 + (kI 1)), .ref 90000, .ref 0]) 5 rfl H
        obtain ⟨g14, H⟩ := pXld H
        refine pG_gd g14 ?_
        obtain ⟨rv, h1, hc, H⟩ := pCalV 11 1 0 (as := [.int (X.2 (ix (x3 + (kI 1))))]) (rest := []) rfl (by decide) (by decide +kernel) rfl rfl H
        obtain ⟨v1, M1, hD, H⟩ := pUseI (D_11_ok hS hc) H
        refine pG_call (x := v1) (M1 := M1) hD ?_
        replace H := pRun (ls' := [.ref 90000, .ref 0, .ref 188, .int x3]) (st' := [.int (x3 + (kI 1)), .ref 90000, .ref 188]) 6 rfl H
        obtain ⟨g15, H⟩ := pXld H
        refine pG_gd g15 ?_
        obtain ⟨rv, h1, hc, H⟩ := pCalV 106 1 188 (as := [.int (X.2 (ix (x3 + (kI 1))))]) (rest := []) rfl (by decide) (by decide +kernel) rfl rfl H
        obtain ⟨v2, M2, hD, H⟩ := pUseI (D_106_ok hS hc) H
        refine pG_call (x := v2) (M1 := M2) hD ?_
        replace H := pRun (ls' := [.ref 90000, .ref 0, .ref 188, .int x3]) (st' := []) 1 rfl H
        obtain ⟨g0, _, H⟩ := pGo (n1 := 51) rfl (mcb_241 rfl) H
        replace H := pRun (ls' := [.ref 90000, .ref 0, .ref 188, .int (x3 + kI 6)]) (st' := []) 1 rfl H
        obtain ⟨g0, _, H⟩ := pGo (n1 := 1) rfl (mcb_241 rfl) H
        exact ih _ (by omega) _ _ H
      refine pG_neg g13 ?_
      by_cases g14 : ((X.2 (ix x3)) &&& (kI 31)) = kI 11
      · refine pG_pos g14 ?_
        obtain ⟨g0, _, H⟩ := pTsC g14 (by decide) (n1 := 20) rfl (mcb_241 rfl) H
        replace H := pRun (ls' := [.ref 90000, .ref 0, .ref 188, .int x3]) (st' := [.int (x3 + (kI 1)), .ref 90000, .ref 0]) 5 rfl H
        obtain ⟨g15, H⟩ := pXld H
        refine pG_gd g15 ?_
        replace H := pRun (ls' := [.ref 90000, .ref 0, .ref 188, .int x3]) (st' := [.int (x3 + (kI 2)), .ref 90000, .int (X.2 (ix (x3 + (kI 1)))), .ref 0]) 4 rfl H
        obtain ⟨g16, H⟩ := pXld H
        refine pG_gd g16 ?_
        obtain ⟨rv, h1, hc, H⟩ := pCalV 12 2 0 (as := [.int (X.2 (ix (x3 + (kI 1)))), .int (X.2 (ix (x3 + (kI 2))))]) (rest := []) rfl (by decide) (by decide +kernel) rfl rfl H
        obtain ⟨v1, M1, hD, H⟩ := pUseI (D_12_ok hS hc) H
        refine pG_call (x := v1) (M1 := M1) hD ?_
        replace H := pRun (ls' := [.ref 90000, .ref 0, .ref 188, .int x3]) (st' := [.int (x3 + (kI 1)), .ref 90000, .ref 188]) 6 rfl H
        obtain ⟨g17, H⟩ := pXld H
        refine pG_gd g17 ?_
        replace H := pRun (ls' := [.ref 90000, .ref 0, .ref 188, .int x3]) (st' := [.int (x3 + (kI 2)), .ref 90000, .int (X.2 (ix (x3 + (kI 1)))), .ref 188]) 4 rfl H
        obtain ⟨g18, H⟩ := pXld H
        refine pG_gd g18 ?_
        obtain ⟨rv, h1, hc, H⟩ := pCalV 121 2 188 (as := [.int (X.2 (ix (x3 + (kI 1)))), .int (X.2 (ix (x3 + (kI 2))))]) (rest := []) rfl (by decide) (by decide +kernel) rfl rfl H
        obtain ⟨v2, M2, hD, H⟩ := pUseI (D_121_ok hS hc) H
        refine pG_call (x := v2) (M1 := M2) hD ?_
        replace H := pRun (ls' := [.ref 90000, .ref 0, .ref 188, .int x3]) (st' := []) 1 rfl H
        obtain ⟨g0, _, H⟩ := pGo (n1 := 51) rfl (mcb_241 rfl) H
        replace H := pRun (ls' := [.ref 90000, .ref 0, .ref 188, .int (x3 + kI 6)]) (st' := []) 1 rfl H
        obtain ⟨g0, _, H⟩ := pGo (n1 := 1) rfl (mcb_241 rfl) H
        exact ih _ (by omega) _ _ H
      refine pG_neg g14 ?_
      by_cases g15 : ((X.2 (ix x3)) &&& (kI 31)) = kI 12
      · refine pG_pos g15 ?_
        obtain ⟨g0, _, H⟩ := pTsC g15 (by decide) (n1 := 21) rfl (mcb_241 rfl) H
        replace H := pRun (ls' := [.ref 90000, .ref 0, .ref 188, .int x3]) (st' := [.int (x3 + (kI 1)), .ref 90000, .ref 0]) 5 rfl H
        obtain ⟨g16, H⟩ := pXld H
        refine pG_gd g16 ?_
        replace H := pRun (ls' := [.ref 90000, .ref 0, .ref 188, .int x3]) (st' := [.int (x3 + (kI 2)), .ref 90000, .int (X.2 (ix (x3 + (kI 1)))), .ref 0]) 4 rfl H
        obtain ⟨g17, H⟩ := pXld H
        refine pG_gd g17 ?_
        obtain ⟨rv, h1, hc, H⟩ := pCalV 13 2 0 (as := [.int (X.2 (ix (x3 + (kI 1)))), .int (X.2 (ix (x3 + (kI 2))))]) (rest := []) rfl (by decide) (by decide +kernel) rfl rfl H
        obtain ⟨v1, M1, hD, H⟩ := pUseI (D_13_ok hS hc) H
        refine pG_call (x := v1) (M1 := M1) hD ?_
        replace H := pRun (ls' := [.ref 90000, .ref 0, .ref 188, .int x3]) (st' := [.int (x3 + (kI 1)), .ref 90000, .ref 188]) 6 rfl H
        obtain ⟨g18, H⟩ := pXld H
        refine pG_gd g18 ?_
        replace H := pRun (ls' := [.ref 90000, .ref 0, .ref 188, .int x3]) (st' := [.int (x3 + (kI 2)), .ref 90000, .int (X.2 (ix (x3 + (kI 1)))), .ref 188]) 4 rfl H
        obtain ⟨g19, H⟩ := pXld H
        refine pG_gd g19 ?_
        obtain ⟨rv, h1, hc, H⟩ := pCalV 122 2 188 (as := [.int (X.2 (ix (x3 + (kI 1)))), .int (X.2 (ix (x3 + (kI 2))))]) (rest := []) rfl (by decide) (by decide +kernel) rfl rfl H
        obtain ⟨v2, M2, hD, H⟩ := pUseI (D_122_ok hS hc) H
        refine pG_call (x := v2) (M1 := M2) hD ?_
        replace H := pRun (ls' := [.ref 90000, .ref 0, .ref 188, .int x3]) (st' := []) 1 rfl H
        obtain ⟨g0, _, H⟩ := pGo (n1 := 51) rfl (mcb_241 rfl) H
        replace H := pRun (ls' := [.ref 90000, .ref 0, .ref 188, .int (x3 + kI 6)]) (st' := []) 1 rfl H
        obtain ⟨g0, _, H⟩ := pGo (n1 := 1) rfl (mcb_241 rfl) H
        exact ih _ (by omega) _ _ H
      refine pG_neg g15 ?_
      by_cases g16 : ((X.2 (ix x3)) &&& (kI 31)) = kI 13
      · refine pG_pos g16 ?_
        obtain ⟨g0, _, H⟩ := pTsC g16 (by decide) (n1 := 22) rfl (mcb_241 rfl) H
        replace H := pRun (ls' := [.ref 90000, .ref 0, .ref 188, .int x3]) (st' := [.int (x3 + (kI 1)), .ref 90000, .ref 0]) 5 rfl H
        obtain ⟨g17, H⟩ := pXld H
        refine pG_gd g17 ?_
        replace H := pRun (ls' := [.ref 90000, .ref 0, .ref 188, .int x3]) (st' := [.int (x3 + (kI 2)), .ref 90000, .int (X.2 (ix (x3 + (kI 1)))), .ref 0]) 4 rfl H
        obtain ⟨g18, H⟩ := pXld H
        refine pG_gd g18 ?_
        obtain ⟨rv, h1, hc, H⟩ := pCalV 14 2 0 (as := [.int (X.2 (ix (x3 + (kI 1)))), .int (X.2 (ix (x3 + (kI 2))))]) (rest := []) rfl (by decide) (by decide +kernel) rfl rfl H
        obtain ⟨v1, M1, hD, H⟩ := pUseI (D_14_ok hS hc) H
        refine pG_call (x := v1) (M1 := M1) hD ?_
        replace H := pRun (ls' := [.ref 90000, .ref 0, .ref 188, .int x3]) (st' := [.int (x3 + (kI 1)), .ref 90000, .ref 188]) 6 rfl H
        obtain ⟨g19, H⟩ := pXld H
        refine pG_gd g19 ?_
        replace H := pRun (ls' := [.ref 90000, .ref 0, .ref 188, .int x3]) (st' := [.int (x3 + (kI 2)), .ref 90000, .int (X.2 (ix (x3 + (kI 1)))), .ref 188]) 4 rfl H
        obtain ⟨g20, H⟩ := pXld H
        refine pG_gd g20 ?_
        obtain ⟨rv, h1, hc, H⟩ := pCalV 123 2 188 (as := [.int (X.2 (ix (x3 + (kI 1)))), .int (X.2 (ix (x3 + (kI 2))))]) (rest := []) rfl (by decide) (by decide +kernel) rfl rfl H
        obtain ⟨v2, M2, hD, H⟩ := pUseI (D_123_ok hS hc) H
        refine pG_call (x := v2) (M1 := M2) hD ?_
        replace H := pRun (ls' := [.ref 90000, .ref 0, .ref 188, .int x3]) (st' := []) 1 rfl H
        obtain ⟨g0, _, H⟩ := pGo (n1 := 51) rfl (mcb_241 rfl) H
        replace H := pRun (ls' := [.ref 90000, .ref 0, .ref 188, .int (x3 + kI 6)]) (st' := []) 1 rfl H
        obtain ⟨g0, _, H⟩ := pGo (n1 := 1) rfl (mcb_241 rfl) H
        exact ih _ (by omega) _ _ H
      refine pG_neg g16 ?_
      by_cases g17 : ((X.2 (ix x3)) &&& (kI 31)) = kI 14
      · refine pG_pos g17 ?_
        obtain ⟨g0, _, H⟩ := pTsC g17 (by decide) (n1 := 23) rfl (mcb_241 rfl) H
        replace H := pRun (ls' := [.ref 90000, .ref 0, .ref 188, .int x3]) (st' := [.int (x3 + (kI 1)), .ref 90000, .ref 0]) 5 rfl H
        obtain ⟨g18, H⟩ := pXld H
        refine pG_gd g18 ?_
        replace H := pRun (ls' := [.ref 90000, .ref 0, .ref 188, .int x3]) (st' := [.int (x3 + (kI 2)), .ref 90000, .int (X.2 (ix (x3 + (kI 1)))), .ref 0]) 4 rfl H
        obtain ⟨g19, H⟩ := pXld H
        refine pG_gd g19 ?_
        replace H := pRun (ls' := [.ref 90000, .ref 0, .ref 188, .int x3]) (st' := [.int (x3 + (kI 3)), .ref 90000, .int (X.2 (ix (x3 + (kI 2)))), .int (X.2 (ix (x3 + (kI 1)))), .ref 0]) 4 rfl H
        obtain ⟨g20, H⟩ := pXld H
        refine pG_gd g20 ?_
        obtain ⟨rv, h1, hc, H⟩ := pCalV 15 3 0 (as := [.int (X.2 (ix (x3 + (kI 1)))), .int (X.2 (ix (x3 + (kI 2)))), .int (X.2 (ix (x3 + (kI 3))))]) (rest := []) rfl (by decide) (by decide +kernel) rfl rfl H
        obtain ⟨v1, M1, hD, H⟩ := pUseI (D_15_ok hS hc) H
        refine pG_call (x := v1) (M1 := M1) hD ?_
        replace H := pRun (ls' := [.ref 90000, .ref 0, .ref 188, .int x3]) (st' := [.int (x3 + (kI 1)), .ref 90000, .ref 188]) 6 rfl H
        obtain ⟨g21, H⟩ := pXld H
        refine pG_gd g21 ?_
        replace H := pRun (ls' := [.ref 90000, .ref 0, .ref 188, .int x3]) (st' := [.int (x3 + (kI 2)), .ref 90000, .int (X.2 (ix (x3 + (kI 1)))), .ref 188]) 4 rfl H
        obtain ⟨g22, H⟩ := pXld H
        refine pG_gd g22 ?_
        replace H := pRun (ls' := [.ref 90000, .ref 0, .ref 188, .int x3]) (st' := [.int (x3 + (kI 3)), .ref 90000, .int (X.2 (ix (x3 + (kI 2)))), .int (X.2 (ix (x3 + (kI 1)))), .ref 188]) 4 rfl H
        obtain ⟨g23, H⟩ := pXld H
        refine pG_gd g23 ?_
        obtain ⟨rv, h1, hc, H⟩ := pCalV 126 3 188 (as := [.int (X.2 (ix (x3 + (kI 1)))), .int (X.2 (ix (x3 + (kI 2)))), .int (X.2 (ix (x3 + (kI 3))))]) (rest := []) rfl (by decide) (by decide +kernel) rfl rfl H
        obtain ⟨v2, M2, hD, H⟩ := pUseI (D_126_ok hS hc) H
        refine pG_call (x := v2) (M1 := M2) hD ?_
        replace H := pRun (ls' := [.ref 90000, .ref 0, .ref 188, .int x3]) (st' := []) 1 rfl H
        obtain ⟨g0, _, H⟩ := pGo (n1 := 51) rfl (mcb_241 rfl) H
        replace H := pRun (ls' := [.ref 90000, .ref 0, .ref 188, .int (x3 + kI 6)]) (st' := []) 1 rfl H
        obtain ⟨g0, _, H⟩ := pGo (n1 := 1) rfl (mcb_241 rfl) H
        exact ih _ (by omega) _ _ H
      refine pG_neg g17 ?_
      by_cases g18 : ((X.2 (ix x3)) &&& (kI 31)) = kI 15
      · refine pG_pos g18 ?_
        obtain ⟨g0, _, H⟩ := pTsC g18 (by decide) (n1 := 24) rfl (mcb_241 rfl) H
        replace H := pRun (ls' := [.ref 90000, .ref 0, .ref 188, .int x3]) (st' := [.int (x3 + (kI 1)), .ref 90000, .ref 0]) 5 rfl H
        obtain ⟨g19, H⟩ := pXld H
        refine pG_gd g19 ?_
        replace H := pRun (ls' := [.ref 90000, .ref 0, .ref 188, .int x3]) (st' := [.int (x3 + (kI 2)), .ref 90000, .int (X.2 (ix (x3 + (kI 1)))), .ref 0]) 4 rfl H
        obtain ⟨g20, H⟩ := pXld H
        refine pG_gd g20 ?_
        obtain ⟨rv, h1, hc, H⟩ := pCalV 16 2 0 (as := [.int (X.2 (ix (x3 + (kI 1)))), .int (X.2 (ix (x3 + (kI 2))))]) (rest := []) rfl (by decide) (by decide +kernel) rfl rfl H
        obtain ⟨v1, M1, hD, H⟩ := pUseI (D_16_ok hS hc) H
        refine pG_call (x := v1) (M1 := M1) hD ?_
        replace H := pRun (ls' := [.ref 90000, .ref 0, .ref 188, .int x3]) (st' := [.int (x3 + (kI 1)), .ref 90000, .ref 188]) 6 rfl H
        obtain ⟨g21, H⟩ := pXld H
        refine pG_gd g21 ?_
        replace H := pRun (ls' := [.ref 90000, .ref 0, .ref 188, .int x3]) (st' := [.int (x3 + (kI 2)), .ref 90000, .int (X.2 (ix (x3 + (kI 1)))), .ref 188]) 4 rfl H
        obtain ⟨g22, H⟩ := pXld H
        refine pG_gd g22 ?_
        obtain ⟨rv, h1, hc, H⟩ := pCalV 128 2 188 (as := [.int (X.2 (ix (x3 + (kI 1)))), .int (X.2 (ix (x3 + (kI 2))))]) (rest := []) rfl (by decide) (by decide +kernel) rfl rfl H
        obtain ⟨v2, M2, hD, H⟩ := pUseI (D_128_ok hS hc) H
        refine pG_call (x := v2) (M1 := M2) hD ?_
        replace H := pRun (ls' := [.ref 90000, .ref 0, .ref 188, .int x3]) (st' := []) 1 rfl H
        obtain ⟨g0, _, H⟩ := pGo (n1 := 51) rfl (mcb_241 rfl) H
        replace H := pRun (ls' := [.ref 90000, .ref 0, .ref 188, .int (x3 + kI 6)]) (st' := []) 1 rfl H
        obtain ⟨g0, _, H⟩ := pGo (n1 := 1) rfl (mcb_241 rfl) H
        exact ih _ (by omega) _ _ H
      refine pG_neg g18 ?_
      by_cases g19 : ((X.2 (ix x3)) &&& (kI 31)) = kI 16
      · refine pG_pos g19 ?_
        obtain ⟨g0, _, H⟩ := pTsC g19 (by decide) (n1 := 25) rfl (mcb_241 rfl) H
        replace H := pRun (ls' := [.ref 90000, .ref 0, .ref 188, .int x3]) (st' := [.int (x3 + (kI 1)), .ref 90000, .ref 0]) 5 rfl H
        obtain ⟨g20, H⟩ := pXld H
        refine pG_gd g20 ?_
        replace H := pRun (ls' := [.ref 90000, .ref 0, .ref 188, .int x3]) (st' := [.int (x3 + (kI 2)), .ref 90000, .int (X.2 (ix (x3 + (kI 1)))), .ref 0]) 4 rfl H
        obtain ⟨g21, H⟩ := pXld H
        refine pG_gd g21 ?_
        replace H := pRun (ls' := [.ref 90000, .ref 0, .ref 188, .int x3]) (st' := [.int (x3 + (kI 3)), .ref 90000, .int (X.2 (ix (x3 + (kI 2)))), .int (X.2 (ix (x3 + (kI 1)))), .ref 0]) 4 rfl H
        obtain ⟨g22, H⟩ := pXld H
        refine pG_gd g22 ?_
        rcases pIf0 (n1 := 27) rfl (mcb_241 rfl) (mcb_241 rfl) H with ⟨g23, g0, _, H⟩ | ⟨g23, g0, _, H⟩
        · refine pG_pos (c := (X.2 (ix (x3 + (kI 3)))) = 0) g23 ?_
          replace H := pRun (ls' := [.ref 90000, .ref 0, .ref 188, .int x3]) (st' := [.int (kI 0), .int (X.2 (ix (x3 + (kI 2)))), .int (X.2 (ix (x3 + (kI 1)))), .ref 0]) 1 rfl H
          obtain ⟨g0, _, H⟩ := pFall (mcb_241 rfl) H
          replace H := pRun (ls' := [.ref 90000, .ref 0, .ref 188, .int x3]) (st' := [.int (x3 + (kI 4)), .ref 90000, .int (kI 0), .int (X.2 (ix (x3 + (kI 2)))), .int (X.2 (ix (x3 + (kI 1)))), .ref 0]) 4 rfl H
          obtain ⟨g24, H⟩ := pXld H
          refine pG_gd g24 ?_
          obtain ⟨rv, h1, hc, H⟩ := pCalV 17 4 0 (as := [.int (X.2 (ix (x3 + (kI 1)))), .int (X.2 (ix (x3 + (kI 2)))), .int (kI 0), .int (X.2 (ix (x3 + (kI 4))))]) (rest := []) rfl (by decide) (by decide +kernel) rfl rfl H
          obtain ⟨v1, M1, hD, H⟩ := pUseI (D_17_ok hS hc) H
          refine pG_call (x := v1) (M1 := M1) hD ?_
          replace H := pRun (ls' := [.ref 90000, .ref 0, .ref 188, .int x3]) (st' := [.int (x3 + (kI 1)), .ref 90000, .ref 188]) 6 rfl H
          obtain ⟨g25, H⟩ := pXld H
          refine pG_gd g25 ?_
          replace H := pRun (ls' := [.ref 90000, .ref 0, .ref 188, .int x3]) (st' := [.int (x3 + (kI 2)), .ref 90000, .int (X.2 (ix (x3 + (kI 1)))), .ref 188]) 4 rfl H
          obtain ⟨g26, H⟩ := pXld H
          refine pG_gd g26 ?_
          replace H := pRun (ls' := [.ref 90000, .ref 0, .ref 188, .int x3]) (st' := [.int (x3 + (kI 3)), .ref 90000, .int (X.2 (ix (x3 + (kI 2)))), .int (X.2 (ix (x3 + (kI 1)))), .ref 188]) 4 rfl H
          obtain ⟨g27, H⟩ := pXld H
          refine pG_gd g27 ?_
          rcases pIf0 (n1 := 30) rfl (mcb_241 rfl) (mcb_241 rfl) H with ⟨g28, g0, _, H⟩ | ⟨g28, g0, _, H⟩
          · refine pG_pos (c := (X.2 (ix (x3 + (kI 3)))) = 0) g28 ?_
            replace H := pRun (ls' := [.ref 90000, .ref 0, .ref 188, .int x3]) (st' := [.int (kI 0), .int (X.2 (ix (x3 + (kI 2)))), .int (X.2 (ix (x3 + (kI 1)))), .ref 188]) 1 rfl H
            obtain ⟨g0, _, H⟩ := pFall (mcb_241 rfl) H
            replace H := pRun (ls' := [.ref 90000, .ref 0, .ref 188, .int x3]) (st' := [.int (x3 + (kI 4)), .ref 90000, .int (kI 0), .int (X.2 (ix (x3 + (kI 2)))), .int (X.2 (ix (x3 + (kI 1)))), .ref 188]) 4 rfl H
            obtain ⟨g29, H⟩ := pXld H
            refine pG_gd g29 ?_
            obtain ⟨rv, h1, hc, H⟩ := pCalV 110 4 188 (as := [.int (X.2 (ix (x3 + (kI 1)))), .int (X.2 (ix (x3 + (kI 2)))), .int (kI 0), .int (X.2 (ix (x3 + (kI 4))))]) (rest := []) rfl (by decide) (by decide +kernel) rfl rfl H
            obtain ⟨v2, M2, hD, H⟩ := pUseI (D_110_ok hS hc) H
            refine pG_call (x := v2) (M1 := M2) hD ?_
            replace H := pRun (ls' := [.ref 90000, .ref 0, .ref 188, .int x3]) (st' := []) 1 rfl H
            obtain ⟨g0, _, H⟩ := pGo (n1 := 51) rfl (mcb_241 rfl) H
            replace H := pRun (ls' := [.ref 90000, .ref 0, .ref 188, .int (x3 + kI 6)]) (st' := []) 1 rfl H
            obtain ⟨g0, _, H⟩ := pGo (n1 := 1) rfl (mcb_241 rfl) H
            exact ih _ (by omega) _ _ H
          · refine pG_neg (c := (X.2 (ix (x3 + (kI 3)))) = 0) g28 ?_
            replace H := pRun (ls' := [.ref 90000, .ref 0, .ref 188, .int x3]) (st' := [.int (kI 1), .int (X.2 (ix (x3 + (kI 2)))), .int (X.2 (ix (x3 + (kI 1)))), .ref 188]) 1 rfl H
            obtain ⟨g0, _, H⟩ := pGo (n1 := 31) rfl (mcb_241 rfl) H
            replace H := pRun (ls' := [.ref 90000, .ref 0, .ref 188, .int x3]) (st' := [.int (x3 + (kI 4)), .ref 90000, .int (kI 1), .int (X.2 (ix (x3 + (kI 2)))), .int (X.2 (ix (x3 + (kI 1)))), .ref 188]) 4 rfl H
            obtain ⟨g29, H⟩ := pXld H
            refine pG_gd g29 ?_
            obtain ⟨rv, h1, hc, H⟩ := pCalV 110 4 188 (as := [.int (X.2 (ix (x3 + (kI 1)))), .int (X.2 (ix (x3 + (kI 2)))), .int (kI 1), .int (X.2 (ix (x3 + (kI 4))))]) (rest := []) rfl (by decide) (by decide +kernel) rfl rfl H
            obtain ⟨v2, M2, hD, H⟩ := pUseI (D_110_ok hS hc) H
            refine pG_call (x := v2) (M1 := M2) hD ?_
            replace H := pRun (ls' := [.ref 90000, .ref 0, .ref 188, .int x3]) (st' := []) 1 rfl H
            obtain ⟨g0, _, H⟩ := pGo (n1 := 51) rfl (mcb_241 rfl) H
            replace H := pRun (ls' := [.ref 90000, .ref 0, .ref 188, .int (x3 + kI 6)]) (st' := []) 1 rfl H
            obtain ⟨g0, _, H⟩ := pGo (n1 := 1) rfl (mcb_241 rfl) H
            exact ih _ (by omega) _ _ H
        · refine pG_neg (c := (X.2 (ix (x3 + (kI 3)))) = 0) g23 ?_
          replace H := pRun (ls' := [.ref 90000, .ref 0, .ref 188, .int x3]) (st' := [.int (kI 1), .int (X.2 (ix (x3 + (kI 2)))), .int (X.2 (ix (x3 + (kI 1)))), .ref 0]) 1 rfl H
          obtain ⟨g0, _, H⟩ := pGo (n1 := 28) rfl (mcb_241 rfl) H
          replace H := pRun (ls' := [.ref 90000, .ref 0, .ref 188, .int x3]) (st' := [.int (x3 + (kI 4)), .ref 90000, .int (kI 1), .int (X.2 (ix (x3 + (kI 2)))), .int (X.2 (ix (x3 + (kI 1)))), .ref 0]) 4 rfl H
          obtain ⟨g24, H⟩ := pXld H
          refine pG_gd g24 ?_
          obtain ⟨rv, h1, hc, H⟩ := pCalV 17 4 0 (as := [.int (X.2 (ix (x3 + (kI 1)))), .int (X.2 (ix (x3 + (kI 2)))), .int (kI 1), .int (X.2 (ix (x3 + (kI 4))))]) (rest := []) rfl (by decide) (by decide +kernel) rfl rfl H
          obtain ⟨v1, M1, hD, H⟩ := pUseI (D_17_ok hS hc) H
          refine pG_call (x := v1) (M1 := M1) hD ?_
          replace H := pRun (ls' := [.ref 90000, .ref 0, .ref 188, .int x3]) (st' := [.int (x3 + (kI 1)), .ref 90000, .ref 188]) 6 rfl H
          obtain ⟨g25, H⟩ := pXld H
          refine pG_gd g25 ?_
          replace H := pRun (ls' := [.ref 90000, .ref 0, .ref 188, .int x3]) (st' := [.int (x3 + (kI 2)), .ref 90000, .int (X.2 (ix (x3 + (kI 1)))), .ref 188]) 4 rfl H
          obtain ⟨g26, H⟩ := pXld H
          refine pG_gd g26 ?_
          replace H := pRun (ls' := [.ref 90000, .ref 0, .ref 188, .int x3]) (st' := [.int (x3 + (kI 3)), .ref 90000, .int (X.2 (ix (x3 + (kI 2)))), .int (X.2 (ix (x3 + (kI 1)))), .ref 188]) 4 rfl H
          obtain ⟨g27, H⟩ := pXld H
          refine pG_gd g27 ?_
          rcases pIf0 (n1 := 30) rfl (mcb_241 rfl) (mcb_241 rfl) H with ⟨g28, g0, _, H⟩ | ⟨g28, g0, _, H⟩
          · refine pG_pos (c := (X.2 (ix (x3 + (kI 3)))) = 0) g28 ?_
            replace H := pRun (ls' := [.ref 90000, .ref 0, .ref 188, .int x3]) (st' := [.int (kI 0), .int (X.2 (ix (x3 + (kI 2)))), .int (X.2 (ix (x3 + (kI 1)))), .ref 188]) 1 rfl H
            obtain ⟨g0, _, H⟩ := pFall (mcb_241 rfl) H
            replace H := pRun (ls' := [.ref 90000, .ref 0, .ref 188, .int x3]) (st' := [.int (x3 + (kI 4)), .ref 90000, .int (kI 0), .int (X.2 (ix (x3 + (kI 2)))), .int (X.2 (ix (x3 + (kI 1)))), .ref 188]) 4 rfl H
            obtain ⟨g29, H⟩ := pXld H
            refine pG_gd g29 ?_
            obtain ⟨rv, h1, hc, H⟩ := pCalV 110 4 188 (as := [.int (X.2 (ix (x3 + (kI 1)))), .int (X.2 (ix (x3 + (kI 2)))), .int (kI 0), .int (X.2 (ix (x3 + (kI 4))))]) (rest := []) rfl (by decide) (by decide +kernel) rfl rfl H
            obtain ⟨v2, M2, hD, H⟩ := pUseI (D_110_ok hS hc) H
            refine pG_call (x := v2) (M1 := M2) hD ?_
            replace H := pRun (ls' := [.ref 90000, .ref 0, .ref 188, .int x3]) (st' := []) 1 rfl H
            obtain ⟨g0, _, H⟩ := pGo (n1 := 51) rfl (mcb_241 rfl) H
            replace H := pRun (ls' := [.ref 90000, .ref 0, .ref 188, .int (x3 + kI 6)]) (st' := []) 1 rfl H
            obtain ⟨g0, _, H⟩ := pGo (n1 := 1) rfl (mcb_241 rfl) H
            exact ih _ (by omega) _ _ H
          · refine pG_neg (c := (X.2 (ix (x3 + (kI 3)))) = 0) g28 ?_
            replace H := pRun (ls' := [.ref 90000, .ref 0, .ref 188, .int x3]) (st' := [.int (kI 1), .int (X.2 (ix (x3 + (kI 2)))), .int (X.2 (ix (x3 + (kI 1)))), .ref 188]) 1 rfl H
            obtain ⟨g0, _, H⟩ := pGo (n1 := 31) rfl (mcb_241 rfl) H
            replace H := pRun (ls' := [.ref 90000, .ref 0, .ref 188, .int x3]) (st' := [.int (x3 + (kI 4)), .ref 90000, .int (kI 1), .int (X.2 (ix (x3 + (kI 2)))), .int (X.2 (ix (x3 + (kI 1)))), .ref 188]) 4 rfl H
            obtain ⟨g29, H⟩ := pXld H
            refine pG_gd g29 ?_
            obtain ⟨rv, h1, hc, H⟩ := pCalV 110 4 188 (as := [.int (X.2 (ix (x3 + (kI 1)))), .int (X.2 (ix (x3 + (kI 2)))), .int (kI 1), .int (X.2 (ix (x3 + (kI 4))))]) (rest := []) rfl (by decide) (by decide +kernel) rfl rfl H
            obtain ⟨v2, M2, hD, H⟩ := pUseI (D_110_ok hS hc) H
            refine pG_call (x := v2) (M1 := M2) hD ?_
            replace H := pRun (ls' := [.ref 90000, .ref 0, .ref 188, .int x3]) (st' := []) 1 rfl H
            obtain ⟨g0, _, H⟩ := pGo (n1 := 51) rfl (mcb_241 rfl) H
            replace H := pRun (ls' := [.ref 90000, .ref 0, .ref 188, .int (x3 + kI 6)]) (st' := []) 1 rfl H
            obtain ⟨g0, _, H⟩ := pGo (n1 := 1) rfl (mcb_241 rfl) H
            exact ih _ (by omega) _ _ H
      refine pG_neg g19 ?_
      by_cases g20 : ((X.2 (ix x3)) &&& (kI 31)) = kI 17
      · refine pG_pos g20 ?_
        obtain ⟨g0, _, H⟩ := pTsC g20 (by decide) (n1 := 32) rfl (mcb_241 rfl) H
        replace H := pRun (ls' := [.ref 90000, .ref 0, .ref 188, .int x3]) (st' := [.int (x3 + (kI 1)), .ref 90000, .ref 0]) 5 rfl H
        obtain ⟨g21, H⟩ := pXld H
        refine pG_gd g21 ?_
        replace H := pRun (ls' := [.ref 90000, .ref 0, .ref 188, .int x3]) (st' := [.int (x3 + (kI 2)), .ref 90000, .int (X.2 (ix (x3 + (kI 1)))), .ref 0]) 4 rfl H
        obtain ⟨g22, H⟩ := pXld H
        refine pG_gd g22 ?_
        obtain ⟨rv, h1, hc, H⟩ := pCalV 18 2 0 (as := [.int (X.2 (ix (x3 + (kI 1)))), .int (X.2 (ix (x3 + (kI 2))))]) (rest := []) rfl (by decide) (by decide +kernel) rfl rfl H
        obtain ⟨v1, M1, hD, H⟩ := pUseI (D_18_ok hS hc) H
        refine pG_call (x := v1) (M1 := M1) hD ?_
        replace H := pRun (ls' := [.ref 90000, .ref 0, .ref 188, .int x3]) (st' := [.int (x3 + (kI 1)), .ref 90000, .ref 188]) 6 rfl H
        obtain ⟨g23, H⟩ := pXld H
        refine pG_gd g23 ?_
        replace H := pRun (ls' := [.ref 90000, .ref 0, .ref 188, .int x3]) (st' := [.int (x3 + (kI 2)), .ref 90000, .int (X.2 (ix (x3 + (kI 1)))), .ref 188]) 4 rfl H
        obtain ⟨g24, H⟩ := pXld H
        refine pG_gd g24 ?_
        obtain ⟨rv, h1, hc, H⟩ := pCalV 111 2 188 (as := [.int (X.2 (ix (x3 + (kI 1)))), .int (X.2 (ix (x3 + (kI 2))))]) (rest := []) rfl (by decide) (by decide +kernel) rfl rfl H
        obtain ⟨v2, M2, hD, H⟩ := pUseI (D_111_ok hS hc) H
        refine pG_call (x := v2) (M1 := M2) hD ?_
        replace H := pRun (ls' := [.ref 90000, .ref 0, .ref 188, .int x3]) (st' := []) 1 rfl H
        obtain ⟨g0, _, H⟩ := pGo (n1 := 51) rfl (mcb_241 rfl) H
        replace H := pRun (ls' := [.ref 90000, .ref 0, .ref 188, .int (x3 + kI 6)]) (st' := []) 1 rfl H
        obtain ⟨g0, _, H⟩ := pGo (n1 := 1) rfl (mcb_241 rfl) H
        exact ih _ (by omega) _ _ H
      refine pG_neg g20 ?_
      by_cases g21 : ((X.2 (ix x3)) &&& (kI 31)) = kI 18
      · refine pG_pos g21 ?_
        obtain ⟨g0, _, H⟩ := pTsC g21 (by decide) (n1 := 33) rfl (mcb_241 rfl) H
        replace H := pRun (ls' := [.ref 90000, .ref 0, .ref 188, .int x3]) (st' := [.int (x3 + (kI 1)), .ref 90000, .ref 0]) 5 rfl H
        obtain ⟨g22, H⟩ := pXld H
        refine pG_gd g22 ?_
        obtain ⟨rv, h1, hc, H⟩ := pCalV 19 1 0 (as := [.int (X.2 (ix (x3 + (kI 1))))]) (rest := []) rfl (by decide) (by decide +kernel) rfl rfl H
        obtain ⟨v1, M1, hD, H⟩ := pUseI (D_19_ok hS hc) H
        refine pG_call (x := v1) (M1 := M1) hD ?_
        replace H := pRun (ls' := [.ref 90000, .ref 0, .ref 188, .int x3]) (st' := [.int (x3 + (kI 1)), .ref 90000, .ref 188]) 6 rfl H
        obtain ⟨g23, H⟩ := pXld H
        refine pG_gd g23 ?_
        obtain ⟨rv, h1, hc, H⟩ := pCalV 112 1 188 (as := [.int (X.2 (ix (x3 + (kI 1))))]) (rest := []) rfl (by decide) (by decide +kernel) rfl rfl H
        obtain ⟨v2, M2, hD, H⟩ := pUseI (D_112_ok hS hc) H
        refine pG_call (x := v2) (M1 := M2) hD ?_
        replace H := pRun (ls' := [.ref 90000, .ref 0, .ref 188, .int x3]) (st' := []) 1 rfl H
        obtain ⟨g0, _, H⟩ := pGo (n1 := 51) rfl (mcb_241 rfl) H
        replace H := pRun (ls' := [.ref 90000, .ref 0, .ref 188, .int (x3 + kI 6)]) (st' := []) 1 rfl H
        obtain ⟨g0, _, H⟩ := pGo (n1 := 1) rfl (mcb_241 rfl) H
        exact ih _ (by omega) _ _ H
      refine pG_neg g21 ?_
      by_cases g22 : ((X.2 (ix x3)) &&& (kI 31)) = kI 19
      · refine pG_pos g22 ?_
        obtain ⟨g0, _, H⟩ := pTsC g22 (by decide) (n1 := 34) rfl (mcb_241 rfl) H
        replace H := pRun (ls' := [.ref 90000, .ref 0, .ref 188, .int x3]) (st' := [.int (x3 + (kI 1)), .ref 90000, .ref 0]) 5 rfl H
        obtain ⟨g23, H⟩ := pXld H
        refine pG_gd g23 ?_
        obtain ⟨rv, h1, hc, H⟩ := pCalV 20 1 0 (as := [.int (X.2 (ix (x3 + (kI 1))))]) (rest := []) rfl (by decide) (by decide +kernel) rfl rfl H
        obtain ⟨v1, M1, hD, H⟩ := pUseI (D_20_ok hS hc) H
        refine pG_call (x := v1) (M1 := M1) hD ?_
        replace H := pRun (ls' := [.ref 90000, .ref 0, .ref 188, .int x3]) (st' := [.int (x3 + (kI 1)), .ref 90000, .ref 188]) 6 rfl H
        obtain ⟨g24, H⟩ := pXld H
        refine pG_gd g24 ?_
        obtain ⟨rv, h1, hc, H⟩ := pCalV 113 1 188 (as := [.int (X.2 (ix (x3 + (kI 1))))]) (rest := []) rfl (by decide) (by decide +kernel) rfl rfl H
        obtain ⟨v2, M2, hD, H⟩ := pUseI (D_113_ok hS hc) H
        refine pG_call (x := v2) (M1 := M2) hD ?_
        replace H := pRun (ls' := [.ref 90000, .ref 0, .ref 188, .int x3]) (st' := []) 1 rfl H
        obtain ⟨g0, _, H⟩ := pGo (n1 := 51) rfl (mcb_241 rfl) H
        replace H := pRun (ls' := [.ref 90000, .ref 0, .ref 188, .int (x3 + kI 6)]) (st' := []) 1 rfl H
        obtain ⟨g0, _, H⟩ := pGo (n1 := 1) rfl (mcb_241 rfl) H
        exact ih _ (by omega) _ _ H
      refine pG_neg g22 ?_
      by_cases g23 : ((X.2 (ix x3)) &&& (kI 31)) = kI 20
      · refine pG_pos g23 ?_
        obtain ⟨g0, _, H⟩ := pTsC g23 (by decide) (n1 := 35) rfl (mcb_241 rfl) H
        replace H := pRun (ls' := [.ref 90000, .ref 0, .ref 188, .int x3]) (st' := [.int (x3 + (kI 1)), .ref 90000, .ref 0]) 5 rfl H
        obtain ⟨g24, H⟩ := pXld H
        refine pG_gd g24 ?_
        replace H := pRun (ls' := [.ref 90000, .ref 0, .ref 188, .int x3]) (st' := [.int (x3 + (kI 2)), .ref 90000, .int (X.2 (ix (x3 + (kI 1)))), .ref 0]) 4 rfl H
        obtain ⟨g25, H⟩ := pXld H
        refine pG_gd g25 ?_
        replace H := pRun (ls' := [.ref 90000, .ref 0, .ref 188, .int x3]) (st' := [.int (x3 + (kI 3)), .ref 90000, .int (X.2 (ix (x3 + (kI 2)))), .int (X.2 (ix (x3 + (kI 1)))), .ref 0]) 4 rfl H
        obtain ⟨g26, H⟩ := pXld H
        refine pG_gd g26 ?_
        obtain ⟨rv, h1, hc, H⟩ := pCalV 21 3 0 (as := [.int (X.2 (ix (x3 + (kI 1)))), .int (X.2 (ix (x3 + (kI 2)))), .int (X.2 (ix (x3 + (kI 3))))]) (rest := []) rfl (by decide) (by decide +kernel) rfl rfl H
        obtain ⟨v1, M1, hD, H⟩ := pUseI (D_21_ok hS hc) H
        refine pG_call (x := v1) (M1 := M1) hD ?_
        replace H := pRun (ls' := [.ref 90000, .ref 0, .ref 188, .int x3]) (st' := [.int (x3 + (kI 1)), .ref 90000, .ref 188]) 6 rfl H
        obtain ⟨g27, H⟩ := pXld H
        refine pG_gd g27 ?_
        replace H := pRun (ls' := [.ref 90000, .ref 0, .ref 188, .int x3]) (st' := [.int (x3 + (kI 2)), .ref 90000, .int (X.2 (ix (x3 + (kI 1)))), .ref 188]) 4 rfl H
        obtain ⟨g28, H⟩ := pXld H
        refine pG_gd g28 ?_
        replace H := pRun (ls' := [.ref 90000, .ref 0, .ref 188, .int x3]) (st' := [.int (x3 + (kI 3)), .ref 90000, .int (X.2 (ix (x3 + (kI 2)))), .int (X.2 (ix (x3 + (kI 1)))), .ref 188]) 4 rfl H
        obtain ⟨g29, H⟩ := pXld H
        refine pG_gd g29 ?_
        obtain ⟨rv, h1, hc, H⟩ := pCalV 116 3 188 (as := [.int (X.2 (ix (x3 + (kI 1)))), .int (X.2 (ix (x3 + (kI 2)))), .int (X.2 (ix (x3 + (kI 3))))]) (rest := []) rfl (by decide) (by decide +kernel) rfl rfl H
        obtain ⟨v2, M2, hD, H⟩ := pUseI (D_116_ok hS hc) H
        refine pG_call (x := v2) (M1 := M2) hD ?_
        replace H := pRun (ls' := [.ref 90000, .ref 0, .ref 188, .int x3]) (st' := []) 1 rfl H
        obtain ⟨g0, _, H⟩ := pGo (n1 := 51) rfl (mcb_241 rfl) H
        replace H := pRun (ls' := [.ref 90000, .ref 0, .ref 188, .int (x3 + kI 6)]) (st' := []) 1 rfl H
        obtain ⟨g0, _, H⟩ := pGo (n1 := 1) rfl (mcb_241 rfl) H
        exact ih _ (by omega) _ _ H
      refine pG_neg g23 ?_
      by_cases g24 : ((X.2 (ix x3)) &&& (kI 31)) = kI 21
      · refine pG_pos g24 ?_
        obtain ⟨g0, _, H⟩ := pTsC g24 (by decide) (n1 := 36) rfl (mcb_241 rfl) H
        replace H := pRun (ls' := [.ref 90000, .ref 0, .ref 188, .int x3]) (st' := [.int (x3 + (kI 1)), .ref 90000, .ref 0]) 5 rfl H
        obtain ⟨g25, H⟩ := pXld H
        refine pG_gd g25 ?_
        replace H := pRun (ls' := [.ref 90000, .ref 0, .ref 188, .int x3]) (st' := [.int (x3 + (kI 2)), .ref 90000, .int (X.2 (ix (x3 + (kI 1)))), .ref 0]) 4 rfl H
        obtain ⟨g26, H⟩ := pXld H
        refine pG_gd g26 ?_
        obtain ⟨rv, h1, hc, H⟩ := pCalV 22 2 0 (as := [.int (X.2 (ix (x3 + (kI 1)))), .int (X.2 (ix (x3 + (kI 2))))]) (rest := []) rfl (by decide) (by decide +kernel) rfl rfl H
        obtain ⟨v1, M1, hD, H⟩ := pUseI (D_22_ok hS hc) H
        refine pG_call (x := v1) (M1 := M1) hD ?_
        replace H := pRun (ls' := [.ref 90000, .ref 0, .ref 188, .int x3]) (st' := [.int (x3 + (kI 1)), .ref 90000, .ref 188]) 6 rfl H
        obtain ⟨g27, H⟩ := pXld H
        refine pG_gd g27 ?_
        replace H := pRun (ls' := [.ref 90000, .ref 0, .ref 188, .int x3]) (st' := [.int (x3 + (kI 2)), .ref 90000, .int (X.2 (ix (x3 + (kI 1)))), .ref 188]) 4 rfl H
        obtain ⟨g28, H⟩ := pXld H
        refine pG_gd g28 ?_
        obtain ⟨rv, h1, hc, H⟩ := pCalV 117 2 188 (as := [.int (X.2 (ix (x3 + (kI 1)))), .int (X.2 (ix (x3 + (kI 2))))]) (rest := []) rfl (by decide) (by decide +kernel) rfl rfl H
        obtain ⟨v2, M2, hD, H⟩ := pUseI (D_117_ok hS hc) H
        refine pG_call (x := v2) (M1 := M2) hD ?_
        replace H := pRun (ls' := [.ref 90000, .ref 0, .ref 188, .int x3]) (st' := []) 1 rfl H
        obtain ⟨g0, _, H⟩ := pGo (n1 := 51) rfl (mcb_241 rfl) H
        replace H := pRun (ls' := [.ref 90000, .ref 0, .ref 188, .int (x3 + kI 6)]) (st' := []) 1 rfl H
        obtain ⟨g0, _, H⟩ := pGo (n1 := 1) rfl (mcb_241 rfl) H
        exact ih _ (by omega) _ _ H
      refine pG_neg g24 ?_
      by_cases g25 : ((X.2 (ix x3)) &&& (kI 31)) = kI 22
      · refine pG_pos g25 ?_
        obtain ⟨g0, _, H⟩ := pTsC g25 (by decide) (n1 := 37) rfl (mcb_241 rfl) H
        replace H := pRun (ls' := [.ref 90000, .ref 0, .ref 188, .int x3]) (st' := [.int (x3 + (kI 1)), .ref 90000, .ref 0]) 5 rfl H
        obtain ⟨g26, H⟩ := pXld H
        refine pG_gd g26 ?_
        replace H := pRun (ls' := [.ref 90000, .ref 0, .ref 188, .int x3]) (st' := [.int (x3 + (kI 2)), .ref 90000, .int (X.2 (ix (x3 + (kI 1)))), .ref 0]) 4 rfl H
        obtain ⟨g27, H⟩ := pXld H
        refine pG_gd g27 ?_
        obtain ⟨rv, h1, hc, H⟩ := pCalV 23 2 0 (as := [.int (X.2 (ix (x3 + (kI 1)))), .int (X.2 (ix (x3 + (kI 2))))]) (rest := []) rfl (by decide) (by decide +kernel) rfl rfl H
        obtain ⟨v1, M1, hD, H⟩ := pUseI (D_23_ok hS hc) H
        refine pG_call (x := v1) (M1 := M1) hD ?_
        replace H := pRun (ls' := [.ref 90000, .ref 0, .ref 188, .int x3]) (st' := [.int (x3 + (kI 1)), .ref 90000, .ref 188]) 6 rfl H
        obtain ⟨g28, H⟩ := pXld H
        refine pG_gd g28 ?_
        replace H := pRun (ls' := [.ref 90000, .ref 0, .ref 188, .int x3]) (st' := [.int (x3 + (kI 2)), .ref 90000, .int (X.2 (ix (x3 + (kI 1)))), .ref 188]) 4 rfl H
        obtain ⟨g29, H⟩ := pXld H
        refine pG_gd g29 ?_
        obtain ⟨rv, h1, hc, H⟩ := pCalV 119 2 188 (as := [.int (X.2 (ix (x3 + (kI 1)))), .int (X.2 (ix (x3 + (kI 2))))]) (rest := []) rfl (by decide) (by decide +kernel) rfl rfl H
        obtain ⟨v2, M2, hD, H⟩ := pUseI (D_119_ok hS hc) H
        refine pG_call (x := v2) (M1 := M2) hD ?_
        replace H := pRun (ls' := [.ref 90000, .ref 0, .ref 188, .int x3]) (st' := []) 1 rfl H
        obtain ⟨g0, _, H⟩ := pGo (n1 := 51) rfl (mcb_241 rfl) H
        replace H := pRun (ls' := [.ref 90000, .ref 0, .ref 188, .int (x3 + kI 6)]) (st' := []) 1 rfl H
        obtain ⟨g0, _, H⟩ := pGo (n1 := 1) rfl (mcb_241 rfl) H
        exact ih _ (by omega) _ _ H
      refine pG_neg g25 ?_
      by_cases g26 : ((X.2 (ix x3)) &&& (kI 31)) = kI 23
      · refine pG_pos g26 ?_
        obtain ⟨g0, _, H⟩ := pTsC g26 (by decide) (n1 := 38) rfl (mcb_241 rfl) H
        replace H := pRun (ls' := [.ref 90000, .ref 0, .ref 188, .int x3]) (st' := [.int (x3 + (kI 1)), .ref 90000, .ref 0]) 5 rfl H
        obtain ⟨g27, H⟩ := pXld H
        refine pG_gd g27 ?_
        obtain ⟨rv, h1, hc, H⟩ := pCalV 24 1 0 (as := [.int (X.2 (ix (x3 + (kI 1))))]) (rest := []) rfl (by decide) (by decide +kernel) rfl rfl H
        obtain ⟨v1, M1, hD, H⟩ := pUseI (D_24_ok hS hc) H
        refine pG_call (x := v1) (M1 := M1) hD ?_
        replace H := pRun (ls' := [.ref 90000, .ref 0, .ref 188, .int x3]) (st' := [.int (x3 + (kI 1)), .ref 90000, .ref 188]) 6 rfl H
        obtain ⟨g28, H⟩ := pXld H
        refine pG_gd g28 ?_
        obtain ⟨rv, h1, hc, H⟩ := pCalV 120 1 188 (as := [.int (X.2 (ix (x3 + (kI 1))))]) (rest := []) rfl (by decide) (by decide +kernel) rfl rfl H
        obtain ⟨v2, M2, hD, H⟩ := pUseI (D_120_ok hS hc) H
        refine pG_call (x := v2) (M1 := M2) hD ?_
        replace H := pRun (ls' := [.ref 90000, .ref 0, .ref 188, .int x3]) (st' := []) 1 rfl H
        obtain ⟨g0, _, H⟩ := pGo (n1 := 51) rfl (mcb_241 rfl) H
        replace H := pRun (ls' := [.ref 90000, .ref 0, .ref 188, .int (x3 + kI 6)]) (st' := []) 1 rfl H
        obtain ⟨g0, _, H⟩ := pGo (n1 := 1) rfl (mcb_241 rfl) H
        exact ih _ (by omega) _ _ H
      refine pG_neg g26 ?_
      by_cases g27 : ((X.2 (ix x3)) &&& (kI 31)) = kI 24
      · refine pG_pos g27 ?_
        obtain ⟨g0, _, H⟩ := pTsC g27 (by decide) (n1 := 39) rfl (mcb_241 rfl) H
        replace H := pRun (ls' := [.ref 90000, .ref 0, .ref 188, .int x3]) (st' := [.int (x3 + (kI 1)), .ref 90000, .ref 0]) 5 rfl H
        obtain ⟨g28, H⟩ := pXld H
        refine pG_gd g28 ?_
        replace H := pRun (ls' := [.ref 90000, .ref 0, .ref 188, .int x3]) (st' := [.int (x3 + (kI 2)), .ref 90000, .int (X.2 (ix (x3 + (kI 1)))), .ref 0]) 4 rfl H
        obtain ⟨g29, H⟩ := pXld H
        refine pG_gd g29 ?_
        obtain ⟨rv, h1, hc, H⟩ := pCalV 25 2 0 (as := [.int (X.2 (ix (x3 + (kI 1)))), .int (X.2 (ix (x3 + (kI 2))))]) (rest := []) rfl (by decide) (by decide +kernel) rfl rfl H
        obtain ⟨v1, M1, hD, H⟩ := pUseI (D_25_ok hS hc) H
        refine pG_call (x := v1) (M1 := M1) hD ?_
        replace H := pRun (ls' := [.ref 90000, .ref 0, .ref 188, .int x3]) (st' := [.int (x3 + (kI 1)), .ref 90000, .ref 188]) 6 rfl H
        obtain ⟨g30, H⟩ := pXld H
        refine pG_gd g30 ?_
        replace H := pRun (ls' := [.ref 90000, .ref 0, .ref 188, .int x3]) (st' := [.int (x3 + (kI 2)), .ref 90000, .int (X.2 (ix (x3 + (kI 1)))), .ref 188]) 4 rfl H
        obtain ⟨g31, H⟩ := pXld H
        refine pG_gd g31 ?_
        obtain ⟨rv, h1, hc, H⟩ := pCalV 52 2 188 (as := [.int (X.2 (ix (x3 + (kI 1)))), .int (X.2 (ix (x3 + (kI 2))))]) (rest := []) rfl (by decide) (by decide +kernel) rfl rfl H
        obtain ⟨v2, M2, hD, H⟩ := pUseI (D_52_ok hS hc) H
        refine pG_call (x := v2) (M1 := M2) hD ?_
        replace H := pRun (ls' := [.ref 90000, .ref 0, .ref 188, .int x3]) (st' := []) 1 rfl H
        obtain ⟨g0, _, H⟩ := pGo (n1 := 51) rfl (mcb_241 rfl) H
        replace H := pRun (ls' := [.ref 90000, .ref 0, .ref 188, .int (x3 + kI 6)]) (st' := []) 1 rfl H
        obtain ⟨g0, _, H⟩ := pGo (n1 := 1) rfl (mcb_241 rfl) H
        exact ih _ (by omega) _ _ H
      refine pG_neg g27 ?_
      by_cases g28 : ((X.2 (ix x3)) &&& (kI 31)) = kI 25
      · refine pG_pos g28 ?_
        obtain ⟨g0, _, H⟩ := pTsC g28 (by decide) (n1 := 40) rfl (mcb_241 rfl) H
        replace H := pRun (ls' := [.ref 90000, .ref 0, .ref 188, .int x3]) (st' := [.int (x3 + (kI 1)), .ref 90000, .ref 0]) 5 rfl H
        obtain ⟨g29, H⟩ := pXld H
        refine pG_gd g29 ?_
        obtain ⟨rv, h1, hc, H⟩ := pCalV 26 1 0 (as := [.int (X.2 (ix (x3 + (kI 1))))]) (rest := []) rfl (by decide) (by decide +kernel) rfl rfl H
        obtain ⟨v1, M1, hD, H⟩ := pUseI (D_26_ok hS hc) H
        refine pG_call (x := v1) (M1 := M1) hD ?_
        replace H := pRun (ls' := [.ref 90000, .ref 0, .ref 188, .int x3]) (st' := [.int (x3 + (kI 1)), .ref 90000, .ref 188]) 6 rfl H
        obtain ⟨g30, H⟩ := pXld H
        refine pG_gd g30 ?_
        obtain ⟨rv, h1, hc, H⟩ := pCalV 130 1 188 (as := [.int (X.2 (ix (x3 + (kI 1))))]) (rest := []) rfl (by decide) (by decide +kernel) rfl rfl H
        obtain ⟨v2, M2, hD, H⟩ := pUseI (D_130_ok hS hc) H
        refine pG_call (x := v2) (M1 := M2) hD ?_
        replace H := pRun (ls' := [.ref 90000, .ref 0, .ref 188, .int x3]) (st' := []) 1 rfl H
        obtain ⟨g0, _, H⟩ := pGo (n1 := 51) rfl (mcb_241 rfl) H
        replace H := pRun (ls' := [.ref 90000, .ref 0, .ref 188, .int (x3 + kI 6)]) (st' := []) 1 rfl H
        obtain ⟨g0, _, H⟩ := pGo (n1 := 1) rfl (mcb_241 rfl) H
        exact ih _ (by omega) _ _ H
      refine pG_neg g28 ?_
      by_cases g29 : ((X.2 (ix x3)) &&& (kI 31)) = kI 26
      · refine pG_pos g29 ?_
        obtain ⟨g0, _, H⟩ := pTsC g29 (by decide) (n1 := 41) rfl (mcb_241 rfl) H
        replace H := pRun (ls' := [.ref 90000, .ref 0, .ref 188, .int x3]) (st' := [.int (x3 + (kI 1)), .ref 90000, .ref 0]) 5 rfl H
        obtain ⟨g30, H⟩ := pXld H
        refine pG_gd g30 ?_
        replace H := pRun (ls' := [.ref 90000, .ref 0, .ref 188, .int x3]) (st' := [.int (x3 + (kI 2)), .ref 90000, .int (X.2 (ix (x3 + (kI 1)))), .ref 0]) 4 rfl H
        obtain ⟨g31, H⟩ := pXld H
        refine pG_gd g31 ?_
        obtain ⟨rv, h1, hc, H⟩ := pCalV 27 2 0 (as := [.int (X.2 (ix (x3 + (kI 1)))), .int (X.2 (ix (x3 + (kI 2))))]) (rest := []) rfl (by decide) (by decide +kernel) rfl rfl H
        obtain ⟨v1, M1, hD, H⟩ := pUseI (D_27_ok hS hc) H
        refine pG_call (x := v1) (M1 := M1) hD ?_
        replace H := pRun (ls' := [.ref 90000, .ref 0, .ref 188, .int x3]) (st' := [.int (x3 + (kI 1)), .ref 90000, .ref 188]) 6 rfl H
        obtain ⟨g32, H⟩ := pXld H
        refine pG_gd g32 ?_
        replace H := pRun (ls' := [.ref 90000, .ref 0, .ref 188, .int x3]) (st' := [.int (x3 + (kI 2)), .ref 90000, .int (X.2 (ix (x3 + (kI 1)))), .ref 188]) 4 rfl H
        obtain ⟨g33, H⟩ := pXld H
        refine pG_gd g33 ?_
        obtain ⟨rv, h1, hc, H⟩ := pCalV 131 2 188 (as := [.int (X.2 (ix (x3 + (kI 1)))), .int (X.2 (ix (x3 + (kI 2))))]) (rest := []) rfl (by decide) (by decide +kernel) rfl rfl H
        obtain ⟨v2, M2, hD, H⟩ := pUseI (D_131_ok hS hc) H
        refine pG_call (x := v2) (M1 := M2) hD ?_
        replace H := pRun (ls' := [.ref 90000, .ref 0, .ref 188, .int x3]) (st' := []) 1 rfl H
        obtain ⟨g0, _, H⟩ := pGo (n1 := 51) rfl (mcb_241 rfl) H
        replace H := pRun (ls' := [.ref 90000, .ref 0, .ref 188, .int (x3 + kI 6)]) (st' := []) 1 rfl H
        obtain ⟨g0, _, H⟩ := pGo (n1 := 1) rfl (mcb_241 rfl) H
        exact ih _ (by omega) _ _ H
      refine pG_neg g29 ?_
      by_cases g30 : ((X.2 (ix x3)) &&& (kI 31)) = kI 27
      · refine pG_pos g30 ?_
        obtain ⟨g0, _, H⟩ := pTsC g30 (by decide) (n1 := 42) rfl (mcb_241 rfl) H
        replace H := pRun (ls' := [.ref 90000, .ref 0, .ref 188, .int x3]) (st' := [.int (x3 + (kI 1)), .ref 90000, .ref 0]) 5 rfl H
        obtain ⟨g31, H⟩ := pXld H
        refine pG_gd g31 ?_
        rcases pIf0 (n1 := 44) rfl (mcb_241 rfl) (mcb_241 rfl) H with ⟨g32, g0, _, H⟩ | ⟨g32, g0, _, H⟩
        · refine pG_pos (c := (X.2 (ix (x3 + (kI 1)))) = 0) g32 ?_
          replace H := pRun (ls' := [.ref 90000, .ref 0, .ref 188, .int x3]) (st' := [.int (kI 0), .ref 0]) 1 rfl H
          obtain ⟨g0, _, H⟩ := pFall (mcb_241 rfl) H
          obtain ⟨rv, h1, hc, H⟩ := pCalV 28 1 0 (as := [.int (kI 0)]) (rest := []) rfl (by decide) (by decide +kernel) rfl rfl H
          obtain ⟨v1, M1, hD, H⟩ := pUseI (D_28_ok hS hc) H
          refine pG_call (x := v1) (M1 := M1) hD ?_
          replace H := pRun (ls' := [.ref 90000, .ref 0, .ref 188, .int x3]) (st' := [.int (x3 + (kI 1)), .ref 90000, .ref 188]) 6 rfl H
          obtain ⟨g33, H⟩ := pXld H
          refine pG_gd g33 ?_
          rcases pIf0 (n1 := 47) rfl (mcb_241 rfl) (mcb_241 rfl) H with ⟨g34, g0, _, H⟩ | ⟨g34, g0, _, H⟩
          · refine pG_pos (c := (X.2 (ix (x3 + (kI 1)))) = 0) g34 ?_
            replace H := pRun (ls' := [.ref 90000, .ref 0, .ref 188, .int x3]) (st' := [.int (kI 0), .ref 188]) 1 rfl H
            obtain ⟨g0, _, H⟩ := pFall (mcb_241 rfl) H
            obtain ⟨rv, h1, hc, H⟩ := pCalV 135 1 188 (as := [.int (kI 0)]) (rest := []) rfl (by decide) (by decide +kernel) rfl rfl H
            obtain ⟨v2, M2, hD, H⟩ := pUseI (D_135_ok hS hc) H
            refine pG_call (x := v2) (M1 := M2) hD ?_
            replace H := pRun (ls' := [.ref 90000, .ref 0, .ref 188, .int x3]) (st' := []) 1 rfl H
            obtain ⟨g0, _, H⟩ := pGo (n1 := 51) rfl (mcb_241 rfl) H
            replace H := pRun (ls' := [.ref 90000, .ref 0, .ref 188, .int (x3 + kI 6)]) (st' := []) 1 rfl H
            obtain ⟨g0, _, H⟩ := pGo (n1 := 1) rfl (mcb_241 rfl) H
            exact ih _ (by omega) _ _ H
          · refine pG_neg (c := (X.2 (ix (x3 + (kI 1)))) = 0) g34 ?_
            replace H := pRun (ls' := [.ref 90000, .ref 0, .ref 188, .int x3]) (st' := [.int (kI 1), .ref 188]) 1 rfl H
            obtain ⟨g0, _, H⟩ := pGo (n1 := 48) rfl (mcb_241 rfl) H
            obtain ⟨rv, h1, hc, H⟩ := pCalV 135 1 188 (as := [.int (kI 1)]) (rest := []) rfl (by decide) (by decide +kernel) rfl rfl H
            obtain ⟨v2, M2, hD, H⟩ := pUseI (D_135_ok hS hc) H
            refine pG_call (x := v2) (M1 := M2) hD ?_
            replace H := pRun (ls' := [.ref 90000, .ref 0, .ref 188, .int x3]) (st' := []) 1 rfl H
            obtain ⟨g0, _, H⟩ := pGo (n1 := 51) rfl (mcb_241 rfl) H
            replace H := pRun (ls' := [.ref 90000, .ref 0, .ref 188, .int (x3 + kI 6)]) (st' := []) 1 rfl H
            obtain ⟨g0, _, H⟩ := pGo (n1 := 1) rfl (mcb_241 rfl) H
            exact ih _ (by omega) _ _ H
        · refine pG_neg (c := (X.2 (ix (x3 + (kI 1)))) = 0) g32 ?_
          replace H := pRun (ls' := [.ref 90000, .ref 0, .ref 188, .int x3]) (st' := [.int (kI 1), .ref 0]) 1 rfl H
          obtain ⟨g0, _, H⟩ := pGo (n1 := 45) rfl (mcb_241 rfl) H
          obtain ⟨rv, h1, hc, H⟩ := pCalV 28 1 0 (as := [.int (kI 1)]) (rest := []) rfl (by decide) (by decide +kernel) rfl rfl H
          obtain ⟨v1, M1, hD, H⟩ := pUseI (D_28_ok hS hc) H
          refine pG_call (x := v1) (M1 := M1) hD ?_
          replace H := pRun (ls' := [.ref 90000, .ref 0, .ref 188, .int x3]) (st' := [.int (x3 + (kI 1)), .ref 90000, .ref 188]) 6 rfl H
          obtain ⟨g33, H⟩ := pXld H
          refine pG_gd g33 ?_
          rcases pIf0 (n1 := 47) rfl (mcb_241 rfl) (mcb_241 rfl) H with ⟨g34, g0, _, H⟩ | ⟨g34, g0, _, H⟩
          · refine pG_pos (c := (X.2 (ix (x3 + (kI 1)))) = 0) g34 ?_
            replace H := pRun (ls' := [.ref 90000, .ref 0, .ref 188, .int x3]) (st' := [.int (kI 0), .ref 188]) 1 rfl H
            obtain ⟨g0, _, H⟩ := pFall (mcb_241 rfl) H
            obtain ⟨rv, h1, hc, H⟩ := pCalV 135 1 188 (as := [.int (kI 0)]) (rest := []) rfl (by decide) (by decide +kernel) rfl rfl H
            obtain ⟨v2, M2, hD, H⟩ := pUseI (D_135_ok hS hc) H
            refine pG_call (x := v2) (M1 := M2) hD ?_
            replace H := pRun (ls' := [.ref 90000, .ref 0, .ref 188, .int x3]) (st' := []) 1 rfl H
            obtain ⟨g0, _, H⟩ := pGo (n1 := 51) rfl (mcb_241 rfl) H
            replace H := pRun (ls' := [.ref 90000, .ref 0, .ref 188, .int (x3 + kI 6)]) (st' := []) 1 rfl H
            obtain ⟨g0, _, H⟩ := pGo (n1 := 1) rfl (mcb_241 rfl) H
            exact ih _ (by omega) _ _ H
          · refine pG_neg (c := (X.2 (ix (x3 + (kI 1)))) = 0) g34 ?_
            replace H := pRun (ls' := [.ref 90000, .ref 0, .ref 188, .int x3]) (st' := [.int (kI 1), .ref 188]) 1 rfl H
            obtain ⟨g0, _, H⟩ := pGo (n1 := 48) rfl (mcb_241 rfl) H
            obtain ⟨rv, h1, hc, H⟩ := pCalV 135 1 188 (as := [.int (kI 1)]) (rest := []) rfl (by decide) (by decide +kernel) rfl rfl H
            obtain ⟨v2, M2, hD, H⟩ := pUseI (D_135_ok hS hc) H
            refine pG_call (x := v2) (M1 := M2) hD ?_
            replace H := pRun (ls' := [.ref 90000, .ref 0, .ref 188, .int x3]) (st' := []) 1 rfl H
            obtain ⟨g0, _, H⟩ := pGo (n1 := 51) rfl (mcb_241 rfl) H
            replace H := pRun (ls' := [.ref 90000, .ref 0, .ref 188, .int (x3 + kI 6)]) (st' := []) 1 rfl H
            obtain ⟨g0, _, H⟩ := pGo (n1 := 1) rfl (mcb_241 rfl) H
            exact ih _ (by omega) _ _ H
      refine pG_neg g30 ?_
      by_cases g31 : ((X.2 (ix x3)) &&& (kI 31)) = kI 28
      · refine pG_pos g31 ?_
        obtain ⟨g0, _, H⟩ := pTsC g31 (by decide) (n1 := 49) rfl (mcb_241 rfl) H
        replace H := pRun (ls' := [.ref 90000, .ref 0, .ref 188, .int x3]) (st' := [.int (x3 + (kI 1)), .ref 90000, .ref 0]) 5 rfl H
        obtain ⟨g32, H⟩ := pXld H
        refine pG_gd g32 ?_
        obtain ⟨rv, h1, hc, H⟩ := pCalV 29 1 0 (as := [.int (X.2 (ix (x3 + (kI 1))))]) (rest := []) rfl (by decide) (by decide +kernel) rfl rfl H
        obtain ⟨v1, M1, hD, H⟩ := pUseI (D_29_ok hS hc) H
        refine pG_call (x := v1) (M1 := M1) hD ?_
        replace H := pRun (ls' := [.ref 90000, .ref 0, .ref 188, .int x3]) (st' := [.int (x3 + (kI 1)), .ref 90000, .ref 188, .int v1]) 5 rfl H
        obtain ⟨g33, H⟩ := pXld H
        refine pG_gd g33 ?_
        obtain ⟨rv, h1, hc, H⟩ := pCalV 136 1 188 (as := [.int (X.2 (ix (x3 + (kI 1))))]) (rest := [.int v1]) rfl (by decide) (by decide +kernel) rfl rfl H
        obtain ⟨v2, M2, hD, H⟩ := pUseI (D_136_ok hS hc) H
        refine pG_call (x := v2) (M1 := M2) hD ?_
        rcases pIfc (n1 := 51) rfl (mcb_241 rfl) (mcb_241 rfl) H with ⟨g34, g0, _, H⟩ | ⟨g34, g0, _, H⟩
        · refine pG_pos (c := v1 = v2) g34 ?_
          replace H := pRun (ls' := [.ref 90000, .ref 0, .ref 188, .int (x3 + kI 6)]) (st' := []) 1 rfl H
          obtain ⟨g0, _, H⟩ := pGo (n1 := 1) rfl (mcb_241 rfl) H
          exact ih _ (by omega) _ _ H
        · refine pG_neg (c := v1 = v2) g34 ?_
          replace H := pRun (ls' := [.ref 90000, .ref 0, .ref 188, .int x3]) (st' := [.int (kI 0)]) 1 rfl H
          exact pG_ret (pRetI H)
      refine pG_neg g31 ?_
      obtain ⟨g0, _, H⟩ := pTsD (n1 := 51) (fun v h1 h2 => by
    have hv : v = 0 ∨ v = 1 ∨ v = 2 ∨ v = 3 ∨ v = 4 ∨ v = 5 ∨ v = 6 ∨ v = 7 ∨ v = 8 ∨ v = 9 ∨ v = 10 ∨ v = 11 ∨ v = 12 ∨ v = 13 ∨ v = 14 ∨ v = 15 ∨ v = 16 ∨ v = 17 ∨ v = 18 ∨ v = 19 ∨ v = 20 ∨ v = 21 ∨ v = 22 ∨ v = 23 ∨ v = 24 ∨ v = 25 ∨ v = 26 ∨ v = 27 ∨ v = 28 := by omega
    rcases hv with rfl | rfl | rfl | rfl | rfl | rfl | rfl | rfl | rfl | rfl | rfl | rfl | rfl | rfl | rfl | rfl | rfl | rfl | rfl | rfl | rfl | rfl | rfl | rfl | rfl | rfl | rfl | rfl | rfl
    · exact g3
    · exact g4
    · exact g5
    · exact g6
    · exact g7
    · exact g8
    · exact g9
    · exact g10
    · exact g11
    · exact g12
    · exact g13
    · exact g14
    · exact g15
    · exact g16
    · exact g17
    · exact g18
    · exact g19
    · exact g20
    · exact g21
    · exact g22
    · exact g23
    · exact g24
    · exact g25
    · exact g26
    · exact g27
    · exact g28
    · exact g29
    · exact g30
    · exact g31) rfl (mcb_241 rfl) H
      replace H := pRun (ls' := [.ref 90000, .ref 0, .ref 188, .int (x3 + kI 6)]) (st' := []) 1 rfl H
      obtain ⟨g0, _, H⟩ := pGo (n1 := 1) rfl (mcb_241 rfl) H
      exact ih _ (by omega) _ _ H
theorem lw_hC {X : aX} : ∀ x3 M v N, S_241_1 X (fun _ M v _ => rF M → v = kI 1) x3 M v N → rF M → v = kI 1 := by
  intro x3 M v N hs hr
  rcases hs with ⟨g1, hs⟩ | ⟨g1, hs⟩
  · exact hs.1
  · obtain ⟨_, hs⟩ := hs
    rcases hs with ⟨g2, hs⟩ | ⟨g2, hs⟩
    · obtain ⟨_, hs⟩ := hs
      obtain ⟨_, hs⟩ := hs
      obtain ⟨v3, M3, h3, hs⟩ := hs
      obtain ⟨_, hs⟩ := hs
      obtain ⟨_, hs⟩ := hs
      obtain ⟨v4, M4, h4, hs⟩ := hs
      exact hs (op_boy_F hr h3 h4)
    · rcases hs with ⟨g5, hs⟩ | ⟨g5, hs⟩
      · obtain ⟨_, hs⟩ := hs
        obtain ⟨_, hs⟩ := hs
        obtain ⟨_, hs⟩ := hs
        obtain ⟨v6, M6, h6, hs⟩ := hs
        obtain ⟨_, hs⟩ := hs
        obtain ⟨_, hs⟩ := hs
        obtain ⟨_, hs⟩ := hs
        obtain ⟨v7, M7, h7, hs⟩ := hs
        exact hs (op_like_F hr h6 h7)
      · rcases hs with ⟨g8, hs⟩ | ⟨g8, hs⟩
        · obtain ⟨_, hs⟩ := hs
          obtain ⟨_, hs⟩ := hs
          obtain ⟨_, hs⟩ := hs
          rcases hs with ⟨g9, hs⟩ | ⟨g9, hs⟩
          · obtain ⟨v10, M10, h10, hs⟩ := hs
            obtain ⟨_, hs⟩ := hs
            obtain ⟨_, hs⟩ := hs
            obtain ⟨_, hs⟩ := hs
            rcases hs with ⟨g11, hs⟩ | ⟨g11, hs⟩
            · obtain ⟨v12, M12, h12, hs⟩ := hs
              exact hs (op_knew_F hr h10 h12)
            · obtain ⟨v13, M13, h13, hs⟩ := hs
              exact absurd g9 g11
          · obtain ⟨v14, M14, h14, hs⟩ := hs
            obtain ⟨_, hs⟩ := hs
            obtain ⟨_, hs⟩ := hs
            obtain ⟨_, hs⟩ := hs
            rcases hs with ⟨g15, hs⟩ | ⟨g15, hs⟩
            · obtain ⟨v16, M16, h16, hs⟩ := hs
              exact absurd g15 g9
            · obtain ⟨v17, M17, h17, hs⟩ := hs
              exact hs (op_knew_F hr h14 h17)
        · rcases hs with ⟨g18, hs⟩ | ⟨g18, hs⟩
          · obtain ⟨_, hs⟩ := hs
            obtain ⟨v19, M19, h19, hs⟩ := hs
            obtain ⟨_, hs⟩ := hs
            obtain ⟨v20, M20, h20, hs⟩ := hs
            exact hs (op_state_F hr h19 h20)
          · rcases hs with ⟨g21, hs⟩ | ⟨g21, hs⟩
            · obtain ⟨_, hs⟩ := hs
              obtain ⟨_, hs⟩ := hs
              obtain ⟨_, hs⟩ := hs
              obtain ⟨_, hs⟩ := hs
              obtain ⟨_, hs⟩ := hs
              obtain ⟨v22, M22, h22, hs⟩ := hs
              obtain ⟨_, hs⟩ := hs
              obtain ⟨_, hs⟩ := hs
              obtain ⟨_, hs⟩ := hs
              obtain ⟨_, hs⟩ := hs
              obtain ⟨_, hs⟩ := hs
              obtain ⟨v23, M23, h23, hs⟩ := hs
              exact hs (op_fr_F hr ((op_feed hr.1 h22 h23).2) (F_5 h22) (F_58 h23) (by decide +kernel) (by decide +kernel))
            · rcases hs with ⟨g24, hs⟩ | ⟨g24, hs⟩
              · obtain ⟨_, hs⟩ := hs
                obtain ⟨v25, M25, h25, hs⟩ := hs
                obtain ⟨_, hs⟩ := hs
                obtain ⟨v26, M26, h26, hs⟩ := hs
                exact hs (op_fr_F hr ((op_end hr.1 h25 h26).2) (F_6 h25) (F_59 h26) (by decide +kernel) (by decide +kernel))
              · rcases hs with ⟨g27, hs⟩ | ⟨g27, hs⟩
                · obtain ⟨_, hs⟩ := hs
                  obtain ⟨_, hs⟩ := hs
                  obtain ⟨v28, M28, h28, hs⟩ := hs
                  obtain ⟨_, hs⟩ := hs
                  obtain ⟨_, hs⟩ := hs
                  obtain ⟨v29, M29, h29, hs⟩ := hs
                  exact hs (op_text_F hr h28 h29)
                · rcases hs with ⟨g30, hs⟩ | ⟨g30, hs⟩
                  · obtain ⟨_, hs⟩ := hs
                    obtain ⟨v31, M31, h31, hs⟩ := hs
                    obtain ⟨_, hs⟩ := hs
                    obtain ⟨v32, M32, h32, hs⟩ := hs
                    exact hs (op_fr_F hr (op_frame hr.1 (F_8 h31) (F_82 h32) (by decide +kernel) (by decide +kernel)) (F_8 h31) (F_82 h32) (by decide +kernel) (by decide +kernel))
                  · rcases hs with ⟨g33, hs⟩ | ⟨g33, hs⟩
                    · obtain ⟨_, hs⟩ := hs
                      obtain ⟨v34, M34, h34, hs⟩ := hs
                      obtain ⟨_, hs⟩ := hs
                      obtain ⟨v35, M35, h35, hs⟩ := hs
                      exact hs ((op_force_F hr h34 h35).2)
                    · rcases hs with ⟨g36, hs⟩ | ⟨g36, hs⟩
                      · obtain ⟨_, hs⟩ := hs
                        obtain ⟨_, hs⟩ := hs
                        obtain ⟨_, hs⟩ := hs
                        obtain ⟨v37, M37, h37, hs⟩ := hs
                        obtain ⟨_, hs⟩ := hs
                        obtain ⟨_, hs⟩ := hs
                        obtain ⟨_, hs⟩ := hs
                        obtain ⟨v38, M38, h38, hs⟩ := hs
                        exact hs ((op_day_F hr h37 h38).2)
                      · rcases hs with ⟨g39, hs⟩ | ⟨g39, hs⟩
                        · obtain ⟨_, hs⟩ := hs
                          obtain ⟨v40, M40, h40, hs⟩ := hs
                          obtain ⟨_, hs⟩ := hs
                          obtain ⟨v41, M41, h41, hs⟩ := hs
                          exact hs (op_plan_F hr h40 h41)
                        · rcases hs with ⟨g42, hs⟩ | ⟨g42, hs⟩
                          · obtain ⟨_, hs⟩ := hs
                            obtain ⟨_, hs⟩ := hs
                            obtain ⟨v43, M43, h43, hs⟩ := hs
                            obtain ⟨_, hs⟩ := hs
                            obtain ⟨_, hs⟩ := hs
                            obtain ⟨v44, M44, h44, hs⟩ := hs
                            exact hs (op_fr_F hr (op_frame hr.1 (F_12 h43) (F_121 h44) (by decide +kernel) (by decide +kernel)) (F_12 h43) (F_121 h44) (by decide +kernel) (by decide +kernel))
                          · rcases hs with ⟨g45, hs⟩ | ⟨g45, hs⟩
                            · obtain ⟨_, hs⟩ := hs
                              obtain ⟨_, hs⟩ := hs
                              obtain ⟨v46, M46, h46, hs⟩ := hs
                              obtain ⟨_, hs⟩ := hs
                              obtain ⟨_, hs⟩ := hs
                              obtain ⟨v47, M47, h47, hs⟩ := hs
                              exact hs (op_fr_F hr (op_frame hr.1 (F_13 h46) (F_122 h47) (by decide +kernel) (by decide +kernel)) (F_13 h46) (F_122 h47) (by decide +kernel) (by decide +kernel))
                            · rcases hs with ⟨g48, hs⟩ | ⟨g48, hs⟩
                              · obtain ⟨_, hs⟩ := hs
                                obtain ⟨_, hs⟩ := hs
                                obtain ⟨v49, M49, h49, hs⟩ := hs
                                obtain ⟨_, hs⟩ := hs
                                obtain ⟨_, hs⟩ := hs
                                obtain ⟨v50, M50, h50, hs⟩ := hs
                                exact hs (op_fr_F hr (op_frame hr.1 (F_14 h49) (F_123 h50) (by decide +kernel) (by decide +kernel)) (F_14 h49) (F_123 h50) (by decide +kernel) (by decide +kernel))
                              · rcases hs with ⟨g51, hs⟩ | ⟨g51, hs⟩
                                · obtain ⟨_, hs⟩ := hs
                                  obtain ⟨_, hs⟩ := hs
                                  obtain ⟨_, hs⟩ := hs
                                  obtain ⟨v52, M52, h52, hs⟩ := hs
                                  obtain ⟨_, hs⟩ := hs
                                  obtain ⟨_, hs⟩ := hs
                                  obtain ⟨_, hs⟩ := hs
                                  obtain ⟨v53, M53, h53, hs⟩ := hs
                                  exact hs (op_fr_F hr (op_frame hr.1 (F_15 h52) (F_126 h53) (by decide +kernel) (by decide +kernel)) (F_15 h52) (F_126 h53) (by decide +kernel) (by decide +kernel))
                                · rcases hs with ⟨g54, hs⟩ | ⟨g54, hs⟩
                                  · obtain ⟨_, hs⟩ := hs
                                    obtain ⟨_, hs⟩ := hs
                                    obtain ⟨v55, M55, h55, hs⟩ := hs
                                    obtain ⟨_, hs⟩ := hs
                                    obtain ⟨_, hs⟩ := hs
                                    obtain ⟨v56, M56, h56, hs⟩ := hs
                                    exact hs (op_fr_F hr (op_frame hr.1 (F_16 h55) (F_128 h56) (by decide +kernel) (by decide +kernel)) (F_16 h55) (F_128 h56) (by decide +kernel) (by decide +kernel))
                                  · rcases hs with ⟨g57, hs⟩ | ⟨g57, hs⟩
                                    · obtain ⟨_, hs⟩ := hs
                                      obtain ⟨_, hs⟩ := hs
                                      obtain ⟨_, hs⟩ := hs
                                      rcases hs with ⟨g58, hs⟩ | ⟨g58, hs⟩
                                      · obtain ⟨_, hs⟩ := hs
                                        obtain ⟨v59, M59, h59, hs⟩ := hs
                                        obtain ⟨_, hs⟩ := hs
                                        obtain ⟨_, hs⟩ := hs
                                        obtain ⟨_, hs⟩ := hs
                                        rcases hs with ⟨g60, hs⟩ | ⟨g60, hs⟩
                                        · obtain ⟨_, hs⟩ := hs
                                          obtain ⟨v61, M61, h61, hs⟩ := hs
                                          exact hs (op_th_F hr (op_think hr.1 (F_17 h59) (F_110 h61) (by decide +kernel) (by decide +kernel) (D_110_s h61)) (F_17 h59) (F_110 h61) (by decide +kernel) (by decide +kernel) (D_110_s h61))
                                        · obtain ⟨_, hs⟩ := hs
                                          obtain ⟨v62, M62, h62, hs⟩ := hs
                                          exact absurd g58 g60
                                      · obtain ⟨_, hs⟩ := hs
                                        obtain ⟨v63, M63, h63, hs⟩ := hs
                                        obtain ⟨_, hs⟩ := hs
                                        obtain ⟨_, hs⟩ := hs
                                        obtain ⟨_, hs⟩ := hs
                                        rcases hs with ⟨g64, hs⟩ | ⟨g64, hs⟩
                                        · obtain ⟨_, hs⟩ := hs
                                          obtain ⟨v65, M65, h65, hs⟩ := hs
                                          exact absurd g64 g58
                                        · obtain ⟨_, hs⟩ := hs
                                          obtain ⟨v66, M66, h66, hs⟩ := hs
                                          exact hs (op_th_F hr (op_think hr.1 (F_17 h63) (F_110 h66) (by decide +kernel) (by decide +kernel) (D_110_s h66)) (F_17 h63) (F_110 h66) (by decide +kernel) (by decide +kernel) (D_110_s h66))
                                    · rcases hs with ⟨g67, hs⟩ | ⟨g67, hs⟩
                                      · obtain ⟨_, hs⟩ := hs
                                        obtain ⟨_, hs⟩ := hs
                                        obtain ⟨v68, M68, h68, hs⟩ := hs
                                        obtain ⟨_, hs⟩ := hs
                                        obtain ⟨_, hs⟩ := hs
                                        obtain ⟨v69, M69, h69, hs⟩ := hs
                                        exact hs (op_th_F hr (op_think hr.1 (F_18 h68) (F_111 h69) (by decide +kernel) (by decide +kernel) (D_111_s h69)) (F_18 h68) (F_111 h69) (by decide +kernel) (by decide +kernel) (D_111_s h69))
                                      · rcases hs with ⟨g70, hs⟩ | ⟨g70, hs⟩
                                        · obtain ⟨_, hs⟩ := hs
                                          obtain ⟨v71, M71, h71, hs⟩ := hs
                                          obtain ⟨_, hs⟩ := hs
                                          obtain ⟨v72, M72, h72, hs⟩ := hs
                                          exact hs (op_th_F hr (op_think hr.1 (F_19 h71) (F_112 h72) (by decide +kernel) (by decide +kernel) (D_112_s h72)) (F_19 h71) (F_112 h72) (by decide +kernel) (by decide +kernel) (D_112_s h72))
                                        · rcases hs with ⟨g73, hs⟩ | ⟨g73, hs⟩
                                          · obtain ⟨_, hs⟩ := hs
                                            obtain ⟨v74, M74, h74, hs⟩ := hs
                                            obtain ⟨_, hs⟩ := hs
                                            obtain ⟨v75, M75, h75, hs⟩ := hs
                                            exact hs ((op_row_F hr h74 h75).2)
                                          · rcases hs with ⟨g76, hs⟩ | ⟨g76, hs⟩
                                            · obtain ⟨_, hs⟩ := hs
                                              obtain ⟨_, hs⟩ := hs
                                              obtain ⟨_, hs⟩ := hs
                                              obtain ⟨v77, M77, h77, hs⟩ := hs
                                              obtain ⟨_, hs⟩ := hs
                                              obtain ⟨_, hs⟩ := hs
                                              obtain ⟨_, hs⟩ := hs
                                              obtain ⟨v78, M78, h78, hs⟩ := hs
                                              exact hs (op_parts_F hr h77 h78)
                                            · rcases hs with ⟨g79, hs⟩ | ⟨g79, hs⟩
                                              · obtain ⟨_, hs⟩ := hs
                                                obtain ⟨_, hs⟩ := hs
                                                obtain ⟨v80, M80, h80, hs⟩ := hs
                                                obtain ⟨_, hs⟩ := hs
                                                obtain ⟨_, hs⟩ := hs
                                                obtain ⟨v81, M81, h81, hs⟩ := hs
                                                exact hs (op_told_F hr h80 h81)
                                              · rcases hs with ⟨g82, hs⟩ | ⟨g82, hs⟩
                                                · obtain ⟨_, hs⟩ := hs
                                                  obtain ⟨_, hs⟩ := hs
                                                  obtain ⟨v83, M83, h83, hs⟩ := hs
                                                  obtain ⟨_, hs⟩ := hs
                                                  obtain ⟨_, hs⟩ := hs
                                                  obtain ⟨v84, M84, h84, hs⟩ := hs
                                                  exact hs (op_th_F hr (op_think hr.1 (F_23 h83) (F_119 h84) (by decide +kernel) (by decide +kernel) (D_119_s h84)) (F_23 h83) (F_119 h84) (by decide +kernel) (by decide +kernel) (D_119_s h84))
                                                · rcases hs with ⟨g85, hs⟩ | ⟨g85, hs⟩
                                                  · obtain ⟨_, hs⟩ := hs
                                                    obtain ⟨v86, M86, h86, hs⟩ := hs
                                                    obtain ⟨_, hs⟩ := hs
                                                    obtain ⟨v87, M87, h87, hs⟩ := hs
                                                    exact hs (op_th_F hr (op_think hr.1 (F_24 h86) (F_120 h87) (by decide +kernel) (by decide +kernel) (D_120_s h87)) (F_24 h86) (F_120 h87) (by decide +kernel) (by decide +kernel) (D_120_s h87))
                                                  · rcases hs with ⟨g88, hs⟩ | ⟨g88, hs⟩
                                                    · obtain ⟨_, hs⟩ := hs
                                                      obtain ⟨_, hs⟩ := hs
                                                      obtain ⟨v89, M89, h89, hs⟩ := hs
                                                      obtain ⟨_, hs⟩ := hs
                                                      obtain ⟨_, hs⟩ := hs
                                                      obtain ⟨v90, M90, h90, hs⟩ := hs
                                                      exact hs (op_number_F hr h89 h90)
                                                    · rcases hs with ⟨g91, hs⟩ | ⟨g91, hs⟩
                                                      · obtain ⟨_, hs⟩ := hs
                                                        obtain ⟨v92, M92, h92, hs⟩ := hs
                                                        obtain ⟨_, hs⟩ := hs
                                                        obtain ⟨v93, M93, h93, hs⟩ := hs
                                                        exact hs (op_fr_F hr (op_frame hr.1 (F_26 h92) (F_130 h93) (by decide +kernel) (by decide +kernel)) (F_26 h92) (F_130 h93) (by decide +kernel) (by decide +kernel))
                                                      · rcases hs with ⟨g94, hs⟩ | ⟨g94, hs⟩
                                                        · obtain ⟨_, hs⟩ := hs
                                                          obtain ⟨_, hs⟩ := hs
                                                          obtain ⟨v95, M95, h95, hs⟩ := hs
                                                          obtain ⟨_, hs⟩ := hs
                                                          obtain ⟨_, hs⟩ := hs
                                                          obtain ⟨v96, M96, h96, hs⟩ := hs
                                                          exact hs (op_fr_F hr ((op_woods hr.1 h95 h96).2) (F_27 h95) (F_131 h96) (by decide +kernel) (by decide +kernel))
                                                        · rcases hs with ⟨g97, hs⟩ | ⟨g97, hs⟩
                                                          · obtain ⟨_, hs⟩ := hs
                                                            rcases hs with ⟨g98, hs⟩ | ⟨g98, hs⟩
                                                            · obtain ⟨v99, M99, h99, hs⟩ := hs
                                                              obtain ⟨_, hs⟩ := hs
                                                              rcases hs with ⟨g100, hs⟩ | ⟨g100, hs⟩
                                                              · obtain ⟨v101, M101, h101, hs⟩ := hs
                                                                exact hs (op_image_F hr h99 h101)
                                                              · obtain ⟨v102, M102, h102, hs⟩ := hs
                                                                exact absurd g98 g100
                                                            · obtain ⟨v103, M103, h103, hs⟩ := hs
                                                              obtain ⟨_, hs⟩ := hs
                                                              rcases hs with ⟨g104, hs⟩ | ⟨g104, hs⟩
                                                              · obtain ⟨v105, M105, h105, hs⟩ := hs
                                                                exact absurd g104 g98
                                                              · obtain ⟨v106, M106, h106, hs⟩ := hs
                                                                exact hs (op_image_F hr h103 h106)
                                                          · rcases hs with ⟨g107, hs⟩ | ⟨g107, hs⟩
                                                            · obtain ⟨_, hs⟩ := hs
                                                              obtain ⟨v108, M108, h108, hs⟩ := hs
                                                              obtain ⟨_, hs⟩ := hs
                                                              obtain ⟨v109, M109, h109, hs⟩ := hs
                                                              rcases hs with ⟨g110, hs⟩ | ⟨g110, hs⟩
                                                              · exact hs (op_fr_F hr (op_frame hr.1 (F_29 h108) (F_136 h109) (by decide +kernel) (by decide +kernel)) (F_29 h108) (F_136 h109) (by decide +kernel) (by decide +kernel))
                                                              · exact absurd (op_look_v hr h108 h109) g110
                                                            · exact hs hr
theorem lw_rel {X : aX} {F d f : Nat} {K : Nat → aK} (hS : pS K) {x3 : Int32} {M : pMem} (hr : rF M) {out : Option Value × aH} (H : pm X F d 241 f 1 [.iload 3, .aload 0, .arraylength, .bipush 6, .isub, .if_icmp .gt 52] [.ref 90000, .ref 0, .ref 188, .int x3] [] (pH K M) out) : ∃ N, out = (some (.int 1), pH K N) := by
  obtain ⟨v, N, e, h⟩ := K_241 hS (fun _ M v _ => rF M → v = kI 1) lw_hC f x3 M H
  refine ⟨N, ?_⟩
  rw [e, h hr]
  rfl
