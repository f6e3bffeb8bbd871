/-! THE WORLD AT THE LAW'S ENTRY: written by program (wip/whole/gen/start2.py) -/
def st_tm (i : Nat) : Term := match i with | 0 => Term.string "CoinBoats$Tokens" 80 | _ => Term.string "CoinBoats$Tokens" 68
abbrev st_F : List Cond := flatC (Jvm.Cond.and given_1 narrow_1)
theorem st_ex0 : Cond.exactly (st_tm 0) "java/lang/String" ∈ st_F := List.mem_of_getElem? (i := 9) rfl
theorem st_co0 : Cond.eq (.field (st_tm 0) "java/lang/String" "coder" "B") (.int 0) ∈ st_F := List.mem_of_getElem? (i := 10) rfl
theorem st_ar0 : Cond.arrayOf (.field (st_tm 0) "java/lang/String" "value" "[B") .byte ∈ st_F := List.mem_of_getElem? (i := 11) rfl
theorem st_le0 : Cond.eq (.length (.field (st_tm 0) "java/lang/String" "value" "[B")) (.int (Int32.ofNat (ai_slen.getD 0 0))) ∈ st_F := List.mem_of_getElem? (i := 12) rfl
theorem st_el0_0 : Cond.eq (.elem (.field (st_tm 0) "java/lang/String" "value" "[B") (.int (Int32.ofNat 0))) (.int ((ai_sbyt.getD 0 []).getD 0 0)) ∈ st_F := List.mem_of_getElem? (i := 13) rfl
theorem st_el0_1 : Cond.eq (.elem (.field (st_tm 0) "java/lang/String" "value" "[B") (.int (Int32.ofNat 1))) (.int ((ai_sbyt.getD 0 []).getD 1 0)) ∈ st_F := List.mem_of_getElem? (i := 14) rfl
theorem st_el0_2 : Cond.eq (.elem (.field (st_tm 0) "java/lang/String" "value" "[B") (.int (Int32.ofNat 2))) (.int ((ai_sbyt.getD 0 []).getD 2 0)) ∈ st_F := List.mem_of_getElem? (i := 15) rfl
theorem st_el0_3 : Cond.eq (.elem (.field (st_tm 0) "java/lang/String" "value" "[B") (.int (Int32.ofNat 3))) (.int ((ai_sbyt.getD 0 []).getD 3 0)) ∈ st_F := List.mem_of_getElem? (i := 16) rfl
theorem st_el0_4 : Cond.eq (.elem (.field (st_tm 0) "java/lang/String" "value" "[B") (.int (Int32.ofNat 4))) (.int ((ai_sbyt.getD 0 []).getD 4 0)) ∈ st_F := List.mem_of_getElem? (i := 17) rfl
theorem st_el0_5 : Cond.eq (.elem (.field (st_tm 0) "java/lang/String" "value" "[B") (.int (Int32.ofNat 5))) (.int ((ai_sbyt.getD 0 []).getD 5 0)) ∈ st_F := List.mem_of_getElem? (i := 18) rfl
theorem st_el0_6 : Cond.eq (.elem (.field (st_tm 0) "java/lang/String" "value" "[B") (.int (Int32.ofNat 6))) (.int ((ai_sbyt.getD 0 []).getD 6 0)) ∈ st_F := List.mem_of_getElem? (i := 19) rfl
theorem st_el0_7 : Cond.eq (.elem (.field (st_tm 0) "java/lang/String" "value" "[B") (.int (Int32.ofNat 7))) (.int ((ai_sbyt.getD 0 []).getD 7 0)) ∈ st_F := List.mem_of_getElem? (i := 20) rfl
theorem st_el0_8 : Cond.eq (.elem (.field (st_tm 0) "java/lang/String" "value" "[B") (.int (Int32.ofNat 8))) (.int ((ai_sbyt.getD 0 []).getD 8 0)) ∈ st_F := List.mem_of_getElem? (i := 21) rfl
theorem st_el0_9 : Cond.eq (.elem (.field (st_tm 0) "java/lang/String" "value" "[B") (.int (Int32.ofNat 9))) (.int ((ai_sbyt.getD 0 []).getD 9 0)) ∈ st_F := List.mem_of_getElem? (i := 22) rfl
theorem st_el0_10 : Cond.eq (.elem (.field (st_tm 0) "java/lang/String" "value" "[B") (.int (Int32.ofNat 10))) (.int ((ai_sbyt.getD 0 []).getD 10 0)) ∈ st_F := List.mem_of_getElem? (i := 23) rfl
theorem st_el0_11 : Cond.eq (.elem (.field (st_tm 0) "java/lang/String" "value" "[B") (.int (Int32.ofNat 11))) (.int ((ai_sbyt.getD 0 []).getD 11 0)) ∈ st_F := List.mem_of_getElem? (i := 24) rfl
theorem st_el0_12 : Cond.eq (.elem (.field (st_tm 0) "java/lang/String" "value" "[B") (.int (Int32.ofNat 12))) (.int ((ai_sbyt.getD 0 []).getD 12 0)) ∈ st_F := List.mem_of_getElem? (i := 25) rfl
theorem st_el0_13 : Cond.eq (.elem (.field (st_tm 0) "java/lang/String" "value" "[B") (.int (Int32.ofNat 13))) (.int ((ai_sbyt.getD 0 []).getD 13 0)) ∈ st_F := List.mem_of_getElem? (i := 26) rfl
theorem st_el0_14 : Cond.eq (.elem (.field (st_tm 0) "java/lang/String" "value" "[B") (.int (Int32.ofNat 14))) (.int ((ai_sbyt.getD 0 []).getD 14 0)) ∈ st_F := List.mem_of_getElem? (i := 27) rfl
theorem st_el0_15 : Cond.eq (.elem (.field (st_tm 0) "java/lang/String" "value" "[B") (.int (Int32.ofNat 15))) (.int ((ai_sbyt.getD 0 []).getD 15 0)) ∈ st_F := List.mem_of_getElem? (i := 28) rfl
theorem st_el0_16 : Cond.eq (.elem (.field (st_tm 0) "java/lang/String" "value" "[B") (.int (Int32.ofNat 16))) (.int ((ai_sbyt.getD 0 []).getD 16 0)) ∈ st_F := List.mem_of_getElem? (i := 29) rfl
theorem st_el0_17 : Cond.eq (.elem (.field (st_tm 0) "java/lang/String" "value" "[B") (.int (Int32.ofNat 17))) (.int ((ai_sbyt.getD 0 []).getD 17 0)) ∈ st_F := List.mem_of_getElem? (i := 30) rfl
theorem st_el0_18 : Cond.eq (.elem (.field (st_tm 0) "java/lang/String" "value" "[B") (.int (Int32.ofNat 18))) (.int ((ai_sbyt.getD 0 []).getD 18 0)) ∈ st_F := List.mem_of_getElem? (i := 31) rfl
theorem st_el0_19 : Cond.eq (.elem (.field (st_tm 0) "java/lang/String" "value" "[B") (.int (Int32.ofNat 19))) (.int ((ai_sbyt.getD 0 []).getD 19 0)) ∈ st_F := List.mem_of_getElem? (i := 32) rfl
theorem st_el0_20 : Cond.eq (.elem (.field (st_tm 0) "java/lang/String" "value" "[B") (.int (Int32.ofNat 20))) (.int ((ai_sbyt.getD 0 []).getD 20 0)) ∈ st_F := List.mem_of_getElem? (i := 33) rfl
theorem st_el0_21 : Cond.eq (.elem (.field (st_tm 0) "java/lang/String" "value" "[B") (.int (Int32.ofNat 21))) (.int ((ai_sbyt.getD 0 []).getD 21 0)) ∈ st_F := List.mem_of_getElem? (i := 34) rfl
theorem st_el0_22 : Cond.eq (.elem (.field (st_tm 0) "java/lang/String" "value" "[B") (.int (Int32.ofNat 22))) (.int ((ai_sbyt.getD 0 []).getD 22 0)) ∈ st_F := List.mem_of_getElem? (i := 35) rfl
theorem st_el0_23 : Cond.eq (.elem (.field (st_tm 0) "java/lang/String" "value" "[B") (.int (Int32.ofNat 23))) (.int ((ai_sbyt.getD 0 []).getD 23 0)) ∈ st_F := List.mem_of_getElem? (i := 36) rfl
theorem st_el0_24 : Cond.eq (.elem (.field (st_tm 0) "java/lang/String" "value" "[B") (.int (Int32.ofNat 24))) (.int ((ai_sbyt.getD 0 []).getD 24 0)) ∈ st_F := List.mem_of_getElem? (i := 37) rfl
theorem st_el0_25 : Cond.eq (.elem (.field (st_tm 0) "java/lang/String" "value" "[B") (.int (Int32.ofNat 25))) (.int ((ai_sbyt.getD 0 []).getD 25 0)) ∈ st_F := List.mem_of_getElem? (i := 38) rfl
theorem st_el0_26 : Cond.eq (.elem (.field (st_tm 0) "java/lang/String" "value" "[B") (.int (Int32.ofNat 26))) (.int ((ai_sbyt.getD 0 []).getD 26 0)) ∈ st_F := List.mem_of_getElem? (i := 39) rfl
theorem st_el0_27 : Cond.eq (.elem (.field (st_tm 0) "java/lang/String" "value" "[B") (.int (Int32.ofNat 27))) (.int ((ai_sbyt.getD 0 []).getD 27 0)) ∈ st_F := List.mem_of_getElem? (i := 40) rfl
theorem st_el0_28 : Cond.eq (.elem (.field (st_tm 0) "java/lang/String" "value" "[B") (.int (Int32.ofNat 28))) (.int ((ai_sbyt.getD 0 []).getD 28 0)) ∈ st_F := List.mem_of_getElem? (i := 41) rfl
theorem st_el0_29 : Cond.eq (.elem (.field (st_tm 0) "java/lang/String" "value" "[B") (.int (Int32.ofNat 29))) (.int ((ai_sbyt.getD 0 []).getD 29 0)) ∈ st_F := List.mem_of_getElem? (i := 42) rfl
theorem st_el0_30 : Cond.eq (.elem (.field (st_tm 0) "java/lang/String" "value" "[B") (.int (Int32.ofNat 30))) (.int ((ai_sbyt.getD 0 []).getD 30 0)) ∈ st_F := List.mem_of_getElem? (i := 43) rfl
theorem st_el0_31 : Cond.eq (.elem (.field (st_tm 0) "java/lang/String" "value" "[B") (.int (Int32.ofNat 31))) (.int ((ai_sbyt.getD 0 []).getD 31 0)) ∈ st_F := List.mem_of_getElem? (i := 44) rfl
theorem st_el0_32 : Cond.eq (.elem (.field (st_tm 0) "java/lang/String" "value" "[B") (.int (Int32.ofNat 32))) (.int ((ai_sbyt.getD 0 []).getD 32 0)) ∈ st_F := List.mem_of_getElem? (i := 45) rfl
theorem st_el0_33 : Cond.eq (.elem (.field (st_tm 0) "java/lang/String" "value" "[B") (.int (Int32.ofNat 33))) (.int ((ai_sbyt.getD 0 []).getD 33 0)) ∈ st_F := List.mem_of_getElem? (i := 46) rfl
theorem st_el0_34 : Cond.eq (.elem (.field (st_tm 0) "java/lang/String" "value" "[B") (.int (Int32.ofNat 34))) (.int ((ai_sbyt.getD 0 []).getD 34 0)) ∈ st_F := List.mem_of_getElem? (i := 47) rfl
theorem st_el0_35 : Cond.eq (.elem (.field (st_tm 0) "java/lang/String" "value" "[B") (.int (Int32.ofNat 35))) (.int ((ai_sbyt.getD 0 []).getD 35 0)) ∈ st_F := List.mem_of_getElem? (i := 48) rfl
theorem st_el0_36 : Cond.eq (.elem (.field (st_tm 0) "java/lang/String" "value" "[B") (.int (Int32.ofNat 36))) (.int ((ai_sbyt.getD 0 []).getD 36 0)) ∈ st_F := List.mem_of_getElem? (i := 49) rfl
theorem st_el0_37 : Cond.eq (.elem (.field (st_tm 0) "java/lang/String" "value" "[B") (.int (Int32.ofNat 37))) (.int ((ai_sbyt.getD 0 []).getD 37 0)) ∈ st_F := List.mem_of_getElem? (i := 50) rfl
theorem st_el0_38 : Cond.eq (.elem (.field (st_tm 0) "java/lang/String" "value" "[B") (.int (Int32.ofNat 38))) (.int ((ai_sbyt.getD 0 []).getD 38 0)) ∈ st_F := List.mem_of_getElem? (i := 51) rfl
theorem st_el0_39 : Cond.eq (.elem (.field (st_tm 0) "java/lang/String" "value" "[B") (.int (Int32.ofNat 39))) (.int ((ai_sbyt.getD 0 []).getD 39 0)) ∈ st_F := List.mem_of_getElem? (i := 52) rfl
theorem st_el0_40 : Cond.eq (.elem (.field (st_tm 0) "java/lang/String" "value" "[B") (.int (Int32.ofNat 40))) (.int ((ai_sbyt.getD 0 []).getD 40 0)) ∈ st_F := List.mem_of_getElem? (i := 53) rfl
theorem st_el0_41 : Cond.eq (.elem (.field (st_tm 0) "java/lang/String" "value" "[B") (.int (Int32.ofNat 41))) (.int ((ai_sbyt.getD 0 []).getD 41 0)) ∈ st_F := List.mem_of_getElem? (i := 54) rfl
theorem st_el0_42 : Cond.eq (.elem (.field (st_tm 0) "java/lang/String" "value" "[B") (.int (Int32.ofNat 42))) (.int ((ai_sbyt.getD 0 []).getD 42 0)) ∈ st_F := List.mem_of_getElem? (i := 55) rfl
theorem st_el0_43 : Cond.eq (.elem (.field (st_tm 0) "java/lang/String" "value" "[B") (.int (Int32.ofNat 43))) (.int ((ai_sbyt.getD 0 []).getD 43 0)) ∈ st_F := List.mem_of_getElem? (i := 56) rfl
theorem st_el0_44 : Cond.eq (.elem (.field (st_tm 0) "java/lang/String" "value" "[B") (.int (Int32.ofNat 44))) (.int ((ai_sbyt.getD 0 []).getD 44 0)) ∈ st_F := List.mem_of_getElem? (i := 57) rfl
theorem st_el0_45 : Cond.eq (.elem (.field (st_tm 0) "java/lang/String" "value" "[B") (.int (Int32.ofNat 45))) (.int ((ai_sbyt.getD 0 []).getD 45 0)) ∈ st_F := List.mem_of_getElem? (i := 58) rfl
theorem st_el0_46 : Cond.eq (.elem (.field (st_tm 0) "java/lang/String" "value" "[B") (.int (Int32.ofNat 46))) (.int ((ai_sbyt.getD 0 []).getD 46 0)) ∈ st_F := List.mem_of_getElem? (i := 59) rfl
theorem st_el0_47 : Cond.eq (.elem (.field (st_tm 0) "java/lang/String" "value" "[B") (.int (Int32.ofNat 47))) (.int ((ai_sbyt.getD 0 []).getD 47 0)) ∈ st_F := List.mem_of_getElem? (i := 60) rfl
theorem st_el0_48 : Cond.eq (.elem (.field (st_tm 0) "java/lang/String" "value" "[B") (.int (Int32.ofNat 48))) (.int ((ai_sbyt.getD 0 []).getD 48 0)) ∈ st_F := List.mem_of_getElem? (i := 61) rfl
theorem st_el0_49 : Cond.eq (.elem (.field (st_tm 0) "java/lang/String" "value" "[B") (.int (Int32.ofNat 49))) (.int ((ai_sbyt.getD 0 []).getD 49 0)) ∈ st_F := List.mem_of_getElem? (i := 62) rfl
theorem st_el0_50 : Cond.eq (.elem (.field (st_tm 0) "java/lang/String" "value" "[B") (.int (Int32.ofNat 50))) (.int ((ai_sbyt.getD 0 []).getD 50 0)) ∈ st_F := List.mem_of_getElem? (i := 63) rfl
theorem st_el0_51 : Cond.eq (.elem (.field (st_tm 0) "java/lang/String" "value" "[B") (.int (Int32.ofNat 51))) (.int ((ai_sbyt.getD 0 []).getD 51 0)) ∈ st_F := List.mem_of_getElem? (i := 64) rfl
theorem st_el0_52 : Cond.eq (.elem (.field (st_tm 0) "java/lang/String" "value" "[B") (.int (Int32.ofNat 52))) (.int ((ai_sbyt.getD 0 []).getD 52 0)) ∈ st_F := List.mem_of_getElem? (i := 65) rfl
theorem st_el0_53 : Cond.eq (.elem (.field (st_tm 0) "java/lang/String" "value" "[B") (.int (Int32.ofNat 53))) (.int ((ai_sbyt.getD 0 []).getD 53 0)) ∈ st_F := List.mem_of_getElem? (i := 66) rfl
theorem st_el0_54 : Cond.eq (.elem (.field (st_tm 0) "java/lang/String" "value" "[B") (.int (Int32.ofNat 54))) (.int ((ai_sbyt.getD 0 []).getD 54 0)) ∈ st_F := List.mem_of_getElem? (i := 67) rfl
theorem st_el0_55 : Cond.eq (.elem (.field (st_tm 0) "java/lang/String" "value" "[B") (.int (Int32.ofNat 55))) (.int ((ai_sbyt.getD 0 []).getD 55 0)) ∈ st_F := List.mem_of_getElem? (i := 68) rfl
theorem st_el0_56 : Cond.eq (.elem (.field (st_tm 0) "java/lang/String" "value" "[B") (.int (Int32.ofNat 56))) (.int ((ai_sbyt.getD 0 []).getD 56 0)) ∈ st_F := List.mem_of_getElem? (i := 69) rfl
theorem st_el0_57 : Cond.eq (.elem (.field (st_tm 0) "java/lang/String" "value" "[B") (.int (Int32.ofNat 57))) (.int ((ai_sbyt.getD 0 []).getD 57 0)) ∈ st_F := List.mem_of_getElem? (i := 70) rfl
theorem st_el0_58 : Cond.eq (.elem (.field (st_tm 0) "java/lang/String" "value" "[B") (.int (Int32.ofNat 58))) (.int ((ai_sbyt.getD 0 []).getD 58 0)) ∈ st_F := List.mem_of_getElem? (i := 71) rfl
theorem st_el0_59 : Cond.eq (.elem (.field (st_tm 0) "java/lang/String" "value" "[B") (.int (Int32.ofNat 59))) (.int ((ai_sbyt.getD 0 []).getD 59 0)) ∈ st_F := List.mem_of_getElem? (i := 72) rfl
theorem st_el0_60 : Cond.eq (.elem (.field (st_tm 0) "java/lang/String" "value" "[B") (.int (Int32.ofNat 60))) (.int ((ai_sbyt.getD 0 []).getD 60 0)) ∈ st_F := List.mem_of_getElem? (i := 73) rfl
theorem st_el0_61 : Cond.eq (.elem (.field (st_tm 0) "java/lang/String" "value" "[B") (.int (Int32.ofNat 61))) (.int ((ai_sbyt.getD 0 []).getD 61 0)) ∈ st_F := List.mem_of_getElem? (i := 74) rfl
theorem st_el0_62 : Cond.eq (.elem (.field (st_tm 0) "java/lang/String" "value" "[B") (.int (Int32.ofNat 62))) (.int ((ai_sbyt.getD 0 []).getD 62 0)) ∈ st_F := List.mem_of_getElem? (i := 75) rfl
theorem st_el0_63 : Cond.eq (.elem (.field (st_tm 0) "java/lang/String" "value" "[B") (.int (Int32.ofNat 63))) (.int ((ai_sbyt.getD 0 []).getD 63 0)) ∈ st_F := List.mem_of_getElem? (i := 76) rfl
theorem st_el0_64 : Cond.eq (.elem (.field (st_tm 0) "java/lang/String" "value" "[B") (.int (Int32.ofNat 64))) (.int ((ai_sbyt.getD 0 []).getD 64 0)) ∈ st_F := List.mem_of_getElem? (i := 77) rfl
theorem st_el0_65 : Cond.eq (.elem (.field (st_tm 0) "java/lang/String" "value" "[B") (.int (Int32.ofNat 65))) (.int ((ai_sbyt.getD 0 []).getD 65 0)) ∈ st_F := List.mem_of_getElem? (i := 78) rfl
theorem st_el0_66 : Cond.eq (.elem (.field (st_tm 0) "java/lang/String" "value" "[B") (.int (Int32.ofNat 66))) (.int ((ai_sbyt.getD 0 []).getD 66 0)) ∈ st_F := List.mem_of_getElem? (i := 79) rfl
theorem st_el0_67 : Cond.eq (.elem (.field (st_tm 0) "java/lang/String" "value" "[B") (.int (Int32.ofNat 67))) (.int ((ai_sbyt.getD 0 []).getD 67 0)) ∈ st_F := List.mem_of_getElem? (i := 80) rfl
theorem st_el0_68 : Cond.eq (.elem (.field (st_tm 0) "java/lang/String" "value" "[B") (.int (Int32.ofNat 68))) (.int ((ai_sbyt.getD 0 []).getD 68 0)) ∈ st_F := List.mem_of_getElem? (i := 81) rfl
theorem st_el0_69 : Cond.eq (.elem (.field (st_tm 0) "java/lang/String" "value" "[B") (.int (Int32.ofNat 69))) (.int ((ai_sbyt.getD 0 []).getD 69 0)) ∈ st_F := List.mem_of_getElem? (i := 82) rfl
theorem st_el0_70 : Cond.eq (.elem (.field (st_tm 0) "java/lang/String" "value" "[B") (.int (Int32.ofNat 70))) (.int ((ai_sbyt.getD 0 []).getD 70 0)) ∈ st_F := List.mem_of_getElem? (i := 83) rfl
theorem st_el0_71 : Cond.eq (.elem (.field (st_tm 0) "java/lang/String" "value" "[B") (.int (Int32.ofNat 71))) (.int ((ai_sbyt.getD 0 []).getD 71 0)) ∈ st_F := List.mem_of_getElem? (i := 84) rfl
theorem st_el0_72 : Cond.eq (.elem (.field (st_tm 0) "java/lang/String" "value" "[B") (.int (Int32.ofNat 72))) (.int ((ai_sbyt.getD 0 []).getD 72 0)) ∈ st_F := List.mem_of_getElem? (i := 85) rfl
theorem st_el0_73 : Cond.eq (.elem (.field (st_tm 0) "java/lang/String" "value" "[B") (.int (Int32.ofNat 73))) (.int ((ai_sbyt.getD 0 []).getD 73 0)) ∈ st_F := List.mem_of_getElem? (i := 86) rfl
theorem st_el0_74 : Cond.eq (.elem (.field (st_tm 0) "java/lang/String" "value" "[B") (.int (Int32.ofNat 74))) (.int ((ai_sbyt.getD 0 []).getD 74 0)) ∈ st_F := List.mem_of_getElem? (i := 87) rfl
theorem st_el0_75 : Cond.eq (.elem (.field (st_tm 0) "java/lang/String" "value" "[B") (.int (Int32.ofNat 75))) (.int ((ai_sbyt.getD 0 []).getD 75 0)) ∈ st_F := List.mem_of_getElem? (i := 88) rfl
theorem st_el0_76 : Cond.eq (.elem (.field (st_tm 0) "java/lang/String" "value" "[B") (.int (Int32.ofNat 76))) (.int ((ai_sbyt.getD 0 []).getD 76 0)) ∈ st_F := List.mem_of_getElem? (i := 89) rfl
theorem st_el0_77 : Cond.eq (.elem (.field (st_tm 0) "java/lang/String" "value" "[B") (.int (Int32.ofNat 77))) (.int ((ai_sbyt.getD 0 []).getD 77 0)) ∈ st_F := List.mem_of_getElem? (i := 90) rfl
theorem st_el0_78 : Cond.eq (.elem (.field (st_tm 0) "java/lang/String" "value" "[B") (.int (Int32.ofNat 78))) (.int ((ai_sbyt.getD 0 []).getD 78 0)) ∈ st_F := List.mem_of_getElem? (i := 91) rfl
theorem st_el0_79 : Cond.eq (.elem (.field (st_tm 0) "java/lang/String" "value" "[B") (.int (Int32.ofNat 79))) (.int ((ai_sbyt.getD 0 []).getD 79 0)) ∈ st_F := List.mem_of_getElem? (i := 92) rfl
theorem st_el0_80 : Cond.eq (.elem (.field (st_tm 0) "java/lang/String" "value" "[B") (.int (Int32.ofNat 80))) (.int ((ai_sbyt.getD 0 []).getD 80 0)) ∈ st_F := List.mem_of_getElem? (i := 93) rfl
theorem st_el0_81 : Cond.eq (.elem (.field (st_tm 0) "java/lang/String" "value" "[B") (.int (Int32.ofNat 81))) (.int ((ai_sbyt.getD 0 []).getD 81 0)) ∈ st_F := List.mem_of_getElem? (i := 94) rfl
theorem st_el0_82 : Cond.eq (.elem (.field (st_tm 0) "java/lang/String" "value" "[B") (.int (Int32.ofNat 82))) (.int ((ai_sbyt.getD 0 []).getD 82 0)) ∈ st_F := List.mem_of_getElem? (i := 95) rfl
theorem st_el0_83 : Cond.eq (.elem (.field (st_tm 0) "java/lang/String" "value" "[B") (.int (Int32.ofNat 83))) (.int ((ai_sbyt.getD 0 []).getD 83 0)) ∈ st_F := List.mem_of_getElem? (i := 96) rfl
theorem st_el0_84 : Cond.eq (.elem (.field (st_tm 0) "java/lang/String" "value" "[B") (.int (Int32.ofNat 84))) (.int ((ai_sbyt.getD 0 []).getD 84 0)) ∈ st_F := List.mem_of_getElem? (i := 97) rfl
theorem st_el0_85 : Cond.eq (.elem (.field (st_tm 0) "java/lang/String" "value" "[B") (.int (Int32.ofNat 85))) (.int ((ai_sbyt.getD 0 []).getD 85 0)) ∈ st_F := List.mem_of_getElem? (i := 98) rfl
theorem st_el0_86 : Cond.eq (.elem (.field (st_tm 0) "java/lang/String" "value" "[B") (.int (Int32.ofNat 86))) (.int ((ai_sbyt.getD 0 []).getD 86 0)) ∈ st_F := List.mem_of_getElem? (i := 99) rfl
theorem st_el0_87 : Cond.eq (.elem (.field (st_tm 0) "java/lang/String" "value" "[B") (.int (Int32.ofNat 87))) (.int ((ai_sbyt.getD 0 []).getD 87 0)) ∈ st_F := List.mem_of_getElem? (i := 100) rfl
theorem st_el0_88 : Cond.eq (.elem (.field (st_tm 0) "java/lang/String" "value" "[B") (.int (Int32.ofNat 88))) (.int ((ai_sbyt.getD 0 []).getD 88 0)) ∈ st_F := List.mem_of_getElem? (i := 101) rfl
theorem st_el0_89 : Cond.eq (.elem (.field (st_tm 0) "java/lang/String" "value" "[B") (.int (Int32.ofNat 89))) (.int ((ai_sbyt.getD 0 []).getD 89 0)) ∈ st_F := List.mem_of_getElem? (i := 102) rfl
theorem st_el0_90 : Cond.eq (.elem (.field (st_tm 0) "java/lang/String" "value" "[B") (.int (Int32.ofNat 90))) (.int ((ai_sbyt.getD 0 []).getD 90 0)) ∈ st_F := List.mem_of_getElem? (i := 103) rfl
theorem st_el0 : ∀ j, j < 91 → Cond.eq (.elem (.field (st_tm 0) "java/lang/String" "value" "[B") (.int (Int32.ofNat j))) (.int ((ai_sbyt.getD 0 []).getD j 0)) ∈ st_F := fun j hj => by match j, hj with | 0, _ => exact st_el0_0 | 1, _ => exact st_el0_1 | 2, _ => exact st_el0_2 | 3, _ => exact st_el0_3 | 4, _ => exact st_el0_4 | 5, _ => exact st_el0_5 | 6, _ => exact st_el0_6 | 7, _ => exact st_el0_7 | 8, _ => exact st_el0_8 | 9, _ => exact st_el0_9 | 10, _ => exact st_el0_10 | 11, _ => exact st_el0_11 | 12, _ => exact st_el0_12 | 13, _ => exact st_el0_13 | 14, _ => exact st_el0_14 | 15, _ => exact st_el0_15 | 16, _ => exact st_el0_16 | 17, _ => exact st_el0_17 | 18, _ => exact st_el0_18 | 19, _ => exact st_el0_19 | 20, _ => exact st_el0_20 | 21, _ => exact st_el0_21 | 22, _ => exact st_el0_22 | 23, _ => exact st_el0_23 | 24, _ => exact st_el0_24 | 25, _ => exact st_el0_25 | 26, _ => exact st_el0_26 | 27, _ => exact st_el0_27 | 28, _ => exact st_el0_28 | 29, _ => exact st_el0_29 | 30, _ => exact st_el0_30 | 31, _ => exact st_el0_31 | 32, _ => exact st_el0_32 | 33, _ => exact st_el0_33 | 34, _ => exact st_el0_34 | 35, _ => exact st_el0_35 | 36, _ => exact st_el0_36 | 37, _ => exact st_el0_37 | 38, _ => exact st_el0_38 | 39, _ => exact st_el0_39 | 40, _ => exact st_el0_40 | 41, _ => exact st_el0_41 | 42, _ => exact st_el0_42 | 43, _ => exact st_el0_43 | 44, _ => exact st_el0_44 | 45, _ => exact st_el0_45 | 46, _ => exact st_el0_46 | 47, _ => exact st_el0_47 | 48, _ => exact st_el0_48 | 49, _ => exact st_el0_49 | 50, _ => exact st_el0_50 | 51, _ => exact st_el0_51 | 52, _ => exact st_el0_52 | 53, _ => exact st_el0_53 | 54, _ => exact st_el0_54 | 55, _ => exact st_el0_55 | 56, _ => exact st_el0_56 | 57, _ => exact st_el0_57 | 58, _ => exact st_el0_58 | 59, _ => exact st_el0_59 | 60, _ => exact st_el0_60 | 61, _ => exact st_el0_61 | 62, _ => exact st_el0_62 | 63, _ => exact st_el0_63 | 64, _ => exact st_el0_64 | 65, _ => exact st_el0_65 | 66, _ => exact st_el0_66 | 67, _ => exact st_el0_67 | 68, _ => exact st_el0_68 | 69, _ => exact st_el0_69 | 70, _ => exact st_el0_70 | 71, _ => exact st_el0_71 | 72, _ => exact st_el0_72 | 73, _ => exact st_el0_73 | 74, _ => exact st_el0_74 | 75, _ => exact st_el0_75 | 76, _ => exact st_el0_76 | 77, _ => exact st_el0_77 | 78, _ => exact st_el0_78 | 79, _ => exact st_el0_79 | 80, _ => exact st_el0_80 | 81, _ => exact st_el0_81 | 82, _ => exact st_el0_82 | 83, _ => exact st_el0_83 | 84, _ => exact st_el0_84 | 85, _ => exact st_el0_85 | 86, _ => exact st_el0_86 | 87, _ => exact st_el0_87 | 88, _ => exact st_el0_88 | 89, _ => exact st_el0_89 | 90, _ => exact st_el0_90 | q + 91, h => exact absurd h (by omega)
theorem st_ex1 : Cond.exactly (st_tm 1) "java/lang/String" ∈ st_F := List.mem_of_getElem? (i := 104) rfl
theorem st_co1 : Cond.eq (.field (st_tm 1) "java/lang/String" "coder" "B") (.int 0) ∈ st_F := List.mem_of_getElem? (i := 105) rfl
theorem st_ar1 : Cond.arrayOf (.field (st_tm 1) "java/lang/String" "value" "[B") .byte ∈ st_F := List.mem_of_getElem? (i := 106) rfl
theorem st_le1 : Cond.eq (.length (.field (st_tm 1) "java/lang/String" "value" "[B")) (.int (Int32.ofNat (ai_slen.getD 1 0))) ∈ st_F := List.mem_of_getElem? (i := 107) rfl
theorem st_el1_0 : Cond.eq (.elem (.field (st_tm 1) "java/lang/String" "value" "[B") (.int (Int32.ofNat 0))) (.int ((ai_sbyt.getD 1 []).getD 0 0)) ∈ st_F := List.mem_of_getElem? (i := 108) rfl
theorem st_el1_1 : Cond.eq (.elem (.field (st_tm 1) "java/lang/String" "value" "[B") (.int (Int32.ofNat 1))) (.int ((ai_sbyt.getD 1 []).getD 1 0)) ∈ st_F := List.mem_of_getElem? (i := 109) rfl
theorem st_el1_2 : Cond.eq (.elem (.field (st_tm 1) "java/lang/String" "value" "[B") (.int (Int32.ofNat 2))) (.int ((ai_sbyt.getD 1 []).getD 2 0)) ∈ st_F := List.mem_of_getElem? (i := 110) rfl
theorem st_el1_3 : Cond.eq (.elem (.field (st_tm 1) "java/lang/String" "value" "[B") (.int (Int32.ofNat 3))) (.int ((ai_sbyt.getD 1 []).getD 3 0)) ∈ st_F := List.mem_of_getElem? (i := 111) rfl
theorem st_el1_4 : Cond.eq (.elem (.field (st_tm 1) "java/lang/String" "value" "[B") (.int (Int32.ofNat 4))) (.int ((ai_sbyt.getD 1 []).getD 4 0)) ∈ st_F := List.mem_of_getElem? (i := 112) rfl
theorem st_el1_5 : Cond.eq (.elem (.field (st_tm 1) "java/lang/String" "value" "[B") (.int (Int32.ofNat 5))) (.int ((ai_sbyt.getD 1 []).getD 5 0)) ∈ st_F := List.mem_of_getElem? (i := 113) rfl
theorem st_el1_6 : Cond.eq (.elem (.field (st_tm 1) "java/lang/String" "value" "[B") (.int (Int32.ofNat 6))) (.int ((ai_sbyt.getD 1 []).getD 6 0)) ∈ st_F := List.mem_of_getElem? (i := 114) rfl
theorem st_el1_7 : Cond.eq (.elem (.field (st_tm 1) "java/lang/String" "value" "[B") (.int (Int32.ofNat 7))) (.int ((ai_sbyt.getD 1 []).getD 7 0)) ∈ st_F := List.mem_of_getElem? (i := 115) rfl
theorem st_el1_8 : Cond.eq (.elem (.field (st_tm 1) "java/lang/String" "value" "[B") (.int (Int32.ofNat 8))) (.int ((ai_sbyt.getD 1 []).getD 8 0)) ∈ st_F := List.mem_of_getElem? (i := 116) rfl
theorem st_el1_9 : Cond.eq (.elem (.field (st_tm 1) "java/lang/String" "value" "[B") (.int (Int32.ofNat 9))) (.int ((ai_sbyt.getD 1 []).getD 9 0)) ∈ st_F := List.mem_of_getElem? (i := 117) rfl
theorem st_el1_10 : Cond.eq (.elem (.field (st_tm 1) "java/lang/String" "value" "[B") (.int (Int32.ofNat 10))) (.int ((ai_sbyt.getD 1 []).getD 10 0)) ∈ st_F := List.mem_of_getElem? (i := 118) rfl
theorem st_el1 : ∀ j, j < 11 → Cond.eq (.elem (.field (st_tm 1) "java/lang/String" "value" "[B") (.int (Int32.ofNat j))) (.int ((ai_sbyt.getD 1 []).getD j 0)) ∈ st_F := fun j hj => by match j, hj with | 0, _ => exact st_el1_0 | 1, _ => exact st_el1_1 | 2, _ => exact st_el1_2 | 3, _ => exact st_el1_3 | 4, _ => exact st_el1_4 | 5, _ => exact st_el1_5 | 6, _ => exact st_el1_6 | 7, _ => exact st_el1_7 | 8, _ => exact st_el1_8 | 9, _ => exact st_el1_9 | 10, _ => exact st_el1_10 | q + 11, h => exact absurd h (by omega)
theorem st_ne : Cond.not (Cond.eq (st_tm 0) (st_tm 1)) ∈ st_F := List.mem_of_getElem? (i := 119) rfl
theorem st_cs : Cond.eq (.static "java/lang/String" "COMPACT_STRINGS" "Z") (.int 1) ∈ st_F := List.mem_of_getElem? (i := 4) rfl
theorem st_sf : Cond.isRef (.static "jdk/internal/util/Preconditions" "SIOOBE_FORMATTER" "Ljava/util/function/BiFunction;") ∈ st_F := List.mem_of_getElem? (i := 5) rfl
theorem st_ls1 : Cond.laysStatic "java/lang/String" "COMPACT_STRINGS" "Z" ∈ lw_tbl := by unfold lw_tbl tables_1; exact List.mem_append_right _ (List.mem_append_right _ (List.mem_append_left _ (List.mem_of_getElem? (i := 233) rfl)))
theorem st_ls2 : Cond.laysStatic "jdk/internal/util/Preconditions" "SIOOBE_FORMATTER" "Ljava/util/function/BiFunction;" ∈ lw_tbl := by unfold lw_tbl tables_1; exact List.mem_append_right _ (List.mem_append_right _ (List.mem_append_right _ (List.mem_append_left _ (List.mem_of_getElem? (i := 9) rfl))))
theorem st_i1 : Cond.initialized "java/lang/String" ∈ lw_tbl := by unfold lw_tbl tables_1; exact List.mem_append_right _ (List.mem_append_left _ (List.mem_of_getElem? (i := 15) rfl))
theorem st_i2 : Cond.initialized "jdk/internal/util/Preconditions" ∈ lw_tbl := by unfold lw_tbl tables_1; exact List.mem_append_right _ (List.mem_append_left _ (List.mem_of_getElem? (i := 17) rfl))
theorem st_s0 : Cond.stringRef "CoinBoats$Tokens" 80 ai_tx0 ∈ lw_tbl := by unfold lw_tbl tables_1; exact List.mem_append_right _ (List.mem_append_right _ (List.mem_append_left _ (List.mem_of_getElem? (i := 223) rfl)))
theorem st_s1 : Cond.stringRef "CoinBoats$Tokens" 68 ai_tx1 ∈ lw_tbl := by unfold lw_tbl tables_1; exact List.mem_append_right _ (List.mem_append_right _ (List.mem_append_right _ (List.mem_append_left _ (List.mem_of_getElem? (i := 41) rfl))))
theorem st_in0 : Cond.instantiable RX0 3 ∈ lw_tbl := by unfold lw_tbl tables_1; exact List.mem_append_right _ (List.mem_append_right _ (List.mem_append_left _ (List.mem_of_getElem? (i := 22) rfl)))
theorem st_in1 : Cond.instantiable RX1 4 ∈ lw_tbl := by unfold lw_tbl tables_1; exact List.mem_append_right _ (List.mem_append_right _ (List.mem_append_left _ (List.mem_of_getElem? (i := 42) rfl)))
theorem st_in2 : Cond.instantiable RX2 5 ∈ lw_tbl := by unfold lw_tbl tables_1; exact List.mem_append_right _ (List.mem_append_left _ (List.mem_of_getElem? (i := 60) rfl))
theorem st_in3 : Cond.instantiable RX3 8 ∈ lw_tbl := by unfold lw_tbl tables_1; exact List.mem_append_right _ (List.mem_append_right _ (List.mem_append_left _ (List.mem_of_getElem? (i := 79) rfl)))
theorem st_in4 : Cond.instantiable RX4 1 ∈ lw_tbl := by unfold lw_tbl tables_1; exact List.mem_append_right _ (List.mem_append_left _ (List.mem_of_getElem? (i := 200) rfl))
theorem st_in5 : Cond.instantiable RX5 8 ∈ lw_tbl := by unfold lw_tbl tables_1; exact List.mem_append_right _ (List.mem_append_left _ (List.mem_of_getElem? (i := 134) rfl))
theorem st_in6 : Cond.instantiable RX6 4 ∈ lw_tbl := by unfold lw_tbl tables_1; exact List.mem_append_right _ (List.mem_append_left _ (List.mem_of_getElem? (i := 36) rfl))
theorem st_in7 : Cond.instantiable RX7 9 ∈ lw_tbl := by unfold lw_tbl tables_1; exact List.mem_append_right _ (List.mem_append_left _ (List.mem_of_getElem? (i := 194) rfl))
theorem st_in8 : Cond.instantiable RX8 3 ∈ lw_tbl := by unfold lw_tbl tables_1; exact List.mem_append_right _ (List.mem_append_right _ (List.mem_append_left _ (List.mem_of_getElem? (i := 63) rfl)))
theorem st_in9 : Cond.instantiable RX9 8 ∈ lw_tbl := by unfold lw_tbl tables_1; exact List.mem_append_right _ (List.mem_append_left _ (List.mem_of_getElem? (i := 30) rfl))
theorem st_in10 : Cond.instantiable RX10 7 ∈ lw_tbl := by unfold lw_tbl tables_1; exact List.mem_append_right _ (List.mem_append_left _ (List.mem_of_getElem? (i := 140) rfl))
theorem st_in11 : Cond.instantiable RX11 13 ∈ lw_tbl := by unfold lw_tbl tables_1; exact List.mem_append_right _ (List.mem_append_left _ (List.mem_of_getElem? (i := 22) rfl))
theorem st_in12 : Cond.instantiable RX12 44 ∈ lw_tbl := by unfold lw_tbl tables_1; exact List.mem_append_right _ (List.mem_append_right _ (List.mem_append_right _ (List.mem_append_right _ (List.mem_append_right _ (List.mem_append_right _ (List.mem_append_left _ (List.mem_of_getElem? (i := 120) rfl)))))))
theorem st_a13 : Cond.arrayClass .int ∈ lw_tbl := by unfold lw_tbl tables_1; exact List.mem_append_right _ (List.mem_append_left _ (List.mem_of_getElem? (i := 58) rfl))
theorem st_a14 : Cond.arrayClass .long ∈ lw_tbl := by unfold lw_tbl tables_1; exact List.mem_append_right _ (List.mem_append_left _ (List.mem_of_getElem? (i := 167) rfl))
theorem st_a15 : Cond.arrayClass .byte ∈ lw_tbl := by unfold lw_tbl tables_1; exact List.mem_append_right _ (List.mem_append_left _ (List.mem_of_getElem? (i := 57) rfl))
theorem st_a16 : Cond.arrayClass .boolean ∈ lw_tbl := by unfold lw_tbl tables_1; exact List.mem_append_right _ (List.mem_append_right _ (List.mem_append_right _ (List.mem_append_right _ (List.mem_append_right _ (List.mem_append_right _ (List.mem_append_right _ (List.mem_append_left _ (List.mem_of_getElem? (i := 19) rfl))))))))
theorem st_nf0 : Cond.fieldLinkNest "CoinBoats$Calendar" 45 "CoinBoats$State" "time" "I" "CoinBoats" ∈ lw_tbl := by unfold lw_tbl tables_1; exact List.mem_append_right _ (List.mem_append_left _ (List.mem_of_getElem? (i := 230) rfl))
theorem st_nf1 : Cond.fieldLinkNest "CoinBoats" 153 "CoinBoats$State" "time" "I" "CoinBoats" ∈ lw_tbl := by unfold lw_tbl tables_1; exact List.mem_append_right _ (List.mem_append_left _ (List.mem_of_getElem? (i := 231) rfl))
theorem st_nf2 : Cond.fieldLinkNest "CoinBoats$Calendar" 158 "CoinBoats$State" "spentHarm" "J" "CoinBoats" ∈ lw_tbl := by unfold lw_tbl tables_1; exact List.mem_append_right _ (List.mem_append_left _ (List.mem_of_getElem? (i := 233) rfl))
theorem st_nf3 : Cond.fieldLinkNest "CoinBoats" 186 "CoinBoats$State" "spentHarm" "J" "CoinBoats" ∈ lw_tbl := by unfold lw_tbl tables_1; exact List.mem_append_right _ (List.mem_append_left _ (List.mem_of_getElem? (i := 234) rfl))
theorem st_nf4 : Cond.fieldLinkNest "CoinBoats$Calendar" 85 "CoinBoats$State" "spentBoats" "J" "CoinBoats" ∈ lw_tbl := by unfold lw_tbl tables_1; exact List.mem_append_right _ (List.mem_append_left _ (List.mem_of_getElem? (i := 236) rfl))
theorem st_nf5 : Cond.fieldLinkNest "CoinBoats" 189 "CoinBoats$State" "spentBoats" "J" "CoinBoats" ∈ lw_tbl := by unfold lw_tbl tables_1; exact List.mem_append_right _ (List.mem_append_left _ (List.mem_of_getElem? (i := 237) rfl))
theorem st_nf6 : Cond.fieldLinkNest "CoinBoats" 143 "CoinBoats$State" "spentNew" "J" "CoinBoats" ∈ lw_tbl := by unfold lw_tbl tables_1; exact List.mem_append_right _ (List.mem_append_left _ (List.mem_of_getElem? (i := 239) rfl))
theorem st_nf7 : Cond.fieldLinkNest "CoinBoats" 324 "CoinBoats$State" "isHeld" "Z" "CoinBoats" ∈ lw_tbl := by unfold lw_tbl tables_1; exact List.mem_append_right _ (List.mem_append_right _ (List.mem_append_left _ (List.mem_of_getElem? (i := 1) rfl)))
theorem st_nm0 : Cond.methodLinkNest "CoinBoats$Tokens" 29 ⟨"CoinBoats", "limit", "(II)I"⟩ "CoinBoats" ∈ lw_tbl := by unfold lw_tbl tables_1; exact List.mem_append_right _ (List.mem_append_right _ (List.mem_append_left _ (List.mem_of_getElem? (i := 190) rfl)))
theorem st_nm1 : Cond.methodLinkNest "CoinBoats$Text" 65 ⟨"CoinBoats", "limit", "(II)I"⟩ "CoinBoats" ∈ lw_tbl := by unfold lw_tbl tables_1; exact List.mem_append_right _ (List.mem_append_right _ (List.mem_append_right _ (List.mem_append_right _ (List.mem_append_left _ (List.mem_of_getElem? (i := 85) rfl)))))
theorem st_nm2 : Cond.methodLinkNest "CoinBoats$Pieces" 37 ⟨"CoinBoats", "limit", "(II)I"⟩ "CoinBoats" ∈ lw_tbl := by unfold lw_tbl tables_1; exact List.mem_append_right _ (List.mem_append_right _ (List.mem_append_right _ (List.mem_append_right _ (List.mem_append_left _ (List.mem_of_getElem? (i := 186) rfl)))))
theorem st_nm3 : Cond.methodLinkNest "CoinBoats$Calendar" 121 ⟨"CoinBoats", "limit", "(II)I"⟩ "CoinBoats" ∈ lw_tbl := by unfold lw_tbl tables_1; exact List.mem_append_right _ (List.mem_append_right _ (List.mem_append_right _ (List.mem_append_right _ (List.mem_append_left _ (List.mem_of_getElem? (i := 212) rfl)))))
theorem st_nw {A : Array Value} {s : State} (hts : ∀ w ∈ lw_tbl, w.before A s = true) : ai_nw s := ⟨(List.forall_mem_cons.mpr ⟨va_Nw.of rfl (hts _ st_nf0), (List.forall_mem_cons.mpr ⟨va_Nw.of rfl (hts _ st_nf1), (List.forall_mem_cons.mpr ⟨va_Nw.of rfl (hts _ st_nf2), (List.forall_mem_cons.mpr ⟨va_Nw.of rfl (hts _ st_nf3), (List.forall_mem_cons.mpr ⟨va_Nw.of rfl (hts _ st_nf4), (List.forall_mem_cons.mpr ⟨va_Nw.of rfl (hts _ st_nf5), (List.forall_mem_cons.mpr ⟨va_Nw.of rfl (hts _ st_nf6), (List.forall_mem_cons.mpr ⟨va_Nw.of rfl (hts _ st_nf7), (fun _ h => absurd h List.not_mem_nil)⟩)⟩)⟩)⟩)⟩)⟩)⟩)⟩), (List.forall_mem_cons.mpr ⟨va_Nw.of rfl (hts _ st_nm0), (List.forall_mem_cons.mpr ⟨va_Nw.of rfl (hts _ st_nm1), (List.forall_mem_cons.mpr ⟨va_Nw.of rfl (hts _ st_nm2), (List.forall_mem_cons.mpr ⟨va_Nw.of rfl (hts _ st_nm3), (fun _ h => absurd h List.not_mem_nil)⟩)⟩)⟩)⟩)⟩
theorem st_K {A : Array Value} {s : State} (hts : ∀ w ∈ lw_tbl, w.before A s = true) : ∃ (D : va_G) (cA : Nat → ClassId), va_K D vwCl (ai_tys cA) s := by
  have ht : ∀ w ∈ ai_tb, w.before A s = true := fun w hw => hts w (ai_tb_sub w hw)
  have one : ∀ (c : Nat) (r : vw_C), vwCl[c]? = some r → ∃ (cC : ClassId) (iS : Nat → Nat), u_Kn s r.1 r.2.1 r.2.2 cC iS := fun c r h => match c, r, h with
    | 0, r, h => by cases h; exact u_known ht in_0 (hts _ st_in0)
    | 1, r, h => by cases h; exact u_known ht in_1 (hts _ st_in1)
    | 2, r, h => by cases h; exact u_known ht in_2 (hts _ st_in2)
    | 3, r, h => by cases h; exact u_known ht in_3 (hts _ st_in3)
    | 4, r, h => by cases h; exact u_known ht in_4 (hts _ st_in4)
    | 5, r, h => by cases h; exact u_known ht in_5 (hts _ st_in5)
    | 6, r, h => by cases h; exact u_known ht in_6 (hts _ st_in6)
    | 7, r, h => by cases h; exact u_known ht in_7 (hts _ st_in7)
    | 8, r, h => by cases h; exact u_known ht in_8 (hts _ st_in8)
    | 9, r, h => by cases h; exact u_known ht in_9 (hts _ st_in9)
    | 10, r, h => by cases h; exact u_known ht in_10 (hts _ st_in10)
    | 11, r, h => by cases h; exact u_known ht in_11 (hts _ st_in11)
    | 12, r, h => by cases h; exact u_known ht in_12 (hts _ st_in12)
    | c + 13, r, h => by cases h
  have two : ∀ c : Nat, ∃ q : ClassId × (Nat → Nat), ∀ r : vw_C, vwCl[c]? = some r → u_Kn s r.1 r.2.1 r.2.2 q.1 q.2 := by
    intro c
    cases hc : vwCl[c]? with
    | none => exact ⟨(0, fun _ => 0), fun r h => by cases h⟩
    | some r0 =>
      obtain ⟨cC, iS, h⟩ := one c r0 hc
      exact ⟨(cC, iS), fun r hr => by cases hr; exact h⟩
  obtain ⟨f, hf⟩ := Classical.axiomOfChoice two
  have arr : ∀ ty : FieldType, Cond.arrayClass ty ∈ lw_tbl → ∃ cA : ClassId, ArrOfT s cA ty ∧ s.vm.findClass ("[" ++ ty.toString) = some cA := by
    intro ty hty
    have h1 := Cond.arrayClass_spec (hts _ hty)
    obtain ⟨cA, kA, comp, g1, g2, g3⟩ := h1
    exact ⟨cA, fun n z => ⟨fun k h => (by cases h), kA, g2, comp, g3⟩, g1⟩
  obtain ⟨c13, a13, b13⟩ := arr .int st_a13
  obtain ⟨c14, a14, b14⟩ := arr .long st_a14
  obtain ⟨c15, a15, b15⟩ := arr .byte st_a15
  obtain ⟨c16, a16, b16⟩ := arr .boolean st_a16
  refine ⟨(fun c => (f c).1, fun c => (f c).2), fun k => match k with | 13 => c13 | 14 => c14 | 15 => c15 | _ => c16, fun c r h => hf c r h, fun k q hq => ?_⟩
  match k, hq with
  | 0, hq => cases hq; exact ⟨a13, b13⟩
  | 1, hq => cases hq; exact ⟨a14, b14⟩
  | 2, hq => cases hq; exact ⟨a15, b15⟩
  | 3, hq => cases hq; exact ⟨a16, b16⟩
  | k + 4, hq => cases hq
theorem ini0_cnt (L : Nat) (xs : Nat → Int32) (c : Nat) (hc : c < 17) : (ini0 L xs).2.2.2.1 c = 0 := by
  show (match c with | 17 => 1 | 18 => 2 | 19 => 2 | 20 => 1 | _ => 0) = 0
  split <;> first | rfl | omega
theorem st_ev {own : String} {k : Nat} {A : Array Value} {s : State} {v : Value} (h : (Term.string own k).eval A s none [] s = some v) : (Term.string own k).eval #[] s none [] s = some v := by
  rw [Term.string_eval_of_vm (args := A) (args' := #[]) (U := s) (V := s) rfl]
  exact h
/-- the world with which the law begins -/
theorem st_world {b L : Nat} {xs : Nat → Int32} {s : State} (hts : ∀ w ∈ lw_tbl, w.before #[Value.ref b] s = true) (hX : va_X b L xs s s.heap) (hbl : b < s.heap.size) (hgv : (Jvm.Cond.and given_1 narrow_1).before #[Value.ref b] s = true) :
    ∃ (D : va_G) (cA : Nat → ClassId) (vz : Value) (ad : Nat → Nat → Nat), ad 17 0 = b ∧ ai_HP D cA s.heap.size L xs ad (ini0 L xs) s.heap ∧ ai_KC D cA s.heap.size L xs vz ad s s.heap := by
  obtain ⟨D, cA, hK⟩ := st_K hts
  have hF := flat_of_before _ hgv
  have hA : ∀ a : Nat, a < s.heap.size → ¬ (fun q => s.heap.size ≤ q) a := fun a h => Nat.not_le.mpr h
  obtain ⟨adK, adV, hS, hR⟩ := vk_Sof (args := #[Value.ref b]) (s := s) (N := 2) (tm := st_tm) (len := ai_slen) (byt := ai_sbyt) (A := fun q => s.heap.size ≤ q)
    (fun i hi => by match i, hi with | 0, _ => decide | 1, _ => decide | q + 2, h => exact absurd h (by omega))
    (fun i hi => by match i, hi with | 0, _ => exact hF _ st_ex0 | 1, _ => exact hF _ st_ex1 | q + 2, h => exact absurd h (by omega))
    (fun i hi => by match i, hi with | 0, _ => exact hF _ st_co0 | 1, _ => exact hF _ st_co1 | q + 2, h => exact absurd h (by omega))
    (fun i hi => by match i, hi with | 0, _ => exact hF _ st_ar0 | 1, _ => exact hF _ st_ar1 | q + 2, h => exact absurd h (by omega))
    (fun i hi => by match i, hi with | 0, _ => exact hF _ st_le0 | 1, _ => exact hF _ st_le1 | q + 2, h => exact absurd h (by omega))
    (fun i hi j hj => by match i, hi, hj with | 0, _, hj => exact hF _ (st_el0 j hj) | 1, _, hj => exact hF _ (st_el1 j hj) | q + 2, h, _ => exact absurd h (by omega))
    (fun i j hi hj hij => by match i, j, hi, hj, hij with | 0, 1, _, _, _ => exact Or.inl (hF _ st_ne) | 1, 0, _, _, _ => exact Or.inr (hF _ st_ne) | 0, 0, _, _, h => exact absurd rfl h | 1, 1, _, _, h => exact absurd rfl h | q + 2, _, h, _, _ => exact absurd h (by omega) | _, q + 2, _, h, _ => exact absurd h (by omega)) hA
  have hZ1 := va_Zof (A := fun q => s.heap.size ≤ q) (hts _ st_ls1) (hts _ st_i1) (va_eqi (hF _ st_cs)) hA
  have hZ2 := va_Zqof (A := fun q => s.heap.size ≤ q) (hts _ st_ls2) (hts _ st_i2) (hF _ st_sf) hA
  obtain ⟨vz, hvz, hZ3⟩ : ∃ vz : Value, (vz = .null ∨ ∃ t, vz = .ref t) ∧ va_Z "jdk/internal/util/Preconditions" "SIOOBE_FORMATTER" "Ljava/util/function/BiFunction;" vz (fun q => s.heap.size ≤ q) s s.heap := by
    rcases hZ2 with h | ⟨t, h⟩
    · exact ⟨.null, Or.inl rfl, h⟩
    · exact ⟨.ref t, Or.inr ⟨t, rfl⟩, h⟩
  refine ⟨D, cA, vz, fun c i => match c with | 17 => b | 18 => adK i | 19 => adV i | _ => 0, rfl, ⟨fun c i hc hi => ?_, fun c i c' i' hc hi => ?_, fun c i j b' hc hi => ?_, ⟨fun j => rfl, rfl, fun i hi => ⟨rfl, fun j => rfl⟩, rfl, rfl, rfl, rfl⟩, Nat.le_refl _⟩, hK, ⟨hX, hbl⟩, hS, hZ1, hZ3, ?_, ⟨?_, st_nw hts⟩, Nat.le_refl _, hvz⟩
  · exfalso; exact Nat.not_lt_zero i (by rw [← ini0_cnt L xs c hc]; exact hi)
  · exfalso; exact Nat.not_lt_zero i (by rw [← ini0_cnt L xs c hc]; exact hi)
  · exfalso; exact Nat.not_lt_zero i (by rw [← ini0_cnt L xs c (by omega)]; exact hi)
  · exact vk_R.of (hts _ st_s0) (hR 0 (by decide))
  · exact vk_R.of (hts _ st_s1) (hR 1 (by decide))
