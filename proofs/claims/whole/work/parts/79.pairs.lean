/-! THE PAIRS THAT ARE STILL TO PROVE: written by program (wip/whole/gen/law.py) -/
theorem P_feed (a1 a2 a3 a4 a5 : Int32) : Pair (f_CB_feed NF a1 a2 a3 a4 a5) (f_M_feed NF a1 a2 a3 a4 a5) := sorry
theorem P_read : Pair (f_CB_read NF) (f_M_read NF) := sorry
theorem P_boat (a1 a2 : Int32) : PairR (f_CB_boat NF a1 a2) (f_M_boat NF a1 a2) := sorry
theorem P_want (a1 a2 a3 : Int32) : Pair (f_CB_want NF a1 a2 a3) (f_M_want NF a1 a2 a3) := sorry
theorem P_send (a1 a2 a3 a4 a5 : Int32) (hb : a5 = 0 ∨ a5 = 1) : Pair (f_CB_send NF a1 a2 a3 a4 a5) (f_M_send a1 a2 a3 a4 a5) := sorry
theorem P_judge : Pair (f_CB_judge NF) (f_M_judge NF) := sorry
theorem P_why : Pair (f_CB_why NF) (f_M_why NF) := sorry
theorem P_months (a1 a2 : Int32) : Pair (f_CB_months NF a1 a2) (f_M_months NF a1 a2) := sorry
theorem P_pay (a1 a2 a3 : Int32) : Pair (f_CB_pay NF a1 a2 a3) (f_M_pay NF a1 a2 a3) := sorry
theorem P_change (a1 a2 a3 a4 : Int32) : Pair (f_CB_change NF a1 a2 a3 a4) (f_M_change NF a1 a2 a3 a4) := sorry
theorem P_which (a1 a2 : Int32) : Pair (f_CB_which NF a1 a2) (f_M_which NF a1 a2) := sorry
theorem P_whichSum (a1 a2 : Int32) : Pair (f_CB_whichSum NF a1 a2) (f_M_whichSum NF a1 a2) := sorry
theorem P_least (a1 a2 a3 a4 a5 a6 : Int32) : Pair (f_CB_least NF a1 a2 a3 a4 a5 a6) (f_M_least NF a1 a2 a3 a4 a5 a6) := sorry
theorem P_order (a1 a2 a3 a4 a5 a6 : Int32) : Pair (f_CB_order NF a1 a2 a3 a4 a5 a6) (f_M_order NF a1 a2 a3 a4 a5 a6) := sorry
theorem P_price (a1 a2 a3 a4 a5 a6 : Int32) : Pair (f_CB_price NF a1 a2 a3 a4 a5 a6) (f_M_price NF a1 a2 a3 a4 a5 a6) := sorry
theorem P_pool (a1 a2 a3 : Int32) : Pair (f_CB_pool NF a1 a2 a3) (f_M_pool NF a1 a2 a3) := sorry
theorem P_saved (a1 a2 a3 : Int32) : Pair (f_CB_saved NF a1 a2 a3) (f_M_saved NF a1 a2 a3) := sorry
theorem P_holds (a1 a2 a3 a4 a5 a6 : Int32) : Pair (f_CB_holds NF a1 a2 a3 a4 a5 a6) (f_M_holds NF a1 a2 a3 a4 a5 a6) := sorry
theorem P_book (a1 a2 a3 a4 : Int32) (hb : a4 = 0 ∨ a4 = 1) : Pair (f_CB_book NF a1 a2 a3 a4) (f_M_book a1 a2 a3 a4) := sorry
theorem P_looked (a1 a2 a3 : Int32) : Pair (f_CB_looked NF a1 a2 a3) (f_M_looked a1 a2 a3) := sorry
theorem P_annul (a1 : Int32) : Pair (f_CB_annul NF a1) (f_M_annul a1) := sorry
theorem P_balance (a1 a2 a3 : Int32) : Pair (f_CB_balance NF a1 a2 a3) (rdr (f_M_balance NF a1 a2 a3)) := sorry
theorem P_richest (a1 : Int32) : Pair (f_CB_richest NF a1) (rdr (f_M_richest NF a1)) := sorry
theorem P_jars (a1 a2 a3 a4 : Int32) : Pair (f_CB_jars NF a1 a2 a3 a4) (f_M_jars NF a1 a2 a3 a4) := sorry
theorem P_ends (a1 a2 a3 a4 : Int32) : Pair (f_CB_ends NF a1 a2 a3 a4) (f_M_ends NF a1 a2 a3 a4) := sorry
theorem P_whose (a1 : Int32) : Pair (f_CB_whose NF a1) (f_M_whose NF a1) := sorry
theorem P_whoseWays (a1 a2 a3 : Int32) (hb : a3 = 0 ∨ a3 = 1) : Pair (f_CB_whoseWays NF a1 a2 a3) (f_M_whoseWays NF a1 a2 a3) := sorry
theorem P_trickle (a1 a2 a3 a4 : Int32) : PairR (f_CB_trickle NF a1 a2 a3 a4) (f_M_trickle NF a1 a2 a3 a4) := sorry
theorem P_trickled (a1 a2 a3 a4 : Int32) : PairR (f_CB_trickled NF a1 a2 a3 a4) (f_M_trickled NF a1 a2 a3 a4) := sorry
theorem P_burnAt (a1 a2 a3 : Int32) : PairR (f_CB_burnAt NF a1 a2 a3) (f_M_burnAt NF a1 a2 a3) := sorry
theorem P_sort (a1 a2 a3 a4 a5 a6 a7 : Int32) : PairR (f_CB_sort a1 a2 a3 a4 a5 a6 a7) (f_M_sort a1 a2 a3 a4 a5 a6 a7) := sorry
theorem P_hold (a1 : Int32) : Pair (f_CB_hold NF a1) (f_M_hold NF a1) := sorry
theorem P_restore (a1 : Int32) : Pair (f_CB_restore NF a1) (f_M_restore NF a1) := sorry
