/-! WORDS, METHODS: written by program (wip/whole/gen/codes.py) -/
theorem ai_wd {w : Cond} (h : w ∈ tables_1) (g : goodWord w = true) : w ∈ ai_tb := List.mem_filter.mpr ⟨by unfold lw_tbl; exact List.mem_append_right _ h, g⟩
theorem ai_wd1 {w : Cond} (i : Nat) (h : tables_1_1[i]? = some w) (g : goodWord w = true) : w ∈ ai_tb := ai_wd (by unfold tables_1; exact List.mem_append_left _ (List.mem_of_getElem? h)) g
theorem ai_wd2 {w : Cond} (i : Nat) (h : tables_1_2[i]? = some w) (g : goodWord w = true) : w ∈ ai_tb := ai_wd (by unfold tables_1; exact List.mem_append_right _ (List.mem_append_left _ (List.mem_of_getElem? h))) g
theorem ai_wd3 {w : Cond} (i : Nat) (h : tables_1_3[i]? = some w) (g : goodWord w = true) : w ∈ ai_tb := ai_wd (by unfold tables_1; exact List.mem_append_right _ (List.mem_append_right _ (List.mem_append_left _ (List.mem_of_getElem? h)))) g
theorem ai_wd4 {w : Cond} (i : Nat) (h : tables_1_4[i]? = some w) (g : goodWord w = true) : w ∈ ai_tb := ai_wd (by unfold tables_1; exact List.mem_append_right _ (List.mem_append_right _ (List.mem_append_right _ (List.mem_append_left _ (List.mem_of_getElem? h))))) g
theorem ai_wd5 {w : Cond} (i : Nat) (h : tables_1_5[i]? = some w) (g : goodWord w = true) : w ∈ ai_tb := ai_wd (by unfold tables_1; exact List.mem_append_right _ (List.mem_append_right _ (List.mem_append_right _ (List.mem_append_right _ (List.mem_append_left _ (List.mem_of_getElem? h)))))) g
theorem ai_wd6 {w : Cond} (i : Nat) (h : tables_1_6[i]? = some w) (g : goodWord w = true) : w ∈ ai_tb := ai_wd (by unfold tables_1; exact List.mem_append_right _ (List.mem_append_right _ (List.mem_append_right _ (List.mem_append_right _ (List.mem_append_right _ (List.mem_append_left _ (List.mem_of_getElem? h))))))) g
theorem ai_wd7 {w : Cond} (i : Nat) (h : tables_1_7[i]? = some w) (g : goodWord w = true) : w ∈ ai_tb := ai_wd (by unfold tables_1; exact List.mem_append_right _ (List.mem_append_right _ (List.mem_append_right _ (List.mem_append_right _ (List.mem_append_right _ (List.mem_append_right _ (List.mem_append_left _ (List.mem_of_getElem? h)))))))) g
theorem ai_wd8 {w : Cond} (i : Nat) (h : tables_1_8[i]? = some w) (g : goodWord w = true) : w ∈ ai_tb := ai_wd (by unfold tables_1; exact List.mem_append_right _ (List.mem_append_right _ (List.mem_append_right _ (List.mem_append_right _ (List.mem_append_right _ (List.mem_append_right _ (List.mem_append_right _ (List.mem_append_left _ (List.mem_of_getElem? h))))))))) g
theorem ai_wd9 {w : Cond} (i : Nat) (h : tables_1_9[i]? = some w) (g : goodWord w = true) : w ∈ ai_tb := ai_wd (by unfold tables_1; exact List.mem_append_right _ (List.mem_append_right _ (List.mem_append_right _ (List.mem_append_right _ (List.mem_append_right _ (List.mem_append_right _ (List.mem_append_right _ (List.mem_append_right _ (List.mem_of_getElem? h))))))))) g
theorem ai_wdp {y : MethodName} (i n : Nat) (h : lw_privs[i]? = some (y, n)) : Cond.selects y.cls y y ∈ ai_tb := List.mem_filter.mpr ⟨by
  unfold lw_tbl
  refine List.mem_append_left _ ?_
  unfold k2_sels
  exact List.mem_map.mpr ⟨(y, n), List.mem_of_getElem? h, rfl⟩, rfl⟩
theorem ai_br {b : Bool} {x y : Option ai_Op} {o : ai_Op} {G : Prop} (f : x = some o → G) (g : y = some o → G) : cond b x y = some o → G := by
  cases b
  · exact g
  · exact f
theorem ai_nn {o : ai_Op} {G : Prop} : (none : Option ai_Op) = some o → G := fun h => by cases h
def ai_SM (T : Nat → ai_Mt) (M : ai_Mt) (pc : Nat) (op : ai_Op) : Prop := ai_Sn T M pc op ∧ ai_M op
theorem ai_lf {T : Nat → ai_Mt} {M : ai_Mt} {pc k : Nat} {o op : ai_Op} (h : ai_SM T M k o) : cond (Nat.beq pc k) (some o) none = some op → ai_SM T M pc op := by
  intro e
  cases hb : Nat.beq pc k with
  | false => rw [hb] at e; cases e
  | true =>
    rw [hb] at e
    have hk := Nat.eq_of_beq_eq_true hb
    subst hk
    cases e
    exact h
theorem ai_nfZ (x : Int32) (h : ai_pk 1 x) : narrow .boolean (.int x) = .int x ∧ fits .boolean (.int x) = true := by
  rcases h with rfl | rfl <;> exact ⟨rfl, rfl⟩

theorem wd_266 : (Cond.methodLink "CoinBoats$Calendar" (3 : Nat) ({ cls := "java/lang/Object", name := "<init>", desc := "()V" } : MethodName)) ∈ ai_tb := ai_wd2 26 rfl rfl
theorem wd_27 : (Cond.instanceMethod ({ cls := "java/lang/Object", name := "<init>", desc := "()V" } : MethodName)) ∈ ai_tb := ai_wd1 27 rfl rfl
theorem wd_267 : (Cond.classLink "CoinBoats$Calendar" (9 : Nat) "CoinBoats$Rows") ∈ ai_tb := ai_wd2 27 rfl rfl
theorem wd_36 : (Cond.instantiable "CoinBoats$Rows" (4 : Nat)) ∈ ai_tb := ai_wd1 36 rfl rfl
theorem wd_3 : (Cond.initialized "CoinBoats$Rows") ∈ ai_tb := ai_wd1 3 rfl rfl
theorem wd_268 : (Cond.methodLink "CoinBoats$Calendar" (11 : Nat) ({ cls := "CoinBoats$Rows", name := "<init>", desc := "(II)V" } : MethodName)) ∈ ai_tb := ai_wd2 28 rfl rfl
theorem wd_38 : (Cond.instanceMethod ({ cls := "CoinBoats$Rows", name := "<init>", desc := "(II)V" } : MethodName)) ∈ ai_tb := ai_wd1 38 rfl rfl
theorem wd_271 : (Cond.fieldLink "CoinBoats$Calendar" (14 : Nat) "CoinBoats$Calendar" "loads" "LCoinBoats$Rows;") ∈ ai_tb := ai_wd2 31 rfl rfl
theorem wd_269 : (Cond.classLink "CoinBoats$Calendar" (20 : Nat) "CoinBoats$Pieces") ∈ ai_tb := ai_wd2 29 rfl rfl
theorem wd_200 : (Cond.instantiable "CoinBoats$Pieces" (1 : Nat)) ∈ ai_tb := ai_wd1 200 rfl rfl
theorem wd_9 : (Cond.initialized "CoinBoats$Pieces") ∈ ai_tb := ai_wd1 9 rfl rfl
theorem wd_270 : (Cond.methodLink "CoinBoats$Calendar" (22 : Nat) ({ cls := "CoinBoats$Pieces", name := "<init>", desc := "()V" } : MethodName)) ∈ ai_tb := ai_wd2 30 rfl rfl
theorem wd_202 : (Cond.instanceMethod ({ cls := "CoinBoats$Pieces", name := "<init>", desc := "()V" } : MethodName)) ∈ ai_tb := ai_wd1 202 rfl rfl
theorem wd_272 : (Cond.fieldLink "CoinBoats$Calendar" (23 : Nat) "CoinBoats$Calendar" "shadow" "LCoinBoats$Pieces;") ∈ ai_tb := ai_wd2 32 rfl rfl
theorem wd_924 : (Cond.methodLink "CoinBoats$Calendar" (27 : Nat) ({ cls := "CoinBoats$Calendar", name := "sail", desc := "(LCoinBoats$Text;LCoinBoats$State;I)V" } : MethodName)) ∈ ai_tb := ai_wd4 204 rfl rfl
theorem wd_926 : (Cond.instanceMethod ({ cls := "CoinBoats$Calendar", name := "sail", desc := "(LCoinBoats$Text;LCoinBoats$State;I)V" } : MethodName)) ∈ ai_tb := ai_wd4 206 rfl rfl
theorem wp_37 : (Cond.selects "CoinBoats$Calendar" ({ cls := "CoinBoats$Calendar", name := "sail", desc := "(LCoinBoats$Text;LCoinBoats$State;I)V" } : MethodName) ({ cls := "CoinBoats$Calendar", name := "sail", desc := "(LCoinBoats$Text;LCoinBoats$State;I)V" } : MethodName)) ∈ ai_tb := ai_wdp (y := ({ cls := "CoinBoats$Calendar", name := "sail", desc := "(LCoinBoats$Text;LCoinBoats$State;I)V" } : Jvm.MethodName)) 37 3 rfl
theorem wd_928 : (Cond.methodLink "CoinBoats$Calendar" (31 : Nat) ({ cls := "CoinBoats$Calendar", name := "flow", desc := "(LCoinBoats$Text;LCoinBoats$State;I)V" } : MethodName)) ∈ ai_tb := ai_wd4 208 rfl rfl
theorem wd_929 : (Cond.static ({ cls := "CoinBoats$Calendar", name := "flow", desc := "(LCoinBoats$Text;LCoinBoats$State;I)V" } : MethodName)) ∈ ai_tb := ai_wd4 209 rfl rfl
theorem wd_933 : (Cond.methodLink "CoinBoats$Calendar" (34 : Nat) ({ cls := "CoinBoats$Calendar", name := "wear", desc := "(LCoinBoats$Text;LCoinBoats$State;)V" } : MethodName)) ∈ ai_tb := ai_wd4 213 rfl rfl
theorem wd_934 : (Cond.static ({ cls := "CoinBoats$Calendar", name := "wear", desc := "(LCoinBoats$Text;LCoinBoats$State;)V" } : MethodName)) ∈ ai_tb := ai_wd4 214 rfl rfl
theorem wd_945 : (Cond.methodLink "CoinBoats$Calendar" (38 : Nat) ({ cls := "CoinBoats$Calendar", name := "lose", desc := "(LCoinBoats$Text;LCoinBoats$State;)V" } : MethodName)) ∈ ai_tb := ai_wd4 225 rfl rfl
theorem wd_946 : (Cond.static ({ cls := "CoinBoats$Calendar", name := "lose", desc := "(LCoinBoats$Text;LCoinBoats$State;)V" } : MethodName)) ∈ ai_tb := ai_wd4 226 rfl rfl
theorem wd_948 : (Cond.methodLink "CoinBoats$Calendar" (41 : Nat) ({ cls := "CoinBoats$Calendar", name := "lack", desc := "(LCoinBoats$Text;LCoinBoats$State;)I" } : MethodName)) ∈ ai_tb := ai_wd4 228 rfl rfl
theorem wd_949 : (Cond.static ({ cls := "CoinBoats$Calendar", name := "lack", desc := "(LCoinBoats$Text;LCoinBoats$State;)I" } : MethodName)) ∈ ai_tb := ai_wd4 229 rfl rfl
theorem wd_875 : (Cond.methodLink "CoinBoats$Calendar" (51 : Nat) ({ cls := "CoinBoats$Rows", name := "zero", desc := "()V" } : MethodName)) ∈ ai_tb := ai_wd4 155 rfl rfl
theorem wd_208 : (Cond.instanceMethod ({ cls := "CoinBoats$Rows", name := "zero", desc := "()V" } : MethodName)) ∈ ai_tb := ai_wd1 208 rfl rfl
theorem wd_209 : (Cond.selects "CoinBoats$Rows" ({ cls := "CoinBoats$Rows", name := "zero", desc := "()V" } : MethodName) ({ cls := "CoinBoats$Rows", name := "zero", desc := "()V" } : MethodName)) ∈ ai_tb := ai_wd1 209 rfl rfl
theorem wd_222 : (Cond.fieldLink "CoinBoats$Calendar" (54 : Nat) "CoinBoats$State" "sendings" "LCoinBoats$Rows;") ∈ ai_tb := ai_wd1 222 rfl rfl
theorem wd_876 : (Cond.methodLink "CoinBoats$Calendar" (57 : Nat) ({ cls := "CoinBoats$Rows", name := "size", desc := "()I" } : MethodName)) ∈ ai_tb := ai_wd4 156 rfl rfl
theorem wd_671 : (Cond.instanceMethod ({ cls := "CoinBoats$Rows", name := "size", desc := "()I" } : MethodName)) ∈ ai_tb := ai_wd3 191 rfl rfl
theorem wd_672 : (Cond.selects "CoinBoats$Rows" ({ cls := "CoinBoats$Rows", name := "size", desc := "()I" } : MethodName) ({ cls := "CoinBoats$Rows", name := "size", desc := "()I" } : MethodName)) ∈ ai_tb := ai_wd3 192 rfl rfl
theorem wd_877 : (Cond.methodLink "CoinBoats$Calendar" (61 : Nat) ({ cls := "CoinBoats$Rows", name := "get", desc := "(II)I" } : MethodName)) ∈ ai_tb := ai_wd4 157 rfl rfl
theorem wd_717 : (Cond.instanceMethod ({ cls := "CoinBoats$Rows", name := "get", desc := "(II)I" } : MethodName)) ∈ ai_tb := ai_wd3 237 rfl rfl
theorem wd_718 : (Cond.selects "CoinBoats$Rows" ({ cls := "CoinBoats$Rows", name := "get", desc := "(II)I" } : MethodName) ({ cls := "CoinBoats$Rows", name := "get", desc := "(II)I" } : MethodName)) ∈ ai_tb := ai_wd3 238 rfl rfl
theorem wd_219 : (Cond.fieldLink "CoinBoats$Calendar" (65 : Nat) "CoinBoats$State" "pieces" "LCoinBoats$Pieces;") ∈ ai_tb := ai_wd1 219 rfl rfl
theorem wd_878 : (Cond.methodLink "CoinBoats$Calendar" (68 : Nat) ({ cls := "CoinBoats$Calendar", name := "refusal", desc := "(LCoinBoats$Text;LCoinBoats$Rows;ILCoinBoats$Pieces;IZ)I" } : MethodName)) ∈ ai_tb := ai_wd4 158 rfl rfl
theorem wd_880 : (Cond.instanceMethod ({ cls := "CoinBoats$Calendar", name := "refusal", desc := "(LCoinBoats$Text;LCoinBoats$Rows;ILCoinBoats$Pieces;IZ)I" } : MethodName)) ∈ ai_tb := ai_wd4 160 rfl rfl
theorem wp_35 : (Cond.selects "CoinBoats$Calendar" ({ cls := "CoinBoats$Calendar", name := "refusal", desc := "(LCoinBoats$Text;LCoinBoats$Rows;ILCoinBoats$Pieces;IZ)I" } : MethodName) ({ cls := "CoinBoats$Calendar", name := "refusal", desc := "(LCoinBoats$Text;LCoinBoats$Rows;ILCoinBoats$Pieces;IZ)I" } : MethodName)) ∈ ai_tb := ai_wdp (y := ({ cls := "CoinBoats$Calendar", name := "refusal", desc := "(LCoinBoats$Text;LCoinBoats$Rows;ILCoinBoats$Pieces;IZ)I" } : Jvm.MethodName)) 35 3 rfl
theorem wd_901 : (Cond.methodLink "CoinBoats$Calendar" (72 : Nat) ({ cls := "CoinBoats$Rows", name := "put", desc := "(III)V" } : MethodName)) ∈ ai_tb := ai_wd4 181 rfl rfl
theorem wd_615 : (Cond.instanceMethod ({ cls := "CoinBoats$Rows", name := "put", desc := "(III)V" } : MethodName)) ∈ ai_tb := ai_wd3 135 rfl rfl
theorem wd_616 : (Cond.selects "CoinBoats$Rows" ({ cls := "CoinBoats$Rows", name := "put", desc := "(III)V" } : MethodName) ({ cls := "CoinBoats$Rows", name := "put", desc := "(III)V" } : MethodName)) ∈ ai_tb := ai_wd3 136 rfl rfl
theorem wd_897 : (Cond.methodLink "CoinBoats$Calendar" (76 : Nat) ({ cls := "CoinBoats$Calendar", name := "carry", desc := "(LCoinBoats$Text;LCoinBoats$Rows;ILCoinBoats$Pieces;)V" } : MethodName)) ∈ ai_tb := ai_wd4 177 rfl rfl
theorem wd_899 : (Cond.instanceMethod ({ cls := "CoinBoats$Calendar", name := "carry", desc := "(LCoinBoats$Text;LCoinBoats$Rows;ILCoinBoats$Pieces;)V" } : MethodName)) ∈ ai_tb := ai_wd4 179 rfl rfl
theorem wp_36 : (Cond.selects "CoinBoats$Calendar" ({ cls := "CoinBoats$Calendar", name := "carry", desc := "(LCoinBoats$Text;LCoinBoats$Rows;ILCoinBoats$Pieces;)V" } : MethodName) ({ cls := "CoinBoats$Calendar", name := "carry", desc := "(LCoinBoats$Text;LCoinBoats$Rows;ILCoinBoats$Pieces;)V" } : MethodName)) ∈ ai_tb := ai_wdp (y := ({ cls := "CoinBoats$Calendar", name := "carry", desc := "(LCoinBoats$Text;LCoinBoats$Rows;ILCoinBoats$Pieces;)V" } : Jvm.MethodName)) 36 3 rfl
theorem wd_110 : (Cond.fieldLink "CoinBoats$Calendar" (80 : Nat) "CoinBoats$Text" "boats" "LCoinBoats$Rows;") ∈ ai_tb := ai_wd1 110 rfl rfl
theorem wd_882 : (Cond.methodLink "CoinBoats$Calendar" (89 : Nat) ({ cls := "CoinBoats$Text", name := "boatOf", desc := "(II)I" } : MethodName)) ∈ ai_tb := ai_wd4 162 rfl rfl
theorem wd_712 : (Cond.instanceMethod ({ cls := "CoinBoats$Text", name := "boatOf", desc := "(II)I" } : MethodName)) ∈ ai_tb := ai_wd3 232 rfl rfl
theorem wd_713 : (Cond.selects "CoinBoats$Text" ({ cls := "CoinBoats$Text", name := "boatOf", desc := "(II)I" } : MethodName) ({ cls := "CoinBoats$Text", name := "boatOf", desc := "(II)I" } : MethodName)) ∈ ai_tb := ai_wd3 233 rfl rfl
theorem wd_883 : (Cond.methodLink "CoinBoats$Calendar" (92 : Nat) ({ cls := "CoinBoats$Calendar", name := "lot", desc := "(III)I" } : MethodName)) ∈ ai_tb := ai_wd4 163 rfl rfl
theorem wd_884 : (Cond.static ({ cls := "CoinBoats$Calendar", name := "lot", desc := "(III)I" } : MethodName)) ∈ ai_tb := ai_wd4 164 rfl rfl
theorem wd_890 : (Cond.methodLink "CoinBoats$Calendar" (96 : Nat) ({ cls := "CoinBoats$Calendar", name := "weight", desc := "(LCoinBoats$Text;LCoinBoats$Rows;I)I" } : MethodName)) ∈ ai_tb := ai_wd4 170 rfl rfl
theorem wd_891 : (Cond.static ({ cls := "CoinBoats$Calendar", name := "weight", desc := "(LCoinBoats$Text;LCoinBoats$Rows;I)I" } : MethodName)) ∈ ai_tb := ai_wd4 171 rfl rfl
theorem wd_893 : (Cond.methodLink "CoinBoats$Calendar" (100 : Nat) ({ cls := "CoinBoats$Calendar", name := "start", desc := "(LCoinBoats$Rows;I)I" } : MethodName)) ∈ ai_tb := ai_wd4 173 rfl rfl
theorem wd_894 : (Cond.static ({ cls := "CoinBoats$Calendar", name := "start", desc := "(LCoinBoats$Rows;I)I" } : MethodName)) ∈ ai_tb := ai_wd4 174 rfl rfl
theorem wd_896 : (Cond.methodLink "CoinBoats$Calendar" (104 : Nat) ({ cls := "CoinBoats$Pieces", name := "all", desc := "(II)I" } : MethodName)) ∈ ai_tb := ai_wd4 176 rfl rfl
theorem wd_825 : (Cond.instanceMethod ({ cls := "CoinBoats$Pieces", name := "all", desc := "(II)I" } : MethodName)) ∈ ai_tb := ai_wd4 105 rfl rfl
theorem wd_826 : (Cond.selects "CoinBoats$Pieces" ({ cls := "CoinBoats$Pieces", name := "all", desc := "(II)I" } : MethodName) ({ cls := "CoinBoats$Pieces", name := "all", desc := "(II)I" } : MethodName)) ∈ ai_tb := ai_wd4 106 rfl rfl
theorem wd_902 : (Cond.methodLink "CoinBoats$Calendar" (107 : Nat) ({ cls := "CoinBoats$Pieces", name := "move", desc := "(IIIIZ)V" } : MethodName)) ∈ ai_tb := ai_wd4 182 rfl rfl
theorem wd_903 : (Cond.instanceMethod ({ cls := "CoinBoats$Pieces", name := "move", desc := "(IIIIZ)V" } : MethodName)) ∈ ai_tb := ai_wd4 183 rfl rfl
theorem wd_904 : (Cond.selects "CoinBoats$Pieces" ({ cls := "CoinBoats$Pieces", name := "move", desc := "(IIIIZ)V" } : MethodName) ({ cls := "CoinBoats$Pieces", name := "move", desc := "(IIIIZ)V" } : MethodName)) ∈ ai_tb := ai_wd4 184 rfl rfl
theorem wd_85 : (Cond.fieldLink "CoinBoats$Calendar" (111 : Nat) "CoinBoats$Text" "kinds" "LCoinBoats$Rows;") ∈ ai_tb := ai_wd1 85 rfl rfl
theorem wd_103 : (Cond.fieldLink "CoinBoats$Calendar" (114 : Nat) "CoinBoats$Text" "flows" "LCoinBoats$Rows;") ∈ ai_tb := ai_wd1 103 rfl rfl
theorem wd_931 : (Cond.methodLink "CoinBoats$Calendar" (117 : Nat) ({ cls := "CoinBoats$Text", name := "says", desc := "(LCoinBoats$Rows;IIIII)I" } : MethodName)) ∈ ai_tb := ai_wd4 211 rfl rfl
theorem wd_785 : (Cond.instanceMethod ({ cls := "CoinBoats$Text", name := "says", desc := "(LCoinBoats$Rows;IIIII)I" } : MethodName)) ∈ ai_tb := ai_wd4 65 rfl rfl
theorem wd_786 : (Cond.selects "CoinBoats$Text" ({ cls := "CoinBoats$Text", name := "says", desc := "(LCoinBoats$Rows;IIIII)I" } : MethodName) ({ cls := "CoinBoats$Text", name := "says", desc := "(LCoinBoats$Rows;IIIII)I" } : MethodName)) ∈ ai_tb := ai_wd4 66 rfl rfl
theorem wd_431 : (Cond.static ({ cls := "CoinBoats", name := "limit", desc := "(II)I" } : MethodName)) ∈ ai_tb := ai_wd2 191 rfl rfl
theorem wd_107 : (Cond.fieldLink "CoinBoats$Calendar" (124 : Nat) "CoinBoats$Text" "wears" "LCoinBoats$Rows;") ∈ ai_tb := ai_wd1 107 rfl rfl
theorem wd_936 : (Cond.methodLink "CoinBoats$Calendar" (127 : Nat) ({ cls := "CoinBoats$Text", name := "isInForce", desc := "(LCoinBoats$Rows;I)Z" } : MethodName)) ∈ ai_tb := ai_wd4 216 rfl rfl
theorem wd_937 : (Cond.instanceMethod ({ cls := "CoinBoats$Text", name := "isInForce", desc := "(LCoinBoats$Rows;I)Z" } : MethodName)) ∈ ai_tb := ai_wd4 217 rfl rfl
theorem wd_938 : (Cond.selects "CoinBoats$Text" ({ cls := "CoinBoats$Text", name := "isInForce", desc := "(LCoinBoats$Rows;I)Z" } : MethodName) ({ cls := "CoinBoats$Text", name := "isInForce", desc := "(LCoinBoats$Rows;I)Z" } : MethodName)) ∈ ai_tb := ai_wd4 218 rfl rfl
theorem wd_93 : (Cond.fieldLink "CoinBoats$Calendar" (131 : Nat) "CoinBoats$Text" "islands" "LCoinBoats$Rows;") ∈ ai_tb := ai_wd1 93 rfl rfl
theorem wd_940 : (Cond.methodLink "CoinBoats$Calendar" (134 : Nat) ({ cls := "CoinBoats$Calendar", name := "wearAt", desc := "(LCoinBoats$Text;LCoinBoats$State;II)V" } : MethodName)) ∈ ai_tb := ai_wd4 220 rfl rfl
theorem wd_941 : (Cond.static ({ cls := "CoinBoats$Calendar", name := "wearAt", desc := "(LCoinBoats$Text;LCoinBoats$State;II)V" } : MethodName)) ∈ ai_tb := ai_wd4 221 rfl rfl
theorem wd_943 : (Cond.methodLink "CoinBoats$Calendar" (138 : Nat) ({ cls := "CoinBoats$Pieces", name := "get", desc := "(III)I" } : MethodName)) ∈ ai_tb := ai_wd4 223 rfl rfl
theorem wd_811 : (Cond.instanceMethod ({ cls := "CoinBoats$Pieces", name := "get", desc := "(III)I" } : MethodName)) ∈ ai_tb := ai_wd4 91 rfl rfl
theorem wd_812 : (Cond.selects "CoinBoats$Pieces" ({ cls := "CoinBoats$Pieces", name := "get", desc := "(III)I" } : MethodName) ({ cls := "CoinBoats$Pieces", name := "get", desc := "(III)I" } : MethodName)) ∈ ai_tb := ai_wd4 92 rfl rfl
theorem wd_944 : (Cond.methodLink "CoinBoats$Calendar" (140 : Nat) ({ cls := "CoinBoats$Pieces", name := "add", desc := "(IIII)V" } : MethodName)) ∈ ai_tb := ai_wd4 224 rfl rfl
theorem wd_820 : (Cond.instanceMethod ({ cls := "CoinBoats$Pieces", name := "add", desc := "(IIII)V" } : MethodName)) ∈ ai_tb := ai_wd4 100 rfl rfl
theorem wd_821 : (Cond.selects "CoinBoats$Pieces" ({ cls := "CoinBoats$Pieces", name := "add", desc := "(IIII)V" } : MethodName) ({ cls := "CoinBoats$Pieces", name := "add", desc := "(IIII)V" } : MethodName)) ∈ ai_tb := ai_wd4 101 rfl rfl
theorem wd_99 : (Cond.fieldLink "CoinBoats$Calendar" (144 : Nat) "CoinBoats$Text" "losses" "LCoinBoats$Rows;") ∈ ai_tb := ai_wd1 99 rfl rfl
theorem wd_951 : (Cond.methodLink "CoinBoats$Calendar" (147 : Nat) ({ cls := "CoinBoats$Text", name := "wanted", desc := "(III)I" } : MethodName)) ∈ ai_tb := ai_wd4 231 rfl rfl
theorem wd_778 : (Cond.instanceMethod ({ cls := "CoinBoats$Text", name := "wanted", desc := "(III)I" } : MethodName)) ∈ ai_tb := ai_wd4 58 rfl rfl
theorem wd_779 : (Cond.selects "CoinBoats$Text" ({ cls := "CoinBoats$Text", name := "wanted", desc := "(III)I" } : MethodName) ({ cls := "CoinBoats$Text", name := "wanted", desc := "(III)I" } : MethodName)) ∈ ai_tb := ai_wd4 59 rfl rfl
theorem wd_874 : (Cond.methodLink "CoinBoats$Calendar" (150 : Nat) ({ cls := "java/lang/Math", name := "max", desc := "(II)I" } : MethodName)) ∈ ai_tb := ai_wd4 154 rfl rfl
theorem wd_42 : (Cond.static ({ cls := "java/lang/Math", name := "max", desc := "(II)I" } : MethodName)) ∈ ai_tb := ai_wd1 42 rfl rfl
theorem wd_227 : (Cond.fieldLink "CoinBoats$Calendar" (155 : Nat) "CoinBoats$State" "lacked" "LCoinBoats$Rows;") ∈ ai_tb := ai_wd1 227 rfl rfl
theorem wd_952 : (Cond.methodLink "CoinBoats$Calendar" (161 : Nat) ({ cls := "CoinBoats$Text", name := "harmOf", desc := "(I)I" } : MethodName)) ∈ ai_tb := ai_wd4 232 rfl rfl
theorem wd_953 : (Cond.instanceMethod ({ cls := "CoinBoats$Text", name := "harmOf", desc := "(I)I" } : MethodName)) ∈ ai_tb := ai_wd4 233 rfl rfl
theorem wd_954 : (Cond.selects "CoinBoats$Text" ({ cls := "CoinBoats$Text", name := "harmOf", desc := "(I)I" } : MethodName) ({ cls := "CoinBoats$Text", name := "harmOf", desc := "(I)I" } : MethodName)) ∈ ai_tb := ai_wd4 234 rfl rfl
theorem wd_865 : (Cond.methodLink "CoinBoats$Calendar" (165 : Nat) ({ cls := "CoinBoats$Pieces", name := "copy", desc := "(LCoinBoats$Pieces;)V" } : MethodName)) ∈ ai_tb := ai_wd4 145 rfl rfl
theorem wd_866 : (Cond.instanceMethod ({ cls := "CoinBoats$Pieces", name := "copy", desc := "(LCoinBoats$Pieces;)V" } : MethodName)) ∈ ai_tb := ai_wd4 146 rfl rfl
theorem wd_867 : (Cond.selects "CoinBoats$Pieces" ({ cls := "CoinBoats$Pieces", name := "copy", desc := "(LCoinBoats$Pieces;)V" } : MethodName) ({ cls := "CoinBoats$Pieces", name := "copy", desc := "(LCoinBoats$Pieces;)V" } : MethodName)) ∈ ai_tb := ai_wd4 147 rfl rfl
theorem wd_273 : (Cond.fieldLink "CoinBoats$Calendar" (169 : Nat) "CoinBoats$Calendar" "reason" "I") ∈ ai_tb := ai_wd2 33 rfl rfl
theorem wd_886 : (Cond.methodLink "CoinBoats$Calendar" (172 : Nat) ({ cls := "CoinBoats$Calendar", name := "mixed", desc := "(II)I" } : MethodName)) ∈ ai_tb := ai_wd4 166 rfl rfl
theorem wd_887 : (Cond.static ({ cls := "CoinBoats$Calendar", name := "mixed", desc := "(II)I" } : MethodName)) ∈ ai_tb := ai_wd4 167 rfl rfl
theorem wd_889 : (Cond.constant "CoinBoats$Calendar" (175 : Nat) (1103515245 : Int32)) ∈ ai_tb := ai_wd4 169 rfl rfl
theorem wd_286 : (Cond.methodLink "CoinBoats$Coins" (3 : Nat) ({ cls := "java/lang/Object", name := "<init>", desc := "()V" } : MethodName)) ∈ ai_tb := ai_wd2 46 rfl rfl
theorem wd_58 : (Cond.arrayClass Jvm.ClassFile.FieldType.int) ∈ ai_tb := ai_wd1 58 rfl rfl
theorem wd_289 : (Cond.fieldLink "CoinBoats$Coins" (11 : Nat) "CoinBoats$Coins" "given" "[I") ∈ ai_tb := ai_wd2 49 rfl rfl
theorem wd_290 : (Cond.fieldLink "CoinBoats$Coins" (15 : Nat) "CoinBoats$Coins" "comes" "[I") ∈ ai_tb := ai_wd2 50 rfl rfl
theorem wd_287 : (Cond.classLink "CoinBoats$Coins" (18 : Nat) "CoinBoats$Rows") ∈ ai_tb := ai_wd2 47 rfl rfl
theorem wd_288 : (Cond.methodLink "CoinBoats$Coins" (20 : Nat) ({ cls := "CoinBoats$Rows", name := "<init>", desc := "(II)V" } : MethodName)) ∈ ai_tb := ai_wd2 48 rfl rfl
theorem wd_291 : (Cond.fieldLink "CoinBoats$Coins" (23 : Nat) "CoinBoats$Coins" "tills" "LCoinBoats$Rows;") ∈ ai_tb := ai_wd2 51 rfl rfl
theorem wd_976 : (Cond.methodLink "CoinBoats$Coins" (27 : Nat) ({ cls := "CoinBoats$Rows", name := "clear", desc := "()V" } : MethodName)) ∈ ai_tb := ai_wd5 16 rfl rfl
theorem wd_419 : (Cond.instanceMethod ({ cls := "CoinBoats$Rows", name := "clear", desc := "()V" } : MethodName)) ∈ ai_tb := ai_wd2 179 rfl rfl
theorem wd_420 : (Cond.selects "CoinBoats$Rows" ({ cls := "CoinBoats$Rows", name := "clear", desc := "()V" } : MethodName) ({ cls := "CoinBoats$Rows", name := "clear", desc := "()V" } : MethodName)) ∈ ai_tb := ai_wd2 180 rfl rfl
theorem wd_82 : (Cond.fieldLink "CoinBoats$Coins" (30 : Nat) "CoinBoats$Text" "kinds" "LCoinBoats$Rows;") ∈ ai_tb := ai_wd1 82 rfl rfl
theorem wd_977 : (Cond.methodLink "CoinBoats$Coins" (35 : Nat) ({ cls := "CoinBoats$Rows", name := "size", desc := "()I" } : MethodName)) ∈ ai_tb := ai_wd5 17 rfl rfl
theorem wd_978 : (Cond.methodLink "CoinBoats$Coins" (39 : Nat) ({ cls := "CoinBoats$Rows", name := "add", desc := "()I" } : MethodName)) ∈ ai_tb := ai_wd5 18 rfl rfl
theorem wd_610 : (Cond.instanceMethod ({ cls := "CoinBoats$Rows", name := "add", desc := "()I" } : MethodName)) ∈ ai_tb := ai_wd3 130 rfl rfl
theorem wd_611 : (Cond.selects "CoinBoats$Rows" ({ cls := "CoinBoats$Rows", name := "add", desc := "()I" } : MethodName) ({ cls := "CoinBoats$Rows", name := "add", desc := "()I" } : MethodName)) ∈ ai_tb := ai_wd3 131 rfl rfl
theorem wd_979 : (Cond.methodLink "CoinBoats$Coins" (42 : Nat) ({ cls := "CoinBoats$Rows", name := "get", desc := "(II)I" } : MethodName)) ∈ ai_tb := ai_wd5 19 rfl rfl
theorem wd_980 : (Cond.methodLink "CoinBoats$Coins" (46 : Nat) ({ cls := "CoinBoats$Rows", name := "put", desc := "(III)V" } : MethodName)) ∈ ai_tb := ai_wd5 20 rfl rfl
theorem wd_981 : (Cond.methodLink "CoinBoats$Coins" (50 : Nat) ({ cls := "CoinBoats$Pieces", name := "all", desc := "(II)I" } : MethodName)) ∈ ai_tb := ai_wd5 21 rfl rfl
theorem wd_986 : (Cond.methodLink "CoinBoats$Coins" (55 : Nat) ({ cls := "CoinBoats$Coins", name := "fill", desc := "([IIII)V" } : MethodName)) ∈ ai_tb := ai_wd5 26 rfl rfl
theorem wd_988 : (Cond.instanceMethod ({ cls := "CoinBoats$Coins", name := "fill", desc := "([IIII)V" } : MethodName)) ∈ ai_tb := ai_wd5 28 rfl rfl
theorem wp_38 : (Cond.selects "CoinBoats$Coins" ({ cls := "CoinBoats$Coins", name := "fill", desc := "([IIII)V" } : MethodName) ({ cls := "CoinBoats$Coins", name := "fill", desc := "([IIII)V" } : MethodName)) ∈ ai_tb := ai_wdp (y := ({ cls := "CoinBoats$Coins", name := "fill", desc := "([IIII)V" } : Jvm.MethodName)) 38 4 rfl
theorem wd_998 : (Cond.methodLink "CoinBoats$Coins" (59 : Nat) ({ cls := "CoinBoats$Coins", name := "at", desc := "([II)I" } : MethodName)) ∈ ai_tb := ai_wd5 38 rfl rfl
theorem wd_999 : (Cond.static ({ cls := "CoinBoats$Coins", name := "at", desc := "([II)I" } : MethodName)) ∈ ai_tb := ai_wd5 39 rfl rfl
theorem wd_993 : (Cond.constant "CoinBoats$Coins" (63 : Nat) (1048576 : Int32)) ∈ ai_tb := ai_wd5 33 rfl rfl
theorem wd_1009 : (Cond.methodLink "CoinBoats$Coins" (64 : Nat) ({ cls := "CoinBoats$Coins", name := "ofKind", desc := "([IIII)I" } : MethodName)) ∈ ai_tb := ai_wd5 49 rfl rfl
theorem wd_1011 : (Cond.instanceMethod ({ cls := "CoinBoats$Coins", name := "ofKind", desc := "([IIII)I" } : MethodName)) ∈ ai_tb := ai_wd5 51 rfl rfl
theorem wp_39 : (Cond.selects "CoinBoats$Coins" ({ cls := "CoinBoats$Coins", name := "ofKind", desc := "([IIII)I" } : MethodName) ({ cls := "CoinBoats$Coins", name := "ofKind", desc := "([IIII)I" } : MethodName)) ∈ ai_tb := ai_wdp (y := ({ cls := "CoinBoats$Coins", name := "ofKind", desc := "([IIII)I" } : Jvm.MethodName)) 39 4 rfl
theorem wd_292 : (Cond.fieldLink "CoinBoats$Coins" (68 : Nat) "CoinBoats$Coins" "pieces" "I") ∈ ai_tb := ai_wd2 52 rfl rfl
theorem wd_994 : (Cond.methodLink "CoinBoats$Coins" (72 : Nat) ({ cls := "java/lang/Math", name := "max", desc := "(II)I" } : MethodName)) ∈ ai_tb := ai_wd5 34 rfl rfl
theorem wd_1041 : (Cond.methodLink "CoinBoats$Coins" (77 : Nat) ({ cls := "CoinBoats$Coins", name := "hasOne", desc := "(I)Z" } : MethodName)) ∈ ai_tb := ai_wd5 81 rfl rfl
theorem wd_1043 : (Cond.instanceMethod ({ cls := "CoinBoats$Coins", name := "hasOne", desc := "(I)Z" } : MethodName)) ∈ ai_tb := ai_wd5 83 rfl rfl
theorem wp_41 : (Cond.selects "CoinBoats$Coins" ({ cls := "CoinBoats$Coins", name := "hasOne", desc := "(I)Z" } : MethodName) ({ cls := "CoinBoats$Coins", name := "hasOne", desc := "(I)Z" } : MethodName)) ∈ ai_tb := ai_wdp (y := ({ cls := "CoinBoats$Coins", name := "hasOne", desc := "(I)Z" } : Jvm.MethodName)) 41 4 rfl
theorem wd_1045 : (Cond.methodLink "CoinBoats$Coins" (81 : Nat) ({ cls := "CoinBoats$Coins", name := "sumOf", desc := "(III)I" } : MethodName)) ∈ ai_tb := ai_wd5 85 rfl rfl
theorem wd_1046 : (Cond.instanceMethod ({ cls := "CoinBoats$Coins", name := "sumOf", desc := "(III)I" } : MethodName)) ∈ ai_tb := ai_wd5 86 rfl rfl
theorem wd_1047 : (Cond.selects "CoinBoats$Coins" ({ cls := "CoinBoats$Coins", name := "sumOf", desc := "(III)I" } : MethodName) ({ cls := "CoinBoats$Coins", name := "sumOf", desc := "(III)I" } : MethodName)) ∈ ai_tb := ai_wd5 87 rfl rfl
theorem wd_990 : (Cond.methodLink "CoinBoats$Coins" (85 : Nat) ({ cls := "CoinBoats$Coins", name := "clear", desc := "([II)V" } : MethodName)) ∈ ai_tb := ai_wd5 30 rfl rfl
theorem wd_991 : (Cond.static ({ cls := "CoinBoats$Coins", name := "clear", desc := "([II)V" } : MethodName)) ∈ ai_tb := ai_wd5 31 rfl rfl
theorem wd_995 : (Cond.methodLink "CoinBoats$Coins" (88 : Nat) ({ cls := "CoinBoats$Coins", name := "addEndless", desc := "([III)V" } : MethodName)) ∈ ai_tb := ai_wd5 35 rfl rfl
theorem wd_996 : (Cond.static ({ cls := "CoinBoats$Coins", name := "addEndless", desc := "([III)V" } : MethodName)) ∈ ai_tb := ai_wd5 36 rfl rfl
theorem wd_1049 : (Cond.methodLink "CoinBoats$Coins" (92 : Nat) ({ cls := "java/lang/Integer", name := "bitCount", desc := "(I)I" } : MethodName)) ∈ ai_tb := ai_wd5 89 rfl rfl
theorem wd_1050 : (Cond.static ({ cls := "java/lang/Integer", name := "bitCount", desc := "(I)I" } : MethodName)) ∈ ai_tb := ai_wd5 90 rfl rfl
theorem wd_1013 : (Cond.methodLink "CoinBoats$Coins" (98 : Nat) ({ cls := "CoinBoats$Coins", name := "mostOf", desc := "([IIIII)I" } : MethodName)) ∈ ai_tb := ai_wd5 53 rfl rfl
theorem wd_1015 : (Cond.instanceMethod ({ cls := "CoinBoats$Coins", name := "mostOf", desc := "([IIIII)I" } : MethodName)) ∈ ai_tb := ai_wd5 55 rfl rfl
theorem wp_40 : (Cond.selects "CoinBoats$Coins" ({ cls := "CoinBoats$Coins", name := "mostOf", desc := "([IIIII)I" } : MethodName) ({ cls := "CoinBoats$Coins", name := "mostOf", desc := "([IIIII)I" } : MethodName)) ∈ ai_tb := ai_wdp (y := ({ cls := "CoinBoats$Coins", name := "mostOf", desc := "([IIIII)I" } : Jvm.MethodName)) 40 4 rfl
theorem wd_1001 : (Cond.methodLink "CoinBoats$Coins" (102 : Nat) ({ cls := "java/lang/Math", name := "min", desc := "(II)I" } : MethodName)) ∈ ai_tb := ai_wd5 41 rfl rfl
theorem wd_434 : (Cond.static ({ cls := "java/lang/Math", name := "min", desc := "(II)I" } : MethodName)) ∈ ai_tb := ai_wd2 194 rfl rfl
theorem wd_1002 : (Cond.methodLink "CoinBoats$Coins" (105 : Nat) ({ cls := "CoinBoats$Coins", name := "addLumps", desc := "([IIII)V" } : MethodName)) ∈ ai_tb := ai_wd5 42 rfl rfl
theorem wd_1003 : (Cond.static ({ cls := "CoinBoats$Coins", name := "addLumps", desc := "([IIII)V" } : MethodName)) ∈ ai_tb := ai_wd5 43 rfl rfl
theorem wd_64 : (Cond.methodLink "CoinBoats$Formulas" (1 : Nat) ({ cls := "java/lang/Object", name := "<init>", desc := "()V" } : MethodName)) ∈ ai_tb := ai_wd1 64 rfl rfl
theorem wd_65 : (Cond.fieldLink "CoinBoats$Formulas" (9 : Nat) "CoinBoats$Formulas" "steps" "[I") ∈ ai_tb := ai_wd1 65 rfl rfl
theorem wd_67 : (Cond.fieldLink "CoinBoats$Formulas" (15 : Nat) "CoinBoats$Formulas" "stack" "[I") ∈ ai_tb := ai_wd1 67 rfl rfl
theorem wd_66 : (Cond.fieldLink "CoinBoats$Formulas" (18 : Nat) "CoinBoats$Formulas" "size" "I") ∈ ai_tb := ai_wd1 66 rfl rfl
theorem wd_694 : (Cond.constant "CoinBoats$Formulas" (22 : Nat) (65535 : Int32)) ∈ ai_tb := ai_wd3 214 rfl rfl
theorem wd_68 : (Cond.fieldLink "CoinBoats$Formulas" (23 : Nat) "CoinBoats$Formulas" "depth" "I") ∈ ai_tb := ai_wd1 68 rfl rfl
theorem wd_69 : (Cond.fieldLink "CoinBoats$Formulas" (26 : Nat) "CoinBoats$Formulas" "dividedByZero" "Z") ∈ ai_tb := ai_wd1 69 rfl rfl
theorem wd_792 : (Cond.methodLink "CoinBoats$Formulas" (30 : Nat) ({ cls := "java/lang/Math", name := "max", desc := "(II)I" } : MethodName)) ∈ ai_tb := ai_wd4 72 rfl rfl
theorem wd_793 : (Cond.methodLink "CoinBoats$Formulas" (36 : Nat) ({ cls := "CoinBoats$Formulas", name := "push", desc := "(I)V" } : MethodName)) ∈ ai_tb := ai_wd4 73 rfl rfl
theorem wd_795 : (Cond.instanceMethod ({ cls := "CoinBoats$Formulas", name := "push", desc := "(I)V" } : MethodName)) ∈ ai_tb := ai_wd4 75 rfl rfl
theorem wp_32 : (Cond.selects "CoinBoats$Formulas" ({ cls := "CoinBoats$Formulas", name := "push", desc := "(I)V" } : MethodName) ({ cls := "CoinBoats$Formulas", name := "push", desc := "(I)V" } : MethodName)) ∈ ai_tb := ai_wdp (y := ({ cls := "CoinBoats$Formulas", name := "push", desc := "(I)V" } : Jvm.MethodName)) 32 5 rfl
theorem wd_797 : (Cond.methodLink "CoinBoats$Formulas" (40 : Nat) ({ cls := "CoinBoats$Formulas", name := "pop", desc := "()I" } : MethodName)) ∈ ai_tb := ai_wd4 77 rfl rfl
theorem wd_799 : (Cond.instanceMethod ({ cls := "CoinBoats$Formulas", name := "pop", desc := "()I" } : MethodName)) ∈ ai_tb := ai_wd4 79 rfl rfl
theorem wp_33 : (Cond.selects "CoinBoats$Formulas" ({ cls := "CoinBoats$Formulas", name := "pop", desc := "()I" } : MethodName) ({ cls := "CoinBoats$Formulas", name := "pop", desc := "()I" } : MethodName)) ∈ ai_tb := ai_wdp (y := ({ cls := "CoinBoats$Formulas", name := "pop", desc := "()I" } : Jvm.MethodName)) 33 5 rfl
theorem wd_801 : (Cond.methodLink "CoinBoats$Formulas" (44 : Nat) ({ cls := "CoinBoats$Formulas", name := "joined", desc := "(III)I" } : MethodName)) ∈ ai_tb := ai_wd4 81 rfl rfl
theorem wd_803 : (Cond.instanceMethod ({ cls := "CoinBoats$Formulas", name := "joined", desc := "(III)I" } : MethodName)) ∈ ai_tb := ai_wd4 83 rfl rfl
theorem wp_34 : (Cond.selects "CoinBoats$Formulas" ({ cls := "CoinBoats$Formulas", name := "joined", desc := "(III)I" } : MethodName) ({ cls := "CoinBoats$Formulas", name := "joined", desc := "(III)I" } : MethodName)) ∈ ai_tb := ai_wdp (y := ({ cls := "CoinBoats$Formulas", name := "joined", desc := "(III)I" } : Jvm.MethodName)) 34 5 rfl
theorem wd_323 : (Cond.methodLink "CoinBoats$Ledger" (3 : Nat) ({ cls := "java/lang/Object", name := "<init>", desc := "()V" } : MethodName)) ∈ ai_tb := ai_wd2 83 rfl rfl
theorem wd_324 : (Cond.classLink "CoinBoats$Ledger" (9 : Nat) "CoinBoats$Rows") ∈ ai_tb := ai_wd2 84 rfl rfl
theorem wd_325 : (Cond.methodLink "CoinBoats$Ledger" (11 : Nat) ({ cls := "CoinBoats$Rows", name := "<init>", desc := "(II)V" } : MethodName)) ∈ ai_tb := ai_wd2 85 rfl rfl
theorem wd_326 : (Cond.fieldLink "CoinBoats$Ledger" (14 : Nat) "CoinBoats$Ledger" "went" "LCoinBoats$Rows;") ∈ ai_tb := ai_wd2 86 rfl rfl
theorem wd_327 : (Cond.fieldLink "CoinBoats$Ledger" (20 : Nat) "CoinBoats$Ledger" "came" "LCoinBoats$Rows;") ∈ ai_tb := ai_wd2 87 rfl rfl
theorem wd_328 : (Cond.fieldLink "CoinBoats$Ledger" (23 : Nat) "CoinBoats$Ledger" "looks" "LCoinBoats$Rows;") ∈ ai_tb := ai_wd2 88 rfl rfl
theorem wd_329 : (Cond.fieldLink "CoinBoats$Ledger" (26 : Nat) "CoinBoats$Ledger" "voided" "LCoinBoats$Rows;") ∈ ai_tb := ai_wd2 89 rfl rfl
theorem wd_1167 : (Cond.methodLink "CoinBoats$Ledger" (29 : Nat) ({ cls := "CoinBoats$Rows", name := "zero", desc := "()V" } : MethodName)) ∈ ai_tb := ai_wd5 207 rfl rfl
theorem wd_330 : (Cond.fieldLink "CoinBoats$Ledger" (32 : Nat) "CoinBoats$Ledger" "allSeen" "I") ∈ ai_tb := ai_wd2 90 rfl rfl
theorem wd_331 : (Cond.fieldLink "CoinBoats$Ledger" (36 : Nat) "CoinBoats$Ledger" "allFalse" "I") ∈ ai_tb := ai_wd2 91 rfl rfl
theorem wd_1168 : (Cond.methodLink "CoinBoats$Ledger" (39 : Nat) ({ cls := "CoinBoats$Rows", name := "size", desc := "()I" } : MethodName)) ∈ ai_tb := ai_wd5 208 rfl rfl
theorem wd_1169 : (Cond.methodLink "CoinBoats$Ledger" (43 : Nat) ({ cls := "CoinBoats$Rows", name := "get", desc := "(II)I" } : MethodName)) ∈ ai_tb := ai_wd5 209 rfl rfl
theorem wd_1170 : (Cond.methodLink "CoinBoats$Ledger" (47 : Nat) ({ cls := "CoinBoats$Rows", name := "put", desc := "(III)V" } : MethodName)) ∈ ai_tb := ai_wd5 210 rfl rfl
theorem wd_1171 : (Cond.methodLink "CoinBoats$Ledger" (51 : Nat) ({ cls := "CoinBoats$Ledger", name := "enter", desc := "(LCoinBoats$Rows;I)V" } : MethodName)) ∈ ai_tb := ai_wd5 211 rfl rfl
theorem wd_1173 : (Cond.instanceMethod ({ cls := "CoinBoats$Ledger", name := "enter", desc := "(LCoinBoats$Rows;I)V" } : MethodName)) ∈ ai_tb := ai_wd5 213 rfl rfl
theorem wp_48 : (Cond.selects "CoinBoats$Ledger" ({ cls := "CoinBoats$Ledger", name := "enter", desc := "(LCoinBoats$Rows;I)V" } : MethodName) ({ cls := "CoinBoats$Ledger", name := "enter", desc := "(LCoinBoats$Rows;I)V" } : MethodName)) ∈ ai_tb := ai_wdp (y := ({ cls := "CoinBoats$Ledger", name := "enter", desc := "(LCoinBoats$Rows;I)V" } : Jvm.MethodName)) 48 8 rfl
theorem wd_1175 : (Cond.methodLink "CoinBoats$Ledger" (55 : Nat) ({ cls := "CoinBoats$Ledger", name := "add", desc := "(LCoinBoats$Rows;III)V" } : MethodName)) ∈ ai_tb := ai_wd5 215 rfl rfl
theorem wd_1176 : (Cond.static ({ cls := "CoinBoats$Ledger", name := "add", desc := "(LCoinBoats$Rows;III)V" } : MethodName)) ∈ ai_tb := ai_wd5 216 rfl rfl
theorem wd_91 : (Cond.fieldLink "CoinBoats$Ledger" (59 : Nat) "CoinBoats$Text" "islands" "LCoinBoats$Rows;") ∈ ai_tb := ai_wd1 91 rfl rfl
theorem wd_86 : (Cond.fieldLink "CoinBoats$Ledger" (64 : Nat) "CoinBoats$Text" "kinds" "LCoinBoats$Rows;") ∈ ai_tb := ai_wd1 86 rfl rfl
theorem wd_1194 : (Cond.methodLink "CoinBoats$Ledger" (67 : Nat) ({ cls := "CoinBoats$Ledger", name := "came", desc := "(II)I" } : MethodName)) ∈ ai_tb := ai_wd5 234 rfl rfl
theorem wd_1183 : (Cond.instanceMethod ({ cls := "CoinBoats$Ledger", name := "came", desc := "(II)I" } : MethodName)) ∈ ai_tb := ai_wd5 223 rfl rfl
theorem wd_1184 : (Cond.selects "CoinBoats$Ledger" ({ cls := "CoinBoats$Ledger", name := "came", desc := "(II)I" } : MethodName) ({ cls := "CoinBoats$Ledger", name := "came", desc := "(II)I" } : MethodName)) ∈ ai_tb := ai_wd5 224 rfl rfl
theorem wd_1195 : (Cond.methodLink "CoinBoats$Ledger" (69 : Nat) ({ cls := "CoinBoats$Ledger", name := "went", desc := "(II)I" } : MethodName)) ∈ ai_tb := ai_wd5 235 rfl rfl
theorem wd_1179 : (Cond.instanceMethod ({ cls := "CoinBoats$Ledger", name := "went", desc := "(II)I" } : MethodName)) ∈ ai_tb := ai_wd5 219 rfl rfl
theorem wd_1180 : (Cond.selects "CoinBoats$Ledger" ({ cls := "CoinBoats$Ledger", name := "went", desc := "(II)I" } : MethodName) ({ cls := "CoinBoats$Ledger", name := "went", desc := "(II)I" } : MethodName)) ∈ ai_tb := ai_wd5 220 rfl rfl
theorem wd_1208 : (Cond.methodLink "CoinBoats$Ledger" (71 : Nat) ({ cls := "CoinBoats$Ledger", name := "off", desc := "(LCoinBoats$Text;IIII)I" } : MethodName)) ∈ ai_tb := ai_wd6 8 rfl rfl
theorem wd_1210 : (Cond.instanceMethod ({ cls := "CoinBoats$Ledger", name := "off", desc := "(LCoinBoats$Text;IIII)I" } : MethodName)) ∈ ai_tb := ai_wd6 10 rfl rfl
theorem wp_50 : (Cond.selects "CoinBoats$Ledger" ({ cls := "CoinBoats$Ledger", name := "off", desc := "(LCoinBoats$Text;IIII)I" } : MethodName) ({ cls := "CoinBoats$Ledger", name := "off", desc := "(LCoinBoats$Text;IIII)I" } : MethodName)) ∈ ai_tb := ai_wdp (y := ({ cls := "CoinBoats$Ledger", name := "off", desc := "(LCoinBoats$Text;IIII)I" } : Jvm.MethodName)) 50 8 rfl
theorem wd_332 : (Cond.fieldLink "CoinBoats$Ledger" (75 : Nat) "CoinBoats$Ledger" "kept" "I") ∈ ai_tb := ai_wd2 92 rfl rfl
theorem wd_333 : (Cond.fieldLink "CoinBoats$Ledger" (78 : Nat) "CoinBoats$Ledger" "lost" "I") ∈ ai_tb := ai_wd2 93 rfl rfl
theorem wd_1232 : (Cond.methodLink "CoinBoats$Ledger" (81 : Nat) ({ cls := "CoinBoats$Ledger", name := "isNear", desc := "(LCoinBoats$Text;IIII)Z" } : MethodName)) ∈ ai_tb := ai_wd6 32 rfl rfl
theorem wd_1234 : (Cond.instanceMethod ({ cls := "CoinBoats$Ledger", name := "isNear", desc := "(LCoinBoats$Text;IIII)Z" } : MethodName)) ∈ ai_tb := ai_wd6 34 rfl rfl
theorem wp_51 : (Cond.selects "CoinBoats$Ledger" ({ cls := "CoinBoats$Ledger", name := "isNear", desc := "(LCoinBoats$Text;IIII)Z" } : MethodName) ({ cls := "CoinBoats$Ledger", name := "isNear", desc := "(LCoinBoats$Text;IIII)Z" } : MethodName)) ∈ ai_tb := ai_wdp (y := ({ cls := "CoinBoats$Ledger", name := "isNear", desc := "(LCoinBoats$Text;IIII)Z" } : Jvm.MethodName)) 51 8 rfl
theorem wd_1212 : (Cond.methodLink "CoinBoats$Ledger" (85 : Nat) ({ cls := "java/lang/Math", name := "abs", desc := "(I)I" } : MethodName)) ∈ ai_tb := ai_wd6 12 rfl rfl
theorem wd_1213 : (Cond.static ({ cls := "java/lang/Math", name := "abs", desc := "(I)I" } : MethodName)) ∈ ai_tb := ai_wd6 13 rfl rfl
theorem wd_1244 : (Cond.methodLink "CoinBoats$Ledger" (91 : Nat) ({ cls := "CoinBoats$Ledger", name := "isCountable", desc := "()Z" } : MethodName)) ∈ ai_tb := ai_wd6 44 rfl rfl
theorem wd_1245 : (Cond.instanceMethod ({ cls := "CoinBoats$Ledger", name := "isCountable", desc := "()Z" } : MethodName)) ∈ ai_tb := ai_wd6 45 rfl rfl
theorem wd_1246 : (Cond.selects "CoinBoats$Ledger" ({ cls := "CoinBoats$Ledger", name := "isCountable", desc := "()Z" } : MethodName) ({ cls := "CoinBoats$Ledger", name := "isCountable", desc := "()Z" } : MethodName)) ∈ ai_tb := ai_wd6 46 rfl rfl
theorem wd_1248 : (Cond.methodLink "CoinBoats$Ledger" (95 : Nat) ({ cls := "CoinBoats$Ledger", name := "seen", desc := "(I)I" } : MethodName)) ∈ ai_tb := ai_wd6 48 rfl rfl
theorem wd_1249 : (Cond.instanceMethod ({ cls := "CoinBoats$Ledger", name := "seen", desc := "(I)I" } : MethodName)) ∈ ai_tb := ai_wd6 49 rfl rfl
theorem wd_1250 : (Cond.selects "CoinBoats$Ledger" ({ cls := "CoinBoats$Ledger", name := "seen", desc := "(I)I" } : MethodName) ({ cls := "CoinBoats$Ledger", name := "seen", desc := "(I)I" } : MethodName)) ∈ ai_tb := ai_wd6 50 rfl rfl
theorem wd_1252 : (Cond.methodLink "CoinBoats$Ledger" (98 : Nat) ({ cls := "CoinBoats$Ledger", name := "isLessLuck", desc := "(II)Z" } : MethodName)) ∈ ai_tb := ai_wd6 52 rfl rfl
theorem wd_1254 : (Cond.instanceMethod ({ cls := "CoinBoats$Ledger", name := "isLessLuck", desc := "(II)Z" } : MethodName)) ∈ ai_tb := ai_wd6 54 rfl rfl
theorem wp_52 : (Cond.selects "CoinBoats$Ledger" ({ cls := "CoinBoats$Ledger", name := "isLessLuck", desc := "(II)Z" } : MethodName) ({ cls := "CoinBoats$Ledger", name := "isLessLuck", desc := "(II)Z" } : MethodName)) ∈ ai_tb := ai_wdp (y := ({ cls := "CoinBoats$Ledger", name := "isLessLuck", desc := "(II)Z" } : Jvm.MethodName)) 52 8 rfl
theorem wd_1256 : (Cond.methodLink "CoinBoats$Ledger" (102 : Nat) ({ cls := "CoinBoats$Ledger", name := "waysOfMore", desc := "(I)J" } : MethodName)) ∈ ai_tb := ai_wd6 56 rfl rfl
theorem wd_1257 : (Cond.instanceMethod ({ cls := "CoinBoats$Ledger", name := "waysOfMore", desc := "(I)J" } : MethodName)) ∈ ai_tb := ai_wd6 57 rfl rfl
theorem wd_1258 : (Cond.selects "CoinBoats$Ledger" ({ cls := "CoinBoats$Ledger", name := "waysOfMore", desc := "(I)J" } : MethodName) ({ cls := "CoinBoats$Ledger", name := "waysOfMore", desc := "(I)J" } : MethodName)) ∈ ai_tb := ai_wd6 58 rfl rfl
theorem wd_1263 : (Cond.methodLink "CoinBoats$Ledger" (106 : Nat) ({ cls := "CoinBoats$Ledger", name := "waysOfAll", desc := "(I)J" } : MethodName)) ∈ ai_tb := ai_wd6 63 rfl rfl
theorem wd_1264 : (Cond.instanceMethod ({ cls := "CoinBoats$Ledger", name := "waysOfAll", desc := "(I)J" } : MethodName)) ∈ ai_tb := ai_wd6 64 rfl rfl
theorem wd_1265 : (Cond.selects "CoinBoats$Ledger" ({ cls := "CoinBoats$Ledger", name := "waysOfAll", desc := "(I)J" } : MethodName) ({ cls := "CoinBoats$Ledger", name := "waysOfAll", desc := "(I)J" } : MethodName)) ∈ ai_tb := ai_wd6 65 rfl rfl
theorem wd_1260 : (Cond.methodLink "CoinBoats$Ledger" (109 : Nat) ({ cls := "CoinBoats$Ledger", name := "ways", desc := "(II)J" } : MethodName)) ∈ ai_tb := ai_wd6 60 rfl rfl
theorem wd_1261 : (Cond.static ({ cls := "CoinBoats$Ledger", name := "ways", desc := "(II)J" } : MethodName)) ∈ ai_tb := ai_wd6 61 rfl rfl
theorem wd_204 : (Cond.methodLink "CoinBoats$Pieces" (3 : Nat) ({ cls := "java/lang/Object", name := "<init>", desc := "()V" } : MethodName)) ∈ ai_tb := ai_wd1 204 rfl rfl
theorem wd_205 : (Cond.classLink "CoinBoats$Pieces" (9 : Nat) "CoinBoats$Rows") ∈ ai_tb := ai_wd1 205 rfl rfl
theorem wd_206 : (Cond.methodLink "CoinBoats$Pieces" (11 : Nat) ({ cls := "CoinBoats$Rows", name := "<init>", desc := "(II)V" } : MethodName)) ∈ ai_tb := ai_wd1 206 rfl rfl
theorem wd_211 : (Cond.fieldLink "CoinBoats$Pieces" (14 : Nat) "CoinBoats$Pieces" "rows" "LCoinBoats$Rows;") ∈ ai_tb := ai_wd1 211 rfl rfl
theorem wd_207 : (Cond.methodLink "CoinBoats$Pieces" (20 : Nat) ({ cls := "CoinBoats$Rows", name := "zero", desc := "()V" } : MethodName)) ∈ ai_tb := ai_wd1 207 rfl rfl
theorem wd_814 : (Cond.methodLink "CoinBoats$Pieces" (23 : Nat) ({ cls := "CoinBoats$Pieces", name := "row", desc := "(II)I" } : MethodName)) ∈ ai_tb := ai_wd4 94 rfl rfl
theorem wd_815 : (Cond.static ({ cls := "CoinBoats$Pieces", name := "row", desc := "(II)I" } : MethodName)) ∈ ai_tb := ai_wd4 95 rfl rfl
theorem wd_817 : (Cond.methodLink "CoinBoats$Pieces" (27 : Nat) ({ cls := "CoinBoats$Rows", name := "get", desc := "(II)I" } : MethodName)) ∈ ai_tb := ai_wd4 97 rfl rfl
theorem wd_828 : (Cond.methodLink "CoinBoats$Pieces" (30 : Nat) ({ cls := "CoinBoats$Pieces", name := "get", desc := "(III)I" } : MethodName)) ∈ ai_tb := ai_wd4 108 rfl rfl
theorem wd_823 : (Cond.methodLink "CoinBoats$Pieces" (33 : Nat) ({ cls := "CoinBoats$Rows", name := "put", desc := "(III)V" } : MethodName)) ∈ ai_tb := ai_wd4 103 rfl rfl
theorem wd_907 : (Cond.methodLink "CoinBoats$Pieces" (40 : Nat) ({ cls := "CoinBoats$Pieces", name := "add", desc := "(IIII)V" } : MethodName)) ∈ ai_tb := ai_wd4 187 rfl rfl
theorem wd_869 : (Cond.methodLink "CoinBoats$Pieces" (44 : Nat) ({ cls := "CoinBoats$Rows", name := "copy", desc := "(LCoinBoats$Rows;)V" } : MethodName)) ∈ ai_tb := ai_wd4 149 rfl rfl
theorem wd_870 : (Cond.instanceMethod ({ cls := "CoinBoats$Rows", name := "copy", desc := "(LCoinBoats$Rows;)V" } : MethodName)) ∈ ai_tb := ai_wd4 150 rfl rfl
theorem wd_871 : (Cond.selects "CoinBoats$Rows" ({ cls := "CoinBoats$Rows", name := "copy", desc := "(LCoinBoats$Rows;)V" } : MethodName) ({ cls := "CoinBoats$Rows", name := "copy", desc := "(LCoinBoats$Rows;)V" } : MethodName)) ∈ ai_tb := ai_wd4 151 rfl rfl
theorem wd_138 : (Cond.methodLink "CoinBoats$Reader" (3 : Nat) ({ cls := "java/lang/Object", name := "<init>", desc := "()V" } : MethodName)) ∈ ai_tb := ai_wd1 138 rfl rfl
theorem wd_139 : (Cond.classLink "CoinBoats$Reader" (9 : Nat) "CoinBoats$Tokens") ∈ ai_tb := ai_wd1 139 rfl rfl
theorem wd_140 : (Cond.instantiable "CoinBoats$Tokens" (7 : Nat)) ∈ ai_tb := ai_wd1 140 rfl rfl
theorem wd_7 : (Cond.initialized "CoinBoats$Tokens") ∈ ai_tb := ai_wd1 7 rfl rfl
theorem wd_141 : (Cond.methodLink "CoinBoats$Reader" (11 : Nat) ({ cls := "CoinBoats$Tokens", name := "<init>", desc := "()V" } : MethodName)) ∈ ai_tb := ai_wd1 141 rfl rfl
theorem wd_142 : (Cond.instanceMethod ({ cls := "CoinBoats$Tokens", name := "<init>", desc := "()V" } : MethodName)) ∈ ai_tb := ai_wd1 142 rfl rfl
theorem wd_168 : (Cond.fieldLink "CoinBoats$Reader" (12 : Nat) "CoinBoats$Reader" "tokens" "LCoinBoats$Tokens;") ∈ ai_tb := ai_wd1 168 rfl rfl
theorem wd_167 : (Cond.arrayClass Jvm.ClassFile.FieldType.long) ∈ ai_tb := ai_wd1 167 rfl rfl
theorem wd_169 : (Cond.fieldLink "CoinBoats$Reader" (18 : Nat) "CoinBoats$Reader" "kindNames" "[J") ∈ ai_tb := ai_wd1 169 rfl rfl
theorem wd_170 : (Cond.fieldLink "CoinBoats$Reader" (22 : Nat) "CoinBoats$Reader" "islandNames" "[J") ∈ ai_tb := ai_wd1 170 rfl rfl
theorem wd_411 : (Cond.methodLink "CoinBoats$Reader" (25 : Nat) ({ cls := "CoinBoats$Reader", name := "clearNames", desc := "([J)V" } : MethodName)) ∈ ai_tb := ai_wd2 171 rfl rfl
theorem wd_412 : (Cond.static ({ cls := "CoinBoats$Reader", name := "clearNames", desc := "([J)V" } : MethodName)) ∈ ai_tb := ai_wd2 172 rfl rfl
theorem wd_414 : (Cond.methodLink "CoinBoats$Reader" (29 : Nat) ({ cls := "CoinBoats$Text", name := "clear", desc := "()V" } : MethodName)) ∈ ai_tb := ai_wd2 174 rfl rfl
theorem wd_415 : (Cond.instanceMethod ({ cls := "CoinBoats$Text", name := "clear", desc := "()V" } : MethodName)) ∈ ai_tb := ai_wd2 175 rfl rfl
theorem wd_416 : (Cond.selects "CoinBoats$Text" ({ cls := "CoinBoats$Text", name := "clear", desc := "()V" } : MethodName) ({ cls := "CoinBoats$Text", name := "clear", desc := "()V" } : MethodName)) ∈ ai_tb := ai_wd2 176 rfl rfl
theorem wd_426 : (Cond.methodLink "CoinBoats$Reader" (34 : Nat) ({ cls := "CoinBoats$Tokens", name := "scan", desc := "([BI)V" } : MethodName)) ∈ ai_tb := ai_wd2 186 rfl rfl
theorem wd_427 : (Cond.instanceMethod ({ cls := "CoinBoats$Tokens", name := "scan", desc := "([BI)V" } : MethodName)) ∈ ai_tb := ai_wd2 187 rfl rfl
theorem wd_428 : (Cond.selects "CoinBoats$Tokens" ({ cls := "CoinBoats$Tokens", name := "scan", desc := "([BI)V" } : MethodName) ({ cls := "CoinBoats$Tokens", name := "scan", desc := "([BI)V" } : MethodName)) ∈ ai_tb := ai_wd2 188 rfl rfl
theorem wd_171 : (Cond.fieldLink "CoinBoats$Reader" (38 : Nat) "CoinBoats$Reader" "at" "I") ∈ ai_tb := ai_wd1 171 rfl rfl
theorem wd_172 : (Cond.fieldLink "CoinBoats$Reader" (42 : Nat) "CoinBoats$Reader" "fault" "I") ∈ ai_tb := ai_wd1 172 rfl rfl
theorem wd_174 : (Cond.fieldLink "CoinBoats$Reader" (45 : Nat) "CoinBoats$Reader" "laterFault" "I") ∈ ai_tb := ai_wd1 174 rfl rfl
theorem wd_577 : (Cond.methodLink "CoinBoats$Reader" (48 : Nat) ({ cls := "CoinBoats$Reader", name := "upcoming", desc := "()I" } : MethodName)) ∈ ai_tb := ai_wd3 97 rfl rfl
theorem wd_579 : (Cond.instanceMethod ({ cls := "CoinBoats$Reader", name := "upcoming", desc := "()I" } : MethodName)) ∈ ai_tb := ai_wd3 99 rfl rfl
theorem wp_7 : (Cond.selects "CoinBoats$Reader" ({ cls := "CoinBoats$Reader", name := "upcoming", desc := "()I" } : MethodName) ({ cls := "CoinBoats$Reader", name := "upcoming", desc := "()I" } : MethodName)) ∈ ai_tb := ai_wdp (y := ({ cls := "CoinBoats$Reader", name := "upcoming", desc := "()I" } : Jvm.MethodName)) 7 8 rfl
theorem wd_585 : (Cond.methodLink "CoinBoats$Reader" (52 : Nat) ({ cls := "CoinBoats$Reader", name := "tell", desc := "(LCoinBoats$Text;I)V" } : MethodName)) ∈ ai_tb := ai_wd3 105 rfl rfl
theorem wd_587 : (Cond.instanceMethod ({ cls := "CoinBoats$Reader", name := "tell", desc := "(LCoinBoats$Text;I)V" } : MethodName)) ∈ ai_tb := ai_wd3 107 rfl rfl
theorem wp_8 : (Cond.selects "CoinBoats$Reader" ({ cls := "CoinBoats$Reader", name := "tell", desc := "(LCoinBoats$Text;I)V" } : MethodName) ({ cls := "CoinBoats$Reader", name := "tell", desc := "(LCoinBoats$Text;I)V" } : MethodName)) ∈ ai_tb := ai_wdp (y := ({ cls := "CoinBoats$Reader", name := "tell", desc := "(LCoinBoats$Text;I)V" } : Jvm.MethodName)) 8 8 rfl
theorem wd_175 : (Cond.fieldLink "CoinBoats$Reader" (56 : Nat) "CoinBoats$Reader" "laterToken" "I") ∈ ai_tb := ai_wd1 175 rfl rfl
theorem wd_173 : (Cond.fieldLink "CoinBoats$Reader" (59 : Nat) "CoinBoats$Reader" "faultToken" "I") ∈ ai_tb := ai_wd1 173 rfl rfl
theorem wd_724 : (Cond.methodLink "CoinBoats$Reader" (62 : Nat) ({ cls := "CoinBoats$Tokens", name := "placeOf", desc := "(I)I" } : MethodName)) ∈ ai_tb := ai_wd4 4 rfl rfl
theorem wd_725 : (Cond.instanceMethod ({ cls := "CoinBoats$Tokens", name := "placeOf", desc := "(I)I" } : MethodName)) ∈ ai_tb := ai_wd4 5 rfl rfl
theorem wd_726 : (Cond.selects "CoinBoats$Tokens" ({ cls := "CoinBoats$Tokens", name := "placeOf", desc := "(I)I" } : MethodName) ({ cls := "CoinBoats$Tokens", name := "placeOf", desc := "(I)I" } : MethodName)) ∈ ai_tb := ai_wd4 6 rfl rfl
theorem wd_84 : (Cond.fieldLink "CoinBoats$Reader" (66 : Nat) "CoinBoats$Text" "kinds" "LCoinBoats$Rows;") ∈ ai_tb := ai_wd1 84 rfl rfl
theorem wd_589 : (Cond.methodLink "CoinBoats$Reader" (70 : Nat) ({ cls := "CoinBoats$Reader", name := "tellKind", desc := "(LCoinBoats$Rows;)V" } : MethodName)) ∈ ai_tb := ai_wd3 109 rfl rfl
theorem wd_591 : (Cond.instanceMethod ({ cls := "CoinBoats$Reader", name := "tellKind", desc := "(LCoinBoats$Rows;)V" } : MethodName)) ∈ ai_tb := ai_wd3 111 rfl rfl
theorem wp_9 : (Cond.selects "CoinBoats$Reader" ({ cls := "CoinBoats$Reader", name := "tellKind", desc := "(LCoinBoats$Rows;)V" } : MethodName) ({ cls := "CoinBoats$Reader", name := "tellKind", desc := "(LCoinBoats$Rows;)V" } : MethodName)) ∈ ai_tb := ai_wdp (y := ({ cls := "CoinBoats$Reader", name := "tellKind", desc := "(LCoinBoats$Rows;)V" } : Jvm.MethodName)) 9 8 rfl
theorem wd_90 : (Cond.fieldLink "CoinBoats$Reader" (74 : Nat) "CoinBoats$Text" "islands" "LCoinBoats$Rows;") ∈ ai_tb := ai_wd1 90 rfl rfl
theorem wd_646 : (Cond.methodLink "CoinBoats$Reader" (77 : Nat) ({ cls := "CoinBoats$Reader", name := "tellIsland", desc := "(LCoinBoats$Rows;)V" } : MethodName)) ∈ ai_tb := ai_wd3 166 rfl rfl
theorem wd_648 : (Cond.instanceMethod ({ cls := "CoinBoats$Reader", name := "tellIsland", desc := "(LCoinBoats$Rows;)V" } : MethodName)) ∈ ai_tb := ai_wd3 168 rfl rfl
theorem wp_18 : (Cond.selects "CoinBoats$Reader" ({ cls := "CoinBoats$Reader", name := "tellIsland", desc := "(LCoinBoats$Rows;)V" } : MethodName) ({ cls := "CoinBoats$Reader", name := "tellIsland", desc := "(LCoinBoats$Rows;)V" } : MethodName)) ∈ ai_tb := ai_wdp (y := ({ cls := "CoinBoats$Reader", name := "tellIsland", desc := "(LCoinBoats$Rows;)V" } : Jvm.MethodName)) 18 8 rfl
theorem wd_95 : (Cond.fieldLink "CoinBoats$Reader" (80 : Nat) "CoinBoats$Text" "wants" "LCoinBoats$Rows;") ∈ ai_tb := ai_wd1 95 rfl rfl
theorem wd_650 : (Cond.methodLink "CoinBoats$Reader" (83 : Nat) ({ cls := "CoinBoats$Reader", name := "tellOfIsland", desc := "(LCoinBoats$Rows;)V" } : MethodName)) ∈ ai_tb := ai_wd3 170 rfl rfl
theorem wd_652 : (Cond.instanceMethod ({ cls := "CoinBoats$Reader", name := "tellOfIsland", desc := "(LCoinBoats$Rows;)V" } : MethodName)) ∈ ai_tb := ai_wd3 172 rfl rfl
theorem wp_19 : (Cond.selects "CoinBoats$Reader" ({ cls := "CoinBoats$Reader", name := "tellOfIsland", desc := "(LCoinBoats$Rows;)V" } : MethodName) ({ cls := "CoinBoats$Reader", name := "tellOfIsland", desc := "(LCoinBoats$Rows;)V" } : MethodName)) ∈ ai_tb := ai_wdp (y := ({ cls := "CoinBoats$Reader", name := "tellOfIsland", desc := "(LCoinBoats$Rows;)V" } : Jvm.MethodName)) 19 8 rfl
theorem wd_115 : (Cond.fieldLink "CoinBoats$Reader" (86 : Nat) "CoinBoats$Text" "formulas" "LCoinBoats$Formulas;") ∈ ai_tb := ai_wd1 115 rfl rfl
theorem wd_666 : (Cond.methodLink "CoinBoats$Reader" (90 : Nat) ({ cls := "CoinBoats$Reader", name := "equation", desc := "(LCoinBoats$Rows;LCoinBoats$Formulas;)V" } : MethodName)) ∈ ai_tb := ai_wd3 186 rfl rfl
theorem wd_668 : (Cond.instanceMethod ({ cls := "CoinBoats$Reader", name := "equation", desc := "(LCoinBoats$Rows;LCoinBoats$Formulas;)V" } : MethodName)) ∈ ai_tb := ai_wd3 188 rfl rfl
theorem wp_23 : (Cond.selects "CoinBoats$Reader" ({ cls := "CoinBoats$Reader", name := "equation", desc := "(LCoinBoats$Rows;LCoinBoats$Formulas;)V" } : MethodName) ({ cls := "CoinBoats$Reader", name := "equation", desc := "(LCoinBoats$Rows;LCoinBoats$Formulas;)V" } : MethodName)) ∈ ai_tb := ai_wdp (y := ({ cls := "CoinBoats$Reader", name := "equation", desc := "(LCoinBoats$Rows;LCoinBoats$Formulas;)V" } : Jvm.MethodName)) 23 8 rfl
theorem wd_98 : (Cond.fieldLink "CoinBoats$Reader" (94 : Nat) "CoinBoats$Text" "losses" "LCoinBoats$Rows;") ∈ ai_tb := ai_wd1 98 rfl rfl
theorem wd_102 : (Cond.fieldLink "CoinBoats$Reader" (97 : Nat) "CoinBoats$Text" "flows" "LCoinBoats$Rows;") ∈ ai_tb := ai_wd1 102 rfl rfl
theorem wd_699 : (Cond.methodLink "CoinBoats$Reader" (100 : Nat) ({ cls := "CoinBoats$Reader", name := "tellFlow", desc := "(LCoinBoats$Rows;)V" } : MethodName)) ∈ ai_tb := ai_wd3 219 rfl rfl
theorem wd_701 : (Cond.instanceMethod ({ cls := "CoinBoats$Reader", name := "tellFlow", desc := "(LCoinBoats$Rows;)V" } : MethodName)) ∈ ai_tb := ai_wd3 221 rfl rfl
theorem wp_28 : (Cond.selects "CoinBoats$Reader" ({ cls := "CoinBoats$Reader", name := "tellFlow", desc := "(LCoinBoats$Rows;)V" } : MethodName) ({ cls := "CoinBoats$Reader", name := "tellFlow", desc := "(LCoinBoats$Rows;)V" } : MethodName)) ∈ ai_tb := ai_wdp (y := ({ cls := "CoinBoats$Reader", name := "tellFlow", desc := "(LCoinBoats$Rows;)V" } : Jvm.MethodName)) 28 8 rfl
theorem wd_106 : (Cond.fieldLink "CoinBoats$Reader" (103 : Nat) "CoinBoats$Text" "wears" "LCoinBoats$Rows;") ∈ ai_tb := ai_wd1 106 rfl rfl
theorem wd_703 : (Cond.methodLink "CoinBoats$Reader" (106 : Nat) ({ cls := "CoinBoats$Reader", name := "tellWear", desc := "(LCoinBoats$Rows;)V" } : MethodName)) ∈ ai_tb := ai_wd3 223 rfl rfl
theorem wd_705 : (Cond.instanceMethod ({ cls := "CoinBoats$Reader", name := "tellWear", desc := "(LCoinBoats$Rows;)V" } : MethodName)) ∈ ai_tb := ai_wd3 225 rfl rfl
theorem wp_29 : (Cond.selects "CoinBoats$Reader" ({ cls := "CoinBoats$Reader", name := "tellWear", desc := "(LCoinBoats$Rows;)V" } : MethodName) ({ cls := "CoinBoats$Reader", name := "tellWear", desc := "(LCoinBoats$Rows;)V" } : MethodName)) ∈ ai_tb := ai_wdp (y := ({ cls := "CoinBoats$Reader", name := "tellWear", desc := "(LCoinBoats$Rows;)V" } : Jvm.MethodName)) 29 8 rfl
theorem wd_112 : (Cond.fieldLink "CoinBoats$Reader" (109 : Nat) "CoinBoats$Text" "boats" "LCoinBoats$Rows;") ∈ ai_tb := ai_wd1 112 rfl rfl
theorem wd_707 : (Cond.methodLink "CoinBoats$Reader" (112 : Nat) ({ cls := "CoinBoats$Reader", name := "tellBoat", desc := "(LCoinBoats$Rows;LCoinBoats$Text;)V" } : MethodName)) ∈ ai_tb := ai_wd3 227 rfl rfl
theorem wd_709 : (Cond.instanceMethod ({ cls := "CoinBoats$Reader", name := "tellBoat", desc := "(LCoinBoats$Rows;LCoinBoats$Text;)V" } : MethodName)) ∈ ai_tb := ai_wd3 229 rfl rfl
theorem wp_30 : (Cond.selects "CoinBoats$Reader" ({ cls := "CoinBoats$Reader", name := "tellBoat", desc := "(LCoinBoats$Rows;LCoinBoats$Text;)V" } : MethodName) ({ cls := "CoinBoats$Reader", name := "tellBoat", desc := "(LCoinBoats$Rows;LCoinBoats$Text;)V" } : MethodName)) ∈ ai_tb := ai_wdp (y := ({ cls := "CoinBoats$Reader", name := "tellBoat", desc := "(LCoinBoats$Rows;LCoinBoats$Text;)V" } : Jvm.MethodName)) 30 8 rfl
theorem wd_601 : (Cond.methodLink "CoinBoats$Reader" (116 : Nat) ({ cls := "CoinBoats$Reader", name := "fail", desc := "(I)V" } : MethodName)) ∈ ai_tb := ai_wd3 121 rfl rfl
theorem wd_603 : (Cond.instanceMethod ({ cls := "CoinBoats$Reader", name := "fail", desc := "(I)V" } : MethodName)) ∈ ai_tb := ai_wd3 123 rfl rfl
theorem wp_11 : (Cond.selects "CoinBoats$Reader" ({ cls := "CoinBoats$Reader", name := "fail", desc := "(I)V" } : MethodName) ({ cls := "CoinBoats$Reader", name := "fail", desc := "(I)V" } : MethodName)) ∈ ai_tb := ai_wdp (y := ({ cls := "CoinBoats$Reader", name := "fail", desc := "(I)V" } : Jvm.MethodName)) 11 8 rfl
theorem wd_593 : (Cond.methodLink "CoinBoats$Reader" (120 : Nat) ({ cls := "CoinBoats$Reader", name := "open", desc := "(LCoinBoats$Rows;)I" } : MethodName)) ∈ ai_tb := ai_wd3 113 rfl rfl
theorem wd_595 : (Cond.instanceMethod ({ cls := "CoinBoats$Reader", name := "open", desc := "(LCoinBoats$Rows;)I" } : MethodName)) ∈ ai_tb := ai_wd3 115 rfl rfl
theorem wp_10 : (Cond.selects "CoinBoats$Reader" ({ cls := "CoinBoats$Reader", name := "open", desc := "(LCoinBoats$Rows;)I" } : MethodName) ({ cls := "CoinBoats$Reader", name := "open", desc := "(LCoinBoats$Rows;)I" } : MethodName)) ∈ ai_tb := ai_wdp (y := ({ cls := "CoinBoats$Reader", name := "open", desc := "(LCoinBoats$Rows;)I" } : Jvm.MethodName)) 10 8 rfl
theorem wd_622 : (Cond.methodLink "CoinBoats$Reader" (124 : Nat) ({ cls := "CoinBoats$Reader", name := "newName", desc := "([JI)V" } : MethodName)) ∈ ai_tb := ai_wd3 142 rfl rfl
theorem wd_624 : (Cond.instanceMethod ({ cls := "CoinBoats$Reader", name := "newName", desc := "([JI)V" } : MethodName)) ∈ ai_tb := ai_wd3 144 rfl rfl
theorem wp_14 : (Cond.selects "CoinBoats$Reader" ({ cls := "CoinBoats$Reader", name := "newName", desc := "([JI)V" } : MethodName) ({ cls := "CoinBoats$Reader", name := "newName", desc := "([JI)V" } : MethodName)) ∈ ai_tb := ai_wdp (y := ({ cls := "CoinBoats$Reader", name := "newName", desc := "([JI)V" } : Jvm.MethodName)) 14 8 rfl
theorem wd_641 : (Cond.methodLink "CoinBoats$Reader" (128 : Nat) ({ cls := "CoinBoats$Reader", name := "number", desc := "(II)I" } : MethodName)) ∈ ai_tb := ai_wd3 161 rfl rfl
theorem wd_643 : (Cond.instanceMethod ({ cls := "CoinBoats$Reader", name := "number", desc := "(II)I" } : MethodName)) ∈ ai_tb := ai_wd3 163 rfl rfl
theorem wp_17 : (Cond.selects "CoinBoats$Reader" ({ cls := "CoinBoats$Reader", name := "number", desc := "(II)I" } : MethodName) ({ cls := "CoinBoats$Reader", name := "number", desc := "(II)I" } : MethodName)) ∈ ai_tb := ai_wdp (y := ({ cls := "CoinBoats$Reader", name := "number", desc := "(II)I" } : Jvm.MethodName)) 17 8 rfl
theorem wd_645 : (Cond.methodLink "CoinBoats$Reader" (132 : Nat) ({ cls := "CoinBoats$Rows", name := "put", desc := "(III)V" } : MethodName)) ∈ ai_tb := ai_wd3 165 rfl rfl
theorem wd_637 : (Cond.methodLink "CoinBoats$Reader" (138 : Nat) ({ cls := "CoinBoats$Reader", name := "expect", desc := "(I)V" } : MethodName)) ∈ ai_tb := ai_wd3 157 rfl rfl
theorem wd_639 : (Cond.instanceMethod ({ cls := "CoinBoats$Reader", name := "expect", desc := "(I)V" } : MethodName)) ∈ ai_tb := ai_wd3 159 rfl rfl
theorem wp_16 : (Cond.selects "CoinBoats$Reader" ({ cls := "CoinBoats$Reader", name := "expect", desc := "(I)V" } : MethodName) ({ cls := "CoinBoats$Reader", name := "expect", desc := "(I)V" } : MethodName)) ∈ ai_tb := ai_wdp (y := ({ cls := "CoinBoats$Reader", name := "expect", desc := "(I)V" } : Jvm.MethodName)) 16 8 rfl
theorem wd_654 : (Cond.methodLink "CoinBoats$Reader" (141 : Nat) ({ cls := "CoinBoats$Reader", name := "placeTold", desc := "(Z)I" } : MethodName)) ∈ ai_tb := ai_wd3 174 rfl rfl
theorem wd_656 : (Cond.instanceMethod ({ cls := "CoinBoats$Reader", name := "placeTold", desc := "(Z)I" } : MethodName)) ∈ ai_tb := ai_wd3 176 rfl rfl
theorem wp_20 : (Cond.selects "CoinBoats$Reader" ({ cls := "CoinBoats$Reader", name := "placeTold", desc := "(Z)I" } : MethodName) ({ cls := "CoinBoats$Reader", name := "placeTold", desc := "(Z)I" } : MethodName)) ∈ ai_tb := ai_wdp (y := ({ cls := "CoinBoats$Reader", name := "placeTold", desc := "(Z)I" } : Jvm.MethodName)) 20 8 rfl
theorem wd_662 : (Cond.methodLink "CoinBoats$Reader" (145 : Nat) ({ cls := "CoinBoats$Reader", name := "kindTold", desc := "()I" } : MethodName)) ∈ ai_tb := ai_wd3 182 rfl rfl
theorem wd_664 : (Cond.instanceMethod ({ cls := "CoinBoats$Reader", name := "kindTold", desc := "()I" } : MethodName)) ∈ ai_tb := ai_wd3 184 rfl rfl
theorem wp_22 : (Cond.selects "CoinBoats$Reader" ({ cls := "CoinBoats$Reader", name := "kindTold", desc := "()I" } : MethodName) ({ cls := "CoinBoats$Reader", name := "kindTold", desc := "()I" } : MethodName)) ∈ ai_tb := ai_wdp (y := ({ cls := "CoinBoats$Reader", name := "kindTold", desc := "()I" } : Jvm.MethodName)) 22 8 rfl
theorem wd_633 : (Cond.methodLink "CoinBoats$Reader" (148 : Nat) ({ cls := "CoinBoats$Reader", name := "failLater", desc := "(II)V" } : MethodName)) ∈ ai_tb := ai_wd3 153 rfl rfl
theorem wd_635 : (Cond.instanceMethod ({ cls := "CoinBoats$Reader", name := "failLater", desc := "(II)V" } : MethodName)) ∈ ai_tb := ai_wd3 155 rfl rfl
theorem wp_15 : (Cond.selects "CoinBoats$Reader" ({ cls := "CoinBoats$Reader", name := "failLater", desc := "(II)V" } : MethodName) ({ cls := "CoinBoats$Reader", name := "failLater", desc := "(II)V" } : MethodName)) ∈ ai_tb := ai_wdp (y := ({ cls := "CoinBoats$Reader", name := "failLater", desc := "(II)V" } : Jvm.MethodName)) 15 8 rfl
theorem wd_711 : (Cond.methodLink "CoinBoats$Reader" (152 : Nat) ({ cls := "CoinBoats$Text", name := "boatOf", desc := "(II)I" } : MethodName)) ∈ ai_tb := ai_wd3 231 rfl rfl
theorem wd_605 : (Cond.methodLink "CoinBoats$Reader" (155 : Nat) ({ cls := "CoinBoats$Reader", name := "accept", desc := "()V" } : MethodName)) ∈ ai_tb := ai_wd3 125 rfl rfl
theorem wd_607 : (Cond.instanceMethod ({ cls := "CoinBoats$Reader", name := "accept", desc := "()V" } : MethodName)) ∈ ai_tb := ai_wd3 127 rfl rfl
theorem wp_12 : (Cond.selects "CoinBoats$Reader" ({ cls := "CoinBoats$Reader", name := "accept", desc := "()V" } : MethodName) ({ cls := "CoinBoats$Reader", name := "accept", desc := "()V" } : MethodName)) ∈ ai_tb := ai_wdp (y := ({ cls := "CoinBoats$Reader", name := "accept", desc := "()V" } : Jvm.MethodName)) 12 8 rfl
theorem wd_597 : (Cond.methodLink "CoinBoats$Reader" (158 : Nat) ({ cls := "CoinBoats$Rows", name := "isFull", desc := "()Z" } : MethodName)) ∈ ai_tb := ai_wd3 117 rfl rfl
theorem wd_598 : (Cond.instanceMethod ({ cls := "CoinBoats$Rows", name := "isFull", desc := "()Z" } : MethodName)) ∈ ai_tb := ai_wd3 118 rfl rfl
theorem wd_599 : (Cond.selects "CoinBoats$Rows" ({ cls := "CoinBoats$Rows", name := "isFull", desc := "()Z" } : MethodName) ({ cls := "CoinBoats$Rows", name := "isFull", desc := "()Z" } : MethodName)) ∈ ai_tb := ai_wd3 119 rfl rfl
theorem wd_609 : (Cond.methodLink "CoinBoats$Reader" (162 : Nat) ({ cls := "CoinBoats$Rows", name := "add", desc := "()I" } : MethodName)) ∈ ai_tb := ai_wd3 129 rfl rfl
theorem wd_626 : (Cond.methodLink "CoinBoats$Reader" (165 : Nat) ({ cls := "CoinBoats$Tokens", name := "valueOf", desc := "(I)J" } : MethodName)) ∈ ai_tb := ai_wd3 146 rfl rfl
theorem wd_627 : (Cond.instanceMethod ({ cls := "CoinBoats$Tokens", name := "valueOf", desc := "(I)J" } : MethodName)) ∈ ai_tb := ai_wd3 147 rfl rfl
theorem wd_628 : (Cond.selects "CoinBoats$Tokens" ({ cls := "CoinBoats$Tokens", name := "valueOf", desc := "(I)J" } : MethodName) ({ cls := "CoinBoats$Tokens", name := "valueOf", desc := "(I)J" } : MethodName)) ∈ ai_tb := ai_wd3 148 rfl rfl
theorem wd_630 : (Cond.methodLink "CoinBoats$Reader" (169 : Nat) ({ cls := "CoinBoats$Reader", name := "indexOf", desc := "([JJ)I" } : MethodName)) ∈ ai_tb := ai_wd3 150 rfl rfl
theorem wd_631 : (Cond.static ({ cls := "CoinBoats$Reader", name := "indexOf", desc := "([JJ)I" } : MethodName)) ∈ ai_tb := ai_wd3 151 rfl rfl
theorem wd_658 : (Cond.methodLink "CoinBoats$Reader" (173 : Nat) ({ cls := "CoinBoats$Reader", name := "nameTold", desc := "(I)I" } : MethodName)) ∈ ai_tb := ai_wd3 178 rfl rfl
theorem wd_660 : (Cond.instanceMethod ({ cls := "CoinBoats$Reader", name := "nameTold", desc := "(I)I" } : MethodName)) ∈ ai_tb := ai_wd3 180 rfl rfl
theorem wp_21 : (Cond.selects "CoinBoats$Reader" ({ cls := "CoinBoats$Reader", name := "nameTold", desc := "(I)I" } : MethodName) ({ cls := "CoinBoats$Reader", name := "nameTold", desc := "(I)I" } : MethodName)) ∈ ai_tb := ai_wdp (y := ({ cls := "CoinBoats$Reader", name := "nameTold", desc := "(I)I" } : Jvm.MethodName)) 21 8 rfl
theorem wd_670 : (Cond.methodLink "CoinBoats$Reader" (176 : Nat) ({ cls := "CoinBoats$Rows", name := "size", desc := "()I" } : MethodName)) ∈ ai_tb := ai_wd3 190 rfl rfl
theorem wd_674 : (Cond.methodLink "CoinBoats$Reader" (179 : Nat) ({ cls := "CoinBoats$Formulas", name := "size", desc := "()I" } : MethodName)) ∈ ai_tb := ai_wd3 194 rfl rfl
theorem wd_675 : (Cond.instanceMethod ({ cls := "CoinBoats$Formulas", name := "size", desc := "()I" } : MethodName)) ∈ ai_tb := ai_wd3 195 rfl rfl
theorem wd_676 : (Cond.selects "CoinBoats$Formulas" ({ cls := "CoinBoats$Formulas", name := "size", desc := "()I" } : MethodName) ({ cls := "CoinBoats$Formulas", name := "size", desc := "()I" } : MethodName)) ∈ ai_tb := ai_wd3 196 rfl rfl
theorem wd_678 : (Cond.methodLink "CoinBoats$Reader" (182 : Nat) ({ cls := "CoinBoats$Reader", name := "sum", desc := "(LCoinBoats$Formulas;I)V" } : MethodName)) ∈ ai_tb := ai_wd3 198 rfl rfl
theorem wd_680 : (Cond.instanceMethod ({ cls := "CoinBoats$Reader", name := "sum", desc := "(LCoinBoats$Formulas;I)V" } : MethodName)) ∈ ai_tb := ai_wd3 200 rfl rfl
theorem wp_24 : (Cond.selects "CoinBoats$Reader" ({ cls := "CoinBoats$Reader", name := "sum", desc := "(LCoinBoats$Formulas;I)V" } : MethodName) ({ cls := "CoinBoats$Reader", name := "sum", desc := "(LCoinBoats$Formulas;I)V" } : MethodName)) ∈ ai_tb := ai_wdp (y := ({ cls := "CoinBoats$Reader", name := "sum", desc := "(LCoinBoats$Formulas;I)V" } : Jvm.MethodName)) 24 8 rfl
theorem wd_682 : (Cond.methodLink "CoinBoats$Reader" (186 : Nat) ({ cls := "CoinBoats$Reader", name := "product", desc := "(LCoinBoats$Formulas;I)V" } : MethodName)) ∈ ai_tb := ai_wd3 202 rfl rfl
theorem wd_684 : (Cond.instanceMethod ({ cls := "CoinBoats$Reader", name := "product", desc := "(LCoinBoats$Formulas;I)V" } : MethodName)) ∈ ai_tb := ai_wd3 204 rfl rfl
theorem wp_25 : (Cond.selects "CoinBoats$Reader" ({ cls := "CoinBoats$Reader", name := "product", desc := "(LCoinBoats$Formulas;I)V" } : MethodName) ({ cls := "CoinBoats$Reader", name := "product", desc := "(LCoinBoats$Formulas;I)V" } : MethodName)) ∈ ai_tb := ai_wdp (y := ({ cls := "CoinBoats$Reader", name := "product", desc := "(LCoinBoats$Formulas;I)V" } : Jvm.MethodName)) 25 8 rfl
theorem wd_690 : (Cond.methodLink "CoinBoats$Reader" (189 : Nat) ({ cls := "CoinBoats$Formulas", name := "add", desc := "(II)V" } : MethodName)) ∈ ai_tb := ai_wd3 210 rfl rfl
theorem wd_691 : (Cond.instanceMethod ({ cls := "CoinBoats$Formulas", name := "add", desc := "(II)V" } : MethodName)) ∈ ai_tb := ai_wd3 211 rfl rfl
theorem wd_692 : (Cond.selects "CoinBoats$Formulas" ({ cls := "CoinBoats$Formulas", name := "add", desc := "(II)V" } : MethodName) ({ cls := "CoinBoats$Formulas", name := "add", desc := "(II)V" } : MethodName)) ∈ ai_tb := ai_wd3 212 rfl rfl
theorem wd_686 : (Cond.methodLink "CoinBoats$Reader" (191 : Nat) ({ cls := "CoinBoats$Reader", name := "unit", desc := "(LCoinBoats$Formulas;I)V" } : MethodName)) ∈ ai_tb := ai_wd3 206 rfl rfl
theorem wd_688 : (Cond.instanceMethod ({ cls := "CoinBoats$Reader", name := "unit", desc := "(LCoinBoats$Formulas;I)V" } : MethodName)) ∈ ai_tb := ai_wd3 208 rfl rfl
theorem wp_26 : (Cond.selects "CoinBoats$Reader" ({ cls := "CoinBoats$Reader", name := "unit", desc := "(LCoinBoats$Formulas;I)V" } : MethodName) ({ cls := "CoinBoats$Reader", name := "unit", desc := "(LCoinBoats$Formulas;I)V" } : MethodName)) ∈ ai_tb := ai_wdp (y := ({ cls := "CoinBoats$Reader", name := "unit", desc := "(LCoinBoats$Formulas;I)V" } : Jvm.MethodName)) 26 8 rfl
theorem wd_695 : (Cond.methodLink "CoinBoats$Reader" (194 : Nat) ({ cls := "CoinBoats$Reader", name := "nest", desc := "(LCoinBoats$Formulas;I)V" } : MethodName)) ∈ ai_tb := ai_wd3 215 rfl rfl
theorem wd_697 : (Cond.instanceMethod ({ cls := "CoinBoats$Reader", name := "nest", desc := "(LCoinBoats$Formulas;I)V" } : MethodName)) ∈ ai_tb := ai_wd3 217 rfl rfl
theorem wp_27 : (Cond.selects "CoinBoats$Reader" ({ cls := "CoinBoats$Reader", name := "nest", desc := "(LCoinBoats$Formulas;I)V" } : MethodName) ({ cls := "CoinBoats$Reader", name := "nest", desc := "(LCoinBoats$Formulas;I)V" } : MethodName)) ∈ ai_tb := ai_wdp (y := ({ cls := "CoinBoats$Reader", name := "nest", desc := "(LCoinBoats$Formulas;I)V" } : Jvm.MethodName)) 27 8 rfl
theorem wd_581 : (Cond.methodLink "CoinBoats$Reader" (197 : Nat) ({ cls := "CoinBoats$Tokens", name := "sortOf", desc := "(I)I" } : MethodName)) ∈ ai_tb := ai_wd3 101 rfl rfl
theorem wd_582 : (Cond.instanceMethod ({ cls := "CoinBoats$Tokens", name := "sortOf", desc := "(I)I" } : MethodName)) ∈ ai_tb := ai_wd3 102 rfl rfl
theorem wd_583 : (Cond.selects "CoinBoats$Tokens" ({ cls := "CoinBoats$Tokens", name := "sortOf", desc := "(I)I" } : MethodName) ({ cls := "CoinBoats$Tokens", name := "sortOf", desc := "(I)I" } : MethodName)) ∈ ai_tb := ai_wd3 103 rfl rfl
theorem wd_40 : (Cond.methodLink "CoinBoats$Rows" (3 : Nat) ({ cls := "java/lang/Object", name := "<init>", desc := "()V" } : MethodName)) ∈ ai_tb := ai_wd1 40 rfl rfl
theorem wd_41 : (Cond.methodLink "CoinBoats$Rows" (9 : Nat) ({ cls := "java/lang/Math", name := "max", desc := "(II)I" } : MethodName)) ∈ ai_tb := ai_wd1 41 rfl rfl
theorem wd_44 : (Cond.fieldLink "CoinBoats$Rows" (15 : Nat) "CoinBoats$Rows" "most" "I") ∈ ai_tb := ai_wd1 44 rfl rfl
theorem wd_45 : (Cond.fieldLink "CoinBoats$Rows" (21 : Nat) "CoinBoats$Rows" "width" "I") ∈ ai_tb := ai_wd1 45 rfl rfl
theorem wd_46 : (Cond.fieldLink "CoinBoats$Rows" (24 : Nat) "CoinBoats$Rows" "cells" "[I") ∈ ai_tb := ai_wd1 46 rfl rfl
theorem wd_47 : (Cond.fieldLink "CoinBoats$Rows" (28 : Nat) "CoinBoats$Rows" "size" "I") ∈ ai_tb := ai_wd1 47 rfl rfl
theorem wd_613 : (Cond.methodLink "CoinBoats$Rows" (31 : Nat) ({ cls := "CoinBoats$Rows", name := "isFull", desc := "()Z" } : MethodName)) ∈ ai_tb := ai_wd3 133 rfl rfl
theorem wd_614 : (Cond.methodLink "CoinBoats$Rows" (35 : Nat) ({ cls := "CoinBoats$Rows", name := "put", desc := "(III)V" } : MethodName)) ∈ ai_tb := ai_wd3 134 rfl rfl
theorem wd_618 : (Cond.methodLink "CoinBoats$Rows" (39 : Nat) ({ cls := "CoinBoats$Rows", name := "cell", desc := "(II)I" } : MethodName)) ∈ ai_tb := ai_wd3 138 rfl rfl
theorem wd_620 : (Cond.instanceMethod ({ cls := "CoinBoats$Rows", name := "cell", desc := "(II)I" } : MethodName)) ∈ ai_tb := ai_wd3 140 rfl rfl
theorem wp_13 : (Cond.selects "CoinBoats$Rows" ({ cls := "CoinBoats$Rows", name := "cell", desc := "(II)I" } : MethodName) ({ cls := "CoinBoats$Rows", name := "cell", desc := "(II)I" } : MethodName)) ∈ ai_tb := ai_wdp (y := ({ cls := "CoinBoats$Rows", name := "cell", desc := "(II)I" } : Jvm.MethodName)) 13 4 rfl
theorem wd_873 : (Cond.methodLink "CoinBoats$Rows" (42 : Nat) ({ cls := "java/lang/Math", name := "min", desc := "(II)I" } : MethodName)) ∈ ai_tb := ai_wd4 153 rfl rfl
theorem wd_198 : (Cond.methodLink "CoinBoats$State" (3 : Nat) ({ cls := "java/lang/Object", name := "<init>", desc := "()V" } : MethodName)) ∈ ai_tb := ai_wd1 198 rfl rfl
theorem wd_199 : (Cond.classLink "CoinBoats$State" (9 : Nat) "CoinBoats$Pieces") ∈ ai_tb := ai_wd1 199 rfl rfl
theorem wd_201 : (Cond.methodLink "CoinBoats$State" (11 : Nat) ({ cls := "CoinBoats$Pieces", name := "<init>", desc := "()V" } : MethodName)) ∈ ai_tb := ai_wd1 201 rfl rfl
theorem wd_218 : (Cond.fieldLink "CoinBoats$State" (12 : Nat) "CoinBoats$State" "pieces" "LCoinBoats$Pieces;") ∈ ai_tb := ai_wd1 218 rfl rfl
theorem wd_215 : (Cond.classLink "CoinBoats$State" (18 : Nat) "CoinBoats$Rows") ∈ ai_tb := ai_wd1 215 rfl rfl
theorem wd_216 : (Cond.methodLink "CoinBoats$State" (20 : Nat) ({ cls := "CoinBoats$Rows", name := "<init>", desc := "(II)V" } : MethodName)) ∈ ai_tb := ai_wd1 216 rfl rfl
theorem wd_221 : (Cond.fieldLink "CoinBoats$State" (23 : Nat) "CoinBoats$State" "sendings" "LCoinBoats$Rows;") ∈ ai_tb := ai_wd1 221 rfl rfl
theorem wd_224 : (Cond.fieldLink "CoinBoats$State" (27 : Nat) "CoinBoats$State" "books" "LCoinBoats$Rows;") ∈ ai_tb := ai_wd1 224 rfl rfl
theorem wd_226 : (Cond.fieldLink "CoinBoats$State" (30 : Nat) "CoinBoats$State" "lacked" "LCoinBoats$Rows;") ∈ ai_tb := ai_wd1 226 rfl rfl
theorem wd_217 : (Cond.methodLink "CoinBoats$State" (33 : Nat) ({ cls := "CoinBoats$Rows", name := "zero", desc := "()V" } : MethodName)) ∈ ai_tb := ai_wd1 217 rfl rfl
theorem wd_732 : (Cond.methodLink "CoinBoats$State" (36 : Nat) ({ cls := "CoinBoats$Pieces", name := "clear", desc := "()V" } : MethodName)) ∈ ai_tb := ai_wd4 12 rfl rfl
theorem wd_733 : (Cond.instanceMethod ({ cls := "CoinBoats$Pieces", name := "clear", desc := "()V" } : MethodName)) ∈ ai_tb := ai_wd4 13 rfl rfl
theorem wd_734 : (Cond.selects "CoinBoats$Pieces" ({ cls := "CoinBoats$Pieces", name := "clear", desc := "()V" } : MethodName) ({ cls := "CoinBoats$Pieces", name := "clear", desc := "()V" } : MethodName)) ∈ ai_tb := ai_wd4 14 rfl rfl
theorem wd_736 : (Cond.methodLink "CoinBoats$State" (39 : Nat) ({ cls := "CoinBoats$Rows", name := "clear", desc := "()V" } : MethodName)) ∈ ai_tb := ai_wd4 16 rfl rfl
theorem wd_229 : (Cond.fieldLink "CoinBoats$State" (40 : Nat) "CoinBoats$State" "time" "I") ∈ ai_tb := ai_wd1 229 rfl rfl
theorem wd_232 : (Cond.fieldLink "CoinBoats$State" (44 : Nat) "CoinBoats$State" "spentHarm" "J") ∈ ai_tb := ai_wd1 232 rfl rfl
theorem wd_235 : (Cond.fieldLink "CoinBoats$State" (48 : Nat) "CoinBoats$State" "spentBoats" "J") ∈ ai_tb := ai_wd1 235 rfl rfl
theorem wd_238 : (Cond.fieldLink "CoinBoats$State" (51 : Nat) "CoinBoats$State" "spentNew" "J") ∈ ai_tb := ai_wd1 238 rfl rfl
theorem wd_240 : (Cond.fieldLink "CoinBoats$State" (54 : Nat) "CoinBoats$State" "isHeld" "Z") ∈ ai_tb := ai_wd2 0 rfl rfl
theorem wd_1309 : (Cond.methodLink "CoinBoats$State" (58 : Nat) ({ cls := "CoinBoats$Pieces", name := "copy", desc := "(LCoinBoats$Pieces;)V" } : MethodName)) ∈ ai_tb := ai_wd6 109 rfl rfl
theorem wd_1310 : (Cond.methodLink "CoinBoats$State" (62 : Nat) ({ cls := "CoinBoats$Rows", name := "copy", desc := "(LCoinBoats$Rows;)V" } : MethodName)) ∈ ai_tb := ai_wd6 110 rfl rfl
theorem wd_307 : (Cond.methodLink "CoinBoats$Stocks" (3 : Nat) ({ cls := "java/lang/Object", name := "<init>", desc := "()V" } : MethodName)) ∈ ai_tb := ai_wd2 67 rfl rfl
theorem wd_308 : (Cond.fieldLink "CoinBoats$Stocks" (11 : Nat) "CoinBoats$Stocks" "costs" "[J") ∈ ai_tb := ai_wd2 68 rfl rfl
theorem wd_309 : (Cond.fieldLink "CoinBoats$Stocks" (15 : Nat) "CoinBoats$Stocks" "behindBoat" "[J") ∈ ai_tb := ai_wd2 69 rfl rfl
theorem wd_310 : (Cond.fieldLink "CoinBoats$Stocks" (18 : Nat) "CoinBoats$Stocks" "orders" "[I") ∈ ai_tb := ai_wd2 70 rfl rfl
theorem wd_1073 : (Cond.methodLink "CoinBoats$Stocks" (22 : Nat) ({ cls := "CoinBoats$Text", name := "wanted", desc := "(III)I" } : MethodName)) ∈ ai_tb := ai_wd5 113 rfl rfl
theorem wd_1074 : (Cond.methodLink "CoinBoats$Stocks" (28 : Nat) ({ cls := "CoinBoats$Text", name := "harmOf", desc := "(I)I" } : MethodName)) ∈ ai_tb := ai_wd5 114 rfl rfl
theorem wd_1075 : (Cond.methodLink "CoinBoats$Stocks" (32 : Nat) ({ cls := "CoinBoats$Stocks", name := "takeWanted", desc := "(IIIJ)V" } : MethodName)) ∈ ai_tb := ai_wd5 115 rfl rfl
theorem wd_1077 : (Cond.instanceMethod ({ cls := "CoinBoats$Stocks", name := "takeWanted", desc := "(IIIJ)V" } : MethodName)) ∈ ai_tb := ai_wd5 117 rfl rfl
theorem wp_43 : (Cond.selects "CoinBoats$Stocks" ({ cls := "CoinBoats$Stocks", name := "takeWanted", desc := "(IIIJ)V" } : MethodName) ({ cls := "CoinBoats$Stocks", name := "takeWanted", desc := "(IIIJ)V" } : MethodName)) ∈ ai_tb := ai_wdp (y := ({ cls := "CoinBoats$Stocks", name := "takeWanted", desc := "(IIIJ)V" } : Jvm.MethodName)) 43 3 rfl
theorem wd_1084 : (Cond.methodLink "CoinBoats$Stocks" (36 : Nat) ({ cls := "CoinBoats$Stocks", name := "chooseOrders", desc := "(LCoinBoats$Text;IIIJ)V" } : MethodName)) ∈ ai_tb := ai_wd5 124 rfl rfl
theorem wd_1086 : (Cond.instanceMethod ({ cls := "CoinBoats$Stocks", name := "chooseOrders", desc := "(LCoinBoats$Text;IIIJ)V" } : MethodName)) ∈ ai_tb := ai_wd5 126 rfl rfl
theorem wp_44 : (Cond.selects "CoinBoats$Stocks" ({ cls := "CoinBoats$Stocks", name := "chooseOrders", desc := "(LCoinBoats$Text;IIIJ)V" } : MethodName) ({ cls := "CoinBoats$Stocks", name := "chooseOrders", desc := "(LCoinBoats$Text;IIIJ)V" } : MethodName)) ∈ ai_tb := ai_wdp (y := ({ cls := "CoinBoats$Stocks", name := "chooseOrders", desc := "(LCoinBoats$Text;IIIJ)V" } : Jvm.MethodName)) 44 3 rfl
theorem wd_1079 : (Cond.methodLink "CoinBoats$Stocks" (40 : Nat) ({ cls := "java/lang/Math", name := "max", desc := "(II)I" } : MethodName)) ∈ ai_tb := ai_wd5 119 rfl rfl
theorem wd_1080 : (Cond.methodLink "CoinBoats$Stocks" (46 : Nat) ({ cls := "CoinBoats$Stocks", name := "cost", desc := "(I)J" } : MethodName)) ∈ ai_tb := ai_wd5 120 rfl rfl
theorem wd_1081 : (Cond.instanceMethod ({ cls := "CoinBoats$Stocks", name := "cost", desc := "(I)J" } : MethodName)) ∈ ai_tb := ai_wd5 121 rfl rfl
theorem wd_1082 : (Cond.selects "CoinBoats$Stocks" ({ cls := "CoinBoats$Stocks", name := "cost", desc := "(I)J" } : MethodName) ({ cls := "CoinBoats$Stocks", name := "cost", desc := "(I)J" } : MethodName)) ∈ ai_tb := ai_wd5 122 rfl rfl
theorem wd_1088 : (Cond.methodLink "CoinBoats$Stocks" (50 : Nat) ({ cls := "CoinBoats$Text", name := "boatOf", desc := "(II)I" } : MethodName)) ∈ ai_tb := ai_wd5 128 rfl rfl
theorem wd_83 : (Cond.fieldLink "CoinBoats$Stocks" (53 : Nat) "CoinBoats$Text" "kinds" "LCoinBoats$Rows;") ∈ ai_tb := ai_wd1 83 rfl rfl
theorem wd_1089 : (Cond.methodLink "CoinBoats$Stocks" (57 : Nat) ({ cls := "CoinBoats$Rows", name := "get", desc := "(II)I" } : MethodName)) ∈ ai_tb := ai_wd5 129 rfl rfl
theorem wd_111 : (Cond.fieldLink "CoinBoats$Stocks" (62 : Nat) "CoinBoats$Text" "boats" "LCoinBoats$Rows;") ∈ ai_tb := ai_wd1 111 rfl rfl
theorem wd_89 : (Cond.fieldLink "CoinBoats$Stocks" (65 : Nat) "CoinBoats$Text" "islands" "LCoinBoats$Rows;") ∈ ai_tb := ai_wd1 89 rfl rfl
theorem wd_1090 : (Cond.methodLink "CoinBoats$Stocks" (68 : Nat) ({ cls := "CoinBoats$Stocks", name := "behind", desc := "(I)J" } : MethodName)) ∈ ai_tb := ai_wd5 130 rfl rfl
theorem wd_1092 : (Cond.instanceMethod ({ cls := "CoinBoats$Stocks", name := "behind", desc := "(I)J" } : MethodName)) ∈ ai_tb := ai_wd5 132 rfl rfl
theorem wp_45 : (Cond.selects "CoinBoats$Stocks" ({ cls := "CoinBoats$Stocks", name := "behind", desc := "(I)J" } : MethodName) ({ cls := "CoinBoats$Stocks", name := "behind", desc := "(I)J" } : MethodName)) ∈ ai_tb := ai_wdp (y := ({ cls := "CoinBoats$Stocks", name := "behind", desc := "(I)J" } : Jvm.MethodName)) 45 3 rfl
theorem wd_1118 : (Cond.methodLink "CoinBoats$Stocks" (71 : Nat) ({ cls := "CoinBoats$Rows", name := "size", desc := "()I" } : MethodName)) ∈ ai_tb := ai_wd5 158 rfl rfl
theorem wd_1119 : (Cond.methodLink "CoinBoats$Stocks" (75 : Nat) ({ cls := "CoinBoats$Stocks", name := "isIn", desc := "(II)Z" } : MethodName)) ∈ ai_tb := ai_wd5 159 rfl rfl
theorem wd_1120 : (Cond.static ({ cls := "CoinBoats$Stocks", name := "isIn", desc := "(II)Z" } : MethodName)) ∈ ai_tb := ai_wd5 160 rfl rfl
theorem wd_1134 : (Cond.methodLink "CoinBoats$Stocks" (79 : Nat) ({ cls := "CoinBoats$Stocks", name := "harm", desc := "(LCoinBoats$Text;LCoinBoats$Pieces;III)I" } : MethodName)) ∈ ai_tb := ai_wd5 174 rfl rfl
theorem wd_1116 : (Cond.static ({ cls := "CoinBoats$Stocks", name := "harm", desc := "(LCoinBoats$Text;LCoinBoats$Pieces;III)I" } : MethodName)) ∈ ai_tb := ai_wd5 156 rfl rfl
theorem wd_1122 : (Cond.methodLink "CoinBoats$Stocks" (83 : Nat) ({ cls := "CoinBoats$Pieces", name := "all", desc := "(II)I" } : MethodName)) ∈ ai_tb := ai_wd5 162 rfl rfl
theorem wd_1123 : (Cond.methodLink "CoinBoats$Stocks" (88 : Nat) ({ cls := "CoinBoats$Stocks", name := "mostHarmed", desc := "(LCoinBoats$Text;I)I" } : MethodName)) ∈ ai_tb := ai_wd5 163 rfl rfl
theorem wd_1124 : (Cond.static ({ cls := "CoinBoats$Stocks", name := "mostHarmed", desc := "(LCoinBoats$Text;I)I" } : MethodName)) ∈ ai_tb := ai_wd5 164 rfl rfl
theorem wd_1126 : (Cond.methodLink "CoinBoats$Stocks" (92 : Nat) ({ cls := "java/lang/Math", name := "min", desc := "(II)I" } : MethodName)) ∈ ai_tb := ai_wd5 166 rfl rfl
theorem wd_34 : (Cond.methodLink "CoinBoats$Text" (3 : Nat) ({ cls := "java/lang/Object", name := "<init>", desc := "()V" } : MethodName)) ∈ ai_tb := ai_wd1 34 rfl rfl
theorem wd_35 : (Cond.classLink "CoinBoats$Text" (9 : Nat) "CoinBoats$Rows") ∈ ai_tb := ai_wd1 35 rfl rfl
theorem wd_37 : (Cond.methodLink "CoinBoats$Text" (11 : Nat) ({ cls := "CoinBoats$Rows", name := "<init>", desc := "(II)V" } : MethodName)) ∈ ai_tb := ai_wd1 37 rfl rfl
theorem wd_81 : (Cond.fieldLink "CoinBoats$Text" (14 : Nat) "CoinBoats$Text" "kinds" "LCoinBoats$Rows;") ∈ ai_tb := ai_wd1 81 rfl rfl
theorem wd_88 : (Cond.fieldLink "CoinBoats$Text" (20 : Nat) "CoinBoats$Text" "islands" "LCoinBoats$Rows;") ∈ ai_tb := ai_wd1 88 rfl rfl
theorem wd_94 : (Cond.fieldLink "CoinBoats$Text" (23 : Nat) "CoinBoats$Text" "wants" "LCoinBoats$Rows;") ∈ ai_tb := ai_wd1 94 rfl rfl
theorem wd_97 : (Cond.fieldLink "CoinBoats$Text" (26 : Nat) "CoinBoats$Text" "losses" "LCoinBoats$Rows;") ∈ ai_tb := ai_wd1 97 rfl rfl
theorem wd_101 : (Cond.fieldLink "CoinBoats$Text" (29 : Nat) "CoinBoats$Text" "flows" "LCoinBoats$Rows;") ∈ ai_tb := ai_wd1 101 rfl rfl
theorem wd_105 : (Cond.fieldLink "CoinBoats$Text" (32 : Nat) "CoinBoats$Text" "wears" "LCoinBoats$Rows;") ∈ ai_tb := ai_wd1 105 rfl rfl
theorem wd_109 : (Cond.fieldLink "CoinBoats$Text" (35 : Nat) "CoinBoats$Text" "boats" "LCoinBoats$Rows;") ∈ ai_tb := ai_wd1 109 rfl rfl
theorem wd_59 : (Cond.classLink "CoinBoats$Text" (38 : Nat) "CoinBoats$Formulas") ∈ ai_tb := ai_wd1 59 rfl rfl
theorem wd_60 : (Cond.instantiable "CoinBoats$Formulas" (5 : Nat)) ∈ ai_tb := ai_wd1 60 rfl rfl
theorem wd_5 : (Cond.initialized "CoinBoats$Formulas") ∈ ai_tb := ai_wd1 5 rfl rfl
theorem wd_61 : (Cond.methodLink "CoinBoats$Text" (40 : Nat) ({ cls := "CoinBoats$Formulas", name := "<init>", desc := "()V" } : MethodName)) ∈ ai_tb := ai_wd1 61 rfl rfl
theorem wd_62 : (Cond.instanceMethod ({ cls := "CoinBoats$Formulas", name := "<init>", desc := "()V" } : MethodName)) ∈ ai_tb := ai_wd1 62 rfl rfl
theorem wd_114 : (Cond.fieldLink "CoinBoats$Text" (41 : Nat) "CoinBoats$Text" "formulas" "LCoinBoats$Formulas;") ∈ ai_tb := ai_wd1 114 rfl rfl
theorem wd_418 : (Cond.methodLink "CoinBoats$Text" (45 : Nat) ({ cls := "CoinBoats$Rows", name := "clear", desc := "()V" } : MethodName)) ∈ ai_tb := ai_wd2 178 rfl rfl
theorem wd_422 : (Cond.methodLink "CoinBoats$Text" (48 : Nat) ({ cls := "CoinBoats$Formulas", name := "clear", desc := "()V" } : MethodName)) ∈ ai_tb := ai_wd2 182 rfl rfl
theorem wd_423 : (Cond.instanceMethod ({ cls := "CoinBoats$Formulas", name := "clear", desc := "()V" } : MethodName)) ∈ ai_tb := ai_wd2 183 rfl rfl
theorem wd_424 : (Cond.selects "CoinBoats$Formulas" ({ cls := "CoinBoats$Formulas", name := "clear", desc := "()V" } : MethodName) ({ cls := "CoinBoats$Formulas", name := "clear", desc := "()V" } : MethodName)) ∈ ai_tb := ai_wd2 184 rfl rfl
theorem wd_715 : (Cond.methodLink "CoinBoats$Text" (49 : Nat) ({ cls := "CoinBoats$Rows", name := "size", desc := "()I" } : MethodName)) ∈ ai_tb := ai_wd3 235 rfl rfl
theorem wd_716 : (Cond.methodLink "CoinBoats$Text" (53 : Nat) ({ cls := "CoinBoats$Rows", name := "get", desc := "(II)I" } : MethodName)) ∈ ai_tb := ai_wd3 236 rfl rfl
theorem wd_781 : (Cond.methodLink "CoinBoats$Text" (57 : Nat) ({ cls := "CoinBoats$Text", name := "lastOf", desc := "(LCoinBoats$Rows;II)I" } : MethodName)) ∈ ai_tb := ai_wd4 61 rfl rfl
theorem wd_782 : (Cond.static ({ cls := "CoinBoats$Text", name := "lastOf", desc := "(LCoinBoats$Rows;II)I" } : MethodName)) ∈ ai_tb := ai_wd4 62 rfl rfl
theorem wd_784 : (Cond.methodLink "CoinBoats$Text" (61 : Nat) ({ cls := "CoinBoats$Text", name := "says", desc := "(LCoinBoats$Rows;IIIII)I" } : MethodName)) ∈ ai_tb := ai_wd4 64 rfl rfl
theorem wd_788 : (Cond.methodLink "CoinBoats$Text" (68 : Nat) ({ cls := "CoinBoats$Formulas", name := "value", desc := "(IIIIII)I" } : MethodName)) ∈ ai_tb := ai_wd4 68 rfl rfl
theorem wd_789 : (Cond.instanceMethod ({ cls := "CoinBoats$Formulas", name := "value", desc := "(IIIIII)I" } : MethodName)) ∈ ai_tb := ai_wd4 69 rfl rfl
theorem wd_790 : (Cond.selects "CoinBoats$Formulas" ({ cls := "CoinBoats$Formulas", name := "value", desc := "(IIIIII)I" } : MethodName) ({ cls := "CoinBoats$Formulas", name := "value", desc := "(IIIIII)I" } : MethodName)) ∈ ai_tb := ai_wd4 70 rfl rfl
theorem wd_144 : (Cond.methodLink "CoinBoats$Tokens" (3 : Nat) ({ cls := "java/lang/Object", name := "<init>", desc := "()V" } : MethodName)) ∈ ai_tb := ai_wd1 144 rfl rfl
theorem wd_145 : (Cond.fieldLink "CoinBoats$Tokens" (11 : Nat) "CoinBoats$Tokens" "sorts" "[I") ∈ ai_tb := ai_wd1 145 rfl rfl
theorem wd_146 : (Cond.fieldLink "CoinBoats$Tokens" (15 : Nat) "CoinBoats$Tokens" "places" "[I") ∈ ai_tb := ai_wd1 146 rfl rfl
theorem wd_147 : (Cond.fieldLink "CoinBoats$Tokens" (18 : Nat) "CoinBoats$Tokens" "values" "[J") ∈ ai_tb := ai_wd1 147 rfl rfl
theorem wd_148 : (Cond.fieldLink "CoinBoats$Tokens" (22 : Nat) "CoinBoats$Tokens" "size" "I") ∈ ai_tb := ai_wd1 148 rfl rfl
theorem wd_149 : (Cond.fieldLink "CoinBoats$Tokens" (26 : Nat) "CoinBoats$Tokens" "at" "I") ∈ ai_tb := ai_wd1 149 rfl rfl
theorem wd_150 : (Cond.fieldLink "CoinBoats$Tokens" (33 : Nat) "CoinBoats$Tokens" "length" "I") ∈ ai_tb := ai_wd1 150 rfl rfl
theorem wd_437 : (Cond.methodLink "CoinBoats$Tokens" (36 : Nat) ({ cls := "CoinBoats$Tokens", name := "skipBlanks", desc := "([B)V" } : MethodName)) ∈ ai_tb := ai_wd2 197 rfl rfl
theorem wd_439 : (Cond.instanceMethod ({ cls := "CoinBoats$Tokens", name := "skipBlanks", desc := "([B)V" } : MethodName)) ∈ ai_tb := ai_wd2 199 rfl rfl
theorem wp_1 : (Cond.selects "CoinBoats$Tokens" ({ cls := "CoinBoats$Tokens", name := "skipBlanks", desc := "([B)V" } : MethodName) ({ cls := "CoinBoats$Tokens", name := "skipBlanks", desc := "([B)V" } : MethodName)) ∈ ai_tb := ai_wdp (y := ({ cls := "CoinBoats$Tokens", name := "skipBlanks", desc := "([B)V" } : Jvm.MethodName)) 1 7 rfl
theorem wd_151 : (Cond.fieldLink "CoinBoats$Tokens" (40 : Nat) "CoinBoats$Tokens" "value" "J") ∈ ai_tb := ai_wd1 151 rfl rfl
theorem wd_448 : (Cond.methodLink "CoinBoats$Tokens" (44 : Nat) ({ cls := "CoinBoats$Tokens", name := "next", desc := "([B)I" } : MethodName)) ∈ ai_tb := ai_wd2 208 rfl rfl
theorem wd_450 : (Cond.instanceMethod ({ cls := "CoinBoats$Tokens", name := "next", desc := "([B)I" } : MethodName)) ∈ ai_tb := ai_wd2 210 rfl rfl
theorem wp_3 : (Cond.selects "CoinBoats$Tokens" ({ cls := "CoinBoats$Tokens", name := "next", desc := "([B)I" } : MethodName) ({ cls := "CoinBoats$Tokens", name := "next", desc := "([B)I" } : MethodName)) ∈ ai_tb := ai_wdp (y := ({ cls := "CoinBoats$Tokens", name := "next", desc := "([B)I" } : Jvm.MethodName)) 3 7 rfl
theorem wd_441 : (Cond.methodLink "CoinBoats$Tokens" (48 : Nat) ({ cls := "CoinBoats$Tokens", name := "byteAt", desc := "([BI)I" } : MethodName)) ∈ ai_tb := ai_wd2 201 rfl rfl
theorem wd_443 : (Cond.instanceMethod ({ cls := "CoinBoats$Tokens", name := "byteAt", desc := "([BI)I" } : MethodName)) ∈ ai_tb := ai_wd2 203 rfl rfl
theorem wp_2 : (Cond.selects "CoinBoats$Tokens" ({ cls := "CoinBoats$Tokens", name := "byteAt", desc := "([BI)I" } : MethodName) ({ cls := "CoinBoats$Tokens", name := "byteAt", desc := "([BI)I" } : MethodName)) ∈ ai_tb := ai_wdp (y := ({ cls := "CoinBoats$Tokens", name := "byteAt", desc := "([BI)I" } : Jvm.MethodName)) 2 7 rfl
theorem wd_445 : (Cond.methodLink "CoinBoats$Tokens" (52 : Nat) ({ cls := "CoinBoats$Tokens", name := "isBlank", desc := "(I)Z" } : MethodName)) ∈ ai_tb := ai_wd2 205 rfl rfl
theorem wd_446 : (Cond.static ({ cls := "CoinBoats$Tokens", name := "isBlank", desc := "(I)Z" } : MethodName)) ∈ ai_tb := ai_wd2 206 rfl rfl
theorem wd_452 : (Cond.methodLink "CoinBoats$Tokens" (56 : Nat) ({ cls := "CoinBoats$Tokens", name := "isLetter", desc := "(I)Z" } : MethodName)) ∈ ai_tb := ai_wd2 212 rfl rfl
theorem wd_453 : (Cond.static ({ cls := "CoinBoats$Tokens", name := "isLetter", desc := "(I)Z" } : MethodName)) ∈ ai_tb := ai_wd2 213 rfl rfl
theorem wd_455 : (Cond.methodLink "CoinBoats$Tokens" (59 : Nat) ({ cls := "CoinBoats$Tokens", name := "word", desc := "([B)I" } : MethodName)) ∈ ai_tb := ai_wd2 215 rfl rfl
theorem wd_457 : (Cond.instanceMethod ({ cls := "CoinBoats$Tokens", name := "word", desc := "([B)I" } : MethodName)) ∈ ai_tb := ai_wd2 217 rfl rfl
theorem wp_4 : (Cond.selects "CoinBoats$Tokens" ({ cls := "CoinBoats$Tokens", name := "word", desc := "([B)I" } : MethodName) ({ cls := "CoinBoats$Tokens", name := "word", desc := "([B)I" } : MethodName)) ∈ ai_tb := ai_wdp (y := ({ cls := "CoinBoats$Tokens", name := "word", desc := "([B)I" } : Jvm.MethodName)) 4 7 rfl
theorem wd_512 : (Cond.methodLink "CoinBoats$Tokens" (62 : Nat) ({ cls := "CoinBoats$Tokens", name := "isDigit", desc := "(I)Z" } : MethodName)) ∈ ai_tb := ai_wd3 32 rfl rfl
theorem wd_513 : (Cond.static ({ cls := "CoinBoats$Tokens", name := "isDigit", desc := "(I)Z" } : MethodName)) ∈ ai_tb := ai_wd3 33 rfl rfl
theorem wd_515 : (Cond.methodLink "CoinBoats$Tokens" (65 : Nat) ({ cls := "CoinBoats$Tokens", name := "digits", desc := "([B)I" } : MethodName)) ∈ ai_tb := ai_wd3 35 rfl rfl
theorem wd_517 : (Cond.instanceMethod ({ cls := "CoinBoats$Tokens", name := "digits", desc := "([B)I" } : MethodName)) ∈ ai_tb := ai_wd3 37 rfl rfl
theorem wp_6 : (Cond.selects "CoinBoats$Tokens" ({ cls := "CoinBoats$Tokens", name := "digits", desc := "([B)I" } : MethodName) ({ cls := "CoinBoats$Tokens", name := "digits", desc := "([B)I" } : MethodName)) ∈ ai_tb := ai_wdp (y := ({ cls := "CoinBoats$Tokens", name := "digits", desc := "([B)I" } : Jvm.MethodName)) 6 7 rfl
theorem wd_522 : (Cond.methodLink "CoinBoats$Tokens" (70 : Nat) ({ cls := "java/lang/String", name := "indexOf", desc := "(I)I" } : MethodName)) ∈ ai_tb := ai_wd3 42 rfl rfl
theorem wd_523 : (Cond.instanceMethod ({ cls := "java/lang/String", name := "indexOf", desc := "(I)I" } : MethodName)) ∈ ai_tb := ai_wd3 43 rfl rfl
theorem wd_524 : (Cond.selects "java/lang/String" ({ cls := "java/lang/String", name := "indexOf", desc := "(I)I" } : MethodName) ({ cls := "java/lang/String", name := "indexOf", desc := "(I)I" } : MethodName)) ∈ ai_tb := ai_wd3 44 rfl rfl
theorem wd_459 : (Cond.methodLink "CoinBoats$Tokens" (76 : Nat) ({ cls := "CoinBoats$Tokens", name := "isWord", desc := "([BII)Z" } : MethodName)) ∈ ai_tb := ai_wd2 219 rfl rfl
theorem wd_461 : (Cond.instanceMethod ({ cls := "CoinBoats$Tokens", name := "isWord", desc := "([BII)Z" } : MethodName)) ∈ ai_tb := ai_wd2 221 rfl rfl
theorem wp_5 : (Cond.selects "CoinBoats$Tokens" ({ cls := "CoinBoats$Tokens", name := "isWord", desc := "([BII)Z" } : MethodName) ({ cls := "CoinBoats$Tokens", name := "isWord", desc := "([BII)Z" } : MethodName)) ∈ ai_tb := ai_wdp (y := ({ cls := "CoinBoats$Tokens", name := "isWord", desc := "([BII)Z" } : Jvm.MethodName)) 5 7 rfl
theorem wd_464 : (Cond.methodLink "CoinBoats$Tokens" (82 : Nat) ({ cls := "java/lang/String", name := "length", desc := "()I" } : MethodName)) ∈ ai_tb := ai_wd2 224 rfl rfl
theorem wd_465 : (Cond.instanceMethod ({ cls := "java/lang/String", name := "length", desc := "()I" } : MethodName)) ∈ ai_tb := ai_wd2 225 rfl rfl
theorem wd_466 : (Cond.selects "java/lang/String" ({ cls := "java/lang/String", name := "length", desc := "()I" } : MethodName) ({ cls := "java/lang/String", name := "length", desc := "()I" } : MethodName)) ∈ ai_tb := ai_wd2 226 rfl rfl
theorem wd_474 : (Cond.methodLink "CoinBoats$Tokens" (85 : Nat) ({ cls := "java/lang/String", name := "charAt", desc := "(I)C" } : MethodName)) ∈ ai_tb := ai_wd2 234 rfl rfl
theorem wd_475 : (Cond.instanceMethod ({ cls := "java/lang/String", name := "charAt", desc := "(I)C" } : MethodName)) ∈ ai_tb := ai_wd2 235 rfl rfl
theorem wd_476 : (Cond.selects "java/lang/String" ({ cls := "java/lang/String", name := "charAt", desc := "(I)C" } : MethodName) ({ cls := "java/lang/String", name := "charAt", desc := "(I)C" } : MethodName)) ∈ ai_tb := ai_wd2 236 rfl rfl
theorem wd_519 : (Cond.constantLong "CoinBoats$Tokens" (89 : Nat) (10 : Int64)) ∈ ai_tb := ai_wd3 39 rfl rfl
theorem wd_520 : (Cond.constantLong "CoinBoats$Tokens" (91 : Nat) (48 : Int64)) ∈ ai_tb := ai_wd3 40 rfl rfl
theorem wd_26 : (Cond.methodLink "CoinBoats" (1 : Nat) ({ cls := "java/lang/Object", name := "<init>", desc := "()V" } : MethodName)) ∈ ai_tb := ai_wd1 26 rfl rfl
theorem wd_57 : (Cond.arrayClass Jvm.ClassFile.FieldType.byte) ∈ ai_tb := ai_wd1 57 rfl rfl
theorem wd_351 : (Cond.fieldLink "CoinBoats" (7 : Nat) "CoinBoats" "tape" "[B") ∈ ai_tb := ai_wd2 111 rfl rfl
theorem wd_353 : (Cond.fieldLink "CoinBoats" (13 : Nat) "CoinBoats" "faultPlace" "I") ∈ ai_tb := ai_wd2 113 rfl rfl
theorem wd_29 : (Cond.classLink "CoinBoats" (17 : Nat) "CoinBoats$Text") ∈ ai_tb := ai_wd1 29 rfl rfl
theorem wd_30 : (Cond.instantiable "CoinBoats$Text" (8 : Nat)) ∈ ai_tb := ai_wd1 30 rfl rfl
theorem wd_2 : (Cond.initialized "CoinBoats$Text") ∈ ai_tb := ai_wd1 2 rfl rfl
theorem wd_31 : (Cond.methodLink "CoinBoats" (19 : Nat) ({ cls := "CoinBoats$Text", name := "<init>", desc := "()V" } : MethodName)) ∈ ai_tb := ai_wd1 31 rfl rfl
theorem wd_32 : (Cond.instanceMethod ({ cls := "CoinBoats$Text", name := "<init>", desc := "()V" } : MethodName)) ∈ ai_tb := ai_wd1 32 rfl rfl
theorem wd_354 : (Cond.fieldLink "CoinBoats" (20 : Nat) "CoinBoats" "text" "LCoinBoats$Text;") ∈ ai_tb := ai_wd2 114 rfl rfl
theorem wd_355 : (Cond.fieldLink "CoinBoats" (24 : Nat) "CoinBoats" "spare" "LCoinBoats$Text;") ∈ ai_tb := ai_wd2 115 rfl rfl
theorem wd_133 : (Cond.classLink "CoinBoats" (27 : Nat) "CoinBoats$Reader") ∈ ai_tb := ai_wd1 133 rfl rfl
theorem wd_134 : (Cond.instantiable "CoinBoats$Reader" (8 : Nat)) ∈ ai_tb := ai_wd1 134 rfl rfl
theorem wd_6 : (Cond.initialized "CoinBoats$Reader") ∈ ai_tb := ai_wd1 6 rfl rfl
theorem wd_135 : (Cond.methodLink "CoinBoats" (29 : Nat) ({ cls := "CoinBoats$Reader", name := "<init>", desc := "()V" } : MethodName)) ∈ ai_tb := ai_wd1 135 rfl rfl
theorem wd_136 : (Cond.instanceMethod ({ cls := "CoinBoats$Reader", name := "<init>", desc := "()V" } : MethodName)) ∈ ai_tb := ai_wd1 136 rfl rfl
theorem wd_356 : (Cond.fieldLink "CoinBoats" (30 : Nat) "CoinBoats" "reader" "LCoinBoats$Reader;") ∈ ai_tb := ai_wd2 116 rfl rfl
theorem wd_193 : (Cond.classLink "CoinBoats" (34 : Nat) "CoinBoats$State") ∈ ai_tb := ai_wd1 193 rfl rfl
theorem wd_194 : (Cond.instantiable "CoinBoats$State" (9 : Nat)) ∈ ai_tb := ai_wd1 194 rfl rfl
theorem wd_8 : (Cond.initialized "CoinBoats$State") ∈ ai_tb := ai_wd1 8 rfl rfl
theorem wd_195 : (Cond.methodLink "CoinBoats" (36 : Nat) ({ cls := "CoinBoats$State", name := "<init>", desc := "()V" } : MethodName)) ∈ ai_tb := ai_wd1 195 rfl rfl
theorem wd_196 : (Cond.instanceMethod ({ cls := "CoinBoats$State", name := "<init>", desc := "()V" } : MethodName)) ∈ ai_tb := ai_wd1 196 rfl rfl
theorem wd_357 : (Cond.fieldLink "CoinBoats" (37 : Nat) "CoinBoats" "now" "LCoinBoats$State;") ∈ ai_tb := ai_wd2 117 rfl rfl
theorem wd_358 : (Cond.fieldLink "CoinBoats" (41 : Nat) "CoinBoats" "slotA" "LCoinBoats$State;") ∈ ai_tb := ai_wd2 118 rfl rfl
theorem wd_359 : (Cond.fieldLink "CoinBoats" (44 : Nat) "CoinBoats" "slotB" "LCoinBoats$State;") ∈ ai_tb := ai_wd2 119 rfl rfl
theorem wd_261 : (Cond.classLink "CoinBoats" (47 : Nat) "CoinBoats$Calendar") ∈ ai_tb := ai_wd2 21 rfl rfl
theorem wd_262 : (Cond.instantiable "CoinBoats$Calendar" (3 : Nat)) ∈ ai_tb := ai_wd2 22 rfl rfl
theorem wd_10 : (Cond.initialized "CoinBoats$Calendar") ∈ ai_tb := ai_wd1 10 rfl rfl
theorem wd_263 : (Cond.methodLink "CoinBoats" (49 : Nat) ({ cls := "CoinBoats$Calendar", name := "<init>", desc := "()V" } : MethodName)) ∈ ai_tb := ai_wd2 23 rfl rfl
theorem wd_264 : (Cond.instanceMethod ({ cls := "CoinBoats$Calendar", name := "<init>", desc := "()V" } : MethodName)) ∈ ai_tb := ai_wd2 24 rfl rfl
theorem wd_360 : (Cond.fieldLink "CoinBoats" (50 : Nat) "CoinBoats" "calendar" "LCoinBoats$Calendar;") ∈ ai_tb := ai_wd2 120 rfl rfl
theorem wd_281 : (Cond.classLink "CoinBoats" (54 : Nat) "CoinBoats$Coins") ∈ ai_tb := ai_wd2 41 rfl rfl
theorem wd_282 : (Cond.instantiable "CoinBoats$Coins" (4 : Nat)) ∈ ai_tb := ai_wd2 42 rfl rfl
theorem wd_11 : (Cond.initialized "CoinBoats$Coins") ∈ ai_tb := ai_wd1 11 rfl rfl
theorem wd_283 : (Cond.methodLink "CoinBoats" (56 : Nat) ({ cls := "CoinBoats$Coins", name := "<init>", desc := "()V" } : MethodName)) ∈ ai_tb := ai_wd2 43 rfl rfl
theorem wd_284 : (Cond.instanceMethod ({ cls := "CoinBoats$Coins", name := "<init>", desc := "()V" } : MethodName)) ∈ ai_tb := ai_wd2 44 rfl rfl
theorem wd_361 : (Cond.fieldLink "CoinBoats" (57 : Nat) "CoinBoats" "coins" "LCoinBoats$Coins;") ∈ ai_tb := ai_wd2 121 rfl rfl
theorem wd_302 : (Cond.classLink "CoinBoats" (61 : Nat) "CoinBoats$Stocks") ∈ ai_tb := ai_wd2 62 rfl rfl
theorem wd_303 : (Cond.instantiable "CoinBoats$Stocks" (3 : Nat)) ∈ ai_tb := ai_wd2 63 rfl rfl
theorem wd_12 : (Cond.initialized "CoinBoats$Stocks") ∈ ai_tb := ai_wd1 12 rfl rfl
theorem wd_304 : (Cond.methodLink "CoinBoats" (63 : Nat) ({ cls := "CoinBoats$Stocks", name := "<init>", desc := "()V" } : MethodName)) ∈ ai_tb := ai_wd2 64 rfl rfl
theorem wd_305 : (Cond.instanceMethod ({ cls := "CoinBoats$Stocks", name := "<init>", desc := "()V" } : MethodName)) ∈ ai_tb := ai_wd2 65 rfl rfl
theorem wd_362 : (Cond.fieldLink "CoinBoats" (64 : Nat) "CoinBoats" "stocks" "LCoinBoats$Stocks;") ∈ ai_tb := ai_wd2 122 rfl rfl
theorem wd_318 : (Cond.classLink "CoinBoats" (68 : Nat) "CoinBoats$Ledger") ∈ ai_tb := ai_wd2 78 rfl rfl
theorem wd_319 : (Cond.instantiable "CoinBoats$Ledger" (8 : Nat)) ∈ ai_tb := ai_wd2 79 rfl rfl
theorem wd_13 : (Cond.initialized "CoinBoats$Ledger") ∈ ai_tb := ai_wd1 13 rfl rfl
theorem wd_320 : (Cond.methodLink "CoinBoats" (70 : Nat) ({ cls := "CoinBoats$Ledger", name := "<init>", desc := "()V" } : MethodName)) ∈ ai_tb := ai_wd2 80 rfl rfl
theorem wd_321 : (Cond.instanceMethod ({ cls := "CoinBoats$Ledger", name := "<init>", desc := "()V" } : MethodName)) ∈ ai_tb := ai_wd2 81 rfl rfl
theorem wd_363 : (Cond.fieldLink "CoinBoats" (71 : Nat) "CoinBoats" "ledger" "LCoinBoats$Ledger;") ∈ ai_tb := ai_wd2 123 rfl rfl
theorem wd_352 : (Cond.fieldLink "CoinBoats" (75 : Nat) "CoinBoats" "bytes" "I") ∈ ai_tb := ai_wd2 112 rfl rfl
theorem wd_395 : (Cond.methodLink "CoinBoats" (78 : Nat) ({ cls := "CoinBoats", name := "append", desc := "(I)V" } : MethodName)) ∈ ai_tb := ai_wd2 155 rfl rfl
theorem wd_397 : (Cond.instanceMethod ({ cls := "CoinBoats", name := "append", desc := "(I)V" } : MethodName)) ∈ ai_tb := ai_wd2 157 rfl rfl
theorem wp_0 : (Cond.selects "CoinBoats" ({ cls := "CoinBoats", name := "append", desc := "(I)V" } : MethodName) ({ cls := "CoinBoats", name := "append", desc := "(I)V" } : MethodName)) ∈ ai_tb := ai_wdp (y := ({ cls := "CoinBoats", name := "append", desc := "(I)V" } : Jvm.MethodName)) 0 13 rfl
theorem wd_407 : (Cond.methodLink "CoinBoats" (82 : Nat) ({ cls := "CoinBoats$Reader", name := "examine", desc := "([BILCoinBoats$Text;)I" } : MethodName)) ∈ ai_tb := ai_wd2 167 rfl rfl
theorem wd_408 : (Cond.instanceMethod ({ cls := "CoinBoats$Reader", name := "examine", desc := "([BILCoinBoats$Text;)I" } : MethodName)) ∈ ai_tb := ai_wd2 168 rfl rfl
theorem wd_409 : (Cond.selects "CoinBoats$Reader" ({ cls := "CoinBoats$Reader", name := "examine", desc := "([BILCoinBoats$Text;)I" } : MethodName) ({ cls := "CoinBoats$Reader", name := "examine", desc := "([BILCoinBoats$Text;)I" } : MethodName)) ∈ ai_tb := ai_wd2 169 rfl rfl
theorem wd_720 : (Cond.methodLink "CoinBoats" (86 : Nat) ({ cls := "CoinBoats$Reader", name := "faultPlace", desc := "()I" } : MethodName)) ∈ ai_tb := ai_wd4 0 rfl rfl
theorem wd_721 : (Cond.instanceMethod ({ cls := "CoinBoats$Reader", name := "faultPlace", desc := "()I" } : MethodName)) ∈ ai_tb := ai_wd4 1 rfl rfl
theorem wd_722 : (Cond.selects "CoinBoats$Reader" ({ cls := "CoinBoats$Reader", name := "faultPlace", desc := "()I" } : MethodName) ({ cls := "CoinBoats$Reader", name := "faultPlace", desc := "()I" } : MethodName)) ∈ ai_tb := ai_wd4 2 rfl rfl
theorem wd_728 : (Cond.methodLink "CoinBoats" (89 : Nat) ({ cls := "CoinBoats$State", name := "clear", desc := "()V" } : MethodName)) ∈ ai_tb := ai_wd4 8 rfl rfl
theorem wd_729 : (Cond.instanceMethod ({ cls := "CoinBoats$State", name := "clear", desc := "()V" } : MethodName)) ∈ ai_tb := ai_wd4 9 rfl rfl
theorem wd_730 : (Cond.selects "CoinBoats$State" ({ cls := "CoinBoats$State", name := "clear", desc := "()V" } : MethodName) ({ cls := "CoinBoats$State", name := "clear", desc := "()V" } : MethodName)) ∈ ai_tb := ai_wd4 10 rfl rfl
theorem wd_745 : (Cond.methodLink "CoinBoats" (92 : Nat) ({ cls := "CoinBoats$Text", name := "isKind", desc := "(I)Z" } : MethodName)) ∈ ai_tb := ai_wd4 25 rfl rfl
theorem wd_746 : (Cond.instanceMethod ({ cls := "CoinBoats$Text", name := "isKind", desc := "(I)Z" } : MethodName)) ∈ ai_tb := ai_wd4 26 rfl rfl
theorem wd_747 : (Cond.selects "CoinBoats$Text" ({ cls := "CoinBoats$Text", name := "isKind", desc := "(I)Z" } : MethodName) ({ cls := "CoinBoats$Text", name := "isKind", desc := "(I)Z" } : MethodName)) ∈ ai_tb := ai_wd4 27 rfl rfl
theorem wd_749 : (Cond.methodLink "CoinBoats" (96 : Nat) ({ cls := "CoinBoats", name := "within", desc := "(III)Z" } : MethodName)) ∈ ai_tb := ai_wd4 29 rfl rfl
theorem wd_750 : (Cond.static ({ cls := "CoinBoats", name := "within", desc := "(III)Z" } : MethodName)) ∈ ai_tb := ai_wd4 30 rfl rfl
theorem wd_87 : (Cond.fieldLink "CoinBoats" (100 : Nat) "CoinBoats$Text" "kinds" "LCoinBoats$Rows;") ∈ ai_tb := ai_wd1 87 rfl rfl
theorem wd_752 : (Cond.methodLink "CoinBoats" (104 : Nat) ({ cls := "CoinBoats$Rows", name := "get", desc := "(II)I" } : MethodName)) ∈ ai_tb := ai_wd4 32 rfl rfl
theorem wd_757 : (Cond.methodLink "CoinBoats" (110 : Nat) ({ cls := "CoinBoats$Text", name := "isIsland", desc := "(I)Z" } : MethodName)) ∈ ai_tb := ai_wd4 37 rfl rfl
theorem wd_758 : (Cond.instanceMethod ({ cls := "CoinBoats$Text", name := "isIsland", desc := "(I)Z" } : MethodName)) ∈ ai_tb := ai_wd4 38 rfl rfl
theorem wd_759 : (Cond.selects "CoinBoats$Text" ({ cls := "CoinBoats$Text", name := "isIsland", desc := "(I)Z" } : MethodName) ({ cls := "CoinBoats$Text", name := "isIsland", desc := "(I)Z" } : MethodName)) ∈ ai_tb := ai_wd4 39 rfl rfl
theorem wd_92 : (Cond.fieldLink "CoinBoats" (113 : Nat) "CoinBoats$Text" "islands" "LCoinBoats$Rows;") ∈ ai_tb := ai_wd1 92 rfl rfl
theorem wd_765 : (Cond.methodLink "CoinBoats" (116 : Nat) ({ cls := "CoinBoats", name := "isMonth", desc := "(I)Z" } : MethodName)) ∈ ai_tb := ai_wd4 45 rfl rfl
theorem wd_766 : (Cond.static ({ cls := "CoinBoats", name := "isMonth", desc := "(I)Z" } : MethodName)) ∈ ai_tb := ai_wd4 46 rfl rfl
theorem wd_768 : (Cond.methodLink "CoinBoats" (119 : Nat) ({ cls := "CoinBoats$Text", name := "boatOf", desc := "(II)I" } : MethodName)) ∈ ai_tb := ai_wd4 48 rfl rfl
theorem wd_773 : (Cond.methodLink "CoinBoats" (122 : Nat) ({ cls := "CoinBoats", name := "isOf", desc := "(II)Z" } : MethodName)) ∈ ai_tb := ai_wd4 53 rfl rfl
theorem wd_775 : (Cond.instanceMethod ({ cls := "CoinBoats", name := "isOf", desc := "(II)Z" } : MethodName)) ∈ ai_tb := ai_wd4 55 rfl rfl
theorem wp_31 : (Cond.selects "CoinBoats" ({ cls := "CoinBoats", name := "isOf", desc := "(II)Z" } : MethodName) ({ cls := "CoinBoats", name := "isOf", desc := "(II)Z" } : MethodName)) ∈ ai_tb := ai_wdp (y := ({ cls := "CoinBoats", name := "isOf", desc := "(II)Z" } : Jvm.MethodName)) 31 13 rfl
theorem wd_777 : (Cond.methodLink "CoinBoats" (126 : Nat) ({ cls := "CoinBoats$Text", name := "wanted", desc := "(III)I" } : MethodName)) ∈ ai_tb := ai_wd4 57 rfl rfl
theorem wd_220 : (Cond.fieldLink "CoinBoats" (130 : Nat) "CoinBoats$State" "pieces" "LCoinBoats$Pieces;") ∈ ai_tb := ai_wd1 220 rfl rfl
theorem wd_810 : (Cond.methodLink "CoinBoats" (134 : Nat) ({ cls := "CoinBoats$Pieces", name := "get", desc := "(III)I" } : MethodName)) ∈ ai_tb := ai_wd4 90 rfl rfl
theorem wd_818 : (Cond.constant "CoinBoats" (138 : Nat) (999999 : Int32)) ∈ ai_tb := ai_wd4 98 rfl rfl
theorem wd_819 : (Cond.methodLink "CoinBoats" (139 : Nat) ({ cls := "CoinBoats$Pieces", name := "add", desc := "(IIII)V" } : MethodName)) ∈ ai_tb := ai_wd4 99 rfl rfl
theorem wd_824 : (Cond.methodLink "CoinBoats" (147 : Nat) ({ cls := "CoinBoats$Pieces", name := "all", desc := "(II)I" } : MethodName)) ∈ ai_tb := ai_wd4 104 rfl rfl
theorem wd_837 : (Cond.methodLink "CoinBoats" (150 : Nat) ({ cls := "CoinBoats$Text", name := "isPlace", desc := "(I)Z" } : MethodName)) ∈ ai_tb := ai_wd4 117 rfl rfl
theorem wd_838 : (Cond.instanceMethod ({ cls := "CoinBoats$Text", name := "isPlace", desc := "(I)Z" } : MethodName)) ∈ ai_tb := ai_wd4 118 rfl rfl
theorem wd_839 : (Cond.selects "CoinBoats$Text" ({ cls := "CoinBoats$Text", name := "isPlace", desc := "(I)Z" } : MethodName) ({ cls := "CoinBoats$Text", name := "isPlace", desc := "(I)Z" } : MethodName)) ∈ ai_tb := ai_wd4 119 rfl rfl
theorem wd_223 : (Cond.fieldLink "CoinBoats" (156 : Nat) "CoinBoats$State" "sendings" "LCoinBoats$Rows;") ∈ ai_tb := ai_wd1 223 rfl rfl
theorem wd_849 : (Cond.methodLink "CoinBoats" (159 : Nat) ({ cls := "CoinBoats$Rows", name := "isFull", desc := "()Z" } : MethodName)) ∈ ai_tb := ai_wd4 129 rfl rfl
theorem wd_850 : (Cond.methodLink "CoinBoats" (163 : Nat) ({ cls := "CoinBoats$Rows", name := "add", desc := "()I" } : MethodName)) ∈ ai_tb := ai_wd4 130 rfl rfl
theorem wd_851 : (Cond.methodLink "CoinBoats" (165 : Nat) ({ cls := "CoinBoats$Rows", name := "put", desc := "(III)V" } : MethodName)) ∈ ai_tb := ai_wd4 131 rfl rfl
theorem wd_856 : (Cond.methodLink "CoinBoats" (169 : Nat) ({ cls := "CoinBoats$Rows", name := "size", desc := "()I" } : MethodName)) ∈ ai_tb := ai_wd4 136 rfl rfl
theorem wd_861 : (Cond.methodLink "CoinBoats" (172 : Nat) ({ cls := "CoinBoats$Calendar", name := "firstUndone", desc := "(LCoinBoats$Text;LCoinBoats$State;)I" } : MethodName)) ∈ ai_tb := ai_wd4 141 rfl rfl
theorem wd_862 : (Cond.instanceMethod ({ cls := "CoinBoats$Calendar", name := "firstUndone", desc := "(LCoinBoats$Text;LCoinBoats$State;)I" } : MethodName)) ∈ ai_tb := ai_wd4 142 rfl rfl
theorem wd_863 : (Cond.selects "CoinBoats$Calendar" ({ cls := "CoinBoats$Calendar", name := "firstUndone", desc := "(LCoinBoats$Text;LCoinBoats$State;)I" } : MethodName) ({ cls := "CoinBoats$Calendar", name := "firstUndone", desc := "(LCoinBoats$Text;LCoinBoats$State;)I" } : MethodName)) ∈ ai_tb := ai_wd4 143 rfl rfl
theorem wd_912 : (Cond.methodLink "CoinBoats" (176 : Nat) ({ cls := "CoinBoats$Calendar", name := "reason", desc := "()I" } : MethodName)) ∈ ai_tb := ai_wd4 192 rfl rfl
theorem wd_913 : (Cond.instanceMethod ({ cls := "CoinBoats$Calendar", name := "reason", desc := "()I" } : MethodName)) ∈ ai_tb := ai_wd4 193 rfl rfl
theorem wd_914 : (Cond.selects "CoinBoats$Calendar" ({ cls := "CoinBoats$Calendar", name := "reason", desc := "()I" } : MethodName) ({ cls := "CoinBoats$Calendar", name := "reason", desc := "()I" } : MethodName)) ∈ ai_tb := ai_wd4 194 rfl rfl
theorem wd_920 : (Cond.methodLink "CoinBoats" (179 : Nat) ({ cls := "CoinBoats$Calendar", name := "pass", desc := "(LCoinBoats$Text;LCoinBoats$State;I)I" } : MethodName)) ∈ ai_tb := ai_wd4 200 rfl rfl
theorem wd_921 : (Cond.instanceMethod ({ cls := "CoinBoats$Calendar", name := "pass", desc := "(LCoinBoats$Text;LCoinBoats$State;I)I" } : MethodName)) ∈ ai_tb := ai_wd4 201 rfl rfl
theorem wd_922 : (Cond.selects "CoinBoats$Calendar" ({ cls := "CoinBoats$Calendar", name := "pass", desc := "(LCoinBoats$Text;LCoinBoats$State;I)I" } : MethodName) ({ cls := "CoinBoats$Calendar", name := "pass", desc := "(LCoinBoats$Text;LCoinBoats$State;I)I" } : MethodName)) ∈ ai_tb := ai_wd4 202 rfl rfl
theorem wd_228 : (Cond.fieldLink "CoinBoats" (183 : Nat) "CoinBoats$State" "lacked" "LCoinBoats$Rows;") ∈ ai_tb := ai_wd1 228 rfl rfl
theorem wd_964 : (Cond.constantLong "CoinBoats" (192 : Nat) (-1 : Int64)) ∈ ai_tb := ai_wd5 4 rfl rfl
theorem wd_969 : (Cond.methodLink "CoinBoats" (194 : Nat) ({ cls := "CoinBoats", name := "isSum", desc := "(I)Z" } : MethodName)) ∈ ai_tb := ai_wd5 9 rfl rfl
theorem wd_970 : (Cond.static ({ cls := "CoinBoats", name := "isSum", desc := "(I)Z" } : MethodName)) ∈ ai_tb := ai_wd5 10 rfl rfl
theorem wd_972 : (Cond.methodLink "CoinBoats" (197 : Nat) ({ cls := "CoinBoats$Coins", name := "look", desc := "(LCoinBoats$Text;LCoinBoats$Pieces;II)V" } : MethodName)) ∈ ai_tb := ai_wd5 12 rfl rfl
theorem wd_973 : (Cond.instanceMethod ({ cls := "CoinBoats$Coins", name := "look", desc := "(LCoinBoats$Text;LCoinBoats$Pieces;II)V" } : MethodName)) ∈ ai_tb := ai_wd5 13 rfl rfl
theorem wd_974 : (Cond.selects "CoinBoats$Coins" ({ cls := "CoinBoats$Coins", name := "look", desc := "(LCoinBoats$Text;LCoinBoats$Pieces;II)V" } : MethodName) ({ cls := "CoinBoats$Coins", name := "look", desc := "(LCoinBoats$Text;LCoinBoats$Pieces;II)V" } : MethodName)) ∈ ai_tb := ai_wd5 14 rfl rfl
theorem wd_982 : (Cond.methodLink "CoinBoats" (201 : Nat) ({ cls := "CoinBoats$Coins", name := "fewestOfTill", desc := "(I)I" } : MethodName)) ∈ ai_tb := ai_wd5 22 rfl rfl
theorem wd_983 : (Cond.instanceMethod ({ cls := "CoinBoats$Coins", name := "fewestOfTill", desc := "(I)I" } : MethodName)) ∈ ai_tb := ai_wd5 23 rfl rfl
theorem wd_984 : (Cond.selects "CoinBoats$Coins" ({ cls := "CoinBoats$Coins", name := "fewestOfTill", desc := "(I)I" } : MethodName) ({ cls := "CoinBoats$Coins", name := "fewestOfTill", desc := "(I)I" } : MethodName)) ∈ ai_tb := ai_wd5 24 rfl rfl
theorem wd_1005 : (Cond.methodLink "CoinBoats" (205 : Nat) ({ cls := "CoinBoats$Coins", name := "ofTill", desc := "(II)I" } : MethodName)) ∈ ai_tb := ai_wd5 45 rfl rfl
theorem wd_1006 : (Cond.instanceMethod ({ cls := "CoinBoats$Coins", name := "ofTill", desc := "(II)I" } : MethodName)) ∈ ai_tb := ai_wd5 46 rfl rfl
theorem wd_1007 : (Cond.selects "CoinBoats$Coins" ({ cls := "CoinBoats$Coins", name := "ofTill", desc := "(II)I" } : MethodName) ({ cls := "CoinBoats$Coins", name := "ofTill", desc := "(II)I" } : MethodName)) ∈ ai_tb := ai_wd5 47 rfl rfl
theorem wd_1021 : (Cond.methodLink "CoinBoats" (208 : Nat) ({ cls := "CoinBoats$Coins", name := "leastGiven", desc := "(I)I" } : MethodName)) ∈ ai_tb := ai_wd5 61 rfl rfl
theorem wd_1022 : (Cond.instanceMethod ({ cls := "CoinBoats$Coins", name := "leastGiven", desc := "(I)I" } : MethodName)) ∈ ai_tb := ai_wd5 62 rfl rfl
theorem wd_1023 : (Cond.selects "CoinBoats$Coins" ({ cls := "CoinBoats$Coins", name := "leastGiven", desc := "(I)I" } : MethodName) ({ cls := "CoinBoats$Coins", name := "leastGiven", desc := "(I)I" } : MethodName)) ∈ ai_tb := ai_wd5 63 rfl rfl
theorem wd_1025 : (Cond.methodLink "CoinBoats" (211 : Nat) ({ cls := "CoinBoats$Coins", name := "ofPurse", desc := "(II)I" } : MethodName)) ∈ ai_tb := ai_wd5 65 rfl rfl
theorem wd_1026 : (Cond.instanceMethod ({ cls := "CoinBoats$Coins", name := "ofPurse", desc := "(II)I" } : MethodName)) ∈ ai_tb := ai_wd5 66 rfl rfl
theorem wd_1027 : (Cond.selects "CoinBoats$Coins" ({ cls := "CoinBoats$Coins", name := "ofPurse", desc := "(II)I" } : MethodName) ({ cls := "CoinBoats$Coins", name := "ofPurse", desc := "(II)I" } : MethodName)) ∈ ai_tb := ai_wd5 67 rfl rfl
theorem wd_1029 : (Cond.methodLink "CoinBoats" (214 : Nat) ({ cls := "CoinBoats$Coins", name := "bothWays", desc := "()I" } : MethodName)) ∈ ai_tb := ai_wd5 69 rfl rfl
theorem wd_1030 : (Cond.instanceMethod ({ cls := "CoinBoats$Coins", name := "bothWays", desc := "()I" } : MethodName)) ∈ ai_tb := ai_wd5 70 rfl rfl
theorem wd_1031 : (Cond.selects "CoinBoats$Coins" ({ cls := "CoinBoats$Coins", name := "bothWays", desc := "()I" } : MethodName) ({ cls := "CoinBoats$Coins", name := "bothWays", desc := "()I" } : MethodName)) ∈ ai_tb := ai_wd5 71 rfl rfl
theorem wd_1037 : (Cond.methodLink "CoinBoats" (217 : Nat) ({ cls := "CoinBoats$Coins", name := "bestSet", desc := "(II)I" } : MethodName)) ∈ ai_tb := ai_wd5 77 rfl rfl
theorem wd_1038 : (Cond.instanceMethod ({ cls := "CoinBoats$Coins", name := "bestSet", desc := "(II)I" } : MethodName)) ∈ ai_tb := ai_wd5 78 rfl rfl
theorem wd_1039 : (Cond.selects "CoinBoats$Coins" ({ cls := "CoinBoats$Coins", name := "bestSet", desc := "(II)I" } : MethodName) ({ cls := "CoinBoats$Coins", name := "bestSet", desc := "(II)I" } : MethodName)) ∈ ai_tb := ai_wd5 79 rfl rfl
theorem wd_1059 : (Cond.methodLink "CoinBoats" (220 : Nat) ({ cls := "CoinBoats", name := "which", desc := "(II)I" } : MethodName)) ∈ ai_tb := ai_wd5 99 rfl rfl
theorem wd_1034 : (Cond.instanceMethod ({ cls := "CoinBoats", name := "which", desc := "(II)I" } : MethodName)) ∈ ai_tb := ai_wd5 74 rfl rfl
theorem wd_1035 : (Cond.selects "CoinBoats" ({ cls := "CoinBoats", name := "which", desc := "(II)I" } : MethodName) ({ cls := "CoinBoats", name := "which", desc := "(II)I" } : MethodName)) ∈ ai_tb := ai_wd5 75 rfl rfl
theorem wd_1060 : (Cond.methodLink "CoinBoats" (223 : Nat) ({ cls := "CoinBoats$Coins", name := "sumOf", desc := "(III)I" } : MethodName)) ∈ ai_tb := ai_wd5 100 rfl rfl
theorem wd_1065 : (Cond.methodLink "CoinBoats" (226 : Nat) ({ cls := "CoinBoats", name := "isPlan", desc := "(IIIII)Z" } : MethodName)) ∈ ai_tb := ai_wd5 105 rfl rfl
theorem wd_1067 : (Cond.instanceMethod ({ cls := "CoinBoats", name := "isPlan", desc := "(IIIII)Z" } : MethodName)) ∈ ai_tb := ai_wd5 107 rfl rfl
theorem wp_42 : (Cond.selects "CoinBoats" ({ cls := "CoinBoats", name := "isPlan", desc := "(IIIII)Z" } : MethodName) ({ cls := "CoinBoats", name := "isPlan", desc := "(IIIII)Z" } : MethodName)) ∈ ai_tb := ai_wdp (y := ({ cls := "CoinBoats", name := "isPlan", desc := "(IIIII)Z" } : Jvm.MethodName)) 42 13 rfl
theorem wd_1069 : (Cond.methodLink "CoinBoats" (230 : Nat) ({ cls := "CoinBoats$Stocks", name := "plan", desc := "(LCoinBoats$Text;IIIII)V" } : MethodName)) ∈ ai_tb := ai_wd5 109 rfl rfl
theorem wd_1070 : (Cond.instanceMethod ({ cls := "CoinBoats$Stocks", name := "plan", desc := "(LCoinBoats$Text;IIIII)V" } : MethodName)) ∈ ai_tb := ai_wd5 110 rfl rfl
theorem wd_1071 : (Cond.selects "CoinBoats$Stocks" ({ cls := "CoinBoats$Stocks", name := "plan", desc := "(LCoinBoats$Text;IIIII)V" } : MethodName) ({ cls := "CoinBoats$Stocks", name := "plan", desc := "(LCoinBoats$Text;IIIII)V" } : MethodName)) ∈ ai_tb := ai_wd5 111 rfl rfl
theorem wd_1094 : (Cond.methodLink "CoinBoats" (234 : Nat) ({ cls := "CoinBoats$Stocks", name := "cost", desc := "(I)J" } : MethodName)) ∈ ai_tb := ai_wd5 134 rfl rfl
theorem wd_1099 : (Cond.methodLink "CoinBoats" (238 : Nat) ({ cls := "CoinBoats$Stocks", name := "brings", desc := "(I)I" } : MethodName)) ∈ ai_tb := ai_wd5 139 rfl rfl
theorem wd_1100 : (Cond.instanceMethod ({ cls := "CoinBoats$Stocks", name := "brings", desc := "(I)I" } : MethodName)) ∈ ai_tb := ai_wd5 140 rfl rfl
theorem wd_1101 : (Cond.selects "CoinBoats$Stocks" ({ cls := "CoinBoats$Stocks", name := "brings", desc := "(I)I" } : MethodName) ({ cls := "CoinBoats$Stocks", name := "brings", desc := "(I)I" } : MethodName)) ∈ ai_tb := ai_wd5 141 rfl rfl
theorem wd_1111 : (Cond.methodLink "CoinBoats" (241 : Nat) ({ cls := "CoinBoats", name := "isShare", desc := "(III)Z" } : MethodName)) ∈ ai_tb := ai_wd5 151 rfl rfl
theorem wd_1113 : (Cond.instanceMethod ({ cls := "CoinBoats", name := "isShare", desc := "(III)Z" } : MethodName)) ∈ ai_tb := ai_wd5 153 rfl rfl
theorem wp_46 : (Cond.selects "CoinBoats" ({ cls := "CoinBoats", name := "isShare", desc := "(III)Z" } : MethodName) ({ cls := "CoinBoats", name := "isShare", desc := "(III)Z" } : MethodName)) ∈ ai_tb := ai_wdp (y := ({ cls := "CoinBoats", name := "isShare", desc := "(III)Z" } : Jvm.MethodName)) 46 13 rfl
theorem wd_1115 : (Cond.methodLink "CoinBoats" (244 : Nat) ({ cls := "CoinBoats$Stocks", name := "harm", desc := "(LCoinBoats$Text;LCoinBoats$Pieces;III)I" } : MethodName)) ∈ ai_tb := ai_wd5 155 rfl rfl
theorem wd_1131 : (Cond.methodLink "CoinBoats" (248 : Nat) ({ cls := "CoinBoats$Stocks", name := "saving", desc := "(LCoinBoats$Text;LCoinBoats$Pieces;III)I" } : MethodName)) ∈ ai_tb := ai_wd5 171 rfl rfl
theorem wd_1132 : (Cond.static ({ cls := "CoinBoats$Stocks", name := "saving", desc := "(LCoinBoats$Text;LCoinBoats$Pieces;III)I" } : MethodName)) ∈ ai_tb := ai_wd5 172 rfl rfl
theorem wd_1139 : (Cond.methodLink "CoinBoats" (251 : Nat) ({ cls := "CoinBoats", name := "sumOfParts", desc := "(IIIII)J" } : MethodName)) ∈ ai_tb := ai_wd5 179 rfl rfl
theorem wd_1140 : (Cond.static ({ cls := "CoinBoats", name := "sumOfParts", desc := "(IIIII)J" } : MethodName)) ∈ ai_tb := ai_wd5 180 rfl rfl
theorem wd_225 : (Cond.fieldLink "CoinBoats" (255 : Nat) "CoinBoats$State" "books" "LCoinBoats$Rows;") ∈ ai_tb := ai_wd1 225 rfl rfl
theorem wd_1158 : (Cond.methodLink "CoinBoats" (258 : Nat) ({ cls := "CoinBoats", name := "isKnown", desc := "(I)Z" } : MethodName)) ∈ ai_tb := ai_wd5 198 rfl rfl
theorem wd_1160 : (Cond.instanceMethod ({ cls := "CoinBoats", name := "isKnown", desc := "(I)Z" } : MethodName)) ∈ ai_tb := ai_wd5 200 rfl rfl
theorem wp_47 : (Cond.selects "CoinBoats" ({ cls := "CoinBoats", name := "isKnown", desc := "(I)Z" } : MethodName) ({ cls := "CoinBoats", name := "isKnown", desc := "(I)Z" } : MethodName)) ∈ ai_tb := ai_wdp (y := ({ cls := "CoinBoats", name := "isKnown", desc := "(I)Z" } : Jvm.MethodName)) 47 13 rfl
theorem wd_1162 : (Cond.constant "CoinBoats" (261 : Nat) (-1000000 : Int32)) ∈ ai_tb := ai_wd5 202 rfl rfl
theorem wd_1163 : (Cond.methodLink "CoinBoats" (262 : Nat) ({ cls := "CoinBoats$Ledger", name := "know", desc := "(LCoinBoats$Rows;I)V" } : MethodName)) ∈ ai_tb := ai_wd5 203 rfl rfl
theorem wd_1164 : (Cond.instanceMethod ({ cls := "CoinBoats$Ledger", name := "know", desc := "(LCoinBoats$Rows;I)V" } : MethodName)) ∈ ai_tb := ai_wd5 204 rfl rfl
theorem wd_1165 : (Cond.selects "CoinBoats$Ledger" ({ cls := "CoinBoats$Ledger", name := "know", desc := "(LCoinBoats$Rows;I)V" } : MethodName) ({ cls := "CoinBoats$Ledger", name := "know", desc := "(LCoinBoats$Rows;I)V" } : MethodName)) ∈ ai_tb := ai_wd5 205 rfl rfl
theorem wd_1178 : (Cond.methodLink "CoinBoats" (266 : Nat) ({ cls := "CoinBoats$Ledger", name := "went", desc := "(II)I" } : MethodName)) ∈ ai_tb := ai_wd5 218 rfl rfl
theorem wd_1182 : (Cond.methodLink "CoinBoats" (269 : Nat) ({ cls := "CoinBoats$Ledger", name := "came", desc := "(II)I" } : MethodName)) ∈ ai_tb := ai_wd5 222 rfl rfl
theorem wd_1190 : (Cond.methodLink "CoinBoats" (272 : Nat) ({ cls := "CoinBoats$Ledger", name := "gainer", desc := "(LCoinBoats$Text;)I" } : MethodName)) ∈ ai_tb := ai_wd5 230 rfl rfl
theorem wd_1191 : (Cond.instanceMethod ({ cls := "CoinBoats$Ledger", name := "gainer", desc := "(LCoinBoats$Text;)I" } : MethodName)) ∈ ai_tb := ai_wd5 231 rfl rfl
theorem wd_1192 : (Cond.selects "CoinBoats$Ledger" ({ cls := "CoinBoats$Ledger", name := "gainer", desc := "(LCoinBoats$Text;)I" } : MethodName) ({ cls := "CoinBoats$Ledger", name := "gainer", desc := "(LCoinBoats$Text;)I" } : MethodName)) ∈ ai_tb := ai_wd5 232 rfl rfl
theorem wd_1200 : (Cond.methodLink "CoinBoats" (276 : Nat) ({ cls := "CoinBoats", name := "isJars", desc := "(III)Z" } : MethodName)) ∈ ai_tb := ai_wd6 0 rfl rfl
theorem wd_1202 : (Cond.instanceMethod ({ cls := "CoinBoats", name := "isJars", desc := "(III)Z" } : MethodName)) ∈ ai_tb := ai_wd6 2 rfl rfl
theorem wp_49 : (Cond.selects "CoinBoats" ({ cls := "CoinBoats", name := "isJars", desc := "(III)Z" } : MethodName) ({ cls := "CoinBoats", name := "isJars", desc := "(III)Z" } : MethodName)) ∈ ai_tb := ai_wdp (y := ({ cls := "CoinBoats", name := "isJars", desc := "(III)Z" } : Jvm.MethodName)) 49 13 rfl
theorem wd_1204 : (Cond.methodLink "CoinBoats" (279 : Nat) ({ cls := "CoinBoats$Ledger", name := "leastOff", desc := "(LCoinBoats$Text;II)I" } : MethodName)) ∈ ai_tb := ai_wd6 4 rfl rfl
theorem wd_1205 : (Cond.instanceMethod ({ cls := "CoinBoats$Ledger", name := "leastOff", desc := "(LCoinBoats$Text;II)I" } : MethodName)) ∈ ai_tb := ai_wd6 5 rfl rfl
theorem wd_1206 : (Cond.selects "CoinBoats$Ledger" ({ cls := "CoinBoats$Ledger", name := "leastOff", desc := "(LCoinBoats$Text;II)I" } : MethodName) ({ cls := "CoinBoats$Ledger", name := "leastOff", desc := "(LCoinBoats$Text;II)I" } : MethodName)) ∈ ai_tb := ai_wd6 6 rfl rfl
theorem wd_1215 : (Cond.methodLink "CoinBoats" (283 : Nat) ({ cls := "CoinBoats$Ledger", name := "kept", desc := "()I" } : MethodName)) ∈ ai_tb := ai_wd6 15 rfl rfl
theorem wd_1216 : (Cond.instanceMethod ({ cls := "CoinBoats$Ledger", name := "kept", desc := "()I" } : MethodName)) ∈ ai_tb := ai_wd6 16 rfl rfl
theorem wd_1217 : (Cond.selects "CoinBoats$Ledger" ({ cls := "CoinBoats$Ledger", name := "kept", desc := "()I" } : MethodName) ({ cls := "CoinBoats$Ledger", name := "kept", desc := "()I" } : MethodName)) ∈ ai_tb := ai_wd6 17 rfl rfl
theorem wd_1219 : (Cond.methodLink "CoinBoats" (286 : Nat) ({ cls := "CoinBoats$Ledger", name := "lost", desc := "()I" } : MethodName)) ∈ ai_tb := ai_wd6 19 rfl rfl
theorem wd_1220 : (Cond.instanceMethod ({ cls := "CoinBoats$Ledger", name := "lost", desc := "()I" } : MethodName)) ∈ ai_tb := ai_wd6 20 rfl rfl
theorem wd_1221 : (Cond.selects "CoinBoats$Ledger" ({ cls := "CoinBoats$Ledger", name := "lost", desc := "()I" } : MethodName) ({ cls := "CoinBoats$Ledger", name := "lost", desc := "()I" } : MethodName)) ∈ ai_tb := ai_wd6 21 rfl rfl
theorem wd_1227 : (Cond.constant "CoinBoats" (289 : Nat) (99999 : Int32)) ∈ ai_tb := ai_wd6 27 rfl rfl
theorem wd_1228 : (Cond.methodLink "CoinBoats" (290 : Nat) ({ cls := "CoinBoats$Ledger", name := "keptEnds", desc := "(LCoinBoats$Text;III)I" } : MethodName)) ∈ ai_tb := ai_wd6 28 rfl rfl
theorem wd_1229 : (Cond.instanceMethod ({ cls := "CoinBoats$Ledger", name := "keptEnds", desc := "(LCoinBoats$Text;III)I" } : MethodName)) ∈ ai_tb := ai_wd6 29 rfl rfl
theorem wd_1230 : (Cond.selects "CoinBoats$Ledger" ({ cls := "CoinBoats$Ledger", name := "keptEnds", desc := "(LCoinBoats$Text;III)I" } : MethodName) ({ cls := "CoinBoats$Ledger", name := "keptEnds", desc := "(LCoinBoats$Text;III)I" } : MethodName)) ∈ ai_tb := ai_wd6 30 rfl rfl
theorem wd_1240 : (Cond.methodLink "CoinBoats" (294 : Nat) ({ cls := "CoinBoats$Ledger", name := "beyondLuck", desc := "(I)I" } : MethodName)) ∈ ai_tb := ai_wd6 40 rfl rfl
theorem wd_1241 : (Cond.instanceMethod ({ cls := "CoinBoats$Ledger", name := "beyondLuck", desc := "(I)I" } : MethodName)) ∈ ai_tb := ai_wd6 41 rfl rfl
theorem wd_1242 : (Cond.selects "CoinBoats$Ledger" ({ cls := "CoinBoats$Ledger", name := "beyondLuck", desc := "(I)I" } : MethodName) ({ cls := "CoinBoats$Ledger", name := "beyondLuck", desc := "(I)I" } : MethodName)) ∈ ai_tb := ai_wd6 42 rfl rfl
theorem wd_1271 : (Cond.methodLink "CoinBoats" (297 : Nat) ({ cls := "CoinBoats$Ledger", name := "isCountable", desc := "()Z" } : MethodName)) ∈ ai_tb := ai_wd6 71 rfl rfl
theorem wd_1272 : (Cond.methodLink "CoinBoats" (300 : Nat) ({ cls := "CoinBoats$Ledger", name := "seen", desc := "(I)I" } : MethodName)) ∈ ai_tb := ai_wd6 72 rfl rfl
theorem wd_1273 : (Cond.constantLong "CoinBoats" (303 : Nat) (-2 : Int64)) ∈ ai_tb := ai_wd6 73 rfl rfl
theorem wd_1274 : (Cond.methodLink "CoinBoats" (305 : Nat) ({ cls := "CoinBoats$Ledger", name := "waysOfMore", desc := "(I)J" } : MethodName)) ∈ ai_tb := ai_wd6 74 rfl rfl
theorem wd_1275 : (Cond.methodLink "CoinBoats" (308 : Nat) ({ cls := "CoinBoats$Ledger", name := "waysOfAll", desc := "(I)J" } : MethodName)) ∈ ai_tb := ai_wd6 75 rfl rfl
theorem wd_1280 : (Cond.methodLink "CoinBoats" (311 : Nat) ({ cls := "CoinBoats", name := "isTrickle", desc := "(III)Z" } : MethodName)) ∈ ai_tb := ai_wd6 80 rfl rfl
theorem wd_1281 : (Cond.static ({ cls := "CoinBoats", name := "isTrickle", desc := "(III)Z" } : MethodName)) ∈ ai_tb := ai_wd6 81 rfl rfl
theorem wd_1283 : (Cond.methodLink "CoinBoats" (314 : Nat) ({ cls := "CoinBoats", name := "comesBack", desc := "(II)I" } : MethodName)) ∈ ai_tb := ai_wd6 83 rfl rfl
theorem wd_1284 : (Cond.static ({ cls := "CoinBoats", name := "comesBack", desc := "(II)I" } : MethodName)) ∈ ai_tb := ai_wd6 84 rfl rfl
theorem wd_1286 : (Cond.methodLink "CoinBoats" (317 : Nat) ({ cls := "CoinBoats", name := "stillOut", desc := "(II)I" } : MethodName)) ∈ ai_tb := ai_wd6 86 rfl rfl
theorem wd_1287 : (Cond.static ({ cls := "CoinBoats", name := "stillOut", desc := "(II)I" } : MethodName)) ∈ ai_tb := ai_wd6 87 rfl rfl
theorem wd_1305 : (Cond.methodLink "CoinBoats" (320 : Nat) ({ cls := "CoinBoats$State", name := "copy", desc := "(LCoinBoats$State;)V" } : MethodName)) ∈ ai_tb := ai_wd6 105 rfl rfl
theorem wd_1306 : (Cond.instanceMethod ({ cls := "CoinBoats$State", name := "copy", desc := "(LCoinBoats$State;)V" } : MethodName)) ∈ ai_tb := ai_wd6 106 rfl rfl
theorem wd_1307 : (Cond.selects "CoinBoats$State" ({ cls := "CoinBoats$State", name := "copy", desc := "(LCoinBoats$State;)V" } : MethodName) ({ cls := "CoinBoats$State", name := "copy", desc := "(LCoinBoats$State;)V" } : MethodName)) ∈ ai_tb := ai_wd6 107 rfl rfl
theorem wd_96 : (Cond.fieldLink "CoinBoats" (328 : Nat) "CoinBoats$Text" "wants" "LCoinBoats$Rows;") ∈ ai_tb := ai_wd1 96 rfl rfl
theorem wd_104 : (Cond.fieldLink "CoinBoats" (331 : Nat) "CoinBoats$Text" "flows" "LCoinBoats$Rows;") ∈ ai_tb := ai_wd1 104 rfl rfl
theorem wd_113 : (Cond.fieldLink "CoinBoats" (334 : Nat) "CoinBoats$Text" "boats" "LCoinBoats$Rows;") ∈ ai_tb := ai_wd1 113 rfl rfl
theorem wd_100 : (Cond.fieldLink "CoinBoats" (337 : Nat) "CoinBoats$Text" "losses" "LCoinBoats$Rows;") ∈ ai_tb := ai_wd1 100 rfl rfl
theorem wd_108 : (Cond.fieldLink "CoinBoats" (340 : Nat) "CoinBoats$Text" "wears" "LCoinBoats$Rows;") ∈ ai_tb := ai_wd1 108 rfl rfl
theorem wd_433 : (Cond.methodLink "CoinBoats" (343 : Nat) ({ cls := "java/lang/Math", name := "min", desc := "(II)I" } : MethodName)) ∈ ai_tb := ai_wd2 193 rfl rfl
theorem wd_436 : (Cond.methodLink "CoinBoats" (348 : Nat) ({ cls := "java/lang/Math", name := "max", desc := "(II)I" } : MethodName)) ∈ ai_tb := ai_wd2 196 rfl rfl
theorem wd_1324 : (Cond.methodLink "CoinBoatsModel" (1 : Nat) ({ cls := "java/lang/Object", name := "<init>", desc := "()V" } : MethodName)) ∈ ai_tb := ai_wd6 124 rfl rfl
theorem wd_1327 : (Cond.fieldLink "CoinBoatsModel" (7 : Nat) "CoinBoatsModel" "tape" "[I") ∈ ai_tb := ai_wd6 127 rfl rfl
theorem wd_1329 : (Cond.fieldLink "CoinBoatsModel" (13 : Nat) "CoinBoatsModel" "tokenSort" "[I") ∈ ai_tb := ai_wd6 129 rfl rfl
theorem wd_1330 : (Cond.fieldLink "CoinBoatsModel" (16 : Nat) "CoinBoatsModel" "tokenFrom" "[I") ∈ ai_tb := ai_wd6 130 rfl rfl
theorem wd_1331 : (Cond.fieldLink "CoinBoatsModel" (19 : Nat) "CoinBoatsModel" "tokenWhat" "[I") ∈ ai_tb := ai_wd6 131 rfl rfl
theorem wd_1332 : (Cond.fieldLink "CoinBoatsModel" (22 : Nat) "CoinBoatsModel" "tokenName" "[J") ∈ ai_tb := ai_wd6 132 rfl rfl
theorem wd_1335 : (Cond.fieldLink "CoinBoatsModel" (26 : Nat) "CoinBoatsModel" "faultPlace" "I") ∈ ai_tb := ai_wd6 135 rfl rfl
theorem wd_1338 : (Cond.fieldLink "CoinBoatsModel" (30 : Nat) "CoinBoatsModel" "state" "[I") ∈ ai_tb := ai_wd6 138 rfl rfl
theorem wd_1339 : (Cond.fieldLink "CoinBoatsModel" (33 : Nat) "CoinBoatsModel" "spent" "[J") ∈ ai_tb := ai_wd6 139 rfl rfl
theorem wd_1459 : (Cond.arrayClass Jvm.ClassFile.FieldType.boolean) ∈ ai_tb := ai_wd7 19 rfl rfl
theorem wd_1340 : (Cond.fieldLink "CoinBoatsModel" (36 : Nat) "CoinBoatsModel" "held" "[Z") ∈ ai_tb := ai_wd6 140 rfl rfl
theorem wd_1342 : (Cond.fieldLink "CoinBoatsModel" (40 : Nat) "CoinBoatsModel" "named" "[J") ∈ ai_tb := ai_wd6 142 rfl rfl
theorem wd_1343 : (Cond.fieldLink "CoinBoatsModel" (43 : Nat) "CoinBoatsModel" "namedSort" "[I") ∈ ai_tb := ai_wd6 143 rfl rfl
theorem wd_1344 : (Cond.fieldLink "CoinBoatsModel" (46 : Nat) "CoinBoatsModel" "namedNumber" "[I") ∈ ai_tb := ai_wd6 144 rfl rfl
theorem wd_1347 : (Cond.fieldLink "CoinBoatsModel" (49 : Nat) "CoinBoatsModel" "waits" "[I") ∈ ai_tb := ai_wd6 147 rfl rfl
theorem wd_1349 : (Cond.fieldLink "CoinBoatsModel" (52 : Nat) "CoinBoatsModel" "asked" "[I") ∈ ai_tb := ai_wd6 149 rfl rfl
theorem wd_1350 : (Cond.fieldLink "CoinBoatsModel" (55 : Nat) "CoinBoatsModel" "stack" "[I") ∈ ai_tb := ai_wd6 150 rfl rfl
theorem wd_1351 : (Cond.fieldLink "CoinBoatsModel" (58 : Nat) "CoinBoatsModel" "load" "[I") ∈ ai_tb := ai_wd6 151 rfl rfl
theorem wd_1352 : (Cond.fieldLink "CoinBoatsModel" (61 : Nat) "CoinBoatsModel" "till" "[I") ∈ ai_tb := ai_wd6 152 rfl rfl
theorem wd_1355 : (Cond.fieldLink "CoinBoatsModel" (64 : Nat) "CoinBoatsModel" "tills" "[I") ∈ ai_tb := ai_wd6 155 rfl rfl
theorem wd_1325 : (Cond.constant "CoinBoatsModel" (67 : Nat) (56014 : Int32)) ∈ ai_tb := ai_wd6 125 rfl rfl
theorem wd_1356 : (Cond.fieldLink "CoinBoatsModel" (68 : Nat) "CoinBoatsModel" "fewest" "[I") ∈ ai_tb := ai_wd6 156 rfl rfl
theorem wd_1357 : (Cond.fieldLink "CoinBoatsModel" (71 : Nat) "CoinBoatsModel" "queue" "[I") ∈ ai_tb := ai_wd6 157 rfl rfl
theorem wd_1358 : (Cond.fieldLink "CoinBoatsModel" (74 : Nat) "CoinBoatsModel" "endless" "[I") ∈ ai_tb := ai_wd6 158 rfl rfl
theorem wd_1361 : (Cond.fieldLink "CoinBoatsModel" (77 : Nat) "CoinBoatsModel" "coin" "[J") ∈ ai_tb := ai_wd6 161 rfl rfl
theorem wd_1362 : (Cond.fieldLink "CoinBoatsModel" (80 : Nat) "CoinBoatsModel" "coinThen" "[J") ∈ ai_tb := ai_wd6 162 rfl rfl
theorem wd_1364 : (Cond.fieldLink "CoinBoatsModel" (83 : Nat) "CoinBoatsModel" "went" "[I") ∈ ai_tb := ai_wd6 164 rfl rfl
theorem wd_1365 : (Cond.fieldLink "CoinBoatsModel" (86 : Nat) "CoinBoatsModel" "came" "[I") ∈ ai_tb := ai_wd6 165 rfl rfl
theorem wd_1368 : (Cond.fieldLink "CoinBoatsModel" (89 : Nat) "CoinBoatsModel" "lookedAt" "[I") ∈ ai_tb := ai_wd6 168 rfl rfl
theorem wd_1369 : (Cond.fieldLink "CoinBoatsModel" (92 : Nat) "CoinBoatsModel" "falseAt" "[I") ∈ ai_tb := ai_wd6 169 rfl rfl
theorem wd_1326 : (Cond.fieldLink "CoinBoatsModel" (95 : Nat) "CoinBoatsModel" "taped" "I") ∈ ai_tb := ai_wd6 126 rfl rfl
theorem wd_1464 : (Cond.methodLink "CoinBoatsModel" (98 : Nat) ({ cls := "CoinBoatsModel", name := "typed", desc := "(I)V" } : MethodName)) ∈ ai_tb := ai_wd7 24 rfl rfl
theorem wd_1466 : (Cond.instanceMethod ({ cls := "CoinBoatsModel", name := "typed", desc := "(I)V" } : MethodName)) ∈ ai_tb := ai_wd7 26 rfl rfl
theorem wp_53 : (Cond.selects "CoinBoatsModel" ({ cls := "CoinBoatsModel", name := "typed", desc := "(I)V" } : MethodName) ({ cls := "CoinBoatsModel", name := "typed", desc := "(I)V" } : MethodName)) ∈ ai_tb := ai_wdp (y := ({ cls := "CoinBoatsModel", name := "typed", desc := "(I)V" } : Jvm.MethodName)) 53 44 rfl
theorem wd_1480 : (Cond.methodLink "CoinBoatsModel" (102 : Nat) ({ cls := "CoinBoatsModel", name := "byteAt", desc := "(I)I" } : MethodName)) ∈ ai_tb := ai_wd7 40 rfl rfl
theorem wd_1482 : (Cond.instanceMethod ({ cls := "CoinBoatsModel", name := "byteAt", desc := "(I)I" } : MethodName)) ∈ ai_tb := ai_wd7 42 rfl rfl
theorem wp_55 : (Cond.selects "CoinBoatsModel" ({ cls := "CoinBoatsModel", name := "byteAt", desc := "(I)I" } : MethodName) ({ cls := "CoinBoatsModel", name := "byteAt", desc := "(I)I" } : MethodName)) ∈ ai_tb := ai_wdp (y := ({ cls := "CoinBoatsModel", name := "byteAt", desc := "(I)I" } : Jvm.MethodName)) 55 44 rfl
theorem wd_1328 : (Cond.fieldLink "CoinBoatsModel" (106 : Nat) "CoinBoatsModel" "tokens" "I") ∈ ai_tb := ai_wd6 128 rfl rfl
theorem wd_1497 : (Cond.constantLong "CoinBoatsModel" (109 : Nat) (223456 : Int64)) ∈ ai_tb := ai_wd7 57 rfl rfl
theorem wd_1498 : (Cond.constantLong "CoinBoatsModel" (111 : Nat) (139474849 : Int64)) ∈ ai_tb := ai_wd7 58 rfl rfl
theorem wd_1499 : (Cond.constantLong "CoinBoatsModel" (113 : Nat) (453836 : Int64)) ∈ ai_tb := ai_wd7 59 rfl rfl
theorem wd_1500 : (Cond.constantLong "CoinBoatsModel" (115 : Nat) (247664 : Int64)) ∈ ai_tb := ai_wd7 60 rfl rfl
theorem wd_1501 : (Cond.constantLong "CoinBoatsModel" (117 : Nat) (127274 : Int64)) ∈ ai_tb := ai_wd7 61 rfl rfl
theorem wd_1502 : (Cond.constantLong "CoinBoatsModel" (119 : Nat) (4562600 : Int64)) ∈ ai_tb := ai_wd7 62 rfl rfl
theorem wd_1503 : (Cond.constantLong "CoinBoatsModel" (121 : Nat) (456399 : Int64)) ∈ ai_tb := ai_wd7 63 rfl rfl
theorem wd_1504 : (Cond.constantLong "CoinBoatsModel" (123 : Nat) (50348 : Int64)) ∈ ai_tb := ai_wd7 64 rfl rfl
theorem wd_1505 : (Cond.constantLong "CoinBoatsModel" (125 : Nat) (3215233 : Int64)) ∈ ai_tb := ai_wd7 65 rfl rfl
theorem wd_1506 : (Cond.constantLong "CoinBoatsModel" (127 : Nat) (7214732 : Int64)) ∈ ai_tb := ai_wd7 66 rfl rfl
theorem wd_1507 : (Cond.constantLong "CoinBoatsModel" (129 : Nat) (5878 : Int64)) ∈ ai_tb := ai_wd7 67 rfl rfl
theorem wd_1508 : (Cond.constantLong "CoinBoatsModel" (131 : Nat) (464144 : Int64)) ∈ ai_tb := ai_wd7 68 rfl rfl
theorem wd_1509 : (Cond.constantLong "CoinBoatsModel" (133 : Nat) (7742498 : Int64)) ∈ ai_tb := ai_wd7 69 rfl rfl
theorem wd_1488 : (Cond.methodLink "CoinBoatsModel" (135 : Nat) ({ cls := "CoinBoatsModel", name := "isLetter", desc := "(I)Z" } : MethodName)) ∈ ai_tb := ai_wd7 48 rfl rfl
theorem wd_1490 : (Cond.instanceMethod ({ cls := "CoinBoatsModel", name := "isLetter", desc := "(I)Z" } : MethodName)) ∈ ai_tb := ai_wd7 50 rfl rfl
theorem wp_57 : (Cond.selects "CoinBoatsModel" ({ cls := "CoinBoatsModel", name := "isLetter", desc := "(I)Z" } : MethodName) ({ cls := "CoinBoatsModel", name := "isLetter", desc := "(I)Z" } : MethodName)) ∈ ai_tb := ai_wdp (y := ({ cls := "CoinBoatsModel", name := "isLetter", desc := "(I)Z" } : Jvm.MethodName)) 57 44 rfl
theorem wd_1492 : (Cond.constantLong "CoinBoatsModel" (139 : Nat) (27 : Int64)) ∈ ai_tb := ai_wd7 52 rfl rfl
theorem wd_1493 : (Cond.constantLong "CoinBoatsModel" (141 : Nat) (96 : Int64)) ∈ ai_tb := ai_wd7 53 rfl rfl
theorem wd_1494 : (Cond.methodLink "CoinBoatsModel" (143 : Nat) ({ cls := "CoinBoatsModel", name := "wordOf", desc := "(J)I" } : MethodName)) ∈ ai_tb := ai_wd7 54 rfl rfl
theorem wd_1495 : (Cond.static ({ cls := "CoinBoatsModel", name := "wordOf", desc := "(J)I" } : MethodName)) ∈ ai_tb := ai_wd7 55 rfl rfl
theorem wd_1510 : (Cond.methodLink "CoinBoatsModel" (147 : Nat) ({ cls := "CoinBoatsModel", name := "token", desc := "(III)V" } : MethodName)) ∈ ai_tb := ai_wd7 70 rfl rfl
theorem wd_1512 : (Cond.instanceMethod ({ cls := "CoinBoatsModel", name := "token", desc := "(III)V" } : MethodName)) ∈ ai_tb := ai_wd7 72 rfl rfl
theorem wp_58 : (Cond.selects "CoinBoatsModel" ({ cls := "CoinBoatsModel", name := "token", desc := "(III)V" } : MethodName) ({ cls := "CoinBoatsModel", name := "token", desc := "(III)V" } : MethodName)) ∈ ai_tb := ai_wdp (y := ({ cls := "CoinBoatsModel", name := "token", desc := "(III)V" } : Jvm.MethodName)) 58 44 rfl
theorem wd_1514 : (Cond.methodLink "CoinBoatsModel" (151 : Nat) ({ cls := "CoinBoatsModel", name := "isDigit", desc := "(I)Z" } : MethodName)) ∈ ai_tb := ai_wd7 74 rfl rfl
theorem wd_1516 : (Cond.instanceMethod ({ cls := "CoinBoatsModel", name := "isDigit", desc := "(I)Z" } : MethodName)) ∈ ai_tb := ai_wd7 76 rfl rfl
theorem wp_59 : (Cond.selects "CoinBoatsModel" ({ cls := "CoinBoatsModel", name := "isDigit", desc := "(I)Z" } : MethodName) ({ cls := "CoinBoatsModel", name := "isDigit", desc := "(I)Z" } : MethodName)) ∈ ai_tb := ai_wdp (y := ({ cls := "CoinBoatsModel", name := "isDigit", desc := "(I)Z" } : Jvm.MethodName)) 59 44 rfl
theorem wd_1518 : (Cond.methodLink "CoinBoatsModel" (154 : Nat) ({ cls := "CoinBoatsModel", name := "signAt", desc := "(I)I" } : MethodName)) ∈ ai_tb := ai_wd7 78 rfl rfl
theorem wd_1520 : (Cond.instanceMethod ({ cls := "CoinBoatsModel", name := "signAt", desc := "(I)I" } : MethodName)) ∈ ai_tb := ai_wd7 80 rfl rfl
theorem wp_60 : (Cond.selects "CoinBoatsModel" ({ cls := "CoinBoatsModel", name := "signAt", desc := "(I)I" } : MethodName) ({ cls := "CoinBoatsModel", name := "signAt", desc := "(I)I" } : MethodName)) ∈ ai_tb := ai_wdp (y := ({ cls := "CoinBoatsModel", name := "signAt", desc := "(I)I" } : Jvm.MethodName)) 60 44 rfl
theorem wd_1484 : (Cond.methodLink "CoinBoatsModel" (157 : Nat) ({ cls := "CoinBoatsModel", name := "scan", desc := "(I)I" } : MethodName)) ∈ ai_tb := ai_wd7 44 rfl rfl
theorem wd_1486 : (Cond.instanceMethod ({ cls := "CoinBoatsModel", name := "scan", desc := "(I)I" } : MethodName)) ∈ ai_tb := ai_wd7 46 rfl rfl
theorem wp_56 : (Cond.selects "CoinBoatsModel" ({ cls := "CoinBoatsModel", name := "scan", desc := "(I)I" } : MethodName) ({ cls := "CoinBoatsModel", name := "scan", desc := "(I)I" } : MethodName)) ∈ ai_tb := ai_wdp (y := ({ cls := "CoinBoatsModel", name := "scan", desc := "(I)I" } : Jvm.MethodName)) 56 44 rfl
theorem wd_1334 : (Cond.fieldLink "CoinBoatsModel" (160 : Nat) "CoinBoatsModel" "fault" "I") ∈ ai_tb := ai_wd6 134 rfl rfl
theorem wd_1333 : (Cond.fieldLink "CoinBoatsModel" (163 : Nat) "CoinBoatsModel" "head" "I") ∈ ai_tb := ai_wd6 133 rfl rfl
theorem wd_1336 : (Cond.fieldLink "CoinBoatsModel" (166 : Nat) "CoinBoatsModel" "worst" "I") ∈ ai_tb := ai_wd6 136 rfl rfl
theorem wd_1337 : (Cond.fieldLink "CoinBoatsModel" (169 : Nat) "CoinBoatsModel" "worstPlace" "I") ∈ ai_tb := ai_wd6 137 rfl rfl
theorem wd_1542 : (Cond.methodLink "CoinBoatsModel" (172 : Nat) ({ cls := "CoinBoatsModel", name := "wrong", desc := "(I)Z" } : MethodName)) ∈ ai_tb := ai_wd7 102 rfl rfl
theorem wd_1544 : (Cond.instanceMethod ({ cls := "CoinBoatsModel", name := "wrong", desc := "(I)Z" } : MethodName)) ∈ ai_tb := ai_wd7 104 rfl rfl
theorem wp_66 : (Cond.selects "CoinBoatsModel" ({ cls := "CoinBoatsModel", name := "wrong", desc := "(I)Z" } : MethodName) ({ cls := "CoinBoatsModel", name := "wrong", desc := "(I)Z" } : MethodName)) ∈ ai_tb := ai_wdp (y := ({ cls := "CoinBoatsModel", name := "wrong", desc := "(I)Z" } : Jvm.MethodName)) 66 44 rfl
theorem wd_1546 : (Cond.methodLink "CoinBoatsModel" (175 : Nat) ({ cls := "CoinBoatsModel", name := "pass", desc := "()Z" } : MethodName)) ∈ ai_tb := ai_wd7 106 rfl rfl
theorem wd_1548 : (Cond.instanceMethod ({ cls := "CoinBoatsModel", name := "pass", desc := "()Z" } : MethodName)) ∈ ai_tb := ai_wd7 108 rfl rfl
theorem wp_67 : (Cond.selects "CoinBoatsModel" ({ cls := "CoinBoatsModel", name := "pass", desc := "()Z" } : MethodName) ({ cls := "CoinBoatsModel", name := "pass", desc := "()Z" } : MethodName)) ∈ ai_tb := ai_wdp (y := ({ cls := "CoinBoatsModel", name := "pass", desc := "()Z" } : Jvm.MethodName)) 67 44 rfl
theorem wd_1554 : (Cond.methodLink "CoinBoatsModel" (179 : Nat) ({ cls := "CoinBoatsModel", name := "takes", desc := "(I)Z" } : MethodName)) ∈ ai_tb := ai_wd7 114 rfl rfl
theorem wd_1556 : (Cond.instanceMethod ({ cls := "CoinBoatsModel", name := "takes", desc := "(I)Z" } : MethodName)) ∈ ai_tb := ai_wd7 116 rfl rfl
theorem wp_69 : (Cond.selects "CoinBoatsModel" ({ cls := "CoinBoatsModel", name := "takes", desc := "(I)Z" } : MethodName) ({ cls := "CoinBoatsModel", name := "takes", desc := "(I)Z" } : MethodName)) ∈ ai_tb := ai_wdp (y := ({ cls := "CoinBoatsModel", name := "takes", desc := "(I)Z" } : Jvm.MethodName)) 69 44 rfl
theorem wd_1345 : (Cond.fieldLink "CoinBoatsModel" (182 : Nat) "CoinBoatsModel" "valued" "I") ∈ ai_tb := ai_wd6 145 rfl rfl
theorem wd_1558 : (Cond.methodLink "CoinBoatsModel" (185 : Nat) ({ cls := "CoinBoatsModel", name := "tells", desc := "(II)V" } : MethodName)) ∈ ai_tb := ai_wd7 118 rfl rfl
theorem wd_1560 : (Cond.instanceMethod ({ cls := "CoinBoatsModel", name := "tells", desc := "(II)V" } : MethodName)) ∈ ai_tb := ai_wd7 120 rfl rfl
theorem wp_70 : (Cond.selects "CoinBoatsModel" ({ cls := "CoinBoatsModel", name := "tells", desc := "(II)V" } : MethodName) ({ cls := "CoinBoatsModel", name := "tells", desc := "(II)V" } : MethodName)) ∈ ai_tb := ai_wdp (y := ({ cls := "CoinBoatsModel", name := "tells", desc := "(II)V" } : Jvm.MethodName)) 70 44 rfl
theorem wd_1538 : (Cond.methodLink "CoinBoatsModel" (189 : Nat) ({ cls := "CoinBoatsModel", name := "told", desc := "(I)I" } : MethodName)) ∈ ai_tb := ai_wd7 98 rfl rfl
theorem wd_1540 : (Cond.instanceMethod ({ cls := "CoinBoatsModel", name := "told", desc := "(I)I" } : MethodName)) ∈ ai_tb := ai_wd7 100 rfl rfl
theorem wp_65 : (Cond.selects "CoinBoatsModel" ({ cls := "CoinBoatsModel", name := "told", desc := "(I)I" } : MethodName) ({ cls := "CoinBoatsModel", name := "told", desc := "(I)I" } : MethodName)) ∈ ai_tb := ai_wdp (y := ({ cls := "CoinBoatsModel", name := "told", desc := "(I)I" } : Jvm.MethodName)) 65 44 rfl
theorem wd_1522 : (Cond.methodLink "CoinBoatsModel" (192 : Nat) ({ cls := "CoinBoatsModel", name := "tell", desc := "(II)V" } : MethodName)) ∈ ai_tb := ai_wd7 82 rfl rfl
theorem wd_1524 : (Cond.instanceMethod ({ cls := "CoinBoatsModel", name := "tell", desc := "(II)V" } : MethodName)) ∈ ai_tb := ai_wd7 84 rfl rfl
theorem wp_61 : (Cond.selects "CoinBoatsModel" ({ cls := "CoinBoatsModel", name := "tell", desc := "(II)V" } : MethodName) ({ cls := "CoinBoatsModel", name := "tell", desc := "(II)V" } : MethodName)) ∈ ai_tb := ai_wdp (y := ({ cls := "CoinBoatsModel", name := "tell", desc := "(II)V" } : Jvm.MethodName)) 61 44 rfl
theorem wd_1346 : (Cond.fieldLink "CoinBoatsModel" (195 : Nat) "CoinBoatsModel" "waiting" "I") ∈ ai_tb := ai_wd6 146 rfl rfl
theorem wd_1602 : (Cond.methodLink "CoinBoatsModel" (198 : Nat) ({ cls := "CoinBoatsModel", name := "rank", desc := "(I)I" } : MethodName)) ∈ ai_tb := ai_wd7 162 rfl rfl
theorem wd_1603 : (Cond.static ({ cls := "CoinBoatsModel", name := "rank", desc := "(I)I" } : MethodName)) ∈ ai_tb := ai_wd7 163 rfl rfl
theorem wd_1594 : (Cond.methodLink "CoinBoatsModel" (201 : Nat) ({ cls := "CoinBoatsModel", name := "emit", desc := "(II)V" } : MethodName)) ∈ ai_tb := ai_wd7 154 rfl rfl
theorem wd_1596 : (Cond.instanceMethod ({ cls := "CoinBoatsModel", name := "emit", desc := "(II)V" } : MethodName)) ∈ ai_tb := ai_wd7 156 rfl rfl
theorem wp_79 : (Cond.selects "CoinBoatsModel" ({ cls := "CoinBoatsModel", name := "emit", desc := "(II)V" } : MethodName) ({ cls := "CoinBoatsModel", name := "emit", desc := "(II)V" } : MethodName)) ∈ ai_tb := ai_wdp (y := ({ cls := "CoinBoatsModel", name := "emit", desc := "(II)V" } : Jvm.MethodName)) 79 44 rfl
theorem wd_1582 : (Cond.methodLink "CoinBoatsModel" (204 : Nat) ({ cls := "CoinBoatsModel", name := "isSign", desc := "(I)Z" } : MethodName)) ∈ ai_tb := ai_wd7 142 rfl rfl
theorem wd_1584 : (Cond.instanceMethod ({ cls := "CoinBoatsModel", name := "isSign", desc := "(I)Z" } : MethodName)) ∈ ai_tb := ai_wd7 144 rfl rfl
theorem wp_76 : (Cond.selects "CoinBoatsModel" ({ cls := "CoinBoatsModel", name := "isSign", desc := "(I)Z" } : MethodName) ({ cls := "CoinBoatsModel", name := "isSign", desc := "(I)Z" } : MethodName)) ∈ ai_tb := ai_wdp (y := ({ cls := "CoinBoatsModel", name := "isSign", desc := "(I)Z" } : Jvm.MethodName)) 76 44 rfl
theorem wd_1348 : (Cond.fieldLink "CoinBoatsModel" (207 : Nat) "CoinBoatsModel" "exprFrom" "I") ∈ ai_tb := ai_wd6 148 rfl rfl
theorem wd_1590 : (Cond.methodLink "CoinBoatsModel" (210 : Nat) ({ cls := "CoinBoatsModel", name := "await", desc := "(I)V" } : MethodName)) ∈ ai_tb := ai_wd7 150 rfl rfl
theorem wd_1592 : (Cond.instanceMethod ({ cls := "CoinBoatsModel", name := "await", desc := "(I)V" } : MethodName)) ∈ ai_tb := ai_wd7 152 rfl rfl
theorem wp_78 : (Cond.selects "CoinBoatsModel" ({ cls := "CoinBoatsModel", name := "await", desc := "(I)V" } : MethodName) ({ cls := "CoinBoatsModel", name := "await", desc := "(I)V" } : MethodName)) ∈ ai_tb := ai_wdp (y := ({ cls := "CoinBoatsModel", name := "await", desc := "(I)V" } : Jvm.MethodName)) 78 44 rfl
theorem wd_1598 : (Cond.methodLink "CoinBoatsModel" (213 : Nat) ({ cls := "CoinBoatsModel", name := "joinAt", desc := "()I" } : MethodName)) ∈ ai_tb := ai_wd7 158 rfl rfl
theorem wd_1600 : (Cond.instanceMethod ({ cls := "CoinBoatsModel", name := "joinAt", desc := "()I" } : MethodName)) ∈ ai_tb := ai_wd7 160 rfl rfl
theorem wp_80 : (Cond.selects "CoinBoatsModel" ({ cls := "CoinBoatsModel", name := "joinAt", desc := "()I" } : MethodName) ({ cls := "CoinBoatsModel", name := "joinAt", desc := "()I" } : MethodName)) ∈ ai_tb := ai_wdp (y := ({ cls := "CoinBoatsModel", name := "joinAt", desc := "()I" } : Jvm.MethodName)) 80 44 rfl
theorem wd_1605 : (Cond.methodLink "CoinBoatsModel" (217 : Nat) ({ cls := "CoinBoatsModel", name := "reduce", desc := "(I)V" } : MethodName)) ∈ ai_tb := ai_wd7 165 rfl rfl
theorem wd_1607 : (Cond.instanceMethod ({ cls := "CoinBoatsModel", name := "reduce", desc := "(I)V" } : MethodName)) ∈ ai_tb := ai_wd7 167 rfl rfl
theorem wp_81 : (Cond.selects "CoinBoatsModel" ({ cls := "CoinBoatsModel", name := "reduce", desc := "(I)V" } : MethodName) ({ cls := "CoinBoatsModel", name := "reduce", desc := "(I)V" } : MethodName)) ∈ ai_tb := ai_wdp (y := ({ cls := "CoinBoatsModel", name := "reduce", desc := "(I)V" } : Jvm.MethodName)) 81 44 rfl
theorem wd_1341 : (Cond.fieldLink "CoinBoatsModel" (220 : Nat) "CoinBoatsModel" "names" "I") ∈ ai_tb := ai_wd6 141 rfl rfl
theorem wd_1617 : (Cond.methodLink "CoinBoatsModel" (223 : Nat) ({ cls := "CoinBoatsModel", name := "isWord", desc := "(I)Z" } : MethodName)) ∈ ai_tb := ai_wd7 177 rfl rfl
theorem wd_1619 : (Cond.instanceMethod ({ cls := "CoinBoatsModel", name := "isWord", desc := "(I)Z" } : MethodName)) ∈ ai_tb := ai_wd7 179 rfl rfl
theorem wp_84 : (Cond.selects "CoinBoatsModel" ({ cls := "CoinBoatsModel", name := "isWord", desc := "(I)Z" } : MethodName) ({ cls := "CoinBoatsModel", name := "isWord", desc := "(I)Z" } : MethodName)) ∈ ai_tb := ai_wdp (y := ({ cls := "CoinBoatsModel", name := "isWord", desc := "(I)Z" } : Jvm.MethodName)) 84 44 rfl
theorem wd_1574 : (Cond.methodLink "CoinBoatsModel" (226 : Nat) ({ cls := "CoinBoatsModel", name := "takesName", desc := "(I)Z" } : MethodName)) ∈ ai_tb := ai_wd7 134 rfl rfl
theorem wd_1576 : (Cond.instanceMethod ({ cls := "CoinBoatsModel", name := "takesName", desc := "(I)Z" } : MethodName)) ∈ ai_tb := ai_wd7 136 rfl rfl
theorem wp_74 : (Cond.selects "CoinBoatsModel" ({ cls := "CoinBoatsModel", name := "takesName", desc := "(I)Z" } : MethodName) ({ cls := "CoinBoatsModel", name := "takesName", desc := "(I)Z" } : MethodName)) ∈ ai_tb := ai_wdp (y := ({ cls := "CoinBoatsModel", name := "takesName", desc := "(I)Z" } : Jvm.MethodName)) 74 44 rfl
theorem wd_1586 : (Cond.methodLink "CoinBoatsModel" (229 : Nat) ({ cls := "CoinBoatsModel", name := "expr", desc := "()Z" } : MethodName)) ∈ ai_tb := ai_wd7 146 rfl rfl
theorem wd_1588 : (Cond.instanceMethod ({ cls := "CoinBoatsModel", name := "expr", desc := "()Z" } : MethodName)) ∈ ai_tb := ai_wd7 148 rfl rfl
theorem wp_77 : (Cond.selects "CoinBoatsModel" ({ cls := "CoinBoatsModel", name := "expr", desc := "()Z" } : MethodName) ({ cls := "CoinBoatsModel", name := "expr", desc := "()Z" } : MethodName)) ∈ ai_tb := ai_wdp (y := ({ cls := "CoinBoatsModel", name := "expr", desc := "()Z" } : Jvm.MethodName)) 77 44 rfl
theorem wd_1550 : (Cond.methodLink "CoinBoatsModel" (232 : Nat) ({ cls := "CoinBoatsModel", name := "names", desc := "(II)Z" } : MethodName)) ∈ ai_tb := ai_wd7 110 rfl rfl
theorem wd_1552 : (Cond.instanceMethod ({ cls := "CoinBoatsModel", name := "names", desc := "(II)Z" } : MethodName)) ∈ ai_tb := ai_wd7 112 rfl rfl
theorem wp_68 : (Cond.selects "CoinBoatsModel" ({ cls := "CoinBoatsModel", name := "names", desc := "(II)Z" } : MethodName) ({ cls := "CoinBoatsModel", name := "names", desc := "(II)Z" } : MethodName)) ∈ ai_tb := ai_wdp (y := ({ cls := "CoinBoatsModel", name := "names", desc := "(II)Z" } : Jvm.MethodName)) 68 44 rfl
theorem wd_1562 : (Cond.methodLink "CoinBoatsModel" (235 : Nat) ({ cls := "CoinBoatsModel", name := "takesInt", desc := "(II)Z" } : MethodName)) ∈ ai_tb := ai_wd7 122 rfl rfl
theorem wd_1564 : (Cond.instanceMethod ({ cls := "CoinBoatsModel", name := "takesInt", desc := "(II)Z" } : MethodName)) ∈ ai_tb := ai_wd7 124 rfl rfl
theorem wp_71 : (Cond.selects "CoinBoatsModel" ({ cls := "CoinBoatsModel", name := "takesInt", desc := "(II)Z" } : MethodName) ({ cls := "CoinBoatsModel", name := "takesInt", desc := "(II)Z" } : MethodName)) ∈ ai_tb := ai_wdp (y := ({ cls := "CoinBoatsModel", name := "takesInt", desc := "(II)Z" } : Jvm.MethodName)) 71 44 rfl
theorem wd_1578 : (Cond.methodLink "CoinBoatsModel" (238 : Nat) ({ cls := "CoinBoatsModel", name := "takesSum", desc := "(I)Z" } : MethodName)) ∈ ai_tb := ai_wd7 138 rfl rfl
theorem wd_1580 : (Cond.instanceMethod ({ cls := "CoinBoatsModel", name := "takesSum", desc := "(I)Z" } : MethodName)) ∈ ai_tb := ai_wd7 140 rfl rfl
theorem wp_75 : (Cond.selects "CoinBoatsModel" ({ cls := "CoinBoatsModel", name := "takesSum", desc := "(I)Z" } : MethodName) ({ cls := "CoinBoatsModel", name := "takesSum", desc := "(I)Z" } : MethodName)) ∈ ai_tb := ai_wdp (y := ({ cls := "CoinBoatsModel", name := "takesSum", desc := "(I)Z" } : Jvm.MethodName)) 75 44 rfl
theorem wd_1613 : (Cond.methodLink "CoinBoatsModel" (241 : Nat) ({ cls := "CoinBoatsModel", name := "takesPlace", desc := "()Z" } : MethodName)) ∈ ai_tb := ai_wd7 173 rfl rfl
theorem wd_1615 : (Cond.instanceMethod ({ cls := "CoinBoatsModel", name := "takesPlace", desc := "()Z" } : MethodName)) ∈ ai_tb := ai_wd7 175 rfl rfl
theorem wp_83 : (Cond.selects "CoinBoatsModel" ({ cls := "CoinBoatsModel", name := "takesPlace", desc := "()Z" } : MethodName) ({ cls := "CoinBoatsModel", name := "takesPlace", desc := "()Z" } : MethodName)) ∈ ai_tb := ai_wdp (y := ({ cls := "CoinBoatsModel", name := "takesPlace", desc := "()Z" } : Jvm.MethodName)) 83 44 rfl
theorem wd_1534 : (Cond.methodLink "CoinBoatsModel" (244 : Nat) ({ cls := "CoinBoatsModel", name := "tellKind", desc := "()Z" } : MethodName)) ∈ ai_tb := ai_wd7 94 rfl rfl
theorem wd_1536 : (Cond.instanceMethod ({ cls := "CoinBoatsModel", name := "tellKind", desc := "()Z" } : MethodName)) ∈ ai_tb := ai_wd7 96 rfl rfl
theorem wp_64 : (Cond.selects "CoinBoatsModel" ({ cls := "CoinBoatsModel", name := "tellKind", desc := "()Z" } : MethodName) ({ cls := "CoinBoatsModel", name := "tellKind", desc := "()Z" } : MethodName)) ∈ ai_tb := ai_wdp (y := ({ cls := "CoinBoatsModel", name := "tellKind", desc := "()Z" } : Jvm.MethodName)) 64 44 rfl
theorem wd_1566 : (Cond.methodLink "CoinBoatsModel" (247 : Nat) ({ cls := "CoinBoatsModel", name := "tellIsland", desc := "()Z" } : MethodName)) ∈ ai_tb := ai_wd7 126 rfl rfl
theorem wd_1568 : (Cond.instanceMethod ({ cls := "CoinBoatsModel", name := "tellIsland", desc := "()Z" } : MethodName)) ∈ ai_tb := ai_wd7 128 rfl rfl
theorem wp_72 : (Cond.selects "CoinBoatsModel" ({ cls := "CoinBoatsModel", name := "tellIsland", desc := "()Z" } : MethodName) ({ cls := "CoinBoatsModel", name := "tellIsland", desc := "()Z" } : MethodName)) ∈ ai_tb := ai_wdp (y := ({ cls := "CoinBoatsModel", name := "tellIsland", desc := "()Z" } : Jvm.MethodName)) 72 44 rfl
theorem wd_1570 : (Cond.methodLink "CoinBoatsModel" (250 : Nat) ({ cls := "CoinBoatsModel", name := "tellWant", desc := "(II)Z" } : MethodName)) ∈ ai_tb := ai_wd7 130 rfl rfl
theorem wd_1572 : (Cond.instanceMethod ({ cls := "CoinBoatsModel", name := "tellWant", desc := "(II)Z" } : MethodName)) ∈ ai_tb := ai_wd7 132 rfl rfl
theorem wp_73 : (Cond.selects "CoinBoatsModel" ({ cls := "CoinBoatsModel", name := "tellWant", desc := "(II)Z" } : MethodName) ({ cls := "CoinBoatsModel", name := "tellWant", desc := "(II)Z" } : MethodName)) ∈ ai_tb := ai_wdp (y := ({ cls := "CoinBoatsModel", name := "tellWant", desc := "(II)Z" } : Jvm.MethodName)) 73 44 rfl
theorem wd_1609 : (Cond.methodLink "CoinBoatsModel" (253 : Nat) ({ cls := "CoinBoatsModel", name := "tellFlow", desc := "()Z" } : MethodName)) ∈ ai_tb := ai_wd7 169 rfl rfl
theorem wd_1611 : (Cond.instanceMethod ({ cls := "CoinBoatsModel", name := "tellFlow", desc := "()Z" } : MethodName)) ∈ ai_tb := ai_wd7 171 rfl rfl
theorem wp_82 : (Cond.selects "CoinBoatsModel" ({ cls := "CoinBoatsModel", name := "tellFlow", desc := "()Z" } : MethodName) ({ cls := "CoinBoatsModel", name := "tellFlow", desc := "()Z" } : MethodName)) ∈ ai_tb := ai_wdp (y := ({ cls := "CoinBoatsModel", name := "tellFlow", desc := "()Z" } : Jvm.MethodName)) 82 44 rfl
theorem wd_1621 : (Cond.methodLink "CoinBoatsModel" (256 : Nat) ({ cls := "CoinBoatsModel", name := "tellWear", desc := "()Z" } : MethodName)) ∈ ai_tb := ai_wd7 181 rfl rfl
theorem wd_1623 : (Cond.instanceMethod ({ cls := "CoinBoatsModel", name := "tellWear", desc := "()Z" } : MethodName)) ∈ ai_tb := ai_wd7 183 rfl rfl
theorem wp_85 : (Cond.selects "CoinBoatsModel" ({ cls := "CoinBoatsModel", name := "tellWear", desc := "()Z" } : MethodName) ({ cls := "CoinBoatsModel", name := "tellWear", desc := "()Z" } : MethodName)) ∈ ai_tb := ai_wdp (y := ({ cls := "CoinBoatsModel", name := "tellWear", desc := "()Z" } : Jvm.MethodName)) 85 44 rfl
theorem wd_1625 : (Cond.methodLink "CoinBoatsModel" (259 : Nat) ({ cls := "CoinBoatsModel", name := "tellBoat", desc := "()Z" } : MethodName)) ∈ ai_tb := ai_wd7 185 rfl rfl
theorem wd_1627 : (Cond.instanceMethod ({ cls := "CoinBoatsModel", name := "tellBoat", desc := "()Z" } : MethodName)) ∈ ai_tb := ai_wd7 187 rfl rfl
theorem wp_86 : (Cond.selects "CoinBoatsModel" ({ cls := "CoinBoatsModel", name := "tellBoat", desc := "()Z" } : MethodName) ({ cls := "CoinBoatsModel", name := "tellBoat", desc := "()Z" } : MethodName)) ∈ ai_tb := ai_wdp (y := ({ cls := "CoinBoatsModel", name := "tellBoat", desc := "()Z" } : Jvm.MethodName)) 86 44 rfl
theorem wd_1530 : (Cond.methodLink "CoinBoatsModel" (262 : Nat) ({ cls := "CoinBoatsModel", name := "tellOne", desc := "()Z" } : MethodName)) ∈ ai_tb := ai_wd7 90 rfl rfl
theorem wd_1532 : (Cond.instanceMethod ({ cls := "CoinBoatsModel", name := "tellOne", desc := "()Z" } : MethodName)) ∈ ai_tb := ai_wd7 92 rfl rfl
theorem wp_63 : (Cond.selects "CoinBoatsModel" ({ cls := "CoinBoatsModel", name := "tellOne", desc := "()Z" } : MethodName) ({ cls := "CoinBoatsModel", name := "tellOne", desc := "()Z" } : MethodName)) ∈ ai_tb := ai_wdp (y := ({ cls := "CoinBoatsModel", name := "tellOne", desc := "()Z" } : Jvm.MethodName)) 63 44 rfl
theorem wd_1476 : (Cond.methodLink "CoinBoatsModel" (265 : Nat) ({ cls := "CoinBoatsModel", name := "scanAll", desc := "()V" } : MethodName)) ∈ ai_tb := ai_wd7 36 rfl rfl
theorem wd_1478 : (Cond.instanceMethod ({ cls := "CoinBoatsModel", name := "scanAll", desc := "()V" } : MethodName)) ∈ ai_tb := ai_wd7 38 rfl rfl
theorem wp_54 : (Cond.selects "CoinBoatsModel" ({ cls := "CoinBoatsModel", name := "scanAll", desc := "()V" } : MethodName) ({ cls := "CoinBoatsModel", name := "scanAll", desc := "()V" } : MethodName)) ∈ ai_tb := ai_wdp (y := ({ cls := "CoinBoatsModel", name := "scanAll", desc := "()V" } : Jvm.MethodName)) 54 44 rfl
theorem wd_1526 : (Cond.methodLink "CoinBoatsModel" (268 : Nat) ({ cls := "CoinBoatsModel", name := "parses", desc := "()Z" } : MethodName)) ∈ ai_tb := ai_wd7 86 rfl rfl
theorem wd_1528 : (Cond.instanceMethod ({ cls := "CoinBoatsModel", name := "parses", desc := "()Z" } : MethodName)) ∈ ai_tb := ai_wd7 88 rfl rfl
theorem wp_62 : (Cond.selects "CoinBoatsModel" ({ cls := "CoinBoatsModel", name := "parses", desc := "()Z" } : MethodName) ({ cls := "CoinBoatsModel", name := "parses", desc := "()Z" } : MethodName)) ∈ ai_tb := ai_wdp (y := ({ cls := "CoinBoatsModel", name := "parses", desc := "()Z" } : Jvm.MethodName)) 62 44 rfl
theorem wd_1629 : (Cond.methodLink "CoinBoatsModel" (271 : Nat) ({ cls := "CoinBoatsModel", name := "copy", desc := "(II)V" } : MethodName)) ∈ ai_tb := ai_wd7 189 rfl rfl
theorem wd_1631 : (Cond.instanceMethod ({ cls := "CoinBoatsModel", name := "copy", desc := "(II)V" } : MethodName)) ∈ ai_tb := ai_wd7 191 rfl rfl
theorem wp_87 : (Cond.selects "CoinBoatsModel" ({ cls := "CoinBoatsModel", name := "copy", desc := "(II)V" } : MethodName) ({ cls := "CoinBoatsModel", name := "copy", desc := "(II)V" } : MethodName)) ∈ ai_tb := ai_wdp (y := ({ cls := "CoinBoatsModel", name := "copy", desc := "(II)V" } : Jvm.MethodName)) 87 44 rfl
theorem wd_1649 : (Cond.methodLink "CoinBoatsModel" (274 : Nat) ({ cls := "CoinBoatsModel", name := "isKind", desc := "(I)Z" } : MethodName)) ∈ ai_tb := ai_wd7 209 rfl rfl
theorem wd_1651 : (Cond.instanceMethod ({ cls := "CoinBoatsModel", name := "isKind", desc := "(I)Z" } : MethodName)) ∈ ai_tb := ai_wd7 211 rfl rfl
theorem wp_88 : (Cond.selects "CoinBoatsModel" ({ cls := "CoinBoatsModel", name := "isKind", desc := "(I)Z" } : MethodName) ({ cls := "CoinBoatsModel", name := "isKind", desc := "(I)Z" } : MethodName)) ∈ ai_tb := ai_wdp (y := ({ cls := "CoinBoatsModel", name := "isKind", desc := "(I)Z" } : Jvm.MethodName)) 88 44 rfl
theorem wd_1653 : (Cond.methodLink "CoinBoatsModel" (277 : Nat) ({ cls := "CoinBoatsModel", name := "isIn", desc := "(III)Z" } : MethodName)) ∈ ai_tb := ai_wd7 213 rfl rfl
theorem wd_1654 : (Cond.static ({ cls := "CoinBoatsModel", name := "isIn", desc := "(III)Z" } : MethodName)) ∈ ai_tb := ai_wd7 214 rfl rfl
theorem wd_1660 : (Cond.methodLink "CoinBoatsModel" (281 : Nat) ({ cls := "CoinBoatsModel", name := "isIsland", desc := "(I)Z" } : MethodName)) ∈ ai_tb := ai_wd7 220 rfl rfl
theorem wd_1662 : (Cond.instanceMethod ({ cls := "CoinBoatsModel", name := "isIsland", desc := "(I)Z" } : MethodName)) ∈ ai_tb := ai_wd7 222 rfl rfl
theorem wp_89 : (Cond.selects "CoinBoatsModel" ({ cls := "CoinBoatsModel", name := "isIsland", desc := "(I)Z" } : MethodName) ({ cls := "CoinBoatsModel", name := "isIsland", desc := "(I)Z" } : MethodName)) ∈ ai_tb := ai_wdp (y := ({ cls := "CoinBoatsModel", name := "isIsland", desc := "(I)Z" } : Jvm.MethodName)) 89 44 rfl
theorem wd_1668 : (Cond.methodLink "CoinBoatsModel" (284 : Nat) ({ cls := "CoinBoatsModel", name := "boatOf", desc := "(II)I" } : MethodName)) ∈ ai_tb := ai_wd7 228 rfl rfl
theorem wd_1670 : (Cond.instanceMethod ({ cls := "CoinBoatsModel", name := "boatOf", desc := "(II)I" } : MethodName)) ∈ ai_tb := ai_wd7 230 rfl rfl
theorem wp_90 : (Cond.selects "CoinBoatsModel" ({ cls := "CoinBoatsModel", name := "boatOf", desc := "(II)I" } : MethodName) ({ cls := "CoinBoatsModel", name := "boatOf", desc := "(II)I" } : MethodName)) ∈ ai_tb := ai_wdp (y := ({ cls := "CoinBoatsModel", name := "boatOf", desc := "(II)I" } : Jvm.MethodName)) 90 44 rfl
theorem wd_1688 : (Cond.methodLink "CoinBoatsModel" (288 : Nat) ({ cls := "CoinBoatsModel", name := "joined", desc := "(III)I" } : MethodName)) ∈ ai_tb := ai_wd8 8 rfl rfl
theorem wd_1689 : (Cond.static ({ cls := "CoinBoatsModel", name := "joined", desc := "(III)I" } : MethodName)) ∈ ai_tb := ai_wd8 9 rfl rfl
theorem wd_1680 : (Cond.methodLink "CoinBoatsModel" (292 : Nat) ({ cls := "CoinBoatsModel", name := "ask", desc := "(IIII)V" } : MethodName)) ∈ ai_tb := ai_wd8 0 rfl rfl
theorem wd_1682 : (Cond.instanceMethod ({ cls := "CoinBoatsModel", name := "ask", desc := "(IIII)V" } : MethodName)) ∈ ai_tb := ai_wd8 2 rfl rfl
theorem wp_92 : (Cond.selects "CoinBoatsModel" ({ cls := "CoinBoatsModel", name := "ask", desc := "(IIII)V" } : MethodName) ({ cls := "CoinBoatsModel", name := "ask", desc := "(IIII)V" } : MethodName)) ∈ ai_tb := ai_wdp (y := ({ cls := "CoinBoatsModel", name := "ask", desc := "(IIII)V" } : Jvm.MethodName)) 92 44 rfl
theorem wd_1684 : (Cond.methodLink "CoinBoatsModel" (296 : Nat) ({ cls := "CoinBoatsModel", name := "sum", desc := "(I)I" } : MethodName)) ∈ ai_tb := ai_wd8 4 rfl rfl
theorem wd_1686 : (Cond.instanceMethod ({ cls := "CoinBoatsModel", name := "sum", desc := "(I)I" } : MethodName)) ∈ ai_tb := ai_wd8 6 rfl rfl
theorem wp_93 : (Cond.selects "CoinBoatsModel" ({ cls := "CoinBoatsModel", name := "sum", desc := "(I)I" } : MethodName) ({ cls := "CoinBoatsModel", name := "sum", desc := "(I)I" } : MethodName)) ∈ ai_tb := ai_wdp (y := ({ cls := "CoinBoatsModel", name := "sum", desc := "(I)I" } : Jvm.MethodName)) 93 44 rfl
theorem wd_1691 : (Cond.methodLink "CoinBoatsModel" (299 : Nat) ({ cls := "CoinBoatsModel", name := "within", desc := "(III)I" } : MethodName)) ∈ ai_tb := ai_wd8 11 rfl rfl
theorem wd_1692 : (Cond.static ({ cls := "CoinBoatsModel", name := "within", desc := "(III)I" } : MethodName)) ∈ ai_tb := ai_wd8 12 rfl rfl
theorem wd_1676 : (Cond.methodLink "CoinBoatsModel" (302 : Nat) ({ cls := "CoinBoatsModel", name := "wanted", desc := "(III)I" } : MethodName)) ∈ ai_tb := ai_wd7 236 rfl rfl
theorem wd_1678 : (Cond.instanceMethod ({ cls := "CoinBoatsModel", name := "wanted", desc := "(III)I" } : MethodName)) ∈ ai_tb := ai_wd7 238 rfl rfl
theorem wp_91 : (Cond.selects "CoinBoatsModel" ({ cls := "CoinBoatsModel", name := "wanted", desc := "(III)I" } : MethodName) ({ cls := "CoinBoatsModel", name := "wanted", desc := "(III)I" } : MethodName)) ∈ ai_tb := ai_wdp (y := ({ cls := "CoinBoatsModel", name := "wanted", desc := "(III)I" } : Jvm.MethodName)) 91 44 rfl
theorem wd_1698 : (Cond.methodLink "CoinBoatsModel" (305 : Nat) ({ cls := "CoinBoatsModel", name := "cell", desc := "(III)I" } : MethodName)) ∈ ai_tb := ai_wd8 18 rfl rfl
theorem wd_1699 : (Cond.static ({ cls := "CoinBoatsModel", name := "cell", desc := "(III)I" } : MethodName)) ∈ ai_tb := ai_wd8 19 rfl rfl
theorem wd_1701 : (Cond.constant "CoinBoatsModel" (308 : Nat) (999999 : Int32)) ∈ ai_tb := ai_wd8 21 rfl rfl
theorem wd_1702 : (Cond.methodLink "CoinBoatsModel" (309 : Nat) ({ cls := "CoinBoatsModel", name := "all", desc := "(II)I" } : MethodName)) ∈ ai_tb := ai_wd8 22 rfl rfl
theorem wd_1704 : (Cond.instanceMethod ({ cls := "CoinBoatsModel", name := "all", desc := "(II)I" } : MethodName)) ∈ ai_tb := ai_wd8 24 rfl rfl
theorem wp_94 : (Cond.selects "CoinBoatsModel" ({ cls := "CoinBoatsModel", name := "all", desc := "(II)I" } : MethodName) ({ cls := "CoinBoatsModel", name := "all", desc := "(II)I" } : MethodName)) ∈ ai_tb := ai_wdp (y := ({ cls := "CoinBoatsModel", name := "all", desc := "(II)I" } : Jvm.MethodName)) 94 44 rfl
theorem wd_1714 : (Cond.methodLink "CoinBoatsModel" (312 : Nat) ({ cls := "CoinBoatsModel", name := "isPlace", desc := "(I)Z" } : MethodName)) ∈ ai_tb := ai_wd8 34 rfl rfl
theorem wd_1716 : (Cond.instanceMethod ({ cls := "CoinBoatsModel", name := "isPlace", desc := "(I)Z" } : MethodName)) ∈ ai_tb := ai_wd8 36 rfl rfl
theorem wp_95 : (Cond.selects "CoinBoatsModel" ({ cls := "CoinBoatsModel", name := "isPlace", desc := "(I)Z" } : MethodName) ({ cls := "CoinBoatsModel", name := "isPlace", desc := "(I)Z" } : MethodName)) ∈ ai_tb := ai_wdp (y := ({ cls := "CoinBoatsModel", name := "isPlace", desc := "(I)Z" } : Jvm.MethodName)) 95 44 rfl
theorem wd_1738 : (Cond.methodLink "CoinBoatsModel" (315 : Nat) ({ cls := "CoinBoatsModel", name := "layTills", desc := "()V" } : MethodName)) ∈ ai_tb := ai_wd8 58 rfl rfl
theorem wd_1740 : (Cond.instanceMethod ({ cls := "CoinBoatsModel", name := "layTills", desc := "()V" } : MethodName)) ∈ ai_tb := ai_wd8 60 rfl rfl
theorem wp_97 : (Cond.selects "CoinBoatsModel" ({ cls := "CoinBoatsModel", name := "layTills", desc := "()V" } : MethodName) ({ cls := "CoinBoatsModel", name := "layTills", desc := "()V" } : MethodName)) ∈ ai_tb := ai_wdp (y := ({ cls := "CoinBoatsModel", name := "layTills", desc := "()V" } : Jvm.MethodName)) 97 44 rfl
theorem wd_1353 : (Cond.fieldLink "CoinBoatsModel" (318 : Nat) "CoinBoatsModel" "judged" "I") ∈ ai_tb := ai_wd6 153 rfl rfl
theorem wd_1354 : (Cond.fieldLink "CoinBoatsModel" (321 : Nat) "CoinBoatsModel" "judgedWhy" "I") ∈ ai_tb := ai_wd6 154 rfl rfl
theorem wd_1742 : (Cond.methodLink "CoinBoatsModel" (324 : Nat) ({ cls := "CoinBoatsModel", name := "reason", desc := "(II)I" } : MethodName)) ∈ ai_tb := ai_wd8 62 rfl rfl
theorem wd_1744 : (Cond.instanceMethod ({ cls := "CoinBoatsModel", name := "reason", desc := "(II)I" } : MethodName)) ∈ ai_tb := ai_wd8 64 rfl rfl
theorem wp_98 : (Cond.selects "CoinBoatsModel" ({ cls := "CoinBoatsModel", name := "reason", desc := "(II)I" } : MethodName) ({ cls := "CoinBoatsModel", name := "reason", desc := "(II)I" } : MethodName)) ∈ ai_tb := ai_wdp (y := ({ cls := "CoinBoatsModel", name := "reason", desc := "(II)I" } : Jvm.MethodName)) 98 44 rfl
theorem wd_1734 : (Cond.methodLink "CoinBoatsModel" (327 : Nat) ({ cls := "CoinBoatsModel", name := "judgeAll", desc := "()V" } : MethodName)) ∈ ai_tb := ai_wd8 54 rfl rfl
theorem wd_1736 : (Cond.instanceMethod ({ cls := "CoinBoatsModel", name := "judgeAll", desc := "()V" } : MethodName)) ∈ ai_tb := ai_wd8 56 rfl rfl
theorem wp_96 : (Cond.selects "CoinBoatsModel" ({ cls := "CoinBoatsModel", name := "judgeAll", desc := "()V" } : MethodName) ({ cls := "CoinBoatsModel", name := "judgeAll", desc := "()V" } : MethodName)) ∈ ai_tb := ai_wdp (y := ({ cls := "CoinBoatsModel", name := "judgeAll", desc := "()V" } : Jvm.MethodName)) 96 44 rfl
theorem wd_1764 : (Cond.constant "CoinBoatsModel" (330 : Nat) (1103515245 : Int32)) ∈ ai_tb := ai_wd8 84 rfl rfl
theorem wd_1761 : (Cond.methodLink "CoinBoatsModel" (331 : Nat) ({ cls := "CoinBoatsModel", name := "mixed", desc := "(II)I" } : MethodName)) ∈ ai_tb := ai_wd8 81 rfl rfl
theorem wd_1762 : (Cond.static ({ cls := "CoinBoatsModel", name := "mixed", desc := "(II)I" } : MethodName)) ∈ ai_tb := ai_wd8 82 rfl rfl
theorem wd_1758 : (Cond.methodLink "CoinBoatsModel" (334 : Nat) ({ cls := "CoinBoatsModel", name := "lot", desc := "(III)I" } : MethodName)) ∈ ai_tb := ai_wd8 78 rfl rfl
theorem wd_1759 : (Cond.static ({ cls := "CoinBoatsModel", name := "lot", desc := "(III)I" } : MethodName)) ∈ ai_tb := ai_wd8 79 rfl rfl
theorem wd_1765 : (Cond.methodLink "CoinBoatsModel" (337 : Nat) ({ cls := "CoinBoatsModel", name := "go", desc := "(IIIIZ)V" } : MethodName)) ∈ ai_tb := ai_wd8 85 rfl rfl
theorem wd_1767 : (Cond.instanceMethod ({ cls := "CoinBoatsModel", name := "go", desc := "(IIIIZ)V" } : MethodName)) ∈ ai_tb := ai_wd8 87 rfl rfl
theorem wp_100 : (Cond.selects "CoinBoatsModel" ({ cls := "CoinBoatsModel", name := "go", desc := "(IIIIZ)V" } : MethodName) ({ cls := "CoinBoatsModel", name := "go", desc := "(IIIIZ)V" } : MethodName)) ∈ ai_tb := ai_wdp (y := ({ cls := "CoinBoatsModel", name := "go", desc := "(IIIIZ)V" } : Jvm.MethodName)) 100 44 rfl
theorem wd_1777 : (Cond.methodLink "CoinBoatsModel" (341 : Nat) ({ cls := "CoinBoatsModel", name := "isLastWear", desc := "(I)Z" } : MethodName)) ∈ ai_tb := ai_wd8 97 rfl rfl
theorem wd_1779 : (Cond.instanceMethod ({ cls := "CoinBoatsModel", name := "isLastWear", desc := "(I)Z" } : MethodName)) ∈ ai_tb := ai_wd8 99 rfl rfl
theorem wp_103 : (Cond.selects "CoinBoatsModel" ({ cls := "CoinBoatsModel", name := "isLastWear", desc := "(I)Z" } : MethodName) ({ cls := "CoinBoatsModel", name := "isLastWear", desc := "(I)Z" } : MethodName)) ∈ ai_tb := ai_wdp (y := ({ cls := "CoinBoatsModel", name := "isLastWear", desc := "(I)Z" } : Jvm.MethodName)) 103 44 rfl
theorem wd_1785 : (Cond.methodLink "CoinBoatsModel" (344 : Nat) ({ cls := "CoinBoatsModel", name := "isLast", desc := "(III)Z" } : MethodName)) ∈ ai_tb := ai_wd8 105 rfl rfl
theorem wd_1787 : (Cond.instanceMethod ({ cls := "CoinBoatsModel", name := "isLast", desc := "(III)Z" } : MethodName)) ∈ ai_tb := ai_wd8 107 rfl rfl
theorem wp_105 : (Cond.selects "CoinBoatsModel" ({ cls := "CoinBoatsModel", name := "isLast", desc := "(III)Z" } : MethodName) ({ cls := "CoinBoatsModel", name := "isLast", desc := "(III)Z" } : MethodName)) ∈ ai_tb := ai_wdp (y := ({ cls := "CoinBoatsModel", name := "isLast", desc := "(III)Z" } : Jvm.MethodName)) 105 44 rfl
theorem wd_1793 : (Cond.methodLink "CoinBoatsModel" (347 : Nat) ({ cls := "CoinBoatsModel", name := "harm", desc := "(I)I" } : MethodName)) ∈ ai_tb := ai_wd8 113 rfl rfl
theorem wd_1795 : (Cond.instanceMethod ({ cls := "CoinBoatsModel", name := "harm", desc := "(I)I" } : MethodName)) ∈ ai_tb := ai_wd8 115 rfl rfl
theorem wp_107 : (Cond.selects "CoinBoatsModel" ({ cls := "CoinBoatsModel", name := "harm", desc := "(I)I" } : MethodName) ({ cls := "CoinBoatsModel", name := "harm", desc := "(I)I" } : MethodName)) ∈ ai_tb := ai_wdp (y := ({ cls := "CoinBoatsModel", name := "harm", desc := "(I)I" } : Jvm.MethodName)) 107 44 rfl
theorem wd_1754 : (Cond.methodLink "CoinBoatsModel" (350 : Nat) ({ cls := "CoinBoatsModel", name := "sends", desc := "(II)V" } : MethodName)) ∈ ai_tb := ai_wd8 74 rfl rfl
theorem wd_1756 : (Cond.instanceMethod ({ cls := "CoinBoatsModel", name := "sends", desc := "(II)V" } : MethodName)) ∈ ai_tb := ai_wd8 76 rfl rfl
theorem wp_99 : (Cond.selects "CoinBoatsModel" ({ cls := "CoinBoatsModel", name := "sends", desc := "(II)V" } : MethodName) ({ cls := "CoinBoatsModel", name := "sends", desc := "(II)V" } : MethodName)) ∈ ai_tb := ai_wdp (y := ({ cls := "CoinBoatsModel", name := "sends", desc := "(II)V" } : Jvm.MethodName)) 99 44 rfl
theorem wd_1769 : (Cond.methodLink "CoinBoatsModel" (353 : Nat) ({ cls := "CoinBoatsModel", name := "flows", desc := "(II)V" } : MethodName)) ∈ ai_tb := ai_wd8 89 rfl rfl
theorem wd_1771 : (Cond.instanceMethod ({ cls := "CoinBoatsModel", name := "flows", desc := "(II)V" } : MethodName)) ∈ ai_tb := ai_wd8 91 rfl rfl
theorem wp_101 : (Cond.selects "CoinBoatsModel" ({ cls := "CoinBoatsModel", name := "flows", desc := "(II)V" } : MethodName) ({ cls := "CoinBoatsModel", name := "flows", desc := "(II)V" } : MethodName)) ∈ ai_tb := ai_wdp (y := ({ cls := "CoinBoatsModel", name := "flows", desc := "(II)V" } : Jvm.MethodName)) 101 44 rfl
theorem wd_1773 : (Cond.methodLink "CoinBoatsModel" (356 : Nat) ({ cls := "CoinBoatsModel", name := "wears", desc := "(I)V" } : MethodName)) ∈ ai_tb := ai_wd8 93 rfl rfl
theorem wd_1775 : (Cond.instanceMethod ({ cls := "CoinBoatsModel", name := "wears", desc := "(I)V" } : MethodName)) ∈ ai_tb := ai_wd8 95 rfl rfl
theorem wp_102 : (Cond.selects "CoinBoatsModel" ({ cls := "CoinBoatsModel", name := "wears", desc := "(I)V" } : MethodName) ({ cls := "CoinBoatsModel", name := "wears", desc := "(I)V" } : MethodName)) ∈ ai_tb := ai_wdp (y := ({ cls := "CoinBoatsModel", name := "wears", desc := "(I)V" } : Jvm.MethodName)) 102 44 rfl
theorem wd_1781 : (Cond.methodLink "CoinBoatsModel" (359 : Nat) ({ cls := "CoinBoatsModel", name := "loses", desc := "(I)V" } : MethodName)) ∈ ai_tb := ai_wd8 101 rfl rfl
theorem wd_1783 : (Cond.instanceMethod ({ cls := "CoinBoatsModel", name := "loses", desc := "(I)V" } : MethodName)) ∈ ai_tb := ai_wd8 103 rfl rfl
theorem wp_104 : (Cond.selects "CoinBoatsModel" ({ cls := "CoinBoatsModel", name := "loses", desc := "(I)V" } : MethodName) ({ cls := "CoinBoatsModel", name := "loses", desc := "(I)V" } : MethodName)) ∈ ai_tb := ai_wdp (y := ({ cls := "CoinBoatsModel", name := "loses", desc := "(I)V" } : Jvm.MethodName)) 104 44 rfl
theorem wd_1789 : (Cond.methodLink "CoinBoatsModel" (362 : Nat) ({ cls := "CoinBoatsModel", name := "lacking", desc := "(I)I" } : MethodName)) ∈ ai_tb := ai_wd8 109 rfl rfl
theorem wd_1791 : (Cond.instanceMethod ({ cls := "CoinBoatsModel", name := "lacking", desc := "(I)I" } : MethodName)) ∈ ai_tb := ai_wd8 111 rfl rfl
theorem wp_106 : (Cond.selects "CoinBoatsModel" ({ cls := "CoinBoatsModel", name := "lacking", desc := "(I)I" } : MethodName) ({ cls := "CoinBoatsModel", name := "lacking", desc := "(I)I" } : MethodName)) ∈ ai_tb := ai_wdp (y := ({ cls := "CoinBoatsModel", name := "lacking", desc := "(I)I" } : Jvm.MethodName)) 106 44 rfl
theorem wd_1805 : (Cond.constantLong "CoinBoatsModel" (365 : Nat) (-1 : Int64)) ∈ ai_tb := ai_wd8 125 rfl rfl
theorem wd_1814 : (Cond.constant "CoinBoatsModel" (367 : Nat) (1000000 : Int32)) ∈ ai_tb := ai_wd8 134 rfl rfl
theorem wd_1815 : (Cond.methodLink "CoinBoatsModel" (368 : Nat) ({ cls := "CoinBoatsModel", name := "layKind", desc := "(III)V" } : MethodName)) ∈ ai_tb := ai_wd8 135 rfl rfl
theorem wd_1817 : (Cond.instanceMethod ({ cls := "CoinBoatsModel", name := "layKind", desc := "(III)V" } : MethodName)) ∈ ai_tb := ai_wd8 137 rfl rfl
theorem wp_109 : (Cond.selects "CoinBoatsModel" ({ cls := "CoinBoatsModel", name := "layKind", desc := "(III)V" } : MethodName) ({ cls := "CoinBoatsModel", name := "layKind", desc := "(III)V" } : MethodName)) ∈ ai_tb := ai_wdp (y := ({ cls := "CoinBoatsModel", name := "layKind", desc := "(III)V" } : Jvm.MethodName)) 109 44 rfl
theorem wd_1819 : (Cond.methodLink "CoinBoatsModel" (371 : Nat) ({ cls := "CoinBoatsModel", name := "worth", desc := "(I)I" } : MethodName)) ∈ ai_tb := ai_wd8 139 rfl rfl
theorem wd_1821 : (Cond.instanceMethod ({ cls := "CoinBoatsModel", name := "worth", desc := "(I)I" } : MethodName)) ∈ ai_tb := ai_wd8 141 rfl rfl
theorem wp_110 : (Cond.selects "CoinBoatsModel" ({ cls := "CoinBoatsModel", name := "worth", desc := "(I)I" } : MethodName) ({ cls := "CoinBoatsModel", name := "worth", desc := "(I)I" } : MethodName)) ∈ ai_tb := ai_wdp (y := ({ cls := "CoinBoatsModel", name := "worth", desc := "(I)I" } : Jvm.MethodName)) 110 44 rfl
theorem wd_1810 : (Cond.methodLink "CoinBoatsModel" (374 : Nat) ({ cls := "CoinBoatsModel", name := "layFewest", desc := "(II)V" } : MethodName)) ∈ ai_tb := ai_wd8 130 rfl rfl
theorem wd_1812 : (Cond.instanceMethod ({ cls := "CoinBoatsModel", name := "layFewest", desc := "(II)V" } : MethodName)) ∈ ai_tb := ai_wd8 132 rfl rfl
theorem wp_108 : (Cond.selects "CoinBoatsModel" ({ cls := "CoinBoatsModel", name := "layFewest", desc := "(II)V" } : MethodName) ({ cls := "CoinBoatsModel", name := "layFewest", desc := "(II)V" } : MethodName)) ∈ ai_tb := ai_wdp (y := ({ cls := "CoinBoatsModel", name := "layFewest", desc := "(II)V" } : Jvm.MethodName)) 108 44 rfl
theorem wd_1823 : (Cond.methodLink "CoinBoatsModel" (377 : Nat) ({ cls := "CoinBoatsModel", name := "fewestOf", desc := "(II)I" } : MethodName)) ∈ ai_tb := ai_wd8 143 rfl rfl
theorem wd_1825 : (Cond.instanceMethod ({ cls := "CoinBoatsModel", name := "fewestOf", desc := "(II)I" } : MethodName)) ∈ ai_tb := ai_wd8 145 rfl rfl
theorem wp_111 : (Cond.selects "CoinBoatsModel" ({ cls := "CoinBoatsModel", name := "fewestOf", desc := "(II)I" } : MethodName) ({ cls := "CoinBoatsModel", name := "fewestOf", desc := "(II)I" } : MethodName)) ∈ ai_tb := ai_wdp (y := ({ cls := "CoinBoatsModel", name := "fewestOf", desc := "(II)I" } : Jvm.MethodName)) 111 44 rfl
theorem wd_1827 : (Cond.methodLink "CoinBoatsModel" (380 : Nat) ({ cls := "CoinBoatsModel", name := "paidOf", desc := "(III)I" } : MethodName)) ∈ ai_tb := ai_wd8 147 rfl rfl
theorem wd_1829 : (Cond.instanceMethod ({ cls := "CoinBoatsModel", name := "paidOf", desc := "(III)I" } : MethodName)) ∈ ai_tb := ai_wd8 149 rfl rfl
theorem wp_112 : (Cond.selects "CoinBoatsModel" ({ cls := "CoinBoatsModel", name := "paidOf", desc := "(III)I" } : MethodName) ({ cls := "CoinBoatsModel", name := "paidOf", desc := "(III)I" } : MethodName)) ∈ ai_tb := ai_wdp (y := ({ cls := "CoinBoatsModel", name := "paidOf", desc := "(III)I" } : Jvm.MethodName)) 112 44 rfl
theorem wd_1359 : (Cond.fieldLink "CoinBoatsModel" (383 : Nat) "CoinBoatsModel" "bestKinds" "I") ∈ ai_tb := ai_wd6 159 rfl rfl
theorem wd_1360 : (Cond.fieldLink "CoinBoatsModel" (386 : Nat) "CoinBoatsModel" "bestSum" "I") ∈ ai_tb := ai_wd6 160 rfl rfl
theorem wd_1843 : (Cond.methodLink "CoinBoatsModel" (389 : Nat) ({ cls := "CoinBoatsModel", name := "piecesOf", desc := "(II)I" } : MethodName)) ∈ ai_tb := ai_wd8 163 rfl rfl
theorem wd_1845 : (Cond.instanceMethod ({ cls := "CoinBoatsModel", name := "piecesOf", desc := "(II)I" } : MethodName)) ∈ ai_tb := ai_wd8 165 rfl rfl
theorem wp_114 : (Cond.selects "CoinBoatsModel" ({ cls := "CoinBoatsModel", name := "piecesOf", desc := "(II)I" } : MethodName) ({ cls := "CoinBoatsModel", name := "piecesOf", desc := "(II)I" } : MethodName)) ∈ ai_tb := ai_wdp (y := ({ cls := "CoinBoatsModel", name := "piecesOf", desc := "(II)I" } : Jvm.MethodName)) 114 44 rfl
theorem wd_1847 : (Cond.methodLink "CoinBoatsModel" (392 : Nat) ({ cls := "CoinBoatsModel", name := "manyOf", desc := "(I)I" } : MethodName)) ∈ ai_tb := ai_wd8 167 rfl rfl
theorem wd_1848 : (Cond.static ({ cls := "CoinBoatsModel", name := "manyOf", desc := "(I)I" } : MethodName)) ∈ ai_tb := ai_wd8 168 rfl rfl
theorem wd_1839 : (Cond.methodLink "CoinBoatsModel" (395 : Nat) ({ cls := "CoinBoatsModel", name := "chooses", desc := "(II)V" } : MethodName)) ∈ ai_tb := ai_wd8 159 rfl rfl
theorem wd_1841 : (Cond.instanceMethod ({ cls := "CoinBoatsModel", name := "chooses", desc := "(II)V" } : MethodName)) ∈ ai_tb := ai_wd8 161 rfl rfl
theorem wp_113 : (Cond.selects "CoinBoatsModel" ({ cls := "CoinBoatsModel", name := "chooses", desc := "(II)V" } : MethodName) ({ cls := "CoinBoatsModel", name := "chooses", desc := "(II)V" } : MethodName)) ∈ ai_tb := ai_wdp (y := ({ cls := "CoinBoatsModel", name := "chooses", desc := "(II)V" } : Jvm.MethodName)) 113 44 rfl
theorem wd_1363 : (Cond.fieldLink "CoinBoatsModel" (398 : Nat) "CoinBoatsModel" "ordered" "I") ∈ ai_tb := ai_wd6 163 rfl rfl
theorem wd_1866 : (Cond.methodLink "CoinBoatsModel" (401 : Nat) ({ cls := "CoinBoatsModel", name := "power", desc := "(JI)J" } : MethodName)) ∈ ai_tb := ai_wd8 186 rfl rfl
theorem wd_1867 : (Cond.static ({ cls := "CoinBoatsModel", name := "power", desc := "(JI)J" } : MethodName)) ∈ ai_tb := ai_wd8 187 rfl rfl
theorem wd_1869 : (Cond.methodLink "CoinBoatsModel" (405 : Nat) ({ cls := "CoinBoatsModel", name := "leastOf", desc := "(IIIIIJ)J" } : MethodName)) ∈ ai_tb := ai_wd8 189 rfl rfl
theorem wd_1871 : (Cond.instanceMethod ({ cls := "CoinBoatsModel", name := "leastOf", desc := "(IIIIIJ)J" } : MethodName)) ∈ ai_tb := ai_wd8 191 rfl rfl
theorem wp_117 : (Cond.selects "CoinBoatsModel" ({ cls := "CoinBoatsModel", name := "leastOf", desc := "(IIIIIJ)J" } : MethodName) ({ cls := "CoinBoatsModel", name := "leastOf", desc := "(IIIIIJ)J" } : MethodName)) ∈ ai_tb := ai_wdp (y := ({ cls := "CoinBoatsModel", name := "leastOf", desc := "(IIIIIJ)J" } : Jvm.MethodName)) 117 44 rfl
theorem wd_1858 : (Cond.methodLink "CoinBoatsModel" (409 : Nat) ({ cls := "CoinBoatsModel", name := "isCoin", desc := "(IIIIII)Z" } : MethodName)) ∈ ai_tb := ai_wd8 178 rfl rfl
theorem wd_1860 : (Cond.instanceMethod ({ cls := "CoinBoatsModel", name := "isCoin", desc := "(IIIIII)Z" } : MethodName)) ∈ ai_tb := ai_wd8 180 rfl rfl
theorem wp_115 : (Cond.selects "CoinBoatsModel" ({ cls := "CoinBoatsModel", name := "isCoin", desc := "(IIIIII)Z" } : MethodName) ({ cls := "CoinBoatsModel", name := "isCoin", desc := "(IIIIII)Z" } : MethodName)) ∈ ai_tb := ai_wdp (y := ({ cls := "CoinBoatsModel", name := "isCoin", desc := "(IIIIII)Z" } : Jvm.MethodName)) 115 44 rfl
theorem wd_1862 : (Cond.methodLink "CoinBoatsModel" (413 : Nat) ({ cls := "CoinBoatsModel", name := "coins", desc := "(IIIIII)J" } : MethodName)) ∈ ai_tb := ai_wd8 182 rfl rfl
theorem wd_1864 : (Cond.instanceMethod ({ cls := "CoinBoatsModel", name := "coins", desc := "(IIIIII)J" } : MethodName)) ∈ ai_tb := ai_wd8 184 rfl rfl
theorem wp_116 : (Cond.selects "CoinBoatsModel" ({ cls := "CoinBoatsModel", name := "coins", desc := "(IIIIII)J" } : MethodName) ({ cls := "CoinBoatsModel", name := "coins", desc := "(IIIIII)J" } : MethodName)) ∈ ai_tb := ai_wdp (y := ({ cls := "CoinBoatsModel", name := "coins", desc := "(IIIIII)J" } : Jvm.MethodName)) 116 44 rfl
theorem wd_1889 : (Cond.methodLink "CoinBoatsModel" (417 : Nat) ({ cls := "CoinBoatsModel", name := "poolOf", desc := "(III)I" } : MethodName)) ∈ ai_tb := ai_wd8 209 rfl rfl
theorem wd_1891 : (Cond.instanceMethod ({ cls := "CoinBoatsModel", name := "poolOf", desc := "(III)I" } : MethodName)) ∈ ai_tb := ai_wd8 211 rfl rfl
theorem wp_119 : (Cond.selects "CoinBoatsModel" ({ cls := "CoinBoatsModel", name := "poolOf", desc := "(III)I" } : MethodName) ({ cls := "CoinBoatsModel", name := "poolOf", desc := "(III)I" } : MethodName)) ∈ ai_tb := ai_wdp (y := ({ cls := "CoinBoatsModel", name := "poolOf", desc := "(III)I" } : Jvm.MethodName)) 119 44 rfl
theorem wd_1885 : (Cond.methodLink "CoinBoatsModel" (420 : Nat) ({ cls := "CoinBoatsModel", name := "isPool", desc := "(III)Z" } : MethodName)) ∈ ai_tb := ai_wd8 205 rfl rfl
theorem wd_1887 : (Cond.instanceMethod ({ cls := "CoinBoatsModel", name := "isPool", desc := "(III)Z" } : MethodName)) ∈ ai_tb := ai_wd8 207 rfl rfl
theorem wp_118 : (Cond.selects "CoinBoatsModel" ({ cls := "CoinBoatsModel", name := "isPool", desc := "(III)Z" } : MethodName) ({ cls := "CoinBoatsModel", name := "isPool", desc := "(III)Z" } : MethodName)) ∈ ai_tb := ai_wdp (y := ({ cls := "CoinBoatsModel", name := "isPool", desc := "(III)Z" } : Jvm.MethodName)) 118 44 rfl
theorem wd_1897 : (Cond.methodLink "CoinBoatsModel" (423 : Nat) ({ cls := "CoinBoatsModel", name := "savedOf", desc := "(III)I" } : MethodName)) ∈ ai_tb := ai_wd8 217 rfl rfl
theorem wd_1899 : (Cond.instanceMethod ({ cls := "CoinBoatsModel", name := "savedOf", desc := "(III)I" } : MethodName)) ∈ ai_tb := ai_wd8 219 rfl rfl
theorem wp_120 : (Cond.selects "CoinBoatsModel" ({ cls := "CoinBoatsModel", name := "savedOf", desc := "(III)I" } : MethodName) ({ cls := "CoinBoatsModel", name := "savedOf", desc := "(III)I" } : MethodName)) ∈ ai_tb := ai_wdp (y := ({ cls := "CoinBoatsModel", name := "savedOf", desc := "(III)I" } : Jvm.MethodName)) 120 44 rfl
theorem wd_1909 : (Cond.methodLink "CoinBoatsModel" (426 : Nat) ({ cls := "CoinBoatsModel", name := "row", desc := "(IIII)I" } : MethodName)) ∈ ai_tb := ai_wd8 229 rfl rfl
theorem wd_1911 : (Cond.instanceMethod ({ cls := "CoinBoatsModel", name := "row", desc := "(IIII)I" } : MethodName)) ∈ ai_tb := ai_wd8 231 rfl rfl
theorem wp_121 : (Cond.selects "CoinBoatsModel" ({ cls := "CoinBoatsModel", name := "row", desc := "(IIII)I" } : MethodName) ({ cls := "CoinBoatsModel", name := "row", desc := "(IIII)I" } : MethodName)) ∈ ai_tb := ai_wdp (y := ({ cls := "CoinBoatsModel", name := "row", desc := "(IIII)I" } : Jvm.MethodName)) 121 44 rfl
theorem wd_1933 : (Cond.methodLink "CoinBoatsModel" (430 : Nat) ({ cls := "CoinBoatsModel", name := "isLive", desc := "(II)Z" } : MethodName)) ∈ ai_tb := ai_wd9 13 rfl rfl
theorem wd_1935 : (Cond.instanceMethod ({ cls := "CoinBoatsModel", name := "isLive", desc := "(II)Z" } : MethodName)) ∈ ai_tb := ai_wd9 15 rfl rfl
theorem wp_124 : (Cond.selects "CoinBoatsModel" ({ cls := "CoinBoatsModel", name := "isLive", desc := "(II)Z" } : MethodName) ({ cls := "CoinBoatsModel", name := "isLive", desc := "(II)Z" } : MethodName)) ∈ ai_tb := ai_wdp (y := ({ cls := "CoinBoatsModel", name := "isLive", desc := "(II)Z" } : Jvm.MethodName)) 124 44 rfl
theorem wd_1925 : (Cond.methodLink "CoinBoatsModel" (433 : Nat) ({ cls := "CoinBoatsModel", name := "isKnown", desc := "(I)Z" } : MethodName)) ∈ ai_tb := ai_wd9 5 rfl rfl
theorem wd_1927 : (Cond.instanceMethod ({ cls := "CoinBoatsModel", name := "isKnown", desc := "(I)Z" } : MethodName)) ∈ ai_tb := ai_wd9 7 rfl rfl
theorem wp_122 : (Cond.selects "CoinBoatsModel" ({ cls := "CoinBoatsModel", name := "isKnown", desc := "(I)Z" } : MethodName) ({ cls := "CoinBoatsModel", name := "isKnown", desc := "(I)Z" } : MethodName)) ∈ ai_tb := ai_wdp (y := ({ cls := "CoinBoatsModel", name := "isKnown", desc := "(I)Z" } : Jvm.MethodName)) 122 44 rfl
theorem wd_1929 : (Cond.methodLink "CoinBoatsModel" (436 : Nat) ({ cls := "CoinBoatsModel", name := "booked", desc := "(IIII)I" } : MethodName)) ∈ ai_tb := ai_wd9 9 rfl rfl
theorem wd_1931 : (Cond.instanceMethod ({ cls := "CoinBoatsModel", name := "booked", desc := "(IIII)I" } : MethodName)) ∈ ai_tb := ai_wd9 11 rfl rfl
theorem wp_123 : (Cond.selects "CoinBoatsModel" ({ cls := "CoinBoatsModel", name := "booked", desc := "(IIII)I" } : MethodName) ({ cls := "CoinBoatsModel", name := "booked", desc := "(IIII)I" } : MethodName)) ∈ ai_tb := ai_wdp (y := ({ cls := "CoinBoatsModel", name := "booked", desc := "(IIII)I" } : Jvm.MethodName)) 123 44 rfl
theorem wd_1937 : (Cond.constant "CoinBoatsModel" (439 : Nat) (-1000000 : Int32)) ∈ ai_tb := ai_wd9 17 rfl rfl
theorem wd_1946 : (Cond.methodLink "CoinBoatsModel" (440 : Nat) ({ cls := "CoinBoatsModel", name := "isJars", desc := "(III)Z" } : MethodName)) ∈ ai_tb := ai_wd9 26 rfl rfl
theorem wd_1948 : (Cond.instanceMethod ({ cls := "CoinBoatsModel", name := "isJars", desc := "(III)Z" } : MethodName)) ∈ ai_tb := ai_wd9 28 rfl rfl
theorem wp_125 : (Cond.selects "CoinBoatsModel" ({ cls := "CoinBoatsModel", name := "isJars", desc := "(III)Z" } : MethodName) ({ cls := "CoinBoatsModel", name := "isJars", desc := "(III)Z" } : MethodName)) ∈ ai_tb := ai_wdp (y := ({ cls := "CoinBoatsModel", name := "isJars", desc := "(III)Z" } : Jvm.MethodName)) 125 44 rfl
theorem wd_1950 : (Cond.methodLink "CoinBoatsModel" (443 : Nat) ({ cls := "CoinBoatsModel", name := "layBooks", desc := "(II)V" } : MethodName)) ∈ ai_tb := ai_wd9 30 rfl rfl
theorem wd_1952 : (Cond.instanceMethod ({ cls := "CoinBoatsModel", name := "layBooks", desc := "(II)V" } : MethodName)) ∈ ai_tb := ai_wd9 32 rfl rfl
theorem wp_126 : (Cond.selects "CoinBoatsModel" ({ cls := "CoinBoatsModel", name := "layBooks", desc := "(II)V" } : MethodName) ({ cls := "CoinBoatsModel", name := "layBooks", desc := "(II)V" } : MethodName)) ∈ ai_tb := ai_wdp (y := ({ cls := "CoinBoatsModel", name := "layBooks", desc := "(II)V" } : Jvm.MethodName)) 126 44 rfl
theorem wd_1954 : (Cond.methodLink "CoinBoatsModel" (446 : Nat) ({ cls := "CoinBoatsModel", name := "offBy", desc := "(III)I" } : MethodName)) ∈ ai_tb := ai_wd9 34 rfl rfl
theorem wd_1956 : (Cond.instanceMethod ({ cls := "CoinBoatsModel", name := "offBy", desc := "(III)I" } : MethodName)) ∈ ai_tb := ai_wd9 36 rfl rfl
theorem wp_127 : (Cond.selects "CoinBoatsModel" ({ cls := "CoinBoatsModel", name := "offBy", desc := "(III)I" } : MethodName) ({ cls := "CoinBoatsModel", name := "offBy", desc := "(III)I" } : MethodName)) ∈ ai_tb := ai_wdp (y := ({ cls := "CoinBoatsModel", name := "offBy", desc := "(III)I" } : Jvm.MethodName)) 127 44 rfl
theorem wd_1962 : (Cond.constant "CoinBoatsModel" (449 : Nat) (99999 : Int32)) ∈ ai_tb := ai_wd9 42 rfl rfl
theorem wd_1366 : (Cond.fieldLink "CoinBoatsModel" (450 : Nat) "CoinBoatsModel" "lookedAll" "I") ∈ ai_tb := ai_wd6 166 rfl rfl
theorem wd_1367 : (Cond.fieldLink "CoinBoatsModel" (453 : Nat) "CoinBoatsModel" "falseAll" "I") ∈ ai_tb := ai_wd6 167 rfl rfl
theorem wd_1975 : (Cond.methodLink "CoinBoatsModel" (456 : Nat) ({ cls := "CoinBoatsModel", name := "chosen", desc := "(II)J" } : MethodName)) ∈ ai_tb := ai_wd9 55 rfl rfl
theorem wd_1976 : (Cond.static ({ cls := "CoinBoatsModel", name := "chosen", desc := "(II)J" } : MethodName)) ∈ ai_tb := ai_wd9 56 rfl rfl
theorem wd_1967 : (Cond.methodLink "CoinBoatsModel" (460 : Nat) ({ cls := "CoinBoatsModel", name := "layFalse", desc := "(I)V" } : MethodName)) ∈ ai_tb := ai_wd9 47 rfl rfl
theorem wd_1969 : (Cond.instanceMethod ({ cls := "CoinBoatsModel", name := "layFalse", desc := "(I)V" } : MethodName)) ∈ ai_tb := ai_wd9 49 rfl rfl
theorem wp_128 : (Cond.selects "CoinBoatsModel" ({ cls := "CoinBoatsModel", name := "layFalse", desc := "(I)V" } : MethodName) ({ cls := "CoinBoatsModel", name := "layFalse", desc := "(I)V" } : MethodName)) ∈ ai_tb := ai_wdp (y := ({ cls := "CoinBoatsModel", name := "layFalse", desc := "(I)V" } : Jvm.MethodName)) 128 44 rfl
theorem wd_1971 : (Cond.methodLink "CoinBoatsModel" (463 : Nat) ({ cls := "CoinBoatsModel", name := "falseWays", desc := "(I)J" } : MethodName)) ∈ ai_tb := ai_wd9 51 rfl rfl
theorem wd_1973 : (Cond.instanceMethod ({ cls := "CoinBoatsModel", name := "falseWays", desc := "(I)J" } : MethodName)) ∈ ai_tb := ai_wd9 53 rfl rfl
theorem wp_129 : (Cond.selects "CoinBoatsModel" ({ cls := "CoinBoatsModel", name := "falseWays", desc := "(I)J" } : MethodName) ({ cls := "CoinBoatsModel", name := "falseWays", desc := "(I)J" } : MethodName)) ∈ ai_tb := ai_wdp (y := ({ cls := "CoinBoatsModel", name := "falseWays", desc := "(I)J" } : Jvm.MethodName)) 129 44 rfl
theorem wd_1978 : (Cond.methodLink "CoinBoatsModel" (467 : Nat) ({ cls := "CoinBoatsModel", name := "isLess", desc := "(JJJJ)Z" } : MethodName)) ∈ ai_tb := ai_wd9 58 rfl rfl
theorem wd_1979 : (Cond.static ({ cls := "CoinBoatsModel", name := "isLess", desc := "(JJJJ)Z" } : MethodName)) ∈ ai_tb := ai_wd9 59 rfl rfl
theorem wd_1985 : (Cond.constantLong "CoinBoatsModel" (471 : Nat) (-2 : Int64)) ∈ ai_tb := ai_wd9 65 rfl rfl
theorem wd_1990 : (Cond.methodLink "CoinBoatsModel" (473 : Nat) ({ cls := "CoinBoatsModel", name := "isTrickle", desc := "(III)Z" } : MethodName)) ∈ ai_tb := ai_wd9 70 rfl rfl
theorem wd_1991 : (Cond.static ({ cls := "CoinBoatsModel", name := "isTrickle", desc := "(III)Z" } : MethodName)) ∈ ai_tb := ai_wd9 71 rfl rfl
theorem wd_2005 : (Cond.methodLink "CoinBoatsModel" (476 : Nat) ({ cls := "CoinBoatsModel", name := "isCost", desc := "(I)Z" } : MethodName)) ∈ ai_tb := ai_wd9 85 rfl rfl
theorem wd_2006 : (Cond.static ({ cls := "CoinBoatsModel", name := "isCost", desc := "(I)Z" } : MethodName)) ∈ ai_tb := ai_wd9 86 rfl rfl
theorem wd_2008 : (Cond.constantLong "CoinBoatsModel" (479 : Nat) (100 : Int64)) ∈ ai_tb := ai_wd9 88 rfl rfl
theorem wd_1052 : (Cond.constant "java/lang/Integer" (265 : Nat) (1431655765 : Int32)) ∈ ai_tb := ai_wd5 92 rfl rfl
theorem wd_1053 : (Cond.constant "java/lang/Integer" (266 : Nat) (858993459 : Int32)) ∈ ai_tb := ai_wd5 93 rfl rfl
theorem wd_1054 : (Cond.constant "java/lang/Integer" (267 : Nat) (252645135 : Int32)) ∈ ai_tb := ai_wd5 94 rfl rfl
theorem wd_2013 : (Cond.fieldLink "java/lang/String" (9 : Nat) "java/lang/String" "value" "[B") ∈ ai_tb := ai_wd9 93 rfl rfl
theorem wd_468 : (Cond.methodLink "java/lang/String" (335 : Nat) ({ cls := "java/lang/String", name := "coder", desc := "()B" } : MethodName)) ∈ ai_tb := ai_wd2 228 rfl rfl
theorem wd_469 : (Cond.instanceMethod ({ cls := "java/lang/String", name := "coder", desc := "()B" } : MethodName)) ∈ ai_tb := ai_wd2 229 rfl rfl
theorem wd_470 : (Cond.selects "java/lang/String" ({ cls := "java/lang/String", name := "coder", desc := "()B" } : MethodName) ({ cls := "java/lang/String", name := "coder", desc := "()B" } : MethodName)) ∈ ai_tb := ai_wd2 230 rfl rfl
theorem wd_478 : (Cond.methodLink "java/lang/String" (492 : Nat) ({ cls := "java/lang/String", name := "isLatin1", desc := "()Z" } : MethodName)) ∈ ai_tb := ai_wd2 238 rfl rfl
theorem wd_479 : (Cond.instanceMethod ({ cls := "java/lang/String", name := "isLatin1", desc := "()Z" } : MethodName)) ∈ ai_tb := ai_wd2 239 rfl rfl
theorem wd_480 : (Cond.selects "java/lang/String" ({ cls := "java/lang/String", name := "isLatin1", desc := "()Z" } : MethodName) ({ cls := "java/lang/String", name := "isLatin1", desc := "()Z" } : MethodName)) ∈ ai_tb := ai_wd3 0 rfl rfl
theorem wd_482 : (Cond.methodLink "java/lang/String" (495 : Nat) ({ cls := "java/lang/StringLatin1", name := "charAt", desc := "([BI)C" } : MethodName)) ∈ ai_tb := ai_wd3 2 rfl rfl
theorem wd_483 : (Cond.static ({ cls := "java/lang/StringLatin1", name := "charAt", desc := "([BI)C" } : MethodName)) ∈ ai_tb := ai_wd3 3 rfl rfl
theorem wd_526 : (Cond.methodLink "java/lang/String" (633 : Nat) ({ cls := "java/lang/String", name := "indexOf", desc := "(II)I" } : MethodName)) ∈ ai_tb := ai_wd3 46 rfl rfl
theorem wd_527 : (Cond.instanceMethod ({ cls := "java/lang/String", name := "indexOf", desc := "(II)I" } : MethodName)) ∈ ai_tb := ai_wd3 47 rfl rfl
theorem wd_528 : (Cond.selects "java/lang/String" ({ cls := "java/lang/String", name := "indexOf", desc := "(II)I" } : MethodName) ({ cls := "java/lang/String", name := "indexOf", desc := "(II)I" } : MethodName)) ∈ ai_tb := ai_wd3 48 rfl rfl
theorem wd_530 : (Cond.methodLink "java/lang/String" (505 : Nat) ({ cls := "java/lang/String", name := "length", desc := "()I" } : MethodName)) ∈ ai_tb := ai_wd3 50 rfl rfl
theorem wd_531 : (Cond.methodLink "java/lang/String" (637 : Nat) ({ cls := "java/lang/StringLatin1", name := "indexOf", desc := "([BIII)I" } : MethodName)) ∈ ai_tb := ai_wd3 51 rfl rfl
theorem wd_532 : (Cond.static ({ cls := "java/lang/StringLatin1", name := "indexOf", desc := "([BIII)I" } : MethodName)) ∈ ai_tb := ai_wd3 52 rfl rfl
theorem wd_472 : (Cond.fieldLink "java/lang/String" (38 : Nat) "java/lang/String" "COMPACT_STRINGS" "Z") ∈ ai_tb := ai_wd2 232 rfl rfl
theorem wd_2014 : (Cond.fieldLink "java/lang/String" (15 : Nat) "java/lang/String" "coder" "B") ∈ ai_tb := ai_wd9 94 rfl rfl
theorem wd_488 : (Cond.fieldLink "java/lang/String" (1053 : Nat) "jdk/internal/util/Preconditions" "SIOOBE_FORMATTER" "Ljava/util/function/BiFunction;") ∈ ai_tb := ai_wd3 8 rfl rfl
theorem wd_490 : (Cond.methodLink "java/lang/String" (1059 : Nat) ({ cls := "jdk/internal/util/Preconditions", name := "checkIndex", desc := "(IILjava/util/function/BiFunction;)I" } : MethodName)) ∈ ai_tb := ai_wd3 10 rfl rfl
theorem wd_491 : (Cond.static ({ cls := "jdk/internal/util/Preconditions", name := "checkIndex", desc := "(IILjava/util/function/BiFunction;)I" } : MethodName)) ∈ ai_tb := ai_wd3 11 rfl rfl
theorem wd_485 : (Cond.methodLink "java/lang/StringLatin1" (9 : Nat) ({ cls := "java/lang/String", name := "checkIndex", desc := "(II)V" } : MethodName)) ∈ ai_tb := ai_wd3 5 rfl rfl
theorem wd_486 : (Cond.static ({ cls := "java/lang/String", name := "checkIndex", desc := "(II)V" } : MethodName)) ∈ ai_tb := ai_wd3 6 rfl rfl
theorem wd_534 : (Cond.methodLink "java/lang/StringLatin1" (88 : Nat) ({ cls := "java/lang/StringLatin1", name := "canEncode", desc := "(I)Z" } : MethodName)) ∈ ai_tb := ai_wd3 54 rfl rfl
theorem wd_535 : (Cond.static ({ cls := "java/lang/StringLatin1", name := "canEncode", desc := "(I)Z" } : MethodName)) ∈ ai_tb := ai_wd3 55 rfl rfl
theorem wd_537 : (Cond.methodLink "java/lang/StringLatin1" (92 : Nat) ({ cls := "java/lang/Math", name := "max", desc := "(II)I" } : MethodName)) ∈ ai_tb := ai_wd3 57 rfl rfl
theorem wd_538 : (Cond.methodLink "java/lang/StringLatin1" (38 : Nat) ({ cls := "java/lang/Math", name := "min", desc := "(II)I" } : MethodName)) ∈ ai_tb := ai_wd3 58 rfl rfl
theorem wd_539 : (Cond.methodLink "java/lang/StringLatin1" (95 : Nat) ({ cls := "java/lang/StringLatin1", name := "indexOfChar", desc := "([BIII)I" } : MethodName)) ∈ ai_tb := ai_wd3 59 rfl rfl
theorem wd_540 : (Cond.static ({ cls := "java/lang/StringLatin1", name := "indexOfChar", desc := "([BIII)I" } : MethodName)) ∈ ai_tb := ai_wd3 60 rfl rfl
theorem wd_21 : (Cond.classLink "CoinBoatsLaw" (7 : Nat) "CoinBoats") ∈ ai_tb := ai_wd1 21 rfl rfl
theorem wd_22 : (Cond.instantiable "CoinBoats" (13 : Nat)) ∈ ai_tb := ai_wd1 22 rfl rfl
theorem wd_1 : (Cond.initialized "CoinBoats") ∈ ai_tb := ai_wd1 1 rfl rfl
theorem wd_23 : (Cond.methodLink "CoinBoatsLaw" (9 : Nat) ({ cls := "CoinBoats", name := "<init>", desc := "()V" } : MethodName)) ∈ ai_tb := ai_wd1 23 rfl rfl
theorem wd_24 : (Cond.instanceMethod ({ cls := "CoinBoats", name := "<init>", desc := "()V" } : MethodName)) ∈ ai_tb := ai_wd1 24 rfl rfl
theorem wd_1319 : (Cond.classLink "CoinBoatsLaw" (10 : Nat) "CoinBoatsModel") ∈ ai_tb := ai_wd6 119 rfl rfl
theorem wd_1320 : (Cond.instantiable "CoinBoatsModel" (44 : Nat)) ∈ ai_tb := ai_wd6 120 rfl rfl
theorem wd_14 : (Cond.initialized "CoinBoatsModel") ∈ ai_tb := ai_wd1 14 rfl rfl
theorem wd_1321 : (Cond.methodLink "CoinBoatsLaw" (12 : Nat) ({ cls := "CoinBoatsModel", name := "<init>", desc := "()V" } : MethodName)) ∈ ai_tb := ai_wd6 121 rfl rfl
theorem wd_1322 : (Cond.instanceMethod ({ cls := "CoinBoatsModel", name := "<init>", desc := "()V" } : MethodName)) ∈ ai_tb := ai_wd6 122 rfl rfl
theorem wd_391 : (Cond.methodLink "CoinBoatsLaw" (13 : Nat) ({ cls := "CoinBoats", name := "feed", desc := "(IIIII)I" } : MethodName)) ∈ ai_tb := ai_wd2 151 rfl rfl
theorem wd_392 : (Cond.instanceMethod ({ cls := "CoinBoats", name := "feed", desc := "(IIIII)I" } : MethodName)) ∈ ai_tb := ai_wd2 152 rfl rfl
theorem wd_393 : (Cond.selects "CoinBoats" ({ cls := "CoinBoats", name := "feed", desc := "(IIIII)I" } : MethodName) ({ cls := "CoinBoats", name := "feed", desc := "(IIIII)I" } : MethodName)) ∈ ai_tb := ai_wd2 153 rfl rfl
theorem wd_1460 : (Cond.methodLink "CoinBoatsLaw" (17 : Nat) ({ cls := "CoinBoatsModel", name := "feed", desc := "(IIIII)I" } : MethodName)) ∈ ai_tb := ai_wd7 20 rfl rfl
theorem wd_1461 : (Cond.instanceMethod ({ cls := "CoinBoatsModel", name := "feed", desc := "(IIIII)I" } : MethodName)) ∈ ai_tb := ai_wd7 21 rfl rfl
theorem wd_1462 : (Cond.selects "CoinBoatsModel" ({ cls := "CoinBoatsModel", name := "feed", desc := "(IIIII)I" } : MethodName) ({ cls := "CoinBoatsModel", name := "feed", desc := "(IIIII)I" } : MethodName)) ∈ ai_tb := ai_wd7 22 rfl rfl
theorem wd_399 : (Cond.methodLink "CoinBoatsLaw" (18 : Nat) ({ cls := "CoinBoats", name := "back", desc := "(I)I" } : MethodName)) ∈ ai_tb := ai_wd2 159 rfl rfl
theorem wd_400 : (Cond.instanceMethod ({ cls := "CoinBoats", name := "back", desc := "(I)I" } : MethodName)) ∈ ai_tb := ai_wd2 160 rfl rfl
theorem wd_401 : (Cond.selects "CoinBoats" ({ cls := "CoinBoats", name := "back", desc := "(I)I" } : MethodName) ({ cls := "CoinBoats", name := "back", desc := "(I)I" } : MethodName)) ∈ ai_tb := ai_wd2 161 rfl rfl
theorem wd_1468 : (Cond.methodLink "CoinBoatsLaw" (22 : Nat) ({ cls := "CoinBoatsModel", name := "back", desc := "(I)I" } : MethodName)) ∈ ai_tb := ai_wd7 28 rfl rfl
theorem wd_1469 : (Cond.instanceMethod ({ cls := "CoinBoatsModel", name := "back", desc := "(I)I" } : MethodName)) ∈ ai_tb := ai_wd7 29 rfl rfl
theorem wd_1470 : (Cond.selects "CoinBoatsModel" ({ cls := "CoinBoatsModel", name := "back", desc := "(I)I" } : MethodName) ({ cls := "CoinBoatsModel", name := "back", desc := "(I)I" } : MethodName)) ∈ ai_tb := ai_wd7 30 rfl rfl
theorem wd_403 : (Cond.methodLink "CoinBoatsLaw" (23 : Nat) ({ cls := "CoinBoats", name := "read", desc := "()I" } : MethodName)) ∈ ai_tb := ai_wd2 163 rfl rfl
theorem wd_404 : (Cond.instanceMethod ({ cls := "CoinBoats", name := "read", desc := "()I" } : MethodName)) ∈ ai_tb := ai_wd2 164 rfl rfl
theorem wd_405 : (Cond.selects "CoinBoats" ({ cls := "CoinBoats", name := "read", desc := "()I" } : MethodName) ({ cls := "CoinBoats", name := "read", desc := "()I" } : MethodName)) ∈ ai_tb := ai_wd2 165 rfl rfl
theorem wd_1472 : (Cond.methodLink "CoinBoatsLaw" (27 : Nat) ({ cls := "CoinBoatsModel", name := "read", desc := "()I" } : MethodName)) ∈ ai_tb := ai_wd7 32 rfl rfl
theorem wd_1473 : (Cond.instanceMethod ({ cls := "CoinBoatsModel", name := "read", desc := "()I" } : MethodName)) ∈ ai_tb := ai_wd7 33 rfl rfl
theorem wd_1474 : (Cond.selects "CoinBoatsModel" ({ cls := "CoinBoatsModel", name := "read", desc := "()I" } : MethodName) ({ cls := "CoinBoatsModel", name := "read", desc := "()I" } : MethodName)) ∈ ai_tb := ai_wd7 34 rfl rfl
theorem wd_737 : (Cond.methodLink "CoinBoatsLaw" (28 : Nat) ({ cls := "CoinBoats", name := "place", desc := "()I" } : MethodName)) ∈ ai_tb := ai_wd4 17 rfl rfl
theorem wd_738 : (Cond.instanceMethod ({ cls := "CoinBoats", name := "place", desc := "()I" } : MethodName)) ∈ ai_tb := ai_wd4 18 rfl rfl
theorem wd_739 : (Cond.selects "CoinBoats" ({ cls := "CoinBoats", name := "place", desc := "()I" } : MethodName) ({ cls := "CoinBoats", name := "place", desc := "()I" } : MethodName)) ∈ ai_tb := ai_wd4 19 rfl rfl
theorem wd_1633 : (Cond.methodLink "CoinBoatsLaw" (31 : Nat) ({ cls := "CoinBoatsModel", name := "place", desc := "()I" } : MethodName)) ∈ ai_tb := ai_wd7 193 rfl rfl
theorem wd_1634 : (Cond.instanceMethod ({ cls := "CoinBoatsModel", name := "place", desc := "()I" } : MethodName)) ∈ ai_tb := ai_wd7 194 rfl rfl
theorem wd_1635 : (Cond.selects "CoinBoatsModel" ({ cls := "CoinBoatsModel", name := "place", desc := "()I" } : MethodName) ({ cls := "CoinBoatsModel", name := "place", desc := "()I" } : MethodName)) ∈ ai_tb := ai_wd7 195 rfl rfl
theorem wd_741 : (Cond.methodLink "CoinBoatsLaw" (32 : Nat) ({ cls := "CoinBoats", name := "kind", desc := "(II)I" } : MethodName)) ∈ ai_tb := ai_wd4 21 rfl rfl
theorem wd_742 : (Cond.instanceMethod ({ cls := "CoinBoats", name := "kind", desc := "(II)I" } : MethodName)) ∈ ai_tb := ai_wd4 22 rfl rfl
theorem wd_743 : (Cond.selects "CoinBoats" ({ cls := "CoinBoats", name := "kind", desc := "(II)I" } : MethodName) ({ cls := "CoinBoats", name := "kind", desc := "(II)I" } : MethodName)) ∈ ai_tb := ai_wd4 23 rfl rfl
theorem wd_1645 : (Cond.methodLink "CoinBoatsLaw" (36 : Nat) ({ cls := "CoinBoatsModel", name := "kind", desc := "(II)I" } : MethodName)) ∈ ai_tb := ai_wd7 205 rfl rfl
theorem wd_1646 : (Cond.instanceMethod ({ cls := "CoinBoatsModel", name := "kind", desc := "(II)I" } : MethodName)) ∈ ai_tb := ai_wd7 206 rfl rfl
theorem wd_1647 : (Cond.selects "CoinBoatsModel" ({ cls := "CoinBoatsModel", name := "kind", desc := "(II)I" } : MethodName) ({ cls := "CoinBoatsModel", name := "kind", desc := "(II)I" } : MethodName)) ∈ ai_tb := ai_wd7 207 rfl rfl
theorem wd_753 : (Cond.methodLink "CoinBoatsLaw" (37 : Nat) ({ cls := "CoinBoats", name := "island", desc := "(II)I" } : MethodName)) ∈ ai_tb := ai_wd4 33 rfl rfl
theorem wd_754 : (Cond.instanceMethod ({ cls := "CoinBoats", name := "island", desc := "(II)I" } : MethodName)) ∈ ai_tb := ai_wd4 34 rfl rfl
theorem wd_755 : (Cond.selects "CoinBoats" ({ cls := "CoinBoats", name := "island", desc := "(II)I" } : MethodName) ({ cls := "CoinBoats", name := "island", desc := "(II)I" } : MethodName)) ∈ ai_tb := ai_wd4 35 rfl rfl
theorem wd_1656 : (Cond.methodLink "CoinBoatsLaw" (40 : Nat) ({ cls := "CoinBoatsModel", name := "island", desc := "(II)I" } : MethodName)) ∈ ai_tb := ai_wd7 216 rfl rfl
theorem wd_1657 : (Cond.instanceMethod ({ cls := "CoinBoatsModel", name := "island", desc := "(II)I" } : MethodName)) ∈ ai_tb := ai_wd7 217 rfl rfl
theorem wd_1658 : (Cond.selects "CoinBoatsModel" ({ cls := "CoinBoatsModel", name := "island", desc := "(II)I" } : MethodName) ({ cls := "CoinBoatsModel", name := "island", desc := "(II)I" } : MethodName)) ∈ ai_tb := ai_wd7 218 rfl rfl
theorem wd_761 : (Cond.methodLink "CoinBoatsLaw" (41 : Nat) ({ cls := "CoinBoats", name := "boat", desc := "(II)I" } : MethodName)) ∈ ai_tb := ai_wd4 41 rfl rfl
theorem wd_762 : (Cond.instanceMethod ({ cls := "CoinBoats", name := "boat", desc := "(II)I" } : MethodName)) ∈ ai_tb := ai_wd4 42 rfl rfl
theorem wd_763 : (Cond.selects "CoinBoats" ({ cls := "CoinBoats", name := "boat", desc := "(II)I" } : MethodName) ({ cls := "CoinBoats", name := "boat", desc := "(II)I" } : MethodName)) ∈ ai_tb := ai_wd4 43 rfl rfl
theorem wd_1664 : (Cond.methodLink "CoinBoatsLaw" (44 : Nat) ({ cls := "CoinBoatsModel", name := "boat", desc := "(II)I" } : MethodName)) ∈ ai_tb := ai_wd7 224 rfl rfl
theorem wd_1665 : (Cond.instanceMethod ({ cls := "CoinBoatsModel", name := "boat", desc := "(II)I" } : MethodName)) ∈ ai_tb := ai_wd7 225 rfl rfl
theorem wd_1666 : (Cond.selects "CoinBoatsModel" ({ cls := "CoinBoatsModel", name := "boat", desc := "(II)I" } : MethodName) ({ cls := "CoinBoatsModel", name := "boat", desc := "(II)I" } : MethodName)) ∈ ai_tb := ai_wd7 226 rfl rfl
theorem wd_769 : (Cond.methodLink "CoinBoatsLaw" (45 : Nat) ({ cls := "CoinBoats", name := "want", desc := "(III)I" } : MethodName)) ∈ ai_tb := ai_wd4 49 rfl rfl
theorem wd_770 : (Cond.instanceMethod ({ cls := "CoinBoats", name := "want", desc := "(III)I" } : MethodName)) ∈ ai_tb := ai_wd4 50 rfl rfl
theorem wd_771 : (Cond.selects "CoinBoats" ({ cls := "CoinBoats", name := "want", desc := "(III)I" } : MethodName) ({ cls := "CoinBoats", name := "want", desc := "(III)I" } : MethodName)) ∈ ai_tb := ai_wd4 51 rfl rfl
theorem wd_1672 : (Cond.methodLink "CoinBoatsLaw" (49 : Nat) ({ cls := "CoinBoatsModel", name := "want", desc := "(III)I" } : MethodName)) ∈ ai_tb := ai_wd7 232 rfl rfl
theorem wd_1673 : (Cond.instanceMethod ({ cls := "CoinBoatsModel", name := "want", desc := "(III)I" } : MethodName)) ∈ ai_tb := ai_wd7 233 rfl rfl
theorem wd_1674 : (Cond.selects "CoinBoatsModel" ({ cls := "CoinBoatsModel", name := "want", desc := "(III)I" } : MethodName) ({ cls := "CoinBoatsModel", name := "want", desc := "(III)I" } : MethodName)) ∈ ai_tb := ai_wd7 234 rfl rfl
theorem wd_806 : (Cond.methodLink "CoinBoatsLaw" (50 : Nat) ({ cls := "CoinBoats", name := "strike", desc := "(II)I" } : MethodName)) ∈ ai_tb := ai_wd4 86 rfl rfl
theorem wd_807 : (Cond.instanceMethod ({ cls := "CoinBoats", name := "strike", desc := "(II)I" } : MethodName)) ∈ ai_tb := ai_wd4 87 rfl rfl
theorem wd_808 : (Cond.selects "CoinBoats" ({ cls := "CoinBoats", name := "strike", desc := "(II)I" } : MethodName) ({ cls := "CoinBoats", name := "strike", desc := "(II)I" } : MethodName)) ∈ ai_tb := ai_wd4 88 rfl rfl
theorem wd_1694 : (Cond.methodLink "CoinBoatsLaw" (53 : Nat) ({ cls := "CoinBoatsModel", name := "strike", desc := "(II)I" } : MethodName)) ∈ ai_tb := ai_wd8 14 rfl rfl
theorem wd_1695 : (Cond.instanceMethod ({ cls := "CoinBoatsModel", name := "strike", desc := "(II)I" } : MethodName)) ∈ ai_tb := ai_wd8 15 rfl rfl
theorem wd_1696 : (Cond.selects "CoinBoatsModel" ({ cls := "CoinBoatsModel", name := "strike", desc := "(II)I" } : MethodName) ({ cls := "CoinBoatsModel", name := "strike", desc := "(II)I" } : MethodName)) ∈ ai_tb := ai_wd8 16 rfl rfl
theorem wd_829 : (Cond.methodLink "CoinBoatsLaw" (54 : Nat) ({ cls := "CoinBoats", name := "burn", desc := "(II)I" } : MethodName)) ∈ ai_tb := ai_wd4 109 rfl rfl
theorem wd_830 : (Cond.instanceMethod ({ cls := "CoinBoats", name := "burn", desc := "(II)I" } : MethodName)) ∈ ai_tb := ai_wd4 110 rfl rfl
theorem wd_831 : (Cond.selects "CoinBoats" ({ cls := "CoinBoats", name := "burn", desc := "(II)I" } : MethodName) ({ cls := "CoinBoats", name := "burn", desc := "(II)I" } : MethodName)) ∈ ai_tb := ai_wd4 111 rfl rfl
theorem wd_1706 : (Cond.methodLink "CoinBoatsLaw" (57 : Nat) ({ cls := "CoinBoatsModel", name := "burn", desc := "(II)I" } : MethodName)) ∈ ai_tb := ai_wd8 26 rfl rfl
theorem wd_1707 : (Cond.instanceMethod ({ cls := "CoinBoatsModel", name := "burn", desc := "(II)I" } : MethodName)) ∈ ai_tb := ai_wd8 27 rfl rfl
theorem wd_1708 : (Cond.selects "CoinBoatsModel" ({ cls := "CoinBoatsModel", name := "burn", desc := "(II)I" } : MethodName) ({ cls := "CoinBoatsModel", name := "burn", desc := "(II)I" } : MethodName)) ∈ ai_tb := ai_wd8 28 rfl rfl
theorem wd_833 : (Cond.methodLink "CoinBoatsLaw" (58 : Nat) ({ cls := "CoinBoats", name := "lay", desc := "(IIII)I" } : MethodName)) ∈ ai_tb := ai_wd4 113 rfl rfl
theorem wd_834 : (Cond.instanceMethod ({ cls := "CoinBoats", name := "lay", desc := "(IIII)I" } : MethodName)) ∈ ai_tb := ai_wd4 114 rfl rfl
theorem wd_835 : (Cond.selects "CoinBoats" ({ cls := "CoinBoats", name := "lay", desc := "(IIII)I" } : MethodName) ({ cls := "CoinBoats", name := "lay", desc := "(IIII)I" } : MethodName)) ∈ ai_tb := ai_wd4 115 rfl rfl
theorem wd_1710 : (Cond.methodLink "CoinBoatsLaw" (62 : Nat) ({ cls := "CoinBoatsModel", name := "lay", desc := "(IIII)I" } : MethodName)) ∈ ai_tb := ai_wd8 30 rfl rfl
theorem wd_1711 : (Cond.instanceMethod ({ cls := "CoinBoatsModel", name := "lay", desc := "(IIII)I" } : MethodName)) ∈ ai_tb := ai_wd8 31 rfl rfl
theorem wd_1712 : (Cond.selects "CoinBoatsModel" ({ cls := "CoinBoatsModel", name := "lay", desc := "(IIII)I" } : MethodName) ({ cls := "CoinBoatsModel", name := "lay", desc := "(IIII)I" } : MethodName)) ∈ ai_tb := ai_wd8 32 rfl rfl
theorem wd_841 : (Cond.methodLink "CoinBoatsLaw" (63 : Nat) ({ cls := "CoinBoats", name := "has", desc := "(III)I" } : MethodName)) ∈ ai_tb := ai_wd4 121 rfl rfl
theorem wd_842 : (Cond.instanceMethod ({ cls := "CoinBoats", name := "has", desc := "(III)I" } : MethodName)) ∈ ai_tb := ai_wd4 122 rfl rfl
theorem wd_843 : (Cond.selects "CoinBoats" ({ cls := "CoinBoats", name := "has", desc := "(III)I" } : MethodName) ({ cls := "CoinBoats", name := "has", desc := "(III)I" } : MethodName)) ∈ ai_tb := ai_wd4 123 rfl rfl
theorem wd_1718 : (Cond.methodLink "CoinBoatsLaw" (66 : Nat) ({ cls := "CoinBoatsModel", name := "has", desc := "(III)I" } : MethodName)) ∈ ai_tb := ai_wd8 38 rfl rfl
theorem wd_1719 : (Cond.instanceMethod ({ cls := "CoinBoatsModel", name := "has", desc := "(III)I" } : MethodName)) ∈ ai_tb := ai_wd8 39 rfl rfl
theorem wd_1720 : (Cond.selects "CoinBoatsModel" ({ cls := "CoinBoatsModel", name := "has", desc := "(III)I" } : MethodName) ({ cls := "CoinBoatsModel", name := "has", desc := "(III)I" } : MethodName)) ∈ ai_tb := ai_wd8 40 rfl rfl
theorem wd_845 : (Cond.methodLink "CoinBoatsLaw" (67 : Nat) ({ cls := "CoinBoats", name := "send", desc := "(IIIIZ)I" } : MethodName)) ∈ ai_tb := ai_wd4 125 rfl rfl
theorem wd_846 : (Cond.instanceMethod ({ cls := "CoinBoats", name := "send", desc := "(IIIIZ)I" } : MethodName)) ∈ ai_tb := ai_wd4 126 rfl rfl
theorem wd_847 : (Cond.selects "CoinBoats" ({ cls := "CoinBoats", name := "send", desc := "(IIIIZ)I" } : MethodName) ({ cls := "CoinBoats", name := "send", desc := "(IIIIZ)I" } : MethodName)) ∈ ai_tb := ai_wd4 127 rfl rfl
theorem wd_1722 : (Cond.methodLink "CoinBoatsLaw" (71 : Nat) ({ cls := "CoinBoatsModel", name := "send", desc := "(IIIIZ)I" } : MethodName)) ∈ ai_tb := ai_wd8 42 rfl rfl
theorem wd_1723 : (Cond.instanceMethod ({ cls := "CoinBoatsModel", name := "send", desc := "(IIIIZ)I" } : MethodName)) ∈ ai_tb := ai_wd8 43 rfl rfl
theorem wd_1724 : (Cond.selects "CoinBoatsModel" ({ cls := "CoinBoatsModel", name := "send", desc := "(IIIIZ)I" } : MethodName) ({ cls := "CoinBoatsModel", name := "send", desc := "(IIIIZ)I" } : MethodName)) ∈ ai_tb := ai_wd8 44 rfl rfl
theorem wd_852 : (Cond.methodLink "CoinBoatsLaw" (72 : Nat) ({ cls := "CoinBoats", name := "done", desc := "(I)I" } : MethodName)) ∈ ai_tb := ai_wd4 132 rfl rfl
theorem wd_853 : (Cond.instanceMethod ({ cls := "CoinBoats", name := "done", desc := "(I)I" } : MethodName)) ∈ ai_tb := ai_wd4 133 rfl rfl
theorem wd_854 : (Cond.selects "CoinBoats" ({ cls := "CoinBoats", name := "done", desc := "(I)I" } : MethodName) ({ cls := "CoinBoats", name := "done", desc := "(I)I" } : MethodName)) ∈ ai_tb := ai_wd4 134 rfl rfl
theorem wd_1726 : (Cond.methodLink "CoinBoatsLaw" (75 : Nat) ({ cls := "CoinBoatsModel", name := "done", desc := "(I)I" } : MethodName)) ∈ ai_tb := ai_wd8 46 rfl rfl
theorem wd_1727 : (Cond.instanceMethod ({ cls := "CoinBoatsModel", name := "done", desc := "(I)I" } : MethodName)) ∈ ai_tb := ai_wd8 47 rfl rfl
theorem wd_1728 : (Cond.selects "CoinBoatsModel" ({ cls := "CoinBoatsModel", name := "done", desc := "(I)I" } : MethodName) ({ cls := "CoinBoatsModel", name := "done", desc := "(I)I" } : MethodName)) ∈ ai_tb := ai_wd8 48 rfl rfl
theorem wd_857 : (Cond.methodLink "CoinBoatsLaw" (76 : Nat) ({ cls := "CoinBoats", name := "judge", desc := "()I" } : MethodName)) ∈ ai_tb := ai_wd4 137 rfl rfl
theorem wd_858 : (Cond.instanceMethod ({ cls := "CoinBoats", name := "judge", desc := "()I" } : MethodName)) ∈ ai_tb := ai_wd4 138 rfl rfl
theorem wd_859 : (Cond.selects "CoinBoats" ({ cls := "CoinBoats", name := "judge", desc := "()I" } : MethodName) ({ cls := "CoinBoats", name := "judge", desc := "()I" } : MethodName)) ∈ ai_tb := ai_wd4 139 rfl rfl
theorem wd_1730 : (Cond.methodLink "CoinBoatsLaw" (79 : Nat) ({ cls := "CoinBoatsModel", name := "judge", desc := "()I" } : MethodName)) ∈ ai_tb := ai_wd8 50 rfl rfl
theorem wd_1731 : (Cond.instanceMethod ({ cls := "CoinBoatsModel", name := "judge", desc := "()I" } : MethodName)) ∈ ai_tb := ai_wd8 51 rfl rfl
theorem wd_1732 : (Cond.selects "CoinBoatsModel" ({ cls := "CoinBoatsModel", name := "judge", desc := "()I" } : MethodName) ({ cls := "CoinBoatsModel", name := "judge", desc := "()I" } : MethodName)) ∈ ai_tb := ai_wd8 52 rfl rfl
theorem wd_908 : (Cond.methodLink "CoinBoatsLaw" (80 : Nat) ({ cls := "CoinBoats", name := "why", desc := "()I" } : MethodName)) ∈ ai_tb := ai_wd4 188 rfl rfl
theorem wd_909 : (Cond.instanceMethod ({ cls := "CoinBoats", name := "why", desc := "()I" } : MethodName)) ∈ ai_tb := ai_wd4 189 rfl rfl
theorem wd_910 : (Cond.selects "CoinBoats" ({ cls := "CoinBoats", name := "why", desc := "()I" } : MethodName) ({ cls := "CoinBoats", name := "why", desc := "()I" } : MethodName)) ∈ ai_tb := ai_wd4 190 rfl rfl
theorem wd_1746 : (Cond.methodLink "CoinBoatsLaw" (83 : Nat) ({ cls := "CoinBoatsModel", name := "why", desc := "()I" } : MethodName)) ∈ ai_tb := ai_wd8 66 rfl rfl
theorem wd_1747 : (Cond.instanceMethod ({ cls := "CoinBoatsModel", name := "why", desc := "()I" } : MethodName)) ∈ ai_tb := ai_wd8 67 rfl rfl
theorem wd_1748 : (Cond.selects "CoinBoatsModel" ({ cls := "CoinBoatsModel", name := "why", desc := "()I" } : MethodName) ({ cls := "CoinBoatsModel", name := "why", desc := "()I" } : MethodName)) ∈ ai_tb := ai_wd8 68 rfl rfl
theorem wd_916 : (Cond.methodLink "CoinBoatsLaw" (84 : Nat) ({ cls := "CoinBoats", name := "months", desc := "(II)I" } : MethodName)) ∈ ai_tb := ai_wd4 196 rfl rfl
theorem wd_917 : (Cond.instanceMethod ({ cls := "CoinBoats", name := "months", desc := "(II)I" } : MethodName)) ∈ ai_tb := ai_wd4 197 rfl rfl
theorem wd_918 : (Cond.selects "CoinBoats" ({ cls := "CoinBoats", name := "months", desc := "(II)I" } : MethodName) ({ cls := "CoinBoats", name := "months", desc := "(II)I" } : MethodName)) ∈ ai_tb := ai_wd4 198 rfl rfl
theorem wd_1750 : (Cond.methodLink "CoinBoatsLaw" (87 : Nat) ({ cls := "CoinBoatsModel", name := "months", desc := "(II)I" } : MethodName)) ∈ ai_tb := ai_wd8 70 rfl rfl
theorem wd_1751 : (Cond.instanceMethod ({ cls := "CoinBoatsModel", name := "months", desc := "(II)I" } : MethodName)) ∈ ai_tb := ai_wd8 71 rfl rfl
theorem wd_1752 : (Cond.selects "CoinBoatsModel" ({ cls := "CoinBoatsModel", name := "months", desc := "(II)I" } : MethodName) ({ cls := "CoinBoatsModel", name := "months", desc := "(II)I" } : MethodName)) ∈ ai_tb := ai_wd8 72 rfl rfl
theorem wd_956 : (Cond.methodLink "CoinBoatsLaw" (88 : Nat) ({ cls := "CoinBoats", name := "lacks", desc := "(II)I" } : MethodName)) ∈ ai_tb := ai_wd4 236 rfl rfl
theorem wd_957 : (Cond.instanceMethod ({ cls := "CoinBoats", name := "lacks", desc := "(II)I" } : MethodName)) ∈ ai_tb := ai_wd4 237 rfl rfl
theorem wd_958 : (Cond.selects "CoinBoats" ({ cls := "CoinBoats", name := "lacks", desc := "(II)I" } : MethodName) ({ cls := "CoinBoats", name := "lacks", desc := "(II)I" } : MethodName)) ∈ ai_tb := ai_wd4 238 rfl rfl
theorem wd_1797 : (Cond.methodLink "CoinBoatsLaw" (91 : Nat) ({ cls := "CoinBoatsModel", name := "lacks", desc := "(II)I" } : MethodName)) ∈ ai_tb := ai_wd8 117 rfl rfl
theorem wd_1798 : (Cond.instanceMethod ({ cls := "CoinBoatsModel", name := "lacks", desc := "(II)I" } : MethodName)) ∈ ai_tb := ai_wd8 118 rfl rfl
theorem wd_1799 : (Cond.selects "CoinBoatsModel" ({ cls := "CoinBoatsModel", name := "lacks", desc := "(II)I" } : MethodName) ({ cls := "CoinBoatsModel", name := "lacks", desc := "(II)I" } : MethodName)) ∈ ai_tb := ai_wd8 119 rfl rfl
theorem wd_960 : (Cond.methodLink "CoinBoatsLaw" (92 : Nat) ({ cls := "CoinBoats", name := "spent", desc := "(I)J" } : MethodName)) ∈ ai_tb := ai_wd5 0 rfl rfl
theorem wd_961 : (Cond.instanceMethod ({ cls := "CoinBoats", name := "spent", desc := "(I)J" } : MethodName)) ∈ ai_tb := ai_wd5 1 rfl rfl
theorem wd_962 : (Cond.selects "CoinBoats" ({ cls := "CoinBoats", name := "spent", desc := "(I)J" } : MethodName) ({ cls := "CoinBoats", name := "spent", desc := "(I)J" } : MethodName)) ∈ ai_tb := ai_wd5 2 rfl rfl
theorem wd_1801 : (Cond.methodLink "CoinBoatsLaw" (96 : Nat) ({ cls := "CoinBoatsModel", name := "spent", desc := "(I)J" } : MethodName)) ∈ ai_tb := ai_wd8 121 rfl rfl
theorem wd_1802 : (Cond.instanceMethod ({ cls := "CoinBoatsModel", name := "spent", desc := "(I)J" } : MethodName)) ∈ ai_tb := ai_wd8 122 rfl rfl
theorem wd_1803 : (Cond.selects "CoinBoatsModel" ({ cls := "CoinBoatsModel", name := "spent", desc := "(I)J" } : MethodName) ({ cls := "CoinBoatsModel", name := "spent", desc := "(I)J" } : MethodName)) ∈ ai_tb := ai_wd8 123 rfl rfl
theorem wd_965 : (Cond.methodLink "CoinBoatsLaw" (97 : Nat) ({ cls := "CoinBoats", name := "pay", desc := "(III)I" } : MethodName)) ∈ ai_tb := ai_wd5 5 rfl rfl
theorem wd_966 : (Cond.instanceMethod ({ cls := "CoinBoats", name := "pay", desc := "(III)I" } : MethodName)) ∈ ai_tb := ai_wd5 6 rfl rfl
theorem wd_967 : (Cond.selects "CoinBoats" ({ cls := "CoinBoats", name := "pay", desc := "(III)I" } : MethodName) ({ cls := "CoinBoats", name := "pay", desc := "(III)I" } : MethodName)) ∈ ai_tb := ai_wd5 7 rfl rfl
theorem wd_1806 : (Cond.methodLink "CoinBoatsLaw" (100 : Nat) ({ cls := "CoinBoatsModel", name := "pay", desc := "(III)I" } : MethodName)) ∈ ai_tb := ai_wd8 126 rfl rfl
theorem wd_1807 : (Cond.instanceMethod ({ cls := "CoinBoatsModel", name := "pay", desc := "(III)I" } : MethodName)) ∈ ai_tb := ai_wd8 127 rfl rfl
theorem wd_1808 : (Cond.selects "CoinBoatsModel" ({ cls := "CoinBoatsModel", name := "pay", desc := "(III)I" } : MethodName) ({ cls := "CoinBoatsModel", name := "pay", desc := "(III)I" } : MethodName)) ∈ ai_tb := ai_wd8 128 rfl rfl
theorem wd_1017 : (Cond.methodLink "CoinBoatsLaw" (101 : Nat) ({ cls := "CoinBoats", name := "change", desc := "(IIII)I" } : MethodName)) ∈ ai_tb := ai_wd5 57 rfl rfl
theorem wd_1018 : (Cond.instanceMethod ({ cls := "CoinBoats", name := "change", desc := "(IIII)I" } : MethodName)) ∈ ai_tb := ai_wd5 58 rfl rfl
theorem wd_1019 : (Cond.selects "CoinBoats" ({ cls := "CoinBoats", name := "change", desc := "(IIII)I" } : MethodName) ({ cls := "CoinBoats", name := "change", desc := "(IIII)I" } : MethodName)) ∈ ai_tb := ai_wd5 59 rfl rfl
theorem wd_1831 : (Cond.methodLink "CoinBoatsLaw" (104 : Nat) ({ cls := "CoinBoatsModel", name := "change", desc := "(IIII)I" } : MethodName)) ∈ ai_tb := ai_wd8 151 rfl rfl
theorem wd_1832 : (Cond.instanceMethod ({ cls := "CoinBoatsModel", name := "change", desc := "(IIII)I" } : MethodName)) ∈ ai_tb := ai_wd8 152 rfl rfl
theorem wd_1833 : (Cond.selects "CoinBoatsModel" ({ cls := "CoinBoatsModel", name := "change", desc := "(IIII)I" } : MethodName) ({ cls := "CoinBoatsModel", name := "change", desc := "(IIII)I" } : MethodName)) ∈ ai_tb := ai_wd8 153 rfl rfl
theorem wd_1033 : (Cond.methodLink "CoinBoatsLaw" (105 : Nat) ({ cls := "CoinBoats", name := "which", desc := "(II)I" } : MethodName)) ∈ ai_tb := ai_wd5 73 rfl rfl
theorem wd_1835 : (Cond.methodLink "CoinBoatsLaw" (108 : Nat) ({ cls := "CoinBoatsModel", name := "which", desc := "(II)I" } : MethodName)) ∈ ai_tb := ai_wd8 155 rfl rfl
theorem wd_1836 : (Cond.instanceMethod ({ cls := "CoinBoatsModel", name := "which", desc := "(II)I" } : MethodName)) ∈ ai_tb := ai_wd8 156 rfl rfl
theorem wd_1837 : (Cond.selects "CoinBoatsModel" ({ cls := "CoinBoatsModel", name := "which", desc := "(II)I" } : MethodName) ({ cls := "CoinBoatsModel", name := "which", desc := "(II)I" } : MethodName)) ∈ ai_tb := ai_wd8 157 rfl rfl
theorem wd_1055 : (Cond.methodLink "CoinBoatsLaw" (109 : Nat) ({ cls := "CoinBoats", name := "whichSum", desc := "(II)I" } : MethodName)) ∈ ai_tb := ai_wd5 95 rfl rfl
theorem wd_1056 : (Cond.instanceMethod ({ cls := "CoinBoats", name := "whichSum", desc := "(II)I" } : MethodName)) ∈ ai_tb := ai_wd5 96 rfl rfl
theorem wd_1057 : (Cond.selects "CoinBoats" ({ cls := "CoinBoats", name := "whichSum", desc := "(II)I" } : MethodName) ({ cls := "CoinBoats", name := "whichSum", desc := "(II)I" } : MethodName)) ∈ ai_tb := ai_wd5 97 rfl rfl
theorem wd_1850 : (Cond.methodLink "CoinBoatsLaw" (112 : Nat) ({ cls := "CoinBoatsModel", name := "whichSum", desc := "(II)I" } : MethodName)) ∈ ai_tb := ai_wd8 170 rfl rfl
theorem wd_1851 : (Cond.instanceMethod ({ cls := "CoinBoatsModel", name := "whichSum", desc := "(II)I" } : MethodName)) ∈ ai_tb := ai_wd8 171 rfl rfl
theorem wd_1852 : (Cond.selects "CoinBoatsModel" ({ cls := "CoinBoatsModel", name := "whichSum", desc := "(II)I" } : MethodName) ({ cls := "CoinBoatsModel", name := "whichSum", desc := "(II)I" } : MethodName)) ∈ ai_tb := ai_wd8 172 rfl rfl
theorem wd_1061 : (Cond.methodLink "CoinBoatsLaw" (113 : Nat) ({ cls := "CoinBoats", name := "least", desc := "(IIIIII)J" } : MethodName)) ∈ ai_tb := ai_wd5 101 rfl rfl
theorem wd_1062 : (Cond.instanceMethod ({ cls := "CoinBoats", name := "least", desc := "(IIIIII)J" } : MethodName)) ∈ ai_tb := ai_wd5 102 rfl rfl
theorem wd_1063 : (Cond.selects "CoinBoats" ({ cls := "CoinBoats", name := "least", desc := "(IIIIII)J" } : MethodName) ({ cls := "CoinBoats", name := "least", desc := "(IIIIII)J" } : MethodName)) ∈ ai_tb := ai_wd5 103 rfl rfl
theorem wd_1854 : (Cond.methodLink "CoinBoatsLaw" (117 : Nat) ({ cls := "CoinBoatsModel", name := "least", desc := "(IIIIII)J" } : MethodName)) ∈ ai_tb := ai_wd8 174 rfl rfl
theorem wd_1855 : (Cond.instanceMethod ({ cls := "CoinBoatsModel", name := "least", desc := "(IIIIII)J" } : MethodName)) ∈ ai_tb := ai_wd8 175 rfl rfl
theorem wd_1856 : (Cond.selects "CoinBoatsModel" ({ cls := "CoinBoatsModel", name := "least", desc := "(IIIIII)J" } : MethodName) ({ cls := "CoinBoatsModel", name := "least", desc := "(IIIIII)J" } : MethodName)) ∈ ai_tb := ai_wd8 176 rfl rfl
theorem wd_1095 : (Cond.methodLink "CoinBoatsLaw" (118 : Nat) ({ cls := "CoinBoats", name := "order", desc := "(IIIIII)I" } : MethodName)) ∈ ai_tb := ai_wd5 135 rfl rfl
theorem wd_1096 : (Cond.instanceMethod ({ cls := "CoinBoats", name := "order", desc := "(IIIIII)I" } : MethodName)) ∈ ai_tb := ai_wd5 136 rfl rfl
theorem wd_1097 : (Cond.selects "CoinBoats" ({ cls := "CoinBoats", name := "order", desc := "(IIIIII)I" } : MethodName) ({ cls := "CoinBoats", name := "order", desc := "(IIIIII)I" } : MethodName)) ∈ ai_tb := ai_wd5 137 rfl rfl
theorem wd_1873 : (Cond.methodLink "CoinBoatsLaw" (122 : Nat) ({ cls := "CoinBoatsModel", name := "order", desc := "(IIIIII)I" } : MethodName)) ∈ ai_tb := ai_wd8 193 rfl rfl
theorem wd_1874 : (Cond.instanceMethod ({ cls := "CoinBoatsModel", name := "order", desc := "(IIIIII)I" } : MethodName)) ∈ ai_tb := ai_wd8 194 rfl rfl
theorem wd_1875 : (Cond.selects "CoinBoatsModel" ({ cls := "CoinBoatsModel", name := "order", desc := "(IIIIII)I" } : MethodName) ({ cls := "CoinBoatsModel", name := "order", desc := "(IIIIII)I" } : MethodName)) ∈ ai_tb := ai_wd8 195 rfl rfl
theorem wd_1103 : (Cond.methodLink "CoinBoatsLaw" (123 : Nat) ({ cls := "CoinBoats", name := "price", desc := "(IIIIII)J" } : MethodName)) ∈ ai_tb := ai_wd5 143 rfl rfl
theorem wd_1104 : (Cond.instanceMethod ({ cls := "CoinBoats", name := "price", desc := "(IIIIII)J" } : MethodName)) ∈ ai_tb := ai_wd5 144 rfl rfl
theorem wd_1105 : (Cond.selects "CoinBoats" ({ cls := "CoinBoats", name := "price", desc := "(IIIIII)J" } : MethodName) ({ cls := "CoinBoats", name := "price", desc := "(IIIIII)J" } : MethodName)) ∈ ai_tb := ai_wd5 145 rfl rfl
theorem wd_1877 : (Cond.methodLink "CoinBoatsLaw" (126 : Nat) ({ cls := "CoinBoatsModel", name := "price", desc := "(IIIIII)J" } : MethodName)) ∈ ai_tb := ai_wd8 197 rfl rfl
theorem wd_1878 : (Cond.instanceMethod ({ cls := "CoinBoatsModel", name := "price", desc := "(IIIIII)J" } : MethodName)) ∈ ai_tb := ai_wd8 198 rfl rfl
theorem wd_1879 : (Cond.selects "CoinBoatsModel" ({ cls := "CoinBoatsModel", name := "price", desc := "(IIIIII)J" } : MethodName) ({ cls := "CoinBoatsModel", name := "price", desc := "(IIIIII)J" } : MethodName)) ∈ ai_tb := ai_wd8 199 rfl rfl
theorem wd_1107 : (Cond.methodLink "CoinBoatsLaw" (127 : Nat) ({ cls := "CoinBoats", name := "pool", desc := "(III)I" } : MethodName)) ∈ ai_tb := ai_wd5 147 rfl rfl
theorem wd_1108 : (Cond.instanceMethod ({ cls := "CoinBoats", name := "pool", desc := "(III)I" } : MethodName)) ∈ ai_tb := ai_wd5 148 rfl rfl
theorem wd_1109 : (Cond.selects "CoinBoats" ({ cls := "CoinBoats", name := "pool", desc := "(III)I" } : MethodName) ({ cls := "CoinBoats", name := "pool", desc := "(III)I" } : MethodName)) ∈ ai_tb := ai_wd5 149 rfl rfl
theorem wd_1881 : (Cond.methodLink "CoinBoatsLaw" (130 : Nat) ({ cls := "CoinBoatsModel", name := "pool", desc := "(III)I" } : MethodName)) ∈ ai_tb := ai_wd8 201 rfl rfl
theorem wd_1882 : (Cond.instanceMethod ({ cls := "CoinBoatsModel", name := "pool", desc := "(III)I" } : MethodName)) ∈ ai_tb := ai_wd8 202 rfl rfl
theorem wd_1883 : (Cond.selects "CoinBoatsModel" ({ cls := "CoinBoatsModel", name := "pool", desc := "(III)I" } : MethodName) ({ cls := "CoinBoatsModel", name := "pool", desc := "(III)I" } : MethodName)) ∈ ai_tb := ai_wd8 203 rfl rfl
theorem wd_1127 : (Cond.methodLink "CoinBoatsLaw" (131 : Nat) ({ cls := "CoinBoats", name := "saved", desc := "(III)I" } : MethodName)) ∈ ai_tb := ai_wd5 167 rfl rfl
theorem wd_1128 : (Cond.instanceMethod ({ cls := "CoinBoats", name := "saved", desc := "(III)I" } : MethodName)) ∈ ai_tb := ai_wd5 168 rfl rfl
theorem wd_1129 : (Cond.selects "CoinBoats" ({ cls := "CoinBoats", name := "saved", desc := "(III)I" } : MethodName) ({ cls := "CoinBoats", name := "saved", desc := "(III)I" } : MethodName)) ∈ ai_tb := ai_wd5 169 rfl rfl
theorem wd_1893 : (Cond.methodLink "CoinBoatsLaw" (134 : Nat) ({ cls := "CoinBoatsModel", name := "saved", desc := "(III)I" } : MethodName)) ∈ ai_tb := ai_wd8 213 rfl rfl
theorem wd_1894 : (Cond.instanceMethod ({ cls := "CoinBoatsModel", name := "saved", desc := "(III)I" } : MethodName)) ∈ ai_tb := ai_wd8 214 rfl rfl
theorem wd_1895 : (Cond.selects "CoinBoatsModel" ({ cls := "CoinBoatsModel", name := "saved", desc := "(III)I" } : MethodName) ({ cls := "CoinBoatsModel", name := "saved", desc := "(III)I" } : MethodName)) ∈ ai_tb := ai_wd8 215 rfl rfl
theorem wd_1135 : (Cond.methodLink "CoinBoatsLaw" (135 : Nat) ({ cls := "CoinBoats", name := "holds", desc := "(IIIIII)I" } : MethodName)) ∈ ai_tb := ai_wd5 175 rfl rfl
theorem wd_1136 : (Cond.instanceMethod ({ cls := "CoinBoats", name := "holds", desc := "(IIIIII)I" } : MethodName)) ∈ ai_tb := ai_wd5 176 rfl rfl
theorem wd_1137 : (Cond.selects "CoinBoats" ({ cls := "CoinBoats", name := "holds", desc := "(IIIIII)I" } : MethodName) ({ cls := "CoinBoats", name := "holds", desc := "(IIIIII)I" } : MethodName)) ∈ ai_tb := ai_wd5 177 rfl rfl
theorem wd_1901 : (Cond.methodLink "CoinBoatsLaw" (138 : Nat) ({ cls := "CoinBoatsModel", name := "holds", desc := "(IIIIII)I" } : MethodName)) ∈ ai_tb := ai_wd8 221 rfl rfl
theorem wd_1902 : (Cond.instanceMethod ({ cls := "CoinBoatsModel", name := "holds", desc := "(IIIIII)I" } : MethodName)) ∈ ai_tb := ai_wd8 222 rfl rfl
theorem wd_1903 : (Cond.selects "CoinBoatsModel" ({ cls := "CoinBoatsModel", name := "holds", desc := "(IIIIII)I" } : MethodName) ({ cls := "CoinBoatsModel", name := "holds", desc := "(IIIIII)I" } : MethodName)) ∈ ai_tb := ai_wd8 223 rfl rfl
theorem wd_1142 : (Cond.methodLink "CoinBoatsLaw" (139 : Nat) ({ cls := "CoinBoats", name := "book", desc := "(IIIZ)I" } : MethodName)) ∈ ai_tb := ai_wd5 182 rfl rfl
theorem wd_1143 : (Cond.instanceMethod ({ cls := "CoinBoats", name := "book", desc := "(IIIZ)I" } : MethodName)) ∈ ai_tb := ai_wd5 183 rfl rfl
theorem wd_1144 : (Cond.selects "CoinBoats" ({ cls := "CoinBoats", name := "book", desc := "(IIIZ)I" } : MethodName) ({ cls := "CoinBoats", name := "book", desc := "(IIIZ)I" } : MethodName)) ∈ ai_tb := ai_wd5 184 rfl rfl
theorem wd_1905 : (Cond.methodLink "CoinBoatsLaw" (143 : Nat) ({ cls := "CoinBoatsModel", name := "book", desc := "(IIIZ)I" } : MethodName)) ∈ ai_tb := ai_wd8 225 rfl rfl
theorem wd_1906 : (Cond.instanceMethod ({ cls := "CoinBoatsModel", name := "book", desc := "(IIIZ)I" } : MethodName)) ∈ ai_tb := ai_wd8 226 rfl rfl
theorem wd_1907 : (Cond.selects "CoinBoatsModel" ({ cls := "CoinBoatsModel", name := "book", desc := "(IIIZ)I" } : MethodName) ({ cls := "CoinBoatsModel", name := "book", desc := "(IIIZ)I" } : MethodName)) ∈ ai_tb := ai_wd8 227 rfl rfl
theorem wd_1146 : (Cond.methodLink "CoinBoatsLaw" (144 : Nat) ({ cls := "CoinBoats", name := "looked", desc := "(III)I" } : MethodName)) ∈ ai_tb := ai_wd5 186 rfl rfl
theorem wd_1147 : (Cond.instanceMethod ({ cls := "CoinBoats", name := "looked", desc := "(III)I" } : MethodName)) ∈ ai_tb := ai_wd5 187 rfl rfl
theorem wd_1148 : (Cond.selects "CoinBoats" ({ cls := "CoinBoats", name := "looked", desc := "(III)I" } : MethodName) ({ cls := "CoinBoats", name := "looked", desc := "(III)I" } : MethodName)) ∈ ai_tb := ai_wd5 188 rfl rfl
theorem wd_1913 : (Cond.methodLink "CoinBoatsLaw" (147 : Nat) ({ cls := "CoinBoatsModel", name := "looked", desc := "(III)I" } : MethodName)) ∈ ai_tb := ai_wd8 233 rfl rfl
theorem wd_1914 : (Cond.instanceMethod ({ cls := "CoinBoatsModel", name := "looked", desc := "(III)I" } : MethodName)) ∈ ai_tb := ai_wd8 234 rfl rfl
theorem wd_1915 : (Cond.selects "CoinBoatsModel" ({ cls := "CoinBoatsModel", name := "looked", desc := "(III)I" } : MethodName) ({ cls := "CoinBoatsModel", name := "looked", desc := "(III)I" } : MethodName)) ∈ ai_tb := ai_wd8 235 rfl rfl
theorem wd_1150 : (Cond.methodLink "CoinBoatsLaw" (148 : Nat) ({ cls := "CoinBoats", name := "annul", desc := "(I)I" } : MethodName)) ∈ ai_tb := ai_wd5 190 rfl rfl
theorem wd_1151 : (Cond.instanceMethod ({ cls := "CoinBoats", name := "annul", desc := "(I)I" } : MethodName)) ∈ ai_tb := ai_wd5 191 rfl rfl
theorem wd_1152 : (Cond.selects "CoinBoats" ({ cls := "CoinBoats", name := "annul", desc := "(I)I" } : MethodName) ({ cls := "CoinBoats", name := "annul", desc := "(I)I" } : MethodName)) ∈ ai_tb := ai_wd5 192 rfl rfl
theorem wd_1917 : (Cond.methodLink "CoinBoatsLaw" (151 : Nat) ({ cls := "CoinBoatsModel", name := "annul", desc := "(I)I" } : MethodName)) ∈ ai_tb := ai_wd8 237 rfl rfl
theorem wd_1918 : (Cond.instanceMethod ({ cls := "CoinBoatsModel", name := "annul", desc := "(I)I" } : MethodName)) ∈ ai_tb := ai_wd8 238 rfl rfl
theorem wd_1919 : (Cond.selects "CoinBoatsModel" ({ cls := "CoinBoatsModel", name := "annul", desc := "(I)I" } : MethodName) ({ cls := "CoinBoatsModel", name := "annul", desc := "(I)I" } : MethodName)) ∈ ai_tb := ai_wd8 239 rfl rfl
theorem wd_1154 : (Cond.methodLink "CoinBoatsLaw" (152 : Nat) ({ cls := "CoinBoats", name := "balance", desc := "(III)I" } : MethodName)) ∈ ai_tb := ai_wd5 194 rfl rfl
theorem wd_1155 : (Cond.instanceMethod ({ cls := "CoinBoats", name := "balance", desc := "(III)I" } : MethodName)) ∈ ai_tb := ai_wd5 195 rfl rfl
theorem wd_1156 : (Cond.selects "CoinBoats" ({ cls := "CoinBoats", name := "balance", desc := "(III)I" } : MethodName) ({ cls := "CoinBoats", name := "balance", desc := "(III)I" } : MethodName)) ∈ ai_tb := ai_wd5 196 rfl rfl
theorem wd_1921 : (Cond.methodLink "CoinBoatsLaw" (155 : Nat) ({ cls := "CoinBoatsModel", name := "balance", desc := "(III)I" } : MethodName)) ∈ ai_tb := ai_wd9 1 rfl rfl
theorem wd_1922 : (Cond.instanceMethod ({ cls := "CoinBoatsModel", name := "balance", desc := "(III)I" } : MethodName)) ∈ ai_tb := ai_wd9 2 rfl rfl
theorem wd_1923 : (Cond.selects "CoinBoatsModel" ({ cls := "CoinBoatsModel", name := "balance", desc := "(III)I" } : MethodName) ({ cls := "CoinBoatsModel", name := "balance", desc := "(III)I" } : MethodName)) ∈ ai_tb := ai_wd9 3 rfl rfl
theorem wd_1186 : (Cond.methodLink "CoinBoatsLaw" (156 : Nat) ({ cls := "CoinBoats", name := "richest", desc := "(I)I" } : MethodName)) ∈ ai_tb := ai_wd5 226 rfl rfl
theorem wd_1187 : (Cond.instanceMethod ({ cls := "CoinBoats", name := "richest", desc := "(I)I" } : MethodName)) ∈ ai_tb := ai_wd5 227 rfl rfl
theorem wd_1188 : (Cond.selects "CoinBoats" ({ cls := "CoinBoats", name := "richest", desc := "(I)I" } : MethodName) ({ cls := "CoinBoats", name := "richest", desc := "(I)I" } : MethodName)) ∈ ai_tb := ai_wd5 228 rfl rfl
theorem wd_1938 : (Cond.methodLink "CoinBoatsLaw" (159 : Nat) ({ cls := "CoinBoatsModel", name := "richest", desc := "(I)I" } : MethodName)) ∈ ai_tb := ai_wd9 18 rfl rfl
theorem wd_1939 : (Cond.instanceMethod ({ cls := "CoinBoatsModel", name := "richest", desc := "(I)I" } : MethodName)) ∈ ai_tb := ai_wd9 19 rfl rfl
theorem wd_1940 : (Cond.selects "CoinBoatsModel" ({ cls := "CoinBoatsModel", name := "richest", desc := "(I)I" } : MethodName) ({ cls := "CoinBoatsModel", name := "richest", desc := "(I)I" } : MethodName)) ∈ ai_tb := ai_wd9 20 rfl rfl
theorem wd_1196 : (Cond.methodLink "CoinBoatsLaw" (160 : Nat) ({ cls := "CoinBoats", name := "jars", desc := "(IIII)I" } : MethodName)) ∈ ai_tb := ai_wd5 236 rfl rfl
theorem wd_1197 : (Cond.instanceMethod ({ cls := "CoinBoats", name := "jars", desc := "(IIII)I" } : MethodName)) ∈ ai_tb := ai_wd5 237 rfl rfl
theorem wd_1198 : (Cond.selects "CoinBoats" ({ cls := "CoinBoats", name := "jars", desc := "(IIII)I" } : MethodName) ({ cls := "CoinBoats", name := "jars", desc := "(IIII)I" } : MethodName)) ∈ ai_tb := ai_wd5 238 rfl rfl
theorem wd_1942 : (Cond.methodLink "CoinBoatsLaw" (163 : Nat) ({ cls := "CoinBoatsModel", name := "jars", desc := "(IIII)I" } : MethodName)) ∈ ai_tb := ai_wd9 22 rfl rfl
theorem wd_1943 : (Cond.instanceMethod ({ cls := "CoinBoatsModel", name := "jars", desc := "(IIII)I" } : MethodName)) ∈ ai_tb := ai_wd9 23 rfl rfl
theorem wd_1944 : (Cond.selects "CoinBoatsModel" ({ cls := "CoinBoatsModel", name := "jars", desc := "(IIII)I" } : MethodName) ({ cls := "CoinBoatsModel", name := "jars", desc := "(IIII)I" } : MethodName)) ∈ ai_tb := ai_wd9 24 rfl rfl
theorem wd_1223 : (Cond.methodLink "CoinBoatsLaw" (164 : Nat) ({ cls := "CoinBoats", name := "ends", desc := "(IIII)I" } : MethodName)) ∈ ai_tb := ai_wd6 23 rfl rfl
theorem wd_1224 : (Cond.instanceMethod ({ cls := "CoinBoats", name := "ends", desc := "(IIII)I" } : MethodName)) ∈ ai_tb := ai_wd6 24 rfl rfl
theorem wd_1225 : (Cond.selects "CoinBoats" ({ cls := "CoinBoats", name := "ends", desc := "(IIII)I" } : MethodName) ({ cls := "CoinBoats", name := "ends", desc := "(IIII)I" } : MethodName)) ∈ ai_tb := ai_wd6 25 rfl rfl
theorem wd_1958 : (Cond.methodLink "CoinBoatsLaw" (167 : Nat) ({ cls := "CoinBoatsModel", name := "ends", desc := "(IIII)I" } : MethodName)) ∈ ai_tb := ai_wd9 38 rfl rfl
theorem wd_1959 : (Cond.instanceMethod ({ cls := "CoinBoatsModel", name := "ends", desc := "(IIII)I" } : MethodName)) ∈ ai_tb := ai_wd9 39 rfl rfl
theorem wd_1960 : (Cond.selects "CoinBoatsModel" ({ cls := "CoinBoatsModel", name := "ends", desc := "(IIII)I" } : MethodName) ({ cls := "CoinBoatsModel", name := "ends", desc := "(IIII)I" } : MethodName)) ∈ ai_tb := ai_wd9 40 rfl rfl
theorem wd_1236 : (Cond.methodLink "CoinBoatsLaw" (168 : Nat) ({ cls := "CoinBoats", name := "whose", desc := "(I)I" } : MethodName)) ∈ ai_tb := ai_wd6 36 rfl rfl
theorem wd_1237 : (Cond.instanceMethod ({ cls := "CoinBoats", name := "whose", desc := "(I)I" } : MethodName)) ∈ ai_tb := ai_wd6 37 rfl rfl
theorem wd_1238 : (Cond.selects "CoinBoats" ({ cls := "CoinBoats", name := "whose", desc := "(I)I" } : MethodName) ({ cls := "CoinBoats", name := "whose", desc := "(I)I" } : MethodName)) ∈ ai_tb := ai_wd6 38 rfl rfl
theorem wd_1963 : (Cond.methodLink "CoinBoatsLaw" (171 : Nat) ({ cls := "CoinBoatsModel", name := "whose", desc := "(I)I" } : MethodName)) ∈ ai_tb := ai_wd9 43 rfl rfl
theorem wd_1964 : (Cond.instanceMethod ({ cls := "CoinBoatsModel", name := "whose", desc := "(I)I" } : MethodName)) ∈ ai_tb := ai_wd9 44 rfl rfl
theorem wd_1965 : (Cond.selects "CoinBoatsModel" ({ cls := "CoinBoatsModel", name := "whose", desc := "(I)I" } : MethodName) ({ cls := "CoinBoatsModel", name := "whose", desc := "(I)I" } : MethodName)) ∈ ai_tb := ai_wd9 45 rfl rfl
theorem wd_1267 : (Cond.methodLink "CoinBoatsLaw" (172 : Nat) ({ cls := "CoinBoats", name := "whoseWays", desc := "(IIZ)J" } : MethodName)) ∈ ai_tb := ai_wd6 67 rfl rfl
theorem wd_1268 : (Cond.instanceMethod ({ cls := "CoinBoats", name := "whoseWays", desc := "(IIZ)J" } : MethodName)) ∈ ai_tb := ai_wd6 68 rfl rfl
theorem wd_1269 : (Cond.selects "CoinBoats" ({ cls := "CoinBoats", name := "whoseWays", desc := "(IIZ)J" } : MethodName) ({ cls := "CoinBoats", name := "whoseWays", desc := "(IIZ)J" } : MethodName)) ∈ ai_tb := ai_wd6 69 rfl rfl
theorem wd_1981 : (Cond.methodLink "CoinBoatsLaw" (176 : Nat) ({ cls := "CoinBoatsModel", name := "whoseWays", desc := "(IIZ)J" } : MethodName)) ∈ ai_tb := ai_wd9 61 rfl rfl
theorem wd_1982 : (Cond.instanceMethod ({ cls := "CoinBoatsModel", name := "whoseWays", desc := "(IIZ)J" } : MethodName)) ∈ ai_tb := ai_wd9 62 rfl rfl
theorem wd_1983 : (Cond.selects "CoinBoatsModel" ({ cls := "CoinBoatsModel", name := "whoseWays", desc := "(IIZ)J" } : MethodName) ({ cls := "CoinBoatsModel", name := "whoseWays", desc := "(IIZ)J" } : MethodName)) ∈ ai_tb := ai_wd9 63 rfl rfl
theorem wd_1276 : (Cond.methodLink "CoinBoatsLaw" (177 : Nat) ({ cls := "CoinBoats", name := "trickle", desc := "(IIII)I" } : MethodName)) ∈ ai_tb := ai_wd6 76 rfl rfl
theorem wd_1277 : (Cond.instanceMethod ({ cls := "CoinBoats", name := "trickle", desc := "(IIII)I" } : MethodName)) ∈ ai_tb := ai_wd6 77 rfl rfl
theorem wd_1278 : (Cond.selects "CoinBoats" ({ cls := "CoinBoats", name := "trickle", desc := "(IIII)I" } : MethodName) ({ cls := "CoinBoats", name := "trickle", desc := "(IIII)I" } : MethodName)) ∈ ai_tb := ai_wd6 78 rfl rfl
theorem wd_1986 : (Cond.methodLink "CoinBoatsLaw" (180 : Nat) ({ cls := "CoinBoatsModel", name := "trickle", desc := "(IIII)I" } : MethodName)) ∈ ai_tb := ai_wd9 66 rfl rfl
theorem wd_1987 : (Cond.instanceMethod ({ cls := "CoinBoatsModel", name := "trickle", desc := "(IIII)I" } : MethodName)) ∈ ai_tb := ai_wd9 67 rfl rfl
theorem wd_1988 : (Cond.selects "CoinBoatsModel" ({ cls := "CoinBoatsModel", name := "trickle", desc := "(IIII)I" } : MethodName) ({ cls := "CoinBoatsModel", name := "trickle", desc := "(IIII)I" } : MethodName)) ∈ ai_tb := ai_wd9 68 rfl rfl
theorem wd_1289 : (Cond.methodLink "CoinBoatsLaw" (181 : Nat) ({ cls := "CoinBoats", name := "trickled", desc := "(IIII)I" } : MethodName)) ∈ ai_tb := ai_wd6 89 rfl rfl
theorem wd_1290 : (Cond.instanceMethod ({ cls := "CoinBoats", name := "trickled", desc := "(IIII)I" } : MethodName)) ∈ ai_tb := ai_wd6 90 rfl rfl
theorem wd_1291 : (Cond.selects "CoinBoats" ({ cls := "CoinBoats", name := "trickled", desc := "(IIII)I" } : MethodName) ({ cls := "CoinBoats", name := "trickled", desc := "(IIII)I" } : MethodName)) ∈ ai_tb := ai_wd6 91 rfl rfl
theorem wd_1993 : (Cond.methodLink "CoinBoatsLaw" (184 : Nat) ({ cls := "CoinBoatsModel", name := "trickled", desc := "(IIII)I" } : MethodName)) ∈ ai_tb := ai_wd9 73 rfl rfl
theorem wd_1994 : (Cond.instanceMethod ({ cls := "CoinBoatsModel", name := "trickled", desc := "(IIII)I" } : MethodName)) ∈ ai_tb := ai_wd9 74 rfl rfl
theorem wd_1995 : (Cond.selects "CoinBoatsModel" ({ cls := "CoinBoatsModel", name := "trickled", desc := "(IIII)I" } : MethodName) ({ cls := "CoinBoatsModel", name := "trickled", desc := "(IIII)I" } : MethodName)) ∈ ai_tb := ai_wd9 75 rfl rfl
theorem wd_1293 : (Cond.methodLink "CoinBoatsLaw" (185 : Nat) ({ cls := "CoinBoats", name := "burnAt", desc := "(III)I" } : MethodName)) ∈ ai_tb := ai_wd6 93 rfl rfl
theorem wd_1294 : (Cond.instanceMethod ({ cls := "CoinBoats", name := "burnAt", desc := "(III)I" } : MethodName)) ∈ ai_tb := ai_wd6 94 rfl rfl
theorem wd_1295 : (Cond.selects "CoinBoats" ({ cls := "CoinBoats", name := "burnAt", desc := "(III)I" } : MethodName) ({ cls := "CoinBoats", name := "burnAt", desc := "(III)I" } : MethodName)) ∈ ai_tb := ai_wd6 95 rfl rfl
theorem wd_1997 : (Cond.methodLink "CoinBoatsLaw" (188 : Nat) ({ cls := "CoinBoatsModel", name := "burnAt", desc := "(III)I" } : MethodName)) ∈ ai_tb := ai_wd9 77 rfl rfl
theorem wd_1998 : (Cond.instanceMethod ({ cls := "CoinBoatsModel", name := "burnAt", desc := "(III)I" } : MethodName)) ∈ ai_tb := ai_wd9 78 rfl rfl
theorem wd_1999 : (Cond.selects "CoinBoatsModel" ({ cls := "CoinBoatsModel", name := "burnAt", desc := "(III)I" } : MethodName) ({ cls := "CoinBoatsModel", name := "burnAt", desc := "(III)I" } : MethodName)) ∈ ai_tb := ai_wd9 79 rfl rfl
theorem wd_1297 : (Cond.methodLink "CoinBoatsLaw" (189 : Nat) ({ cls := "CoinBoats", name := "sort", desc := "(IIIIIII)I" } : MethodName)) ∈ ai_tb := ai_wd6 97 rfl rfl
theorem wd_1298 : (Cond.instanceMethod ({ cls := "CoinBoats", name := "sort", desc := "(IIIIIII)I" } : MethodName)) ∈ ai_tb := ai_wd6 98 rfl rfl
theorem wd_1299 : (Cond.selects "CoinBoats" ({ cls := "CoinBoats", name := "sort", desc := "(IIIIIII)I" } : MethodName) ({ cls := "CoinBoats", name := "sort", desc := "(IIIIIII)I" } : MethodName)) ∈ ai_tb := ai_wd6 99 rfl rfl
theorem wd_2001 : (Cond.methodLink "CoinBoatsLaw" (193 : Nat) ({ cls := "CoinBoatsModel", name := "sort", desc := "(IIIIIII)I" } : MethodName)) ∈ ai_tb := ai_wd9 81 rfl rfl
theorem wd_2002 : (Cond.instanceMethod ({ cls := "CoinBoatsModel", name := "sort", desc := "(IIIIIII)I" } : MethodName)) ∈ ai_tb := ai_wd9 82 rfl rfl
theorem wd_2003 : (Cond.selects "CoinBoatsModel" ({ cls := "CoinBoatsModel", name := "sort", desc := "(IIIIIII)I" } : MethodName) ({ cls := "CoinBoatsModel", name := "sort", desc := "(IIIIIII)I" } : MethodName)) ∈ ai_tb := ai_wd9 83 rfl rfl
theorem wd_1301 : (Cond.methodLink "CoinBoatsLaw" (194 : Nat) ({ cls := "CoinBoats", name := "hold", desc := "(I)Z" } : MethodName)) ∈ ai_tb := ai_wd6 101 rfl rfl
theorem wd_1302 : (Cond.instanceMethod ({ cls := "CoinBoats", name := "hold", desc := "(I)Z" } : MethodName)) ∈ ai_tb := ai_wd6 102 rfl rfl
theorem wd_1303 : (Cond.selects "CoinBoats" ({ cls := "CoinBoats", name := "hold", desc := "(I)Z" } : MethodName) ({ cls := "CoinBoats", name := "hold", desc := "(I)Z" } : MethodName)) ∈ ai_tb := ai_wd6 103 rfl rfl
theorem wd_1637 : (Cond.methodLink "CoinBoatsLaw" (198 : Nat) ({ cls := "CoinBoatsModel", name := "hold", desc := "(I)Z" } : MethodName)) ∈ ai_tb := ai_wd7 197 rfl rfl
theorem wd_1638 : (Cond.instanceMethod ({ cls := "CoinBoatsModel", name := "hold", desc := "(I)Z" } : MethodName)) ∈ ai_tb := ai_wd7 198 rfl rfl
theorem wd_1639 : (Cond.selects "CoinBoatsModel" ({ cls := "CoinBoatsModel", name := "hold", desc := "(I)Z" } : MethodName) ({ cls := "CoinBoatsModel", name := "hold", desc := "(I)Z" } : MethodName)) ∈ ai_tb := ai_wd7 199 rfl rfl
theorem wd_1311 : (Cond.methodLink "CoinBoatsLaw" (199 : Nat) ({ cls := "CoinBoats", name := "restore", desc := "(I)Z" } : MethodName)) ∈ ai_tb := ai_wd6 111 rfl rfl
theorem wd_1312 : (Cond.instanceMethod ({ cls := "CoinBoats", name := "restore", desc := "(I)Z" } : MethodName)) ∈ ai_tb := ai_wd6 112 rfl rfl
theorem wd_1313 : (Cond.selects "CoinBoats" ({ cls := "CoinBoats", name := "restore", desc := "(I)Z" } : MethodName) ({ cls := "CoinBoats", name := "restore", desc := "(I)Z" } : MethodName)) ∈ ai_tb := ai_wd6 113 rfl rfl
theorem wd_1641 : (Cond.methodLink "CoinBoatsLaw" (202 : Nat) ({ cls := "CoinBoatsModel", name := "restore", desc := "(I)Z" } : MethodName)) ∈ ai_tb := ai_wd7 201 rfl rfl
theorem wd_1642 : (Cond.instanceMethod ({ cls := "CoinBoatsModel", name := "restore", desc := "(I)Z" } : MethodName)) ∈ ai_tb := ai_wd7 202 rfl rfl
theorem wd_1643 : (Cond.selects "CoinBoatsModel" ({ cls := "CoinBoatsModel", name := "restore", desc := "(I)Z" } : MethodName) ({ cls := "CoinBoatsModel", name := "restore", desc := "(I)Z" } : MethodName)) ∈ ai_tb := ai_wd7 203 rfl rfl
theorem wd_1315 : (Cond.methodLink "CoinBoatsLaw" (203 : Nat) ({ cls := "CoinBoats", name := "count", desc := "(I)I" } : MethodName)) ∈ ai_tb := ai_wd6 115 rfl rfl
theorem wd_1316 : (Cond.instanceMethod ({ cls := "CoinBoats", name := "count", desc := "(I)I" } : MethodName)) ∈ ai_tb := ai_wd6 116 rfl rfl
theorem wd_1317 : (Cond.selects "CoinBoats" ({ cls := "CoinBoats", name := "count", desc := "(I)I" } : MethodName) ({ cls := "CoinBoats", name := "count", desc := "(I)I" } : MethodName)) ∈ ai_tb := ai_wd6 117 rfl rfl
theorem wd_2009 : (Cond.methodLink "CoinBoatsLaw" (206 : Nat) ({ cls := "CoinBoatsModel", name := "count", desc := "(I)I" } : MethodName)) ∈ ai_tb := ai_wd9 89 rfl rfl
theorem wd_2010 : (Cond.instanceMethod ({ cls := "CoinBoatsModel", name := "count", desc := "(I)I" } : MethodName)) ∈ ai_tb := ai_wd9 90 rfl rfl
theorem wd_2011 : (Cond.selects "CoinBoatsModel" ({ cls := "CoinBoatsModel", name := "count", desc := "(I)I" } : MethodName) ({ cls := "CoinBoatsModel", name := "count", desc := "(I)I" } : MethodName)) ∈ ai_tb := ai_wd9 91 rfl rfl
theorem wd_265 : (Cond.code ({ cls := "CoinBoats$Calendar", name := "<init>", desc := "()V" } : MethodName) prog_2_method_1_code (1 : Nat) (Option.none : Option Jvm.ClassFile.FieldType)) ∈ ai_tb := ai_wd2 25 rfl rfl
theorem wd_923 : (Cond.code ({ cls := "CoinBoats$Calendar", name := "pass", desc := "(LCoinBoats$Text;LCoinBoats$State;I)I" } : MethodName) prog_2_method_2_code (5 : Nat) (Option.some Jvm.ClassFile.FieldType.int)) ∈ ai_tb := ai_wd4 203 rfl rfl
theorem wd_927 : (Cond.code ({ cls := "CoinBoats$Calendar", name := "sail", desc := "(LCoinBoats$Text;LCoinBoats$State;I)V" } : MethodName) prog_2_method_3_code (6 : Nat) (Option.none : Option Jvm.ClassFile.FieldType)) ∈ ai_tb := ai_wd4 207 rfl rfl
theorem wd_881 : (Cond.code ({ cls := "CoinBoats$Calendar", name := "refusal", desc := "(LCoinBoats$Text;LCoinBoats$Rows;ILCoinBoats$Pieces;IZ)I" } : MethodName) prog_2_method_4_code (10 : Nat) (Option.some Jvm.ClassFile.FieldType.int)) ∈ ai_tb := ai_wd4 161 rfl rfl
theorem wd_900 : (Cond.code ({ cls := "CoinBoats$Calendar", name := "carry", desc := "(LCoinBoats$Text;LCoinBoats$Rows;ILCoinBoats$Pieces;)V" } : MethodName) prog_2_method_5_code (8 : Nat) (Option.none : Option Jvm.ClassFile.FieldType)) ∈ ai_tb := ai_wd4 180 rfl rfl
theorem wd_895 : (Cond.code ({ cls := "CoinBoats$Calendar", name := "start", desc := "(LCoinBoats$Rows;I)I" } : MethodName) prog_2_method_6_code (2 : Nat) (Option.some Jvm.ClassFile.FieldType.int)) ∈ ai_tb := ai_wd4 175 rfl rfl
theorem wd_892 : (Cond.code ({ cls := "CoinBoats$Calendar", name := "weight", desc := "(LCoinBoats$Text;LCoinBoats$Rows;I)I" } : MethodName) prog_2_method_7_code (3 : Nat) (Option.some Jvm.ClassFile.FieldType.int)) ∈ ai_tb := ai_wd4 172 rfl rfl
theorem wd_930 : (Cond.code ({ cls := "CoinBoats$Calendar", name := "flow", desc := "(LCoinBoats$Text;LCoinBoats$State;I)V" } : MethodName) prog_2_method_8_code (9 : Nat) (Option.none : Option Jvm.ClassFile.FieldType)) ∈ ai_tb := ai_wd4 210 rfl rfl
theorem wd_935 : (Cond.code ({ cls := "CoinBoats$Calendar", name := "wear", desc := "(LCoinBoats$Text;LCoinBoats$State;)V" } : MethodName) prog_2_method_9_code (5 : Nat) (Option.none : Option Jvm.ClassFile.FieldType)) ∈ ai_tb := ai_wd4 215 rfl rfl
theorem wd_942 : (Cond.code ({ cls := "CoinBoats$Calendar", name := "wearAt", desc := "(LCoinBoats$Text;LCoinBoats$State;II)V" } : MethodName) prog_2_method_10_code (8 : Nat) (Option.none : Option Jvm.ClassFile.FieldType)) ∈ ai_tb := ai_wd4 222 rfl rfl
theorem wd_947 : (Cond.code ({ cls := "CoinBoats$Calendar", name := "lose", desc := "(LCoinBoats$Text;LCoinBoats$State;)V" } : MethodName) prog_2_method_11_code (7 : Nat) (Option.none : Option Jvm.ClassFile.FieldType)) ∈ ai_tb := ai_wd4 227 rfl rfl
theorem wd_950 : (Cond.code ({ cls := "CoinBoats$Calendar", name := "lack", desc := "(LCoinBoats$Text;LCoinBoats$State;)I" } : MethodName) prog_2_method_12_code (8 : Nat) (Option.some Jvm.ClassFile.FieldType.int)) ∈ ai_tb := ai_wd4 230 rfl rfl
theorem wd_864 : (Cond.code ({ cls := "CoinBoats$Calendar", name := "firstUndone", desc := "(LCoinBoats$Text;LCoinBoats$State;)I" } : MethodName) prog_2_method_13_code (5 : Nat) (Option.some Jvm.ClassFile.FieldType.int)) ∈ ai_tb := ai_wd4 144 rfl rfl
theorem wd_915 : (Cond.code ({ cls := "CoinBoats$Calendar", name := "reason", desc := "()I" } : MethodName) prog_2_method_14_code (1 : Nat) (Option.some Jvm.ClassFile.FieldType.int)) ∈ ai_tb := ai_wd4 195 rfl rfl
theorem wd_885 : (Cond.code ({ cls := "CoinBoats$Calendar", name := "lot", desc := "(III)I" } : MethodName) prog_2_method_15_code (4 : Nat) (Option.some Jvm.ClassFile.FieldType.int)) ∈ ai_tb := ai_wd4 165 rfl rfl
theorem wd_888 : (Cond.code ({ cls := "CoinBoats$Calendar", name := "mixed", desc := "(II)I" } : MethodName) prog_2_method_16_code (3 : Nat) (Option.some Jvm.ClassFile.FieldType.int)) ∈ ai_tb := ai_wd4 168 rfl rfl
theorem wd_285 : (Cond.code ({ cls := "CoinBoats$Coins", name := "<init>", desc := "()V" } : MethodName) prog_3_method_1_code (1 : Nat) (Option.none : Option Jvm.ClassFile.FieldType)) ∈ ai_tb := ai_wd2 45 rfl rfl
theorem wd_975 : (Cond.code ({ cls := "CoinBoats$Coins", name := "look", desc := "(LCoinBoats$Text;LCoinBoats$Pieces;II)V" } : MethodName) prog_3_method_2_code (7 : Nat) (Option.none : Option Jvm.ClassFile.FieldType)) ∈ ai_tb := ai_wd5 15 rfl rfl
theorem wd_985 : (Cond.code ({ cls := "CoinBoats$Coins", name := "fewestOfTill", desc := "(I)I" } : MethodName) prog_3_method_3_code (3 : Nat) (Option.some Jvm.ClassFile.FieldType.int)) ∈ ai_tb := ai_wd5 25 rfl rfl
theorem wd_1008 : (Cond.code ({ cls := "CoinBoats$Coins", name := "ofTill", desc := "(II)I" } : MethodName) prog_3_method_4_code (3 : Nat) (Option.some Jvm.ClassFile.FieldType.int)) ∈ ai_tb := ai_wd5 48 rfl rfl
theorem wd_1028 : (Cond.code ({ cls := "CoinBoats$Coins", name := "ofPurse", desc := "(II)I" } : MethodName) prog_3_method_5_code (3 : Nat) (Option.some Jvm.ClassFile.FieldType.int)) ∈ ai_tb := ai_wd5 68 rfl rfl
theorem wd_1024 : (Cond.code ({ cls := "CoinBoats$Coins", name := "leastGiven", desc := "(I)I" } : MethodName) prog_3_method_6_code (5 : Nat) (Option.some Jvm.ClassFile.FieldType.int)) ∈ ai_tb := ai_wd5 64 rfl rfl
theorem wd_1032 : (Cond.code ({ cls := "CoinBoats$Coins", name := "bothWays", desc := "()I" } : MethodName) prog_3_method_7_code (1 : Nat) (Option.some Jvm.ClassFile.FieldType.int)) ∈ ai_tb := ai_wd5 72 rfl rfl
theorem wd_1040 : (Cond.code ({ cls := "CoinBoats$Coins", name := "bestSet", desc := "(II)I" } : MethodName) prog_3_method_8_code (7 : Nat) (Option.some Jvm.ClassFile.FieldType.int)) ∈ ai_tb := ai_wd5 80 rfl rfl
theorem wd_1044 : (Cond.code ({ cls := "CoinBoats$Coins", name := "hasOne", desc := "(I)Z" } : MethodName) prog_3_method_9_code (3 : Nat) (Option.some Jvm.ClassFile.FieldType.boolean)) ∈ ai_tb := ai_wd5 84 rfl rfl
theorem wd_1048 : (Cond.code ({ cls := "CoinBoats$Coins", name := "sumOf", desc := "(III)I" } : MethodName) prog_3_method_10_code (6 : Nat) (Option.some Jvm.ClassFile.FieldType.int)) ∈ ai_tb := ai_wd5 88 rfl rfl
theorem wd_1012 : (Cond.code ({ cls := "CoinBoats$Coins", name := "ofKind", desc := "([IIII)I" } : MethodName) prog_3_method_11_code (9 : Nat) (Option.some Jvm.ClassFile.FieldType.int)) ∈ ai_tb := ai_wd5 52 rfl rfl
theorem wd_1016 : (Cond.code ({ cls := "CoinBoats$Coins", name := "mostOf", desc := "([IIIII)I" } : MethodName) prog_3_method_12_code (8 : Nat) (Option.some Jvm.ClassFile.FieldType.int)) ∈ ai_tb := ai_wd5 56 rfl rfl
theorem wd_989 : (Cond.code ({ cls := "CoinBoats$Coins", name := "fill", desc := "([IIII)V" } : MethodName) prog_3_method_13_code (9 : Nat) (Option.none : Option Jvm.ClassFile.FieldType)) ∈ ai_tb := ai_wd5 29 rfl rfl
theorem wd_992 : (Cond.code ({ cls := "CoinBoats$Coins", name := "clear", desc := "([II)V" } : MethodName) prog_3_method_14_code (3 : Nat) (Option.none : Option Jvm.ClassFile.FieldType)) ∈ ai_tb := ai_wd5 32 rfl rfl
theorem wd_997 : (Cond.code ({ cls := "CoinBoats$Coins", name := "addEndless", desc := "([III)V" } : MethodName) prog_3_method_15_code (4 : Nat) (Option.none : Option Jvm.ClassFile.FieldType)) ∈ ai_tb := ai_wd5 37 rfl rfl
theorem wd_1004 : (Cond.code ({ cls := "CoinBoats$Coins", name := "addLumps", desc := "([IIII)V" } : MethodName) prog_3_method_16_code (9 : Nat) (Option.none : Option Jvm.ClassFile.FieldType)) ∈ ai_tb := ai_wd5 44 rfl rfl
theorem wd_1000 : (Cond.code ({ cls := "CoinBoats$Coins", name := "at", desc := "([II)I" } : MethodName) prog_3_method_17_code (2 : Nat) (Option.some Jvm.ClassFile.FieldType.int)) ∈ ai_tb := ai_wd5 40 rfl rfl
theorem wd_63 : (Cond.code ({ cls := "CoinBoats$Formulas", name := "<init>", desc := "()V" } : MethodName) prog_4_method_1_code (1 : Nat) (Option.none : Option Jvm.ClassFile.FieldType)) ∈ ai_tb := ai_wd1 63 rfl rfl
theorem wd_425 : (Cond.code ({ cls := "CoinBoats$Formulas", name := "clear", desc := "()V" } : MethodName) prog_4_method_2_code (1 : Nat) (Option.none : Option Jvm.ClassFile.FieldType)) ∈ ai_tb := ai_wd2 185 rfl rfl
theorem wd_677 : (Cond.code ({ cls := "CoinBoats$Formulas", name := "size", desc := "()I" } : MethodName) prog_4_method_3_code (1 : Nat) (Option.some Jvm.ClassFile.FieldType.int)) ∈ ai_tb := ai_wd3 197 rfl rfl
theorem wd_693 : (Cond.code ({ cls := "CoinBoats$Formulas", name := "add", desc := "(II)V" } : MethodName) prog_4_method_4_code (3 : Nat) (Option.none : Option Jvm.ClassFile.FieldType)) ∈ ai_tb := ai_wd3 213 rfl rfl
theorem wd_791 : (Cond.code ({ cls := "CoinBoats$Formulas", name := "value", desc := "(IIIIII)I" } : MethodName) prog_4_method_5_code (10 : Nat) (Option.some Jvm.ClassFile.FieldType.int)) ∈ ai_tb := ai_wd4 71 rfl rfl
theorem wd_804 : (Cond.code ({ cls := "CoinBoats$Formulas", name := "joined", desc := "(III)I" } : MethodName) prog_4_method_6_code (4 : Nat) (Option.some Jvm.ClassFile.FieldType.int)) ∈ ai_tb := ai_wd4 84 rfl rfl
theorem wd_796 : (Cond.code ({ cls := "CoinBoats$Formulas", name := "push", desc := "(I)V" } : MethodName) prog_4_method_7_code (2 : Nat) (Option.none : Option Jvm.ClassFile.FieldType)) ∈ ai_tb := ai_wd4 76 rfl rfl
theorem wd_800 : (Cond.code ({ cls := "CoinBoats$Formulas", name := "pop", desc := "()I" } : MethodName) prog_4_method_8_code (1 : Nat) (Option.some Jvm.ClassFile.FieldType.int)) ∈ ai_tb := ai_wd4 80 rfl rfl
theorem wd_322 : (Cond.code ({ cls := "CoinBoats$Ledger", name := "<init>", desc := "()V" } : MethodName) prog_5_method_1_code (1 : Nat) (Option.none : Option Jvm.ClassFile.FieldType)) ∈ ai_tb := ai_wd2 82 rfl rfl
theorem wd_1166 : (Cond.code ({ cls := "CoinBoats$Ledger", name := "know", desc := "(LCoinBoats$Rows;I)V" } : MethodName) prog_5_method_2_code (4 : Nat) (Option.none : Option Jvm.ClassFile.FieldType)) ∈ ai_tb := ai_wd5 206 rfl rfl
theorem wd_1174 : (Cond.code ({ cls := "CoinBoats$Ledger", name := "enter", desc := "(LCoinBoats$Rows;I)V" } : MethodName) prog_5_method_3_code (5 : Nat) (Option.none : Option Jvm.ClassFile.FieldType)) ∈ ai_tb := ai_wd5 214 rfl rfl
theorem wd_1177 : (Cond.code ({ cls := "CoinBoats$Ledger", name := "add", desc := "(LCoinBoats$Rows;III)V" } : MethodName) prog_5_method_4_code (4 : Nat) (Option.none : Option Jvm.ClassFile.FieldType)) ∈ ai_tb := ai_wd5 217 rfl rfl
theorem wd_1181 : (Cond.code ({ cls := "CoinBoats$Ledger", name := "went", desc := "(II)I" } : MethodName) prog_5_method_5_code (3 : Nat) (Option.some Jvm.ClassFile.FieldType.int)) ∈ ai_tb := ai_wd5 221 rfl rfl
theorem wd_1185 : (Cond.code ({ cls := "CoinBoats$Ledger", name := "came", desc := "(II)I" } : MethodName) prog_5_method_6_code (3 : Nat) (Option.some Jvm.ClassFile.FieldType.int)) ∈ ai_tb := ai_wd5 225 rfl rfl
theorem wd_1193 : (Cond.code ({ cls := "CoinBoats$Ledger", name := "gainer", desc := "(LCoinBoats$Text;)I" } : MethodName) prog_5_method_7_code (11 : Nat) (Option.some Jvm.ClassFile.FieldType.int)) ∈ ai_tb := ai_wd5 233 rfl rfl
theorem wd_1207 : (Cond.code ({ cls := "CoinBoats$Ledger", name := "leastOff", desc := "(LCoinBoats$Text;II)I" } : MethodName) prog_5_method_8_code (8 : Nat) (Option.some Jvm.ClassFile.FieldType.int)) ∈ ai_tb := ai_wd6 7 rfl rfl
theorem wd_1218 : (Cond.code ({ cls := "CoinBoats$Ledger", name := "kept", desc := "()I" } : MethodName) prog_5_method_9_code (1 : Nat) (Option.some Jvm.ClassFile.FieldType.int)) ∈ ai_tb := ai_wd6 18 rfl rfl
theorem wd_1222 : (Cond.code ({ cls := "CoinBoats$Ledger", name := "lost", desc := "()I" } : MethodName) prog_5_method_10_code (1 : Nat) (Option.some Jvm.ClassFile.FieldType.int)) ∈ ai_tb := ai_wd6 22 rfl rfl
theorem wd_1231 : (Cond.code ({ cls := "CoinBoats$Ledger", name := "keptEnds", desc := "(LCoinBoats$Text;III)I" } : MethodName) prog_5_method_11_code (8 : Nat) (Option.some Jvm.ClassFile.FieldType.int)) ∈ ai_tb := ai_wd6 31 rfl rfl
theorem wd_1235 : (Cond.code ({ cls := "CoinBoats$Ledger", name := "isNear", desc := "(LCoinBoats$Text;IIII)Z" } : MethodName) prog_5_method_12_code (7 : Nat) (Option.some Jvm.ClassFile.FieldType.boolean)) ∈ ai_tb := ai_wd6 35 rfl rfl
theorem wd_1211 : (Cond.code ({ cls := "CoinBoats$Ledger", name := "off", desc := "(LCoinBoats$Text;IIII)I" } : MethodName) prog_5_method_13_code (12 : Nat) (Option.some Jvm.ClassFile.FieldType.int)) ∈ ai_tb := ai_wd6 11 rfl rfl
theorem wd_1247 : (Cond.code ({ cls := "CoinBoats$Ledger", name := "isCountable", desc := "()Z" } : MethodName) prog_5_method_14_code (1 : Nat) (Option.some Jvm.ClassFile.FieldType.boolean)) ∈ ai_tb := ai_wd6 47 rfl rfl
theorem wd_1251 : (Cond.code ({ cls := "CoinBoats$Ledger", name := "seen", desc := "(I)I" } : MethodName) prog_5_method_15_code (2 : Nat) (Option.some Jvm.ClassFile.FieldType.int)) ∈ ai_tb := ai_wd6 51 rfl rfl
theorem wd_1243 : (Cond.code ({ cls := "CoinBoats$Ledger", name := "beyondLuck", desc := "(I)I" } : MethodName) prog_5_method_16_code (4 : Nat) (Option.some Jvm.ClassFile.FieldType.int)) ∈ ai_tb := ai_wd6 43 rfl rfl
theorem wd_1255 : (Cond.code ({ cls := "CoinBoats$Ledger", name := "isLessLuck", desc := "(II)Z" } : MethodName) prog_5_method_17_code (21 : Nat) (Option.some Jvm.ClassFile.FieldType.boolean)) ∈ ai_tb := ai_wd6 55 rfl rfl
theorem wd_1259 : (Cond.code ({ cls := "CoinBoats$Ledger", name := "waysOfMore", desc := "(I)J" } : MethodName) prog_5_method_18_code (6 : Nat) (Option.some Jvm.ClassFile.FieldType.long)) ∈ ai_tb := ai_wd6 59 rfl rfl
theorem wd_1266 : (Cond.code ({ cls := "CoinBoats$Ledger", name := "waysOfAll", desc := "(I)J" } : MethodName) prog_5_method_19_code (2 : Nat) (Option.some Jvm.ClassFile.FieldType.long)) ∈ ai_tb := ai_wd6 66 rfl rfl
theorem wd_1262 : (Cond.code ({ cls := "CoinBoats$Ledger", name := "ways", desc := "(II)J" } : MethodName) prog_5_method_20_code (5 : Nat) (Option.some Jvm.ClassFile.FieldType.long)) ∈ ai_tb := ai_wd6 62 rfl rfl
theorem wd_203 : (Cond.code ({ cls := "CoinBoats$Pieces", name := "<init>", desc := "()V" } : MethodName) prog_6_method_1_code (1 : Nat) (Option.none : Option Jvm.ClassFile.FieldType)) ∈ ai_tb := ai_wd1 203 rfl rfl
theorem wd_816 : (Cond.code ({ cls := "CoinBoats$Pieces", name := "row", desc := "(II)I" } : MethodName) prog_6_method_2_code (2 : Nat) (Option.some Jvm.ClassFile.FieldType.int)) ∈ ai_tb := ai_wd4 96 rfl rfl
theorem wd_813 : (Cond.code ({ cls := "CoinBoats$Pieces", name := "get", desc := "(III)I" } : MethodName) prog_6_method_3_code (4 : Nat) (Option.some Jvm.ClassFile.FieldType.int)) ∈ ai_tb := ai_wd4 93 rfl rfl
theorem wd_827 : (Cond.code ({ cls := "CoinBoats$Pieces", name := "all", desc := "(II)I" } : MethodName) prog_6_method_4_code (5 : Nat) (Option.some Jvm.ClassFile.FieldType.int)) ∈ ai_tb := ai_wd4 107 rfl rfl
theorem wd_822 : (Cond.code ({ cls := "CoinBoats$Pieces", name := "add", desc := "(IIII)V" } : MethodName) prog_6_method_5_code (6 : Nat) (Option.none : Option Jvm.ClassFile.FieldType)) ∈ ai_tb := ai_wd4 102 rfl rfl
theorem wd_905 : (Cond.code ({ cls := "CoinBoats$Pieces", name := "move", desc := "(IIIIZ)V" } : MethodName) prog_6_method_6_code (10 : Nat) (Option.none : Option Jvm.ClassFile.FieldType)) ∈ ai_tb := ai_wd4 185 rfl rfl
theorem wd_735 : (Cond.code ({ cls := "CoinBoats$Pieces", name := "clear", desc := "()V" } : MethodName) prog_6_method_7_code (1 : Nat) (Option.none : Option Jvm.ClassFile.FieldType)) ∈ ai_tb := ai_wd4 15 rfl rfl
theorem wd_868 : (Cond.code ({ cls := "CoinBoats$Pieces", name := "copy", desc := "(LCoinBoats$Pieces;)V" } : MethodName) prog_6_method_8_code (2 : Nat) (Option.none : Option Jvm.ClassFile.FieldType)) ∈ ai_tb := ai_wd4 148 rfl rfl
theorem wd_137 : (Cond.code ({ cls := "CoinBoats$Reader", name := "<init>", desc := "()V" } : MethodName) prog_7_method_1_code (1 : Nat) (Option.none : Option Jvm.ClassFile.FieldType)) ∈ ai_tb := ai_wd1 137 rfl rfl
theorem wd_410 : (Cond.code ({ cls := "CoinBoats$Reader", name := "examine", desc := "([BILCoinBoats$Text;)I" } : MethodName) prog_7_method_2_code (5 : Nat) (Option.some Jvm.ClassFile.FieldType.int)) ∈ ai_tb := ai_wd2 170 rfl rfl
theorem wd_723 : (Cond.code ({ cls := "CoinBoats$Reader", name := "faultPlace", desc := "()I" } : MethodName) prog_7_method_3_code (1 : Nat) (Option.some Jvm.ClassFile.FieldType.int)) ∈ ai_tb := ai_wd4 3 rfl rfl
theorem wd_413 : (Cond.code ({ cls := "CoinBoats$Reader", name := "clearNames", desc := "([J)V" } : MethodName) prog_7_method_4_code (2 : Nat) (Option.none : Option Jvm.ClassFile.FieldType)) ∈ ai_tb := ai_wd2 173 rfl rfl
theorem wd_588 : (Cond.code ({ cls := "CoinBoats$Reader", name := "tell", desc := "(LCoinBoats$Text;I)V" } : MethodName) prog_7_method_5_code (3 : Nat) (Option.none : Option Jvm.ClassFile.FieldType)) ∈ ai_tb := ai_wd3 108 rfl rfl
theorem wd_592 : (Cond.code ({ cls := "CoinBoats$Reader", name := "tellKind", desc := "(LCoinBoats$Rows;)V" } : MethodName) prog_7_method_6_code (3 : Nat) (Option.none : Option Jvm.ClassFile.FieldType)) ∈ ai_tb := ai_wd3 112 rfl rfl
theorem wd_649 : (Cond.code ({ cls := "CoinBoats$Reader", name := "tellIsland", desc := "(LCoinBoats$Rows;)V" } : MethodName) prog_7_method_7_code (3 : Nat) (Option.none : Option Jvm.ClassFile.FieldType)) ∈ ai_tb := ai_wd3 169 rfl rfl
theorem wd_653 : (Cond.code ({ cls := "CoinBoats$Reader", name := "tellOfIsland", desc := "(LCoinBoats$Rows;)V" } : MethodName) prog_7_method_8_code (3 : Nat) (Option.none : Option Jvm.ClassFile.FieldType)) ∈ ai_tb := ai_wd3 173 rfl rfl
theorem wd_702 : (Cond.code ({ cls := "CoinBoats$Reader", name := "tellFlow", desc := "(LCoinBoats$Rows;)V" } : MethodName) prog_7_method_9_code (6 : Nat) (Option.none : Option Jvm.ClassFile.FieldType)) ∈ ai_tb := ai_wd3 222 rfl rfl
theorem wd_706 : (Cond.code ({ cls := "CoinBoats$Reader", name := "tellWear", desc := "(LCoinBoats$Rows;)V" } : MethodName) prog_7_method_10_code (3 : Nat) (Option.none : Option Jvm.ClassFile.FieldType)) ∈ ai_tb := ai_wd3 226 rfl rfl
theorem wd_710 : (Cond.code ({ cls := "CoinBoats$Reader", name := "tellBoat", desc := "(LCoinBoats$Rows;LCoinBoats$Text;)V" } : MethodName) prog_7_method_11_code (7 : Nat) (Option.none : Option Jvm.ClassFile.FieldType)) ∈ ai_tb := ai_wd3 230 rfl rfl
theorem wd_596 : (Cond.code ({ cls := "CoinBoats$Reader", name := "open", desc := "(LCoinBoats$Rows;)I" } : MethodName) prog_7_method_12_code (2 : Nat) (Option.some Jvm.ClassFile.FieldType.int)) ∈ ai_tb := ai_wd3 116 rfl rfl
theorem wd_625 : (Cond.code ({ cls := "CoinBoats$Reader", name := "newName", desc := "([JI)V" } : MethodName) prog_7_method_13_code (5 : Nat) (Option.none : Option Jvm.ClassFile.FieldType)) ∈ ai_tb := ai_wd3 145 rfl rfl
theorem wd_657 : (Cond.code ({ cls := "CoinBoats$Reader", name := "placeTold", desc := "(Z)I" } : MethodName) prog_7_method_14_code (3 : Nat) (Option.some Jvm.ClassFile.FieldType.int)) ∈ ai_tb := ai_wd3 177 rfl rfl
theorem wd_665 : (Cond.code ({ cls := "CoinBoats$Reader", name := "kindTold", desc := "()I" } : MethodName) prog_7_method_15_code (1 : Nat) (Option.some Jvm.ClassFile.FieldType.int)) ∈ ai_tb := ai_wd3 185 rfl rfl
theorem wd_661 : (Cond.code ({ cls := "CoinBoats$Reader", name := "nameTold", desc := "(I)I" } : MethodName) prog_7_method_16_code (2 : Nat) (Option.some Jvm.ClassFile.FieldType.int)) ∈ ai_tb := ai_wd3 181 rfl rfl
theorem wd_632 : (Cond.code ({ cls := "CoinBoats$Reader", name := "indexOf", desc := "([JJ)I" } : MethodName) prog_7_method_17_code (4 : Nat) (Option.some Jvm.ClassFile.FieldType.int)) ∈ ai_tb := ai_wd3 152 rfl rfl
theorem wd_644 : (Cond.code ({ cls := "CoinBoats$Reader", name := "number", desc := "(II)I" } : MethodName) prog_7_method_18_code (4 : Nat) (Option.some Jvm.ClassFile.FieldType.int)) ∈ ai_tb := ai_wd3 164 rfl rfl
theorem wd_669 : (Cond.code ({ cls := "CoinBoats$Reader", name := "equation", desc := "(LCoinBoats$Rows;LCoinBoats$Formulas;)V" } : MethodName) prog_7_method_19_code (4 : Nat) (Option.none : Option Jvm.ClassFile.FieldType)) ∈ ai_tb := ai_wd3 189 rfl rfl
theorem wd_681 : (Cond.code ({ cls := "CoinBoats$Reader", name := "sum", desc := "(LCoinBoats$Formulas;I)V" } : MethodName) prog_7_method_20_code (5 : Nat) (Option.none : Option Jvm.ClassFile.FieldType)) ∈ ai_tb := ai_wd3 201 rfl rfl
theorem wd_685 : (Cond.code ({ cls := "CoinBoats$Reader", name := "product", desc := "(LCoinBoats$Formulas;I)V" } : MethodName) prog_7_method_21_code (5 : Nat) (Option.none : Option Jvm.ClassFile.FieldType)) ∈ ai_tb := ai_wd3 205 rfl rfl
theorem wd_689 : (Cond.code ({ cls := "CoinBoats$Reader", name := "unit", desc := "(LCoinBoats$Formulas;I)V" } : MethodName) prog_7_method_22_code (3 : Nat) (Option.none : Option Jvm.ClassFile.FieldType)) ∈ ai_tb := ai_wd3 209 rfl rfl
theorem wd_698 : (Cond.code ({ cls := "CoinBoats$Reader", name := "nest", desc := "(LCoinBoats$Formulas;I)V" } : MethodName) prog_7_method_23_code (5 : Nat) (Option.none : Option Jvm.ClassFile.FieldType)) ∈ ai_tb := ai_wd3 218 rfl rfl
theorem wd_580 : (Cond.code ({ cls := "CoinBoats$Reader", name := "upcoming", desc := "()I" } : MethodName) prog_7_method_24_code (1 : Nat) (Option.some Jvm.ClassFile.FieldType.int)) ∈ ai_tb := ai_wd3 100 rfl rfl
theorem wd_640 : (Cond.code ({ cls := "CoinBoats$Reader", name := "expect", desc := "(I)V" } : MethodName) prog_7_method_25_code (2 : Nat) (Option.none : Option Jvm.ClassFile.FieldType)) ∈ ai_tb := ai_wd3 160 rfl rfl
theorem wd_608 : (Cond.code ({ cls := "CoinBoats$Reader", name := "accept", desc := "()V" } : MethodName) prog_7_method_26_code (1 : Nat) (Option.none : Option Jvm.ClassFile.FieldType)) ∈ ai_tb := ai_wd3 128 rfl rfl
theorem wd_604 : (Cond.code ({ cls := "CoinBoats$Reader", name := "fail", desc := "(I)V" } : MethodName) prog_7_method_27_code (2 : Nat) (Option.none : Option Jvm.ClassFile.FieldType)) ∈ ai_tb := ai_wd3 124 rfl rfl
theorem wd_636 : (Cond.code ({ cls := "CoinBoats$Reader", name := "failLater", desc := "(II)V" } : MethodName) prog_7_method_28_code (3 : Nat) (Option.none : Option Jvm.ClassFile.FieldType)) ∈ ai_tb := ai_wd3 156 rfl rfl
theorem wd_39 : (Cond.code ({ cls := "CoinBoats$Rows", name := "<init>", desc := "(II)V" } : MethodName) prog_8_method_1_code (3 : Nat) (Option.none : Option Jvm.ClassFile.FieldType)) ∈ ai_tb := ai_wd1 39 rfl rfl
theorem wd_673 : (Cond.code ({ cls := "CoinBoats$Rows", name := "size", desc := "()I" } : MethodName) prog_8_method_2_code (1 : Nat) (Option.some Jvm.ClassFile.FieldType.int)) ∈ ai_tb := ai_wd3 193 rfl rfl
theorem wd_600 : (Cond.code ({ cls := "CoinBoats$Rows", name := "isFull", desc := "()Z" } : MethodName) prog_8_method_3_code (1 : Nat) (Option.some Jvm.ClassFile.FieldType.boolean)) ∈ ai_tb := ai_wd3 120 rfl rfl
theorem wd_612 : (Cond.code ({ cls := "CoinBoats$Rows", name := "add", desc := "()I" } : MethodName) prog_8_method_4_code (2 : Nat) (Option.some Jvm.ClassFile.FieldType.int)) ∈ ai_tb := ai_wd3 132 rfl rfl
theorem wd_719 : (Cond.code ({ cls := "CoinBoats$Rows", name := "get", desc := "(II)I" } : MethodName) prog_8_method_5_code (4 : Nat) (Option.some Jvm.ClassFile.FieldType.int)) ∈ ai_tb := ai_wd3 239 rfl rfl
theorem wd_617 : (Cond.code ({ cls := "CoinBoats$Rows", name := "put", desc := "(III)V" } : MethodName) prog_8_method_6_code (5 : Nat) (Option.none : Option Jvm.ClassFile.FieldType)) ∈ ai_tb := ai_wd3 137 rfl rfl
theorem wd_621 : (Cond.code ({ cls := "CoinBoats$Rows", name := "cell", desc := "(II)I" } : MethodName) prog_8_method_7_code (4 : Nat) (Option.some Jvm.ClassFile.FieldType.int)) ∈ ai_tb := ai_wd3 141 rfl rfl
theorem wd_421 : (Cond.code ({ cls := "CoinBoats$Rows", name := "clear", desc := "()V" } : MethodName) prog_8_method_8_code (1 : Nat) (Option.none : Option Jvm.ClassFile.FieldType)) ∈ ai_tb := ai_wd2 181 rfl rfl
theorem wd_210 : (Cond.code ({ cls := "CoinBoats$Rows", name := "zero", desc := "()V" } : MethodName) prog_8_method_9_code (2 : Nat) (Option.none : Option Jvm.ClassFile.FieldType)) ∈ ai_tb := ai_wd1 210 rfl rfl
theorem wd_872 : (Cond.code ({ cls := "CoinBoats$Rows", name := "copy", desc := "(LCoinBoats$Rows;)V" } : MethodName) prog_8_method_10_code (3 : Nat) (Option.none : Option Jvm.ClassFile.FieldType)) ∈ ai_tb := ai_wd4 152 rfl rfl
theorem wd_197 : (Cond.code ({ cls := "CoinBoats$State", name := "<init>", desc := "()V" } : MethodName) prog_9_method_1_code (1 : Nat) (Option.none : Option Jvm.ClassFile.FieldType)) ∈ ai_tb := ai_wd1 197 rfl rfl
theorem wd_731 : (Cond.code ({ cls := "CoinBoats$State", name := "clear", desc := "()V" } : MethodName) prog_9_method_2_code (1 : Nat) (Option.none : Option Jvm.ClassFile.FieldType)) ∈ ai_tb := ai_wd4 11 rfl rfl
theorem wd_1308 : (Cond.code ({ cls := "CoinBoats$State", name := "copy", desc := "(LCoinBoats$State;)V" } : MethodName) prog_9_method_3_code (2 : Nat) (Option.none : Option Jvm.ClassFile.FieldType)) ∈ ai_tb := ai_wd6 108 rfl rfl
theorem wd_306 : (Cond.code ({ cls := "CoinBoats$Stocks", name := "<init>", desc := "()V" } : MethodName) prog_10_method_1_code (1 : Nat) (Option.none : Option Jvm.ClassFile.FieldType)) ∈ ai_tb := ai_wd2 66 rfl rfl
theorem wd_1072 : (Cond.code ({ cls := "CoinBoats$Stocks", name := "plan", desc := "(LCoinBoats$Text;IIIII)V" } : MethodName) prog_10_method_2_code (11 : Nat) (Option.none : Option Jvm.ClassFile.FieldType)) ∈ ai_tb := ai_wd5 112 rfl rfl
theorem wd_1078 : (Cond.code ({ cls := "CoinBoats$Stocks", name := "takeWanted", desc := "(IIIJ)V" } : MethodName) prog_10_method_3_code (11 : Nat) (Option.none : Option Jvm.ClassFile.FieldType)) ∈ ai_tb := ai_wd5 118 rfl rfl
theorem wd_1087 : (Cond.code ({ cls := "CoinBoats$Stocks", name := "chooseOrders", desc := "(LCoinBoats$Text;IIIJ)V" } : MethodName) prog_10_method_4_code (19 : Nat) (Option.none : Option Jvm.ClassFile.FieldType)) ∈ ai_tb := ai_wd5 127 rfl rfl
theorem wd_1093 : (Cond.code ({ cls := "CoinBoats$Stocks", name := "behind", desc := "(I)J" } : MethodName) prog_10_method_5_code (2 : Nat) (Option.some Jvm.ClassFile.FieldType.long)) ∈ ai_tb := ai_wd5 133 rfl rfl
theorem wd_1083 : (Cond.code ({ cls := "CoinBoats$Stocks", name := "cost", desc := "(I)J" } : MethodName) prog_10_method_6_code (2 : Nat) (Option.some Jvm.ClassFile.FieldType.long)) ∈ ai_tb := ai_wd5 123 rfl rfl
theorem wd_1102 : (Cond.code ({ cls := "CoinBoats$Stocks", name := "brings", desc := "(I)I" } : MethodName) prog_10_method_7_code (2 : Nat) (Option.some Jvm.ClassFile.FieldType.int)) ∈ ai_tb := ai_wd5 142 rfl rfl
theorem wd_1133 : (Cond.code ({ cls := "CoinBoats$Stocks", name := "saving", desc := "(LCoinBoats$Text;LCoinBoats$Pieces;III)I" } : MethodName) prog_10_method_8_code (7 : Nat) (Option.some Jvm.ClassFile.FieldType.int)) ∈ ai_tb := ai_wd5 173 rfl rfl
theorem wd_1117 : (Cond.code ({ cls := "CoinBoats$Stocks", name := "harm", desc := "(LCoinBoats$Text;LCoinBoats$Pieces;III)I" } : MethodName) prog_10_method_9_code (12 : Nat) (Option.some Jvm.ClassFile.FieldType.int)) ∈ ai_tb := ai_wd5 157 rfl rfl
theorem wd_1125 : (Cond.code ({ cls := "CoinBoats$Stocks", name := "mostHarmed", desc := "(LCoinBoats$Text;I)I" } : MethodName) prog_10_method_10_code (4 : Nat) (Option.some Jvm.ClassFile.FieldType.int)) ∈ ai_tb := ai_wd5 165 rfl rfl
theorem wd_1121 : (Cond.code ({ cls := "CoinBoats$Stocks", name := "isIn", desc := "(II)Z" } : MethodName) prog_10_method_11_code (2 : Nat) (Option.some Jvm.ClassFile.FieldType.boolean)) ∈ ai_tb := ai_wd5 161 rfl rfl
theorem wd_33 : (Cond.code ({ cls := "CoinBoats$Text", name := "<init>", desc := "()V" } : MethodName) prog_11_method_1_code (1 : Nat) (Option.none : Option Jvm.ClassFile.FieldType)) ∈ ai_tb := ai_wd1 33 rfl rfl
theorem wd_417 : (Cond.code ({ cls := "CoinBoats$Text", name := "clear", desc := "()V" } : MethodName) prog_11_method_2_code (1 : Nat) (Option.none : Option Jvm.ClassFile.FieldType)) ∈ ai_tb := ai_wd2 177 rfl rfl
theorem wd_748 : (Cond.code ({ cls := "CoinBoats$Text", name := "isKind", desc := "(I)Z" } : MethodName) prog_11_method_3_code (2 : Nat) (Option.some Jvm.ClassFile.FieldType.boolean)) ∈ ai_tb := ai_wd4 28 rfl rfl
theorem wd_760 : (Cond.code ({ cls := "CoinBoats$Text", name := "isIsland", desc := "(I)Z" } : MethodName) prog_11_method_4_code (2 : Nat) (Option.some Jvm.ClassFile.FieldType.boolean)) ∈ ai_tb := ai_wd4 40 rfl rfl
theorem wd_840 : (Cond.code ({ cls := "CoinBoats$Text", name := "isPlace", desc := "(I)Z" } : MethodName) prog_11_method_5_code (2 : Nat) (Option.some Jvm.ClassFile.FieldType.boolean)) ∈ ai_tb := ai_wd4 120 rfl rfl
theorem wd_955 : (Cond.code ({ cls := "CoinBoats$Text", name := "harmOf", desc := "(I)I" } : MethodName) prog_11_method_6_code (2 : Nat) (Option.some Jvm.ClassFile.FieldType.int)) ∈ ai_tb := ai_wd4 235 rfl rfl
theorem wd_714 : (Cond.code ({ cls := "CoinBoats$Text", name := "boatOf", desc := "(II)I" } : MethodName) prog_11_method_7_code (4 : Nat) (Option.some Jvm.ClassFile.FieldType.int)) ∈ ai_tb := ai_wd3 234 rfl rfl
theorem wd_780 : (Cond.code ({ cls := "CoinBoats$Text", name := "wanted", desc := "(III)I" } : MethodName) prog_11_method_8_code (5 : Nat) (Option.some Jvm.ClassFile.FieldType.int)) ∈ ai_tb := ai_wd4 60 rfl rfl
theorem wd_939 : (Cond.code ({ cls := "CoinBoats$Text", name := "isInForce", desc := "(LCoinBoats$Rows;I)Z" } : MethodName) prog_11_method_9_code (3 : Nat) (Option.some Jvm.ClassFile.FieldType.boolean)) ∈ ai_tb := ai_wd4 219 rfl rfl
theorem wd_783 : (Cond.code ({ cls := "CoinBoats$Text", name := "lastOf", desc := "(LCoinBoats$Rows;II)I" } : MethodName) prog_11_method_10_code (4 : Nat) (Option.some Jvm.ClassFile.FieldType.int)) ∈ ai_tb := ai_wd4 63 rfl rfl
theorem wd_787 : (Cond.code ({ cls := "CoinBoats$Text", name := "says", desc := "(LCoinBoats$Rows;IIIII)I" } : MethodName) prog_11_method_11_code (9 : Nat) (Option.some Jvm.ClassFile.FieldType.int)) ∈ ai_tb := ai_wd4 67 rfl rfl
theorem wd_143 : (Cond.code ({ cls := "CoinBoats$Tokens", name := "<init>", desc := "()V" } : MethodName) prog_12_method_1_code (1 : Nat) (Option.none : Option Jvm.ClassFile.FieldType)) ∈ ai_tb := ai_wd1 143 rfl rfl
theorem wd_429 : (Cond.code ({ cls := "CoinBoats$Tokens", name := "scan", desc := "([BI)V" } : MethodName) prog_12_method_2_code (5 : Nat) (Option.none : Option Jvm.ClassFile.FieldType)) ∈ ai_tb := ai_wd2 189 rfl rfl
theorem wd_584 : (Cond.code ({ cls := "CoinBoats$Tokens", name := "sortOf", desc := "(I)I" } : MethodName) prog_12_method_3_code (3 : Nat) (Option.some Jvm.ClassFile.FieldType.int)) ∈ ai_tb := ai_wd3 104 rfl rfl
theorem wd_727 : (Cond.code ({ cls := "CoinBoats$Tokens", name := "placeOf", desc := "(I)I" } : MethodName) prog_12_method_4_code (3 : Nat) (Option.some Jvm.ClassFile.FieldType.int)) ∈ ai_tb := ai_wd4 7 rfl rfl
theorem wd_629 : (Cond.code ({ cls := "CoinBoats$Tokens", name := "valueOf", desc := "(I)J" } : MethodName) prog_12_method_5_code (3 : Nat) (Option.some Jvm.ClassFile.FieldType.long)) ∈ ai_tb := ai_wd3 149 rfl rfl
theorem wd_440 : (Cond.code ({ cls := "CoinBoats$Tokens", name := "skipBlanks", desc := "([B)V" } : MethodName) prog_12_method_6_code (2 : Nat) (Option.none : Option Jvm.ClassFile.FieldType)) ∈ ai_tb := ai_wd2 200 rfl rfl
theorem wd_451 : (Cond.code ({ cls := "CoinBoats$Tokens", name := "next", desc := "([B)I" } : MethodName) prog_12_method_7_code (3 : Nat) (Option.some Jvm.ClassFile.FieldType.int)) ∈ ai_tb := ai_wd2 211 rfl rfl
theorem wd_458 : (Cond.code ({ cls := "CoinBoats$Tokens", name := "word", desc := "([B)I" } : MethodName) prog_12_method_8_code (4 : Nat) (Option.some Jvm.ClassFile.FieldType.int)) ∈ ai_tb := ai_wd2 218 rfl rfl
theorem wd_462 : (Cond.code ({ cls := "CoinBoats$Tokens", name := "isWord", desc := "([BII)Z" } : MethodName) prog_12_method_9_code (8 : Nat) (Option.some Jvm.ClassFile.FieldType.boolean)) ∈ ai_tb := ai_wd2 222 rfl rfl
theorem wd_518 : (Cond.code ({ cls := "CoinBoats$Tokens", name := "digits", desc := "([B)I" } : MethodName) prog_12_method_10_code (3 : Nat) (Option.some Jvm.ClassFile.FieldType.int)) ∈ ai_tb := ai_wd3 38 rfl rfl
theorem wd_444 : (Cond.code ({ cls := "CoinBoats$Tokens", name := "byteAt", desc := "([BI)I" } : MethodName) prog_12_method_11_code (3 : Nat) (Option.some Jvm.ClassFile.FieldType.int)) ∈ ai_tb := ai_wd2 204 rfl rfl
theorem wd_447 : (Cond.code ({ cls := "CoinBoats$Tokens", name := "isBlank", desc := "(I)Z" } : MethodName) prog_12_method_12_code (1 : Nat) (Option.some Jvm.ClassFile.FieldType.boolean)) ∈ ai_tb := ai_wd2 207 rfl rfl
theorem wd_454 : (Cond.code ({ cls := "CoinBoats$Tokens", name := "isLetter", desc := "(I)Z" } : MethodName) prog_12_method_13_code (1 : Nat) (Option.some Jvm.ClassFile.FieldType.boolean)) ∈ ai_tb := ai_wd2 214 rfl rfl
theorem wd_514 : (Cond.code ({ cls := "CoinBoats$Tokens", name := "isDigit", desc := "(I)Z" } : MethodName) prog_12_method_14_code (1 : Nat) (Option.some Jvm.ClassFile.FieldType.boolean)) ∈ ai_tb := ai_wd3 34 rfl rfl
theorem wd_25 : (Cond.code ({ cls := "CoinBoats", name := "<init>", desc := "()V" } : MethodName) prog_1_method_1_code (1 : Nat) (Option.none : Option Jvm.ClassFile.FieldType)) ∈ ai_tb := ai_wd1 25 rfl rfl
theorem wd_394 : (Cond.code ({ cls := "CoinBoats", name := "feed", desc := "(IIIII)I" } : MethodName) prog_1_method_2_code (6 : Nat) (Option.some Jvm.ClassFile.FieldType.int)) ∈ ai_tb := ai_wd2 154 rfl rfl
theorem wd_398 : (Cond.code ({ cls := "CoinBoats", name := "append", desc := "(I)V" } : MethodName) prog_1_method_3_code (3 : Nat) (Option.none : Option Jvm.ClassFile.FieldType)) ∈ ai_tb := ai_wd2 158 rfl rfl
theorem wd_402 : (Cond.code ({ cls := "CoinBoats", name := "back", desc := "(I)I" } : MethodName) prog_1_method_4_code (2 : Nat) (Option.some Jvm.ClassFile.FieldType.int)) ∈ ai_tb := ai_wd2 162 rfl rfl
theorem wd_406 : (Cond.code ({ cls := "CoinBoats", name := "read", desc := "()I" } : MethodName) prog_1_method_5_code (3 : Nat) (Option.some Jvm.ClassFile.FieldType.int)) ∈ ai_tb := ai_wd2 166 rfl rfl
theorem wd_740 : (Cond.code ({ cls := "CoinBoats", name := "place", desc := "()I" } : MethodName) prog_1_method_6_code (1 : Nat) (Option.some Jvm.ClassFile.FieldType.int)) ∈ ai_tb := ai_wd4 20 rfl rfl
theorem wd_744 : (Cond.code ({ cls := "CoinBoats", name := "kind", desc := "(II)I" } : MethodName) prog_1_method_7_code (4 : Nat) (Option.some Jvm.ClassFile.FieldType.int)) ∈ ai_tb := ai_wd4 24 rfl rfl
theorem wd_756 : (Cond.code ({ cls := "CoinBoats", name := "island", desc := "(II)I" } : MethodName) prog_1_method_8_code (4 : Nat) (Option.some Jvm.ClassFile.FieldType.int)) ∈ ai_tb := ai_wd4 36 rfl rfl
theorem wd_764 : (Cond.code ({ cls := "CoinBoats", name := "boat", desc := "(II)I" } : MethodName) prog_1_method_9_code (4 : Nat) (Option.some Jvm.ClassFile.FieldType.int)) ∈ ai_tb := ai_wd4 44 rfl rfl
theorem wd_772 : (Cond.code ({ cls := "CoinBoats", name := "want", desc := "(III)I" } : MethodName) prog_1_method_10_code (5 : Nat) (Option.some Jvm.ClassFile.FieldType.int)) ∈ ai_tb := ai_wd4 52 rfl rfl
theorem wd_809 : (Cond.code ({ cls := "CoinBoats", name := "strike", desc := "(II)I" } : MethodName) prog_1_method_11_code (3 : Nat) (Option.some Jvm.ClassFile.FieldType.int)) ∈ ai_tb := ai_wd4 89 rfl rfl
theorem wd_832 : (Cond.code ({ cls := "CoinBoats", name := "burn", desc := "(II)I" } : MethodName) prog_1_method_12_code (6 : Nat) (Option.some Jvm.ClassFile.FieldType.int)) ∈ ai_tb := ai_wd4 112 rfl rfl
theorem wd_836 : (Cond.code ({ cls := "CoinBoats", name := "lay", desc := "(IIII)I" } : MethodName) prog_1_method_13_code (5 : Nat) (Option.some Jvm.ClassFile.FieldType.int)) ∈ ai_tb := ai_wd4 116 rfl rfl
theorem wd_844 : (Cond.code ({ cls := "CoinBoats", name := "has", desc := "(III)I" } : MethodName) prog_1_method_14_code (4 : Nat) (Option.some Jvm.ClassFile.FieldType.int)) ∈ ai_tb := ai_wd4 124 rfl rfl
theorem wd_848 : (Cond.code ({ cls := "CoinBoats", name := "send", desc := "(IIIIZ)I" } : MethodName) prog_1_method_15_code (7 : Nat) (Option.some Jvm.ClassFile.FieldType.int)) ∈ ai_tb := ai_wd4 128 rfl rfl
theorem wd_855 : (Cond.code ({ cls := "CoinBoats", name := "done", desc := "(I)I" } : MethodName) prog_1_method_16_code (3 : Nat) (Option.some Jvm.ClassFile.FieldType.int)) ∈ ai_tb := ai_wd4 135 rfl rfl
theorem wd_860 : (Cond.code ({ cls := "CoinBoats", name := "judge", desc := "()I" } : MethodName) prog_1_method_17_code (1 : Nat) (Option.some Jvm.ClassFile.FieldType.int)) ∈ ai_tb := ai_wd4 140 rfl rfl
theorem wd_911 : (Cond.code ({ cls := "CoinBoats", name := "why", desc := "()I" } : MethodName) prog_1_method_18_code (1 : Nat) (Option.some Jvm.ClassFile.FieldType.int)) ∈ ai_tb := ai_wd4 191 rfl rfl
theorem wd_919 : (Cond.code ({ cls := "CoinBoats", name := "months", desc := "(II)I" } : MethodName) prog_1_method_19_code (5 : Nat) (Option.some Jvm.ClassFile.FieldType.int)) ∈ ai_tb := ai_wd4 199 rfl rfl
theorem wd_959 : (Cond.code ({ cls := "CoinBoats", name := "lacks", desc := "(II)I" } : MethodName) prog_1_method_20_code (3 : Nat) (Option.some Jvm.ClassFile.FieldType.int)) ∈ ai_tb := ai_wd4 239 rfl rfl
theorem wd_963 : (Cond.code ({ cls := "CoinBoats", name := "spent", desc := "(I)J" } : MethodName) prog_1_method_21_code (2 : Nat) (Option.some Jvm.ClassFile.FieldType.long)) ∈ ai_tb := ai_wd5 3 rfl rfl
theorem wd_968 : (Cond.code ({ cls := "CoinBoats", name := "pay", desc := "(III)I" } : MethodName) prog_1_method_22_code (5 : Nat) (Option.some Jvm.ClassFile.FieldType.int)) ∈ ai_tb := ai_wd5 8 rfl rfl
theorem wd_1020 : (Cond.code ({ cls := "CoinBoats", name := "change", desc := "(IIII)I" } : MethodName) prog_1_method_23_code (8 : Nat) (Option.some Jvm.ClassFile.FieldType.int)) ∈ ai_tb := ai_wd5 60 rfl rfl
theorem wd_1036 : (Cond.code ({ cls := "CoinBoats", name := "which", desc := "(II)I" } : MethodName) prog_1_method_24_code (3 : Nat) (Option.some Jvm.ClassFile.FieldType.int)) ∈ ai_tb := ai_wd5 76 rfl rfl
theorem wd_1058 : (Cond.code ({ cls := "CoinBoats", name := "whichSum", desc := "(II)I" } : MethodName) prog_1_method_25_code (4 : Nat) (Option.some Jvm.ClassFile.FieldType.int)) ∈ ai_tb := ai_wd5 98 rfl rfl
theorem wd_1064 : (Cond.code ({ cls := "CoinBoats", name := "least", desc := "(IIIIII)J" } : MethodName) prog_1_method_26_code (7 : Nat) (Option.some Jvm.ClassFile.FieldType.long)) ∈ ai_tb := ai_wd5 104 rfl rfl
theorem wd_1098 : (Cond.code ({ cls := "CoinBoats", name := "order", desc := "(IIIIII)I" } : MethodName) prog_1_method_27_code (7 : Nat) (Option.some Jvm.ClassFile.FieldType.int)) ∈ ai_tb := ai_wd5 138 rfl rfl
theorem wd_1106 : (Cond.code ({ cls := "CoinBoats", name := "price", desc := "(IIIIII)J" } : MethodName) prog_1_method_28_code (7 : Nat) (Option.some Jvm.ClassFile.FieldType.long)) ∈ ai_tb := ai_wd5 146 rfl rfl
theorem wd_1110 : (Cond.code ({ cls := "CoinBoats", name := "pool", desc := "(III)I" } : MethodName) prog_1_method_29_code (4 : Nat) (Option.some Jvm.ClassFile.FieldType.int)) ∈ ai_tb := ai_wd5 150 rfl rfl
theorem wd_1130 : (Cond.code ({ cls := "CoinBoats", name := "saved", desc := "(III)I" } : MethodName) prog_1_method_30_code (4 : Nat) (Option.some Jvm.ClassFile.FieldType.int)) ∈ ai_tb := ai_wd5 170 rfl rfl
theorem wd_1138 : (Cond.code ({ cls := "CoinBoats", name := "holds", desc := "(IIIIII)I" } : MethodName) prog_1_method_31_code (10 : Nat) (Option.some Jvm.ClassFile.FieldType.int)) ∈ ai_tb := ai_wd5 178 rfl rfl
theorem wd_1141 : (Cond.code ({ cls := "CoinBoats", name := "sumOfParts", desc := "(IIIII)J" } : MethodName) prog_1_method_32_code (7 : Nat) (Option.some Jvm.ClassFile.FieldType.long)) ∈ ai_tb := ai_wd5 181 rfl rfl
theorem wd_1145 : (Cond.code ({ cls := "CoinBoats", name := "book", desc := "(IIIZ)I" } : MethodName) prog_1_method_33_code (6 : Nat) (Option.some Jvm.ClassFile.FieldType.int)) ∈ ai_tb := ai_wd5 185 rfl rfl
theorem wd_1149 : (Cond.code ({ cls := "CoinBoats", name := "looked", desc := "(III)I" } : MethodName) prog_1_method_34_code (5 : Nat) (Option.some Jvm.ClassFile.FieldType.int)) ∈ ai_tb := ai_wd5 189 rfl rfl
theorem wd_1153 : (Cond.code ({ cls := "CoinBoats", name := "annul", desc := "(I)I" } : MethodName) prog_1_method_35_code (3 : Nat) (Option.some Jvm.ClassFile.FieldType.int)) ∈ ai_tb := ai_wd5 193 rfl rfl
theorem wd_1157 : (Cond.code ({ cls := "CoinBoats", name := "balance", desc := "(III)I" } : MethodName) prog_1_method_36_code (4 : Nat) (Option.some Jvm.ClassFile.FieldType.int)) ∈ ai_tb := ai_wd5 197 rfl rfl
theorem wd_1189 : (Cond.code ({ cls := "CoinBoats", name := "richest", desc := "(I)I" } : MethodName) prog_1_method_37_code (2 : Nat) (Option.some Jvm.ClassFile.FieldType.int)) ∈ ai_tb := ai_wd5 229 rfl rfl
theorem wd_1199 : (Cond.code ({ cls := "CoinBoats", name := "jars", desc := "(IIII)I" } : MethodName) prog_1_method_38_code (6 : Nat) (Option.some Jvm.ClassFile.FieldType.int)) ∈ ai_tb := ai_wd5 239 rfl rfl
theorem wd_1226 : (Cond.code ({ cls := "CoinBoats", name := "ends", desc := "(IIII)I" } : MethodName) prog_1_method_39_code (5 : Nat) (Option.some Jvm.ClassFile.FieldType.int)) ∈ ai_tb := ai_wd6 26 rfl rfl
theorem wd_1239 : (Cond.code ({ cls := "CoinBoats", name := "whose", desc := "(I)I" } : MethodName) prog_1_method_40_code (2 : Nat) (Option.some Jvm.ClassFile.FieldType.int)) ∈ ai_tb := ai_wd6 39 rfl rfl
theorem wd_1270 : (Cond.code ({ cls := "CoinBoats", name := "whoseWays", desc := "(IIZ)J" } : MethodName) prog_1_method_41_code (4 : Nat) (Option.some Jvm.ClassFile.FieldType.long)) ∈ ai_tb := ai_wd6 70 rfl rfl
theorem wd_1279 : (Cond.code ({ cls := "CoinBoats", name := "trickle", desc := "(IIII)I" } : MethodName) prog_1_method_42_code (9 : Nat) (Option.some Jvm.ClassFile.FieldType.int)) ∈ ai_tb := ai_wd6 79 rfl rfl
theorem wd_1292 : (Cond.code ({ cls := "CoinBoats", name := "trickled", desc := "(IIII)I" } : MethodName) prog_1_method_43_code (7 : Nat) (Option.some Jvm.ClassFile.FieldType.int)) ∈ ai_tb := ai_wd6 92 rfl rfl
theorem wd_1285 : (Cond.code ({ cls := "CoinBoats", name := "comesBack", desc := "(II)I" } : MethodName) prog_1_method_44_code (2 : Nat) (Option.some Jvm.ClassFile.FieldType.int)) ∈ ai_tb := ai_wd6 85 rfl rfl
theorem wd_1288 : (Cond.code ({ cls := "CoinBoats", name := "stillOut", desc := "(II)I" } : MethodName) prog_1_method_45_code (2 : Nat) (Option.some Jvm.ClassFile.FieldType.int)) ∈ ai_tb := ai_wd6 88 rfl rfl
theorem wd_1296 : (Cond.code ({ cls := "CoinBoats", name := "burnAt", desc := "(III)I" } : MethodName) prog_1_method_46_code (8 : Nat) (Option.some Jvm.ClassFile.FieldType.int)) ∈ ai_tb := ai_wd6 96 rfl rfl
theorem wd_1300 : (Cond.code ({ cls := "CoinBoats", name := "sort", desc := "(IIIIIII)I" } : MethodName) prog_1_method_47_code (12 : Nat) (Option.some Jvm.ClassFile.FieldType.int)) ∈ ai_tb := ai_wd6 100 rfl rfl
theorem wd_1304 : (Cond.code ({ cls := "CoinBoats", name := "hold", desc := "(I)Z" } : MethodName) prog_1_method_48_code (3 : Nat) (Option.some Jvm.ClassFile.FieldType.boolean)) ∈ ai_tb := ai_wd6 104 rfl rfl
theorem wd_1314 : (Cond.code ({ cls := "CoinBoats", name := "restore", desc := "(I)Z" } : MethodName) prog_1_method_49_code (3 : Nat) (Option.some Jvm.ClassFile.FieldType.boolean)) ∈ ai_tb := ai_wd6 114 rfl rfl
theorem wd_1318 : (Cond.code ({ cls := "CoinBoats", name := "count", desc := "(I)I" } : MethodName) prog_1_method_50_code (2 : Nat) (Option.some Jvm.ClassFile.FieldType.int)) ∈ ai_tb := ai_wd6 118 rfl rfl
theorem wd_776 : (Cond.code ({ cls := "CoinBoats", name := "isOf", desc := "(II)Z" } : MethodName) prog_1_method_51_code (3 : Nat) (Option.some Jvm.ClassFile.FieldType.boolean)) ∈ ai_tb := ai_wd4 56 rfl rfl
theorem wd_1161 : (Cond.code ({ cls := "CoinBoats", name := "isKnown", desc := "(I)Z" } : MethodName) prog_1_method_52_code (2 : Nat) (Option.some Jvm.ClassFile.FieldType.boolean)) ∈ ai_tb := ai_wd5 201 rfl rfl
theorem wd_1068 : (Cond.code ({ cls := "CoinBoats", name := "isPlan", desc := "(IIIII)Z" } : MethodName) prog_1_method_53_code (6 : Nat) (Option.some Jvm.ClassFile.FieldType.boolean)) ∈ ai_tb := ai_wd5 108 rfl rfl
theorem wd_1114 : (Cond.code ({ cls := "CoinBoats", name := "isShare", desc := "(III)Z" } : MethodName) prog_1_method_54_code (4 : Nat) (Option.some Jvm.ClassFile.FieldType.boolean)) ∈ ai_tb := ai_wd5 154 rfl rfl
theorem wd_1203 : (Cond.code ({ cls := "CoinBoats", name := "isJars", desc := "(III)Z" } : MethodName) prog_1_method_55_code (4 : Nat) (Option.some Jvm.ClassFile.FieldType.boolean)) ∈ ai_tb := ai_wd6 3 rfl rfl
theorem wd_1282 : (Cond.code ({ cls := "CoinBoats", name := "isTrickle", desc := "(III)Z" } : MethodName) prog_1_method_56_code (3 : Nat) (Option.some Jvm.ClassFile.FieldType.boolean)) ∈ ai_tb := ai_wd6 82 rfl rfl
theorem wd_971 : (Cond.code ({ cls := "CoinBoats", name := "isSum", desc := "(I)Z" } : MethodName) prog_1_method_57_code (1 : Nat) (Option.some Jvm.ClassFile.FieldType.boolean)) ∈ ai_tb := ai_wd5 11 rfl rfl
theorem wd_767 : (Cond.code ({ cls := "CoinBoats", name := "isMonth", desc := "(I)Z" } : MethodName) prog_1_method_58_code (1 : Nat) (Option.some Jvm.ClassFile.FieldType.boolean)) ∈ ai_tb := ai_wd4 47 rfl rfl
theorem wd_751 : (Cond.code ({ cls := "CoinBoats", name := "within", desc := "(III)Z" } : MethodName) prog_1_method_59_code (3 : Nat) (Option.some Jvm.ClassFile.FieldType.boolean)) ∈ ai_tb := ai_wd4 31 rfl rfl
theorem wd_432 : (Cond.code ({ cls := "CoinBoats", name := "limit", desc := "(II)I" } : MethodName) prog_1_method_60_code (2 : Nat) (Option.some Jvm.ClassFile.FieldType.int)) ∈ ai_tb := ai_wd2 192 rfl rfl
theorem wd_1323 : (Cond.code ({ cls := "CoinBoatsModel", name := "<init>", desc := "()V" } : MethodName) prog_14_method_1_code (1 : Nat) (Option.none : Option Jvm.ClassFile.FieldType)) ∈ ai_tb := ai_wd6 123 rfl rfl
theorem wd_1463 : (Cond.code ({ cls := "CoinBoatsModel", name := "feed", desc := "(IIIII)I" } : MethodName) prog_14_method_2_code (6 : Nat) (Option.some Jvm.ClassFile.FieldType.int)) ∈ ai_tb := ai_wd7 23 rfl rfl
theorem wd_1467 : (Cond.code ({ cls := "CoinBoatsModel", name := "typed", desc := "(I)V" } : MethodName) prog_14_method_3_code (3 : Nat) (Option.none : Option Jvm.ClassFile.FieldType)) ∈ ai_tb := ai_wd7 27 rfl rfl
theorem wd_1471 : (Cond.code ({ cls := "CoinBoatsModel", name := "back", desc := "(I)I" } : MethodName) prog_14_method_4_code (2 : Nat) (Option.some Jvm.ClassFile.FieldType.int)) ∈ ai_tb := ai_wd7 31 rfl rfl
theorem wd_1483 : (Cond.code ({ cls := "CoinBoatsModel", name := "byteAt", desc := "(I)I" } : MethodName) prog_14_method_5_code (2 : Nat) (Option.some Jvm.ClassFile.FieldType.int)) ∈ ai_tb := ai_wd7 43 rfl rfl
theorem wd_1491 : (Cond.code ({ cls := "CoinBoatsModel", name := "isLetter", desc := "(I)Z" } : MethodName) prog_14_method_6_code (2 : Nat) (Option.some Jvm.ClassFile.FieldType.boolean)) ∈ ai_tb := ai_wd7 51 rfl rfl
theorem wd_1517 : (Cond.code ({ cls := "CoinBoatsModel", name := "isDigit", desc := "(I)Z" } : MethodName) prog_14_method_7_code (2 : Nat) (Option.some Jvm.ClassFile.FieldType.boolean)) ∈ ai_tb := ai_wd7 77 rfl rfl
theorem wd_1513 : (Cond.code ({ cls := "CoinBoatsModel", name := "token", desc := "(III)V" } : MethodName) prog_14_method_8_code (4 : Nat) (Option.none : Option Jvm.ClassFile.FieldType)) ∈ ai_tb := ai_wd7 73 rfl rfl
theorem wd_1496 : (Cond.code ({ cls := "CoinBoatsModel", name := "wordOf", desc := "(J)I" } : MethodName) prog_14_method_9_code (2 : Nat) (Option.some Jvm.ClassFile.FieldType.int)) ∈ ai_tb := ai_wd7 56 rfl rfl
theorem wd_1521 : (Cond.code ({ cls := "CoinBoatsModel", name := "signAt", desc := "(I)I" } : MethodName) prog_14_method_10_code (4 : Nat) (Option.some Jvm.ClassFile.FieldType.int)) ∈ ai_tb := ai_wd7 81 rfl rfl
theorem wd_1487 : (Cond.code ({ cls := "CoinBoatsModel", name := "scan", desc := "(I)I" } : MethodName) prog_14_method_11_code (6 : Nat) (Option.some Jvm.ClassFile.FieldType.int)) ∈ ai_tb := ai_wd7 47 rfl rfl
theorem wd_1479 : (Cond.code ({ cls := "CoinBoatsModel", name := "scanAll", desc := "()V" } : MethodName) prog_14_method_12_code (4 : Nat) (Option.none : Option Jvm.ClassFile.FieldType)) ∈ ai_tb := ai_wd7 39 rfl rfl
theorem wd_1545 : (Cond.code ({ cls := "CoinBoatsModel", name := "wrong", desc := "(I)Z" } : MethodName) prog_14_method_13_code (2 : Nat) (Option.some Jvm.ClassFile.FieldType.boolean)) ∈ ai_tb := ai_wd7 105 rfl rfl
theorem wd_1561 : (Cond.code ({ cls := "CoinBoatsModel", name := "tells", desc := "(II)V" } : MethodName) prog_14_method_14_code (4 : Nat) (Option.none : Option Jvm.ClassFile.FieldType)) ∈ ai_tb := ai_wd7 121 rfl rfl
theorem wd_1549 : (Cond.code ({ cls := "CoinBoatsModel", name := "pass", desc := "()Z" } : MethodName) prog_14_method_15_code (1 : Nat) (Option.some Jvm.ClassFile.FieldType.boolean)) ∈ ai_tb := ai_wd7 109 rfl rfl
theorem wd_1585 : (Cond.code ({ cls := "CoinBoatsModel", name := "isSign", desc := "(I)Z" } : MethodName) prog_14_method_16_code (2 : Nat) (Option.some Jvm.ClassFile.FieldType.boolean)) ∈ ai_tb := ai_wd7 145 rfl rfl
theorem wd_1620 : (Cond.code ({ cls := "CoinBoatsModel", name := "isWord", desc := "(I)Z" } : MethodName) prog_14_method_17_code (2 : Nat) (Option.some Jvm.ClassFile.FieldType.boolean)) ∈ ai_tb := ai_wd7 180 rfl rfl
theorem wd_1557 : (Cond.code ({ cls := "CoinBoatsModel", name := "takes", desc := "(I)Z" } : MethodName) prog_14_method_18_code (2 : Nat) (Option.some Jvm.ClassFile.FieldType.boolean)) ∈ ai_tb := ai_wd7 117 rfl rfl
theorem wd_1565 : (Cond.code ({ cls := "CoinBoatsModel", name := "takesInt", desc := "(II)Z" } : MethodName) prog_14_method_19_code (4 : Nat) (Option.some Jvm.ClassFile.FieldType.boolean)) ∈ ai_tb := ai_wd7 125 rfl rfl
theorem wd_1541 : (Cond.code ({ cls := "CoinBoatsModel", name := "told", desc := "(I)I" } : MethodName) prog_14_method_20_code (2 : Nat) (Option.some Jvm.ClassFile.FieldType.int)) ∈ ai_tb := ai_wd7 101 rfl rfl
theorem wd_1525 : (Cond.code ({ cls := "CoinBoatsModel", name := "tell", desc := "(II)V" } : MethodName) prog_14_method_21_code (3 : Nat) (Option.none : Option Jvm.ClassFile.FieldType)) ∈ ai_tb := ai_wd7 85 rfl rfl
theorem wd_1597 : (Cond.code ({ cls := "CoinBoatsModel", name := "emit", desc := "(II)V" } : MethodName) prog_14_method_22_code (3 : Nat) (Option.none : Option Jvm.ClassFile.FieldType)) ∈ ai_tb := ai_wd7 157 rfl rfl
theorem wd_1604 : (Cond.code ({ cls := "CoinBoatsModel", name := "rank", desc := "(I)I" } : MethodName) prog_14_method_23_code (1 : Nat) (Option.some Jvm.ClassFile.FieldType.int)) ∈ ai_tb := ai_wd7 164 rfl rfl
theorem wd_1608 : (Cond.code ({ cls := "CoinBoatsModel", name := "reduce", desc := "(I)V" } : MethodName) prog_14_method_24_code (2 : Nat) (Option.none : Option Jvm.ClassFile.FieldType)) ∈ ai_tb := ai_wd7 168 rfl rfl
theorem wd_1593 : (Cond.code ({ cls := "CoinBoatsModel", name := "await", desc := "(I)V" } : MethodName) prog_14_method_25_code (2 : Nat) (Option.none : Option Jvm.ClassFile.FieldType)) ∈ ai_tb := ai_wd7 153 rfl rfl
theorem wd_1601 : (Cond.code ({ cls := "CoinBoatsModel", name := "joinAt", desc := "()I" } : MethodName) prog_14_method_26_code (1 : Nat) (Option.some Jvm.ClassFile.FieldType.int)) ∈ ai_tb := ai_wd7 161 rfl rfl
theorem wd_1589 : (Cond.code ({ cls := "CoinBoatsModel", name := "expr", desc := "()Z" } : MethodName) prog_14_method_27_code (5 : Nat) (Option.some Jvm.ClassFile.FieldType.boolean)) ∈ ai_tb := ai_wd7 149 rfl rfl
theorem wd_1553 : (Cond.code ({ cls := "CoinBoatsModel", name := "names", desc := "(II)Z" } : MethodName) prog_14_method_28_code (5 : Nat) (Option.some Jvm.ClassFile.FieldType.boolean)) ∈ ai_tb := ai_wd7 113 rfl rfl
theorem wd_1577 : (Cond.code ({ cls := "CoinBoatsModel", name := "takesName", desc := "(I)Z" } : MethodName) prog_14_method_29_code (4 : Nat) (Option.some Jvm.ClassFile.FieldType.boolean)) ∈ ai_tb := ai_wd7 137 rfl rfl
theorem wd_1616 : (Cond.code ({ cls := "CoinBoatsModel", name := "takesPlace", desc := "()Z" } : MethodName) prog_14_method_30_code (1 : Nat) (Option.some Jvm.ClassFile.FieldType.boolean)) ∈ ai_tb := ai_wd7 176 rfl rfl
theorem wd_1581 : (Cond.code ({ cls := "CoinBoatsModel", name := "takesSum", desc := "(I)Z" } : MethodName) prog_14_method_31_code (2 : Nat) (Option.some Jvm.ClassFile.FieldType.boolean)) ∈ ai_tb := ai_wd7 141 rfl rfl
theorem wd_1537 : (Cond.code ({ cls := "CoinBoatsModel", name := "tellKind", desc := "()Z" } : MethodName) prog_14_method_32_code (3 : Nat) (Option.some Jvm.ClassFile.FieldType.boolean)) ∈ ai_tb := ai_wd7 97 rfl rfl
theorem wd_1569 : (Cond.code ({ cls := "CoinBoatsModel", name := "tellIsland", desc := "()Z" } : MethodName) prog_14_method_33_code (2 : Nat) (Option.some Jvm.ClassFile.FieldType.boolean)) ∈ ai_tb := ai_wd7 129 rfl rfl
theorem wd_1573 : (Cond.code ({ cls := "CoinBoatsModel", name := "tellWant", desc := "(II)Z" } : MethodName) prog_14_method_34_code (4 : Nat) (Option.some Jvm.ClassFile.FieldType.boolean)) ∈ ai_tb := ai_wd7 133 rfl rfl
theorem wd_1612 : (Cond.code ({ cls := "CoinBoatsModel", name := "tellFlow", desc := "()Z" } : MethodName) prog_14_method_35_code (4 : Nat) (Option.some Jvm.ClassFile.FieldType.boolean)) ∈ ai_tb := ai_wd7 172 rfl rfl
theorem wd_1624 : (Cond.code ({ cls := "CoinBoatsModel", name := "tellWear", desc := "()Z" } : MethodName) prog_14_method_36_code (2 : Nat) (Option.some Jvm.ClassFile.FieldType.boolean)) ∈ ai_tb := ai_wd7 184 rfl rfl
theorem wd_1628 : (Cond.code ({ cls := "CoinBoatsModel", name := "tellBoat", desc := "()Z" } : MethodName) prog_14_method_37_code (5 : Nat) (Option.some Jvm.ClassFile.FieldType.boolean)) ∈ ai_tb := ai_wd7 188 rfl rfl
theorem wd_1533 : (Cond.code ({ cls := "CoinBoatsModel", name := "tellOne", desc := "()Z" } : MethodName) prog_14_method_38_code (2 : Nat) (Option.some Jvm.ClassFile.FieldType.boolean)) ∈ ai_tb := ai_wd7 93 rfl rfl
theorem wd_1529 : (Cond.code ({ cls := "CoinBoatsModel", name := "parses", desc := "()Z" } : MethodName) prog_14_method_39_code (1 : Nat) (Option.some Jvm.ClassFile.FieldType.boolean)) ∈ ai_tb := ai_wd7 89 rfl rfl
theorem wd_1632 : (Cond.code ({ cls := "CoinBoatsModel", name := "copy", desc := "(II)V" } : MethodName) prog_14_method_40_code (4 : Nat) (Option.none : Option Jvm.ClassFile.FieldType)) ∈ ai_tb := ai_wd7 192 rfl rfl
theorem wd_1475 : (Cond.code ({ cls := "CoinBoatsModel", name := "read", desc := "()I" } : MethodName) prog_14_method_41_code (2 : Nat) (Option.some Jvm.ClassFile.FieldType.int)) ∈ ai_tb := ai_wd7 35 rfl rfl
theorem wd_1636 : (Cond.code ({ cls := "CoinBoatsModel", name := "place", desc := "()I" } : MethodName) prog_14_method_42_code (1 : Nat) (Option.some Jvm.ClassFile.FieldType.int)) ∈ ai_tb := ai_wd7 196 rfl rfl
theorem wd_1640 : (Cond.code ({ cls := "CoinBoatsModel", name := "hold", desc := "(I)Z" } : MethodName) prog_14_method_43_code (2 : Nat) (Option.some Jvm.ClassFile.FieldType.boolean)) ∈ ai_tb := ai_wd7 200 rfl rfl
theorem wd_1644 : (Cond.code ({ cls := "CoinBoatsModel", name := "restore", desc := "(I)Z" } : MethodName) prog_14_method_44_code (2 : Nat) (Option.some Jvm.ClassFile.FieldType.boolean)) ∈ ai_tb := ai_wd7 204 rfl rfl
theorem wd_1655 : (Cond.code ({ cls := "CoinBoatsModel", name := "isIn", desc := "(III)Z" } : MethodName) prog_14_method_45_code (3 : Nat) (Option.some Jvm.ClassFile.FieldType.boolean)) ∈ ai_tb := ai_wd7 215 rfl rfl
theorem wd_1652 : (Cond.code ({ cls := "CoinBoatsModel", name := "isKind", desc := "(I)Z" } : MethodName) prog_14_method_46_code (2 : Nat) (Option.some Jvm.ClassFile.FieldType.boolean)) ∈ ai_tb := ai_wd7 212 rfl rfl
theorem wd_1717 : (Cond.code ({ cls := "CoinBoatsModel", name := "isPlace", desc := "(I)Z" } : MethodName) prog_14_method_47_code (2 : Nat) (Option.some Jvm.ClassFile.FieldType.boolean)) ∈ ai_tb := ai_wd8 37 rfl rfl
theorem wd_1663 : (Cond.code ({ cls := "CoinBoatsModel", name := "isIsland", desc := "(I)Z" } : MethodName) prog_14_method_48_code (2 : Nat) (Option.some Jvm.ClassFile.FieldType.boolean)) ∈ ai_tb := ai_wd7 223 rfl rfl
theorem wd_1822 : (Cond.code ({ cls := "CoinBoatsModel", name := "worth", desc := "(I)I" } : MethodName) prog_14_method_49_code (2 : Nat) (Option.some Jvm.ClassFile.FieldType.int)) ∈ ai_tb := ai_wd8 142 rfl rfl
theorem wd_1796 : (Cond.code ({ cls := "CoinBoatsModel", name := "harm", desc := "(I)I" } : MethodName) prog_14_method_50_code (2 : Nat) (Option.some Jvm.ClassFile.FieldType.int)) ∈ ai_tb := ai_wd8 116 rfl rfl
theorem wd_1648 : (Cond.code ({ cls := "CoinBoatsModel", name := "kind", desc := "(II)I" } : MethodName) prog_14_method_51_code (3 : Nat) (Option.some Jvm.ClassFile.FieldType.int)) ∈ ai_tb := ai_wd7 208 rfl rfl
theorem wd_1659 : (Cond.code ({ cls := "CoinBoatsModel", name := "island", desc := "(II)I" } : MethodName) prog_14_method_52_code (3 : Nat) (Option.some Jvm.ClassFile.FieldType.int)) ∈ ai_tb := ai_wd7 219 rfl rfl
theorem wd_1671 : (Cond.code ({ cls := "CoinBoatsModel", name := "boatOf", desc := "(II)I" } : MethodName) prog_14_method_53_code (4 : Nat) (Option.some Jvm.ClassFile.FieldType.int)) ∈ ai_tb := ai_wd7 231 rfl rfl
theorem wd_1667 : (Cond.code ({ cls := "CoinBoatsModel", name := "boat", desc := "(II)I" } : MethodName) prog_14_method_54_code (3 : Nat) (Option.some Jvm.ClassFile.FieldType.int)) ∈ ai_tb := ai_wd7 227 rfl rfl
theorem wd_1683 : (Cond.code ({ cls := "CoinBoatsModel", name := "ask", desc := "(IIII)V" } : MethodName) prog_14_method_55_code (5 : Nat) (Option.none : Option Jvm.ClassFile.FieldType)) ∈ ai_tb := ai_wd8 3 rfl rfl
theorem wd_1687 : (Cond.code ({ cls := "CoinBoatsModel", name := "sum", desc := "(I)I" } : MethodName) prog_14_method_56_code (7 : Nat) (Option.some Jvm.ClassFile.FieldType.int)) ∈ ai_tb := ai_wd8 7 rfl rfl
theorem wd_1690 : (Cond.code ({ cls := "CoinBoatsModel", name := "joined", desc := "(III)I" } : MethodName) prog_14_method_57_code (3 : Nat) (Option.some Jvm.ClassFile.FieldType.int)) ∈ ai_tb := ai_wd8 10 rfl rfl
theorem wd_1788 : (Cond.code ({ cls := "CoinBoatsModel", name := "isLast", desc := "(III)Z" } : MethodName) prog_14_method_58_code (5 : Nat) (Option.some Jvm.ClassFile.FieldType.boolean)) ∈ ai_tb := ai_wd8 108 rfl rfl
theorem wd_1693 : (Cond.code ({ cls := "CoinBoatsModel", name := "within", desc := "(III)I" } : MethodName) prog_14_method_59_code (3 : Nat) (Option.some Jvm.ClassFile.FieldType.int)) ∈ ai_tb := ai_wd8 13 rfl rfl
theorem wd_1679 : (Cond.code ({ cls := "CoinBoatsModel", name := "wanted", desc := "(III)I" } : MethodName) prog_14_method_60_code (5 : Nat) (Option.some Jvm.ClassFile.FieldType.int)) ∈ ai_tb := ai_wd7 239 rfl rfl
theorem wd_1675 : (Cond.code ({ cls := "CoinBoatsModel", name := "want", desc := "(III)I" } : MethodName) prog_14_method_61_code (4 : Nat) (Option.some Jvm.ClassFile.FieldType.int)) ∈ ai_tb := ai_wd7 235 rfl rfl
theorem wd_1700 : (Cond.code ({ cls := "CoinBoatsModel", name := "cell", desc := "(III)I" } : MethodName) prog_14_method_62_code (3 : Nat) (Option.some Jvm.ClassFile.FieldType.int)) ∈ ai_tb := ai_wd8 20 rfl rfl
theorem wd_1705 : (Cond.code ({ cls := "CoinBoatsModel", name := "all", desc := "(II)I" } : MethodName) prog_14_method_63_code (5 : Nat) (Option.some Jvm.ClassFile.FieldType.int)) ∈ ai_tb := ai_wd8 25 rfl rfl
theorem wd_1697 : (Cond.code ({ cls := "CoinBoatsModel", name := "strike", desc := "(II)I" } : MethodName) prog_14_method_64_code (3 : Nat) (Option.some Jvm.ClassFile.FieldType.int)) ∈ ai_tb := ai_wd8 17 rfl rfl
theorem wd_1709 : (Cond.code ({ cls := "CoinBoatsModel", name := "burn", desc := "(II)I" } : MethodName) prog_14_method_65_code (5 : Nat) (Option.some Jvm.ClassFile.FieldType.int)) ∈ ai_tb := ai_wd8 29 rfl rfl
theorem wd_1713 : (Cond.code ({ cls := "CoinBoatsModel", name := "lay", desc := "(IIII)I" } : MethodName) prog_14_method_66_code (5 : Nat) (Option.some Jvm.ClassFile.FieldType.int)) ∈ ai_tb := ai_wd8 33 rfl rfl
theorem wd_1721 : (Cond.code ({ cls := "CoinBoatsModel", name := "has", desc := "(III)I" } : MethodName) prog_14_method_67_code (4 : Nat) (Option.some Jvm.ClassFile.FieldType.int)) ∈ ai_tb := ai_wd8 41 rfl rfl
theorem wd_1768 : (Cond.code ({ cls := "CoinBoatsModel", name := "go", desc := "(IIIIZ)V" } : MethodName) prog_14_method_68_code (10 : Nat) (Option.none : Option Jvm.ClassFile.FieldType)) ∈ ai_tb := ai_wd8 88 rfl rfl
theorem wd_1725 : (Cond.code ({ cls := "CoinBoatsModel", name := "send", desc := "(IIIIZ)I" } : MethodName) prog_14_method_69_code (7 : Nat) (Option.some Jvm.ClassFile.FieldType.int)) ∈ ai_tb := ai_wd8 45 rfl rfl
theorem wd_1729 : (Cond.code ({ cls := "CoinBoatsModel", name := "done", desc := "(I)I" } : MethodName) prog_14_method_70_code (2 : Nat) (Option.some Jvm.ClassFile.FieldType.int)) ∈ ai_tb := ai_wd8 49 rfl rfl
theorem wd_1745 : (Cond.code ({ cls := "CoinBoatsModel", name := "reason", desc := "(II)I" } : MethodName) prog_14_method_71_code (6 : Nat) (Option.some Jvm.ClassFile.FieldType.int)) ∈ ai_tb := ai_wd8 65 rfl rfl
theorem wd_1741 : (Cond.code ({ cls := "CoinBoatsModel", name := "layTills", desc := "()V" } : MethodName) prog_14_method_72_code (3 : Nat) (Option.none : Option Jvm.ClassFile.FieldType)) ∈ ai_tb := ai_wd8 61 rfl rfl
theorem wd_1737 : (Cond.code ({ cls := "CoinBoatsModel", name := "judgeAll", desc := "()V" } : MethodName) prog_14_method_73_code (7 : Nat) (Option.none : Option Jvm.ClassFile.FieldType)) ∈ ai_tb := ai_wd8 57 rfl rfl
theorem wd_1733 : (Cond.code ({ cls := "CoinBoatsModel", name := "judge", desc := "()I" } : MethodName) prog_14_method_74_code (1 : Nat) (Option.some Jvm.ClassFile.FieldType.int)) ∈ ai_tb := ai_wd8 53 rfl rfl
theorem wd_1749 : (Cond.code ({ cls := "CoinBoatsModel", name := "why", desc := "()I" } : MethodName) prog_14_method_75_code (1 : Nat) (Option.some Jvm.ClassFile.FieldType.int)) ∈ ai_tb := ai_wd8 69 rfl rfl
theorem wd_1763 : (Cond.code ({ cls := "CoinBoatsModel", name := "mixed", desc := "(II)I" } : MethodName) prog_14_method_76_code (3 : Nat) (Option.some Jvm.ClassFile.FieldType.int)) ∈ ai_tb := ai_wd8 83 rfl rfl
theorem wd_1760 : (Cond.code ({ cls := "CoinBoatsModel", name := "lot", desc := "(III)I" } : MethodName) prog_14_method_77_code (3 : Nat) (Option.some Jvm.ClassFile.FieldType.int)) ∈ ai_tb := ai_wd8 80 rfl rfl
theorem wd_1757 : (Cond.code ({ cls := "CoinBoatsModel", name := "sends", desc := "(II)V" } : MethodName) prog_14_method_78_code (9 : Nat) (Option.none : Option Jvm.ClassFile.FieldType)) ∈ ai_tb := ai_wd8 77 rfl rfl
theorem wd_1772 : (Cond.code ({ cls := "CoinBoatsModel", name := "flows", desc := "(II)V" } : MethodName) prog_14_method_79_code (6 : Nat) (Option.none : Option Jvm.ClassFile.FieldType)) ∈ ai_tb := ai_wd8 92 rfl rfl
theorem wd_1780 : (Cond.code ({ cls := "CoinBoatsModel", name := "isLastWear", desc := "(I)Z" } : MethodName) prog_14_method_80_code (3 : Nat) (Option.some Jvm.ClassFile.FieldType.boolean)) ∈ ai_tb := ai_wd8 100 rfl rfl
theorem wd_1776 : (Cond.code ({ cls := "CoinBoatsModel", name := "wears", desc := "(I)V" } : MethodName) prog_14_method_81_code (8 : Nat) (Option.none : Option Jvm.ClassFile.FieldType)) ∈ ai_tb := ai_wd8 96 rfl rfl
theorem wd_1784 : (Cond.code ({ cls := "CoinBoatsModel", name := "loses", desc := "(I)V" } : MethodName) prog_14_method_82_code (6 : Nat) (Option.none : Option Jvm.ClassFile.FieldType)) ∈ ai_tb := ai_wd8 104 rfl rfl
theorem wd_1792 : (Cond.code ({ cls := "CoinBoatsModel", name := "lacking", desc := "(I)I" } : MethodName) prog_14_method_83_code (7 : Nat) (Option.some Jvm.ClassFile.FieldType.int)) ∈ ai_tb := ai_wd8 112 rfl rfl
theorem wd_1753 : (Cond.code ({ cls := "CoinBoatsModel", name := "months", desc := "(II)I" } : MethodName) prog_14_method_84_code (6 : Nat) (Option.some Jvm.ClassFile.FieldType.int)) ∈ ai_tb := ai_wd8 73 rfl rfl
theorem wd_1800 : (Cond.code ({ cls := "CoinBoatsModel", name := "lacks", desc := "(II)I" } : MethodName) prog_14_method_85_code (3 : Nat) (Option.some Jvm.ClassFile.FieldType.int)) ∈ ai_tb := ai_wd8 120 rfl rfl
theorem wd_1804 : (Cond.code ({ cls := "CoinBoatsModel", name := "spent", desc := "(I)J" } : MethodName) prog_14_method_86_code (2 : Nat) (Option.some Jvm.ClassFile.FieldType.long)) ∈ ai_tb := ai_wd8 124 rfl rfl
theorem wd_1813 : (Cond.code ({ cls := "CoinBoatsModel", name := "layFewest", desc := "(II)V" } : MethodName) prog_14_method_87_code (5 : Nat) (Option.none : Option Jvm.ClassFile.FieldType)) ∈ ai_tb := ai_wd8 133 rfl rfl
theorem wd_1818 : (Cond.code ({ cls := "CoinBoatsModel", name := "layKind", desc := "(III)V" } : MethodName) prog_14_method_88_code (14 : Nat) (Option.none : Option Jvm.ClassFile.FieldType)) ∈ ai_tb := ai_wd8 138 rfl rfl
theorem wd_1826 : (Cond.code ({ cls := "CoinBoatsModel", name := "fewestOf", desc := "(II)I" } : MethodName) prog_14_method_89_code (4 : Nat) (Option.some Jvm.ClassFile.FieldType.int)) ∈ ai_tb := ai_wd8 146 rfl rfl
theorem wd_1830 : (Cond.code ({ cls := "CoinBoatsModel", name := "paidOf", desc := "(III)I" } : MethodName) prog_14_method_90_code (8 : Nat) (Option.some Jvm.ClassFile.FieldType.int)) ∈ ai_tb := ai_wd8 150 rfl rfl
theorem wd_1809 : (Cond.code ({ cls := "CoinBoatsModel", name := "pay", desc := "(III)I" } : MethodName) prog_14_method_91_code (5 : Nat) (Option.some Jvm.ClassFile.FieldType.int)) ∈ ai_tb := ai_wd8 129 rfl rfl
theorem wd_1834 : (Cond.code ({ cls := "CoinBoatsModel", name := "change", desc := "(IIII)I" } : MethodName) prog_14_method_92_code (9 : Nat) (Option.some Jvm.ClassFile.FieldType.int)) ∈ ai_tb := ai_wd8 154 rfl rfl
theorem wd_1846 : (Cond.code ({ cls := "CoinBoatsModel", name := "piecesOf", desc := "(II)I" } : MethodName) prog_14_method_93_code (6 : Nat) (Option.some Jvm.ClassFile.FieldType.int)) ∈ ai_tb := ai_wd8 166 rfl rfl
theorem wd_1849 : (Cond.code ({ cls := "CoinBoatsModel", name := "manyOf", desc := "(I)I" } : MethodName) prog_14_method_94_code (3 : Nat) (Option.some Jvm.ClassFile.FieldType.int)) ∈ ai_tb := ai_wd8 169 rfl rfl
theorem wd_1842 : (Cond.code ({ cls := "CoinBoatsModel", name := "chooses", desc := "(II)V" } : MethodName) prog_14_method_95_code (6 : Nat) (Option.none : Option Jvm.ClassFile.FieldType)) ∈ ai_tb := ai_wd8 162 rfl rfl
theorem wd_1838 : (Cond.code ({ cls := "CoinBoatsModel", name := "which", desc := "(II)I" } : MethodName) prog_14_method_96_code (3 : Nat) (Option.some Jvm.ClassFile.FieldType.int)) ∈ ai_tb := ai_wd8 158 rfl rfl
theorem wd_1853 : (Cond.code ({ cls := "CoinBoatsModel", name := "whichSum", desc := "(II)I" } : MethodName) prog_14_method_97_code (3 : Nat) (Option.some Jvm.ClassFile.FieldType.int)) ∈ ai_tb := ai_wd8 173 rfl rfl
theorem wd_1868 : (Cond.code ({ cls := "CoinBoatsModel", name := "power", desc := "(JI)J" } : MethodName) prog_14_method_98_code (6 : Nat) (Option.some Jvm.ClassFile.FieldType.long)) ∈ ai_tb := ai_wd8 188 rfl rfl
theorem wd_1872 : (Cond.code ({ cls := "CoinBoatsModel", name := "leastOf", desc := "(IIIIIJ)J" } : MethodName) prog_14_method_99_code (20 : Nat) (Option.some Jvm.ClassFile.FieldType.long)) ∈ ai_tb := ai_wd8 192 rfl rfl
theorem wd_1861 : (Cond.code ({ cls := "CoinBoatsModel", name := "isCoin", desc := "(IIIIII)Z" } : MethodName) prog_14_method_100_code (7 : Nat) (Option.some Jvm.ClassFile.FieldType.boolean)) ∈ ai_tb := ai_wd8 181 rfl rfl
theorem wd_1865 : (Cond.code ({ cls := "CoinBoatsModel", name := "coins", desc := "(IIIIII)J" } : MethodName) prog_14_method_101_code (11 : Nat) (Option.some Jvm.ClassFile.FieldType.long)) ∈ ai_tb := ai_wd8 185 rfl rfl
theorem wd_1857 : (Cond.code ({ cls := "CoinBoatsModel", name := "least", desc := "(IIIIII)J" } : MethodName) prog_14_method_102_code (7 : Nat) (Option.some Jvm.ClassFile.FieldType.long)) ∈ ai_tb := ai_wd8 177 rfl rfl
theorem wd_1876 : (Cond.code ({ cls := "CoinBoatsModel", name := "order", desc := "(IIIIII)I" } : MethodName) prog_14_method_103_code (9 : Nat) (Option.some Jvm.ClassFile.FieldType.int)) ∈ ai_tb := ai_wd8 196 rfl rfl
theorem wd_1880 : (Cond.code ({ cls := "CoinBoatsModel", name := "price", desc := "(IIIIII)J" } : MethodName) prog_14_method_104_code (7 : Nat) (Option.some Jvm.ClassFile.FieldType.long)) ∈ ai_tb := ai_wd8 200 rfl rfl
theorem wd_1888 : (Cond.code ({ cls := "CoinBoatsModel", name := "isPool", desc := "(III)Z" } : MethodName) prog_14_method_105_code (4 : Nat) (Option.some Jvm.ClassFile.FieldType.boolean)) ∈ ai_tb := ai_wd8 208 rfl rfl
theorem wd_1892 : (Cond.code ({ cls := "CoinBoatsModel", name := "poolOf", desc := "(III)I" } : MethodName) prog_14_method_106_code (10 : Nat) (Option.some Jvm.ClassFile.FieldType.int)) ∈ ai_tb := ai_wd8 212 rfl rfl
theorem wd_1900 : (Cond.code ({ cls := "CoinBoatsModel", name := "savedOf", desc := "(III)I" } : MethodName) prog_14_method_107_code (6 : Nat) (Option.some Jvm.ClassFile.FieldType.int)) ∈ ai_tb := ai_wd8 220 rfl rfl
theorem wd_1884 : (Cond.code ({ cls := "CoinBoatsModel", name := "pool", desc := "(III)I" } : MethodName) prog_14_method_108_code (4 : Nat) (Option.some Jvm.ClassFile.FieldType.int)) ∈ ai_tb := ai_wd8 204 rfl rfl
theorem wd_1896 : (Cond.code ({ cls := "CoinBoatsModel", name := "saved", desc := "(III)I" } : MethodName) prog_14_method_109_code (4 : Nat) (Option.some Jvm.ClassFile.FieldType.int)) ∈ ai_tb := ai_wd8 216 rfl rfl
theorem wd_1904 : (Cond.code ({ cls := "CoinBoatsModel", name := "holds", desc := "(IIIIII)I" } : MethodName) prog_14_method_110_code (13 : Nat) (Option.some Jvm.ClassFile.FieldType.int)) ∈ ai_tb := ai_wd8 224 rfl rfl
theorem wd_1912 : (Cond.code ({ cls := "CoinBoatsModel", name := "row", desc := "(IIII)I" } : MethodName) prog_14_method_111_code (6 : Nat) (Option.some Jvm.ClassFile.FieldType.int)) ∈ ai_tb := ai_wd8 232 rfl rfl
theorem wd_1908 : (Cond.code ({ cls := "CoinBoatsModel", name := "book", desc := "(IIIZ)I" } : MethodName) prog_14_method_112_code (5 : Nat) (Option.some Jvm.ClassFile.FieldType.int)) ∈ ai_tb := ai_wd8 228 rfl rfl
theorem wd_1916 : (Cond.code ({ cls := "CoinBoatsModel", name := "looked", desc := "(III)I" } : MethodName) prog_14_method_113_code (4 : Nat) (Option.some Jvm.ClassFile.FieldType.int)) ∈ ai_tb := ai_wd8 236 rfl rfl
theorem wd_1920 : (Cond.code ({ cls := "CoinBoatsModel", name := "annul", desc := "(I)I" } : MethodName) prog_14_method_114_code (2 : Nat) (Option.some Jvm.ClassFile.FieldType.int)) ∈ ai_tb := ai_wd9 0 rfl rfl
theorem wd_1928 : (Cond.code ({ cls := "CoinBoatsModel", name := "isKnown", desc := "(I)Z" } : MethodName) prog_14_method_115_code (2 : Nat) (Option.some Jvm.ClassFile.FieldType.boolean)) ∈ ai_tb := ai_wd9 8 rfl rfl
theorem wd_1936 : (Cond.code ({ cls := "CoinBoatsModel", name := "isLive", desc := "(II)Z" } : MethodName) prog_14_method_116_code (4 : Nat) (Option.some Jvm.ClassFile.FieldType.boolean)) ∈ ai_tb := ai_wd9 16 rfl rfl
theorem wd_1932 : (Cond.code ({ cls := "CoinBoatsModel", name := "booked", desc := "(IIII)I" } : MethodName) prog_14_method_117_code (8 : Nat) (Option.some Jvm.ClassFile.FieldType.int)) ∈ ai_tb := ai_wd9 12 rfl rfl
theorem wd_1924 : (Cond.code ({ cls := "CoinBoatsModel", name := "balance", desc := "(III)I" } : MethodName) prog_14_method_118_code (4 : Nat) (Option.some Jvm.ClassFile.FieldType.int)) ∈ ai_tb := ai_wd9 4 rfl rfl
theorem wd_1941 : (Cond.code ({ cls := "CoinBoatsModel", name := "richest", desc := "(I)I" } : MethodName) prog_14_method_119_code (9 : Nat) (Option.some Jvm.ClassFile.FieldType.int)) ∈ ai_tb := ai_wd9 21 rfl rfl
theorem wd_1953 : (Cond.code ({ cls := "CoinBoatsModel", name := "layBooks", desc := "(II)V" } : MethodName) prog_14_method_120_code (4 : Nat) (Option.none : Option Jvm.ClassFile.FieldType)) ∈ ai_tb := ai_wd9 33 rfl rfl
theorem wd_1957 : (Cond.code ({ cls := "CoinBoatsModel", name := "offBy", desc := "(III)I" } : MethodName) prog_14_method_121_code (7 : Nat) (Option.some Jvm.ClassFile.FieldType.int)) ∈ ai_tb := ai_wd9 37 rfl rfl
theorem wd_1949 : (Cond.code ({ cls := "CoinBoatsModel", name := "isJars", desc := "(III)Z" } : MethodName) prog_14_method_122_code (4 : Nat) (Option.some Jvm.ClassFile.FieldType.boolean)) ∈ ai_tb := ai_wd9 29 rfl rfl
theorem wd_1945 : (Cond.code ({ cls := "CoinBoatsModel", name := "jars", desc := "(IIII)I" } : MethodName) prog_14_method_123_code (11 : Nat) (Option.some Jvm.ClassFile.FieldType.int)) ∈ ai_tb := ai_wd9 25 rfl rfl
theorem wd_1961 : (Cond.code ({ cls := "CoinBoatsModel", name := "ends", desc := "(IIII)I" } : MethodName) prog_14_method_124_code (10 : Nat) (Option.some Jvm.ClassFile.FieldType.int)) ∈ ai_tb := ai_wd9 41 rfl rfl
theorem wd_1970 : (Cond.code ({ cls := "CoinBoatsModel", name := "layFalse", desc := "(I)V" } : MethodName) prog_14_method_125_code (4 : Nat) (Option.none : Option Jvm.ClassFile.FieldType)) ∈ ai_tb := ai_wd9 50 rfl rfl
theorem wd_1977 : (Cond.code ({ cls := "CoinBoatsModel", name := "chosen", desc := "(II)J" } : MethodName) prog_14_method_126_code (10 : Nat) (Option.some Jvm.ClassFile.FieldType.long)) ∈ ai_tb := ai_wd9 57 rfl rfl
theorem wd_1974 : (Cond.code ({ cls := "CoinBoatsModel", name := "falseWays", desc := "(I)J" } : MethodName) prog_14_method_127_code (5 : Nat) (Option.some Jvm.ClassFile.FieldType.long)) ∈ ai_tb := ai_wd9 54 rfl rfl
theorem wd_1980 : (Cond.code ({ cls := "CoinBoatsModel", name := "isLess", desc := "(JJJJ)Z" } : MethodName) prog_14_method_128_code (23 : Nat) (Option.some Jvm.ClassFile.FieldType.boolean)) ∈ ai_tb := ai_wd9 60 rfl rfl
theorem wd_1966 : (Cond.code ({ cls := "CoinBoatsModel", name := "whose", desc := "(I)I" } : MethodName) prog_14_method_129_code (12 : Nat) (Option.some Jvm.ClassFile.FieldType.int)) ∈ ai_tb := ai_wd9 46 rfl rfl
theorem wd_1984 : (Cond.code ({ cls := "CoinBoatsModel", name := "whoseWays", desc := "(IIZ)J" } : MethodName) prog_14_method_130_code (4 : Nat) (Option.some Jvm.ClassFile.FieldType.long)) ∈ ai_tb := ai_wd9 64 rfl rfl
theorem wd_1992 : (Cond.code ({ cls := "CoinBoatsModel", name := "isTrickle", desc := "(III)Z" } : MethodName) prog_14_method_131_code (3 : Nat) (Option.some Jvm.ClassFile.FieldType.boolean)) ∈ ai_tb := ai_wd9 72 rfl rfl
theorem wd_1989 : (Cond.code ({ cls := "CoinBoatsModel", name := "trickle", desc := "(IIII)I" } : MethodName) prog_14_method_132_code (9 : Nat) (Option.some Jvm.ClassFile.FieldType.int)) ∈ ai_tb := ai_wd9 69 rfl rfl
theorem wd_1996 : (Cond.code ({ cls := "CoinBoatsModel", name := "trickled", desc := "(IIII)I" } : MethodName) prog_14_method_133_code (7 : Nat) (Option.some Jvm.ClassFile.FieldType.int)) ∈ ai_tb := ai_wd9 76 rfl rfl
theorem wd_2000 : (Cond.code ({ cls := "CoinBoatsModel", name := "burnAt", desc := "(III)I" } : MethodName) prog_14_method_134_code (8 : Nat) (Option.some Jvm.ClassFile.FieldType.int)) ∈ ai_tb := ai_wd9 80 rfl rfl
theorem wd_2007 : (Cond.code ({ cls := "CoinBoatsModel", name := "isCost", desc := "(I)Z" } : MethodName) prog_14_method_135_code (1 : Nat) (Option.some Jvm.ClassFile.FieldType.boolean)) ∈ ai_tb := ai_wd9 87 rfl rfl
theorem wd_2004 : (Cond.code ({ cls := "CoinBoatsModel", name := "sort", desc := "(IIIIIII)I" } : MethodName) prog_14_method_136_code (12 : Nat) (Option.some Jvm.ClassFile.FieldType.int)) ∈ ai_tb := ai_wd9 84 rfl rfl
theorem wd_2012 : (Cond.code ({ cls := "CoinBoatsModel", name := "count", desc := "(I)I" } : MethodName) prog_14_method_137_code (2 : Nat) (Option.some Jvm.ClassFile.FieldType.int)) ∈ ai_tb := ai_wd9 92 rfl rfl
theorem wd_1051 : (Cond.code ({ cls := "java/lang/Integer", name := "bitCount", desc := "(I)I" } : MethodName) prog_16_method_49_code (1 : Nat) (Option.some Jvm.ClassFile.FieldType.int)) ∈ ai_tb := ai_wd5 91 rfl rfl
theorem wd_20 : (Cond.initialized "java/lang/Integer") ∈ ai_tb := ai_wd1 20 rfl rfl
theorem wd_1214 : (Cond.code ({ cls := "java/lang/Math", name := "abs", desc := "(I)I" } : MethodName) prog_17_method_59_code (1 : Nat) (Option.some Jvm.ClassFile.FieldType.int)) ∈ ai_tb := ai_wd6 14 rfl rfl
theorem wd_4 : (Cond.initialized "java/lang/Math") ∈ ai_tb := ai_wd1 4 rfl rfl
theorem wd_43 : (Cond.code ({ cls := "java/lang/Math", name := "max", desc := "(II)I" } : MethodName) prog_17_method_65_code (2 : Nat) (Option.some Jvm.ClassFile.FieldType.int)) ∈ ai_tb := ai_wd1 43 rfl rfl
theorem wd_435 : (Cond.code ({ cls := "java/lang/Math", name := "min", desc := "(II)I" } : MethodName) prog_17_method_69_code (2 : Nat) (Option.some Jvm.ClassFile.FieldType.int)) ∈ ai_tb := ai_wd2 195 rfl rfl
theorem wd_467 : (Cond.code ({ cls := "java/lang/String", name := "length", desc := "()I" } : MethodName) prog_18_method_54_code (1 : Nat) (Option.some Jvm.ClassFile.FieldType.int)) ∈ ai_tb := ai_wd2 227 rfl rfl
theorem wd_15 : (Cond.initialized "java/lang/String") ∈ ai_tb := ai_wd1 15 rfl rfl
theorem wd_477 : (Cond.code ({ cls := "java/lang/String", name := "charAt", desc := "(I)C" } : MethodName) prog_18_method_56_code (2 : Nat) (Option.some Jvm.ClassFile.FieldType.char)) ∈ ai_tb := ai_wd2 237 rfl rfl
theorem wd_525 : (Cond.code ({ cls := "java/lang/String", name := "indexOf", desc := "(I)I" } : MethodName) prog_18_method_79_code (2 : Nat) (Option.some Jvm.ClassFile.FieldType.int)) ∈ ai_tb := ai_wd3 45 rfl rfl
theorem wd_529 : (Cond.code ({ cls := "java/lang/String", name := "indexOf", desc := "(II)I" } : MethodName) prog_18_method_80_code (3 : Nat) (Option.some Jvm.ClassFile.FieldType.int)) ∈ ai_tb := ai_wd3 49 rfl rfl
theorem wd_471 : (Cond.code ({ cls := "java/lang/String", name := "coder", desc := "()B" } : MethodName) prog_18_method_152_code (1 : Nat) (Option.some Jvm.ClassFile.FieldType.byte)) ∈ ai_tb := ai_wd2 231 rfl rfl
theorem wd_481 : (Cond.code ({ cls := "java/lang/String", name := "isLatin1", desc := "()Z" } : MethodName) prog_18_method_154_code (1 : Nat) (Option.some Jvm.ClassFile.FieldType.boolean)) ∈ ai_tb := ai_wd3 1 rfl rfl
theorem wd_487 : (Cond.code ({ cls := "java/lang/String", name := "checkIndex", desc := "(II)V" } : MethodName) prog_18_method_155_code (2 : Nat) (Option.none : Option Jvm.ClassFile.FieldType)) ∈ ai_tb := ai_wd3 7 rfl rfl
theorem wd_484 : (Cond.code ({ cls := "java/lang/StringLatin1", name := "charAt", desc := "([BI)C" } : MethodName) prog_19_method_2_code (2 : Nat) (Option.some Jvm.ClassFile.FieldType.char)) ∈ ai_tb := ai_wd3 4 rfl rfl
theorem wd_16 : (Cond.initialized "java/lang/StringLatin1") ∈ ai_tb := ai_wd1 16 rfl rfl
theorem wd_536 : (Cond.code ({ cls := "java/lang/StringLatin1", name := "canEncode", desc := "(I)Z" } : MethodName) prog_19_method_4_code (1 : Nat) (Option.some Jvm.ClassFile.FieldType.boolean)) ∈ ai_tb := ai_wd3 56 rfl rfl
theorem wd_533 : (Cond.code ({ cls := "java/lang/StringLatin1", name := "indexOf", desc := "([BIII)I" } : MethodName) prog_19_method_22_code (4 : Nat) (Option.some Jvm.ClassFile.FieldType.int)) ∈ ai_tb := ai_wd3 53 rfl rfl
theorem wd_541 : (Cond.code ({ cls := "java/lang/StringLatin1", name := "indexOfChar", desc := "([BIII)I" } : MethodName) prog_19_method_23_code (6 : Nat) (Option.some Jvm.ClassFile.FieldType.int)) ∈ ai_tb := ai_wd3 61 rfl rfl
theorem wd_492 : (Cond.code ({ cls := "jdk/internal/util/Preconditions", name := "checkIndex", desc := "(IILjava/util/function/BiFunction;)I" } : MethodName) prog_21_method_11_code (3 : Nat) (Option.some Jvm.ClassFile.FieldType.int)) ∈ ai_tb := ai_wd3 12 rfl rfl
theorem wd_17 : (Cond.initialized "jdk/internal/util/Preconditions") ∈ ai_tb := ai_wd1 17 rfl rfl
theorem wd_274 : (Cond.laysFinal "CoinBoats$Calendar" "CoinBoats$Calendar" "loads" "LCoinBoats$Rows;") ∈ ai_tb := ai_wd2 34 rfl rfl
theorem wd_276 : (Cond.laysFinal "CoinBoats$Calendar" "CoinBoats$Calendar" "shadow" "LCoinBoats$Pieces;") ∈ ai_tb := ai_wd2 36 rfl rfl
theorem wd_278 : (Cond.lays "CoinBoats$Calendar" "CoinBoats$Calendar" "reason" "I") ∈ ai_tb := ai_wd2 38 rfl rfl
theorem wd_293 : (Cond.laysFinal "CoinBoats$Coins" "CoinBoats$Coins" "given" "[I") ∈ ai_tb := ai_wd2 53 rfl rfl
theorem wd_295 : (Cond.laysFinal "CoinBoats$Coins" "CoinBoats$Coins" "comes" "[I") ∈ ai_tb := ai_wd2 55 rfl rfl
theorem wd_297 : (Cond.laysFinal "CoinBoats$Coins" "CoinBoats$Coins" "tills" "LCoinBoats$Rows;") ∈ ai_tb := ai_wd2 57 rfl rfl
theorem wd_299 : (Cond.lays "CoinBoats$Coins" "CoinBoats$Coins" "pieces" "I") ∈ ai_tb := ai_wd2 59 rfl rfl
theorem wd_70 : (Cond.laysFinal "CoinBoats$Formulas" "CoinBoats$Formulas" "steps" "[I") ∈ ai_tb := ai_wd1 70 rfl rfl
theorem wd_72 : (Cond.lays "CoinBoats$Formulas" "CoinBoats$Formulas" "size" "I") ∈ ai_tb := ai_wd1 72 rfl rfl
theorem wd_74 : (Cond.laysFinal "CoinBoats$Formulas" "CoinBoats$Formulas" "stack" "[I") ∈ ai_tb := ai_wd1 74 rfl rfl
theorem wd_76 : (Cond.lays "CoinBoats$Formulas" "CoinBoats$Formulas" "depth" "I") ∈ ai_tb := ai_wd1 76 rfl rfl
theorem wd_78 : (Cond.lays "CoinBoats$Formulas" "CoinBoats$Formulas" "dividedByZero" "Z") ∈ ai_tb := ai_wd1 78 rfl rfl
theorem wd_334 : (Cond.laysFinal "CoinBoats$Ledger" "CoinBoats$Ledger" "went" "LCoinBoats$Rows;") ∈ ai_tb := ai_wd2 94 rfl rfl
theorem wd_336 : (Cond.laysFinal "CoinBoats$Ledger" "CoinBoats$Ledger" "came" "LCoinBoats$Rows;") ∈ ai_tb := ai_wd2 96 rfl rfl
theorem wd_338 : (Cond.laysFinal "CoinBoats$Ledger" "CoinBoats$Ledger" "looks" "LCoinBoats$Rows;") ∈ ai_tb := ai_wd2 98 rfl rfl
theorem wd_340 : (Cond.laysFinal "CoinBoats$Ledger" "CoinBoats$Ledger" "voided" "LCoinBoats$Rows;") ∈ ai_tb := ai_wd2 100 rfl rfl
theorem wd_342 : (Cond.lays "CoinBoats$Ledger" "CoinBoats$Ledger" "allSeen" "I") ∈ ai_tb := ai_wd2 102 rfl rfl
theorem wd_344 : (Cond.lays "CoinBoats$Ledger" "CoinBoats$Ledger" "allFalse" "I") ∈ ai_tb := ai_wd2 104 rfl rfl
theorem wd_346 : (Cond.lays "CoinBoats$Ledger" "CoinBoats$Ledger" "kept" "I") ∈ ai_tb := ai_wd2 106 rfl rfl
theorem wd_348 : (Cond.lays "CoinBoats$Ledger" "CoinBoats$Ledger" "lost" "I") ∈ ai_tb := ai_wd2 108 rfl rfl
theorem wd_212 : (Cond.laysFinal "CoinBoats$Pieces" "CoinBoats$Pieces" "rows" "LCoinBoats$Rows;") ∈ ai_tb := ai_wd1 212 rfl rfl
theorem wd_176 : (Cond.laysFinal "CoinBoats$Reader" "CoinBoats$Reader" "tokens" "LCoinBoats$Tokens;") ∈ ai_tb := ai_wd1 176 rfl rfl
theorem wd_178 : (Cond.laysFinal "CoinBoats$Reader" "CoinBoats$Reader" "kindNames" "[J") ∈ ai_tb := ai_wd1 178 rfl rfl
theorem wd_180 : (Cond.laysFinal "CoinBoats$Reader" "CoinBoats$Reader" "islandNames" "[J") ∈ ai_tb := ai_wd1 180 rfl rfl
theorem wd_182 : (Cond.lays "CoinBoats$Reader" "CoinBoats$Reader" "at" "I") ∈ ai_tb := ai_wd1 182 rfl rfl
theorem wd_184 : (Cond.lays "CoinBoats$Reader" "CoinBoats$Reader" "fault" "I") ∈ ai_tb := ai_wd1 184 rfl rfl
theorem wd_186 : (Cond.lays "CoinBoats$Reader" "CoinBoats$Reader" "faultToken" "I") ∈ ai_tb := ai_wd1 186 rfl rfl
theorem wd_188 : (Cond.lays "CoinBoats$Reader" "CoinBoats$Reader" "laterFault" "I") ∈ ai_tb := ai_wd1 188 rfl rfl
theorem wd_190 : (Cond.lays "CoinBoats$Reader" "CoinBoats$Reader" "laterToken" "I") ∈ ai_tb := ai_wd1 190 rfl rfl
theorem wd_48 : (Cond.laysFinal "CoinBoats$Rows" "CoinBoats$Rows" "most" "I") ∈ ai_tb := ai_wd1 48 rfl rfl
theorem wd_50 : (Cond.laysFinal "CoinBoats$Rows" "CoinBoats$Rows" "width" "I") ∈ ai_tb := ai_wd1 50 rfl rfl
theorem wd_52 : (Cond.laysFinal "CoinBoats$Rows" "CoinBoats$Rows" "cells" "[I") ∈ ai_tb := ai_wd1 52 rfl rfl
theorem wd_54 : (Cond.lays "CoinBoats$Rows" "CoinBoats$Rows" "size" "I") ∈ ai_tb := ai_wd1 54 rfl rfl
theorem wd_242 : (Cond.laysFinal "CoinBoats$State" "CoinBoats$State" "pieces" "LCoinBoats$Pieces;") ∈ ai_tb := ai_wd2 2 rfl rfl
theorem wd_244 : (Cond.laysFinal "CoinBoats$State" "CoinBoats$State" "sendings" "LCoinBoats$Rows;") ∈ ai_tb := ai_wd2 4 rfl rfl
theorem wd_246 : (Cond.laysFinal "CoinBoats$State" "CoinBoats$State" "books" "LCoinBoats$Rows;") ∈ ai_tb := ai_wd2 6 rfl rfl
theorem wd_248 : (Cond.laysFinal "CoinBoats$State" "CoinBoats$State" "lacked" "LCoinBoats$Rows;") ∈ ai_tb := ai_wd2 8 rfl rfl
theorem wd_250 : (Cond.lays "CoinBoats$State" "CoinBoats$State" "time" "I") ∈ ai_tb := ai_wd2 10 rfl rfl
theorem wd_252 : (Cond.lays "CoinBoats$State" "CoinBoats$State" "spentHarm" "J") ∈ ai_tb := ai_wd2 12 rfl rfl
theorem wd_254 : (Cond.lays "CoinBoats$State" "CoinBoats$State" "spentBoats" "J") ∈ ai_tb := ai_wd2 14 rfl rfl
theorem wd_256 : (Cond.lays "CoinBoats$State" "CoinBoats$State" "spentNew" "J") ∈ ai_tb := ai_wd2 16 rfl rfl
theorem wd_258 : (Cond.lays "CoinBoats$State" "CoinBoats$State" "isHeld" "Z") ∈ ai_tb := ai_wd2 18 rfl rfl
theorem wd_311 : (Cond.laysFinal "CoinBoats$Stocks" "CoinBoats$Stocks" "costs" "[J") ∈ ai_tb := ai_wd2 71 rfl rfl
theorem wd_313 : (Cond.laysFinal "CoinBoats$Stocks" "CoinBoats$Stocks" "behindBoat" "[J") ∈ ai_tb := ai_wd2 73 rfl rfl
theorem wd_315 : (Cond.laysFinal "CoinBoats$Stocks" "CoinBoats$Stocks" "orders" "[I") ∈ ai_tb := ai_wd2 75 rfl rfl
theorem wd_116 : (Cond.laysFinal "CoinBoats$Text" "CoinBoats$Text" "kinds" "LCoinBoats$Rows;") ∈ ai_tb := ai_wd1 116 rfl rfl
theorem wd_118 : (Cond.laysFinal "CoinBoats$Text" "CoinBoats$Text" "islands" "LCoinBoats$Rows;") ∈ ai_tb := ai_wd1 118 rfl rfl
theorem wd_120 : (Cond.laysFinal "CoinBoats$Text" "CoinBoats$Text" "wants" "LCoinBoats$Rows;") ∈ ai_tb := ai_wd1 120 rfl rfl
theorem wd_122 : (Cond.laysFinal "CoinBoats$Text" "CoinBoats$Text" "losses" "LCoinBoats$Rows;") ∈ ai_tb := ai_wd1 122 rfl rfl
theorem wd_124 : (Cond.laysFinal "CoinBoats$Text" "CoinBoats$Text" "flows" "LCoinBoats$Rows;") ∈ ai_tb := ai_wd1 124 rfl rfl
theorem wd_126 : (Cond.laysFinal "CoinBoats$Text" "CoinBoats$Text" "wears" "LCoinBoats$Rows;") ∈ ai_tb := ai_wd1 126 rfl rfl
theorem wd_128 : (Cond.laysFinal "CoinBoats$Text" "CoinBoats$Text" "boats" "LCoinBoats$Rows;") ∈ ai_tb := ai_wd1 128 rfl rfl
theorem wd_130 : (Cond.laysFinal "CoinBoats$Text" "CoinBoats$Text" "formulas" "LCoinBoats$Formulas;") ∈ ai_tb := ai_wd1 130 rfl rfl
theorem wd_152 : (Cond.laysFinal "CoinBoats$Tokens" "CoinBoats$Tokens" "sorts" "[I") ∈ ai_tb := ai_wd1 152 rfl rfl
theorem wd_154 : (Cond.laysFinal "CoinBoats$Tokens" "CoinBoats$Tokens" "places" "[I") ∈ ai_tb := ai_wd1 154 rfl rfl
theorem wd_156 : (Cond.laysFinal "CoinBoats$Tokens" "CoinBoats$Tokens" "values" "[J") ∈ ai_tb := ai_wd1 156 rfl rfl
theorem wd_158 : (Cond.lays "CoinBoats$Tokens" "CoinBoats$Tokens" "size" "I") ∈ ai_tb := ai_wd1 158 rfl rfl
theorem wd_160 : (Cond.lays "CoinBoats$Tokens" "CoinBoats$Tokens" "at" "I") ∈ ai_tb := ai_wd1 160 rfl rfl
theorem wd_162 : (Cond.lays "CoinBoats$Tokens" "CoinBoats$Tokens" "length" "I") ∈ ai_tb := ai_wd1 162 rfl rfl
theorem wd_164 : (Cond.lays "CoinBoats$Tokens" "CoinBoats$Tokens" "value" "J") ∈ ai_tb := ai_wd1 164 rfl rfl
theorem wd_364 : (Cond.laysFinal "CoinBoats" "CoinBoats" "tape" "[B") ∈ ai_tb := ai_wd2 124 rfl rfl
theorem wd_366 : (Cond.lays "CoinBoats" "CoinBoats" "bytes" "I") ∈ ai_tb := ai_wd2 126 rfl rfl
theorem wd_368 : (Cond.lays "CoinBoats" "CoinBoats" "faultPlace" "I") ∈ ai_tb := ai_wd2 128 rfl rfl
theorem wd_370 : (Cond.lays "CoinBoats" "CoinBoats" "text" "LCoinBoats$Text;") ∈ ai_tb := ai_wd2 130 rfl rfl
theorem wd_372 : (Cond.lays "CoinBoats" "CoinBoats" "spare" "LCoinBoats$Text;") ∈ ai_tb := ai_wd2 132 rfl rfl
theorem wd_374 : (Cond.laysFinal "CoinBoats" "CoinBoats" "reader" "LCoinBoats$Reader;") ∈ ai_tb := ai_wd2 134 rfl rfl
theorem wd_376 : (Cond.laysFinal "CoinBoats" "CoinBoats" "now" "LCoinBoats$State;") ∈ ai_tb := ai_wd2 136 rfl rfl
theorem wd_378 : (Cond.laysFinal "CoinBoats" "CoinBoats" "slotA" "LCoinBoats$State;") ∈ ai_tb := ai_wd2 138 rfl rfl
theorem wd_380 : (Cond.laysFinal "CoinBoats" "CoinBoats" "slotB" "LCoinBoats$State;") ∈ ai_tb := ai_wd2 140 rfl rfl
theorem wd_382 : (Cond.laysFinal "CoinBoats" "CoinBoats" "calendar" "LCoinBoats$Calendar;") ∈ ai_tb := ai_wd2 142 rfl rfl
theorem wd_384 : (Cond.laysFinal "CoinBoats" "CoinBoats" "coins" "LCoinBoats$Coins;") ∈ ai_tb := ai_wd2 144 rfl rfl
theorem wd_386 : (Cond.laysFinal "CoinBoats" "CoinBoats" "stocks" "LCoinBoats$Stocks;") ∈ ai_tb := ai_wd2 146 rfl rfl
theorem wd_388 : (Cond.laysFinal "CoinBoats" "CoinBoats" "ledger" "LCoinBoats$Ledger;") ∈ ai_tb := ai_wd2 148 rfl rfl
theorem wd_1370 : (Cond.lays "CoinBoatsModel" "CoinBoatsModel" "taped" "I") ∈ ai_tb := ai_wd6 170 rfl rfl
theorem wd_1372 : (Cond.laysFinal "CoinBoatsModel" "CoinBoatsModel" "tape" "[I") ∈ ai_tb := ai_wd6 172 rfl rfl
theorem wd_1374 : (Cond.lays "CoinBoatsModel" "CoinBoatsModel" "tokens" "I") ∈ ai_tb := ai_wd6 174 rfl rfl
theorem wd_1376 : (Cond.laysFinal "CoinBoatsModel" "CoinBoatsModel" "tokenSort" "[I") ∈ ai_tb := ai_wd6 176 rfl rfl
theorem wd_1378 : (Cond.laysFinal "CoinBoatsModel" "CoinBoatsModel" "tokenFrom" "[I") ∈ ai_tb := ai_wd6 178 rfl rfl
theorem wd_1380 : (Cond.laysFinal "CoinBoatsModel" "CoinBoatsModel" "tokenWhat" "[I") ∈ ai_tb := ai_wd6 180 rfl rfl
theorem wd_1382 : (Cond.laysFinal "CoinBoatsModel" "CoinBoatsModel" "tokenName" "[J") ∈ ai_tb := ai_wd6 182 rfl rfl
theorem wd_1384 : (Cond.lays "CoinBoatsModel" "CoinBoatsModel" "head" "I") ∈ ai_tb := ai_wd6 184 rfl rfl
theorem wd_1386 : (Cond.lays "CoinBoatsModel" "CoinBoatsModel" "fault" "I") ∈ ai_tb := ai_wd6 186 rfl rfl
theorem wd_1388 : (Cond.lays "CoinBoatsModel" "CoinBoatsModel" "faultPlace" "I") ∈ ai_tb := ai_wd6 188 rfl rfl
theorem wd_1390 : (Cond.lays "CoinBoatsModel" "CoinBoatsModel" "worst" "I") ∈ ai_tb := ai_wd6 190 rfl rfl
theorem wd_1392 : (Cond.lays "CoinBoatsModel" "CoinBoatsModel" "worstPlace" "I") ∈ ai_tb := ai_wd6 192 rfl rfl
theorem wd_1394 : (Cond.laysFinal "CoinBoatsModel" "CoinBoatsModel" "state" "[I") ∈ ai_tb := ai_wd6 194 rfl rfl
theorem wd_1396 : (Cond.laysFinal "CoinBoatsModel" "CoinBoatsModel" "spent" "[J") ∈ ai_tb := ai_wd6 196 rfl rfl
theorem wd_1398 : (Cond.laysFinal "CoinBoatsModel" "CoinBoatsModel" "held" "[Z") ∈ ai_tb := ai_wd6 198 rfl rfl
theorem wd_1400 : (Cond.lays "CoinBoatsModel" "CoinBoatsModel" "names" "I") ∈ ai_tb := ai_wd6 200 rfl rfl
theorem wd_1402 : (Cond.laysFinal "CoinBoatsModel" "CoinBoatsModel" "named" "[J") ∈ ai_tb := ai_wd6 202 rfl rfl
theorem wd_1404 : (Cond.laysFinal "CoinBoatsModel" "CoinBoatsModel" "namedSort" "[I") ∈ ai_tb := ai_wd6 204 rfl rfl
theorem wd_1406 : (Cond.laysFinal "CoinBoatsModel" "CoinBoatsModel" "namedNumber" "[I") ∈ ai_tb := ai_wd6 206 rfl rfl
theorem wd_1408 : (Cond.lays "CoinBoatsModel" "CoinBoatsModel" "valued" "I") ∈ ai_tb := ai_wd6 208 rfl rfl
theorem wd_1410 : (Cond.lays "CoinBoatsModel" "CoinBoatsModel" "waiting" "I") ∈ ai_tb := ai_wd6 210 rfl rfl
theorem wd_1412 : (Cond.laysFinal "CoinBoatsModel" "CoinBoatsModel" "waits" "[I") ∈ ai_tb := ai_wd6 212 rfl rfl
theorem wd_1414 : (Cond.lays "CoinBoatsModel" "CoinBoatsModel" "exprFrom" "I") ∈ ai_tb := ai_wd6 214 rfl rfl
theorem wd_1416 : (Cond.laysFinal "CoinBoatsModel" "CoinBoatsModel" "asked" "[I") ∈ ai_tb := ai_wd6 216 rfl rfl
theorem wd_1418 : (Cond.laysFinal "CoinBoatsModel" "CoinBoatsModel" "stack" "[I") ∈ ai_tb := ai_wd6 218 rfl rfl
theorem wd_1420 : (Cond.laysFinal "CoinBoatsModel" "CoinBoatsModel" "load" "[I") ∈ ai_tb := ai_wd6 220 rfl rfl
theorem wd_1422 : (Cond.laysFinal "CoinBoatsModel" "CoinBoatsModel" "till" "[I") ∈ ai_tb := ai_wd6 222 rfl rfl
theorem wd_1424 : (Cond.lays "CoinBoatsModel" "CoinBoatsModel" "judged" "I") ∈ ai_tb := ai_wd6 224 rfl rfl
theorem wd_1426 : (Cond.lays "CoinBoatsModel" "CoinBoatsModel" "judgedWhy" "I") ∈ ai_tb := ai_wd6 226 rfl rfl
theorem wd_1428 : (Cond.laysFinal "CoinBoatsModel" "CoinBoatsModel" "tills" "[I") ∈ ai_tb := ai_wd6 228 rfl rfl
theorem wd_1430 : (Cond.laysFinal "CoinBoatsModel" "CoinBoatsModel" "fewest" "[I") ∈ ai_tb := ai_wd6 230 rfl rfl
theorem wd_1432 : (Cond.laysFinal "CoinBoatsModel" "CoinBoatsModel" "queue" "[I") ∈ ai_tb := ai_wd6 232 rfl rfl
theorem wd_1434 : (Cond.laysFinal "CoinBoatsModel" "CoinBoatsModel" "endless" "[I") ∈ ai_tb := ai_wd6 234 rfl rfl
theorem wd_1436 : (Cond.lays "CoinBoatsModel" "CoinBoatsModel" "bestKinds" "I") ∈ ai_tb := ai_wd6 236 rfl rfl
theorem wd_1438 : (Cond.lays "CoinBoatsModel" "CoinBoatsModel" "bestSum" "I") ∈ ai_tb := ai_wd6 238 rfl rfl
theorem wd_1440 : (Cond.laysFinal "CoinBoatsModel" "CoinBoatsModel" "coin" "[J") ∈ ai_tb := ai_wd7 0 rfl rfl
theorem wd_1442 : (Cond.laysFinal "CoinBoatsModel" "CoinBoatsModel" "coinThen" "[J") ∈ ai_tb := ai_wd7 2 rfl rfl
theorem wd_1444 : (Cond.lays "CoinBoatsModel" "CoinBoatsModel" "ordered" "I") ∈ ai_tb := ai_wd7 4 rfl rfl
theorem wd_1446 : (Cond.laysFinal "CoinBoatsModel" "CoinBoatsModel" "went" "[I") ∈ ai_tb := ai_wd7 6 rfl rfl
theorem wd_1448 : (Cond.laysFinal "CoinBoatsModel" "CoinBoatsModel" "came" "[I") ∈ ai_tb := ai_wd7 8 rfl rfl
theorem wd_1450 : (Cond.lays "CoinBoatsModel" "CoinBoatsModel" "lookedAll" "I") ∈ ai_tb := ai_wd7 10 rfl rfl
theorem wd_1452 : (Cond.lays "CoinBoatsModel" "CoinBoatsModel" "falseAll" "I") ∈ ai_tb := ai_wd7 12 rfl rfl
theorem wd_1454 : (Cond.laysFinal "CoinBoatsModel" "CoinBoatsModel" "lookedAt" "[I") ∈ ai_tb := ai_wd7 14 rfl rfl
theorem wd_1456 : (Cond.laysFinal "CoinBoatsModel" "CoinBoatsModel" "falseAt" "[I") ∈ ai_tb := ai_wd7 16 rfl rfl
theorem in_0 : ∀ w ∈ u_ws RX0 TX0 3, w ∈ ai_tb := ((List.forall_mem_cons.mpr ⟨wd_274, (List.forall_mem_cons.mpr ⟨wd_276, (List.forall_mem_cons.mpr ⟨wd_278, (fun _ h => absurd h List.not_mem_nil)⟩)⟩)⟩) : ∀ w ∈ [(Cond.laysFinal "CoinBoats$Calendar" "CoinBoats$Calendar" "loads" "LCoinBoats$Rows;"), (Cond.laysFinal "CoinBoats$Calendar" "CoinBoats$Calendar" "shadow" "LCoinBoats$Pieces;"), (Cond.lays "CoinBoats$Calendar" "CoinBoats$Calendar" "reason" "I")], w ∈ ai_tb)
theorem tb_0 : ai_Tb 0 RX0 TX0 3 := ⟨rfl, in_0, tyX0_ok, nmX0, fun k hk => by match k, hk with | 0, _ => exact rfl | 1, _ => exact rfl | 2, _ => exact rfl | q + 3, h => exact absurd h (by omega), by decide⟩
theorem in_1 : ∀ w ∈ u_ws RX1 TX1 4, w ∈ ai_tb := ((List.forall_mem_cons.mpr ⟨wd_293, (List.forall_mem_cons.mpr ⟨wd_295, (List.forall_mem_cons.mpr ⟨wd_297, (List.forall_mem_cons.mpr ⟨wd_299, (fun _ h => absurd h List.not_mem_nil)⟩)⟩)⟩)⟩) : ∀ w ∈ [(Cond.laysFinal "CoinBoats$Coins" "CoinBoats$Coins" "given" "[I"), (Cond.laysFinal "CoinBoats$Coins" "CoinBoats$Coins" "comes" "[I"), (Cond.laysFinal "CoinBoats$Coins" "CoinBoats$Coins" "tills" "LCoinBoats$Rows;"), (Cond.lays "CoinBoats$Coins" "CoinBoats$Coins" "pieces" "I")], w ∈ ai_tb)
theorem tb_1 : ai_Tb 1 RX1 TX1 4 := ⟨rfl, in_1, tyX1_ok, nmX1, fun k hk => by match k, hk with | 0, _ => exact rfl | 1, _ => exact rfl | 2, _ => exact rfl | 3, _ => exact rfl | q + 4, h => exact absurd h (by omega), by decide⟩
theorem in_2 : ∀ w ∈ u_ws RX2 TX2 5, w ∈ ai_tb := ((List.forall_mem_cons.mpr ⟨wd_70, (List.forall_mem_cons.mpr ⟨wd_72, (List.forall_mem_cons.mpr ⟨wd_74, (List.forall_mem_cons.mpr ⟨wd_76, (List.forall_mem_cons.mpr ⟨wd_78, (fun _ h => absurd h List.not_mem_nil)⟩)⟩)⟩)⟩)⟩) : ∀ w ∈ [(Cond.laysFinal "CoinBoats$Formulas" "CoinBoats$Formulas" "steps" "[I"), (Cond.lays "CoinBoats$Formulas" "CoinBoats$Formulas" "size" "I"), (Cond.laysFinal "CoinBoats$Formulas" "CoinBoats$Formulas" "stack" "[I"), (Cond.lays "CoinBoats$Formulas" "CoinBoats$Formulas" "depth" "I"), (Cond.lays "CoinBoats$Formulas" "CoinBoats$Formulas" "dividedByZero" "Z")], w ∈ ai_tb)
theorem tb_2 : ai_Tb 2 RX2 TX2 5 := ⟨rfl, in_2, tyX2_ok, nmX2, fun k hk => by match k, hk with | 0, _ => exact rfl | 1, _ => exact rfl | 2, _ => exact rfl | 3, _ => exact rfl | 4, _ => exact rfl | q + 5, h => exact absurd h (by omega), by decide⟩
theorem in_3 : ∀ w ∈ u_ws RX3 TX3 8, w ∈ ai_tb := ((List.forall_mem_cons.mpr ⟨wd_334, (List.forall_mem_cons.mpr ⟨wd_336, (List.forall_mem_cons.mpr ⟨wd_338, (List.forall_mem_cons.mpr ⟨wd_340, (List.forall_mem_cons.mpr ⟨wd_342, (List.forall_mem_cons.mpr ⟨wd_344, (List.forall_mem_cons.mpr ⟨wd_346, (List.forall_mem_cons.mpr ⟨wd_348, (fun _ h => absurd h List.not_mem_nil)⟩)⟩)⟩)⟩)⟩)⟩)⟩)⟩) : ∀ w ∈ [(Cond.laysFinal "CoinBoats$Ledger" "CoinBoats$Ledger" "went" "LCoinBoats$Rows;"), (Cond.laysFinal "CoinBoats$Ledger" "CoinBoats$Ledger" "came" "LCoinBoats$Rows;"), (Cond.laysFinal "CoinBoats$Ledger" "CoinBoats$Ledger" "looks" "LCoinBoats$Rows;"), (Cond.laysFinal "CoinBoats$Ledger" "CoinBoats$Ledger" "voided" "LCoinBoats$Rows;"), (Cond.lays "CoinBoats$Ledger" "CoinBoats$Ledger" "allSeen" "I"), (Cond.lays "CoinBoats$Ledger" "CoinBoats$Ledger" "allFalse" "I"), (Cond.lays "CoinBoats$Ledger" "CoinBoats$Ledger" "kept" "I"), (Cond.lays "CoinBoats$Ledger" "CoinBoats$Ledger" "lost" "I")], w ∈ ai_tb)
theorem tb_3 : ai_Tb 3 RX3 TX3 8 := ⟨rfl, in_3, tyX3_ok, nmX3, fun k hk => by match k, hk with | 0, _ => exact rfl | 1, _ => exact rfl | 2, _ => exact rfl | 3, _ => exact rfl | 4, _ => exact rfl | 5, _ => exact rfl | 6, _ => exact rfl | 7, _ => exact rfl | q + 8, h => exact absurd h (by omega), by decide⟩
theorem in_4 : ∀ w ∈ u_ws RX4 TX4 1, w ∈ ai_tb := ((List.forall_mem_cons.mpr ⟨wd_212, (fun _ h => absurd h List.not_mem_nil)⟩) : ∀ w ∈ [(Cond.laysFinal "CoinBoats$Pieces" "CoinBoats$Pieces" "rows" "LCoinBoats$Rows;")], w ∈ ai_tb)
theorem tb_4 : ai_Tb 4 RX4 TX4 1 := ⟨rfl, in_4, tyX4_ok, nmX4, fun k hk => by match k, hk with | 0, _ => exact rfl | q + 1, h => exact absurd h (by omega), by decide⟩
theorem in_5 : ∀ w ∈ u_ws RX5 TX5 8, w ∈ ai_tb := ((List.forall_mem_cons.mpr ⟨wd_176, (List.forall_mem_cons.mpr ⟨wd_178, (List.forall_mem_cons.mpr ⟨wd_180, (List.forall_mem_cons.mpr ⟨wd_182, (List.forall_mem_cons.mpr ⟨wd_184, (List.forall_mem_cons.mpr ⟨wd_186, (List.forall_mem_cons.mpr ⟨wd_188, (List.forall_mem_cons.mpr ⟨wd_190, (fun _ h => absurd h List.not_mem_nil)⟩)⟩)⟩)⟩)⟩)⟩)⟩)⟩) : ∀ w ∈ [(Cond.laysFinal "CoinBoats$Reader" "CoinBoats$Reader" "tokens" "LCoinBoats$Tokens;"), (Cond.laysFinal "CoinBoats$Reader" "CoinBoats$Reader" "kindNames" "[J"), (Cond.laysFinal "CoinBoats$Reader" "CoinBoats$Reader" "islandNames" "[J"), (Cond.lays "CoinBoats$Reader" "CoinBoats$Reader" "at" "I"), (Cond.lays "CoinBoats$Reader" "CoinBoats$Reader" "fault" "I"), (Cond.lays "CoinBoats$Reader" "CoinBoats$Reader" "faultToken" "I"), (Cond.lays "CoinBoats$Reader" "CoinBoats$Reader" "laterFault" "I"), (Cond.lays "CoinBoats$Reader" "CoinBoats$Reader" "laterToken" "I")], w ∈ ai_tb)
theorem tb_5 : ai_Tb 5 RX5 TX5 8 := ⟨rfl, in_5, tyX5_ok, nmX5, fun k hk => by match k, hk with | 0, _ => exact rfl | 1, _ => exact rfl | 2, _ => exact rfl | 3, _ => exact rfl | 4, _ => exact rfl | 5, _ => exact rfl | 6, _ => exact rfl | 7, _ => exact rfl | q + 8, h => exact absurd h (by omega), by decide⟩
theorem in_6 : ∀ w ∈ u_ws RX6 TX6 4, w ∈ ai_tb := ((List.forall_mem_cons.mpr ⟨wd_48, (List.forall_mem_cons.mpr ⟨wd_50, (List.forall_mem_cons.mpr ⟨wd_52, (List.forall_mem_cons.mpr ⟨wd_54, (fun _ h => absurd h List.not_mem_nil)⟩)⟩)⟩)⟩) : ∀ w ∈ [(Cond.laysFinal "CoinBoats$Rows" "CoinBoats$Rows" "most" "I"), (Cond.laysFinal "CoinBoats$Rows" "CoinBoats$Rows" "width" "I"), (Cond.laysFinal "CoinBoats$Rows" "CoinBoats$Rows" "cells" "[I"), (Cond.lays "CoinBoats$Rows" "CoinBoats$Rows" "size" "I")], w ∈ ai_tb)
theorem tb_6 : ai_Tb 6 RX6 TX6 4 := ⟨rfl, in_6, tyX6_ok, nmX6, fun k hk => by match k, hk with | 0, _ => exact rfl | 1, _ => exact rfl | 2, _ => exact rfl | 3, _ => exact rfl | q + 4, h => exact absurd h (by omega), by decide⟩
theorem in_7 : ∀ w ∈ u_ws RX7 TX7 9, w ∈ ai_tb := ((List.forall_mem_cons.mpr ⟨wd_242, (List.forall_mem_cons.mpr ⟨wd_244, (List.forall_mem_cons.mpr ⟨wd_246, (List.forall_mem_cons.mpr ⟨wd_248, (List.forall_mem_cons.mpr ⟨wd_250, (List.forall_mem_cons.mpr ⟨wd_252, (List.forall_mem_cons.mpr ⟨wd_254, (List.forall_mem_cons.mpr ⟨wd_256, (List.forall_mem_cons.mpr ⟨wd_258, (fun _ h => absurd h List.not_mem_nil)⟩)⟩)⟩)⟩)⟩)⟩)⟩)⟩)⟩) : ∀ w ∈ [(Cond.laysFinal "CoinBoats$State" "CoinBoats$State" "pieces" "LCoinBoats$Pieces;"), (Cond.laysFinal "CoinBoats$State" "CoinBoats$State" "sendings" "LCoinBoats$Rows;"), (Cond.laysFinal "CoinBoats$State" "CoinBoats$State" "books" "LCoinBoats$Rows;"), (Cond.laysFinal "CoinBoats$State" "CoinBoats$State" "lacked" "LCoinBoats$Rows;"), (Cond.lays "CoinBoats$State" "CoinBoats$State" "time" "I"), (Cond.lays "CoinBoats$State" "CoinBoats$State" "spentHarm" "J"), (Cond.lays "CoinBoats$State" "CoinBoats$State" "spentBoats" "J"), (Cond.lays "CoinBoats$State" "CoinBoats$State" "spentNew" "J"), (Cond.lays "CoinBoats$State" "CoinBoats$State" "isHeld" "Z")], w ∈ ai_tb)
theorem tb_7 : ai_Tb 7 RX7 TX7 9 := ⟨rfl, in_7, tyX7_ok, nmX7, fun k hk => by match k, hk with | 0, _ => exact rfl | 1, _ => exact rfl | 2, _ => exact rfl | 3, _ => exact rfl | 4, _ => exact rfl | 5, _ => exact rfl | 6, _ => exact rfl | 7, _ => exact rfl | 8, _ => exact rfl | q + 9, h => exact absurd h (by omega), by decide⟩
theorem in_8 : ∀ w ∈ u_ws RX8 TX8 3, w ∈ ai_tb := ((List.forall_mem_cons.mpr ⟨wd_311, (List.forall_mem_cons.mpr ⟨wd_313, (List.forall_mem_cons.mpr ⟨wd_315, (fun _ h => absurd h List.not_mem_nil)⟩)⟩)⟩) : ∀ w ∈ [(Cond.laysFinal "CoinBoats$Stocks" "CoinBoats$Stocks" "costs" "[J"), (Cond.laysFinal "CoinBoats$Stocks" "CoinBoats$Stocks" "behindBoat" "[J"), (Cond.laysFinal "CoinBoats$Stocks" "CoinBoats$Stocks" "orders" "[I")], w ∈ ai_tb)
theorem tb_8 : ai_Tb 8 RX8 TX8 3 := ⟨rfl, in_8, tyX8_ok, nmX8, fun k hk => by match k, hk with | 0, _ => exact rfl | 1, _ => exact rfl | 2, _ => exact rfl | q + 3, h => exact absurd h (by omega), by decide⟩
theorem in_9 : ∀ w ∈ u_ws RX9 TX9 8, w ∈ ai_tb := ((List.forall_mem_cons.mpr ⟨wd_116, (List.forall_mem_cons.mpr ⟨wd_118, (List.forall_mem_cons.mpr ⟨wd_120, (List.forall_mem_cons.mpr ⟨wd_122, (List.forall_mem_cons.mpr ⟨wd_124, (List.forall_mem_cons.mpr ⟨wd_126, (List.forall_mem_cons.mpr ⟨wd_128, (List.forall_mem_cons.mpr ⟨wd_130, (fun _ h => absurd h List.not_mem_nil)⟩)⟩)⟩)⟩)⟩)⟩)⟩)⟩) : ∀ w ∈ [(Cond.laysFinal "CoinBoats$Text" "CoinBoats$Text" "kinds" "LCoinBoats$Rows;"), (Cond.laysFinal "CoinBoats$Text" "CoinBoats$Text" "islands" "LCoinBoats$Rows;"), (Cond.laysFinal "CoinBoats$Text" "CoinBoats$Text" "wants" "LCoinBoats$Rows;"), (Cond.laysFinal "CoinBoats$Text" "CoinBoats$Text" "losses" "LCoinBoats$Rows;"), (Cond.laysFinal "CoinBoats$Text" "CoinBoats$Text" "flows" "LCoinBoats$Rows;"), (Cond.laysFinal "CoinBoats$Text" "CoinBoats$Text" "wears" "LCoinBoats$Rows;"), (Cond.laysFinal "CoinBoats$Text" "CoinBoats$Text" "boats" "LCoinBoats$Rows;"), (Cond.laysFinal "CoinBoats$Text" "CoinBoats$Text" "formulas" "LCoinBoats$Formulas;")], w ∈ ai_tb)
theorem tb_9 : ai_Tb 9 RX9 TX9 8 := ⟨rfl, in_9, tyX9_ok, nmX9, fun k hk => by match k, hk with | 0, _ => exact rfl | 1, _ => exact rfl | 2, _ => exact rfl | 3, _ => exact rfl | 4, _ => exact rfl | 5, _ => exact rfl | 6, _ => exact rfl | 7, _ => exact rfl | q + 8, h => exact absurd h (by omega), by decide⟩
theorem in_10 : ∀ w ∈ u_ws RX10 TX10 7, w ∈ ai_tb := ((List.forall_mem_cons.mpr ⟨wd_152, (List.forall_mem_cons.mpr ⟨wd_154, (List.forall_mem_cons.mpr ⟨wd_156, (List.forall_mem_cons.mpr ⟨wd_158, (List.forall_mem_cons.mpr ⟨wd_160, (List.forall_mem_cons.mpr ⟨wd_162, (List.forall_mem_cons.mpr ⟨wd_164, (fun _ h => absurd h List.not_mem_nil)⟩)⟩)⟩)⟩)⟩)⟩)⟩) : ∀ w ∈ [(Cond.laysFinal "CoinBoats$Tokens" "CoinBoats$Tokens" "sorts" "[I"), (Cond.laysFinal "CoinBoats$Tokens" "CoinBoats$Tokens" "places" "[I"), (Cond.laysFinal "CoinBoats$Tokens" "CoinBoats$Tokens" "values" "[J"), (Cond.lays "CoinBoats$Tokens" "CoinBoats$Tokens" "size" "I"), (Cond.lays "CoinBoats$Tokens" "CoinBoats$Tokens" "at" "I"), (Cond.lays "CoinBoats$Tokens" "CoinBoats$Tokens" "length" "I"), (Cond.lays "CoinBoats$Tokens" "CoinBoats$Tokens" "value" "J")], w ∈ ai_tb)
theorem tb_10 : ai_Tb 10 RX10 TX10 7 := ⟨rfl, in_10, tyX10_ok, nmX10, fun k hk => by match k, hk with | 0, _ => exact rfl | 1, _ => exact rfl | 2, _ => exact rfl | 3, _ => exact rfl | 4, _ => exact rfl | 5, _ => exact rfl | 6, _ => exact rfl | q + 7, h => exact absurd h (by omega), by decide⟩
theorem in_11 : ∀ w ∈ u_ws RX11 TX11 13, w ∈ ai_tb := ((List.forall_mem_cons.mpr ⟨wd_364, (List.forall_mem_cons.mpr ⟨wd_366, (List.forall_mem_cons.mpr ⟨wd_368, (List.forall_mem_cons.mpr ⟨wd_370, (List.forall_mem_cons.mpr ⟨wd_372, (List.forall_mem_cons.mpr ⟨wd_374, (List.forall_mem_cons.mpr ⟨wd_376, (List.forall_mem_cons.mpr ⟨wd_378, (List.forall_mem_cons.mpr ⟨wd_380, (List.forall_mem_cons.mpr ⟨wd_382, (List.forall_mem_cons.mpr ⟨wd_384, (List.forall_mem_cons.mpr ⟨wd_386, (List.forall_mem_cons.mpr ⟨wd_388, (fun _ h => absurd h List.not_mem_nil)⟩)⟩)⟩)⟩)⟩)⟩)⟩)⟩)⟩)⟩)⟩)⟩)⟩) : ∀ w ∈ [(Cond.laysFinal "CoinBoats" "CoinBoats" "tape" "[B"), (Cond.lays "CoinBoats" "CoinBoats" "bytes" "I"), (Cond.lays "CoinBoats" "CoinBoats" "faultPlace" "I"), (Cond.lays "CoinBoats" "CoinBoats" "text" "LCoinBoats$Text;"), (Cond.lays "CoinBoats" "CoinBoats" "spare" "LCoinBoats$Text;"), (Cond.laysFinal "CoinBoats" "CoinBoats" "reader" "LCoinBoats$Reader;"), (Cond.laysFinal "CoinBoats" "CoinBoats" "now" "LCoinBoats$State;"), (Cond.laysFinal "CoinBoats" "CoinBoats" "slotA" "LCoinBoats$State;"), (Cond.laysFinal "CoinBoats" "CoinBoats" "slotB" "LCoinBoats$State;"), (Cond.laysFinal "CoinBoats" "CoinBoats" "calendar" "LCoinBoats$Calendar;"), (Cond.laysFinal "CoinBoats" "CoinBoats" "coins" "LCoinBoats$Coins;"), (Cond.laysFinal "CoinBoats" "CoinBoats" "stocks" "LCoinBoats$Stocks;"), (Cond.laysFinal "CoinBoats" "CoinBoats" "ledger" "LCoinBoats$Ledger;")], w ∈ ai_tb)
theorem tb_11 : ai_Tb 11 RX11 TX11 13 := ⟨rfl, in_11, tyX11_ok, nmX11, fun k hk => by match k, hk with | 0, _ => exact rfl | 1, _ => exact rfl | 2, _ => exact rfl | 3, _ => exact rfl | 4, _ => exact rfl | 5, _ => exact rfl | 6, _ => exact rfl | 7, _ => exact rfl | 8, _ => exact rfl | 9, _ => exact rfl | 10, _ => exact rfl | 11, _ => exact rfl | 12, _ => exact rfl | q + 13, h => exact absurd h (by omega), by decide⟩
theorem in_12 : ∀ w ∈ u_ws RX12 TX12 44, w ∈ ai_tb := ((List.forall_mem_cons.mpr ⟨wd_1370, (List.forall_mem_cons.mpr ⟨wd_1372, (List.forall_mem_cons.mpr ⟨wd_1374, (List.forall_mem_cons.mpr ⟨wd_1376, (List.forall_mem_cons.mpr ⟨wd_1378, (List.forall_mem_cons.mpr ⟨wd_1380, (List.forall_mem_cons.mpr ⟨wd_1382, (List.forall_mem_cons.mpr ⟨wd_1384, (List.forall_mem_cons.mpr ⟨wd_1386, (List.forall_mem_cons.mpr ⟨wd_1388, (List.forall_mem_cons.mpr ⟨wd_1390, (List.forall_mem_cons.mpr ⟨wd_1392, (List.forall_mem_cons.mpr ⟨wd_1394, (List.forall_mem_cons.mpr ⟨wd_1396, (List.forall_mem_cons.mpr ⟨wd_1398, (List.forall_mem_cons.mpr ⟨wd_1400, (List.forall_mem_cons.mpr ⟨wd_1402, (List.forall_mem_cons.mpr ⟨wd_1404, (List.forall_mem_cons.mpr ⟨wd_1406, (List.forall_mem_cons.mpr ⟨wd_1408, (List.forall_mem_cons.mpr ⟨wd_1410, (List.forall_mem_cons.mpr ⟨wd_1412, (List.forall_mem_cons.mpr ⟨wd_1414, (List.forall_mem_cons.mpr ⟨wd_1416, (List.forall_mem_cons.mpr ⟨wd_1418, (List.forall_mem_cons.mpr ⟨wd_1420, (List.forall_mem_cons.mpr ⟨wd_1422, (List.forall_mem_cons.mpr ⟨wd_1424, (List.forall_mem_cons.mpr ⟨wd_1426, (List.forall_mem_cons.mpr ⟨wd_1428, (List.forall_mem_cons.mpr ⟨wd_1430, (List.forall_mem_cons.mpr ⟨wd_1432, (List.forall_mem_cons.mpr ⟨wd_1434, (List.forall_mem_cons.mpr ⟨wd_1436, (List.forall_mem_cons.mpr ⟨wd_1438, (List.forall_mem_cons.mpr ⟨wd_1440, (List.forall_mem_cons.mpr ⟨wd_1442, (List.forall_mem_cons.mpr ⟨wd_1444, (List.forall_mem_cons.mpr ⟨wd_1446, (List.forall_mem_cons.mpr ⟨wd_1448, (List.forall_mem_cons.mpr ⟨wd_1450, (List.forall_mem_cons.mpr ⟨wd_1452, (List.forall_mem_cons.mpr ⟨wd_1454, (List.forall_mem_cons.mpr ⟨wd_1456, (fun _ h => absurd h List.not_mem_nil)⟩)⟩)⟩)⟩)⟩)⟩)⟩)⟩)⟩)⟩)⟩)⟩)⟩)⟩)⟩)⟩)⟩)⟩)⟩)⟩)⟩)⟩)⟩)⟩)⟩)⟩)⟩)⟩)⟩)⟩)⟩)⟩)⟩)⟩)⟩)⟩)⟩)⟩)⟩)⟩)⟩)⟩)⟩)⟩) : ∀ w ∈ [(Cond.lays "CoinBoatsModel" "CoinBoatsModel" "taped" "I"), (Cond.laysFinal "CoinBoatsModel" "CoinBoatsModel" "tape" "[I"), (Cond.lays "CoinBoatsModel" "CoinBoatsModel" "tokens" "I"), (Cond.laysFinal "CoinBoatsModel" "CoinBoatsModel" "tokenSort" "[I"), (Cond.laysFinal "CoinBoatsModel" "CoinBoatsModel" "tokenFrom" "[I"), (Cond.laysFinal "CoinBoatsModel" "CoinBoatsModel" "tokenWhat" "[I"), (Cond.laysFinal "CoinBoatsModel" "CoinBoatsModel" "tokenName" "[J"), (Cond.lays "CoinBoatsModel" "CoinBoatsModel" "head" "I"), (Cond.lays "CoinBoatsModel" "CoinBoatsModel" "fault" "I"), (Cond.lays "CoinBoatsModel" "CoinBoatsModel" "faultPlace" "I"), (Cond.lays "CoinBoatsModel" "CoinBoatsModel" "worst" "I"), (Cond.lays "CoinBoatsModel" "CoinBoatsModel" "worstPlace" "I"), (Cond.laysFinal "CoinBoatsModel" "CoinBoatsModel" "state" "[I"), (Cond.laysFinal "CoinBoatsModel" "CoinBoatsModel" "spent" "[J"), (Cond.laysFinal "CoinBoatsModel" "CoinBoatsModel" "held" "[Z"), (Cond.lays "CoinBoatsModel" "CoinBoatsModel" "names" "I"), (Cond.laysFinal "CoinBoatsModel" "CoinBoatsModel" "named" "[J"), (Cond.laysFinal "CoinBoatsModel" "CoinBoatsModel" "namedSort" "[I"), (Cond.laysFinal "CoinBoatsModel" "CoinBoatsModel" "namedNumber" "[I"), (Cond.lays "CoinBoatsModel" "CoinBoatsModel" "valued" "I"), (Cond.lays "CoinBoatsModel" "CoinBoatsModel" "waiting" "I"), (Cond.laysFinal "CoinBoatsModel" "CoinBoatsModel" "waits" "[I"), (Cond.lays "CoinBoatsModel" "CoinBoatsModel" "exprFrom" "I"), (Cond.laysFinal "CoinBoatsModel" "CoinBoatsModel" "asked" "[I"), (Cond.laysFinal "CoinBoatsModel" "CoinBoatsModel" "stack" "[I"), (Cond.laysFinal "CoinBoatsModel" "CoinBoatsModel" "load" "[I"), (Cond.laysFinal "CoinBoatsModel" "CoinBoatsModel" "till" "[I"), (Cond.lays "CoinBoatsModel" "CoinBoatsModel" "judged" "I"), (Cond.lays "CoinBoatsModel" "CoinBoatsModel" "judgedWhy" "I"), (Cond.laysFinal "CoinBoatsModel" "CoinBoatsModel" "tills" "[I"), (Cond.laysFinal "CoinBoatsModel" "CoinBoatsModel" "fewest" "[I"), (Cond.laysFinal "CoinBoatsModel" "CoinBoatsModel" "queue" "[I"), (Cond.laysFinal "CoinBoatsModel" "CoinBoatsModel" "endless" "[I"), (Cond.lays "CoinBoatsModel" "CoinBoatsModel" "bestKinds" "I"), (Cond.lays "CoinBoatsModel" "CoinBoatsModel" "bestSum" "I"), (Cond.laysFinal "CoinBoatsModel" "CoinBoatsModel" "coin" "[J"), (Cond.laysFinal "CoinBoatsModel" "CoinBoatsModel" "coinThen" "[J"), (Cond.lays "CoinBoatsModel" "CoinBoatsModel" "ordered" "I"), (Cond.laysFinal "CoinBoatsModel" "CoinBoatsModel" "went" "[I"), (Cond.laysFinal "CoinBoatsModel" "CoinBoatsModel" "came" "[I"), (Cond.lays "CoinBoatsModel" "CoinBoatsModel" "lookedAll" "I"), (Cond.lays "CoinBoatsModel" "CoinBoatsModel" "falseAll" "I"), (Cond.laysFinal "CoinBoatsModel" "CoinBoatsModel" "lookedAt" "[I"), (Cond.laysFinal "CoinBoatsModel" "CoinBoatsModel" "falseAt" "[I")], w ∈ ai_tb)
theorem tb_12 : ai_Tb 12 RX12 TX12 44 := ⟨rfl, in_12, tyX12_ok, nmX12, fun k hk => by match k, hk with | 0, _ => exact rfl | 1, _ => exact rfl | 2, _ => exact rfl | 3, _ => exact rfl | 4, _ => exact rfl | 5, _ => exact rfl | 6, _ => exact rfl | 7, _ => exact rfl | 8, _ => exact rfl | 9, _ => exact rfl | 10, _ => exact rfl | 11, _ => exact rfl | 12, _ => exact rfl | 13, _ => exact rfl | 14, _ => exact rfl | 15, _ => exact rfl | 16, _ => exact rfl | 17, _ => exact rfl | 18, _ => exact rfl | 19, _ => exact rfl | 20, _ => exact rfl | 21, _ => exact rfl | 22, _ => exact rfl | 23, _ => exact rfl | 24, _ => exact rfl | 25, _ => exact rfl | 26, _ => exact rfl | 27, _ => exact rfl | 28, _ => exact rfl | 29, _ => exact rfl | 30, _ => exact rfl | 31, _ => exact rfl | 32, _ => exact rfl | 33, _ => exact rfl | 34, _ => exact rfl | 35, _ => exact rfl | 36, _ => exact rfl | 37, _ => exact rfl | 38, _ => exact rfl | 39, _ => exact rfl | 40, _ => exact rfl | 41, _ => exact rfl | 42, _ => exact rfl | 43, _ => exact rfl | q + 44, h => exact absurd h (by omega), by decide⟩
theorem wd_objcode : Cond.code Lib.objectInit ⟨#[0xb1]⟩ 1 none ∈ ai_tb := ai_wd1 28 rfl rfl
theorem nc_0 : ("CoinBoats$Calendar" ≠ "java/lang/invoke/MethodHandle" ∧ "CoinBoats$Calendar" ≠ "java/lang/invoke/VarHandle") := ⟨by decide +kernel, by decide +kernel⟩
theorem pd_0 : (parseMethodDescriptor "()V").map (fun d => d.parameters.length) = some 0 := by decide +kernel
theorem pd_1 : (parseMethodDescriptor "(LCoinBoats$Text;LCoinBoats$State;I)I").map (fun d => d.parameters.length) = some 3 := by decide +kernel
theorem pd_2 : (parseMethodDescriptor "(LCoinBoats$Text;LCoinBoats$State;I)V").map (fun d => d.parameters.length) = some 3 := by decide +kernel
theorem pd_3 : (parseMethodDescriptor "(LCoinBoats$Text;LCoinBoats$Rows;ILCoinBoats$Pieces;IZ)I").map (fun d => d.parameters.length) = some 6 := by decide +kernel
theorem pd_4 : (parseMethodDescriptor "(LCoinBoats$Text;LCoinBoats$Rows;ILCoinBoats$Pieces;)V").map (fun d => d.parameters.length) = some 4 := by decide +kernel
theorem pd_5 : (parseMethodDescriptor "(LCoinBoats$Rows;I)I").map (fun d => d.parameters.length) = some 2 := by decide +kernel
theorem pd_6 : (parseMethodDescriptor "(LCoinBoats$Text;LCoinBoats$Rows;I)I").map (fun d => d.parameters.length) = some 3 := by decide +kernel
theorem pd_7 : (parseMethodDescriptor "(LCoinBoats$Text;LCoinBoats$State;)V").map (fun d => d.parameters.length) = some 2 := by decide +kernel
theorem pd_8 : (parseMethodDescriptor "(LCoinBoats$Text;LCoinBoats$State;II)V").map (fun d => d.parameters.length) = some 4 := by decide +kernel
theorem pd_9 : (parseMethodDescriptor "(LCoinBoats$Text;LCoinBoats$State;)I").map (fun d => d.parameters.length) = some 2 := by decide +kernel
theorem pd_10 : (parseMethodDescriptor "()I").map (fun d => d.parameters.length) = some 0 := by decide +kernel
theorem pd_11 : (parseMethodDescriptor "(III)I").map (fun d => d.parameters.length) = some 3 := by decide +kernel
theorem pd_12 : (parseMethodDescriptor "(II)I").map (fun d => d.parameters.length) = some 2 := by decide +kernel
theorem nc_1 : ("CoinBoats$Coins" ≠ "java/lang/invoke/MethodHandle" ∧ "CoinBoats$Coins" ≠ "java/lang/invoke/VarHandle") := ⟨by decide +kernel, by decide +kernel⟩
theorem pd_13 : (parseMethodDescriptor "(LCoinBoats$Text;LCoinBoats$Pieces;II)V").map (fun d => d.parameters.length) = some 4 := by decide +kernel
theorem pd_14 : (parseMethodDescriptor "(I)I").map (fun d => d.parameters.length) = some 1 := by decide +kernel
theorem pd_15 : (parseMethodDescriptor "(I)Z").map (fun d => d.parameters.length) = some 1 := by decide +kernel
theorem pd_16 : (parseMethodDescriptor "([IIII)I").map (fun d => d.parameters.length) = some 4 := by decide +kernel
theorem pd_17 : (parseMethodDescriptor "([IIIII)I").map (fun d => d.parameters.length) = some 5 := by decide +kernel
theorem pd_18 : (parseMethodDescriptor "([IIII)V").map (fun d => d.parameters.length) = some 4 := by decide +kernel
theorem pd_19 : (parseMethodDescriptor "([II)V").map (fun d => d.parameters.length) = some 2 := by decide +kernel
theorem pd_20 : (parseMethodDescriptor "([III)V").map (fun d => d.parameters.length) = some 3 := by decide +kernel
theorem pd_21 : (parseMethodDescriptor "([II)I").map (fun d => d.parameters.length) = some 2 := by decide +kernel
theorem nc_2 : ("CoinBoats$Formulas" ≠ "java/lang/invoke/MethodHandle" ∧ "CoinBoats$Formulas" ≠ "java/lang/invoke/VarHandle") := ⟨by decide +kernel, by decide +kernel⟩
theorem pd_22 : (parseMethodDescriptor "(II)V").map (fun d => d.parameters.length) = some 2 := by decide +kernel
theorem pd_23 : (parseMethodDescriptor "(IIIIII)I").map (fun d => d.parameters.length) = some 6 := by decide +kernel
theorem pd_24 : (parseMethodDescriptor "(I)V").map (fun d => d.parameters.length) = some 1 := by decide +kernel
theorem nc_3 : ("CoinBoats$Ledger" ≠ "java/lang/invoke/MethodHandle" ∧ "CoinBoats$Ledger" ≠ "java/lang/invoke/VarHandle") := ⟨by decide +kernel, by decide +kernel⟩
theorem pd_25 : (parseMethodDescriptor "(LCoinBoats$Rows;I)V").map (fun d => d.parameters.length) = some 2 := by decide +kernel
theorem pd_26 : (parseMethodDescriptor "(LCoinBoats$Rows;III)V").map (fun d => d.parameters.length) = some 4 := by decide +kernel
theorem pd_27 : (parseMethodDescriptor "(LCoinBoats$Text;)I").map (fun d => d.parameters.length) = some 1 := by decide +kernel
theorem pd_28 : (parseMethodDescriptor "(LCoinBoats$Text;II)I").map (fun d => d.parameters.length) = some 3 := by decide +kernel
theorem pd_29 : (parseMethodDescriptor "(LCoinBoats$Text;III)I").map (fun d => d.parameters.length) = some 4 := by decide +kernel
theorem pd_30 : (parseMethodDescriptor "(LCoinBoats$Text;IIII)Z").map (fun d => d.parameters.length) = some 5 := by decide +kernel
theorem pd_31 : (parseMethodDescriptor "(LCoinBoats$Text;IIII)I").map (fun d => d.parameters.length) = some 5 := by decide +kernel
theorem pd_32 : (parseMethodDescriptor "()Z").map (fun d => d.parameters.length) = some 0 := by decide +kernel
theorem pd_33 : (parseMethodDescriptor "(II)Z").map (fun d => d.parameters.length) = some 2 := by decide +kernel
theorem pd_34 : (parseMethodDescriptor "(I)J").map (fun d => d.parameters.length) = some 1 := by decide +kernel
theorem pd_35 : (parseMethodDescriptor "(II)J").map (fun d => d.parameters.length) = some 2 := by decide +kernel
theorem nc_4 : ("CoinBoats$Pieces" ≠ "java/lang/invoke/MethodHandle" ∧ "CoinBoats$Pieces" ≠ "java/lang/invoke/VarHandle") := ⟨by decide +kernel, by decide +kernel⟩
theorem pd_36 : (parseMethodDescriptor "(IIII)V").map (fun d => d.parameters.length) = some 4 := by decide +kernel
theorem pd_37 : (parseMethodDescriptor "(IIIIZ)V").map (fun d => d.parameters.length) = some 5 := by decide +kernel
theorem pd_38 : (parseMethodDescriptor "(LCoinBoats$Pieces;)V").map (fun d => d.parameters.length) = some 1 := by decide +kernel
theorem nc_5 : ("CoinBoats$Reader" ≠ "java/lang/invoke/MethodHandle" ∧ "CoinBoats$Reader" ≠ "java/lang/invoke/VarHandle") := ⟨by decide +kernel, by decide +kernel⟩
theorem pd_39 : (parseMethodDescriptor "([BILCoinBoats$Text;)I").map (fun d => d.parameters.length) = some 3 := by decide +kernel
theorem pd_40 : (parseMethodDescriptor "([J)V").map (fun d => d.parameters.length) = some 1 := by decide +kernel
theorem pd_41 : (parseMethodDescriptor "(LCoinBoats$Text;I)V").map (fun d => d.parameters.length) = some 2 := by decide +kernel
theorem pd_42 : (parseMethodDescriptor "(LCoinBoats$Rows;)V").map (fun d => d.parameters.length) = some 1 := by decide +kernel
theorem pd_43 : (parseMethodDescriptor "(LCoinBoats$Rows;LCoinBoats$Text;)V").map (fun d => d.parameters.length) = some 2 := by decide +kernel
theorem pd_44 : (parseMethodDescriptor "(LCoinBoats$Rows;)I").map (fun d => d.parameters.length) = some 1 := by decide +kernel
theorem pd_45 : (parseMethodDescriptor "([JI)V").map (fun d => d.parameters.length) = some 2 := by decide +kernel
theorem pd_46 : (parseMethodDescriptor "(Z)I").map (fun d => d.parameters.length) = some 1 := by decide +kernel
theorem pd_47 : (parseMethodDescriptor "([JJ)I").map (fun d => d.parameters.length) = some 2 := by decide +kernel
theorem pd_48 : (parseMethodDescriptor "(LCoinBoats$Rows;LCoinBoats$Formulas;)V").map (fun d => d.parameters.length) = some 2 := by decide +kernel
theorem pd_49 : (parseMethodDescriptor "(LCoinBoats$Formulas;I)V").map (fun d => d.parameters.length) = some 2 := by decide +kernel
theorem nc_6 : ("CoinBoats$Rows" ≠ "java/lang/invoke/MethodHandle" ∧ "CoinBoats$Rows" ≠ "java/lang/invoke/VarHandle") := ⟨by decide +kernel, by decide +kernel⟩
theorem pd_50 : (parseMethodDescriptor "(III)V").map (fun d => d.parameters.length) = some 3 := by decide +kernel
theorem nc_7 : ("CoinBoats$State" ≠ "java/lang/invoke/MethodHandle" ∧ "CoinBoats$State" ≠ "java/lang/invoke/VarHandle") := ⟨by decide +kernel, by decide +kernel⟩
theorem pd_51 : (parseMethodDescriptor "(LCoinBoats$State;)V").map (fun d => d.parameters.length) = some 1 := by decide +kernel
theorem nc_8 : ("CoinBoats$Stocks" ≠ "java/lang/invoke/MethodHandle" ∧ "CoinBoats$Stocks" ≠ "java/lang/invoke/VarHandle") := ⟨by decide +kernel, by decide +kernel⟩
theorem pd_52 : (parseMethodDescriptor "(LCoinBoats$Text;IIIII)V").map (fun d => d.parameters.length) = some 6 := by decide +kernel
theorem pd_53 : (parseMethodDescriptor "(IIIJ)V").map (fun d => d.parameters.length) = some 4 := by decide +kernel
theorem pd_54 : (parseMethodDescriptor "(LCoinBoats$Text;IIIJ)V").map (fun d => d.parameters.length) = some 5 := by decide +kernel
theorem pd_55 : (parseMethodDescriptor "(LCoinBoats$Text;LCoinBoats$Pieces;III)I").map (fun d => d.parameters.length) = some 5 := by decide +kernel
theorem pd_56 : (parseMethodDescriptor "(LCoinBoats$Text;I)I").map (fun d => d.parameters.length) = some 2 := by decide +kernel
theorem nc_9 : ("CoinBoats$Text" ≠ "java/lang/invoke/MethodHandle" ∧ "CoinBoats$Text" ≠ "java/lang/invoke/VarHandle") := ⟨by decide +kernel, by decide +kernel⟩
theorem pd_57 : (parseMethodDescriptor "(LCoinBoats$Rows;I)Z").map (fun d => d.parameters.length) = some 2 := by decide +kernel
theorem pd_58 : (parseMethodDescriptor "(LCoinBoats$Rows;II)I").map (fun d => d.parameters.length) = some 3 := by decide +kernel
theorem pd_59 : (parseMethodDescriptor "(LCoinBoats$Rows;IIIII)I").map (fun d => d.parameters.length) = some 6 := by decide +kernel
theorem nc_10 : ("CoinBoats$Tokens" ≠ "java/lang/invoke/MethodHandle" ∧ "CoinBoats$Tokens" ≠ "java/lang/invoke/VarHandle") := ⟨by decide +kernel, by decide +kernel⟩
theorem pd_60 : (parseMethodDescriptor "([BI)V").map (fun d => d.parameters.length) = some 2 := by decide +kernel
theorem pd_61 : (parseMethodDescriptor "([B)V").map (fun d => d.parameters.length) = some 1 := by decide +kernel
theorem pd_62 : (parseMethodDescriptor "([B)I").map (fun d => d.parameters.length) = some 1 := by decide +kernel
theorem pd_63 : (parseMethodDescriptor "([BII)Z").map (fun d => d.parameters.length) = some 3 := by decide +kernel
theorem pd_64 : (parseMethodDescriptor "([BI)I").map (fun d => d.parameters.length) = some 2 := by decide +kernel
theorem nc_11 : ("CoinBoats" ≠ "java/lang/invoke/MethodHandle" ∧ "CoinBoats" ≠ "java/lang/invoke/VarHandle") := ⟨by decide +kernel, by decide +kernel⟩
theorem pd_65 : (parseMethodDescriptor "(IIIII)I").map (fun d => d.parameters.length) = some 5 := by decide +kernel
theorem pd_66 : (parseMethodDescriptor "(IIII)I").map (fun d => d.parameters.length) = some 4 := by decide +kernel
theorem pd_67 : (parseMethodDescriptor "(IIIIZ)I").map (fun d => d.parameters.length) = some 5 := by decide +kernel
theorem pd_68 : (parseMethodDescriptor "(IIIIII)J").map (fun d => d.parameters.length) = some 6 := by decide +kernel
theorem pd_69 : (parseMethodDescriptor "(IIIII)J").map (fun d => d.parameters.length) = some 5 := by decide +kernel
theorem pd_70 : (parseMethodDescriptor "(IIIZ)I").map (fun d => d.parameters.length) = some 4 := by decide +kernel
theorem pd_71 : (parseMethodDescriptor "(IIZ)J").map (fun d => d.parameters.length) = some 3 := by decide +kernel
theorem pd_72 : (parseMethodDescriptor "(IIIIIII)I").map (fun d => d.parameters.length) = some 7 := by decide +kernel
theorem pd_73 : (parseMethodDescriptor "(IIIII)Z").map (fun d => d.parameters.length) = some 5 := by decide +kernel
theorem pd_74 : (parseMethodDescriptor "(III)Z").map (fun d => d.parameters.length) = some 3 := by decide +kernel
theorem nc_12 : ("CoinBoatsModel" ≠ "java/lang/invoke/MethodHandle" ∧ "CoinBoatsModel" ≠ "java/lang/invoke/VarHandle") := ⟨by decide +kernel, by decide +kernel⟩
theorem pd_75 : (parseMethodDescriptor "(J)I").map (fun d => d.parameters.length) = some 1 := by decide +kernel
theorem pd_76 : (parseMethodDescriptor "(JI)J").map (fun d => d.parameters.length) = some 2 := by decide +kernel
theorem pd_77 : (parseMethodDescriptor "(IIIIIJ)J").map (fun d => d.parameters.length) = some 6 := by decide +kernel
theorem pd_78 : (parseMethodDescriptor "(IIIIII)Z").map (fun d => d.parameters.length) = some 6 := by decide +kernel
theorem pd_79 : (parseMethodDescriptor "(JJJJ)Z").map (fun d => d.parameters.length) = some 4 := by decide +kernel
theorem nc_13 : ("java/lang/Integer" ≠ "java/lang/invoke/MethodHandle" ∧ "java/lang/Integer" ≠ "java/lang/invoke/VarHandle") := ⟨by decide +kernel, by decide +kernel⟩
theorem nc_14 : ("java/lang/Math" ≠ "java/lang/invoke/MethodHandle" ∧ "java/lang/Math" ≠ "java/lang/invoke/VarHandle") := ⟨by decide +kernel, by decide +kernel⟩
theorem nc_15 : ("java/lang/String" ≠ "java/lang/invoke/MethodHandle" ∧ "java/lang/String" ≠ "java/lang/invoke/VarHandle") := ⟨by decide +kernel, by decide +kernel⟩
theorem pd_80 : (parseMethodDescriptor "(I)C").map (fun d => d.parameters.length) = some 1 := by decide +kernel
theorem pd_81 : (parseMethodDescriptor "()B").map (fun d => d.parameters.length) = some 0 := by decide +kernel
theorem nc_16 : ("java/lang/StringLatin1" ≠ "java/lang/invoke/MethodHandle" ∧ "java/lang/StringLatin1" ≠ "java/lang/invoke/VarHandle") := ⟨by decide +kernel, by decide +kernel⟩
theorem pd_82 : (parseMethodDescriptor "([BI)C").map (fun d => d.parameters.length) = some 2 := by decide +kernel
theorem pd_83 : (parseMethodDescriptor "([BIII)I").map (fun d => d.parameters.length) = some 4 := by decide +kernel
theorem nc_17 : ("jdk/internal/util/Preconditions" ≠ "java/lang/invoke/MethodHandle" ∧ "jdk/internal/util/Preconditions" ≠ "java/lang/invoke/VarHandle") := ⟨by decide +kernel, by decide +kernel⟩
theorem pd_84 : (parseMethodDescriptor "(IILjava/util/function/BiFunction;)I").map (fun d => d.parameters.length) = some 3 := by decide +kernel
def M_0 : ai_Mt := (⟨"CoinBoats$Calendar", "<init>", "()V"⟩, prog_2_method_1_code, 1, (Option.none : Option FieldType), 5, 609)
def M_1 : ai_Mt := (⟨"CoinBoats$Calendar", "pass", "(LCoinBoats$Text;LCoinBoats$State;I)I"⟩, prog_2_method_2_code, 5, (Option.some FieldType.int), 0, 0)
def M_2 : ai_Mt := (⟨"CoinBoats$Calendar", "sail", "(LCoinBoats$Text;LCoinBoats$State;I)V"⟩, prog_2_method_3_code, 6, (Option.none : Option FieldType), 0, 0)
def M_3 : ai_Mt := (⟨"CoinBoats$Calendar", "refusal", "(LCoinBoats$Text;LCoinBoats$Rows;ILCoinBoats$Pieces;IZ)I"⟩, prog_2_method_4_code, 10, (Option.some FieldType.int), 0, 0)
def M_4 : ai_Mt := (⟨"CoinBoats$Calendar", "carry", "(LCoinBoats$Text;LCoinBoats$Rows;ILCoinBoats$Pieces;)V"⟩, prog_2_method_5_code, 8, (Option.none : Option FieldType), 0, 0)
def M_5 : ai_Mt := (⟨"CoinBoats$Calendar", "start", "(LCoinBoats$Rows;I)I"⟩, prog_2_method_6_code, 2, (Option.some FieldType.int), 0, 0)
def M_6 : ai_Mt := (⟨"CoinBoats$Calendar", "weight", "(LCoinBoats$Text;LCoinBoats$Rows;I)I"⟩, prog_2_method_7_code, 3, (Option.some FieldType.int), 0, 0)
def M_7 : ai_Mt := (⟨"CoinBoats$Calendar", "flow", "(LCoinBoats$Text;LCoinBoats$State;I)V"⟩, prog_2_method_8_code, 9, (Option.none : Option FieldType), 0, 0)
def M_8 : ai_Mt := (⟨"CoinBoats$Calendar", "wear", "(LCoinBoats$Text;LCoinBoats$State;)V"⟩, prog_2_method_9_code, 5, (Option.none : Option FieldType), 0, 0)
def M_9 : ai_Mt := (⟨"CoinBoats$Calendar", "wearAt", "(LCoinBoats$Text;LCoinBoats$State;II)V"⟩, prog_2_method_10_code, 8, (Option.none : Option FieldType), 0, 0)
def M_10 : ai_Mt := (⟨"CoinBoats$Calendar", "lose", "(LCoinBoats$Text;LCoinBoats$State;)V"⟩, prog_2_method_11_code, 7, (Option.none : Option FieldType), 0, 0)
def M_11 : ai_Mt := (⟨"CoinBoats$Calendar", "lack", "(LCoinBoats$Text;LCoinBoats$State;)I"⟩, prog_2_method_12_code, 8, (Option.some FieldType.int), 0, 0)
def M_12 : ai_Mt := (⟨"CoinBoats$Calendar", "firstUndone", "(LCoinBoats$Text;LCoinBoats$State;)I"⟩, prog_2_method_13_code, 5, (Option.some FieldType.int), 0, 0)
def M_13 : ai_Mt := (⟨"CoinBoats$Calendar", "reason", "()I"⟩, prog_2_method_14_code, 1, (Option.some FieldType.int), 0, 0)
def M_14 : ai_Mt := (⟨"CoinBoats$Calendar", "lot", "(III)I"⟩, prog_2_method_15_code, 4, (Option.some FieldType.int), 0, 0)
def M_15 : ai_Mt := (⟨"CoinBoats$Calendar", "mixed", "(II)I"⟩, prog_2_method_16_code, 3, (Option.some FieldType.int), 0, 0)
def M_16 : ai_Mt := (⟨"CoinBoats$Coins", "<init>", "()V"⟩, prog_3_method_1_code, 1, (Option.none : Option FieldType), 4, 8306)
def M_17 : ai_Mt := (⟨"CoinBoats$Coins", "look", "(LCoinBoats$Text;LCoinBoats$Pieces;II)V"⟩, prog_3_method_2_code, 7, (Option.none : Option FieldType), 0, 0)
def M_18 : ai_Mt := (⟨"CoinBoats$Coins", "fewestOfTill", "(I)I"⟩, prog_3_method_3_code, 3, (Option.some FieldType.int), 0, 0)
def M_19 : ai_Mt := (⟨"CoinBoats$Coins", "ofTill", "(II)I"⟩, prog_3_method_4_code, 3, (Option.some FieldType.int), 0, 0)
def M_20 : ai_Mt := (⟨"CoinBoats$Coins", "ofPurse", "(II)I"⟩, prog_3_method_5_code, 3, (Option.some FieldType.int), 0, 0)
def M_21 : ai_Mt := (⟨"CoinBoats$Coins", "leastGiven", "(I)I"⟩, prog_3_method_6_code, 5, (Option.some FieldType.int), 0, 0)
def M_22 : ai_Mt := (⟨"CoinBoats$Coins", "bothWays", "()I"⟩, prog_3_method_7_code, 1, (Option.some FieldType.int), 0, 0)
def M_23 : ai_Mt := (⟨"CoinBoats$Coins", "bestSet", "(II)I"⟩, prog_3_method_8_code, 7, (Option.some FieldType.int), 0, 0)
def M_24 : ai_Mt := (⟨"CoinBoats$Coins", "hasOne", "(I)Z"⟩, prog_3_method_9_code, 3, (Option.some FieldType.boolean), 0, 0)
def M_25 : ai_Mt := (⟨"CoinBoats$Coins", "sumOf", "(III)I"⟩, prog_3_method_10_code, 6, (Option.some FieldType.int), 0, 0)
def M_26 : ai_Mt := (⟨"CoinBoats$Coins", "ofKind", "([IIII)I"⟩, prog_3_method_11_code, 9, (Option.some FieldType.int), 0, 0)
def M_27 : ai_Mt := (⟨"CoinBoats$Coins", "mostOf", "([IIIII)I"⟩, prog_3_method_12_code, 8, (Option.some FieldType.int), 0, 0)
def M_28 : ai_Mt := (⟨"CoinBoats$Coins", "fill", "([IIII)V"⟩, prog_3_method_13_code, 9, (Option.none : Option FieldType), 0, 0)
def M_29 : ai_Mt := (⟨"CoinBoats$Coins", "clear", "([II)V"⟩, prog_3_method_14_code, 3, (Option.none : Option FieldType), 0, 0)
def M_30 : ai_Mt := (⟨"CoinBoats$Coins", "addEndless", "([III)V"⟩, prog_3_method_15_code, 4, (Option.none : Option FieldType), 0, 0)
def M_31 : ai_Mt := (⟨"CoinBoats$Coins", "addLumps", "([IIII)V"⟩, prog_3_method_16_code, 9, (Option.none : Option FieldType), 0, 0)
def M_32 : ai_Mt := (⟨"CoinBoats$Coins", "at", "([II)I"⟩, prog_3_method_17_code, 2, (Option.some FieldType.int), 0, 0)
def M_33 : ai_Mt := (⟨"CoinBoats$Formulas", "<init>", "()V"⟩, prog_4_method_1_code, 1, (Option.none : Option FieldType), 2, 432)
def M_34 : ai_Mt := (⟨"CoinBoats$Formulas", "clear", "()V"⟩, prog_4_method_2_code, 1, (Option.none : Option FieldType), 0, 0)
def M_35 : ai_Mt := (⟨"CoinBoats$Formulas", "size", "()I"⟩, prog_4_method_3_code, 1, (Option.some FieldType.int), 0, 0)
def M_36 : ai_Mt := (⟨"CoinBoats$Formulas", "add", "(II)V"⟩, prog_4_method_4_code, 3, (Option.none : Option FieldType), 0, 0)
def M_37 : ai_Mt := (⟨"CoinBoats$Formulas", "value", "(IIIIII)I"⟩, prog_4_method_5_code, 10, (Option.some FieldType.int), 0, 0)
def M_38 : ai_Mt := (⟨"CoinBoats$Formulas", "joined", "(III)I"⟩, prog_4_method_6_code, 4, (Option.some FieldType.int), 0, 0)
def M_39 : ai_Mt := (⟨"CoinBoats$Formulas", "push", "(I)V"⟩, prog_4_method_7_code, 2, (Option.none : Option FieldType), 0, 0)
def M_40 : ai_Mt := (⟨"CoinBoats$Formulas", "pop", "()I"⟩, prog_4_method_8_code, 1, (Option.some FieldType.int), 0, 0)
def M_41 : ai_Mt := (⟨"CoinBoats$Ledger", "<init>", "()V"⟩, prog_5_method_1_code, 1, (Option.none : Option FieldType), 8, 1216)
def M_42 : ai_Mt := (⟨"CoinBoats$Ledger", "know", "(LCoinBoats$Rows;I)V"⟩, prog_5_method_2_code, 4, (Option.none : Option FieldType), 0, 0)
def M_43 : ai_Mt := (⟨"CoinBoats$Ledger", "enter", "(LCoinBoats$Rows;I)V"⟩, prog_5_method_3_code, 5, (Option.none : Option FieldType), 0, 0)
def M_44 : ai_Mt := (⟨"CoinBoats$Ledger", "add", "(LCoinBoats$Rows;III)V"⟩, prog_5_method_4_code, 4, (Option.none : Option FieldType), 0, 0)
def M_45 : ai_Mt := (⟨"CoinBoats$Ledger", "went", "(II)I"⟩, prog_5_method_5_code, 3, (Option.some FieldType.int), 0, 0)
def M_46 : ai_Mt := (⟨"CoinBoats$Ledger", "came", "(II)I"⟩, prog_5_method_6_code, 3, (Option.some FieldType.int), 0, 0)
def M_47 : ai_Mt := (⟨"CoinBoats$Ledger", "gainer", "(LCoinBoats$Text;)I"⟩, prog_5_method_7_code, 11, (Option.some FieldType.int), 0, 0)
def M_48 : ai_Mt := (⟨"CoinBoats$Ledger", "leastOff", "(LCoinBoats$Text;II)I"⟩, prog_5_method_8_code, 8, (Option.some FieldType.int), 0, 0)
def M_49 : ai_Mt := (⟨"CoinBoats$Ledger", "kept", "()I"⟩, prog_5_method_9_code, 1, (Option.some FieldType.int), 0, 0)
def M_50 : ai_Mt := (⟨"CoinBoats$Ledger", "lost", "()I"⟩, prog_5_method_10_code, 1, (Option.some FieldType.int), 0, 0)
def M_51 : ai_Mt := (⟨"CoinBoats$Ledger", "keptEnds", "(LCoinBoats$Text;III)I"⟩, prog_5_method_11_code, 8, (Option.some FieldType.int), 0, 0)
def M_52 : ai_Mt := (⟨"CoinBoats$Ledger", "isNear", "(LCoinBoats$Text;IIII)Z"⟩, prog_5_method_12_code, 7, (Option.some FieldType.boolean), 0, 0)
def M_53 : ai_Mt := (⟨"CoinBoats$Ledger", "off", "(LCoinBoats$Text;IIII)I"⟩, prog_5_method_13_code, 12, (Option.some FieldType.int), 0, 0)
def M_54 : ai_Mt := (⟨"CoinBoats$Ledger", "isCountable", "()Z"⟩, prog_5_method_14_code, 1, (Option.some FieldType.boolean), 0, 0)
def M_55 : ai_Mt := (⟨"CoinBoats$Ledger", "seen", "(I)I"⟩, prog_5_method_15_code, 2, (Option.some FieldType.int), 0, 0)
def M_56 : ai_Mt := (⟨"CoinBoats$Ledger", "beyondLuck", "(I)I"⟩, prog_5_method_16_code, 4, (Option.some FieldType.int), 0, 0)
def M_57 : ai_Mt := (⟨"CoinBoats$Ledger", "isLessLuck", "(II)Z"⟩, prog_5_method_17_code, 21, (Option.some FieldType.boolean), 0, 0)
def M_58 : ai_Mt := (⟨"CoinBoats$Ledger", "waysOfMore", "(I)J"⟩, prog_5_method_18_code, 6, (Option.some FieldType.long), 0, 0)
def M_59 : ai_Mt := (⟨"CoinBoats$Ledger", "waysOfAll", "(I)J"⟩, prog_5_method_19_code, 2, (Option.some FieldType.long), 0, 0)
def M_60 : ai_Mt := (⟨"CoinBoats$Ledger", "ways", "(II)J"⟩, prog_5_method_20_code, 5, (Option.some FieldType.long), 0, 0)
def M_61 : ai_Mt := (⟨"CoinBoats$Pieces", "<init>", "()V"⟩, prog_6_method_1_code, 1, (Option.none : Option FieldType), 2, 304)
def M_62 : ai_Mt := (⟨"CoinBoats$Pieces", "row", "(II)I"⟩, prog_6_method_2_code, 2, (Option.some FieldType.int), 0, 0)
def M_63 : ai_Mt := (⟨"CoinBoats$Pieces", "get", "(III)I"⟩, prog_6_method_3_code, 4, (Option.some FieldType.int), 0, 0)
def M_64 : ai_Mt := (⟨"CoinBoats$Pieces", "all", "(II)I"⟩, prog_6_method_4_code, 5, (Option.some FieldType.int), 0, 0)
def M_65 : ai_Mt := (⟨"CoinBoats$Pieces", "add", "(IIII)V"⟩, prog_6_method_5_code, 6, (Option.none : Option FieldType), 0, 0)
def M_66 : ai_Mt := (⟨"CoinBoats$Pieces", "move", "(IIIIZ)V"⟩, prog_6_method_6_code, 10, (Option.none : Option FieldType), 0, 0)
def M_67 : ai_Mt := (⟨"CoinBoats$Pieces", "clear", "()V"⟩, prog_6_method_7_code, 1, (Option.none : Option FieldType), 0, 0)
def M_68 : ai_Mt := (⟨"CoinBoats$Pieces", "copy", "(LCoinBoats$Pieces;)V"⟩, prog_6_method_8_code, 2, (Option.none : Option FieldType), 0, 0)
def M_69 : ai_Mt := (⟨"CoinBoats$Reader", "<init>", "()V"⟩, prog_7_method_1_code, 1, (Option.none : Option FieldType), 6, 1220)
def M_70 : ai_Mt := (⟨"CoinBoats$Reader", "examine", "([BILCoinBoats$Text;)I"⟩, prog_7_method_2_code, 5, (Option.some FieldType.int), 0, 0)
def M_71 : ai_Mt := (⟨"CoinBoats$Reader", "faultPlace", "()I"⟩, prog_7_method_3_code, 1, (Option.some FieldType.int), 0, 0)
def M_72 : ai_Mt := (⟨"CoinBoats$Reader", "clearNames", "([J)V"⟩, prog_7_method_4_code, 2, (Option.none : Option FieldType), 0, 0)
def M_73 : ai_Mt := (⟨"CoinBoats$Reader", "tell", "(LCoinBoats$Text;I)V"⟩, prog_7_method_5_code, 3, (Option.none : Option FieldType), 0, 0)
def M_74 : ai_Mt := (⟨"CoinBoats$Reader", "tellKind", "(LCoinBoats$Rows;)V"⟩, prog_7_method_6_code, 3, (Option.none : Option FieldType), 0, 0)
def M_75 : ai_Mt := (⟨"CoinBoats$Reader", "tellIsland", "(LCoinBoats$Rows;)V"⟩, prog_7_method_7_code, 3, (Option.none : Option FieldType), 0, 0)
def M_76 : ai_Mt := (⟨"CoinBoats$Reader", "tellOfIsland", "(LCoinBoats$Rows;)V"⟩, prog_7_method_8_code, 3, (Option.none : Option FieldType), 0, 0)
def M_77 : ai_Mt := (⟨"CoinBoats$Reader", "tellFlow", "(LCoinBoats$Rows;)V"⟩, prog_7_method_9_code, 6, (Option.none : Option FieldType), 0, 0)
def M_78 : ai_Mt := (⟨"CoinBoats$Reader", "tellWear", "(LCoinBoats$Rows;)V"⟩, prog_7_method_10_code, 3, (Option.none : Option FieldType), 0, 0)
def M_79 : ai_Mt := (⟨"CoinBoats$Reader", "tellBoat", "(LCoinBoats$Rows;LCoinBoats$Text;)V"⟩, prog_7_method_11_code, 7, (Option.none : Option FieldType), 0, 0)
def M_80 : ai_Mt := (⟨"CoinBoats$Reader", "open", "(LCoinBoats$Rows;)I"⟩, prog_7_method_12_code, 2, (Option.some FieldType.int), 0, 0)
def M_81 : ai_Mt := (⟨"CoinBoats$Reader", "newName", "([JI)V"⟩, prog_7_method_13_code, 5, (Option.none : Option FieldType), 0, 0)
def M_82 : ai_Mt := (⟨"CoinBoats$Reader", "placeTold", "(Z)I"⟩, prog_7_method_14_code, 3, (Option.some FieldType.int), 0, 0)
def M_83 : ai_Mt := (⟨"CoinBoats$Reader", "kindTold", "()I"⟩, prog_7_method_15_code, 1, (Option.some FieldType.int), 0, 0)
def M_84 : ai_Mt := (⟨"CoinBoats$Reader", "nameTold", "(I)I"⟩, prog_7_method_16_code, 2, (Option.some FieldType.int), 0, 0)
def M_85 : ai_Mt := (⟨"CoinBoats$Reader", "indexOf", "([JJ)I"⟩, prog_7_method_17_code, 4, (Option.some FieldType.int), 0, 0)
def M_86 : ai_Mt := (⟨"CoinBoats$Reader", "number", "(II)I"⟩, prog_7_method_18_code, 4, (Option.some FieldType.int), 0, 0)
def M_87 : ai_Mt := (⟨"CoinBoats$Reader", "equation", "(LCoinBoats$Rows;LCoinBoats$Formulas;)V"⟩, prog_7_method_19_code, 4, (Option.none : Option FieldType), 0, 0)
def M_88 : ai_Mt := (⟨"CoinBoats$Reader", "sum", "(LCoinBoats$Formulas;I)V"⟩, prog_7_method_20_code, 5, (Option.none : Option FieldType), 0, 0)
def M_89 : ai_Mt := (⟨"CoinBoats$Reader", "product", "(LCoinBoats$Formulas;I)V"⟩, prog_7_method_21_code, 5, (Option.none : Option FieldType), 0, 0)
def M_90 : ai_Mt := (⟨"CoinBoats$Reader", "unit", "(LCoinBoats$Formulas;I)V"⟩, prog_7_method_22_code, 3, (Option.none : Option FieldType), 0, 0)
def M_91 : ai_Mt := (⟨"CoinBoats$Reader", "nest", "(LCoinBoats$Formulas;I)V"⟩, prog_7_method_23_code, 5, (Option.none : Option FieldType), 0, 0)
def M_92 : ai_Mt := (⟨"CoinBoats$Reader", "upcoming", "()I"⟩, prog_7_method_24_code, 1, (Option.some FieldType.int), 0, 0)
def M_93 : ai_Mt := (⟨"CoinBoats$Reader", "expect", "(I)V"⟩, prog_7_method_25_code, 2, (Option.none : Option FieldType), 0, 0)
def M_94 : ai_Mt := (⟨"CoinBoats$Reader", "accept", "()V"⟩, prog_7_method_26_code, 1, (Option.none : Option FieldType), 0, 0)
def M_95 : ai_Mt := (⟨"CoinBoats$Reader", "fail", "(I)V"⟩, prog_7_method_27_code, 2, (Option.none : Option FieldType), 0, 0)
def M_96 : ai_Mt := (⟨"CoinBoats$Reader", "failLater", "(II)V"⟩, prog_7_method_28_code, 3, (Option.none : Option FieldType), 0, 0)
def M_97 : ai_Mt := (⟨"CoinBoats$Rows", "<init>", "(II)V"⟩, prog_8_method_1_code, 3, (Option.none : Option FieldType), 1, 300)
def M_98 : ai_Mt := (⟨"CoinBoats$Rows", "size", "()I"⟩, prog_8_method_2_code, 1, (Option.some FieldType.int), 0, 0)
def M_99 : ai_Mt := (⟨"CoinBoats$Rows", "isFull", "()Z"⟩, prog_8_method_3_code, 1, (Option.some FieldType.boolean), 0, 0)
def M_100 : ai_Mt := (⟨"CoinBoats$Rows", "add", "()I"⟩, prog_8_method_4_code, 2, (Option.some FieldType.int), 0, 0)
def M_101 : ai_Mt := (⟨"CoinBoats$Rows", "get", "(II)I"⟩, prog_8_method_5_code, 4, (Option.some FieldType.int), 0, 0)
def M_102 : ai_Mt := (⟨"CoinBoats$Rows", "put", "(III)V"⟩, prog_8_method_6_code, 5, (Option.none : Option FieldType), 0, 0)
def M_103 : ai_Mt := (⟨"CoinBoats$Rows", "cell", "(II)I"⟩, prog_8_method_7_code, 4, (Option.some FieldType.int), 0, 0)
def M_104 : ai_Mt := (⟨"CoinBoats$Rows", "clear", "()V"⟩, prog_8_method_8_code, 1, (Option.none : Option FieldType), 0, 0)
def M_105 : ai_Mt := (⟨"CoinBoats$Rows", "zero", "()V"⟩, prog_8_method_9_code, 2, (Option.none : Option FieldType), 0, 0)
def M_106 : ai_Mt := (⟨"CoinBoats$Rows", "copy", "(LCoinBoats$Rows;)V"⟩, prog_8_method_10_code, 3, (Option.none : Option FieldType), 0, 0)
def M_107 : ai_Mt := (⟨"CoinBoats$State", "<init>", "()V"⟩, prog_9_method_1_code, 1, (Option.none : Option FieldType), 9, 1217)
def M_108 : ai_Mt := (⟨"CoinBoats$State", "clear", "()V"⟩, prog_9_method_2_code, 1, (Option.none : Option FieldType), 0, 0)
def M_109 : ai_Mt := (⟨"CoinBoats$State", "copy", "(LCoinBoats$State;)V"⟩, prog_9_method_3_code, 2, (Option.none : Option FieldType), 0, 0)
def M_110 : ai_Mt := (⟨"CoinBoats$Stocks", "<init>", "()V"⟩, prog_10_method_1_code, 1, (Option.none : Option FieldType), 3, 183)
def M_111 : ai_Mt := (⟨"CoinBoats$Stocks", "plan", "(LCoinBoats$Text;IIIII)V"⟩, prog_10_method_2_code, 11, (Option.none : Option FieldType), 0, 0)
def M_112 : ai_Mt := (⟨"CoinBoats$Stocks", "takeWanted", "(IIIJ)V"⟩, prog_10_method_3_code, 11, (Option.none : Option FieldType), 0, 0)
def M_113 : ai_Mt := (⟨"CoinBoats$Stocks", "chooseOrders", "(LCoinBoats$Text;IIIJ)V"⟩, prog_10_method_4_code, 19, (Option.none : Option FieldType), 0, 0)
def M_114 : ai_Mt := (⟨"CoinBoats$Stocks", "behind", "(I)J"⟩, prog_10_method_5_code, 2, (Option.some FieldType.long), 0, 0)
def M_115 : ai_Mt := (⟨"CoinBoats$Stocks", "cost", "(I)J"⟩, prog_10_method_6_code, 2, (Option.some FieldType.long), 0, 0)
def M_116 : ai_Mt := (⟨"CoinBoats$Stocks", "brings", "(I)I"⟩, prog_10_method_7_code, 2, (Option.some FieldType.int), 0, 0)
def M_117 : ai_Mt := (⟨"CoinBoats$Stocks", "saving", "(LCoinBoats$Text;LCoinBoats$Pieces;III)I"⟩, prog_10_method_8_code, 7, (Option.some FieldType.int), 0, 0)
def M_118 : ai_Mt := (⟨"CoinBoats$Stocks", "harm", "(LCoinBoats$Text;LCoinBoats$Pieces;III)I"⟩, prog_10_method_9_code, 12, (Option.some FieldType.int), 0, 0)
def M_119 : ai_Mt := (⟨"CoinBoats$Stocks", "mostHarmed", "(LCoinBoats$Text;I)I"⟩, prog_10_method_10_code, 4, (Option.some FieldType.int), 0, 0)
def M_120 : ai_Mt := (⟨"CoinBoats$Stocks", "isIn", "(II)Z"⟩, prog_10_method_11_code, 2, (Option.some FieldType.boolean), 0, 0)
def M_121 : ai_Mt := (⟨"CoinBoats$Text", "<init>", "()V"⟩, prog_11_method_1_code, 1, (Option.none : Option FieldType), 17, 2565)
def M_122 : ai_Mt := (⟨"CoinBoats$Text", "clear", "()V"⟩, prog_11_method_2_code, 1, (Option.none : Option FieldType), 0, 0)
def M_123 : ai_Mt := (⟨"CoinBoats$Text", "isKind", "(I)Z"⟩, prog_11_method_3_code, 2, (Option.some FieldType.boolean), 0, 0)
def M_124 : ai_Mt := (⟨"CoinBoats$Text", "isIsland", "(I)Z"⟩, prog_11_method_4_code, 2, (Option.some FieldType.boolean), 0, 0)
def M_125 : ai_Mt := (⟨"CoinBoats$Text", "isPlace", "(I)Z"⟩, prog_11_method_5_code, 2, (Option.some FieldType.boolean), 0, 0)
def M_126 : ai_Mt := (⟨"CoinBoats$Text", "harmOf", "(I)I"⟩, prog_11_method_6_code, 2, (Option.some FieldType.int), 0, 0)
def M_127 : ai_Mt := (⟨"CoinBoats$Text", "boatOf", "(II)I"⟩, prog_11_method_7_code, 4, (Option.some FieldType.int), 0, 0)
def M_128 : ai_Mt := (⟨"CoinBoats$Text", "wanted", "(III)I"⟩, prog_11_method_8_code, 5, (Option.some FieldType.int), 0, 0)
def M_129 : ai_Mt := (⟨"CoinBoats$Text", "isInForce", "(LCoinBoats$Rows;I)Z"⟩, prog_11_method_9_code, 3, (Option.some FieldType.boolean), 0, 0)
def M_130 : ai_Mt := (⟨"CoinBoats$Text", "lastOf", "(LCoinBoats$Rows;II)I"⟩, prog_11_method_10_code, 4, (Option.some FieldType.int), 0, 0)
def M_131 : ai_Mt := (⟨"CoinBoats$Text", "says", "(LCoinBoats$Rows;IIIII)I"⟩, prog_11_method_11_code, 9, (Option.some FieldType.int), 0, 0)
def M_132 : ai_Mt := (⟨"CoinBoats$Tokens", "<init>", "()V"⟩, prog_12_method_1_code, 1, (Option.none : Option FieldType), 3, 1203)
def M_133 : ai_Mt := (⟨"CoinBoats$Tokens", "scan", "([BI)V"⟩, prog_12_method_2_code, 5, (Option.none : Option FieldType), 0, 0)
def M_134 : ai_Mt := (⟨"CoinBoats$Tokens", "sortOf", "(I)I"⟩, prog_12_method_3_code, 3, (Option.some FieldType.int), 0, 0)
def M_135 : ai_Mt := (⟨"CoinBoats$Tokens", "placeOf", "(I)I"⟩, prog_12_method_4_code, 3, (Option.some FieldType.int), 0, 0)
def M_136 : ai_Mt := (⟨"CoinBoats$Tokens", "valueOf", "(I)J"⟩, prog_12_method_5_code, 3, (Option.some FieldType.long), 0, 0)
def M_137 : ai_Mt := (⟨"CoinBoats$Tokens", "skipBlanks", "([B)V"⟩, prog_12_method_6_code, 2, (Option.none : Option FieldType), 0, 0)
def M_138 : ai_Mt := (⟨"CoinBoats$Tokens", "next", "([B)I"⟩, prog_12_method_7_code, 3, (Option.some FieldType.int), 0, 0)
def M_139 : ai_Mt := (⟨"CoinBoats$Tokens", "word", "([B)I"⟩, prog_12_method_8_code, 4, (Option.some FieldType.int), 0, 0)
def M_140 : ai_Mt := (⟨"CoinBoats$Tokens", "isWord", "([BII)Z"⟩, prog_12_method_9_code, 8, (Option.some FieldType.boolean), 0, 0)
def M_141 : ai_Mt := (⟨"CoinBoats$Tokens", "digits", "([B)I"⟩, prog_12_method_10_code, 3, (Option.some FieldType.int), 0, 0)
def M_142 : ai_Mt := (⟨"CoinBoats$Tokens", "byteAt", "([BI)I"⟩, prog_12_method_11_code, 3, (Option.some FieldType.int), 0, 0)
def M_143 : ai_Mt := (⟨"CoinBoats$Tokens", "isBlank", "(I)Z"⟩, prog_12_method_12_code, 1, (Option.some FieldType.boolean), 0, 0)
def M_144 : ai_Mt := (⟨"CoinBoats$Tokens", "isLetter", "(I)Z"⟩, prog_12_method_13_code, 1, (Option.some FieldType.boolean), 0, 0)
def M_145 : ai_Mt := (⟨"CoinBoats$Tokens", "isDigit", "(I)Z"⟩, prog_12_method_14_code, 1, (Option.some FieldType.boolean), 0, 0)
def M_146 : ai_Mt := (⟨"CoinBoats", "<init>", "()V"⟩, prog_1_method_1_code, 1, (Option.none : Option FieldType), 98, 22384)
def M_147 : ai_Mt := (⟨"CoinBoats", "feed", "(IIIII)I"⟩, prog_1_method_2_code, 6, (Option.some FieldType.int), 0, 0)
def M_148 : ai_Mt := (⟨"CoinBoats", "append", "(I)V"⟩, prog_1_method_3_code, 3, (Option.none : Option FieldType), 0, 0)
def M_149 : ai_Mt := (⟨"CoinBoats", "back", "(I)I"⟩, prog_1_method_4_code, 2, (Option.some FieldType.int), 0, 0)
def M_150 : ai_Mt := (⟨"CoinBoats", "read", "()I"⟩, prog_1_method_5_code, 3, (Option.some FieldType.int), 0, 0)
def M_151 : ai_Mt := (⟨"CoinBoats", "place", "()I"⟩, prog_1_method_6_code, 1, (Option.some FieldType.int), 0, 0)
def M_152 : ai_Mt := (⟨"CoinBoats", "kind", "(II)I"⟩, prog_1_method_7_code, 4, (Option.some FieldType.int), 0, 0)
def M_153 : ai_Mt := (⟨"CoinBoats", "island", "(II)I"⟩, prog_1_method_8_code, 4, (Option.some FieldType.int), 0, 0)
def M_154 : ai_Mt := (⟨"CoinBoats", "boat", "(II)I"⟩, prog_1_method_9_code, 4, (Option.some FieldType.int), 0, 0)
def M_155 : ai_Mt := (⟨"CoinBoats", "want", "(III)I"⟩, prog_1_method_10_code, 5, (Option.some FieldType.int), 0, 0)
def M_156 : ai_Mt := (⟨"CoinBoats", "strike", "(II)I"⟩, prog_1_method_11_code, 3, (Option.some FieldType.int), 0, 0)
def M_157 : ai_Mt := (⟨"CoinBoats", "burn", "(II)I"⟩, prog_1_method_12_code, 6, (Option.some FieldType.int), 0, 0)
def M_158 : ai_Mt := (⟨"CoinBoats", "lay", "(IIII)I"⟩, prog_1_method_13_code, 5, (Option.some FieldType.int), 0, 0)
def M_159 : ai_Mt := (⟨"CoinBoats", "has", "(III)I"⟩, prog_1_method_14_code, 4, (Option.some FieldType.int), 0, 0)
def M_160 : ai_Mt := (⟨"CoinBoats", "send", "(IIIIZ)I"⟩, prog_1_method_15_code, 7, (Option.some FieldType.int), 0, 0)
def M_161 : ai_Mt := (⟨"CoinBoats", "done", "(I)I"⟩, prog_1_method_16_code, 3, (Option.some FieldType.int), 0, 0)
def M_162 : ai_Mt := (⟨"CoinBoats", "judge", "()I"⟩, prog_1_method_17_code, 1, (Option.some FieldType.int), 0, 0)
def M_163 : ai_Mt := (⟨"CoinBoats", "why", "()I"⟩, prog_1_method_18_code, 1, (Option.some FieldType.int), 0, 0)
def M_164 : ai_Mt := (⟨"CoinBoats", "months", "(II)I"⟩, prog_1_method_19_code, 5, (Option.some FieldType.int), 0, 0)
def M_165 : ai_Mt := (⟨"CoinBoats", "lacks", "(II)I"⟩, prog_1_method_20_code, 3, (Option.some FieldType.int), 0, 0)
def M_166 : ai_Mt := (⟨"CoinBoats", "spent", "(I)J"⟩, prog_1_method_21_code, 2, (Option.some FieldType.long), 0, 0)
def M_167 : ai_Mt := (⟨"CoinBoats", "pay", "(III)I"⟩, prog_1_method_22_code, 5, (Option.some FieldType.int), 0, 0)
def M_168 : ai_Mt := (⟨"CoinBoats", "change", "(IIII)I"⟩, prog_1_method_23_code, 8, (Option.some FieldType.int), 0, 0)
def M_169 : ai_Mt := (⟨"CoinBoats", "which", "(II)I"⟩, prog_1_method_24_code, 3, (Option.some FieldType.int), 0, 0)
def M_170 : ai_Mt := (⟨"CoinBoats", "whichSum", "(II)I"⟩, prog_1_method_25_code, 4, (Option.some FieldType.int), 0, 0)
def M_171 : ai_Mt := (⟨"CoinBoats", "least", "(IIIIII)J"⟩, prog_1_method_26_code, 7, (Option.some FieldType.long), 0, 0)
def M_172 : ai_Mt := (⟨"CoinBoats", "order", "(IIIIII)I"⟩, prog_1_method_27_code, 7, (Option.some FieldType.int), 0, 0)
def M_173 : ai_Mt := (⟨"CoinBoats", "price", "(IIIIII)J"⟩, prog_1_method_28_code, 7, (Option.some FieldType.long), 0, 0)
def M_174 : ai_Mt := (⟨"CoinBoats", "pool", "(III)I"⟩, prog_1_method_29_code, 4, (Option.some FieldType.int), 0, 0)
def M_175 : ai_Mt := (⟨"CoinBoats", "saved", "(III)I"⟩, prog_1_method_30_code, 4, (Option.some FieldType.int), 0, 0)
def M_176 : ai_Mt := (⟨"CoinBoats", "holds", "(IIIIII)I"⟩, prog_1_method_31_code, 10, (Option.some FieldType.int), 0, 0)
def M_177 : ai_Mt := (⟨"CoinBoats", "sumOfParts", "(IIIII)J"⟩, prog_1_method_32_code, 7, (Option.some FieldType.long), 0, 0)
def M_178 : ai_Mt := (⟨"CoinBoats", "book", "(IIIZ)I"⟩, prog_1_method_33_code, 6, (Option.some FieldType.int), 0, 0)
def M_179 : ai_Mt := (⟨"CoinBoats", "looked", "(III)I"⟩, prog_1_method_34_code, 5, (Option.some FieldType.int), 0, 0)
def M_180 : ai_Mt := (⟨"CoinBoats", "annul", "(I)I"⟩, prog_1_method_35_code, 3, (Option.some FieldType.int), 0, 0)
def M_181 : ai_Mt := (⟨"CoinBoats", "balance", "(III)I"⟩, prog_1_method_36_code, 4, (Option.some FieldType.int), 0, 0)
def M_182 : ai_Mt := (⟨"CoinBoats", "richest", "(I)I"⟩, prog_1_method_37_code, 2, (Option.some FieldType.int), 0, 0)
def M_183 : ai_Mt := (⟨"CoinBoats", "jars", "(IIII)I"⟩, prog_1_method_38_code, 6, (Option.some FieldType.int), 0, 0)
def M_184 : ai_Mt := (⟨"CoinBoats", "ends", "(IIII)I"⟩, prog_1_method_39_code, 5, (Option.some FieldType.int), 0, 0)
def M_185 : ai_Mt := (⟨"CoinBoats", "whose", "(I)I"⟩, prog_1_method_40_code, 2, (Option.some FieldType.int), 0, 0)
def M_186 : ai_Mt := (⟨"CoinBoats", "whoseWays", "(IIZ)J"⟩, prog_1_method_41_code, 4, (Option.some FieldType.long), 0, 0)
def M_187 : ai_Mt := (⟨"CoinBoats", "trickle", "(IIII)I"⟩, prog_1_method_42_code, 9, (Option.some FieldType.int), 0, 0)
def M_188 : ai_Mt := (⟨"CoinBoats", "trickled", "(IIII)I"⟩, prog_1_method_43_code, 7, (Option.some FieldType.int), 0, 0)
def M_189 : ai_Mt := (⟨"CoinBoats", "comesBack", "(II)I"⟩, prog_1_method_44_code, 2, (Option.some FieldType.int), 0, 0)
def M_190 : ai_Mt := (⟨"CoinBoats", "stillOut", "(II)I"⟩, prog_1_method_45_code, 2, (Option.some FieldType.int), 0, 0)
def M_191 : ai_Mt := (⟨"CoinBoats", "burnAt", "(III)I"⟩, prog_1_method_46_code, 8, (Option.some FieldType.int), 0, 0)
def M_192 : ai_Mt := (⟨"CoinBoats", "sort", "(IIIIIII)I"⟩, prog_1_method_47_code, 12, (Option.some FieldType.int), 0, 0)
def M_193 : ai_Mt := (⟨"CoinBoats", "hold", "(I)Z"⟩, prog_1_method_48_code, 3, (Option.some FieldType.boolean), 0, 0)
def M_194 : ai_Mt := (⟨"CoinBoats", "restore", "(I)Z"⟩, prog_1_method_49_code, 3, (Option.some FieldType.boolean), 0, 0)
def M_195 : ai_Mt := (⟨"CoinBoats", "count", "(I)I"⟩, prog_1_method_50_code, 2, (Option.some FieldType.int), 0, 0)
def M_196 : ai_Mt := (⟨"CoinBoats", "isOf", "(II)Z"⟩, prog_1_method_51_code, 3, (Option.some FieldType.boolean), 0, 0)
def M_197 : ai_Mt := (⟨"CoinBoats", "isKnown", "(I)Z"⟩, prog_1_method_52_code, 2, (Option.some FieldType.boolean), 0, 0)
def M_198 : ai_Mt := (⟨"CoinBoats", "isPlan", "(IIIII)Z"⟩, prog_1_method_53_code, 6, (Option.some FieldType.boolean), 0, 0)
def M_199 : ai_Mt := (⟨"CoinBoats", "isShare", "(III)Z"⟩, prog_1_method_54_code, 4, (Option.some FieldType.boolean), 0, 0)
def M_200 : ai_Mt := (⟨"CoinBoats", "isJars", "(III)Z"⟩, prog_1_method_55_code, 4, (Option.some FieldType.boolean), 0, 0)
def M_201 : ai_Mt := (⟨"CoinBoats", "isTrickle", "(III)Z"⟩, prog_1_method_56_code, 3, (Option.some FieldType.boolean), 0, 0)
def M_202 : ai_Mt := (⟨"CoinBoats", "isSum", "(I)Z"⟩, prog_1_method_57_code, 1, (Option.some FieldType.boolean), 0, 0)
def M_203 : ai_Mt := (⟨"CoinBoats", "isMonth", "(I)Z"⟩, prog_1_method_58_code, 1, (Option.some FieldType.boolean), 0, 0)
def M_204 : ai_Mt := (⟨"CoinBoats", "within", "(III)Z"⟩, prog_1_method_59_code, 3, (Option.some FieldType.boolean), 0, 0)
def M_205 : ai_Mt := (⟨"CoinBoats", "limit", "(II)I"⟩, prog_1_method_60_code, 2, (Option.some FieldType.int), 0, 0)
def M_206 : ai_Mt := (⟨"CoinBoatsModel", "<init>", "()V"⟩, prog_14_method_1_code, 1, (Option.none : Option FieldType), 26, 79667)
def M_207 : ai_Mt := (⟨"CoinBoatsModel", "feed", "(IIIII)I"⟩, prog_14_method_2_code, 6, (Option.some FieldType.int), 0, 0)
def M_208 : ai_Mt := (⟨"CoinBoatsModel", "typed", "(I)V"⟩, prog_14_method_3_code, 3, (Option.none : Option FieldType), 0, 0)
def M_209 : ai_Mt := (⟨"CoinBoatsModel", "back", "(I)I"⟩, prog_14_method_4_code, 2, (Option.some FieldType.int), 0, 0)
def M_210 : ai_Mt := (⟨"CoinBoatsModel", "byteAt", "(I)I"⟩, prog_14_method_5_code, 2, (Option.some FieldType.int), 0, 0)
def M_211 : ai_Mt := (⟨"CoinBoatsModel", "isLetter", "(I)Z"⟩, prog_14_method_6_code, 2, (Option.some FieldType.boolean), 0, 0)
def M_212 : ai_Mt := (⟨"CoinBoatsModel", "isDigit", "(I)Z"⟩, prog_14_method_7_code, 2, (Option.some FieldType.boolean), 0, 0)
def M_213 : ai_Mt := (⟨"CoinBoatsModel", "token", "(III)V"⟩, prog_14_method_8_code, 4, (Option.none : Option FieldType), 0, 0)
def M_214 : ai_Mt := (⟨"CoinBoatsModel", "wordOf", "(J)I"⟩, prog_14_method_9_code, 2, (Option.some FieldType.int), 0, 0)
def M_215 : ai_Mt := (⟨"CoinBoatsModel", "signAt", "(I)I"⟩, prog_14_method_10_code, 4, (Option.some FieldType.int), 0, 0)
def M_216 : ai_Mt := (⟨"CoinBoatsModel", "scan", "(I)I"⟩, prog_14_method_11_code, 6, (Option.some FieldType.int), 0, 0)
def M_217 : ai_Mt := (⟨"CoinBoatsModel", "scanAll", "()V"⟩, prog_14_method_12_code, 4, (Option.none : Option FieldType), 0, 0)
def M_218 : ai_Mt := (⟨"CoinBoatsModel", "wrong", "(I)Z"⟩, prog_14_method_13_code, 2, (Option.some FieldType.boolean), 0, 0)
def M_219 : ai_Mt := (⟨"CoinBoatsModel", "tells", "(II)V"⟩, prog_14_method_14_code, 4, (Option.none : Option FieldType), 0, 0)
def M_220 : ai_Mt := (⟨"CoinBoatsModel", "pass", "()Z"⟩, prog_14_method_15_code, 1, (Option.some FieldType.boolean), 0, 0)
def M_221 : ai_Mt := (⟨"CoinBoatsModel", "isSign", "(I)Z"⟩, prog_14_method_16_code, 2, (Option.some FieldType.boolean), 0, 0)
def M_222 : ai_Mt := (⟨"CoinBoatsModel", "isWord", "(I)Z"⟩, prog_14_method_17_code, 2, (Option.some FieldType.boolean), 0, 0)
def M_223 : ai_Mt := (⟨"CoinBoatsModel", "takes", "(I)Z"⟩, prog_14_method_18_code, 2, (Option.some FieldType.boolean), 0, 0)
def M_224 : ai_Mt := (⟨"CoinBoatsModel", "takesInt", "(II)Z"⟩, prog_14_method_19_code, 4, (Option.some FieldType.boolean), 0, 0)
def M_225 : ai_Mt := (⟨"CoinBoatsModel", "told", "(I)I"⟩, prog_14_method_20_code, 2, (Option.some FieldType.int), 0, 0)
def M_226 : ai_Mt := (⟨"CoinBoatsModel", "tell", "(II)V"⟩, prog_14_method_21_code, 3, (Option.none : Option FieldType), 0, 0)
def M_227 : ai_Mt := (⟨"CoinBoatsModel", "emit", "(II)V"⟩, prog_14_method_22_code, 3, (Option.none : Option FieldType), 0, 0)
def M_228 : ai_Mt := (⟨"CoinBoatsModel", "rank", "(I)I"⟩, prog_14_method_23_code, 1, (Option.some FieldType.int), 0, 0)
def M_229 : ai_Mt := (⟨"CoinBoatsModel", "reduce", "(I)V"⟩, prog_14_method_24_code, 2, (Option.none : Option FieldType), 0, 0)
def M_230 : ai_Mt := (⟨"CoinBoatsModel", "await", "(I)V"⟩, prog_14_method_25_code, 2, (Option.none : Option FieldType), 0, 0)
def M_231 : ai_Mt := (⟨"CoinBoatsModel", "joinAt", "()I"⟩, prog_14_method_26_code, 1, (Option.some FieldType.int), 0, 0)
def M_232 : ai_Mt := (⟨"CoinBoatsModel", "expr", "()Z"⟩, prog_14_method_27_code, 5, (Option.some FieldType.boolean), 0, 0)
def M_233 : ai_Mt := (⟨"CoinBoatsModel", "names", "(II)Z"⟩, prog_14_method_28_code, 5, (Option.some FieldType.boolean), 0, 0)
def M_234 : ai_Mt := (⟨"CoinBoatsModel", "takesName", "(I)Z"⟩, prog_14_method_29_code, 4, (Option.some FieldType.boolean), 0, 0)
def M_235 : ai_Mt := (⟨"CoinBoatsModel", "takesPlace", "()Z"⟩, prog_14_method_30_code, 1, (Option.some FieldType.boolean), 0, 0)
def M_236 : ai_Mt := (⟨"CoinBoatsModel", "takesSum", "(I)Z"⟩, prog_14_method_31_code, 2, (Option.some FieldType.boolean), 0, 0)
def M_237 : ai_Mt := (⟨"CoinBoatsModel", "tellKind", "()Z"⟩, prog_14_method_32_code, 3, (Option.some FieldType.boolean), 0, 0)
def M_238 : ai_Mt := (⟨"CoinBoatsModel", "tellIsland", "()Z"⟩, prog_14_method_33_code, 2, (Option.some FieldType.boolean), 0, 0)
def M_239 : ai_Mt := (⟨"CoinBoatsModel", "tellWant", "(II)Z"⟩, prog_14_method_34_code, 4, (Option.some FieldType.boolean), 0, 0)
def M_240 : ai_Mt := (⟨"CoinBoatsModel", "tellFlow", "()Z"⟩, prog_14_method_35_code, 4, (Option.some FieldType.boolean), 0, 0)
def M_241 : ai_Mt := (⟨"CoinBoatsModel", "tellWear", "()Z"⟩, prog_14_method_36_code, 2, (Option.some FieldType.boolean), 0, 0)
def M_242 : ai_Mt := (⟨"CoinBoatsModel", "tellBoat", "()Z"⟩, prog_14_method_37_code, 5, (Option.some FieldType.boolean), 0, 0)
def M_243 : ai_Mt := (⟨"CoinBoatsModel", "tellOne", "()Z"⟩, prog_14_method_38_code, 2, (Option.some FieldType.boolean), 0, 0)
def M_244 : ai_Mt := (⟨"CoinBoatsModel", "parses", "()Z"⟩, prog_14_method_39_code, 1, (Option.some FieldType.boolean), 0, 0)
def M_245 : ai_Mt := (⟨"CoinBoatsModel", "copy", "(II)V"⟩, prog_14_method_40_code, 4, (Option.none : Option FieldType), 0, 0)
def M_246 : ai_Mt := (⟨"CoinBoatsModel", "read", "()I"⟩, prog_14_method_41_code, 2, (Option.some FieldType.int), 0, 0)
def M_247 : ai_Mt := (⟨"CoinBoatsModel", "place", "()I"⟩, prog_14_method_42_code, 1, (Option.some FieldType.int), 0, 0)
def M_248 : ai_Mt := (⟨"CoinBoatsModel", "hold", "(I)Z"⟩, prog_14_method_43_code, 2, (Option.some FieldType.boolean), 0, 0)
def M_249 : ai_Mt := (⟨"CoinBoatsModel", "restore", "(I)Z"⟩, prog_14_method_44_code, 2, (Option.some FieldType.boolean), 0, 0)
def M_250 : ai_Mt := (⟨"CoinBoatsModel", "isIn", "(III)Z"⟩, prog_14_method_45_code, 3, (Option.some FieldType.boolean), 0, 0)
def M_251 : ai_Mt := (⟨"CoinBoatsModel", "isKind", "(I)Z"⟩, prog_14_method_46_code, 2, (Option.some FieldType.boolean), 0, 0)
def M_252 : ai_Mt := (⟨"CoinBoatsModel", "isPlace", "(I)Z"⟩, prog_14_method_47_code, 2, (Option.some FieldType.boolean), 0, 0)
def M_253 : ai_Mt := (⟨"CoinBoatsModel", "isIsland", "(I)Z"⟩, prog_14_method_48_code, 2, (Option.some FieldType.boolean), 0, 0)
def M_254 : ai_Mt := (⟨"CoinBoatsModel", "worth", "(I)I"⟩, prog_14_method_49_code, 2, (Option.some FieldType.int), 0, 0)
def M_255 : ai_Mt := (⟨"CoinBoatsModel", "harm", "(I)I"⟩, prog_14_method_50_code, 2, (Option.some FieldType.int), 0, 0)
def M_256 : ai_Mt := (⟨"CoinBoatsModel", "kind", "(II)I"⟩, prog_14_method_51_code, 3, (Option.some FieldType.int), 0, 0)
def M_257 : ai_Mt := (⟨"CoinBoatsModel", "island", "(II)I"⟩, prog_14_method_52_code, 3, (Option.some FieldType.int), 0, 0)
def M_258 : ai_Mt := (⟨"CoinBoatsModel", "boatOf", "(II)I"⟩, prog_14_method_53_code, 4, (Option.some FieldType.int), 0, 0)
def M_259 : ai_Mt := (⟨"CoinBoatsModel", "boat", "(II)I"⟩, prog_14_method_54_code, 3, (Option.some FieldType.int), 0, 0)
def M_260 : ai_Mt := (⟨"CoinBoatsModel", "ask", "(IIII)V"⟩, prog_14_method_55_code, 5, (Option.none : Option FieldType), 0, 0)
def M_261 : ai_Mt := (⟨"CoinBoatsModel", "sum", "(I)I"⟩, prog_14_method_56_code, 7, (Option.some FieldType.int), 0, 0)
def M_262 : ai_Mt := (⟨"CoinBoatsModel", "joined", "(III)I"⟩, prog_14_method_57_code, 3, (Option.some FieldType.int), 0, 0)
def M_263 : ai_Mt := (⟨"CoinBoatsModel", "isLast", "(III)Z"⟩, prog_14_method_58_code, 5, (Option.some FieldType.boolean), 0, 0)
def M_264 : ai_Mt := (⟨"CoinBoatsModel", "within", "(III)I"⟩, prog_14_method_59_code, 3, (Option.some FieldType.int), 0, 0)
def M_265 : ai_Mt := (⟨"CoinBoatsModel", "wanted", "(III)I"⟩, prog_14_method_60_code, 5, (Option.some FieldType.int), 0, 0)
def M_266 : ai_Mt := (⟨"CoinBoatsModel", "want", "(III)I"⟩, prog_14_method_61_code, 4, (Option.some FieldType.int), 0, 0)
def M_267 : ai_Mt := (⟨"CoinBoatsModel", "cell", "(III)I"⟩, prog_14_method_62_code, 3, (Option.some FieldType.int), 0, 0)
def M_268 : ai_Mt := (⟨"CoinBoatsModel", "all", "(II)I"⟩, prog_14_method_63_code, 5, (Option.some FieldType.int), 0, 0)
def M_269 : ai_Mt := (⟨"CoinBoatsModel", "strike", "(II)I"⟩, prog_14_method_64_code, 3, (Option.some FieldType.int), 0, 0)
def M_270 : ai_Mt := (⟨"CoinBoatsModel", "burn", "(II)I"⟩, prog_14_method_65_code, 5, (Option.some FieldType.int), 0, 0)
def M_271 : ai_Mt := (⟨"CoinBoatsModel", "lay", "(IIII)I"⟩, prog_14_method_66_code, 5, (Option.some FieldType.int), 0, 0)
def M_272 : ai_Mt := (⟨"CoinBoatsModel", "has", "(III)I"⟩, prog_14_method_67_code, 4, (Option.some FieldType.int), 0, 0)
def M_273 : ai_Mt := (⟨"CoinBoatsModel", "go", "(IIIIZ)V"⟩, prog_14_method_68_code, 10, (Option.none : Option FieldType), 0, 0)
def M_274 : ai_Mt := (⟨"CoinBoatsModel", "send", "(IIIIZ)I"⟩, prog_14_method_69_code, 7, (Option.some FieldType.int), 0, 0)
def M_275 : ai_Mt := (⟨"CoinBoatsModel", "done", "(I)I"⟩, prog_14_method_70_code, 2, (Option.some FieldType.int), 0, 0)
def M_276 : ai_Mt := (⟨"CoinBoatsModel", "reason", "(II)I"⟩, prog_14_method_71_code, 6, (Option.some FieldType.int), 0, 0)
def M_277 : ai_Mt := (⟨"CoinBoatsModel", "layTills", "()V"⟩, prog_14_method_72_code, 3, (Option.none : Option FieldType), 0, 0)
def M_278 : ai_Mt := (⟨"CoinBoatsModel", "judgeAll", "()V"⟩, prog_14_method_73_code, 7, (Option.none : Option FieldType), 0, 0)
def M_279 : ai_Mt := (⟨"CoinBoatsModel", "judge", "()I"⟩, prog_14_method_74_code, 1, (Option.some FieldType.int), 0, 0)
def M_280 : ai_Mt := (⟨"CoinBoatsModel", "why", "()I"⟩, prog_14_method_75_code, 1, (Option.some FieldType.int), 0, 0)
def M_281 : ai_Mt := (⟨"CoinBoatsModel", "mixed", "(II)I"⟩, prog_14_method_76_code, 3, (Option.some FieldType.int), 0, 0)
def M_282 : ai_Mt := (⟨"CoinBoatsModel", "lot", "(III)I"⟩, prog_14_method_77_code, 3, (Option.some FieldType.int), 0, 0)
def M_283 : ai_Mt := (⟨"CoinBoatsModel", "sends", "(II)V"⟩, prog_14_method_78_code, 9, (Option.none : Option FieldType), 0, 0)
def M_284 : ai_Mt := (⟨"CoinBoatsModel", "flows", "(II)V"⟩, prog_14_method_79_code, 6, (Option.none : Option FieldType), 0, 0)
def M_285 : ai_Mt := (⟨"CoinBoatsModel", "isLastWear", "(I)Z"⟩, prog_14_method_80_code, 3, (Option.some FieldType.boolean), 0, 0)
def M_286 : ai_Mt := (⟨"CoinBoatsModel", "wears", "(I)V"⟩, prog_14_method_81_code, 8, (Option.none : Option FieldType), 0, 0)
def M_287 : ai_Mt := (⟨"CoinBoatsModel", "loses", "(I)V"⟩, prog_14_method_82_code, 6, (Option.none : Option FieldType), 0, 0)
def M_288 : ai_Mt := (⟨"CoinBoatsModel", "lacking", "(I)I"⟩, prog_14_method_83_code, 7, (Option.some FieldType.int), 0, 0)
def M_289 : ai_Mt := (⟨"CoinBoatsModel", "months", "(II)I"⟩, prog_14_method_84_code, 6, (Option.some FieldType.int), 0, 0)
def M_290 : ai_Mt := (⟨"CoinBoatsModel", "lacks", "(II)I"⟩, prog_14_method_85_code, 3, (Option.some FieldType.int), 0, 0)
def M_291 : ai_Mt := (⟨"CoinBoatsModel", "spent", "(I)J"⟩, prog_14_method_86_code, 2, (Option.some FieldType.long), 0, 0)
def M_292 : ai_Mt := (⟨"CoinBoatsModel", "layFewest", "(II)V"⟩, prog_14_method_87_code, 5, (Option.none : Option FieldType), 0, 0)
def M_293 : ai_Mt := (⟨"CoinBoatsModel", "layKind", "(III)V"⟩, prog_14_method_88_code, 14, (Option.none : Option FieldType), 0, 0)
def M_294 : ai_Mt := (⟨"CoinBoatsModel", "fewestOf", "(II)I"⟩, prog_14_method_89_code, 4, (Option.some FieldType.int), 0, 0)
def M_295 : ai_Mt := (⟨"CoinBoatsModel", "paidOf", "(III)I"⟩, prog_14_method_90_code, 8, (Option.some FieldType.int), 0, 0)
def M_296 : ai_Mt := (⟨"CoinBoatsModel", "pay", "(III)I"⟩, prog_14_method_91_code, 5, (Option.some FieldType.int), 0, 0)
def M_297 : ai_Mt := (⟨"CoinBoatsModel", "change", "(IIII)I"⟩, prog_14_method_92_code, 9, (Option.some FieldType.int), 0, 0)
def M_298 : ai_Mt := (⟨"CoinBoatsModel", "piecesOf", "(II)I"⟩, prog_14_method_93_code, 6, (Option.some FieldType.int), 0, 0)
def M_299 : ai_Mt := (⟨"CoinBoatsModel", "manyOf", "(I)I"⟩, prog_14_method_94_code, 3, (Option.some FieldType.int), 0, 0)
def M_300 : ai_Mt := (⟨"CoinBoatsModel", "chooses", "(II)V"⟩, prog_14_method_95_code, 6, (Option.none : Option FieldType), 0, 0)
def M_301 : ai_Mt := (⟨"CoinBoatsModel", "which", "(II)I"⟩, prog_14_method_96_code, 3, (Option.some FieldType.int), 0, 0)
def M_302 : ai_Mt := (⟨"CoinBoatsModel", "whichSum", "(II)I"⟩, prog_14_method_97_code, 3, (Option.some FieldType.int), 0, 0)
def M_303 : ai_Mt := (⟨"CoinBoatsModel", "power", "(JI)J"⟩, prog_14_method_98_code, 6, (Option.some FieldType.long), 0, 0)
def M_304 : ai_Mt := (⟨"CoinBoatsModel", "leastOf", "(IIIIIJ)J"⟩, prog_14_method_99_code, 20, (Option.some FieldType.long), 0, 0)
def M_305 : ai_Mt := (⟨"CoinBoatsModel", "isCoin", "(IIIIII)Z"⟩, prog_14_method_100_code, 7, (Option.some FieldType.boolean), 0, 0)
def M_306 : ai_Mt := (⟨"CoinBoatsModel", "coins", "(IIIIII)J"⟩, prog_14_method_101_code, 11, (Option.some FieldType.long), 0, 0)
def M_307 : ai_Mt := (⟨"CoinBoatsModel", "least", "(IIIIII)J"⟩, prog_14_method_102_code, 7, (Option.some FieldType.long), 0, 0)
def M_308 : ai_Mt := (⟨"CoinBoatsModel", "order", "(IIIIII)I"⟩, prog_14_method_103_code, 9, (Option.some FieldType.int), 0, 0)
def M_309 : ai_Mt := (⟨"CoinBoatsModel", "price", "(IIIIII)J"⟩, prog_14_method_104_code, 7, (Option.some FieldType.long), 0, 0)
def M_310 : ai_Mt := (⟨"CoinBoatsModel", "isPool", "(III)Z"⟩, prog_14_method_105_code, 4, (Option.some FieldType.boolean), 0, 0)
def M_311 : ai_Mt := (⟨"CoinBoatsModel", "poolOf", "(III)I"⟩, prog_14_method_106_code, 10, (Option.some FieldType.int), 0, 0)
def M_312 : ai_Mt := (⟨"CoinBoatsModel", "savedOf", "(III)I"⟩, prog_14_method_107_code, 6, (Option.some FieldType.int), 0, 0)
def M_313 : ai_Mt := (⟨"CoinBoatsModel", "pool", "(III)I"⟩, prog_14_method_108_code, 4, (Option.some FieldType.int), 0, 0)
def M_314 : ai_Mt := (⟨"CoinBoatsModel", "saved", "(III)I"⟩, prog_14_method_109_code, 4, (Option.some FieldType.int), 0, 0)
def M_315 : ai_Mt := (⟨"CoinBoatsModel", "holds", "(IIIIII)I"⟩, prog_14_method_110_code, 13, (Option.some FieldType.int), 0, 0)
def M_316 : ai_Mt := (⟨"CoinBoatsModel", "row", "(IIII)I"⟩, prog_14_method_111_code, 6, (Option.some FieldType.int), 0, 0)
def M_317 : ai_Mt := (⟨"CoinBoatsModel", "book", "(IIIZ)I"⟩, prog_14_method_112_code, 5, (Option.some FieldType.int), 0, 0)
def M_318 : ai_Mt := (⟨"CoinBoatsModel", "looked", "(III)I"⟩, prog_14_method_113_code, 4, (Option.some FieldType.int), 0, 0)
def M_319 : ai_Mt := (⟨"CoinBoatsModel", "annul", "(I)I"⟩, prog_14_method_114_code, 2, (Option.some FieldType.int), 0, 0)
def M_320 : ai_Mt := (⟨"CoinBoatsModel", "isKnown", "(I)Z"⟩, prog_14_method_115_code, 2, (Option.some FieldType.boolean), 0, 0)
def M_321 : ai_Mt := (⟨"CoinBoatsModel", "isLive", "(II)Z"⟩, prog_14_method_116_code, 4, (Option.some FieldType.boolean), 0, 0)
def M_322 : ai_Mt := (⟨"CoinBoatsModel", "booked", "(IIII)I"⟩, prog_14_method_117_code, 8, (Option.some FieldType.int), 0, 0)
def M_323 : ai_Mt := (⟨"CoinBoatsModel", "balance", "(III)I"⟩, prog_14_method_118_code, 4, (Option.some FieldType.int), 0, 0)
def M_324 : ai_Mt := (⟨"CoinBoatsModel", "richest", "(I)I"⟩, prog_14_method_119_code, 9, (Option.some FieldType.int), 0, 0)
def M_325 : ai_Mt := (⟨"CoinBoatsModel", "layBooks", "(II)V"⟩, prog_14_method_120_code, 4, (Option.none : Option FieldType), 0, 0)
def M_326 : ai_Mt := (⟨"CoinBoatsModel", "offBy", "(III)I"⟩, prog_14_method_121_code, 7, (Option.some FieldType.int), 0, 0)
def M_327 : ai_Mt := (⟨"CoinBoatsModel", "isJars", "(III)Z"⟩, prog_14_method_122_code, 4, (Option.some FieldType.boolean), 0, 0)
def M_328 : ai_Mt := (⟨"CoinBoatsModel", "jars", "(IIII)I"⟩, prog_14_method_123_code, 11, (Option.some FieldType.int), 0, 0)
def M_329 : ai_Mt := (⟨"CoinBoatsModel", "ends", "(IIII)I"⟩, prog_14_method_124_code, 10, (Option.some FieldType.int), 0, 0)
def M_330 : ai_Mt := (⟨"CoinBoatsModel", "layFalse", "(I)V"⟩, prog_14_method_125_code, 4, (Option.none : Option FieldType), 0, 0)
def M_331 : ai_Mt := (⟨"CoinBoatsModel", "chosen", "(II)J"⟩, prog_14_method_126_code, 10, (Option.some FieldType.long), 0, 0)
def M_332 : ai_Mt := (⟨"CoinBoatsModel", "falseWays", "(I)J"⟩, prog_14_method_127_code, 5, (Option.some FieldType.long), 0, 0)
def M_333 : ai_Mt := (⟨"CoinBoatsModel", "isLess", "(JJJJ)Z"⟩, prog_14_method_128_code, 23, (Option.some FieldType.boolean), 0, 0)
def M_334 : ai_Mt := (⟨"CoinBoatsModel", "whose", "(I)I"⟩, prog_14_method_129_code, 12, (Option.some FieldType.int), 0, 0)
def M_335 : ai_Mt := (⟨"CoinBoatsModel", "whoseWays", "(IIZ)J"⟩, prog_14_method_130_code, 4, (Option.some FieldType.long), 0, 0)
def M_336 : ai_Mt := (⟨"CoinBoatsModel", "isTrickle", "(III)Z"⟩, prog_14_method_131_code, 3, (Option.some FieldType.boolean), 0, 0)
def M_337 : ai_Mt := (⟨"CoinBoatsModel", "trickle", "(IIII)I"⟩, prog_14_method_132_code, 9, (Option.some FieldType.int), 0, 0)
def M_338 : ai_Mt := (⟨"CoinBoatsModel", "trickled", "(IIII)I"⟩, prog_14_method_133_code, 7, (Option.some FieldType.int), 0, 0)
def M_339 : ai_Mt := (⟨"CoinBoatsModel", "burnAt", "(III)I"⟩, prog_14_method_134_code, 8, (Option.some FieldType.int), 0, 0)
def M_340 : ai_Mt := (⟨"CoinBoatsModel", "isCost", "(I)Z"⟩, prog_14_method_135_code, 1, (Option.some FieldType.boolean), 0, 0)
def M_341 : ai_Mt := (⟨"CoinBoatsModel", "sort", "(IIIIIII)I"⟩, prog_14_method_136_code, 12, (Option.some FieldType.int), 0, 0)
def M_342 : ai_Mt := (⟨"CoinBoatsModel", "count", "(I)I"⟩, prog_14_method_137_code, 2, (Option.some FieldType.int), 0, 0)
def M_343 : ai_Mt := (⟨"java/lang/Integer", "bitCount", "(I)I"⟩, prog_16_method_49_code, 1, (Option.some FieldType.int), 0, 0)
def M_344 : ai_Mt := (⟨"java/lang/Math", "abs", "(I)I"⟩, prog_17_method_59_code, 1, (Option.some FieldType.int), 0, 0)
def M_345 : ai_Mt := (⟨"java/lang/Math", "max", "(II)I"⟩, prog_17_method_65_code, 2, (Option.some FieldType.int), 0, 0)
def M_346 : ai_Mt := (⟨"java/lang/Math", "min", "(II)I"⟩, prog_17_method_69_code, 2, (Option.some FieldType.int), 0, 0)
def M_347 : ai_Mt := (⟨"java/lang/String", "length", "()I"⟩, prog_18_method_54_code, 1, (Option.some FieldType.int), 0, 0)
def M_348 : ai_Mt := (⟨"java/lang/String", "charAt", "(I)C"⟩, prog_18_method_56_code, 2, (Option.some FieldType.char), 0, 0)
def M_349 : ai_Mt := (⟨"java/lang/String", "indexOf", "(I)I"⟩, prog_18_method_79_code, 2, (Option.some FieldType.int), 0, 0)
def M_350 : ai_Mt := (⟨"java/lang/String", "indexOf", "(II)I"⟩, prog_18_method_80_code, 3, (Option.some FieldType.int), 0, 0)
def M_351 : ai_Mt := (⟨"java/lang/String", "coder", "()B"⟩, prog_18_method_152_code, 1, (Option.some FieldType.byte), 0, 0)
def M_352 : ai_Mt := (⟨"java/lang/String", "isLatin1", "()Z"⟩, prog_18_method_154_code, 1, (Option.some FieldType.boolean), 0, 0)
def M_353 : ai_Mt := (⟨"java/lang/String", "checkIndex", "(II)V"⟩, prog_18_method_155_code, 2, (Option.none : Option FieldType), 0, 0)
def M_354 : ai_Mt := (⟨"java/lang/StringLatin1", "charAt", "([BI)C"⟩, prog_19_method_2_code, 2, (Option.some FieldType.char), 0, 0)
def M_355 : ai_Mt := (⟨"java/lang/StringLatin1", "canEncode", "(I)Z"⟩, prog_19_method_4_code, 1, (Option.some FieldType.boolean), 0, 0)
def M_356 : ai_Mt := (⟨"java/lang/StringLatin1", "indexOf", "([BIII)I"⟩, prog_19_method_22_code, 4, (Option.some FieldType.int), 0, 0)
def M_357 : ai_Mt := (⟨"java/lang/StringLatin1", "indexOfChar", "([BIII)I"⟩, prog_19_method_23_code, 6, (Option.some FieldType.int), 0, 0)
def M_358 : ai_Mt := (⟨"jdk/internal/util/Preconditions", "checkIndex", "(IILjava/util/function/BiFunction;)I"⟩, prog_21_method_11_code, 3, (Option.some FieldType.int), 0, 0)
def M_L : ai_Mt := (x, code, 4, ret, 600000, 7302249)
def ai_TM : Nat → ai_Mt := fun m => (cond (Nat.blt m 179) (cond (Nat.blt m 89) (cond (Nat.blt m 44) (cond (Nat.blt m 22) (cond (Nat.blt m 11) (cond (Nat.blt m 5) (cond (Nat.blt m 2) (cond (Nat.blt m 1) M_0 M_1) (cond (Nat.blt m 3) M_2 (cond (Nat.blt m 4) M_3 M_4))) (cond (Nat.blt m 8) (cond (Nat.blt m 6) M_5 (cond (Nat.blt m 7) M_6 M_7)) (cond (Nat.blt m 9) M_8 (cond (Nat.blt m 10) M_9 M_10)))) (cond (Nat.blt m 16) (cond (Nat.blt m 13) (cond (Nat.blt m 12) M_11 M_12) (cond (Nat.blt m 14) M_13 (cond (Nat.blt m 15) M_14 M_15))) (cond (Nat.blt m 19) (cond (Nat.blt m 17) M_16 (cond (Nat.blt m 18) M_17 M_18)) (cond (Nat.blt m 20) M_19 (cond (Nat.blt m 21) M_20 M_21))))) (cond (Nat.blt m 33) (cond (Nat.blt m 27) (cond (Nat.blt m 24) (cond (Nat.blt m 23) M_22 M_23) (cond (Nat.blt m 25) M_24 (cond (Nat.blt m 26) M_25 M_26))) (cond (Nat.blt m 30) (cond (Nat.blt m 28) M_27 (cond (Nat.blt m 29) M_28 M_29)) (cond (Nat.blt m 31) M_30 (cond (Nat.blt m 32) M_31 M_32)))) (cond (Nat.blt m 38) (cond (Nat.blt m 35) (cond (Nat.blt m 34) M_33 M_34) (cond (Nat.blt m 36) M_35 (cond (Nat.blt m 37) M_36 M_37))) (cond (Nat.blt m 41) (cond (Nat.blt m 39) M_38 (cond (Nat.blt m 40) M_39 M_40)) (cond (Nat.blt m 42) M_41 (cond (Nat.blt m 43) M_42 M_43)))))) (cond (Nat.blt m 66) (cond (Nat.blt m 55) (cond (Nat.blt m 49) (cond (Nat.blt m 46) (cond (Nat.blt m 45) M_44 M_45) (cond (Nat.blt m 47) M_46 (cond (Nat.blt m 48) M_47 M_48))) (cond (Nat.blt m 52) (cond (Nat.blt m 50) M_49 (cond (Nat.blt m 51) M_50 M_51)) (cond (Nat.blt m 53) M_52 (cond (Nat.blt m 54) M_53 M_54)))) (cond (Nat.blt m 60) (cond (Nat.blt m 57) (cond (Nat.blt m 56) M_55 M_56) (cond (Nat.blt m 58) M_57 (cond (Nat.blt m 59) M_58 M_59))) (cond (Nat.blt m 63) (cond (Nat.blt m 61) M_60 (cond (Nat.blt m 62) M_61 M_62)) (cond (Nat.blt m 64) M_63 (cond (Nat.blt m 65) M_64 M_65))))) (cond (Nat.blt m 77) (cond (Nat.blt m 71) (cond (Nat.blt m 68) (cond (Nat.blt m 67) M_66 M_67) (cond (Nat.blt m 69) M_68 (cond (Nat.blt m 70) M_69 M_70))) (cond (Nat.blt m 74) (cond (Nat.blt m 72) M_71 (cond (Nat.blt m 73) M_72 M_73)) (cond (Nat.blt m 75) M_74 (cond (Nat.blt m 76) M_75 M_76)))) (cond (Nat.blt m 83) (cond (Nat.blt m 80) (cond (Nat.blt m 78) M_77 (cond (Nat.blt m 79) M_78 M_79)) (cond (Nat.blt m 81) M_80 (cond (Nat.blt m 82) M_81 M_82))) (cond (Nat.blt m 86) (cond (Nat.blt m 84) M_83 (cond (Nat.blt m 85) M_84 M_85)) (cond (Nat.blt m 87) M_86 (cond (Nat.blt m 88) M_87 M_88))))))) (cond (Nat.blt m 134) (cond (Nat.blt m 111) (cond (Nat.blt m 100) (cond (Nat.blt m 94) (cond (Nat.blt m 91) (cond (Nat.blt m 90) M_89 M_90) (cond (Nat.blt m 92) M_91 (cond (Nat.blt m 93) M_92 M_93))) (cond (Nat.blt m 97) (cond (Nat.blt m 95) M_94 (cond (Nat.blt m 96) M_95 M_96)) (cond (Nat.blt m 98) M_97 (cond (Nat.blt m 99) M_98 M_99)))) (cond (Nat.blt m 105) (cond (Nat.blt m 102) (cond (Nat.blt m 101) M_100 M_101) (cond (Nat.blt m 103) M_102 (cond (Nat.blt m 104) M_103 M_104))) (cond (Nat.blt m 108) (cond (Nat.blt m 106) M_105 (cond (Nat.blt m 107) M_106 M_107)) (cond (Nat.blt m 109) M_108 (cond (Nat.blt m 110) M_109 M_110))))) (cond (Nat.blt m 122) (cond (Nat.blt m 116) (cond (Nat.blt m 113) (cond (Nat.blt m 112) M_111 M_112) (cond (Nat.blt m 114) M_113 (cond (Nat.blt m 115) M_114 M_115))) (cond (Nat.blt m 119) (cond (Nat.blt m 117) M_116 (cond (Nat.blt m 118) M_117 M_118)) (cond (Nat.blt m 120) M_119 (cond (Nat.blt m 121) M_120 M_121)))) (cond (Nat.blt m 128) (cond (Nat.blt m 125) (cond (Nat.blt m 123) M_122 (cond (Nat.blt m 124) M_123 M_124)) (cond (Nat.blt m 126) M_125 (cond (Nat.blt m 127) M_126 M_127))) (cond (Nat.blt m 131) (cond (Nat.blt m 129) M_128 (cond (Nat.blt m 130) M_129 M_130)) (cond (Nat.blt m 132) M_131 (cond (Nat.blt m 133) M_132 M_133)))))) (cond (Nat.blt m 156) (cond (Nat.blt m 145) (cond (Nat.blt m 139) (cond (Nat.blt m 136) (cond (Nat.blt m 135) M_134 M_135) (cond (Nat.blt m 137) M_136 (cond (Nat.blt m 138) M_137 M_138))) (cond (Nat.blt m 142) (cond (Nat.blt m 140) M_139 (cond (Nat.blt m 141) M_140 M_141)) (cond (Nat.blt m 143) M_142 (cond (Nat.blt m 144) M_143 M_144)))) (cond (Nat.blt m 150) (cond (Nat.blt m 147) (cond (Nat.blt m 146) M_145 M_146) (cond (Nat.blt m 148) M_147 (cond (Nat.blt m 149) M_148 M_149))) (cond (Nat.blt m 153) (cond (Nat.blt m 151) M_150 (cond (Nat.blt m 152) M_151 M_152)) (cond (Nat.blt m 154) M_153 (cond (Nat.blt m 155) M_154 M_155))))) (cond (Nat.blt m 167) (cond (Nat.blt m 161) (cond (Nat.blt m 158) (cond (Nat.blt m 157) M_156 M_157) (cond (Nat.blt m 159) M_158 (cond (Nat.blt m 160) M_159 M_160))) (cond (Nat.blt m 164) (cond (Nat.blt m 162) M_161 (cond (Nat.blt m 163) M_162 M_163)) (cond (Nat.blt m 165) M_164 (cond (Nat.blt m 166) M_165 M_166)))) (cond (Nat.blt m 173) (cond (Nat.blt m 170) (cond (Nat.blt m 168) M_167 (cond (Nat.blt m 169) M_168 M_169)) (cond (Nat.blt m 171) M_170 (cond (Nat.blt m 172) M_171 M_172))) (cond (Nat.blt m 176) (cond (Nat.blt m 174) M_173 (cond (Nat.blt m 175) M_174 M_175)) (cond (Nat.blt m 177) M_176 (cond (Nat.blt m 178) M_177 M_178)))))))) (cond (Nat.blt m 269) (cond (Nat.blt m 224) (cond (Nat.blt m 201) (cond (Nat.blt m 190) (cond (Nat.blt m 184) (cond (Nat.blt m 181) (cond (Nat.blt m 180) M_179 M_180) (cond (Nat.blt m 182) M_181 (cond (Nat.blt m 183) M_182 M_183))) (cond (Nat.blt m 187) (cond (Nat.blt m 185) M_184 (cond (Nat.blt m 186) M_185 M_186)) (cond (Nat.blt m 188) M_187 (cond (Nat.blt m 189) M_188 M_189)))) (cond (Nat.blt m 195) (cond (Nat.blt m 192) (cond (Nat.blt m 191) M_190 M_191) (cond (Nat.blt m 193) M_192 (cond (Nat.blt m 194) M_193 M_194))) (cond (Nat.blt m 198) (cond (Nat.blt m 196) M_195 (cond (Nat.blt m 197) M_196 M_197)) (cond (Nat.blt m 199) M_198 (cond (Nat.blt m 200) M_199 M_200))))) (cond (Nat.blt m 212) (cond (Nat.blt m 206) (cond (Nat.blt m 203) (cond (Nat.blt m 202) M_201 M_202) (cond (Nat.blt m 204) M_203 (cond (Nat.blt m 205) M_204 M_205))) (cond (Nat.blt m 209) (cond (Nat.blt m 207) M_206 (cond (Nat.blt m 208) M_207 M_208)) (cond (Nat.blt m 210) M_209 (cond (Nat.blt m 211) M_210 M_211)))) (cond (Nat.blt m 218) (cond (Nat.blt m 215) (cond (Nat.blt m 213) M_212 (cond (Nat.blt m 214) M_213 M_214)) (cond (Nat.blt m 216) M_215 (cond (Nat.blt m 217) M_216 M_217))) (cond (Nat.blt m 221) (cond (Nat.blt m 219) M_218 (cond (Nat.blt m 220) M_219 M_220)) (cond (Nat.blt m 222) M_221 (cond (Nat.blt m 223) M_222 M_223)))))) (cond (Nat.blt m 246) (cond (Nat.blt m 235) (cond (Nat.blt m 229) (cond (Nat.blt m 226) (cond (Nat.blt m 225) M_224 M_225) (cond (Nat.blt m 227) M_226 (cond (Nat.blt m 228) M_227 M_228))) (cond (Nat.blt m 232) (cond (Nat.blt m 230) M_229 (cond (Nat.blt m 231) M_230 M_231)) (cond (Nat.blt m 233) M_232 (cond (Nat.blt m 234) M_233 M_234)))) (cond (Nat.blt m 240) (cond (Nat.blt m 237) (cond (Nat.blt m 236) M_235 M_236) (cond (Nat.blt m 238) M_237 (cond (Nat.blt m 239) M_238 M_239))) (cond (Nat.blt m 243) (cond (Nat.blt m 241) M_240 (cond (Nat.blt m 242) M_241 M_242)) (cond (Nat.blt m 244) M_243 (cond (Nat.blt m 245) M_244 M_245))))) (cond (Nat.blt m 257) (cond (Nat.blt m 251) (cond (Nat.blt m 248) (cond (Nat.blt m 247) M_246 M_247) (cond (Nat.blt m 249) M_248 (cond (Nat.blt m 250) M_249 M_250))) (cond (Nat.blt m 254) (cond (Nat.blt m 252) M_251 (cond (Nat.blt m 253) M_252 M_253)) (cond (Nat.blt m 255) M_254 (cond (Nat.blt m 256) M_255 M_256)))) (cond (Nat.blt m 263) (cond (Nat.blt m 260) (cond (Nat.blt m 258) M_257 (cond (Nat.blt m 259) M_258 M_259)) (cond (Nat.blt m 261) M_260 (cond (Nat.blt m 262) M_261 M_262))) (cond (Nat.blt m 266) (cond (Nat.blt m 264) M_263 (cond (Nat.blt m 265) M_264 M_265)) (cond (Nat.blt m 267) M_266 (cond (Nat.blt m 268) M_267 M_268))))))) (cond (Nat.blt m 314) (cond (Nat.blt m 291) (cond (Nat.blt m 280) (cond (Nat.blt m 274) (cond (Nat.blt m 271) (cond (Nat.blt m 270) M_269 M_270) (cond (Nat.blt m 272) M_271 (cond (Nat.blt m 273) M_272 M_273))) (cond (Nat.blt m 277) (cond (Nat.blt m 275) M_274 (cond (Nat.blt m 276) M_275 M_276)) (cond (Nat.blt m 278) M_277 (cond (Nat.blt m 279) M_278 M_279)))) (cond (Nat.blt m 285) (cond (Nat.blt m 282) (cond (Nat.blt m 281) M_280 M_281) (cond (Nat.blt m 283) M_282 (cond (Nat.blt m 284) M_283 M_284))) (cond (Nat.blt m 288) (cond (Nat.blt m 286) M_285 (cond (Nat.blt m 287) M_286 M_287)) (cond (Nat.blt m 289) M_288 (cond (Nat.blt m 290) M_289 M_290))))) (cond (Nat.blt m 302) (cond (Nat.blt m 296) (cond (Nat.blt m 293) (cond (Nat.blt m 292) M_291 M_292) (cond (Nat.blt m 294) M_293 (cond (Nat.blt m 295) M_294 M_295))) (cond (Nat.blt m 299) (cond (Nat.blt m 297) M_296 (cond (Nat.blt m 298) M_297 M_298)) (cond (Nat.blt m 300) M_299 (cond (Nat.blt m 301) M_300 M_301)))) (cond (Nat.blt m 308) (cond (Nat.blt m 305) (cond (Nat.blt m 303) M_302 (cond (Nat.blt m 304) M_303 M_304)) (cond (Nat.blt m 306) M_305 (cond (Nat.blt m 307) M_306 M_307))) (cond (Nat.blt m 311) (cond (Nat.blt m 309) M_308 (cond (Nat.blt m 310) M_309 M_310)) (cond (Nat.blt m 312) M_311 (cond (Nat.blt m 313) M_312 M_313)))))) (cond (Nat.blt m 336) (cond (Nat.blt m 325) (cond (Nat.blt m 319) (cond (Nat.blt m 316) (cond (Nat.blt m 315) M_314 M_315) (cond (Nat.blt m 317) M_316 (cond (Nat.blt m 318) M_317 M_318))) (cond (Nat.blt m 322) (cond (Nat.blt m 320) M_319 (cond (Nat.blt m 321) M_320 M_321)) (cond (Nat.blt m 323) M_322 (cond (Nat.blt m 324) M_323 M_324)))) (cond (Nat.blt m 330) (cond (Nat.blt m 327) (cond (Nat.blt m 326) M_325 M_326) (cond (Nat.blt m 328) M_327 (cond (Nat.blt m 329) M_328 M_329))) (cond (Nat.blt m 333) (cond (Nat.blt m 331) M_330 (cond (Nat.blt m 332) M_331 M_332)) (cond (Nat.blt m 334) M_333 (cond (Nat.blt m 335) M_334 M_335))))) (cond (Nat.blt m 347) (cond (Nat.blt m 341) (cond (Nat.blt m 338) (cond (Nat.blt m 337) M_336 M_337) (cond (Nat.blt m 339) M_338 (cond (Nat.blt m 340) M_339 M_340))) (cond (Nat.blt m 344) (cond (Nat.blt m 342) M_341 (cond (Nat.blt m 343) M_342 M_343)) (cond (Nat.blt m 345) M_344 (cond (Nat.blt m 346) M_345 M_346)))) (cond (Nat.blt m 353) (cond (Nat.blt m 350) (cond (Nat.blt m 348) M_347 (cond (Nat.blt m 349) M_348 M_349)) (cond (Nat.blt m 351) M_350 (cond (Nat.blt m 352) M_351 M_352))) (cond (Nat.blt m 356) (cond (Nat.blt m 354) M_353 (cond (Nat.blt m 355) M_354 M_355)) (cond (Nat.blt m 357) M_356 (cond (Nat.blt m 358) M_357 M_358)))))))))
theorem mo_0 : ai_MO M_0 0 := ⟨wd_265, wd_10, nc_0, pd_0, Nat.le_of_ble_eq_true rfl⟩
theorem mo_1 : ai_MO M_1 3 := ⟨wd_923, wd_10, nc_0, pd_1, Nat.le_of_ble_eq_true rfl⟩
theorem mo_2 : ai_MO M_2 3 := ⟨wd_927, wd_10, nc_0, pd_2, Nat.le_of_ble_eq_true rfl⟩
theorem mo_3 : ai_MO M_3 6 := ⟨wd_881, wd_10, nc_0, pd_3, Nat.le_of_ble_eq_true rfl⟩
theorem mo_4 : ai_MO M_4 4 := ⟨wd_900, wd_10, nc_0, pd_4, Nat.le_of_ble_eq_true rfl⟩
theorem mo_5 : ai_MO M_5 2 := ⟨wd_895, wd_10, nc_0, pd_5, Nat.le_of_ble_eq_true rfl⟩
theorem mo_6 : ai_MO M_6 3 := ⟨wd_892, wd_10, nc_0, pd_6, Nat.le_of_ble_eq_true rfl⟩
theorem mo_7 : ai_MO M_7 3 := ⟨wd_930, wd_10, nc_0, pd_2, Nat.le_of_ble_eq_true rfl⟩
theorem mo_8 : ai_MO M_8 2 := ⟨wd_935, wd_10, nc_0, pd_7, Nat.le_of_ble_eq_true rfl⟩
theorem mo_9 : ai_MO M_9 4 := ⟨wd_942, wd_10, nc_0, pd_8, Nat.le_of_ble_eq_true rfl⟩
theorem mo_10 : ai_MO M_10 2 := ⟨wd_947, wd_10, nc_0, pd_7, Nat.le_of_ble_eq_true rfl⟩
theorem mo_11 : ai_MO M_11 2 := ⟨wd_950, wd_10, nc_0, pd_9, Nat.le_of_ble_eq_true rfl⟩
theorem mo_12 : ai_MO M_12 2 := ⟨wd_864, wd_10, nc_0, pd_9, Nat.le_of_ble_eq_true rfl⟩
theorem mo_13 : ai_MO M_13 0 := ⟨wd_915, wd_10, nc_0, pd_10, Nat.le_of_ble_eq_true rfl⟩
theorem mo_14 : ai_MO M_14 3 := ⟨wd_885, wd_10, nc_0, pd_11, Nat.le_of_ble_eq_true rfl⟩
theorem mo_15 : ai_MO M_15 2 := ⟨wd_888, wd_10, nc_0, pd_12, Nat.le_of_ble_eq_true rfl⟩
theorem mo_16 : ai_MO M_16 0 := ⟨wd_285, wd_11, nc_1, pd_0, Nat.le_of_ble_eq_true rfl⟩
theorem mo_17 : ai_MO M_17 4 := ⟨wd_975, wd_11, nc_1, pd_13, Nat.le_of_ble_eq_true rfl⟩
theorem mo_18 : ai_MO M_18 1 := ⟨wd_985, wd_11, nc_1, pd_14, Nat.le_of_ble_eq_true rfl⟩
theorem mo_19 : ai_MO M_19 2 := ⟨wd_1008, wd_11, nc_1, pd_12, Nat.le_of_ble_eq_true rfl⟩
theorem mo_20 : ai_MO M_20 2 := ⟨wd_1028, wd_11, nc_1, pd_12, Nat.le_of_ble_eq_true rfl⟩
theorem mo_21 : ai_MO M_21 1 := ⟨wd_1024, wd_11, nc_1, pd_14, Nat.le_of_ble_eq_true rfl⟩
theorem mo_22 : ai_MO M_22 0 := ⟨wd_1032, wd_11, nc_1, pd_10, Nat.le_of_ble_eq_true rfl⟩
theorem mo_23 : ai_MO M_23 2 := ⟨wd_1040, wd_11, nc_1, pd_12, Nat.le_of_ble_eq_true rfl⟩
theorem mo_24 : ai_MO M_24 1 := ⟨wd_1044, wd_11, nc_1, pd_15, Nat.le_of_ble_eq_true rfl⟩
theorem mo_25 : ai_MO M_25 3 := ⟨wd_1048, wd_11, nc_1, pd_11, Nat.le_of_ble_eq_true rfl⟩
theorem mo_26 : ai_MO M_26 4 := ⟨wd_1012, wd_11, nc_1, pd_16, Nat.le_of_ble_eq_true rfl⟩
theorem mo_27 : ai_MO M_27 5 := ⟨wd_1016, wd_11, nc_1, pd_17, Nat.le_of_ble_eq_true rfl⟩
theorem mo_28 : ai_MO M_28 4 := ⟨wd_989, wd_11, nc_1, pd_18, Nat.le_of_ble_eq_true rfl⟩
theorem mo_29 : ai_MO M_29 2 := ⟨wd_992, wd_11, nc_1, pd_19, Nat.le_of_ble_eq_true rfl⟩
theorem mo_30 : ai_MO M_30 3 := ⟨wd_997, wd_11, nc_1, pd_20, Nat.le_of_ble_eq_true rfl⟩
theorem mo_31 : ai_MO M_31 4 := ⟨wd_1004, wd_11, nc_1, pd_18, Nat.le_of_ble_eq_true rfl⟩
theorem mo_32 : ai_MO M_32 2 := ⟨wd_1000, wd_11, nc_1, pd_21, Nat.le_of_ble_eq_true rfl⟩
theorem mo_33 : ai_MO M_33 0 := ⟨wd_63, wd_5, nc_2, pd_0, Nat.le_of_ble_eq_true rfl⟩
theorem mo_34 : ai_MO M_34 0 := ⟨wd_425, wd_5, nc_2, pd_0, Nat.le_of_ble_eq_true rfl⟩
theorem mo_35 : ai_MO M_35 0 := ⟨wd_677, wd_5, nc_2, pd_10, Nat.le_of_ble_eq_true rfl⟩
theorem mo_36 : ai_MO M_36 2 := ⟨wd_693, wd_5, nc_2, pd_22, Nat.le_of_ble_eq_true rfl⟩
theorem mo_37 : ai_MO M_37 6 := ⟨wd_791, wd_5, nc_2, pd_23, Nat.le_of_ble_eq_true rfl⟩
theorem mo_38 : ai_MO M_38 3 := ⟨wd_804, wd_5, nc_2, pd_11, Nat.le_of_ble_eq_true rfl⟩
theorem mo_39 : ai_MO M_39 1 := ⟨wd_796, wd_5, nc_2, pd_24, Nat.le_of_ble_eq_true rfl⟩
theorem mo_40 : ai_MO M_40 0 := ⟨wd_800, wd_5, nc_2, pd_10, Nat.le_of_ble_eq_true rfl⟩
theorem mo_41 : ai_MO M_41 0 := ⟨wd_322, wd_13, nc_3, pd_0, Nat.le_of_ble_eq_true rfl⟩
theorem mo_42 : ai_MO M_42 2 := ⟨wd_1166, wd_13, nc_3, pd_25, Nat.le_of_ble_eq_true rfl⟩
theorem mo_43 : ai_MO M_43 2 := ⟨wd_1174, wd_13, nc_3, pd_25, Nat.le_of_ble_eq_true rfl⟩
theorem mo_44 : ai_MO M_44 4 := ⟨wd_1177, wd_13, nc_3, pd_26, Nat.le_of_ble_eq_true rfl⟩
theorem mo_45 : ai_MO M_45 2 := ⟨wd_1181, wd_13, nc_3, pd_12, Nat.le_of_ble_eq_true rfl⟩
theorem mo_46 : ai_MO M_46 2 := ⟨wd_1185, wd_13, nc_3, pd_12, Nat.le_of_ble_eq_true rfl⟩
theorem mo_47 : ai_MO M_47 1 := ⟨wd_1193, wd_13, nc_3, pd_27, Nat.le_of_ble_eq_true rfl⟩
theorem mo_48 : ai_MO M_48 3 := ⟨wd_1207, wd_13, nc_3, pd_28, Nat.le_of_ble_eq_true rfl⟩
theorem mo_49 : ai_MO M_49 0 := ⟨wd_1218, wd_13, nc_3, pd_10, Nat.le_of_ble_eq_true rfl⟩
theorem mo_50 : ai_MO M_50 0 := ⟨wd_1222, wd_13, nc_3, pd_10, Nat.le_of_ble_eq_true rfl⟩
theorem mo_51 : ai_MO M_51 4 := ⟨wd_1231, wd_13, nc_3, pd_29, Nat.le_of_ble_eq_true rfl⟩
theorem mo_52 : ai_MO M_52 5 := ⟨wd_1235, wd_13, nc_3, pd_30, Nat.le_of_ble_eq_true rfl⟩
theorem mo_53 : ai_MO M_53 5 := ⟨wd_1211, wd_13, nc_3, pd_31, Nat.le_of_ble_eq_true rfl⟩
theorem mo_54 : ai_MO M_54 0 := ⟨wd_1247, wd_13, nc_3, pd_32, Nat.le_of_ble_eq_true rfl⟩
theorem mo_55 : ai_MO M_55 1 := ⟨wd_1251, wd_13, nc_3, pd_14, Nat.le_of_ble_eq_true rfl⟩
theorem mo_56 : ai_MO M_56 1 := ⟨wd_1243, wd_13, nc_3, pd_14, Nat.le_of_ble_eq_true rfl⟩
theorem mo_57 : ai_MO M_57 2 := ⟨wd_1255, wd_13, nc_3, pd_33, Nat.le_of_ble_eq_true rfl⟩
theorem mo_58 : ai_MO M_58 1 := ⟨wd_1259, wd_13, nc_3, pd_34, Nat.le_of_ble_eq_true rfl⟩
theorem mo_59 : ai_MO M_59 1 := ⟨wd_1266, wd_13, nc_3, pd_34, Nat.le_of_ble_eq_true rfl⟩
theorem mo_60 : ai_MO M_60 2 := ⟨wd_1262, wd_13, nc_3, pd_35, Nat.le_of_ble_eq_true rfl⟩
theorem mo_61 : ai_MO M_61 0 := ⟨wd_203, wd_9, nc_4, pd_0, Nat.le_of_ble_eq_true rfl⟩
theorem mo_62 : ai_MO M_62 2 := ⟨wd_816, wd_9, nc_4, pd_12, Nat.le_of_ble_eq_true rfl⟩
theorem mo_63 : ai_MO M_63 3 := ⟨wd_813, wd_9, nc_4, pd_11, Nat.le_of_ble_eq_true rfl⟩
theorem mo_64 : ai_MO M_64 2 := ⟨wd_827, wd_9, nc_4, pd_12, Nat.le_of_ble_eq_true rfl⟩
theorem mo_65 : ai_MO M_65 4 := ⟨wd_822, wd_9, nc_4, pd_36, Nat.le_of_ble_eq_true rfl⟩
theorem mo_66 : ai_MO M_66 5 := ⟨wd_905, wd_9, nc_4, pd_37, Nat.le_of_ble_eq_true rfl⟩
theorem mo_67 : ai_MO M_67 0 := ⟨wd_735, wd_9, nc_4, pd_0, Nat.le_of_ble_eq_true rfl⟩
theorem mo_68 : ai_MO M_68 1 := ⟨wd_868, wd_9, nc_4, pd_38, Nat.le_of_ble_eq_true rfl⟩
theorem mo_69 : ai_MO M_69 0 := ⟨wd_137, wd_6, nc_5, pd_0, Nat.le_of_ble_eq_true rfl⟩
theorem mo_70 : ai_MO M_70 3 := ⟨wd_410, wd_6, nc_5, pd_39, Nat.le_of_ble_eq_true rfl⟩
theorem mo_71 : ai_MO M_71 0 := ⟨wd_723, wd_6, nc_5, pd_10, Nat.le_of_ble_eq_true rfl⟩
theorem mo_72 : ai_MO M_72 1 := ⟨wd_413, wd_6, nc_5, pd_40, Nat.le_of_ble_eq_true rfl⟩
theorem mo_73 : ai_MO M_73 2 := ⟨wd_588, wd_6, nc_5, pd_41, Nat.le_of_ble_eq_true rfl⟩
theorem mo_74 : ai_MO M_74 1 := ⟨wd_592, wd_6, nc_5, pd_42, Nat.le_of_ble_eq_true rfl⟩
theorem mo_75 : ai_MO M_75 1 := ⟨wd_649, wd_6, nc_5, pd_42, Nat.le_of_ble_eq_true rfl⟩
theorem mo_76 : ai_MO M_76 1 := ⟨wd_653, wd_6, nc_5, pd_42, Nat.le_of_ble_eq_true rfl⟩
theorem mo_77 : ai_MO M_77 1 := ⟨wd_702, wd_6, nc_5, pd_42, Nat.le_of_ble_eq_true rfl⟩
theorem mo_78 : ai_MO M_78 1 := ⟨wd_706, wd_6, nc_5, pd_42, Nat.le_of_ble_eq_true rfl⟩
theorem mo_79 : ai_MO M_79 2 := ⟨wd_710, wd_6, nc_5, pd_43, Nat.le_of_ble_eq_true rfl⟩
theorem mo_80 : ai_MO M_80 1 := ⟨wd_596, wd_6, nc_5, pd_44, Nat.le_of_ble_eq_true rfl⟩
theorem mo_81 : ai_MO M_81 2 := ⟨wd_625, wd_6, nc_5, pd_45, Nat.le_of_ble_eq_true rfl⟩
theorem mo_82 : ai_MO M_82 1 := ⟨wd_657, wd_6, nc_5, pd_46, Nat.le_of_ble_eq_true rfl⟩
theorem mo_83 : ai_MO M_83 0 := ⟨wd_665, wd_6, nc_5, pd_10, Nat.le_of_ble_eq_true rfl⟩
theorem mo_84 : ai_MO M_84 1 := ⟨wd_661, wd_6, nc_5, pd_14, Nat.le_of_ble_eq_true rfl⟩
theorem mo_85 : ai_MO M_85 2 := ⟨wd_632, wd_6, nc_5, pd_47, Nat.le_of_ble_eq_true rfl⟩
theorem mo_86 : ai_MO M_86 2 := ⟨wd_644, wd_6, nc_5, pd_12, Nat.le_of_ble_eq_true rfl⟩
theorem mo_87 : ai_MO M_87 2 := ⟨wd_669, wd_6, nc_5, pd_48, Nat.le_of_ble_eq_true rfl⟩
theorem mo_88 : ai_MO M_88 2 := ⟨wd_681, wd_6, nc_5, pd_49, Nat.le_of_ble_eq_true rfl⟩
theorem mo_89 : ai_MO M_89 2 := ⟨wd_685, wd_6, nc_5, pd_49, Nat.le_of_ble_eq_true rfl⟩
theorem mo_90 : ai_MO M_90 2 := ⟨wd_689, wd_6, nc_5, pd_49, Nat.le_of_ble_eq_true rfl⟩
theorem mo_91 : ai_MO M_91 2 := ⟨wd_698, wd_6, nc_5, pd_49, Nat.le_of_ble_eq_true rfl⟩
theorem mo_92 : ai_MO M_92 0 := ⟨wd_580, wd_6, nc_5, pd_10, Nat.le_of_ble_eq_true rfl⟩
theorem mo_93 : ai_MO M_93 1 := ⟨wd_640, wd_6, nc_5, pd_24, Nat.le_of_ble_eq_true rfl⟩
theorem mo_94 : ai_MO M_94 0 := ⟨wd_608, wd_6, nc_5, pd_0, Nat.le_of_ble_eq_true rfl⟩
theorem mo_95 : ai_MO M_95 1 := ⟨wd_604, wd_6, nc_5, pd_24, Nat.le_of_ble_eq_true rfl⟩
theorem mo_96 : ai_MO M_96 2 := ⟨wd_636, wd_6, nc_5, pd_22, Nat.le_of_ble_eq_true rfl⟩
theorem mo_97 : ai_MO M_97 2 := ⟨wd_39, wd_3, nc_6, pd_22, Nat.le_of_ble_eq_true rfl⟩
theorem mo_98 : ai_MO M_98 0 := ⟨wd_673, wd_3, nc_6, pd_10, Nat.le_of_ble_eq_true rfl⟩
theorem mo_99 : ai_MO M_99 0 := ⟨wd_600, wd_3, nc_6, pd_32, Nat.le_of_ble_eq_true rfl⟩
theorem mo_100 : ai_MO M_100 0 := ⟨wd_612, wd_3, nc_6, pd_10, Nat.le_of_ble_eq_true rfl⟩
theorem mo_101 : ai_MO M_101 2 := ⟨wd_719, wd_3, nc_6, pd_12, Nat.le_of_ble_eq_true rfl⟩
theorem mo_102 : ai_MO M_102 3 := ⟨wd_617, wd_3, nc_6, pd_50, Nat.le_of_ble_eq_true rfl⟩
theorem mo_103 : ai_MO M_103 2 := ⟨wd_621, wd_3, nc_6, pd_12, Nat.le_of_ble_eq_true rfl⟩
theorem mo_104 : ai_MO M_104 0 := ⟨wd_421, wd_3, nc_6, pd_0, Nat.le_of_ble_eq_true rfl⟩
theorem mo_105 : ai_MO M_105 0 := ⟨wd_210, wd_3, nc_6, pd_0, Nat.le_of_ble_eq_true rfl⟩
theorem mo_106 : ai_MO M_106 1 := ⟨wd_872, wd_3, nc_6, pd_42, Nat.le_of_ble_eq_true rfl⟩
theorem mo_107 : ai_MO M_107 0 := ⟨wd_197, wd_8, nc_7, pd_0, Nat.le_of_ble_eq_true rfl⟩
theorem mo_108 : ai_MO M_108 0 := ⟨wd_731, wd_8, nc_7, pd_0, Nat.le_of_ble_eq_true rfl⟩
theorem mo_109 : ai_MO M_109 1 := ⟨wd_1308, wd_8, nc_7, pd_51, Nat.le_of_ble_eq_true rfl⟩
theorem mo_110 : ai_MO M_110 0 := ⟨wd_306, wd_12, nc_8, pd_0, Nat.le_of_ble_eq_true rfl⟩
theorem mo_111 : ai_MO M_111 6 := ⟨wd_1072, wd_12, nc_8, pd_52, Nat.le_of_ble_eq_true rfl⟩
theorem mo_112 : ai_MO M_112 4 := ⟨wd_1078, wd_12, nc_8, pd_53, Nat.le_of_ble_eq_true rfl⟩
theorem mo_113 : ai_MO M_113 5 := ⟨wd_1087, wd_12, nc_8, pd_54, Nat.le_of_ble_eq_true rfl⟩
theorem mo_114 : ai_MO M_114 1 := ⟨wd_1093, wd_12, nc_8, pd_34, Nat.le_of_ble_eq_true rfl⟩
theorem mo_115 : ai_MO M_115 1 := ⟨wd_1083, wd_12, nc_8, pd_34, Nat.le_of_ble_eq_true rfl⟩
theorem mo_116 : ai_MO M_116 1 := ⟨wd_1102, wd_12, nc_8, pd_14, Nat.le_of_ble_eq_true rfl⟩
theorem mo_117 : ai_MO M_117 5 := ⟨wd_1133, wd_12, nc_8, pd_55, Nat.le_of_ble_eq_true rfl⟩
theorem mo_118 : ai_MO M_118 5 := ⟨wd_1117, wd_12, nc_8, pd_55, Nat.le_of_ble_eq_true rfl⟩
theorem mo_119 : ai_MO M_119 2 := ⟨wd_1125, wd_12, nc_8, pd_56, Nat.le_of_ble_eq_true rfl⟩
theorem mo_120 : ai_MO M_120 2 := ⟨wd_1121, wd_12, nc_8, pd_33, Nat.le_of_ble_eq_true rfl⟩
theorem mo_121 : ai_MO M_121 0 := ⟨wd_33, wd_2, nc_9, pd_0, Nat.le_of_ble_eq_true rfl⟩
theorem mo_122 : ai_MO M_122 0 := ⟨wd_417, wd_2, nc_9, pd_0, Nat.le_of_ble_eq_true rfl⟩
theorem mo_123 : ai_MO M_123 1 := ⟨wd_748, wd_2, nc_9, pd_15, Nat.le_of_ble_eq_true rfl⟩
theorem mo_124 : ai_MO M_124 1 := ⟨wd_760, wd_2, nc_9, pd_15, Nat.le_of_ble_eq_true rfl⟩
theorem mo_125 : ai_MO M_125 1 := ⟨wd_840, wd_2, nc_9, pd_15, Nat.le_of_ble_eq_true rfl⟩
theorem mo_126 : ai_MO M_126 1 := ⟨wd_955, wd_2, nc_9, pd_14, Nat.le_of_ble_eq_true rfl⟩
theorem mo_127 : ai_MO M_127 2 := ⟨wd_714, wd_2, nc_9, pd_12, Nat.le_of_ble_eq_true rfl⟩
theorem mo_128 : ai_MO M_128 3 := ⟨wd_780, wd_2, nc_9, pd_11, Nat.le_of_ble_eq_true rfl⟩
theorem mo_129 : ai_MO M_129 2 := ⟨wd_939, wd_2, nc_9, pd_57, Nat.le_of_ble_eq_true rfl⟩
theorem mo_130 : ai_MO M_130 3 := ⟨wd_783, wd_2, nc_9, pd_58, Nat.le_of_ble_eq_true rfl⟩
theorem mo_131 : ai_MO M_131 6 := ⟨wd_787, wd_2, nc_9, pd_59, Nat.le_of_ble_eq_true rfl⟩
theorem mo_132 : ai_MO M_132 0 := ⟨wd_143, wd_7, nc_10, pd_0, Nat.le_of_ble_eq_true rfl⟩
theorem mo_133 : ai_MO M_133 2 := ⟨wd_429, wd_7, nc_10, pd_60, Nat.le_of_ble_eq_true rfl⟩
theorem mo_134 : ai_MO M_134 1 := ⟨wd_584, wd_7, nc_10, pd_14, Nat.le_of_ble_eq_true rfl⟩
theorem mo_135 : ai_MO M_135 1 := ⟨wd_727, wd_7, nc_10, pd_14, Nat.le_of_ble_eq_true rfl⟩
theorem mo_136 : ai_MO M_136 1 := ⟨wd_629, wd_7, nc_10, pd_34, Nat.le_of_ble_eq_true rfl⟩
theorem mo_137 : ai_MO M_137 1 := ⟨wd_440, wd_7, nc_10, pd_61, Nat.le_of_ble_eq_true rfl⟩
theorem mo_138 : ai_MO M_138 1 := ⟨wd_451, wd_7, nc_10, pd_62, Nat.le_of_ble_eq_true rfl⟩
theorem mo_139 : ai_MO M_139 1 := ⟨wd_458, wd_7, nc_10, pd_62, Nat.le_of_ble_eq_true rfl⟩
theorem mo_140 : ai_MO M_140 3 := ⟨wd_462, wd_7, nc_10, pd_63, Nat.le_of_ble_eq_true rfl⟩
theorem mo_141 : ai_MO M_141 1 := ⟨wd_518, wd_7, nc_10, pd_62, Nat.le_of_ble_eq_true rfl⟩
theorem mo_142 : ai_MO M_142 2 := ⟨wd_444, wd_7, nc_10, pd_64, Nat.le_of_ble_eq_true rfl⟩
theorem mo_143 : ai_MO M_143 1 := ⟨wd_447, wd_7, nc_10, pd_15, Nat.le_of_ble_eq_true rfl⟩
theorem mo_144 : ai_MO M_144 1 := ⟨wd_454, wd_7, nc_10, pd_15, Nat.le_of_ble_eq_true rfl⟩
theorem mo_145 : ai_MO M_145 1 := ⟨wd_514, wd_7, nc_10, pd_15, Nat.le_of_ble_eq_true rfl⟩
theorem mo_146 : ai_MO M_146 0 := ⟨wd_25, wd_1, nc_11, pd_0, Nat.le_of_ble_eq_true rfl⟩
theorem mo_147 : ai_MO M_147 5 := ⟨wd_394, wd_1, nc_11, pd_65, Nat.le_of_ble_eq_true rfl⟩
theorem mo_148 : ai_MO M_148 1 := ⟨wd_398, wd_1, nc_11, pd_24, Nat.le_of_ble_eq_true rfl⟩
theorem mo_149 : ai_MO M_149 1 := ⟨wd_402, wd_1, nc_11, pd_14, Nat.le_of_ble_eq_true rfl⟩
theorem mo_150 : ai_MO M_150 0 := ⟨wd_406, wd_1, nc_11, pd_10, Nat.le_of_ble_eq_true rfl⟩
theorem mo_151 : ai_MO M_151 0 := ⟨wd_740, wd_1, nc_11, pd_10, Nat.le_of_ble_eq_true rfl⟩
theorem mo_152 : ai_MO M_152 2 := ⟨wd_744, wd_1, nc_11, pd_12, Nat.le_of_ble_eq_true rfl⟩
theorem mo_153 : ai_MO M_153 2 := ⟨wd_756, wd_1, nc_11, pd_12, Nat.le_of_ble_eq_true rfl⟩
theorem mo_154 : ai_MO M_154 2 := ⟨wd_764, wd_1, nc_11, pd_12, Nat.le_of_ble_eq_true rfl⟩
theorem mo_155 : ai_MO M_155 3 := ⟨wd_772, wd_1, nc_11, pd_11, Nat.le_of_ble_eq_true rfl⟩
theorem mo_156 : ai_MO M_156 2 := ⟨wd_809, wd_1, nc_11, pd_12, Nat.le_of_ble_eq_true rfl⟩
theorem mo_157 : ai_MO M_157 2 := ⟨wd_832, wd_1, nc_11, pd_12, Nat.le_of_ble_eq_true rfl⟩
theorem mo_158 : ai_MO M_158 4 := ⟨wd_836, wd_1, nc_11, pd_66, Nat.le_of_ble_eq_true rfl⟩
theorem mo_159 : ai_MO M_159 3 := ⟨wd_844, wd_1, nc_11, pd_11, Nat.le_of_ble_eq_true rfl⟩
theorem mo_160 : ai_MO M_160 5 := ⟨wd_848, wd_1, nc_11, pd_67, Nat.le_of_ble_eq_true rfl⟩
theorem mo_161 : ai_MO M_161 1 := ⟨wd_855, wd_1, nc_11, pd_14, Nat.le_of_ble_eq_true rfl⟩
theorem mo_162 : ai_MO M_162 0 := ⟨wd_860, wd_1, nc_11, pd_10, Nat.le_of_ble_eq_true rfl⟩
theorem mo_163 : ai_MO M_163 0 := ⟨wd_911, wd_1, nc_11, pd_10, Nat.le_of_ble_eq_true rfl⟩
theorem mo_164 : ai_MO M_164 2 := ⟨wd_919, wd_1, nc_11, pd_12, Nat.le_of_ble_eq_true rfl⟩
theorem mo_165 : ai_MO M_165 2 := ⟨wd_959, wd_1, nc_11, pd_12, Nat.le_of_ble_eq_true rfl⟩
theorem mo_166 : ai_MO M_166 1 := ⟨wd_963, wd_1, nc_11, pd_34, Nat.le_of_ble_eq_true rfl⟩
theorem mo_167 : ai_MO M_167 3 := ⟨wd_968, wd_1, nc_11, pd_11, Nat.le_of_ble_eq_true rfl⟩
theorem mo_168 : ai_MO M_168 4 := ⟨wd_1020, wd_1, nc_11, pd_66, Nat.le_of_ble_eq_true rfl⟩
theorem mo_169 : ai_MO M_169 2 := ⟨wd_1036, wd_1, nc_11, pd_12, Nat.le_of_ble_eq_true rfl⟩
theorem mo_170 : ai_MO M_170 2 := ⟨wd_1058, wd_1, nc_11, pd_12, Nat.le_of_ble_eq_true rfl⟩
theorem mo_171 : ai_MO M_171 6 := ⟨wd_1064, wd_1, nc_11, pd_68, Nat.le_of_ble_eq_true rfl⟩
theorem mo_172 : ai_MO M_172 6 := ⟨wd_1098, wd_1, nc_11, pd_23, Nat.le_of_ble_eq_true rfl⟩
theorem mo_173 : ai_MO M_173 6 := ⟨wd_1106, wd_1, nc_11, pd_68, Nat.le_of_ble_eq_true rfl⟩
theorem mo_174 : ai_MO M_174 3 := ⟨wd_1110, wd_1, nc_11, pd_11, Nat.le_of_ble_eq_true rfl⟩
theorem mo_175 : ai_MO M_175 3 := ⟨wd_1130, wd_1, nc_11, pd_11, Nat.le_of_ble_eq_true rfl⟩
theorem mo_176 : ai_MO M_176 6 := ⟨wd_1138, wd_1, nc_11, pd_23, Nat.le_of_ble_eq_true rfl⟩
theorem mo_177 : ai_MO M_177 5 := ⟨wd_1141, wd_1, nc_11, pd_69, Nat.le_of_ble_eq_true rfl⟩
theorem mo_178 : ai_MO M_178 4 := ⟨wd_1145, wd_1, nc_11, pd_70, Nat.le_of_ble_eq_true rfl⟩
theorem mo_179 : ai_MO M_179 3 := ⟨wd_1149, wd_1, nc_11, pd_11, Nat.le_of_ble_eq_true rfl⟩
theorem mo_180 : ai_MO M_180 1 := ⟨wd_1153, wd_1, nc_11, pd_14, Nat.le_of_ble_eq_true rfl⟩
theorem mo_181 : ai_MO M_181 3 := ⟨wd_1157, wd_1, nc_11, pd_11, Nat.le_of_ble_eq_true rfl⟩
theorem mo_182 : ai_MO M_182 1 := ⟨wd_1189, wd_1, nc_11, pd_14, Nat.le_of_ble_eq_true rfl⟩
theorem mo_183 : ai_MO M_183 4 := ⟨wd_1199, wd_1, nc_11, pd_66, Nat.le_of_ble_eq_true rfl⟩
theorem mo_184 : ai_MO M_184 4 := ⟨wd_1226, wd_1, nc_11, pd_66, Nat.le_of_ble_eq_true rfl⟩
theorem mo_185 : ai_MO M_185 1 := ⟨wd_1239, wd_1, nc_11, pd_14, Nat.le_of_ble_eq_true rfl⟩
theorem mo_186 : ai_MO M_186 3 := ⟨wd_1270, wd_1, nc_11, pd_71, Nat.le_of_ble_eq_true rfl⟩
theorem mo_187 : ai_MO M_187 4 := ⟨wd_1279, wd_1, nc_11, pd_66, Nat.le_of_ble_eq_true rfl⟩
theorem mo_188 : ai_MO M_188 4 := ⟨wd_1292, wd_1, nc_11, pd_66, Nat.le_of_ble_eq_true rfl⟩
theorem mo_189 : ai_MO M_189 2 := ⟨wd_1285, wd_1, nc_11, pd_12, Nat.le_of_ble_eq_true rfl⟩
theorem mo_190 : ai_MO M_190 2 := ⟨wd_1288, wd_1, nc_11, pd_12, Nat.le_of_ble_eq_true rfl⟩
theorem mo_191 : ai_MO M_191 3 := ⟨wd_1296, wd_1, nc_11, pd_11, Nat.le_of_ble_eq_true rfl⟩
theorem mo_192 : ai_MO M_192 7 := ⟨wd_1300, wd_1, nc_11, pd_72, Nat.le_of_ble_eq_true rfl⟩
theorem mo_193 : ai_MO M_193 1 := ⟨wd_1304, wd_1, nc_11, pd_15, Nat.le_of_ble_eq_true rfl⟩
theorem mo_194 : ai_MO M_194 1 := ⟨wd_1314, wd_1, nc_11, pd_15, Nat.le_of_ble_eq_true rfl⟩
theorem mo_195 : ai_MO M_195 1 := ⟨wd_1318, wd_1, nc_11, pd_14, Nat.le_of_ble_eq_true rfl⟩
theorem mo_196 : ai_MO M_196 2 := ⟨wd_776, wd_1, nc_11, pd_33, Nat.le_of_ble_eq_true rfl⟩
theorem mo_197 : ai_MO M_197 1 := ⟨wd_1161, wd_1, nc_11, pd_15, Nat.le_of_ble_eq_true rfl⟩
theorem mo_198 : ai_MO M_198 5 := ⟨wd_1068, wd_1, nc_11, pd_73, Nat.le_of_ble_eq_true rfl⟩
theorem mo_199 : ai_MO M_199 3 := ⟨wd_1114, wd_1, nc_11, pd_74, Nat.le_of_ble_eq_true rfl⟩
theorem mo_200 : ai_MO M_200 3 := ⟨wd_1203, wd_1, nc_11, pd_74, Nat.le_of_ble_eq_true rfl⟩
theorem mo_201 : ai_MO M_201 3 := ⟨wd_1282, wd_1, nc_11, pd_74, Nat.le_of_ble_eq_true rfl⟩
theorem mo_202 : ai_MO M_202 1 := ⟨wd_971, wd_1, nc_11, pd_15, Nat.le_of_ble_eq_true rfl⟩
theorem mo_203 : ai_MO M_203 1 := ⟨wd_767, wd_1, nc_11, pd_15, Nat.le_of_ble_eq_true rfl⟩
theorem mo_204 : ai_MO M_204 3 := ⟨wd_751, wd_1, nc_11, pd_74, Nat.le_of_ble_eq_true rfl⟩
theorem mo_205 : ai_MO M_205 2 := ⟨wd_432, wd_1, nc_11, pd_12, Nat.le_of_ble_eq_true rfl⟩
theorem mo_206 : ai_MO M_206 0 := ⟨wd_1323, wd_14, nc_12, pd_0, Nat.le_of_ble_eq_true rfl⟩
theorem mo_207 : ai_MO M_207 5 := ⟨wd_1463, wd_14, nc_12, pd_65, Nat.le_of_ble_eq_true rfl⟩
theorem mo_208 : ai_MO M_208 1 := ⟨wd_1467, wd_14, nc_12, pd_24, Nat.le_of_ble_eq_true rfl⟩
theorem mo_209 : ai_MO M_209 1 := ⟨wd_1471, wd_14, nc_12, pd_14, Nat.le_of_ble_eq_true rfl⟩
theorem mo_210 : ai_MO M_210 1 := ⟨wd_1483, wd_14, nc_12, pd_14, Nat.le_of_ble_eq_true rfl⟩
theorem mo_211 : ai_MO M_211 1 := ⟨wd_1491, wd_14, nc_12, pd_15, Nat.le_of_ble_eq_true rfl⟩
theorem mo_212 : ai_MO M_212 1 := ⟨wd_1517, wd_14, nc_12, pd_15, Nat.le_of_ble_eq_true rfl⟩
theorem mo_213 : ai_MO M_213 3 := ⟨wd_1513, wd_14, nc_12, pd_50, Nat.le_of_ble_eq_true rfl⟩
theorem mo_214 : ai_MO M_214 1 := ⟨wd_1496, wd_14, nc_12, pd_75, Nat.le_of_ble_eq_true rfl⟩
theorem mo_215 : ai_MO M_215 1 := ⟨wd_1521, wd_14, nc_12, pd_14, Nat.le_of_ble_eq_true rfl⟩
theorem mo_216 : ai_MO M_216 1 := ⟨wd_1487, wd_14, nc_12, pd_14, Nat.le_of_ble_eq_true rfl⟩
theorem mo_217 : ai_MO M_217 0 := ⟨wd_1479, wd_14, nc_12, pd_0, Nat.le_of_ble_eq_true rfl⟩
theorem mo_218 : ai_MO M_218 1 := ⟨wd_1545, wd_14, nc_12, pd_15, Nat.le_of_ble_eq_true rfl⟩
theorem mo_219 : ai_MO M_219 2 := ⟨wd_1561, wd_14, nc_12, pd_22, Nat.le_of_ble_eq_true rfl⟩
theorem mo_220 : ai_MO M_220 0 := ⟨wd_1549, wd_14, nc_12, pd_32, Nat.le_of_ble_eq_true rfl⟩
theorem mo_221 : ai_MO M_221 1 := ⟨wd_1585, wd_14, nc_12, pd_15, Nat.le_of_ble_eq_true rfl⟩
theorem mo_222 : ai_MO M_222 1 := ⟨wd_1620, wd_14, nc_12, pd_15, Nat.le_of_ble_eq_true rfl⟩
theorem mo_223 : ai_MO M_223 1 := ⟨wd_1557, wd_14, nc_12, pd_15, Nat.le_of_ble_eq_true rfl⟩
theorem mo_224 : ai_MO M_224 2 := ⟨wd_1565, wd_14, nc_12, pd_33, Nat.le_of_ble_eq_true rfl⟩
theorem mo_225 : ai_MO M_225 1 := ⟨wd_1541, wd_14, nc_12, pd_14, Nat.le_of_ble_eq_true rfl⟩
theorem mo_226 : ai_MO M_226 2 := ⟨wd_1525, wd_14, nc_12, pd_22, Nat.le_of_ble_eq_true rfl⟩
theorem mo_227 : ai_MO M_227 2 := ⟨wd_1597, wd_14, nc_12, pd_22, Nat.le_of_ble_eq_true rfl⟩
theorem mo_228 : ai_MO M_228 1 := ⟨wd_1604, wd_14, nc_12, pd_14, Nat.le_of_ble_eq_true rfl⟩
theorem mo_229 : ai_MO M_229 1 := ⟨wd_1608, wd_14, nc_12, pd_24, Nat.le_of_ble_eq_true rfl⟩
theorem mo_230 : ai_MO M_230 1 := ⟨wd_1593, wd_14, nc_12, pd_24, Nat.le_of_ble_eq_true rfl⟩
theorem mo_231 : ai_MO M_231 0 := ⟨wd_1601, wd_14, nc_12, pd_10, Nat.le_of_ble_eq_true rfl⟩
theorem mo_232 : ai_MO M_232 0 := ⟨wd_1589, wd_14, nc_12, pd_32, Nat.le_of_ble_eq_true rfl⟩
theorem mo_233 : ai_MO M_233 2 := ⟨wd_1553, wd_14, nc_12, pd_33, Nat.le_of_ble_eq_true rfl⟩
theorem mo_234 : ai_MO M_234 1 := ⟨wd_1577, wd_14, nc_12, pd_15, Nat.le_of_ble_eq_true rfl⟩
theorem mo_235 : ai_MO M_235 0 := ⟨wd_1616, wd_14, nc_12, pd_32, Nat.le_of_ble_eq_true rfl⟩
theorem mo_236 : ai_MO M_236 1 := ⟨wd_1581, wd_14, nc_12, pd_15, Nat.le_of_ble_eq_true rfl⟩
theorem mo_237 : ai_MO M_237 0 := ⟨wd_1537, wd_14, nc_12, pd_32, Nat.le_of_ble_eq_true rfl⟩
theorem mo_238 : ai_MO M_238 0 := ⟨wd_1569, wd_14, nc_12, pd_32, Nat.le_of_ble_eq_true rfl⟩
theorem mo_239 : ai_MO M_239 2 := ⟨wd_1573, wd_14, nc_12, pd_33, Nat.le_of_ble_eq_true rfl⟩
theorem mo_240 : ai_MO M_240 0 := ⟨wd_1612, wd_14, nc_12, pd_32, Nat.le_of_ble_eq_true rfl⟩
theorem mo_241 : ai_MO M_241 0 := ⟨wd_1624, wd_14, nc_12, pd_32, Nat.le_of_ble_eq_true rfl⟩
theorem mo_242 : ai_MO M_242 0 := ⟨wd_1628, wd_14, nc_12, pd_32, Nat.le_of_ble_eq_true rfl⟩
theorem mo_243 : ai_MO M_243 0 := ⟨wd_1533, wd_14, nc_12, pd_32, Nat.le_of_ble_eq_true rfl⟩
theorem mo_244 : ai_MO M_244 0 := ⟨wd_1529, wd_14, nc_12, pd_32, Nat.le_of_ble_eq_true rfl⟩
theorem mo_245 : ai_MO M_245 2 := ⟨wd_1632, wd_14, nc_12, pd_22, Nat.le_of_ble_eq_true rfl⟩
theorem mo_246 : ai_MO M_246 0 := ⟨wd_1475, wd_14, nc_12, pd_10, Nat.le_of_ble_eq_true rfl⟩
theorem mo_247 : ai_MO M_247 0 := ⟨wd_1636, wd_14, nc_12, pd_10, Nat.le_of_ble_eq_true rfl⟩
theorem mo_248 : ai_MO M_248 1 := ⟨wd_1640, wd_14, nc_12, pd_15, Nat.le_of_ble_eq_true rfl⟩
theorem mo_249 : ai_MO M_249 1 := ⟨wd_1644, wd_14, nc_12, pd_15, Nat.le_of_ble_eq_true rfl⟩
theorem mo_250 : ai_MO M_250 3 := ⟨wd_1655, wd_14, nc_12, pd_74, Nat.le_of_ble_eq_true rfl⟩
theorem mo_251 : ai_MO M_251 1 := ⟨wd_1652, wd_14, nc_12, pd_15, Nat.le_of_ble_eq_true rfl⟩
theorem mo_252 : ai_MO M_252 1 := ⟨wd_1717, wd_14, nc_12, pd_15, Nat.le_of_ble_eq_true rfl⟩
theorem mo_253 : ai_MO M_253 1 := ⟨wd_1663, wd_14, nc_12, pd_15, Nat.le_of_ble_eq_true rfl⟩
theorem mo_254 : ai_MO M_254 1 := ⟨wd_1822, wd_14, nc_12, pd_14, Nat.le_of_ble_eq_true rfl⟩
theorem mo_255 : ai_MO M_255 1 := ⟨wd_1796, wd_14, nc_12, pd_14, Nat.le_of_ble_eq_true rfl⟩
theorem mo_256 : ai_MO M_256 2 := ⟨wd_1648, wd_14, nc_12, pd_12, Nat.le_of_ble_eq_true rfl⟩
theorem mo_257 : ai_MO M_257 2 := ⟨wd_1659, wd_14, nc_12, pd_12, Nat.le_of_ble_eq_true rfl⟩
theorem mo_258 : ai_MO M_258 2 := ⟨wd_1671, wd_14, nc_12, pd_12, Nat.le_of_ble_eq_true rfl⟩
theorem mo_259 : ai_MO M_259 2 := ⟨wd_1667, wd_14, nc_12, pd_12, Nat.le_of_ble_eq_true rfl⟩
theorem mo_260 : ai_MO M_260 4 := ⟨wd_1683, wd_14, nc_12, pd_36, Nat.le_of_ble_eq_true rfl⟩
theorem mo_261 : ai_MO M_261 1 := ⟨wd_1687, wd_14, nc_12, pd_14, Nat.le_of_ble_eq_true rfl⟩
theorem mo_262 : ai_MO M_262 3 := ⟨wd_1690, wd_14, nc_12, pd_11, Nat.le_of_ble_eq_true rfl⟩
theorem mo_263 : ai_MO M_263 3 := ⟨wd_1788, wd_14, nc_12, pd_74, Nat.le_of_ble_eq_true rfl⟩
theorem mo_264 : ai_MO M_264 3 := ⟨wd_1693, wd_14, nc_12, pd_11, Nat.le_of_ble_eq_true rfl⟩
theorem mo_265 : ai_MO M_265 3 := ⟨wd_1679, wd_14, nc_12, pd_11, Nat.le_of_ble_eq_true rfl⟩
theorem mo_266 : ai_MO M_266 3 := ⟨wd_1675, wd_14, nc_12, pd_11, Nat.le_of_ble_eq_true rfl⟩
theorem mo_267 : ai_MO M_267 3 := ⟨wd_1700, wd_14, nc_12, pd_11, Nat.le_of_ble_eq_true rfl⟩
theorem mo_268 : ai_MO M_268 2 := ⟨wd_1705, wd_14, nc_12, pd_12, Nat.le_of_ble_eq_true rfl⟩
theorem mo_269 : ai_MO M_269 2 := ⟨wd_1697, wd_14, nc_12, pd_12, Nat.le_of_ble_eq_true rfl⟩
theorem mo_270 : ai_MO M_270 2 := ⟨wd_1709, wd_14, nc_12, pd_12, Nat.le_of_ble_eq_true rfl⟩
theorem mo_271 : ai_MO M_271 4 := ⟨wd_1713, wd_14, nc_12, pd_66, Nat.le_of_ble_eq_true rfl⟩
theorem mo_272 : ai_MO M_272 3 := ⟨wd_1721, wd_14, nc_12, pd_11, Nat.le_of_ble_eq_true rfl⟩
theorem mo_273 : ai_MO M_273 5 := ⟨wd_1768, wd_14, nc_12, pd_37, Nat.le_of_ble_eq_true rfl⟩
theorem mo_274 : ai_MO M_274 5 := ⟨wd_1725, wd_14, nc_12, pd_67, Nat.le_of_ble_eq_true rfl⟩
theorem mo_275 : ai_MO M_275 1 := ⟨wd_1729, wd_14, nc_12, pd_14, Nat.le_of_ble_eq_true rfl⟩
theorem mo_276 : ai_MO M_276 2 := ⟨wd_1745, wd_14, nc_12, pd_12, Nat.le_of_ble_eq_true rfl⟩
theorem mo_277 : ai_MO M_277 0 := ⟨wd_1741, wd_14, nc_12, pd_0, Nat.le_of_ble_eq_true rfl⟩
theorem mo_278 : ai_MO M_278 0 := ⟨wd_1737, wd_14, nc_12, pd_0, Nat.le_of_ble_eq_true rfl⟩
theorem mo_279 : ai_MO M_279 0 := ⟨wd_1733, wd_14, nc_12, pd_10, Nat.le_of_ble_eq_true rfl⟩
theorem mo_280 : ai_MO M_280 0 := ⟨wd_1749, wd_14, nc_12, pd_10, Nat.le_of_ble_eq_true rfl⟩
theorem mo_281 : ai_MO M_281 2 := ⟨wd_1763, wd_14, nc_12, pd_12, Nat.le_of_ble_eq_true rfl⟩
theorem mo_282 : ai_MO M_282 3 := ⟨wd_1760, wd_14, nc_12, pd_11, Nat.le_of_ble_eq_true rfl⟩
theorem mo_283 : ai_MO M_283 2 := ⟨wd_1757, wd_14, nc_12, pd_22, Nat.le_of_ble_eq_true rfl⟩
theorem mo_284 : ai_MO M_284 2 := ⟨wd_1772, wd_14, nc_12, pd_22, Nat.le_of_ble_eq_true rfl⟩
theorem mo_285 : ai_MO M_285 1 := ⟨wd_1780, wd_14, nc_12, pd_15, Nat.le_of_ble_eq_true rfl⟩
theorem mo_286 : ai_MO M_286 1 := ⟨wd_1776, wd_14, nc_12, pd_24, Nat.le_of_ble_eq_true rfl⟩
theorem mo_287 : ai_MO M_287 1 := ⟨wd_1784, wd_14, nc_12, pd_24, Nat.le_of_ble_eq_true rfl⟩
theorem mo_288 : ai_MO M_288 1 := ⟨wd_1792, wd_14, nc_12, pd_14, Nat.le_of_ble_eq_true rfl⟩
theorem mo_289 : ai_MO M_289 2 := ⟨wd_1753, wd_14, nc_12, pd_12, Nat.le_of_ble_eq_true rfl⟩
theorem mo_290 : ai_MO M_290 2 := ⟨wd_1800, wd_14, nc_12, pd_12, Nat.le_of_ble_eq_true rfl⟩
theorem mo_291 : ai_MO M_291 1 := ⟨wd_1804, wd_14, nc_12, pd_34, Nat.le_of_ble_eq_true rfl⟩
theorem mo_292 : ai_MO M_292 2 := ⟨wd_1813, wd_14, nc_12, pd_22, Nat.le_of_ble_eq_true rfl⟩
theorem mo_293 : ai_MO M_293 3 := ⟨wd_1818, wd_14, nc_12, pd_50, Nat.le_of_ble_eq_true rfl⟩
theorem mo_294 : ai_MO M_294 2 := ⟨wd_1826, wd_14, nc_12, pd_12, Nat.le_of_ble_eq_true rfl⟩
theorem mo_295 : ai_MO M_295 3 := ⟨wd_1830, wd_14, nc_12, pd_11, Nat.le_of_ble_eq_true rfl⟩
theorem mo_296 : ai_MO M_296 3 := ⟨wd_1809, wd_14, nc_12, pd_11, Nat.le_of_ble_eq_true rfl⟩
theorem mo_297 : ai_MO M_297 4 := ⟨wd_1834, wd_14, nc_12, pd_66, Nat.le_of_ble_eq_true rfl⟩
theorem mo_298 : ai_MO M_298 2 := ⟨wd_1846, wd_14, nc_12, pd_12, Nat.le_of_ble_eq_true rfl⟩
theorem mo_299 : ai_MO M_299 1 := ⟨wd_1849, wd_14, nc_12, pd_14, Nat.le_of_ble_eq_true rfl⟩
theorem mo_300 : ai_MO M_300 2 := ⟨wd_1842, wd_14, nc_12, pd_22, Nat.le_of_ble_eq_true rfl⟩
theorem mo_301 : ai_MO M_301 2 := ⟨wd_1838, wd_14, nc_12, pd_12, Nat.le_of_ble_eq_true rfl⟩
theorem mo_302 : ai_MO M_302 2 := ⟨wd_1853, wd_14, nc_12, pd_12, Nat.le_of_ble_eq_true rfl⟩
theorem mo_303 : ai_MO M_303 2 := ⟨wd_1868, wd_14, nc_12, pd_76, Nat.le_of_ble_eq_true rfl⟩
theorem mo_304 : ai_MO M_304 6 := ⟨wd_1872, wd_14, nc_12, pd_77, Nat.le_of_ble_eq_true rfl⟩
theorem mo_305 : ai_MO M_305 6 := ⟨wd_1861, wd_14, nc_12, pd_78, Nat.le_of_ble_eq_true rfl⟩
theorem mo_306 : ai_MO M_306 6 := ⟨wd_1865, wd_14, nc_12, pd_68, Nat.le_of_ble_eq_true rfl⟩
theorem mo_307 : ai_MO M_307 6 := ⟨wd_1857, wd_14, nc_12, pd_68, Nat.le_of_ble_eq_true rfl⟩
theorem mo_308 : ai_MO M_308 6 := ⟨wd_1876, wd_14, nc_12, pd_23, Nat.le_of_ble_eq_true rfl⟩
theorem mo_309 : ai_MO M_309 6 := ⟨wd_1880, wd_14, nc_12, pd_68, Nat.le_of_ble_eq_true rfl⟩
theorem mo_310 : ai_MO M_310 3 := ⟨wd_1888, wd_14, nc_12, pd_74, Nat.le_of_ble_eq_true rfl⟩
theorem mo_311 : ai_MO M_311 3 := ⟨wd_1892, wd_14, nc_12, pd_11, Nat.le_of_ble_eq_true rfl⟩
theorem mo_312 : ai_MO M_312 3 := ⟨wd_1900, wd_14, nc_12, pd_11, Nat.le_of_ble_eq_true rfl⟩
theorem mo_313 : ai_MO M_313 3 := ⟨wd_1884, wd_14, nc_12, pd_11, Nat.le_of_ble_eq_true rfl⟩
theorem mo_314 : ai_MO M_314 3 := ⟨wd_1896, wd_14, nc_12, pd_11, Nat.le_of_ble_eq_true rfl⟩
theorem mo_315 : ai_MO M_315 6 := ⟨wd_1904, wd_14, nc_12, pd_23, Nat.le_of_ble_eq_true rfl⟩
theorem mo_316 : ai_MO M_316 4 := ⟨wd_1912, wd_14, nc_12, pd_66, Nat.le_of_ble_eq_true rfl⟩
theorem mo_317 : ai_MO M_317 4 := ⟨wd_1908, wd_14, nc_12, pd_70, Nat.le_of_ble_eq_true rfl⟩
theorem mo_318 : ai_MO M_318 3 := ⟨wd_1916, wd_14, nc_12, pd_11, Nat.le_of_ble_eq_true rfl⟩
theorem mo_319 : ai_MO M_319 1 := ⟨wd_1920, wd_14, nc_12, pd_14, Nat.le_of_ble_eq_true rfl⟩
theorem mo_320 : ai_MO M_320 1 := ⟨wd_1928, wd_14, nc_12, pd_15, Nat.le_of_ble_eq_true rfl⟩
theorem mo_321 : ai_MO M_321 2 := ⟨wd_1936, wd_14, nc_12, pd_33, Nat.le_of_ble_eq_true rfl⟩
theorem mo_322 : ai_MO M_322 4 := ⟨wd_1932, wd_14, nc_12, pd_66, Nat.le_of_ble_eq_true rfl⟩
theorem mo_323 : ai_MO M_323 3 := ⟨wd_1924, wd_14, nc_12, pd_11, Nat.le_of_ble_eq_true rfl⟩
theorem mo_324 : ai_MO M_324 1 := ⟨wd_1941, wd_14, nc_12, pd_14, Nat.le_of_ble_eq_true rfl⟩
theorem mo_325 : ai_MO M_325 2 := ⟨wd_1953, wd_14, nc_12, pd_22, Nat.le_of_ble_eq_true rfl⟩
theorem mo_326 : ai_MO M_326 3 := ⟨wd_1957, wd_14, nc_12, pd_11, Nat.le_of_ble_eq_true rfl⟩
theorem mo_327 : ai_MO M_327 3 := ⟨wd_1949, wd_14, nc_12, pd_74, Nat.le_of_ble_eq_true rfl⟩
theorem mo_328 : ai_MO M_328 4 := ⟨wd_1945, wd_14, nc_12, pd_66, Nat.le_of_ble_eq_true rfl⟩
theorem mo_329 : ai_MO M_329 4 := ⟨wd_1961, wd_14, nc_12, pd_66, Nat.le_of_ble_eq_true rfl⟩
theorem mo_330 : ai_MO M_330 1 := ⟨wd_1970, wd_14, nc_12, pd_24, Nat.le_of_ble_eq_true rfl⟩
theorem mo_331 : ai_MO M_331 2 := ⟨wd_1977, wd_14, nc_12, pd_35, Nat.le_of_ble_eq_true rfl⟩
theorem mo_332 : ai_MO M_332 1 := ⟨wd_1974, wd_14, nc_12, pd_34, Nat.le_of_ble_eq_true rfl⟩
theorem mo_333 : ai_MO M_333 4 := ⟨wd_1980, wd_14, nc_12, pd_79, Nat.le_of_ble_eq_true rfl⟩
theorem mo_334 : ai_MO M_334 1 := ⟨wd_1966, wd_14, nc_12, pd_14, Nat.le_of_ble_eq_true rfl⟩
theorem mo_335 : ai_MO M_335 3 := ⟨wd_1984, wd_14, nc_12, pd_71, Nat.le_of_ble_eq_true rfl⟩
theorem mo_336 : ai_MO M_336 3 := ⟨wd_1992, wd_14, nc_12, pd_74, Nat.le_of_ble_eq_true rfl⟩
theorem mo_337 : ai_MO M_337 4 := ⟨wd_1989, wd_14, nc_12, pd_66, Nat.le_of_ble_eq_true rfl⟩
theorem mo_338 : ai_MO M_338 4 := ⟨wd_1996, wd_14, nc_12, pd_66, Nat.le_of_ble_eq_true rfl⟩
theorem mo_339 : ai_MO M_339 3 := ⟨wd_2000, wd_14, nc_12, pd_11, Nat.le_of_ble_eq_true rfl⟩
theorem mo_340 : ai_MO M_340 1 := ⟨wd_2007, wd_14, nc_12, pd_15, Nat.le_of_ble_eq_true rfl⟩
theorem mo_341 : ai_MO M_341 7 := ⟨wd_2004, wd_14, nc_12, pd_72, Nat.le_of_ble_eq_true rfl⟩
theorem mo_342 : ai_MO M_342 1 := ⟨wd_2012, wd_14, nc_12, pd_14, Nat.le_of_ble_eq_true rfl⟩
theorem mo_343 : ai_MO M_343 1 := ⟨wd_1051, wd_20, nc_13, pd_14, Nat.le_of_ble_eq_true rfl⟩
theorem mo_344 : ai_MO M_344 1 := ⟨wd_1214, wd_4, nc_14, pd_14, Nat.le_of_ble_eq_true rfl⟩
theorem mo_345 : ai_MO M_345 2 := ⟨wd_43, wd_4, nc_14, pd_12, Nat.le_of_ble_eq_true rfl⟩
theorem mo_346 : ai_MO M_346 2 := ⟨wd_435, wd_4, nc_14, pd_12, Nat.le_of_ble_eq_true rfl⟩
theorem mo_347 : ai_MO M_347 0 := ⟨wd_467, wd_15, nc_15, pd_10, Nat.le_of_ble_eq_true rfl⟩
theorem mo_348 : ai_MO M_348 1 := ⟨wd_477, wd_15, nc_15, pd_80, Nat.le_of_ble_eq_true rfl⟩
theorem mo_349 : ai_MO M_349 1 := ⟨wd_525, wd_15, nc_15, pd_14, Nat.le_of_ble_eq_true rfl⟩
theorem mo_350 : ai_MO M_350 2 := ⟨wd_529, wd_15, nc_15, pd_12, Nat.le_of_ble_eq_true rfl⟩
theorem mo_351 : ai_MO M_351 0 := ⟨wd_471, wd_15, nc_15, pd_81, Nat.le_of_ble_eq_true rfl⟩
theorem mo_352 : ai_MO M_352 0 := ⟨wd_481, wd_15, nc_15, pd_32, Nat.le_of_ble_eq_true rfl⟩
theorem mo_353 : ai_MO M_353 2 := ⟨wd_487, wd_15, nc_15, pd_22, Nat.le_of_ble_eq_true rfl⟩
theorem mo_354 : ai_MO M_354 2 := ⟨wd_484, wd_16, nc_16, pd_82, Nat.le_of_ble_eq_true rfl⟩
theorem mo_355 : ai_MO M_355 1 := ⟨wd_536, wd_16, nc_16, pd_15, Nat.le_of_ble_eq_true rfl⟩
theorem mo_356 : ai_MO M_356 4 := ⟨wd_533, wd_16, nc_16, pd_83, Nat.le_of_ble_eq_true rfl⟩
theorem mo_357 : ai_MO M_357 4 := ⟨wd_541, wd_16, nc_16, pd_83, Nat.le_of_ble_eq_true rfl⟩
theorem mo_358 : ai_MO M_358 3 := ⟨wd_492, wd_17, nc_17, pd_84, Nat.le_of_ble_eq_true rfl⟩
