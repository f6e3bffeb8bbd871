/-! ENTRIES OF ALL METHODS: written by program (wip/whole/gen/pp.py) -/
theorem ai_ofW {l : Launch} {y : MethodName} {ws ws' : List Cond} {rm : Room} {Pc : Array Value → State → Prop} {Qc : Array Value → State → Outcome → State → Prop} {mc ms : Nat} {free : Addr → Prop} {cc : ByteArray} {maxL : Nat} {ret : Option FieldType}
    (hy : plainFor y = true) (hw : ws = Cond.code y cc maxL ret :: ws')
    (body : ∀ p e s m args below meth c s₁, BodyLoose p l y (headSpec ws rm) cc maxL ret e s m args below meth c s₁ → c.maxLocals = maxL → Pc args s → W p l e (headSpec ws rm).room s m args below meth c s.heap [] 0 0 (MQ below Qc args s mc ms free) (entryFrame m args maxL)) : Met l y ws rm Pc Qc mc ms free := by
  refine Jvm.Free.MetFree.of_bodySF (code := cc) (maxLocals := maxL) (ret := ret) hy ?_ ?_
  · intro args s m h hn
    obtain ⟨meth, c, h1, h2, h3, h4, h5, h6, -, -⟩ := Cond.code_spec hn (atoms_spec (ws := ws) h _ (by rw [hw]; exact List.mem_cons_self))
    exact ⟨meth, c, h1, h2, h3, h4, h5, h6⟩
  · intro p e s m args below meth c s₁ B hml hP _
    obtain ⟨t, st, o, b1, b2, b3, b4⟩ := body p e s m args below meth c s₁ B hml hP s₁ (by rw [B.state]; rfl) (Stand.of_body B)
    exact ⟨t, o, st, b1, b2, b3, b4⟩
/-- every run of the abstract machine is a contract of the machine -/
theorem ai_main2 (TT : Nat → (Nat → Option ai_Op) × ai_Mt) (hs : ∀ m pc op, (TT m).1 pc = some op → ai_Sn (fun m => (TT m).2) (TT m).2 pc op) (hpl : ∀ m, plainFor (TT m).2.1 = true) (l : Launch) (D : va_G) (cA : Nat → ClassId) (n0 : Nat) (vz : Value) (L : Nat) (xs : Nat → Int32) (d : Nat) : ai_CS (fun m => (TT m).2) l D cA n0 vz L xs d (ai_Ex (fun m => ((TT m).1, (TT m).2.2.2.1)) d) := by
  induction d with
  | zero => intro m as h Q x; exact x.elim
  | succ d ih =>
    intro mm as h Q x hoks ad
    obtain ⟨hfit, x⟩ := x
    refine ai_ofW (cc := (TT mm).2.2.1) (maxL := (TT mm).2.2.2.1) (ret := (TT mm).2.2.2.2.1) (hpl mm) rfl ?_
    intro p e s m args below meth c s₁ B hml hv
    obtain ⟨rfl, hHP, hKC⟩ := hv
    have hx := B.exec
    have hb := B.bytes
    have hr := B.returns
    have hlocks := B.notSynchronized
    have hts0 := atoms_spec (ws := ai_ws (TT mm).2) B.pre
    have hts : ∀ w ∈ ai_tb, w.before (as.map (ai_cv vz ad)).toArray s = true := fun w hw => hts0 w (List.mem_cons_of_mem _ hw)
    have hown : s.vm.findClass (TT mm).2.1.cls = some m.cls := findClass_of_methodNamed B.named
    have hnm : meth.name = (TT mm).2.1.name := (name_of_methodNamed B.named B.method).1
    have hz := hKC.2.2.2.2.2.2.2.2
    have hlen : (lg_sl (as.map (ai_cv vz ad))).length ≤ (TT mm).2.2.2.1 := by rw [ai_sl_len vz ad hz]; exact hfit
    have hl := lv_entry (as.map (ai_cv vz ad)) hlen
    rw [lg_entry_eq]
    have hlv : lv_has ((lg_sl (as.map (ai_cv vz ad)) ++ List.replicate ((TT mm).2.2.2.1 - (lg_sl (as.map (ai_cv vz ad))).length) Slot.unset).toArray) (TT mm).2.2.2.1 (ai_lv vz ad (TT mm).2.2.2.1 (ai_pad (TT mm).2.2.2.1 (ai_args as))) := by
      refine ai_lv_sub hl fun q hq => ?_
      obtain ⟨hq1, w, hw, e⟩ := ai_lv_mem.mp hq
      rw [ai_lg_pad] at hw
      have h2 := (ai_args_lg vz ad hz as 0 q.1 w hw).2
      rw [Nat.zero_add, ← e] at h2
      exact h2
    refine ai_sound (T := fun m => (TT m).2) (M := (TT mm).2) (hs mm) (Γ := (l, (headSpec (ai_ws (TT mm).2) (ai_rm (d + 1) (TT mm).2)).room, p, e, s, m, (as.map (ai_cv vz ad)).toArray, below, meth, c, MQ below _ (as.map (ai_cv vz ad)).toArray s _ _ _, D, cA, n0, vz, L, xs, ad, h)) (d := d) (C := ai_Ex (fun m => ((TT m).1, (TT m).2.2.2.1)) d) (Q := Q) ⟨hx, hb, hml, hown, hts, hnm, rfl, rfl⟩ ⟨Nat.le_refl _, Nat.le_refl _⟩ ih ?_ x ad s.heap [] _ ⟨fun _ => Nat.le_refl _, fun _ _ _ => rfl⟩ hHP hKC ?_ (fun v hv => by cases hv) hlv va_S.rf (Nat.zero_le _) (Nat.zero_le _)
    · intro ad' H locs ls h' u w pc hE hHP' hKC' hS hu hw
      have hfin : ∀ (v : Option ai_V), (∀ x, v = some x → ai_ok h'.2.2.2.1 x) → Q v h' → ∀ t : State, t.heap = H → s.WarmedH t.vm → (∃ (v2 : Option ai_V) (h2 : ai_H) (ad2 : Nat → Nat → Nat), Q v2 h2 ∧ Outcome.returned (v.map (ai_cv vz ad')) = .returned (v2.map (ai_cv vz ad2)) ∧ ai_HP D cA n0 L xs ad2 h2 t.heap ∧ ai_ext ad ad2 h h2 ∧ (∀ x, v2 = some x → ai_ok h2.2.2.2.1 x)) ∧ va_F (fun q => n0 ≤ q) s t :=
        fun v hok hq t ht _ => ⟨⟨v, h', ad', hq, rfl, by rw [ht]; exact hHP', hE, hok⟩, hS.F ht⟩
      refine ⟨fun hq hr2 hd => ?_, fun y hq hr2 hd => ?_, fun x y ty hq hr2 hn hd => ?_⟩
      · exact W.widen hu hw (W.vret hx hb (hr.trans hr2) (fun t ht hW => hfin none (fun x e => by cases e) hq t ht hW) hS.2.2 hd hlocks)
      · exact W.widen hu hw (W.lret hx hb (hr.trans hr2) (fun t ht hW => hfin (some (aL y)) (fun x e => by cases e; trivial) hq t ht hW) hS.2.2 hd hlocks)
      · exact W.widen hu hw (ai_zret hx hb (hr.trans hr2) hn (fun t ht hW => hfin (some (aI y)) (fun x e => by cases e; trivial) hq t ht hW) hS.2.2 hd hlocks)
    · intro j v hv
      rw [ai_lg_pad] at hv
      exact hoks v (ai_args_lg vz ad hz as 0 j v hv).1
def sh_Pp (code : Nat → Option ai_Op) (M : ai_Mt) : Prop := (∀ pc op, code pc = some op → ai_Sn (fun m => (sh_TT m).2) M pc op) ∧ plainFor M.1 = true
theorem sh_tr2 {b : Bool} {x y : Nat → Option ai_Op} {u v : ai_Mt} {P : (Nat → Option ai_Op) → ai_Mt → Prop} (p : P x u) (q : P y v) : P (cond b x y) (cond b u v) := by
  cases b
  · exact q
  · exact p
theorem pn_0 : plainName "CoinBoats$Calendar" = true := by decide +kernel
theorem pn_1 : plainName "CoinBoats$Coins" = true := by decide +kernel
theorem pn_2 : plainName "CoinBoats$Formulas" = true := by decide +kernel
theorem pn_3 : plainName "CoinBoats$Ledger" = true := by decide +kernel
theorem pn_4 : plainName "CoinBoats$Pieces" = true := by decide +kernel
theorem pn_5 : plainName "CoinBoats$Reader" = true := by decide +kernel
theorem pn_6 : plainName "CoinBoats$Rows" = true := by decide +kernel
theorem pn_7 : plainName "CoinBoats$State" = true := by decide +kernel
theorem pn_8 : plainName "CoinBoats$Stocks" = true := by decide +kernel
theorem pn_9 : plainName "CoinBoats$Text" = true := by decide +kernel
theorem pn_10 : plainName "CoinBoats$Tokens" = true := by decide +kernel
theorem pn_11 : plainName "CoinBoats" = true := by decide +kernel
theorem pn_12 : plainName "CoinBoatsModel" = true := by decide +kernel
theorem pn_13 : plainName "java/lang/Integer" = true := by decide +kernel
theorem pn_15 : plainName "java/lang/String" = true := by decide +kernel
theorem pn_16 : plainName "java/lang/StringLatin1" = true := by decide +kernel
theorem pn_17 : plainName "jdk/internal/util/Preconditions" = true := by decide +kernel
theorem pp_0 : sh_Pp cd_0 M_0 := ⟨fun pc op h => (sn_0 pc op h).1, plainFor_of_name pn_0⟩
theorem pp_1 : sh_Pp cd_1 M_1 := ⟨fun pc op h => (sn_1 pc op h).1, plainFor_of_name pn_0⟩
theorem pp_2 : sh_Pp cd_2 M_2 := ⟨fun pc op h => (sn_2 pc op h).1, plainFor_of_name pn_0⟩
theorem pp_3 : sh_Pp cd_3 M_3 := ⟨fun pc op h => (sn_3 pc op h).1, plainFor_of_name pn_0⟩
theorem pp_4 : sh_Pp cd_4 M_4 := ⟨fun pc op h => (sn_4 pc op h).1, plainFor_of_name pn_0⟩
theorem pp_5 : sh_Pp cd_5 M_5 := ⟨fun pc op h => (sn_5 pc op h).1, plainFor_of_name pn_0⟩
theorem pp_6 : sh_Pp cd_6 M_6 := ⟨fun pc op h => (sn_6 pc op h).1, plainFor_of_name pn_0⟩
theorem pp_7 : sh_Pp cd_7 M_7 := ⟨fun pc op h => (sn_7 pc op h).1, plainFor_of_name pn_0⟩
theorem pp_8 : sh_Pp cd_8 M_8 := ⟨fun pc op h => (sn_8 pc op h).1, plainFor_of_name pn_0⟩
theorem pp_9 : sh_Pp cd_9 M_9 := ⟨fun pc op h => (sn_9 pc op h).1, plainFor_of_name pn_0⟩
theorem pp_10 : sh_Pp cd_10 M_10 := ⟨fun pc op h => (sn_10 pc op h).1, plainFor_of_name pn_0⟩
theorem pp_11 : sh_Pp cd_11 M_11 := ⟨fun pc op h => (sn_11 pc op h).1, plainFor_of_name pn_0⟩
theorem pp_12 : sh_Pp cd_12 M_12 := ⟨fun pc op h => (sn_12 pc op h).1, plainFor_of_name pn_0⟩
theorem pp_13 : sh_Pp cd_13 M_13 := ⟨fun pc op h => (sn_13 pc op h).1, plainFor_of_name pn_0⟩
theorem pp_14 : sh_Pp cd_14 M_14 := ⟨fun pc op h => (sn_14 pc op h).1, plainFor_of_name pn_0⟩
theorem pp_15 : sh_Pp cd_15 M_15 := ⟨fun pc op h => (sn_15 pc op h).1, plainFor_of_name pn_0⟩
theorem pp_16 : sh_Pp cd_16 M_16 := ⟨fun pc op h => (sn_16 pc op h).1, plainFor_of_name pn_1⟩
theorem pp_17 : sh_Pp cd_17 M_17 := ⟨fun pc op h => (sn_17 pc op h).1, plainFor_of_name pn_1⟩
theorem pp_18 : sh_Pp cd_18 M_18 := ⟨fun pc op h => (sn_18 pc op h).1, plainFor_of_name pn_1⟩
theorem pp_19 : sh_Pp cd_19 M_19 := ⟨fun pc op h => (sn_19 pc op h).1, plainFor_of_name pn_1⟩
theorem pp_20 : sh_Pp cd_20 M_20 := ⟨fun pc op h => (sn_20 pc op h).1, plainFor_of_name pn_1⟩
theorem pp_21 : sh_Pp cd_21 M_21 := ⟨fun pc op h => (sn_21 pc op h).1, plainFor_of_name pn_1⟩
theorem pp_22 : sh_Pp cd_22 M_22 := ⟨fun pc op h => (sn_22 pc op h).1, plainFor_of_name pn_1⟩
theorem pp_23 : sh_Pp cd_23 M_23 := ⟨fun pc op h => (sn_23 pc op h).1, plainFor_of_name pn_1⟩
theorem pp_24 : sh_Pp cd_24 M_24 := ⟨fun pc op h => (sn_24 pc op h).1, plainFor_of_name pn_1⟩
theorem pp_25 : sh_Pp cd_25 M_25 := ⟨fun pc op h => (sn_25 pc op h).1, plainFor_of_name pn_1⟩
theorem pp_26 : sh_Pp cd_26 M_26 := ⟨fun pc op h => (sn_26 pc op h).1, plainFor_of_name pn_1⟩
theorem pp_27 : sh_Pp cd_27 M_27 := ⟨fun pc op h => (sn_27 pc op h).1, plainFor_of_name pn_1⟩
theorem pp_28 : sh_Pp cd_28 M_28 := ⟨fun pc op h => (sn_28 pc op h).1, plainFor_of_name pn_1⟩
theorem pp_29 : sh_Pp cd_29 M_29 := ⟨fun pc op h => (sn_29 pc op h).1, plainFor_of_name pn_1⟩
theorem pp_30 : sh_Pp cd_30 M_30 := ⟨fun pc op h => (sn_30 pc op h).1, plainFor_of_name pn_1⟩
theorem pp_31 : sh_Pp cd_31 M_31 := ⟨fun pc op h => (sn_31 pc op h).1, plainFor_of_name pn_1⟩
theorem pp_32 : sh_Pp cd_32 M_32 := ⟨fun pc op h => (sn_32 pc op h).1, plainFor_of_name pn_1⟩
theorem pp_33 : sh_Pp cd_33 M_33 := ⟨fun pc op h => (sn_33 pc op h).1, plainFor_of_name pn_2⟩
theorem pp_34 : sh_Pp cd_34 M_34 := ⟨fun pc op h => (sn_34 pc op h).1, plainFor_of_name pn_2⟩
theorem pp_35 : sh_Pp cd_35 M_35 := ⟨fun pc op h => (sn_35 pc op h).1, plainFor_of_name pn_2⟩
theorem pp_36 : sh_Pp cd_36 M_36 := ⟨fun pc op h => (sn_36 pc op h).1, plainFor_of_name pn_2⟩
theorem pp_37 : sh_Pp cd_37 M_37 := ⟨fun pc op h => (sn_37 pc op h).1, plainFor_of_name pn_2⟩
theorem pp_38 : sh_Pp cd_38 M_38 := ⟨fun pc op h => (sn_38 pc op h).1, plainFor_of_name pn_2⟩
theorem pp_39 : sh_Pp cd_39 M_39 := ⟨fun pc op h => (sn_39 pc op h).1, plainFor_of_name pn_2⟩
theorem pp_40 : sh_Pp cd_40 M_40 := ⟨fun pc op h => (sn_40 pc op h).1, plainFor_of_name pn_2⟩
theorem pp_41 : sh_Pp cd_41 M_41 := ⟨fun pc op h => (sn_41 pc op h).1, plainFor_of_name pn_3⟩
theorem pp_42 : sh_Pp cd_42 M_42 := ⟨fun pc op h => (sn_42 pc op h).1, plainFor_of_name pn_3⟩
theorem pp_43 : sh_Pp cd_43 M_43 := ⟨fun pc op h => (sn_43 pc op h).1, plainFor_of_name pn_3⟩
theorem pp_44 : sh_Pp cd_44 M_44 := ⟨fun pc op h => (sn_44 pc op h).1, plainFor_of_name pn_3⟩
theorem pp_45 : sh_Pp cd_45 M_45 := ⟨fun pc op h => (sn_45 pc op h).1, plainFor_of_name pn_3⟩
theorem pp_46 : sh_Pp cd_46 M_46 := ⟨fun pc op h => (sn_46 pc op h).1, plainFor_of_name pn_3⟩
theorem pp_47 : sh_Pp cd_47 M_47 := ⟨fun pc op h => (sn_47 pc op h).1, plainFor_of_name pn_3⟩
theorem pp_48 : sh_Pp cd_48 M_48 := ⟨fun pc op h => (sn_48 pc op h).1, plainFor_of_name pn_3⟩
theorem pp_49 : sh_Pp cd_49 M_49 := ⟨fun pc op h => (sn_49 pc op h).1, plainFor_of_name pn_3⟩
theorem pp_50 : sh_Pp cd_50 M_50 := ⟨fun pc op h => (sn_50 pc op h).1, plainFor_of_name pn_3⟩
theorem pp_51 : sh_Pp cd_51 M_51 := ⟨fun pc op h => (sn_51 pc op h).1, plainFor_of_name pn_3⟩
theorem pp_52 : sh_Pp cd_52 M_52 := ⟨fun pc op h => (sn_52 pc op h).1, plainFor_of_name pn_3⟩
theorem pp_53 : sh_Pp cd_53 M_53 := ⟨fun pc op h => (sn_53 pc op h).1, plainFor_of_name pn_3⟩
theorem pp_54 : sh_Pp cd_54 M_54 := ⟨fun pc op h => (sn_54 pc op h).1, plainFor_of_name pn_3⟩
theorem pp_55 : sh_Pp cd_55 M_55 := ⟨fun pc op h => (sn_55 pc op h).1, plainFor_of_name pn_3⟩
theorem pp_56 : sh_Pp cd_56 M_56 := ⟨fun pc op h => (sn_56 pc op h).1, plainFor_of_name pn_3⟩
theorem pp_57 : sh_Pp cd_57 M_57 := ⟨fun pc op h => (sn_57 pc op h).1, plainFor_of_name pn_3⟩
theorem pp_58 : sh_Pp cd_58 M_58 := ⟨fun pc op h => (sn_58 pc op h).1, plainFor_of_name pn_3⟩
theorem pp_59 : sh_Pp cd_59 M_59 := ⟨fun pc op h => (sn_59 pc op h).1, plainFor_of_name pn_3⟩
theorem pp_60 : sh_Pp cd_60 M_60 := ⟨fun pc op h => (sn_60 pc op h).1, plainFor_of_name pn_3⟩
theorem pp_61 : sh_Pp cd_61 M_61 := ⟨fun pc op h => (sn_61 pc op h).1, plainFor_of_name pn_4⟩
theorem pp_62 : sh_Pp cd_62 M_62 := ⟨fun pc op h => (sn_62 pc op h).1, plainFor_of_name pn_4⟩
theorem pp_63 : sh_Pp cd_63 M_63 := ⟨fun pc op h => (sn_63 pc op h).1, plainFor_of_name pn_4⟩
theorem pp_64 : sh_Pp cd_64 M_64 := ⟨fun pc op h => (sn_64 pc op h).1, plainFor_of_name pn_4⟩
theorem pp_65 : sh_Pp cd_65 M_65 := ⟨fun pc op h => (sn_65 pc op h).1, plainFor_of_name pn_4⟩
theorem pp_66 : sh_Pp cd_66 M_66 := ⟨fun pc op h => (sn_66 pc op h).1, plainFor_of_name pn_4⟩
theorem pp_67 : sh_Pp cd_67 M_67 := ⟨fun pc op h => (sn_67 pc op h).1, plainFor_of_name pn_4⟩
theorem pp_68 : sh_Pp cd_68 M_68 := ⟨fun pc op h => (sn_68 pc op h).1, plainFor_of_name pn_4⟩
theorem pp_69 : sh_Pp cd_69 M_69 := ⟨fun pc op h => (sn_69 pc op h).1, plainFor_of_name pn_5⟩
theorem pp_70 : sh_Pp cd_70 M_70 := ⟨fun pc op h => (sn_70 pc op h).1, plainFor_of_name pn_5⟩
theorem pp_71 : sh_Pp cd_71 M_71 := ⟨fun pc op h => (sn_71 pc op h).1, plainFor_of_name pn_5⟩
theorem pp_72 : sh_Pp cd_72 M_72 := ⟨fun pc op h => (sn_72 pc op h).1, plainFor_of_name pn_5⟩
theorem pp_73 : sh_Pp cd_73 M_73 := ⟨fun pc op h => (sn_73 pc op h).1, plainFor_of_name pn_5⟩
theorem pp_74 : sh_Pp cd_74 M_74 := ⟨fun pc op h => (sn_74 pc op h).1, plainFor_of_name pn_5⟩
theorem pp_75 : sh_Pp cd_75 M_75 := ⟨fun pc op h => (sn_75 pc op h).1, plainFor_of_name pn_5⟩
theorem pp_76 : sh_Pp cd_76 M_76 := ⟨fun pc op h => (sn_76 pc op h).1, plainFor_of_name pn_5⟩
theorem pp_77 : sh_Pp cd_77 M_77 := ⟨fun pc op h => (sn_77 pc op h).1, plainFor_of_name pn_5⟩
theorem pp_78 : sh_Pp cd_78 M_78 := ⟨fun pc op h => (sn_78 pc op h).1, plainFor_of_name pn_5⟩
theorem pp_79 : sh_Pp cd_79 M_79 := ⟨fun pc op h => (sn_79 pc op h).1, plainFor_of_name pn_5⟩
theorem pp_80 : sh_Pp cd_80 M_80 := ⟨fun pc op h => (sn_80 pc op h).1, plainFor_of_name pn_5⟩
theorem pp_81 : sh_Pp cd_81 M_81 := ⟨fun pc op h => (sn_81 pc op h).1, plainFor_of_name pn_5⟩
theorem pp_82 : sh_Pp cd_82 M_82 := ⟨fun pc op h => (sn_82 pc op h).1, plainFor_of_name pn_5⟩
theorem pp_83 : sh_Pp cd_83 M_83 := ⟨fun pc op h => (sn_83 pc op h).1, plainFor_of_name pn_5⟩
theorem pp_84 : sh_Pp cd_84 M_84 := ⟨fun pc op h => (sn_84 pc op h).1, plainFor_of_name pn_5⟩
theorem pp_85 : sh_Pp cd_85 M_85 := ⟨fun pc op h => (sn_85 pc op h).1, plainFor_of_name pn_5⟩
theorem pp_86 : sh_Pp cd_86 M_86 := ⟨fun pc op h => (sn_86 pc op h).1, plainFor_of_name pn_5⟩
theorem pp_87 : sh_Pp cd_87 M_87 := ⟨fun pc op h => (sn_87 pc op h).1, plainFor_of_name pn_5⟩
theorem pp_88 : sh_Pp cd_88 M_88 := ⟨fun pc op h => (sn_88 pc op h).1, plainFor_of_name pn_5⟩
theorem pp_89 : sh_Pp cd_89 M_89 := ⟨fun pc op h => (sn_89 pc op h).1, plainFor_of_name pn_5⟩
theorem pp_90 : sh_Pp cd_90 M_90 := ⟨fun pc op h => (sn_90 pc op h).1, plainFor_of_name pn_5⟩
theorem pp_91 : sh_Pp cd_91 M_91 := ⟨fun pc op h => (sn_91 pc op h).1, plainFor_of_name pn_5⟩
theorem pp_92 : sh_Pp cd_92 M_92 := ⟨fun pc op h => (sn_92 pc op h).1, plainFor_of_name pn_5⟩
theorem pp_93 : sh_Pp cd_93 M_93 := ⟨fun pc op h => (sn_93 pc op h).1, plainFor_of_name pn_5⟩
theorem pp_94 : sh_Pp cd_94 M_94 := ⟨fun pc op h => (sn_94 pc op h).1, plainFor_of_name pn_5⟩
theorem pp_95 : sh_Pp cd_95 M_95 := ⟨fun pc op h => (sn_95 pc op h).1, plainFor_of_name pn_5⟩
theorem pp_96 : sh_Pp cd_96 M_96 := ⟨fun pc op h => (sn_96 pc op h).1, plainFor_of_name pn_5⟩
theorem pp_97 : sh_Pp cd_97 M_97 := ⟨fun pc op h => (sn_97 pc op h).1, plainFor_of_name pn_6⟩
theorem pp_98 : sh_Pp cd_98 M_98 := ⟨fun pc op h => (sn_98 pc op h).1, plainFor_of_name pn_6⟩
theorem pp_99 : sh_Pp cd_99 M_99 := ⟨fun pc op h => (sn_99 pc op h).1, plainFor_of_name pn_6⟩
theorem pp_100 : sh_Pp cd_100 M_100 := ⟨fun pc op h => (sn_100 pc op h).1, plainFor_of_name pn_6⟩
theorem pp_101 : sh_Pp cd_101 M_101 := ⟨fun pc op h => (sn_101 pc op h).1, plainFor_of_name pn_6⟩
theorem pp_102 : sh_Pp cd_102 M_102 := ⟨fun pc op h => (sn_102 pc op h).1, plainFor_of_name pn_6⟩
theorem pp_103 : sh_Pp cd_103 M_103 := ⟨fun pc op h => (sn_103 pc op h).1, plainFor_of_name pn_6⟩
theorem pp_104 : sh_Pp cd_104 M_104 := ⟨fun pc op h => (sn_104 pc op h).1, plainFor_of_name pn_6⟩
theorem pp_105 : sh_Pp cd_105 M_105 := ⟨fun pc op h => (sn_105 pc op h).1, plainFor_of_name pn_6⟩
theorem pp_106 : sh_Pp cd_106 M_106 := ⟨fun pc op h => (sn_106 pc op h).1, plainFor_of_name pn_6⟩
theorem pp_107 : sh_Pp cd_107 M_107 := ⟨fun pc op h => (sn_107 pc op h).1, plainFor_of_name pn_7⟩
theorem pp_108 : sh_Pp cd_108 M_108 := ⟨fun pc op h => (sn_108 pc op h).1, plainFor_of_name pn_7⟩
theorem pp_109 : sh_Pp cd_109 M_109 := ⟨fun pc op h => (sn_109 pc op h).1, plainFor_of_name pn_7⟩
theorem pp_110 : sh_Pp cd_110 M_110 := ⟨fun pc op h => (sn_110 pc op h).1, plainFor_of_name pn_8⟩
theorem pp_111 : sh_Pp cd_111 M_111 := ⟨fun pc op h => (sn_111 pc op h).1, plainFor_of_name pn_8⟩
theorem pp_112 : sh_Pp cd_112 M_112 := ⟨fun pc op h => (sn_112 pc op h).1, plainFor_of_name pn_8⟩
theorem pp_113 : sh_Pp cd_113 M_113 := ⟨fun pc op h => (sn_113 pc op h).1, plainFor_of_name pn_8⟩
theorem pp_114 : sh_Pp cd_114 M_114 := ⟨fun pc op h => (sn_114 pc op h).1, plainFor_of_name pn_8⟩
theorem pp_115 : sh_Pp cd_115 M_115 := ⟨fun pc op h => (sn_115 pc op h).1, plainFor_of_name pn_8⟩
theorem pp_116 : sh_Pp cd_116 M_116 := ⟨fun pc op h => (sn_116 pc op h).1, plainFor_of_name pn_8⟩
theorem pp_117 : sh_Pp cd_117 M_117 := ⟨fun pc op h => (sn_117 pc op h).1, plainFor_of_name pn_8⟩
theorem pp_118 : sh_Pp cd_118 M_118 := ⟨fun pc op h => (sn_118 pc op h).1, plainFor_of_name pn_8⟩
theorem pp_119 : sh_Pp cd_119 M_119 := ⟨fun pc op h => (sn_119 pc op h).1, plainFor_of_name pn_8⟩
theorem pp_120 : sh_Pp cd_120 M_120 := ⟨fun pc op h => (sn_120 pc op h).1, plainFor_of_name pn_8⟩
theorem pp_121 : sh_Pp cd_121 M_121 := ⟨fun pc op h => (sn_121 pc op h).1, plainFor_of_name pn_9⟩
theorem pp_122 : sh_Pp cd_122 M_122 := ⟨fun pc op h => (sn_122 pc op h).1, plainFor_of_name pn_9⟩
theorem pp_123 : sh_Pp cd_123 M_123 := ⟨fun pc op h => (sn_123 pc op h).1, plainFor_of_name pn_9⟩
theorem pp_124 : sh_Pp cd_124 M_124 := ⟨fun pc op h => (sn_124 pc op h).1, plainFor_of_name pn_9⟩
theorem pp_125 : sh_Pp cd_125 M_125 := ⟨fun pc op h => (sn_125 pc op h).1, plainFor_of_name pn_9⟩
theorem pp_126 : sh_Pp cd_126 M_126 := ⟨fun pc op h => (sn_126 pc op h).1, plainFor_of_name pn_9⟩
theorem pp_127 : sh_Pp cd_127 M_127 := ⟨fun pc op h => (sn_127 pc op h).1, plainFor_of_name pn_9⟩
theorem pp_128 : sh_Pp cd_128 M_128 := ⟨fun pc op h => (sn_128 pc op h).1, plainFor_of_name pn_9⟩
theorem pp_129 : sh_Pp cd_129 M_129 := ⟨fun pc op h => (sn_129 pc op h).1, plainFor_of_name pn_9⟩
theorem pp_130 : sh_Pp cd_130 M_130 := ⟨fun pc op h => (sn_130 pc op h).1, plainFor_of_name pn_9⟩
theorem pp_131 : sh_Pp cd_131 M_131 := ⟨fun pc op h => (sn_131 pc op h).1, plainFor_of_name pn_9⟩
theorem pp_132 : sh_Pp cd_132 M_132 := ⟨fun pc op h => (sn_132 pc op h).1, plainFor_of_name pn_10⟩
theorem pp_133 : sh_Pp cd_133 M_133 := ⟨fun pc op h => (sn_133 pc op h).1, plainFor_of_name pn_10⟩
theorem pp_134 : sh_Pp cd_134 M_134 := ⟨fun pc op h => (sn_134 pc op h).1, plainFor_of_name pn_10⟩
theorem pp_135 : sh_Pp cd_135 M_135 := ⟨fun pc op h => (sn_135 pc op h).1, plainFor_of_name pn_10⟩
theorem pp_136 : sh_Pp cd_136 M_136 := ⟨fun pc op h => (sn_136 pc op h).1, plainFor_of_name pn_10⟩
theorem pp_137 : sh_Pp cd_137 M_137 := ⟨fun pc op h => (sn_137 pc op h).1, plainFor_of_name pn_10⟩
theorem pp_138 : sh_Pp cd_138 M_138 := ⟨fun pc op h => (sn_138 pc op h).1, plainFor_of_name pn_10⟩
theorem pp_139 : sh_Pp cd_139 M_139 := ⟨fun pc op h => (sn_139 pc op h).1, plainFor_of_name pn_10⟩
theorem pp_140 : sh_Pp cd_140 M_140 := ⟨fun pc op h => (sn_140 pc op h).1, plainFor_of_name pn_10⟩
theorem pp_141 : sh_Pp cd_141 M_141 := ⟨fun pc op h => (sn_141 pc op h).1, plainFor_of_name pn_10⟩
theorem pp_142 : sh_Pp cd_142 M_142 := ⟨fun pc op h => (sn_142 pc op h).1, plainFor_of_name pn_10⟩
theorem pp_143 : sh_Pp cd_143 M_143 := ⟨fun pc op h => (sn_143 pc op h).1, plainFor_of_name pn_10⟩
theorem pp_144 : sh_Pp cd_144 M_144 := ⟨fun pc op h => (sn_144 pc op h).1, plainFor_of_name pn_10⟩
theorem pp_145 : sh_Pp cd_145 M_145 := ⟨fun pc op h => (sn_145 pc op h).1, plainFor_of_name pn_10⟩
theorem pp_146 : sh_Pp cd_146 M_146 := ⟨fun pc op h => (sn_146 pc op h).1, plainFor_of_name pn_11⟩
theorem pp_147 : sh_Pp cd_147 M_147 := ⟨fun pc op h => (sn_147 pc op h).1, plainFor_of_name pn_11⟩
theorem pp_148 : sh_Pp cd_148 M_148 := ⟨fun pc op h => (sn_148 pc op h).1, plainFor_of_name pn_11⟩
theorem pp_149 : sh_Pp cd_149 M_149 := ⟨fun pc op h => (sn_149 pc op h).1, plainFor_of_name pn_11⟩
theorem pp_150 : sh_Pp cd_150 M_150 := ⟨fun pc op h => (sn_150 pc op h).1, plainFor_of_name pn_11⟩
theorem pp_151 : sh_Pp cd_151 M_151 := ⟨fun pc op h => (sn_151 pc op h).1, plainFor_of_name pn_11⟩
theorem pp_152 : sh_Pp cd_152 M_152 := ⟨fun pc op h => (sn_152 pc op h).1, plainFor_of_name pn_11⟩
theorem pp_153 : sh_Pp cd_153 M_153 := ⟨fun pc op h => (sn_153 pc op h).1, plainFor_of_name pn_11⟩
theorem pp_154 : sh_Pp cd_154 M_154 := ⟨fun pc op h => (sn_154 pc op h).1, plainFor_of_name pn_11⟩
theorem pp_155 : sh_Pp cd_155 M_155 := ⟨fun pc op h => (sn_155 pc op h).1, plainFor_of_name pn_11⟩
theorem pp_156 : sh_Pp cd_156 M_156 := ⟨fun pc op h => (sn_156 pc op h).1, plainFor_of_name pn_11⟩
theorem pp_157 : sh_Pp cd_157 M_157 := ⟨fun pc op h => (sn_157 pc op h).1, plainFor_of_name pn_11⟩
theorem pp_158 : sh_Pp cd_158 M_158 := ⟨fun pc op h => (sn_158 pc op h).1, plainFor_of_name pn_11⟩
theorem pp_159 : sh_Pp cd_159 M_159 := ⟨fun pc op h => (sn_159 pc op h).1, plainFor_of_name pn_11⟩
theorem pp_160 : sh_Pp cd_160 M_160 := ⟨fun pc op h => (sn_160 pc op h).1, plainFor_of_name pn_11⟩
theorem pp_161 : sh_Pp cd_161 M_161 := ⟨fun pc op h => (sn_161 pc op h).1, plainFor_of_name pn_11⟩
theorem pp_162 : sh_Pp cd_162 M_162 := ⟨fun pc op h => (sn_162 pc op h).1, plainFor_of_name pn_11⟩
theorem pp_163 : sh_Pp cd_163 M_163 := ⟨fun pc op h => (sn_163 pc op h).1, plainFor_of_name pn_11⟩
theorem pp_164 : sh_Pp cd_164 M_164 := ⟨fun pc op h => (sn_164 pc op h).1, plainFor_of_name pn_11⟩
theorem pp_165 : sh_Pp cd_165 M_165 := ⟨fun pc op h => (sn_165 pc op h).1, plainFor_of_name pn_11⟩
theorem pp_166 : sh_Pp cd_166 M_166 := ⟨fun pc op h => (sn_166 pc op h).1, plainFor_of_name pn_11⟩
theorem pp_167 : sh_Pp cd_167 M_167 := ⟨fun pc op h => (sn_167 pc op h).1, plainFor_of_name pn_11⟩
theorem pp_168 : sh_Pp cd_168 M_168 := ⟨fun pc op h => (sn_168 pc op h).1, plainFor_of_name pn_11⟩
theorem pp_169 : sh_Pp cd_169 M_169 := ⟨fun pc op h => (sn_169 pc op h).1, plainFor_of_name pn_11⟩
theorem pp_170 : sh_Pp cd_170 M_170 := ⟨fun pc op h => (sn_170 pc op h).1, plainFor_of_name pn_11⟩
theorem pp_171 : sh_Pp cd_171 M_171 := ⟨fun pc op h => (sn_171 pc op h).1, plainFor_of_name pn_11⟩
theorem pp_172 : sh_Pp cd_172 M_172 := ⟨fun pc op h => (sn_172 pc op h).1, plainFor_of_name pn_11⟩
theorem pp_173 : sh_Pp cd_173 M_173 := ⟨fun pc op h => (sn_173 pc op h).1, plainFor_of_name pn_11⟩
theorem pp_174 : sh_Pp cd_174 M_174 := ⟨fun pc op h => (sn_174 pc op h).1, plainFor_of_name pn_11⟩
theorem pp_175 : sh_Pp cd_175 M_175 := ⟨fun pc op h => (sn_175 pc op h).1, plainFor_of_name pn_11⟩
theorem pp_176 : sh_Pp cd_176 M_176 := ⟨fun pc op h => (sn_176 pc op h).1, plainFor_of_name pn_11⟩
theorem pp_177 : sh_Pp cd_177 M_177 := ⟨fun pc op h => (sn_177 pc op h).1, plainFor_of_name pn_11⟩
theorem pp_178 : sh_Pp cd_178 M_178 := ⟨fun pc op h => (sn_178 pc op h).1, plainFor_of_name pn_11⟩
theorem pp_179 : sh_Pp cd_179 M_179 := ⟨fun pc op h => (sn_179 pc op h).1, plainFor_of_name pn_11⟩
theorem pp_180 : sh_Pp cd_180 M_180 := ⟨fun pc op h => (sn_180 pc op h).1, plainFor_of_name pn_11⟩
theorem pp_181 : sh_Pp cd_181 M_181 := ⟨fun pc op h => (sn_181 pc op h).1, plainFor_of_name pn_11⟩
theorem pp_182 : sh_Pp cd_182 M_182 := ⟨fun pc op h => (sn_182 pc op h).1, plainFor_of_name pn_11⟩
theorem pp_183 : sh_Pp cd_183 M_183 := ⟨fun pc op h => (sn_183 pc op h).1, plainFor_of_name pn_11⟩
theorem pp_184 : sh_Pp cd_184 M_184 := ⟨fun pc op h => (sn_184 pc op h).1, plainFor_of_name pn_11⟩
theorem pp_185 : sh_Pp cd_185 M_185 := ⟨fun pc op h => (sn_185 pc op h).1, plainFor_of_name pn_11⟩
theorem pp_186 : sh_Pp cd_186 M_186 := ⟨fun pc op h => (sn_186 pc op h).1, plainFor_of_name pn_11⟩
theorem pp_187 : sh_Pp cd_187 M_187 := ⟨fun pc op h => (sn_187 pc op h).1, plainFor_of_name pn_11⟩
theorem pp_188 : sh_Pp cd_188 M_188 := ⟨fun pc op h => (sn_188 pc op h).1, plainFor_of_name pn_11⟩
theorem pp_189 : sh_Pp cd_189 M_189 := ⟨fun pc op h => (sn_189 pc op h).1, plainFor_of_name pn_11⟩
theorem pp_190 : sh_Pp cd_190 M_190 := ⟨fun pc op h => (sn_190 pc op h).1, plainFor_of_name pn_11⟩
theorem pp_191 : sh_Pp cd_191 M_191 := ⟨fun pc op h => (sn_191 pc op h).1, plainFor_of_name pn_11⟩
theorem pp_192 : sh_Pp cd_192 M_192 := ⟨fun pc op h => (sn_192 pc op h).1, plainFor_of_name pn_11⟩
theorem pp_193 : sh_Pp cd_193 M_193 := ⟨fun pc op h => (sn_193 pc op h).1, plainFor_of_name pn_11⟩
theorem pp_194 : sh_Pp cd_194 M_194 := ⟨fun pc op h => (sn_194 pc op h).1, plainFor_of_name pn_11⟩
theorem pp_195 : sh_Pp cd_195 M_195 := ⟨fun pc op h => (sn_195 pc op h).1, plainFor_of_name pn_11⟩
theorem pp_196 : sh_Pp cd_196 M_196 := ⟨fun pc op h => (sn_196 pc op h).1, plainFor_of_name pn_11⟩
theorem pp_197 : sh_Pp cd_197 M_197 := ⟨fun pc op h => (sn_197 pc op h).1, plainFor_of_name pn_11⟩
theorem pp_198 : sh_Pp cd_198 M_198 := ⟨fun pc op h => (sn_198 pc op h).1, plainFor_of_name pn_11⟩
theorem pp_199 : sh_Pp cd_199 M_199 := ⟨fun pc op h => (sn_199 pc op h).1, plainFor_of_name pn_11⟩
theorem pp_200 : sh_Pp cd_200 M_200 := ⟨fun pc op h => (sn_200 pc op h).1, plainFor_of_name pn_11⟩
theorem pp_201 : sh_Pp cd_201 M_201 := ⟨fun pc op h => (sn_201 pc op h).1, plainFor_of_name pn_11⟩
theorem pp_202 : sh_Pp cd_202 M_202 := ⟨fun pc op h => (sn_202 pc op h).1, plainFor_of_name pn_11⟩
theorem pp_203 : sh_Pp cd_203 M_203 := ⟨fun pc op h => (sn_203 pc op h).1, plainFor_of_name pn_11⟩
theorem pp_204 : sh_Pp cd_204 M_204 := ⟨fun pc op h => (sn_204 pc op h).1, plainFor_of_name pn_11⟩
theorem pp_205 : sh_Pp cd_205 M_205 := ⟨fun pc op h => (sn_205 pc op h).1, plainFor_of_name pn_11⟩
theorem pp_206 : sh_Pp cd_206 M_206 := ⟨fun pc op h => (sn_206 pc op h).1, plainFor_of_name pn_12⟩
theorem pp_207 : sh_Pp cd_207 M_207 := ⟨fun pc op h => (sn_207 pc op h).1, plainFor_of_name pn_12⟩
theorem pp_208 : sh_Pp cd_208 M_208 := ⟨fun pc op h => (sn_208 pc op h).1, plainFor_of_name pn_12⟩
theorem pp_209 : sh_Pp cd_209 M_209 := ⟨fun pc op h => (sn_209 pc op h).1, plainFor_of_name pn_12⟩
theorem pp_210 : sh_Pp cd_210 M_210 := ⟨fun pc op h => (sn_210 pc op h).1, plainFor_of_name pn_12⟩
theorem pp_211 : sh_Pp cd_211 M_211 := ⟨fun pc op h => (sn_211 pc op h).1, plainFor_of_name pn_12⟩
theorem pp_212 : sh_Pp cd_212 M_212 := ⟨fun pc op h => (sn_212 pc op h).1, plainFor_of_name pn_12⟩
theorem pp_213 : sh_Pp cd_213 M_213 := ⟨fun pc op h => (sn_213 pc op h).1, plainFor_of_name pn_12⟩
theorem pp_214 : sh_Pp cd_214 M_214 := ⟨fun pc op h => (sn_214 pc op h).1, plainFor_of_name pn_12⟩
theorem pp_215 : sh_Pp cd_215 M_215 := ⟨fun pc op h => (sn_215 pc op h).1, plainFor_of_name pn_12⟩
theorem pp_216 : sh_Pp cd_216 M_216 := ⟨fun pc op h => (sn_216 pc op h).1, plainFor_of_name pn_12⟩
theorem pp_217 : sh_Pp cd_217 M_217 := ⟨fun pc op h => (sn_217 pc op h).1, plainFor_of_name pn_12⟩
theorem pp_218 : sh_Pp cd_218 M_218 := ⟨fun pc op h => (sn_218 pc op h).1, plainFor_of_name pn_12⟩
theorem pp_219 : sh_Pp cd_219 M_219 := ⟨fun pc op h => (sn_219 pc op h).1, plainFor_of_name pn_12⟩
theorem pp_220 : sh_Pp cd_220 M_220 := ⟨fun pc op h => (sn_220 pc op h).1, plainFor_of_name pn_12⟩
theorem pp_221 : sh_Pp cd_221 M_221 := ⟨fun pc op h => (sn_221 pc op h).1, plainFor_of_name pn_12⟩
theorem pp_222 : sh_Pp cd_222 M_222 := ⟨fun pc op h => (sn_222 pc op h).1, plainFor_of_name pn_12⟩
theorem pp_223 : sh_Pp cd_223 M_223 := ⟨fun pc op h => (sn_223 pc op h).1, plainFor_of_name pn_12⟩
theorem pp_224 : sh_Pp cd_224 M_224 := ⟨fun pc op h => (sn_224 pc op h).1, plainFor_of_name pn_12⟩
theorem pp_225 : sh_Pp cd_225 M_225 := ⟨fun pc op h => (sn_225 pc op h).1, plainFor_of_name pn_12⟩
theorem pp_226 : sh_Pp cd_226 M_226 := ⟨fun pc op h => (sn_226 pc op h).1, plainFor_of_name pn_12⟩
theorem pp_227 : sh_Pp cd_227 M_227 := ⟨fun pc op h => (sn_227 pc op h).1, plainFor_of_name pn_12⟩
theorem pp_228 : sh_Pp cd_228 M_228 := ⟨fun pc op h => (sn_228 pc op h).1, plainFor_of_name pn_12⟩
theorem pp_229 : sh_Pp cd_229 M_229 := ⟨fun pc op h => (sn_229 pc op h).1, plainFor_of_name pn_12⟩
theorem pp_230 : sh_Pp cd_230 M_230 := ⟨fun pc op h => (sn_230 pc op h).1, plainFor_of_name pn_12⟩
theorem pp_231 : sh_Pp cd_231 M_231 := ⟨fun pc op h => (sn_231 pc op h).1, plainFor_of_name pn_12⟩
theorem pp_232 : sh_Pp cd_232 M_232 := ⟨fun pc op h => (sn_232 pc op h).1, plainFor_of_name pn_12⟩
theorem pp_233 : sh_Pp cd_233 M_233 := ⟨fun pc op h => (sn_233 pc op h).1, plainFor_of_name pn_12⟩
theorem pp_234 : sh_Pp cd_234 M_234 := ⟨fun pc op h => (sn_234 pc op h).1, plainFor_of_name pn_12⟩
theorem pp_235 : sh_Pp cd_235 M_235 := ⟨fun pc op h => (sn_235 pc op h).1, plainFor_of_name pn_12⟩
theorem pp_236 : sh_Pp cd_236 M_236 := ⟨fun pc op h => (sn_236 pc op h).1, plainFor_of_name pn_12⟩
theorem pp_237 : sh_Pp cd_237 M_237 := ⟨fun pc op h => (sn_237 pc op h).1, plainFor_of_name pn_12⟩
theorem pp_238 : sh_Pp cd_238 M_238 := ⟨fun pc op h => (sn_238 pc op h).1, plainFor_of_name pn_12⟩
theorem pp_239 : sh_Pp cd_239 M_239 := ⟨fun pc op h => (sn_239 pc op h).1, plainFor_of_name pn_12⟩
theorem pp_240 : sh_Pp cd_240 M_240 := ⟨fun pc op h => (sn_240 pc op h).1, plainFor_of_name pn_12⟩
theorem pp_241 : sh_Pp cd_241 M_241 := ⟨fun pc op h => (sn_241 pc op h).1, plainFor_of_name pn_12⟩
theorem pp_242 : sh_Pp cd_242 M_242 := ⟨fun pc op h => (sn_242 pc op h).1, plainFor_of_name pn_12⟩
theorem pp_243 : sh_Pp cd_243 M_243 := ⟨fun pc op h => (sn_243 pc op h).1, plainFor_of_name pn_12⟩
theorem pp_244 : sh_Pp cd_244 M_244 := ⟨fun pc op h => (sn_244 pc op h).1, plainFor_of_name pn_12⟩
theorem pp_245 : sh_Pp cd_245 M_245 := ⟨fun pc op h => (sn_245 pc op h).1, plainFor_of_name pn_12⟩
theorem pp_246 : sh_Pp cd_246 M_246 := ⟨fun pc op h => (sn_246 pc op h).1, plainFor_of_name pn_12⟩
theorem pp_247 : sh_Pp cd_247 M_247 := ⟨fun pc op h => (sn_247 pc op h).1, plainFor_of_name pn_12⟩
theorem pp_248 : sh_Pp cd_248 M_248 := ⟨fun pc op h => (sn_248 pc op h).1, plainFor_of_name pn_12⟩
theorem pp_249 : sh_Pp cd_249 M_249 := ⟨fun pc op h => (sn_249 pc op h).1, plainFor_of_name pn_12⟩
theorem pp_250 : sh_Pp cd_250 M_250 := ⟨fun pc op h => (sn_250 pc op h).1, plainFor_of_name pn_12⟩
theorem pp_251 : sh_Pp cd_251 M_251 := ⟨fun pc op h => (sn_251 pc op h).1, plainFor_of_name pn_12⟩
theorem pp_252 : sh_Pp cd_252 M_252 := ⟨fun pc op h => (sn_252 pc op h).1, plainFor_of_name pn_12⟩
theorem pp_253 : sh_Pp cd_253 M_253 := ⟨fun pc op h => (sn_253 pc op h).1, plainFor_of_name pn_12⟩
theorem pp_254 : sh_Pp cd_254 M_254 := ⟨fun pc op h => (sn_254 pc op h).1, plainFor_of_name pn_12⟩
theorem pp_255 : sh_Pp cd_255 M_255 := ⟨fun pc op h => (sn_255 pc op h).1, plainFor_of_name pn_12⟩
theorem pp_256 : sh_Pp cd_256 M_256 := ⟨fun pc op h => (sn_256 pc op h).1, plainFor_of_name pn_12⟩
theorem pp_257 : sh_Pp cd_257 M_257 := ⟨fun pc op h => (sn_257 pc op h).1, plainFor_of_name pn_12⟩
theorem pp_258 : sh_Pp cd_258 M_258 := ⟨fun pc op h => (sn_258 pc op h).1, plainFor_of_name pn_12⟩
theorem pp_259 : sh_Pp cd_259 M_259 := ⟨fun pc op h => (sn_259 pc op h).1, plainFor_of_name pn_12⟩
theorem pp_260 : sh_Pp cd_260 M_260 := ⟨fun pc op h => (sn_260 pc op h).1, plainFor_of_name pn_12⟩
theorem pp_261 : sh_Pp cd_261 M_261 := ⟨fun pc op h => (sn_261 pc op h).1, plainFor_of_name pn_12⟩
theorem pp_262 : sh_Pp cd_262 M_262 := ⟨fun pc op h => (sn_262 pc op h).1, plainFor_of_name pn_12⟩
theorem pp_263 : sh_Pp cd_263 M_263 := ⟨fun pc op h => (sn_263 pc op h).1, plainFor_of_name pn_12⟩
theorem pp_264 : sh_Pp cd_264 M_264 := ⟨fun pc op h => (sn_264 pc op h).1, plainFor_of_name pn_12⟩
theorem pp_265 : sh_Pp cd_265 M_265 := ⟨fun pc op h => (sn_265 pc op h).1, plainFor_of_name pn_12⟩
theorem pp_266 : sh_Pp cd_266 M_266 := ⟨fun pc op h => (sn_266 pc op h).1, plainFor_of_name pn_12⟩
theorem pp_267 : sh_Pp cd_267 M_267 := ⟨fun pc op h => (sn_267 pc op h).1, plainFor_of_name pn_12⟩
theorem pp_268 : sh_Pp cd_268 M_268 := ⟨fun pc op h => (sn_268 pc op h).1, plainFor_of_name pn_12⟩
theorem pp_269 : sh_Pp cd_269 M_269 := ⟨fun pc op h => (sn_269 pc op h).1, plainFor_of_name pn_12⟩
theorem pp_270 : sh_Pp cd_270 M_270 := ⟨fun pc op h => (sn_270 pc op h).1, plainFor_of_name pn_12⟩
theorem pp_271 : sh_Pp cd_271 M_271 := ⟨fun pc op h => (sn_271 pc op h).1, plainFor_of_name pn_12⟩
theorem pp_272 : sh_Pp cd_272 M_272 := ⟨fun pc op h => (sn_272 pc op h).1, plainFor_of_name pn_12⟩
theorem pp_273 : sh_Pp cd_273 M_273 := ⟨fun pc op h => (sn_273 pc op h).1, plainFor_of_name pn_12⟩
theorem pp_274 : sh_Pp cd_274 M_274 := ⟨fun pc op h => (sn_274 pc op h).1, plainFor_of_name pn_12⟩
theorem pp_275 : sh_Pp cd_275 M_275 := ⟨fun pc op h => (sn_275 pc op h).1, plainFor_of_name pn_12⟩
theorem pp_276 : sh_Pp cd_276 M_276 := ⟨fun pc op h => (sn_276 pc op h).1, plainFor_of_name pn_12⟩
theorem pp_277 : sh_Pp cd_277 M_277 := ⟨fun pc op h => (sn_277 pc op h).1, plainFor_of_name pn_12⟩
theorem pp_278 : sh_Pp cd_278 M_278 := ⟨fun pc op h => (sn_278 pc op h).1, plainFor_of_name pn_12⟩
theorem pp_279 : sh_Pp cd_279 M_279 := ⟨fun pc op h => (sn_279 pc op h).1, plainFor_of_name pn_12⟩
theorem pp_280 : sh_Pp cd_280 M_280 := ⟨fun pc op h => (sn_280 pc op h).1, plainFor_of_name pn_12⟩
theorem pp_281 : sh_Pp cd_281 M_281 := ⟨fun pc op h => (sn_281 pc op h).1, plainFor_of_name pn_12⟩
theorem pp_282 : sh_Pp cd_282 M_282 := ⟨fun pc op h => (sn_282 pc op h).1, plainFor_of_name pn_12⟩
theorem pp_283 : sh_Pp cd_283 M_283 := ⟨fun pc op h => (sn_283 pc op h).1, plainFor_of_name pn_12⟩
theorem pp_284 : sh_Pp cd_284 M_284 := ⟨fun pc op h => (sn_284 pc op h).1, plainFor_of_name pn_12⟩
theorem pp_285 : sh_Pp cd_285 M_285 := ⟨fun pc op h => (sn_285 pc op h).1, plainFor_of_name pn_12⟩
theorem pp_286 : sh_Pp cd_286 M_286 := ⟨fun pc op h => (sn_286 pc op h).1, plainFor_of_name pn_12⟩
theorem pp_287 : sh_Pp cd_287 M_287 := ⟨fun pc op h => (sn_287 pc op h).1, plainFor_of_name pn_12⟩
theorem pp_288 : sh_Pp cd_288 M_288 := ⟨fun pc op h => (sn_288 pc op h).1, plainFor_of_name pn_12⟩
theorem pp_289 : sh_Pp cd_289 M_289 := ⟨fun pc op h => (sn_289 pc op h).1, plainFor_of_name pn_12⟩
theorem pp_290 : sh_Pp cd_290 M_290 := ⟨fun pc op h => (sn_290 pc op h).1, plainFor_of_name pn_12⟩
theorem pp_291 : sh_Pp cd_291 M_291 := ⟨fun pc op h => (sn_291 pc op h).1, plainFor_of_name pn_12⟩
theorem pp_292 : sh_Pp cd_292 M_292 := ⟨fun pc op h => (sn_292 pc op h).1, plainFor_of_name pn_12⟩
theorem pp_293 : sh_Pp cd_293 M_293 := ⟨fun pc op h => (sn_293 pc op h).1, plainFor_of_name pn_12⟩
theorem pp_294 : sh_Pp cd_294 M_294 := ⟨fun pc op h => (sn_294 pc op h).1, plainFor_of_name pn_12⟩
theorem pp_295 : sh_Pp cd_295 M_295 := ⟨fun pc op h => (sn_295 pc op h).1, plainFor_of_name pn_12⟩
theorem pp_296 : sh_Pp cd_296 M_296 := ⟨fun pc op h => (sn_296 pc op h).1, plainFor_of_name pn_12⟩
theorem pp_297 : sh_Pp cd_297 M_297 := ⟨fun pc op h => (sn_297 pc op h).1, plainFor_of_name pn_12⟩
theorem pp_298 : sh_Pp cd_298 M_298 := ⟨fun pc op h => (sn_298 pc op h).1, plainFor_of_name pn_12⟩
theorem pp_299 : sh_Pp cd_299 M_299 := ⟨fun pc op h => (sn_299 pc op h).1, plainFor_of_name pn_12⟩
theorem pp_300 : sh_Pp cd_300 M_300 := ⟨fun pc op h => (sn_300 pc op h).1, plainFor_of_name pn_12⟩
theorem pp_301 : sh_Pp cd_301 M_301 := ⟨fun pc op h => (sn_301 pc op h).1, plainFor_of_name pn_12⟩
theorem pp_302 : sh_Pp cd_302 M_302 := ⟨fun pc op h => (sn_302 pc op h).1, plainFor_of_name pn_12⟩
theorem pp_303 : sh_Pp cd_303 M_303 := ⟨fun pc op h => (sn_303 pc op h).1, plainFor_of_name pn_12⟩
theorem pp_304 : sh_Pp cd_304 M_304 := ⟨fun pc op h => (sn_304 pc op h).1, plainFor_of_name pn_12⟩
theorem pp_305 : sh_Pp cd_305 M_305 := ⟨fun pc op h => (sn_305 pc op h).1, plainFor_of_name pn_12⟩
theorem pp_306 : sh_Pp cd_306 M_306 := ⟨fun pc op h => (sn_306 pc op h).1, plainFor_of_name pn_12⟩
theorem pp_307 : sh_Pp cd_307 M_307 := ⟨fun pc op h => (sn_307 pc op h).1, plainFor_of_name pn_12⟩
theorem pp_308 : sh_Pp cd_308 M_308 := ⟨fun pc op h => (sn_308 pc op h).1, plainFor_of_name pn_12⟩
theorem pp_309 : sh_Pp cd_309 M_309 := ⟨fun pc op h => (sn_309 pc op h).1, plainFor_of_name pn_12⟩
theorem pp_310 : sh_Pp cd_310 M_310 := ⟨fun pc op h => (sn_310 pc op h).1, plainFor_of_name pn_12⟩
theorem pp_311 : sh_Pp cd_311 M_311 := ⟨fun pc op h => (sn_311 pc op h).1, plainFor_of_name pn_12⟩
theorem pp_312 : sh_Pp cd_312 M_312 := ⟨fun pc op h => (sn_312 pc op h).1, plainFor_of_name pn_12⟩
theorem pp_313 : sh_Pp cd_313 M_313 := ⟨fun pc op h => (sn_313 pc op h).1, plainFor_of_name pn_12⟩
theorem pp_314 : sh_Pp cd_314 M_314 := ⟨fun pc op h => (sn_314 pc op h).1, plainFor_of_name pn_12⟩
theorem pp_315 : sh_Pp cd_315 M_315 := ⟨fun pc op h => (sn_315 pc op h).1, plainFor_of_name pn_12⟩
theorem pp_316 : sh_Pp cd_316 M_316 := ⟨fun pc op h => (sn_316 pc op h).1, plainFor_of_name pn_12⟩
theorem pp_317 : sh_Pp cd_317 M_317 := ⟨fun pc op h => (sn_317 pc op h).1, plainFor_of_name pn_12⟩
theorem pp_318 : sh_Pp cd_318 M_318 := ⟨fun pc op h => (sn_318 pc op h).1, plainFor_of_name pn_12⟩
theorem pp_319 : sh_Pp cd_319 M_319 := ⟨fun pc op h => (sn_319 pc op h).1, plainFor_of_name pn_12⟩
theorem pp_320 : sh_Pp cd_320 M_320 := ⟨fun pc op h => (sn_320 pc op h).1, plainFor_of_name pn_12⟩
theorem pp_321 : sh_Pp cd_321 M_321 := ⟨fun pc op h => (sn_321 pc op h).1, plainFor_of_name pn_12⟩
theorem pp_322 : sh_Pp cd_322 M_322 := ⟨fun pc op h => (sn_322 pc op h).1, plainFor_of_name pn_12⟩
theorem pp_323 : sh_Pp cd_323 M_323 := ⟨fun pc op h => (sn_323 pc op h).1, plainFor_of_name pn_12⟩
theorem pp_324 : sh_Pp cd_324 M_324 := ⟨fun pc op h => (sn_324 pc op h).1, plainFor_of_name pn_12⟩
theorem pp_325 : sh_Pp cd_325 M_325 := ⟨fun pc op h => (sn_325 pc op h).1, plainFor_of_name pn_12⟩
theorem pp_326 : sh_Pp cd_326 M_326 := ⟨fun pc op h => (sn_326 pc op h).1, plainFor_of_name pn_12⟩
theorem pp_327 : sh_Pp cd_327 M_327 := ⟨fun pc op h => (sn_327 pc op h).1, plainFor_of_name pn_12⟩
theorem pp_328 : sh_Pp cd_328 M_328 := ⟨fun pc op h => (sn_328 pc op h).1, plainFor_of_name pn_12⟩
theorem pp_329 : sh_Pp cd_329 M_329 := ⟨fun pc op h => (sn_329 pc op h).1, plainFor_of_name pn_12⟩
theorem pp_330 : sh_Pp cd_330 M_330 := ⟨fun pc op h => (sn_330 pc op h).1, plainFor_of_name pn_12⟩
theorem pp_331 : sh_Pp cd_331 M_331 := ⟨fun pc op h => (sn_331 pc op h).1, plainFor_of_name pn_12⟩
theorem pp_332 : sh_Pp cd_332 M_332 := ⟨fun pc op h => (sn_332 pc op h).1, plainFor_of_name pn_12⟩
theorem pp_333 : sh_Pp cd_333 M_333 := ⟨fun pc op h => (sn_333 pc op h).1, plainFor_of_name pn_12⟩
theorem pp_334 : sh_Pp cd_334 M_334 := ⟨fun pc op h => (sn_334 pc op h).1, plainFor_of_name pn_12⟩
theorem pp_335 : sh_Pp cd_335 M_335 := ⟨fun pc op h => (sn_335 pc op h).1, plainFor_of_name pn_12⟩
theorem pp_336 : sh_Pp cd_336 M_336 := ⟨fun pc op h => (sn_336 pc op h).1, plainFor_of_name pn_12⟩
theorem pp_337 : sh_Pp cd_337 M_337 := ⟨fun pc op h => (sn_337 pc op h).1, plainFor_of_name pn_12⟩
theorem pp_338 : sh_Pp cd_338 M_338 := ⟨fun pc op h => (sn_338 pc op h).1, plainFor_of_name pn_12⟩
theorem pp_339 : sh_Pp cd_339 M_339 := ⟨fun pc op h => (sn_339 pc op h).1, plainFor_of_name pn_12⟩
theorem pp_340 : sh_Pp cd_340 M_340 := ⟨fun pc op h => (sn_340 pc op h).1, plainFor_of_name pn_12⟩
theorem pp_341 : sh_Pp cd_341 M_341 := ⟨fun pc op h => (sn_341 pc op h).1, plainFor_of_name pn_12⟩
theorem pp_342 : sh_Pp cd_342 M_342 := ⟨fun pc op h => (sn_342 pc op h).1, plainFor_of_name pn_12⟩
theorem pp_343 : sh_Pp cd_343 M_343 := ⟨fun pc op h => (sn_343 pc op h).1, plainFor_of_name pn_13⟩
theorem pp_344 : sh_Pp cd_344 M_344 := ⟨fun pc op h => (sn_344 pc op h).1, by decide +kernel⟩
theorem pp_345 : sh_Pp cd_345 M_345 := ⟨fun pc op h => (sn_345 pc op h).1, by decide +kernel⟩
theorem pp_346 : sh_Pp cd_346 M_346 := ⟨fun pc op h => (sn_346 pc op h).1, by decide +kernel⟩
theorem pp_347 : sh_Pp cd_347 M_347 := ⟨fun pc op h => (sn_347 pc op h).1, plainFor_of_name pn_15⟩
theorem pp_348 : sh_Pp cd_348 M_348 := ⟨fun pc op h => (sn_348 pc op h).1, plainFor_of_name pn_15⟩
theorem pp_349 : sh_Pp cd_349 M_349 := ⟨fun pc op h => (sn_349 pc op h).1, plainFor_of_name pn_15⟩
theorem pp_350 : sh_Pp cd_350 M_350 := ⟨fun pc op h => (sn_350 pc op h).1, plainFor_of_name pn_15⟩
theorem pp_351 : sh_Pp cd_351 M_351 := ⟨fun pc op h => (sn_351 pc op h).1, plainFor_of_name pn_15⟩
theorem pp_352 : sh_Pp cd_352 M_352 := ⟨fun pc op h => (sn_352 pc op h).1, plainFor_of_name pn_15⟩
theorem pp_353 : sh_Pp cd_353 M_353 := ⟨fun pc op h => (sn_353 pc op h).1, plainFor_of_name pn_15⟩
theorem pp_354 : sh_Pp cd_354 M_354 := ⟨fun pc op h => (sn_354 pc op h).1, plainFor_of_name pn_16⟩
theorem pp_355 : sh_Pp cd_355 M_355 := ⟨fun pc op h => (sn_355 pc op h).1, plainFor_of_name pn_16⟩
theorem pp_356 : sh_Pp cd_356 M_356 := ⟨fun pc op h => (sn_356 pc op h).1, plainFor_of_name pn_16⟩
theorem pp_357 : sh_Pp cd_357 M_357 := ⟨fun pc op h => (sn_357 pc op h).1, plainFor_of_name pn_16⟩
theorem pp_358 : sh_Pp cd_358 M_358 := ⟨fun pc op h => (sn_358 pc op h).1, plainFor_of_name pn_17⟩
theorem sh_PP (m : Nat) : sh_Pp (sh_TC m) (ai_TM m) := (sh_tr2 (P := sh_Pp) (sh_tr2 (P := sh_Pp) (sh_tr2 (P := sh_Pp) (sh_tr2 (P := sh_Pp) (sh_tr2 (P := sh_Pp) (sh_tr2 (P := sh_Pp) (sh_tr2 (P := sh_Pp) (sh_tr2 (P := sh_Pp) pp_0 pp_1) (sh_tr2 (P := sh_Pp) pp_2 (sh_tr2 (P := sh_Pp) pp_3 pp_4))) (sh_tr2 (P := sh_Pp) (sh_tr2 (P := sh_Pp) pp_5 (sh_tr2 (P := sh_Pp) pp_6 pp_7)) (sh_tr2 (P := sh_Pp) pp_8 (sh_tr2 (P := sh_Pp) pp_9 pp_10)))) (sh_tr2 (P := sh_Pp) (sh_tr2 (P := sh_Pp) (sh_tr2 (P := sh_Pp) pp_11 pp_12) (sh_tr2 (P := sh_Pp) pp_13 (sh_tr2 (P := sh_Pp) pp_14 pp_15))) (sh_tr2 (P := sh_Pp) (sh_tr2 (P := sh_Pp) pp_16 (sh_tr2 (P := sh_Pp) pp_17 pp_18)) (sh_tr2 (P := sh_Pp) pp_19 (sh_tr2 (P := sh_Pp) pp_20 pp_21))))) (sh_tr2 (P := sh_Pp) (sh_tr2 (P := sh_Pp) (sh_tr2 (P := sh_Pp) (sh_tr2 (P := sh_Pp) pp_22 pp_23) (sh_tr2 (P := sh_Pp) pp_24 (sh_tr2 (P := sh_Pp) pp_25 pp_26))) (sh_tr2 (P := sh_Pp) (sh_tr2 (P := sh_Pp) pp_27 (sh_tr2 (P := sh_Pp) pp_28 pp_29)) (sh_tr2 (P := sh_Pp) pp_30 (sh_tr2 (P := sh_Pp) pp_31 pp_32)))) (sh_tr2 (P := sh_Pp) (sh_tr2 (P := sh_Pp) (sh_tr2 (P := sh_Pp) pp_33 pp_34) (sh_tr2 (P := sh_Pp) pp_35 (sh_tr2 (P := sh_Pp) pp_36 pp_37))) (sh_tr2 (P := sh_Pp) (sh_tr2 (P := sh_Pp) pp_38 (sh_tr2 (P := sh_Pp) pp_39 pp_40)) (sh_tr2 (P := sh_Pp) pp_41 (sh_tr2 (P := sh_Pp) pp_42 pp_43)))))) (sh_tr2 (P := sh_Pp) (sh_tr2 (P := sh_Pp) (sh_tr2 (P := sh_Pp) (sh_tr2 (P := sh_Pp) (sh_tr2 (P := sh_Pp) pp_44 pp_45) (sh_tr2 (P := sh_Pp) pp_46 (sh_tr2 (P := sh_Pp) pp_47 pp_48))) (sh_tr2 (P := sh_Pp) (sh_tr2 (P := sh_Pp) pp_49 (sh_tr2 (P := sh_Pp) pp_50 pp_51)) (sh_tr2 (P := sh_Pp) pp_52 (sh_tr2 (P := sh_Pp) pp_53 pp_54)))) (sh_tr2 (P := sh_Pp) (sh_tr2 (P := sh_Pp) (sh_tr2 (P := sh_Pp) pp_55 pp_56) (sh_tr2 (P := sh_Pp) pp_57 (sh_tr2 (P := sh_Pp) pp_58 pp_59))) (sh_tr2 (P := sh_Pp) (sh_tr2 (P := sh_Pp) pp_60 (sh_tr2 (P := sh_Pp) pp_61 pp_62)) (sh_tr2 (P := sh_Pp) pp_63 (sh_tr2 (P := sh_Pp) pp_64 pp_65))))) (sh_tr2 (P := sh_Pp) (sh_tr2 (P := sh_Pp) (sh_tr2 (P := sh_Pp) (sh_tr2 (P := sh_Pp) pp_66 pp_67) (sh_tr2 (P := sh_Pp) pp_68 (sh_tr2 (P := sh_Pp) pp_69 pp_70))) (sh_tr2 (P := sh_Pp) (sh_tr2 (P := sh_Pp) pp_71 (sh_tr2 (P := sh_Pp) pp_72 pp_73)) (sh_tr2 (P := sh_Pp) pp_74 (sh_tr2 (P := sh_Pp) pp_75 pp_76)))) (sh_tr2 (P := sh_Pp) (sh_tr2 (P := sh_Pp) (sh_tr2 (P := sh_Pp) pp_77 (sh_tr2 (P := sh_Pp) pp_78 pp_79)) (sh_tr2 (P := sh_Pp) pp_80 (sh_tr2 (P := sh_Pp) pp_81 pp_82))) (sh_tr2 (P := sh_Pp) (sh_tr2 (P := sh_Pp) pp_83 (sh_tr2 (P := sh_Pp) pp_84 pp_85)) (sh_tr2 (P := sh_Pp) pp_86 (sh_tr2 (P := sh_Pp) pp_87 pp_88))))))) (sh_tr2 (P := sh_Pp) (sh_tr2 (P := sh_Pp) (sh_tr2 (P := sh_Pp) (sh_tr2 (P := sh_Pp) (sh_tr2 (P := sh_Pp) (sh_tr2 (P := sh_Pp) pp_89 pp_90) (sh_tr2 (P := sh_Pp) pp_91 (sh_tr2 (P := sh_Pp) pp_92 pp_93))) (sh_tr2 (P := sh_Pp) (sh_tr2 (P := sh_Pp) pp_94 (sh_tr2 (P := sh_Pp) pp_95 pp_96)) (sh_tr2 (P := sh_Pp) pp_97 (sh_tr2 (P := sh_Pp) pp_98 pp_99)))) (sh_tr2 (P := sh_Pp) (sh_tr2 (P := sh_Pp) (sh_tr2 (P := sh_Pp) pp_100 pp_101) (sh_tr2 (P := sh_Pp) pp_102 (sh_tr2 (P := sh_Pp) pp_103 pp_104))) (sh_tr2 (P := sh_Pp) (sh_tr2 (P := sh_Pp) pp_105 (sh_tr2 (P := sh_Pp) pp_106 pp_107)) (sh_tr2 (P := sh_Pp) pp_108 (sh_tr2 (P := sh_Pp) pp_109 pp_110))))) (sh_tr2 (P := sh_Pp) (sh_tr2 (P := sh_Pp) (sh_tr2 (P := sh_Pp) (sh_tr2 (P := sh_Pp) pp_111 pp_112) (sh_tr2 (P := sh_Pp) pp_113 (sh_tr2 (P := sh_Pp) pp_114 pp_115))) (sh_tr2 (P := sh_Pp) (sh_tr2 (P := sh_Pp) pp_116 (sh_tr2 (P := sh_Pp) pp_117 pp_118)) (sh_tr2 (P := sh_Pp) pp_119 (sh_tr2 (P := sh_Pp) pp_120 pp_121)))) (sh_tr2 (P := sh_Pp) (sh_tr2 (P := sh_Pp) (sh_tr2 (P := sh_Pp) pp_122 (sh_tr2 (P := sh_Pp) pp_123 pp_124)) (sh_tr2 (P := sh_Pp) pp_125 (sh_tr2 (P := sh_Pp) pp_126 pp_127))) (sh_tr2 (P := sh_Pp) (sh_tr2 (P := sh_Pp) pp_128 (sh_tr2 (P := sh_Pp) pp_129 pp_130)) (sh_tr2 (P := sh_Pp) pp_131 (sh_tr2 (P := sh_Pp) pp_132 pp_133)))))) (sh_tr2 (P := sh_Pp) (sh_tr2 (P := sh_Pp) (sh_tr2 (P := sh_Pp) (sh_tr2 (P := sh_Pp) (sh_tr2 (P := sh_Pp) pp_134 pp_135) (sh_tr2 (P := sh_Pp) pp_136 (sh_tr2 (P := sh_Pp) pp_137 pp_138))) (sh_tr2 (P := sh_Pp) (sh_tr2 (P := sh_Pp) pp_139 (sh_tr2 (P := sh_Pp) pp_140 pp_141)) (sh_tr2 (P := sh_Pp) pp_142 (sh_tr2 (P := sh_Pp) pp_143 pp_144)))) (sh_tr2 (P := sh_Pp) (sh_tr2 (P := sh_Pp) (sh_tr2 (P := sh_Pp) pp_145 pp_146) (sh_tr2 (P := sh_Pp) pp_147 (sh_tr2 (P := sh_Pp) pp_148 pp_149))) (sh_tr2 (P := sh_Pp) (sh_tr2 (P := sh_Pp) pp_150 (sh_tr2 (P := sh_Pp) pp_151 pp_152)) (sh_tr2 (P := sh_Pp) pp_153 (sh_tr2 (P := sh_Pp) pp_154 pp_155))))) (sh_tr2 (P := sh_Pp) (sh_tr2 (P := sh_Pp) (sh_tr2 (P := sh_Pp) (sh_tr2 (P := sh_Pp) pp_156 pp_157) (sh_tr2 (P := sh_Pp) pp_158 (sh_tr2 (P := sh_Pp) pp_159 pp_160))) (sh_tr2 (P := sh_Pp) (sh_tr2 (P := sh_Pp) pp_161 (sh_tr2 (P := sh_Pp) pp_162 pp_163)) (sh_tr2 (P := sh_Pp) pp_164 (sh_tr2 (P := sh_Pp) pp_165 pp_166)))) (sh_tr2 (P := sh_Pp) (sh_tr2 (P := sh_Pp) (sh_tr2 (P := sh_Pp) pp_167 (sh_tr2 (P := sh_Pp) pp_168 pp_169)) (sh_tr2 (P := sh_Pp) pp_170 (sh_tr2 (P := sh_Pp) pp_171 pp_172))) (sh_tr2 (P := sh_Pp) (sh_tr2 (P := sh_Pp) pp_173 (sh_tr2 (P := sh_Pp) pp_174 pp_175)) (sh_tr2 (P := sh_Pp) pp_176 (sh_tr2 (P := sh_Pp) pp_177 pp_178)))))))) (sh_tr2 (P := sh_Pp) (sh_tr2 (P := sh_Pp) (sh_tr2 (P := sh_Pp) (sh_tr2 (P := sh_Pp) (sh_tr2 (P := sh_Pp) (sh_tr2 (P := sh_Pp) (sh_tr2 (P := sh_Pp) pp_179 pp_180) (sh_tr2 (P := sh_Pp) pp_181 (sh_tr2 (P := sh_Pp) pp_182 pp_183))) (sh_tr2 (P := sh_Pp) (sh_tr2 (P := sh_Pp) pp_184 (sh_tr2 (P := sh_Pp) pp_185 pp_186)) (sh_tr2 (P := sh_Pp) pp_187 (sh_tr2 (P := sh_Pp) pp_188 pp_189)))) (sh_tr2 (P := sh_Pp) (sh_tr2 (P := sh_Pp) (sh_tr2 (P := sh_Pp) pp_190 pp_191) (sh_tr2 (P := sh_Pp) pp_192 (sh_tr2 (P := sh_Pp) pp_193 pp_194))) (sh_tr2 (P := sh_Pp) (sh_tr2 (P := sh_Pp) pp_195 (sh_tr2 (P := sh_Pp) pp_196 pp_197)) (sh_tr2 (P := sh_Pp) pp_198 (sh_tr2 (P := sh_Pp) pp_199 pp_200))))) (sh_tr2 (P := sh_Pp) (sh_tr2 (P := sh_Pp) (sh_tr2 (P := sh_Pp) (sh_tr2 (P := sh_Pp) pp_201 pp_202) (sh_tr2 (P := sh_Pp) pp_203 (sh_tr2 (P := sh_Pp) pp_204 pp_205))) (sh_tr2 (P := sh_Pp) (sh_tr2 (P := sh_Pp) pp_206 (sh_tr2 (P := sh_Pp) pp_207 pp_208)) (sh_tr2 (P := sh_Pp) pp_209 (sh_tr2 (P := sh_Pp) pp_210 pp_211)))) (sh_tr2 (P := sh_Pp) (sh_tr2 (P := sh_Pp) (sh_tr2 (P := sh_Pp) pp_212 (sh_tr2 (P := sh_Pp) pp_213 pp_214)) (sh_tr2 (P := sh_Pp) pp_215 (sh_tr2 (P := sh_Pp) pp_216 pp_217))) (sh_tr2 (P := sh_Pp) (sh_tr2 (P := sh_Pp) pp_218 (sh_tr2 (P := sh_Pp) pp_219 pp_220)) (sh_tr2 (P := sh_Pp) pp_221 (sh_tr2 (P := sh_Pp) pp_222 pp_223)))))) (sh_tr2 (P := sh_Pp) (sh_tr2 (P := sh_Pp) (sh_tr2 (P := sh_Pp) (sh_tr2 (P := sh_Pp) (sh_tr2 (P := sh_Pp) pp_224 pp_225) (sh_tr2 (P := sh_Pp) pp_226 (sh_tr2 (P := sh_Pp) pp_227 pp_228))) (sh_tr2 (P := sh_Pp) (sh_tr2 (P := sh_Pp) pp_229 (sh_tr2 (P := sh_Pp) pp_230 pp_231)) (sh_tr2 (P := sh_Pp) pp_232 (sh_tr2 (P := sh_Pp) pp_233 pp_234)))) (sh_tr2 (P := sh_Pp) (sh_tr2 (P := sh_Pp) (sh_tr2 (P := sh_Pp) pp_235 pp_236) (sh_tr2 (P := sh_Pp) pp_237 (sh_tr2 (P := sh_Pp) pp_238 pp_239))) (sh_tr2 (P := sh_Pp) (sh_tr2 (P := sh_Pp) pp_240 (sh_tr2 (P := sh_Pp) pp_241 pp_242)) (sh_tr2 (P := sh_Pp) pp_243 (sh_tr2 (P := sh_Pp) pp_244 pp_245))))) (sh_tr2 (P := sh_Pp) (sh_tr2 (P := sh_Pp) (sh_tr2 (P := sh_Pp) (sh_tr2 (P := sh_Pp) pp_246 pp_247) (sh_tr2 (P := sh_Pp) pp_248 (sh_tr2 (P := sh_Pp) pp_249 pp_250))) (sh_tr2 (P := sh_Pp) (sh_tr2 (P := sh_Pp) pp_251 (sh_tr2 (P := sh_Pp) pp_252 pp_253)) (sh_tr2 (P := sh_Pp) pp_254 (sh_tr2 (P := sh_Pp) pp_255 pp_256)))) (sh_tr2 (P := sh_Pp) (sh_tr2 (P := sh_Pp) (sh_tr2 (P := sh_Pp) pp_257 (sh_tr2 (P := sh_Pp) pp_258 pp_259)) (sh_tr2 (P := sh_Pp) pp_260 (sh_tr2 (P := sh_Pp) pp_261 pp_262))) (sh_tr2 (P := sh_Pp) (sh_tr2 (P := sh_Pp) pp_263 (sh_tr2 (P := sh_Pp) pp_264 pp_265)) (sh_tr2 (P := sh_Pp) pp_266 (sh_tr2 (P := sh_Pp) pp_267 pp_268))))))) (sh_tr2 (P := sh_Pp) (sh_tr2 (P := sh_Pp) (sh_tr2 (P := sh_Pp) (sh_tr2 (P := sh_Pp) (sh_tr2 (P := sh_Pp) (sh_tr2 (P := sh_Pp) pp_269 pp_270) (sh_tr2 (P := sh_Pp) pp_271 (sh_tr2 (P := sh_Pp) pp_272 pp_273))) (sh_tr2 (P := sh_Pp) (sh_tr2 (P := sh_Pp) pp_274 (sh_tr2 (P := sh_Pp) pp_275 pp_276)) (sh_tr2 (P := sh_Pp) pp_277 (sh_tr2 (P := sh_Pp) pp_278 pp_279)))) (sh_tr2 (P := sh_Pp) (sh_tr2 (P := sh_Pp) (sh_tr2 (P := sh_Pp) pp_280 pp_281) (sh_tr2 (P := sh_Pp) pp_282 (sh_tr2 (P := sh_Pp) pp_283 pp_284))) (sh_tr2 (P := sh_Pp) (sh_tr2 (P := sh_Pp) pp_285 (sh_tr2 (P := sh_Pp) pp_286 pp_287)) (sh_tr2 (P := sh_Pp) pp_288 (sh_tr2 (P := sh_Pp) pp_289 pp_290))))) (sh_tr2 (P := sh_Pp) (sh_tr2 (P := sh_Pp) (sh_tr2 (P := sh_Pp) (sh_tr2 (P := sh_Pp) pp_291 pp_292) (sh_tr2 (P := sh_Pp) pp_293 (sh_tr2 (P := sh_Pp) pp_294 pp_295))) (sh_tr2 (P := sh_Pp) (sh_tr2 (P := sh_Pp) pp_296 (sh_tr2 (P := sh_Pp) pp_297 pp_298)) (sh_tr2 (P := sh_Pp) pp_299 (sh_tr2 (P := sh_Pp) pp_300 pp_301)))) (sh_tr2 (P := sh_Pp) (sh_tr2 (P := sh_Pp) (sh_tr2 (P := sh_Pp) pp_302 (sh_tr2 (P := sh_Pp) pp_303 pp_304)) (sh_tr2 (P := sh_Pp) pp_305 (sh_tr2 (P := sh_Pp) pp_306 pp_307))) (sh_tr2 (P := sh_Pp) (sh_tr2 (P := sh_Pp) pp_308 (sh_tr2 (P := sh_Pp) pp_309 pp_310)) (sh_tr2 (P := sh_Pp) pp_311 (sh_tr2 (P := sh_Pp) pp_312 pp_313)))))) (sh_tr2 (P := sh_Pp) (sh_tr2 (P := sh_Pp) (sh_tr2 (P := sh_Pp) (sh_tr2 (P := sh_Pp) (sh_tr2 (P := sh_Pp) pp_314 pp_315) (sh_tr2 (P := sh_Pp) pp_316 (sh_tr2 (P := sh_Pp) pp_317 pp_318))) (sh_tr2 (P := sh_Pp) (sh_tr2 (P := sh_Pp) pp_319 (sh_tr2 (P := sh_Pp) pp_320 pp_321)) (sh_tr2 (P := sh_Pp) pp_322 (sh_tr2 (P := sh_Pp) pp_323 pp_324)))) (sh_tr2 (P := sh_Pp) (sh_tr2 (P := sh_Pp) (sh_tr2 (P := sh_Pp) pp_325 pp_326) (sh_tr2 (P := sh_Pp) pp_327 (sh_tr2 (P := sh_Pp) pp_328 pp_329))) (sh_tr2 (P := sh_Pp) (sh_tr2 (P := sh_Pp) pp_330 (sh_tr2 (P := sh_Pp) pp_331 pp_332)) (sh_tr2 (P := sh_Pp) pp_333 (sh_tr2 (P := sh_Pp) pp_334 pp_335))))) (sh_tr2 (P := sh_Pp) (sh_tr2 (P := sh_Pp) (sh_tr2 (P := sh_Pp) (sh_tr2 (P := sh_Pp) pp_336 pp_337) (sh_tr2 (P := sh_Pp) pp_338 (sh_tr2 (P := sh_Pp) pp_339 pp_340))) (sh_tr2 (P := sh_Pp) (sh_tr2 (P := sh_Pp) pp_341 (sh_tr2 (P := sh_Pp) pp_342 pp_343)) (sh_tr2 (P := sh_Pp) pp_344 (sh_tr2 (P := sh_Pp) pp_345 pp_346)))) (sh_tr2 (P := sh_Pp) (sh_tr2 (P := sh_Pp) (sh_tr2 (P := sh_Pp) pp_347 (sh_tr2 (P := sh_Pp) pp_348 pp_349)) (sh_tr2 (P := sh_Pp) pp_350 (sh_tr2 (P := sh_Pp) pp_351 pp_352))) (sh_tr2 (P := sh_Pp) (sh_tr2 (P := sh_Pp) pp_353 (sh_tr2 (P := sh_Pp) pp_354 pp_355)) (sh_tr2 (P := sh_Pp) pp_356 (sh_tr2 (P := sh_Pp) pp_357 pp_358)))))))))
theorem sh_SN (mm pc : Nat) (op : ai_Op) (h : (sh_TT mm).1 pc = some op) : ai_Sn (fun m => (sh_TT m).2) (sh_TT mm).2 pc op := (sh_PP mm).1 pc op h
theorem sh_PL (m : Nat) : plainFor (sh_TT m).2.1 = true := (sh_PP m).2
