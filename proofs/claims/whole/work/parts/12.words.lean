theorem mgT {w : Cond} (h : w ∈ tables_1) (hg : goodWord w = true) : w ∈ gt := List.mem_filter.mpr ⟨List.mem_append_right _ h, hg⟩
theorem mgp {w : Cond} (i : Nat) (h : (k2_sels lw_privs)[i]? = some w) (hg : goodWord w = true) : w ∈ gt := List.mem_filter.mpr ⟨List.mem_append_left _ (List.mem_of_getElem? h), hg⟩
theorem mg1 {w : Cond} (i : Nat) (h : tables_1_1[i]? = some w) (hg : goodWord w = true) : w ∈ gt := mgT (List.mem_append_left _ (List.mem_of_getElem? h)) hg
theorem mg2 {w : Cond} (i : Nat) (h : tables_1_2[i]? = some w) (hg : goodWord w = true) : w ∈ gt := mgT (List.mem_append_right _ (List.mem_append_left _ (List.mem_of_getElem? h))) hg
theorem mg3 {w : Cond} (i : Nat) (h : tables_1_3[i]? = some w) (hg : goodWord w = true) : w ∈ gt := mgT (List.mem_append_right _ (List.mem_append_right _ (List.mem_append_left _ (List.mem_of_getElem? h)))) hg
theorem mg4 {w : Cond} (i : Nat) (h : tables_1_4[i]? = some w) (hg : goodWord w = true) : w ∈ gt := mgT (List.mem_append_right _ (List.mem_append_right _ (List.mem_append_right _ (List.mem_append_left _ (List.mem_of_getElem? h))))) hg
theorem mg5 {w : Cond} (i : Nat) (h : tables_1_5[i]? = some w) (hg : goodWord w = true) : w ∈ gt := mgT (List.mem_append_right _ (List.mem_append_right _ (List.mem_append_right _ (List.mem_append_right _ (List.mem_append_left _ (List.mem_of_getElem? h)))))) hg
theorem mg6 {w : Cond} (i : Nat) (h : tables_1_6[i]? = some w) (hg : goodWord w = true) : w ∈ gt := mgT (List.mem_append_right _ (List.mem_append_right _ (List.mem_append_right _ (List.mem_append_right _ (List.mem_append_right _ (List.mem_append_left _ (List.mem_of_getElem? h))))))) hg
theorem mg7 {w : Cond} (i : Nat) (h : tables_1_7[i]? = some w) (hg : goodWord w = true) : w ∈ gt := mgT (List.mem_append_right _ (List.mem_append_right _ (List.mem_append_right _ (List.mem_append_right _ (List.mem_append_right _ (List.mem_append_right _ (List.mem_append_left _ (List.mem_of_getElem? h)))))))) hg
theorem mg8 {w : Cond} (i : Nat) (h : tables_1_8[i]? = some w) (hg : goodWord w = true) : w ∈ gt := mgT (List.mem_append_right _ (List.mem_append_right _ (List.mem_append_right _ (List.mem_append_right _ (List.mem_append_right _ (List.mem_append_right _ (List.mem_append_right _ (List.mem_append_left _ (List.mem_of_getElem? h))))))))) hg
theorem mg9 {w : Cond} (i : Nat) (h : tables_1_9[i]? = some w) (hg : goodWord w = true) : w ∈ gt := mgT (List.mem_append_right _ (List.mem_append_right _ (List.mem_append_right _ (List.mem_append_right _ (List.mem_append_right _ (List.mem_append_right _ (List.mem_append_right _ (List.mem_append_right _ ((List.mem_of_getElem? h)))))))))) hg
theorem ginX0 : ∀ w ∈ u_ws RX0 TX0 3, w ∈ gt := by decide +kernel
theorem ginX1 : ∀ w ∈ u_ws RX1 TX1 6, w ∈ gt := by decide +kernel
theorem ginX2 : ∀ w ∈ u_ws RX2 TX2 16, w ∈ gt := by decide +kernel
theorem ginX3 : ∀ w ∈ u_ws RX3 TX3 3, w ∈ gt := by decide +kernel
theorem ginX4 : ∀ w ∈ u_ws RX4 TX4 6, w ∈ gt := by decide +kernel
theorem ginX5 : ∀ w ∈ u_ws RX5 TX5 3, w ∈ gt := by decide +kernel
theorem ginX6 : ∀ w ∈ u_ws RX6 TX6 8, w ∈ gt := by decide +kernel
theorem ginX7 : ∀ w ∈ u_ws RX7 TX7 12, w ∈ gt := by decide +kernel
theorem ginX8 : ∀ w ∈ u_ws RX8 TX8 9, w ∈ gt := by decide +kernel
theorem ginX10 : ∀ w ∈ u_ws RX10 TX10 13, w ∈ gt := by decide +kernel
theorem ginX11 : ∀ w ∈ u_ws RX11 TX11 50, w ∈ gt := by decide +kernel
theorem wp_0 : Cond.selects "BlottedDeed$Row" ({ cls := "BlottedDeed$Row", name := "will", desc := "(LBlottedDeed$Part;)V" } : MethodName) ({ cls := "BlottedDeed$Row", name := "will", desc := "(LBlottedDeed$Part;)V" } : MethodName) ∈ gt := mgp 0 (by decide +kernel) (by decide +kernel)
theorem wp_1 : Cond.selects "BlottedDeed$Row" ({ cls := "BlottedDeed$Row", name := "pay", desc := "(LBlottedDeed$Part;)V" } : MethodName) ({ cls := "BlottedDeed$Row", name := "pay", desc := "(LBlottedDeed$Part;)V" } : MethodName) ∈ gt := mgp 1 (by decide +kernel) (by decide +kernel)
theorem wp_2 : Cond.selects "BlottedDeed$Table" ({ cls := "BlottedDeed$Table", name := "note", desc := "(I)V" } : MethodName) ({ cls := "BlottedDeed$Table", name := "note", desc := "(I)V" } : MethodName) ∈ gt := mgp 2 (by decide +kernel) (by decide +kernel)
theorem wp_3 : Cond.selects "BlottedDeed$Table" ({ cls := "BlottedDeed$Table", name := "keepRow", desc := "()V" } : MethodName) ({ cls := "BlottedDeed$Table", name := "keepRow", desc := "()V" } : MethodName) ∈ gt := mgp 3 (by decide +kernel) (by decide +kernel)
theorem wp_4 : Cond.selects "BlottedDeed$Row" ({ cls := "BlottedDeed$Row", name := "put", desc := "(LBlottedDeed$Deed;II)V" } : MethodName) ({ cls := "BlottedDeed$Row", name := "put", desc := "(LBlottedDeed$Deed;II)V" } : MethodName) ∈ gt := mgp 4 (by decide +kernel) (by decide +kernel)
theorem wp_5 : Cond.selects "BlottedDeed" ({ cls := "BlottedDeed", name := "putBytes", desc := "(I)V" } : MethodName) ({ cls := "BlottedDeed", name := "putBytes", desc := "(I)V" } : MethodName) ∈ gt := mgp 5 (by decide +kernel) (by decide +kernel)
theorem wp_6 : Cond.selects "BlottedDeed$Table" ({ cls := "BlottedDeed$Table", name := "tallyUp", desc := "(IJJ)V" } : MethodName) ({ cls := "BlottedDeed$Table", name := "tallyUp", desc := "(IJJ)V" } : MethodName) ∈ gt := mgp 6 (by decide +kernel) (by decide +kernel)
theorem wp_7 : Cond.selects "BlottedDeed$Testimony" ({ cls := "BlottedDeed$Testimony", name := "lastHabit", desc := "(II)I" } : MethodName) ({ cls := "BlottedDeed$Testimony", name := "lastHabit", desc := "(II)I" } : MethodName) ∈ gt := mgp 7 (by decide +kernel) (by decide +kernel)
theorem wp_8 : Cond.selects "BlottedDeed" ({ cls := "BlottedDeed", name := "needArgument", desc := "(Z)V" } : MethodName) ({ cls := "BlottedDeed", name := "needArgument", desc := "(Z)V" } : MethodName) ∈ gt := mgp 8 (by decide +kernel) (by decide +kernel)
theorem wp_10 : Cond.selects "BlottedDeed$Scribe" ({ cls := "BlottedDeed$Scribe", name := "skipBlanks", desc := "()V" } : MethodName) ({ cls := "BlottedDeed$Scribe", name := "skipBlanks", desc := "()V" } : MethodName) ∈ gt := mgp 10 (by decide +kernel) (by decide +kernel)
theorem wp_11 : Cond.selects "BlottedDeed$Scribe" ({ cls := "BlottedDeed$Scribe", name := "readVerb", desc := "(I)LBlottedDeed$Verb;" } : MethodName) ({ cls := "BlottedDeed$Scribe", name := "readVerb", desc := "(I)LBlottedDeed$Verb;" } : MethodName) ∈ gt := mgp 11 (by decide +kernel) (by decide +kernel)
theorem wp_12 : Cond.selects "BlottedDeed$Scribe" ({ cls := "BlottedDeed$Scribe", name := "readWord", desc := "()Z" } : MethodName) ({ cls := "BlottedDeed$Scribe", name := "readWord", desc := "()Z" } : MethodName) ∈ gt := mgp 12 (by decide +kernel) (by decide +kernel)
theorem wp_13 : Cond.selects "BlottedDeed$Scribe" ({ cls := "BlottedDeed$Scribe", name := "fail", desc := "(II)Z" } : MethodName) ({ cls := "BlottedDeed$Scribe", name := "fail", desc := "(II)Z" } : MethodName) ∈ gt := mgp 13 (by decide +kernel) (by decide +kernel)
theorem wp_14 : Cond.selects "BlottedDeed$Scribe" ({ cls := "BlottedDeed$Scribe", name := "verbRead", desc := "()LBlottedDeed$Verb;" } : MethodName) ({ cls := "BlottedDeed$Scribe", name := "verbRead", desc := "()LBlottedDeed$Verb;" } : MethodName) ∈ gt := mgp 14 (by decide +kernel) (by decide +kernel)
theorem wp_15 : Cond.selects "BlottedDeed$Scribe" ({ cls := "BlottedDeed$Scribe", name := "isWord", desc := "(Ljava/lang/String;)Z" } : MethodName) ({ cls := "BlottedDeed$Scribe", name := "isWord", desc := "(Ljava/lang/String;)Z" } : MethodName) ∈ gt := mgp 15 (by decide +kernel) (by decide +kernel)
theorem wp_16 : Cond.selects "BlottedDeed$Scribe" ({ cls := "BlottedDeed$Scribe", name := "readBody", desc := "(LBlottedDeed$Verb;)Z" } : MethodName) ({ cls := "BlottedDeed$Scribe", name := "readBody", desc := "(LBlottedDeed$Verb;)Z" } : MethodName) ∈ gt := mgp 16 (by decide +kernel) (by decide +kernel)
theorem wp_17 : Cond.selects "BlottedDeed$Scribe" ({ cls := "BlottedDeed$Scribe", name := "readNewHeir", desc := "()Z" } : MethodName) ({ cls := "BlottedDeed$Scribe", name := "readNewHeir", desc := "()Z" } : MethodName) ∈ gt := mgp 17 (by decide +kernel) (by decide +kernel)
theorem wp_18 : Cond.selects "BlottedDeed$Scribe" ({ cls := "BlottedDeed$Scribe", name := "readNewName", desc := "()Z" } : MethodName) ({ cls := "BlottedDeed$Scribe", name := "readNewName", desc := "()Z" } : MethodName) ∈ gt := mgp 18 (by decide +kernel) (by decide +kernel)
theorem wp_19 : Cond.selects "BlottedDeed$Scribe" ({ cls := "BlottedDeed$Scribe", name := "isTooLong", desc := "()Z" } : MethodName) ({ cls := "BlottedDeed$Scribe", name := "isTooLong", desc := "()Z" } : MethodName) ∈ gt := mgp 19 (by decide +kernel) (by decide +kernel)
theorem wp_20 : Cond.selects "BlottedDeed$Scribe" ({ cls := "BlottedDeed$Scribe", name := "readNewThing", desc := "()Z" } : MethodName) ({ cls := "BlottedDeed$Scribe", name := "readNewThing", desc := "()Z" } : MethodName) ∈ gt := mgp 20 (by decide +kernel) (by decide +kernel)
theorem wp_21 : Cond.selects "BlottedDeed$Scribe" ({ cls := "BlottedDeed$Scribe", name := "readNumber", desc := "(I)I" } : MethodName) ({ cls := "BlottedDeed$Scribe", name := "readNumber", desc := "(I)I" } : MethodName) ∈ gt := mgp 21 (by decide +kernel) (by decide +kernel)
theorem wp_22 : Cond.selects "BlottedDeed$Scribe" ({ cls := "BlottedDeed$Scribe", name := "readEstate", desc := "()Z" } : MethodName) ({ cls := "BlottedDeed$Scribe", name := "readEstate", desc := "()Z" } : MethodName) ∈ gt := mgp 22 (by decide +kernel) (by decide +kernel)
theorem wp_23 : Cond.selects "BlottedDeed$Scribe" ({ cls := "BlottedDeed$Scribe", name := "readLeast", desc := "()Z" } : MethodName) ({ cls := "BlottedDeed$Scribe", name := "readLeast", desc := "()Z" } : MethodName) ∈ gt := mgp 23 (by decide +kernel) (by decide +kernel)
theorem wp_24 : Cond.selects "BlottedDeed$Scribe" ({ cls := "BlottedDeed$Scribe", name := "readHeir", desc := "()I" } : MethodName) ({ cls := "BlottedDeed$Scribe", name := "readHeir", desc := "()I" } : MethodName) ∈ gt := mgp 24 (by decide +kernel) (by decide +kernel)
theorem wp_25 : Cond.selects "BlottedDeed$Scribe" ({ cls := "BlottedDeed$Scribe", name := "readPlace", desc := "(I)Z" } : MethodName) ({ cls := "BlottedDeed$Scribe", name := "readPlace", desc := "(I)Z" } : MethodName) ∈ gt := mgp 25 (by decide +kernel) (by decide +kernel)
theorem wp_26 : Cond.selects "BlottedDeed$Scribe" ({ cls := "BlottedDeed$Scribe", name := "standsHere", desc := "(C)Z" } : MethodName) ({ cls := "BlottedDeed$Scribe", name := "standsHere", desc := "(C)Z" } : MethodName) ∈ gt := mgp 26 (by decide +kernel) (by decide +kernel)
theorem wp_27 : Cond.selects "BlottedDeed$Scribe" ({ cls := "BlottedDeed$Scribe", name := "readBlot", desc := "(I)Z" } : MethodName) ({ cls := "BlottedDeed$Scribe", name := "readBlot", desc := "(I)Z" } : MethodName) ∈ gt := mgp 27 (by decide +kernel) (by decide +kernel)
theorem wp_28 : Cond.selects "BlottedDeed$Scribe" ({ cls := "BlottedDeed$Scribe", name := "readIs", desc := "()I" } : MethodName) ({ cls := "BlottedDeed$Scribe", name := "readIs", desc := "()I" } : MethodName) ∈ gt := mgp 28 (by decide +kernel) (by decide +kernel)
theorem wp_29 : Cond.selects "BlottedDeed$Scribe" ({ cls := "BlottedDeed$Scribe", name := "readThing", desc := "()Z" } : MethodName) ({ cls := "BlottedDeed$Scribe", name := "readThing", desc := "()Z" } : MethodName) ∈ gt := mgp 29 (by decide +kernel) (by decide +kernel)
theorem wp_30 : Cond.selects "BlottedDeed$Scribe" ({ cls := "BlottedDeed$Scribe", name := "readEnd", desc := "()Z" } : MethodName) ({ cls := "BlottedDeed$Scribe", name := "readEnd", desc := "()Z" } : MethodName) ∈ gt := mgp 30 (by decide +kernel) (by decide +kernel)
theorem wp_31 : Cond.selects "BlottedDeed" ({ cls := "BlottedDeed", name := "needWhat", desc := "(II)V" } : MethodName) ({ cls := "BlottedDeed", name := "needWhat", desc := "(II)V" } : MethodName) ∈ gt := mgp 31 (by decide +kernel) (by decide +kernel)
theorem wp_32 : Cond.selects "BlottedDeed" ({ cls := "BlottedDeed", name := "needBlot", desc := "(I)V" } : MethodName) ({ cls := "BlottedDeed", name := "needBlot", desc := "(I)V" } : MethodName) ∈ gt := mgp 32 (by decide +kernel) (by decide +kernel)
theorem wp_33 : Cond.selects "BlottedDeed" ({ cls := "BlottedDeed", name := "needReading", desc := "(I)V" } : MethodName) ({ cls := "BlottedDeed", name := "needReading", desc := "(I)V" } : MethodName) ∈ gt := mgp 33 (by decide +kernel) (by decide +kernel)
theorem wp_34 : Cond.selects "BlottedDeed" ({ cls := "BlottedDeed", name := "needIndex", desc := "(II)V" } : MethodName) ({ cls := "BlottedDeed", name := "needIndex", desc := "(II)V" } : MethodName) ∈ gt := mgp 34 (by decide +kernel) (by decide +kernel)
theorem wp_35 : Cond.selects "BlottedDeed" ({ cls := "BlottedDeed", name := "needHeir", desc := "(I)V" } : MethodName) ({ cls := "BlottedDeed", name := "needHeir", desc := "(I)V" } : MethodName) ∈ gt := mgp 35 (by decide +kernel) (by decide +kernel)
theorem wp_36 : Cond.selects "BlottedDeed" ({ cls := "BlottedDeed", name := "needThing", desc := "(I)V" } : MethodName) ({ cls := "BlottedDeed", name := "needThing", desc := "(I)V" } : MethodName) ∈ gt := mgp 36 (by decide +kernel) (by decide +kernel)
theorem wp_37 : Cond.selects "BlottedDeed$Table" ({ cls := "BlottedDeed$Table", name := "findFewest", desc := "(I)I" } : MethodName) ({ cls := "BlottedDeed$Table", name := "findFewest", desc := "(I)I" } : MethodName) ∈ gt := mgp 37 (by decide +kernel) (by decide +kernel)
theorem wp_38 : Cond.selects "BlottedDeed$Table" ({ cls := "BlottedDeed$Table", name := "sortOwners", desc := "(II)Z" } : MethodName) ({ cls := "BlottedDeed$Table", name := "sortOwners", desc := "(II)Z" } : MethodName) ∈ gt := mgp 38 (by decide +kernel) (by decide +kernel)
theorem wp_39 : Cond.selects "BlottedDeed$Table" ({ cls := "BlottedDeed$Table", name := "groupsBy", desc := "(I)I" } : MethodName) ({ cls := "BlottedDeed$Table", name := "groupsBy", desc := "(I)I" } : MethodName) ∈ gt := mgp 39 (by decide +kernel) (by decide +kernel)
theorem wp_40 : Cond.selects "BlottedDeed$Table" ({ cls := "BlottedDeed$Table", name := "groupOf", desc := "(II)I" } : MethodName) ({ cls := "BlottedDeed$Table", name := "groupOf", desc := "(II)I" } : MethodName) ∈ gt := mgp 40 (by decide +kernel) (by decide +kernel)
theorem wp_41 : Cond.selects "BlottedDeed$Anew" ({ cls := "BlottedDeed$Anew", name := "isLawful", desc := "(II)Z" } : MethodName) ({ cls := "BlottedDeed$Anew", name := "isLawful", desc := "(II)Z" } : MethodName) ∈ gt := mgp 41 (by decide +kernel) (by decide +kernel)
theorem wp_42 : Cond.selects "BlottedDeed$Table" ({ cls := "BlottedDeed$Table", name := "countWithout", desc := "(I)I" } : MethodName) ({ cls := "BlottedDeed$Table", name := "countWithout", desc := "(I)I" } : MethodName) ∈ gt := mgp 42 (by decide +kernel) (by decide +kernel)
theorem wp_43 : Cond.selects "BlottedDeed$Table" ({ cls := "BlottedDeed$Table", name := "isKnown", desc := "(IJJ)Z" } : MethodName) ({ cls := "BlottedDeed$Table", name := "isKnown", desc := "(IJJ)Z" } : MethodName) ∈ gt := mgp 43 (by decide +kernel) (by decide +kernel)
theorem wp_44 : Cond.selects "BlottedDeedModel" ({ cls := "BlottedDeedModel", name := "laysReadings", desc := "()V" } : MethodName) ({ cls := "BlottedDeedModel", name := "laysReadings", desc := "()V" } : MethodName) ∈ gt := mgp 44 (by decide +kernel) (by decide +kernel)
theorem wp_45 : Cond.selects "BlottedDeedModel" ({ cls := "BlottedDeedModel", name := "fills", desc := "(I)V" } : MethodName) ({ cls := "BlottedDeedModel", name := "fills", desc := "(I)V" } : MethodName) ∈ gt := mgp 45 (by decide +kernel) (by decide +kernel)
theorem wp_46 : Cond.selects "BlottedDeedModel" ({ cls := "BlottedDeedModel", name := "asks", desc := "(I)V" } : MethodName) ({ cls := "BlottedDeedModel", name := "asks", desc := "(I)V" } : MethodName) ∈ gt := mgp 46 (by decide +kernel) (by decide +kernel)
theorem wp_47 : Cond.selects "BlottedDeedModel" ({ cls := "BlottedDeedModel", name := "broken", desc := "(I)I" } : MethodName) ({ cls := "BlottedDeedModel", name := "broken", desc := "(I)I" } : MethodName) ∈ gt := mgp 47 (by decide +kernel) (by decide +kernel)
theorem wp_48 : Cond.selects "BlottedDeedModel" ({ cls := "BlottedDeedModel", name := "coinTogether", desc := "()I" } : MethodName) ({ cls := "BlottedDeedModel", name := "coinTogether", desc := "()I" } : MethodName) ∈ gt := mgp 48 (by decide +kernel) (by decide +kernel)
theorem wp_49 : Cond.selects "BlottedDeedModel" ({ cls := "BlottedDeedModel", name := "bad", desc := "(ZII)Z" } : MethodName) ({ cls := "BlottedDeedModel", name := "bad", desc := "(ZII)Z" } : MethodName) ∈ gt := mgp 49 (by decide +kernel) (by decide +kernel)
theorem wp_50 : Cond.selects "BlottedDeedModel" ({ cls := "BlottedDeedModel", name := "blanks", desc := "()V" } : MethodName) ({ cls := "BlottedDeedModel", name := "blanks", desc := "()V" } : MethodName) ∈ gt := mgp 50 (by decide +kernel) (by decide +kernel)
theorem wp_51 : Cond.selects "BlottedDeedModel" ({ cls := "BlottedDeedModel", name := "byteAt", desc := "(I)I" } : MethodName) ({ cls := "BlottedDeedModel", name := "byteAt", desc := "(I)I" } : MethodName) ∈ gt := mgp 51 (by decide +kernel) (by decide +kernel)
theorem wp_52 : Cond.selects "BlottedDeedModel" ({ cls := "BlottedDeedModel", name := "clause", desc := "()V" } : MethodName) ({ cls := "BlottedDeedModel", name := "clause", desc := "()V" } : MethodName) ∈ gt := mgp 52 (by decide +kernel) (by decide +kernel)
theorem wp_53 : Cond.selects "BlottedDeedModel" ({ cls := "BlottedDeedModel", name := "kindHere", desc := "()I" } : MethodName) ({ cls := "BlottedDeedModel", name := "kindHere", desc := "()I" } : MethodName) ∈ gt := mgp 53 (by decide +kernel) (by decide +kernel)
theorem wp_54 : Cond.selects "BlottedDeedModel" ({ cls := "BlottedDeedModel", name := "isWord", desc := "(IIIIII)Z" } : MethodName) ({ cls := "BlottedDeedModel", name := "isWord", desc := "(IIIIII)Z" } : MethodName) ∈ gt := mgp 54 (by decide +kernel) (by decide +kernel)
theorem wp_55 : Cond.selects "BlottedDeedModel" ({ cls := "BlottedDeedModel", name := "wordHere", desc := "()J" } : MethodName) ({ cls := "BlottedDeedModel", name := "wordHere", desc := "()J" } : MethodName) ∈ gt := mgp 55 (by decide +kernel) (by decide +kernel)
theorem wp_56 : Cond.selects "BlottedDeedModel" ({ cls := "BlottedDeedModel", name := "lettersHere", desc := "()I" } : MethodName) ({ cls := "BlottedDeedModel", name := "lettersHere", desc := "()I" } : MethodName) ∈ gt := mgp 56 (by decide +kernel) (by decide +kernel)
theorem wp_57 : Cond.selects "BlottedDeedModel" ({ cls := "BlottedDeedModel", name := "wrong", desc := "(II)V" } : MethodName) ({ cls := "BlottedDeedModel", name := "wrong", desc := "(II)V" } : MethodName) ∈ gt := mgp 57 (by decide +kernel) (by decide +kernel)
theorem wp_58 : Cond.selects "BlottedDeedModel" ({ cls := "BlottedDeedModel", name := "isFull", desc := "(I)Z" } : MethodName) ({ cls := "BlottedDeedModel", name := "isFull", desc := "(I)Z" } : MethodName) ∈ gt := mgp 58 (by decide +kernel) (by decide +kernel)
theorem wp_59 : Cond.selects "BlottedDeedModel" ({ cls := "BlottedDeedModel", name := "names", desc := "(I)V" } : MethodName) ({ cls := "BlottedDeedModel", name := "names", desc := "(I)V" } : MethodName) ∈ gt := mgp 59 (by decide +kernel) (by decide +kernel)
theorem wp_60 : Cond.selects "BlottedDeedModel" ({ cls := "BlottedDeedModel", name := "number", desc := "(II)I" } : MethodName) ({ cls := "BlottedDeedModel", name := "number", desc := "(II)I" } : MethodName) ∈ gt := mgp 60 (by decide +kernel) (by decide +kernel)
theorem wp_61 : Cond.selects "BlottedDeedModel" ({ cls := "BlottedDeedModel", name := "toldName", desc := "(II)I" } : MethodName) ({ cls := "BlottedDeedModel", name := "toldName", desc := "(II)I" } : MethodName) ∈ gt := mgp 61 (by decide +kernel) (by decide +kernel)
theorem wp_62 : Cond.selects "BlottedDeedModel" ({ cls := "BlottedDeedModel", name := "reads", desc := "(I)V" } : MethodName) ({ cls := "BlottedDeedModel", name := "reads", desc := "(I)V" } : MethodName) ∈ gt := mgp 62 (by decide +kernel) (by decide +kernel)
theorem wp_63 : Cond.selects "BlottedDeedModel" ({ cls := "BlottedDeedModel", name := "spotHere", desc := "(I)V" } : MethodName) ({ cls := "BlottedDeedModel", name := "spotHere", desc := "(I)V" } : MethodName) ∈ gt := mgp 63 (by decide +kernel) (by decide +kernel)
theorem wp_64 : Cond.selects "BlottedDeedModel" ({ cls := "BlottedDeedModel", name := "blots", desc := "(I[I)V" } : MethodName) ({ cls := "BlottedDeedModel", name := "blots", desc := "(I[I)V" } : MethodName) ∈ gt := mgp 64 (by decide +kernel) (by decide +kernel)
theorem wp_65 : Cond.selects "BlottedDeedModel" ({ cls := "BlottedDeedModel", name := "isHere", desc := "()I" } : MethodName) ({ cls := "BlottedDeedModel", name := "isHere", desc := "()I" } : MethodName) ∈ gt := mgp 65 (by decide +kernel) (by decide +kernel)
theorem wp_66 : Cond.selects "BlottedDeedModel" ({ cls := "BlottedDeedModel", name := "stands", desc := "()V" } : MethodName) ({ cls := "BlottedDeedModel", name := "stands", desc := "()V" } : MethodName) ∈ gt := mgp 66 (by decide +kernel) (by decide +kernel)
theorem wp_67 : Cond.selects "BlottedDeedModel" ({ cls := "BlottedDeedModel", name := "isBlot", desc := "(I)Z" } : MethodName) ({ cls := "BlottedDeedModel", name := "isBlot", desc := "(I)Z" } : MethodName) ∈ gt := mgp 67 (by decide +kernel) (by decide +kernel)
theorem wp_68 : Cond.selects "BlottedDeedModel" ({ cls := "BlottedDeedModel", name := "isReading", desc := "(I)Z" } : MethodName) ({ cls := "BlottedDeedModel", name := "isReading", desc := "(I)Z" } : MethodName) ∈ gt := mgp 68 (by decide +kernel) (by decide +kernel)
theorem wp_69 : Cond.selects "BlottedDeedModel" ({ cls := "BlottedDeedModel", name := "shows", desc := "(II)I" } : MethodName) ({ cls := "BlottedDeedModel", name := "shows", desc := "(II)I" } : MethodName) ∈ gt := mgp 69 (by decide +kernel) (by decide +kernel)
theorem wp_70 : Cond.selects "BlottedDeedModel" ({ cls := "BlottedDeedModel", name := "digit", desc := "(II)I" } : MethodName) ({ cls := "BlottedDeedModel", name := "digit", desc := "(II)I" } : MethodName) ∈ gt := mgp 70 (by decide +kernel) (by decide +kernel)
theorem wp_71 : Cond.selects "BlottedDeedModel" ({ cls := "BlottedDeedModel", name := "laysHeld", desc := "(I)V" } : MethodName) ({ cls := "BlottedDeedModel", name := "laysHeld", desc := "(I)V" } : MethodName) ∈ gt := mgp 71 (by decide +kernel) (by decide +kernel)
theorem wp_72 : Cond.selects "BlottedDeedModel" ({ cls := "BlottedDeedModel", name := "isHeir", desc := "(I)Z" } : MethodName) ({ cls := "BlottedDeedModel", name := "isHeir", desc := "(I)Z" } : MethodName) ∈ gt := mgp 72 (by decide +kernel) (by decide +kernel)
theorem wp_73 : Cond.selects "BlottedDeedModel" ({ cls := "BlottedDeedModel", name := "coinBy", desc := "(II)I" } : MethodName) ({ cls := "BlottedDeedModel", name := "coinBy", desc := "(II)I" } : MethodName) ∈ gt := mgp 73 (by decide +kernel) (by decide +kernel)
theorem wp_74 : Cond.selects "BlottedDeedModel" ({ cls := "BlottedDeedModel", name := "worthBy", desc := "(II)I" } : MethodName) ({ cls := "BlottedDeedModel", name := "worthBy", desc := "(II)I" } : MethodName) ∈ gt := mgp 74 (by decide +kernel) (by decide +kernel)
theorem wp_75 : Cond.selects "BlottedDeedModel" ({ cls := "BlottedDeedModel", name := "goesBy", desc := "(II)I" } : MethodName) ({ cls := "BlottedDeedModel", name := "goesBy", desc := "(II)I" } : MethodName) ∈ gt := mgp 75 (by decide +kernel) (by decide +kernel)
theorem wp_76 : Cond.selects "BlottedDeedModel" ({ cls := "BlottedDeedModel", name := "isThing", desc := "(I)Z" } : MethodName) ({ cls := "BlottedDeedModel", name := "isThing", desc := "(I)Z" } : MethodName) ∈ gt := mgp 76 (by decide +kernel) (by decide +kernel)
theorem wp_77 : Cond.selects "BlottedDeedModel" ({ cls := "BlottedDeedModel", name := "oftenBy", desc := "(II)I" } : MethodName) ({ cls := "BlottedDeedModel", name := "oftenBy", desc := "(II)I" } : MethodName) ∈ gt := mgp 77 (by decide +kernel) (by decide +kernel)
theorem wp_78 : Cond.selects "BlottedDeedModel" ({ cls := "BlottedDeedModel", name := "worthAt", desc := "(II)I" } : MethodName) ({ cls := "BlottedDeedModel", name := "worthAt", desc := "(II)I" } : MethodName) ∈ gt := mgp 78 (by decide +kernel) (by decide +kernel)
theorem wp_79 : Cond.selects "BlottedDeedModel" ({ cls := "BlottedDeedModel", name := "cleanedBy", desc := "(I)I" } : MethodName) ({ cls := "BlottedDeedModel", name := "cleanedBy", desc := "(I)I" } : MethodName) ∈ gt := mgp 79 (by decide +kernel) (by decide +kernel)
theorem wp_80 : Cond.selects "BlottedDeedModel" ({ cls := "BlottedDeedModel", name := "tells", desc := "(II)Z" } : MethodName) ({ cls := "BlottedDeedModel", name := "tells", desc := "(II)Z" } : MethodName) ∈ gt := mgp 80 (by decide +kernel) (by decide +kernel)
theorem wp_81 : Cond.selects "BlottedDeedModel" ({ cls := "BlottedDeedModel", name := "isSwayed", desc := "(III)Z" } : MethodName) ({ cls := "BlottedDeedModel", name := "isSwayed", desc := "(III)Z" } : MethodName) ∈ gt := mgp 81 (by decide +kernel) (by decide +kernel)
theorem wp_82 : Cond.selects "BlottedDeedModel" ({ cls := "BlottedDeedModel", name := "stride", desc := "(I)I" } : MethodName) ({ cls := "BlottedDeedModel", name := "stride", desc := "(I)I" } : MethodName) ∈ gt := mgp 82 (by decide +kernel) (by decide +kernel)
theorem wp_83 : Cond.selects "BlottedDeedModel" ({ cls := "BlottedDeedModel", name := "oddsBy", desc := "(I)J" } : MethodName) ({ cls := "BlottedDeedModel", name := "oddsBy", desc := "(I)J" } : MethodName) ∈ gt := mgp 83 (by decide +kernel) (by decide +kernel)
theorem wp_84 : Cond.selects "BlottedDeedModel" ({ cls := "BlottedDeedModel", name := "oddsOf", desc := "(II)I" } : MethodName) ({ cls := "BlottedDeedModel", name := "oddsOf", desc := "(II)I" } : MethodName) ∈ gt := mgp 84 (by decide +kernel) (by decide +kernel)
theorem wp_85 : Cond.selects "BlottedDeedModel" ({ cls := "BlottedDeedModel", name := "blotsAnew", desc := "(II)V" } : MethodName) ({ cls := "BlottedDeedModel", name := "blotsAnew", desc := "(II)V" } : MethodName) ∈ gt := mgp 85 (by decide +kernel) (by decide +kernel)
theorem wp_86 : Cond.selects "BlottedDeedModel" ({ cls := "BlottedDeedModel", name := "behind", desc := "(III)I" } : MethodName) ({ cls := "BlottedDeedModel", name := "behind", desc := "(III)I" } : MethodName) ∈ gt := mgp 86 (by decide +kernel) (by decide +kernel)
theorem wp_87 : Cond.selects "BlottedDeedModel" ({ cls := "BlottedDeedModel", name := "apartBy", desc := "(II)I" } : MethodName) ({ cls := "BlottedDeedModel", name := "apartBy", desc := "(II)I" } : MethodName) ∈ gt := mgp 87 (by decide +kernel) (by decide +kernel)
theorem wp_88 : Cond.selects "BlottedDeedModel" ({ cls := "BlottedDeedModel", name := "isKnown", desc := "(I)Z" } : MethodName) ({ cls := "BlottedDeedModel", name := "isKnown", desc := "(I)Z" } : MethodName) ∈ gt := mgp 88 (by decide +kernel) (by decide +kernel)
theorem wp_89 : Cond.selects "BlottedDeedModel" ({ cls := "BlottedDeedModel", name := "mostLeft", desc := "(I)I" } : MethodName) ({ cls := "BlottedDeedModel", name := "mostLeft", desc := "(I)I" } : MethodName) ∈ gt := mgp 89 (by decide +kernel) (by decide +kernel)
theorem wp_90 : Cond.selects "BlottedDeedModel" ({ cls := "BlottedDeedModel", name := "movesAll", desc := "([IZ)V" } : MethodName) ({ cls := "BlottedDeedModel", name := "movesAll", desc := "([IZ)V" } : MethodName) ∈ gt := mgp 90 (by decide +kernel) (by decide +kernel)
theorem wp_91 : Cond.selects "BlottedDeedModel" ({ cls := "BlottedDeedModel", name := "moves", desc := "([IIZ)I" } : MethodName) ({ cls := "BlottedDeedModel", name := "moves", desc := "([IIZ)I" } : MethodName) ∈ gt := mgp 91 (by decide +kernel) (by decide +kernel)
theorem wt_0 : (Jvm.Cond.initialized "BlottedDeedLaw") ∈ gt := mg1 0 rfl rfl
theorem wt_1 : (Jvm.Cond.initialized "BlottedDeed") ∈ gt := mg1 1 rfl rfl
theorem wt_2 : (Jvm.Cond.initialized "BlottedDeed$Deed") ∈ gt := mg1 2 rfl rfl
theorem wt_3 : (Jvm.Cond.initialized "BlottedDeed$Part") ∈ gt := mg1 3 rfl rfl
theorem wt_5 : (Jvm.Cond.initialized "BlottedDeed$Verb") ∈ gt := mg1 5 rfl rfl
theorem wt_6 : (Jvm.Cond.initialized "BlottedDeed$Blot") ∈ gt := mg1 6 rfl rfl
theorem wt_7 : (Jvm.Cond.initialized "BlottedDeed$Scribe") ∈ gt := mg1 7 rfl rfl
theorem wt_8 : (Jvm.Cond.initialized "BlottedDeed$Table") ∈ gt := mg1 8 rfl rfl
theorem wt_9 : (Jvm.Cond.initialized "BlottedDeed$Row") ∈ gt := mg1 9 rfl rfl
theorem wt_10 : (Jvm.Cond.initialized "java/util/Arrays") ∈ gt := mg1 10 rfl rfl
theorem wt_11 : (Jvm.Cond.initialized "java/lang/System") ∈ gt := mg1 11 rfl rfl
theorem wt_12 : (Jvm.Cond.initialized "java/lang/Math") ∈ gt := mg1 12 rfl rfl
theorem wt_13 : (Jvm.Cond.initialized "java/lang/Integer") ∈ gt := mg1 13 rfl rfl
theorem wt_14 : (Jvm.Cond.initialized "BlottedDeed$Anew") ∈ gt := mg1 14 rfl rfl
theorem wt_15 : (Jvm.Cond.initialized "BlottedDeed$Scales") ∈ gt := mg1 15 rfl rfl
theorem wt_16 : (Jvm.Cond.initialized "BlottedDeed$Testimony") ∈ gt := mg1 16 rfl rfl
theorem wt_17 : (Jvm.Cond.initialized "BlottedDeedModel") ∈ gt := mg1 17 rfl rfl
theorem wt_21 : (Jvm.Cond.initialized "java/lang/IllegalArgumentException") ∈ gt := mg1 21 rfl rfl
theorem wt_22 : (Jvm.Cond.initialized "java/lang/String") ∈ gt := mg1 22 rfl rfl
theorem wt_23 : (Jvm.Cond.initialized "java/lang/StringLatin1") ∈ gt := mg1 23 rfl rfl
theorem wt_24 : (Jvm.Cond.initialized "jdk/internal/util/Preconditions") ∈ gt := mg1 24 rfl rfl
theorem wt_26 : (Jvm.Cond.initialized "java/util/NoSuchElementException") ∈ gt := mg1 26 rfl rfl
theorem wt_27 : (Jvm.Cond.initialized "java/lang/IndexOutOfBoundsException") ∈ gt := mg1 27 rfl rfl
theorem wt_28 : (Jvm.Cond.initialized "java/lang/Long") ∈ gt := mg1 28 rfl rfl
theorem wt_29 : (Jvm.Cond.classLink "BlottedDeedLaw" (8 : Nat) "BlottedDeed") ∈ gt := mg1 29 rfl rfl
theorem wt_30 : (Jvm.Cond.instantiable "BlottedDeed" (13 : Nat)) ∈ gt := mg1 30 rfl rfl
theorem wt_31 : (Jvm.Cond.methodLink "BlottedDeedLaw" (118 : Nat) ({ cls := "BlottedDeed", name := "<init>", desc := "()V" } : Jvm.MethodName)) ∈ gt := mg1 31 rfl rfl
theorem wt_32 : (Jvm.Cond.instanceMethod ({ cls := "BlottedDeed", name := "<init>", desc := "()V" } : Jvm.MethodName)) ∈ gt := mg1 32 rfl rfl
theorem wt_33 : (Jvm.Cond.code ({ cls := "BlottedDeed", name := "<init>", desc := "()V" } : Jvm.MethodName) prog_1_method_1_code (2 : Nat) (Option.none : Option Jvm.ClassFile.FieldType)) ∈ gt := mg1 33 rfl rfl
theorem wt_34 : (Jvm.Cond.methodLink "BlottedDeed" (1 : Nat) ({ cls := "java/lang/Object", name := "<init>", desc := "()V" } : Jvm.MethodName)) ∈ gt := mg1 34 rfl rfl
theorem wt_35 : (Jvm.Cond.instanceMethod ({ cls := "java/lang/Object", name := "<init>", desc := "()V" } : Jvm.MethodName)) ∈ gt := mg1 35 rfl rfl
theorem wt_36 : (Jvm.Cond.code ({ cls := "java/lang/Object", name := "<init>", desc := "()V" } : Jvm.MethodName) object_method_1_code (1 : Nat) (Option.none : Option Jvm.ClassFile.FieldType)) ∈ gt := mg1 36 rfl rfl
theorem wt_37 : (Jvm.Cond.classLink "BlottedDeed" (13 : Nat) "BlottedDeed$Deed") ∈ gt := mg1 37 rfl rfl
theorem wt_38 : (Jvm.Cond.instantiable "BlottedDeed$Deed" (16 : Nat)) ∈ gt := mg1 38 rfl rfl
theorem wt_39 : (Jvm.Cond.methodLink "BlottedDeed" (15 : Nat) ({ cls := "BlottedDeed$Deed", name := "<init>", desc := "()V" } : Jvm.MethodName)) ∈ gt := mg1 39 rfl rfl
theorem wt_40 : (Jvm.Cond.instanceMethod ({ cls := "BlottedDeed$Deed", name := "<init>", desc := "()V" } : Jvm.MethodName)) ∈ gt := mg1 40 rfl rfl
theorem wt_41 : (Jvm.Cond.code ({ cls := "BlottedDeed$Deed", name := "<init>", desc := "()V" } : Jvm.MethodName) prog_4_method_1_code (2 : Nat) (Option.none : Option Jvm.ClassFile.FieldType)) ∈ gt := mg1 41 rfl rfl
theorem wt_42 : (Jvm.Cond.methodLink "BlottedDeed$Deed" (3 : Nat) ({ cls := "java/lang/Object", name := "<init>", desc := "()V" } : Jvm.MethodName)) ∈ gt := mg1 42 rfl rfl
theorem wt_43 : (Jvm.Cond.classLink "BlottedDeed$Deed" (28 : Nat) "BlottedDeed$Part") ∈ gt := mg1 43 rfl rfl
theorem wt_45 : (Jvm.Cond.classLink "BlottedDeed$Deed" (40 : Nat) "BlottedDeed$Blot") ∈ gt := mg1 45 rfl rfl
theorem wt_47 : (Jvm.Cond.instantiable "BlottedDeed$Part" (3 : Nat)) ∈ gt := mg1 47 rfl rfl
theorem wt_49 : (Jvm.Cond.instanceMethod ({ cls := "BlottedDeed$Part", name := "<init>", desc := "()V" } : Jvm.MethodName)) ∈ gt := mg1 49 rfl rfl
theorem wt_50 : (Jvm.Cond.code ({ cls := "BlottedDeed$Part", name := "<init>", desc := "()V" } : Jvm.MethodName) prog_5_method_1_code (1 : Nat) (Option.none : Option Jvm.ClassFile.FieldType)) ∈ gt := mg1 50 rfl rfl
theorem wt_51 : (Jvm.Cond.methodLink "BlottedDeed$Part" (1 : Nat) ({ cls := "java/lang/Object", name := "<init>", desc := "()V" } : Jvm.MethodName)) ∈ gt := mg1 51 rfl rfl
theorem wt_52 : (Jvm.Cond.fieldLink "BlottedDeed$Part" (7 : Nat) "BlottedDeed$Verb" "COIN" "LBlottedDeed$Verb;") ∈ gt := mg1 52 rfl rfl
theorem wt_54 : (Jvm.Cond.fieldLink "BlottedDeed$Part" (13 : Nat) "BlottedDeed$Part" "verb" "LBlottedDeed$Verb;") ∈ gt := mg1 54 rfl rfl
theorem wt_55 : (Jvm.Cond.fieldLink "BlottedDeed$Row" (85 : Nat) "BlottedDeed$Part" "verb" "LBlottedDeed$Verb;") ∈ gt := mg1 55 rfl rfl
theorem wt_56 : (Jvm.Cond.fieldLink "BlottedDeed$Deed" (83 : Nat) "BlottedDeed$Part" "verb" "LBlottedDeed$Verb;") ∈ gt := mg1 56 rfl rfl
theorem wt_57 : (Jvm.Cond.fieldLink "BlottedDeed$Row" (104 : Nat) "BlottedDeed$Part" "thing" "I") ∈ gt := mg1 57 rfl rfl
theorem wt_58 : (Jvm.Cond.fieldLink "BlottedDeed$Deed" (89 : Nat) "BlottedDeed$Part" "thing" "I") ∈ gt := mg1 58 rfl rfl
theorem wt_59 : (Jvm.Cond.fieldLink "BlottedDeed$Row" (103 : Nat) "BlottedDeed$Part" "place" "I") ∈ gt := mg1 59 rfl rfl
theorem wt_60 : (Jvm.Cond.fieldLink "BlottedDeed$Deed" (86 : Nat) "BlottedDeed$Part" "place" "I") ∈ gt := mg1 60 rfl rfl
theorem wt_68 : (Jvm.Cond.arrayClass Jvm.ClassFile.FieldType.int) ∈ gt := mg1 68 rfl rfl
theorem wt_69 : (Jvm.Cond.arrayClass Jvm.ClassFile.FieldType.long) ∈ gt := mg1 69 rfl rfl
theorem wt_70 : (Jvm.Cond.instantiable "BlottedDeed$Blot" (6 : Nat)) ∈ gt := mg1 70 rfl rfl
theorem wt_72 : (Jvm.Cond.instanceMethod ({ cls := "BlottedDeed$Blot", name := "<init>", desc := "()V" } : Jvm.MethodName)) ∈ gt := mg1 72 rfl rfl
theorem wt_73 : (Jvm.Cond.code ({ cls := "BlottedDeed$Blot", name := "<init>", desc := "()V" } : Jvm.MethodName) prog_3_method_1_code (1 : Nat) (Option.none : Option Jvm.ClassFile.FieldType)) ∈ gt := mg1 73 rfl rfl
theorem wt_74 : (Jvm.Cond.methodLink "BlottedDeed$Blot" (3 : Nat) ({ cls := "java/lang/Object", name := "<init>", desc := "()V" } : Jvm.MethodName)) ∈ gt := mg1 74 rfl rfl
theorem wt_75 : (Jvm.Cond.fieldLink "BlottedDeed$Blot" (9 : Nat) "BlottedDeed$Blot" "values" "[I") ∈ gt := mg1 75 rfl rfl
theorem wt_76 : (Jvm.Cond.fieldLink "BlottedDeed$Scales" (55 : Nat) "BlottedDeed$Blot" "values" "[I") ∈ gt := mg1 76 rfl rfl
theorem wt_77 : (Jvm.Cond.fieldLink "BlottedDeed$Row" (68 : Nat) "BlottedDeed$Blot" "values" "[I") ∈ gt := mg1 77 rfl rfl
theorem wt_78 : (Jvm.Cond.fieldLink "BlottedDeed$Anew" (58 : Nat) "BlottedDeed$Blot" "values" "[I") ∈ gt := mg1 78 rfl rfl
theorem wt_79 : (Jvm.Cond.fieldLink "BlottedDeed" (147 : Nat) "BlottedDeed$Blot" "values" "[I") ∈ gt := mg1 79 rfl rfl
theorem wt_80 : (Jvm.Cond.fieldLink "BlottedDeed$Deed" (109 : Nat) "BlottedDeed$Blot" "values" "[I") ∈ gt := mg1 80 rfl rfl
theorem wt_81 : (Jvm.Cond.fieldLink "BlottedDeed$Blot" (15 : Nat) "BlottedDeed$Blot" "size" "I") ∈ gt := mg1 81 rfl rfl
theorem wt_82 : (Jvm.Cond.fieldLink "BlottedDeed$Scales" (47 : Nat) "BlottedDeed$Blot" "size" "I") ∈ gt := mg1 82 rfl rfl
theorem wt_83 : (Jvm.Cond.fieldLink "BlottedDeed$Row" (60 : Nat) "BlottedDeed$Blot" "size" "I") ∈ gt := mg1 83 rfl rfl
theorem wt_84 : (Jvm.Cond.fieldLink "BlottedDeed$Anew" (50 : Nat) "BlottedDeed$Blot" "size" "I") ∈ gt := mg1 84 rfl rfl
theorem wt_85 : (Jvm.Cond.fieldLink "BlottedDeed" (141 : Nat) "BlottedDeed$Blot" "size" "I") ∈ gt := mg1 85 rfl rfl
theorem wt_86 : (Jvm.Cond.fieldLink "BlottedDeed$Deed" (98 : Nat) "BlottedDeed$Blot" "size" "I") ∈ gt := mg1 86 rfl rfl
theorem wt_87 : (Jvm.Cond.fieldLink "BlottedDeed$Table" (184 : Nat) "BlottedDeed$Blot" "size" "I") ∈ gt := mg1 87 rfl rfl
theorem wt_88 : (Jvm.Cond.fieldLink "BlottedDeed$Scales" (52 : Nat) "BlottedDeed$Blot" "kind" "I") ∈ gt := mg1 88 rfl rfl
theorem wt_89 : (Jvm.Cond.fieldLink "BlottedDeed" (133 : Nat) "BlottedDeed$Blot" "kind" "I") ∈ gt := mg1 89 rfl rfl
theorem wt_90 : (Jvm.Cond.fieldLink "BlottedDeed$Deed" (92 : Nat) "BlottedDeed$Blot" "kind" "I") ∈ gt := mg1 90 rfl rfl
theorem wt_91 : (Jvm.Cond.fieldLink "BlottedDeed" (138 : Nat) "BlottedDeed$Blot" "width" "I") ∈ gt := mg1 91 rfl rfl
theorem wt_92 : (Jvm.Cond.fieldLink "BlottedDeed$Deed" (95 : Nat) "BlottedDeed$Blot" "width" "I") ∈ gt := mg1 92 rfl rfl
theorem wt_93 : (Jvm.Cond.fieldLink "BlottedDeed" (144 : Nat) "BlottedDeed$Blot" "part" "I") ∈ gt := mg1 93 rfl rfl
theorem wt_94 : (Jvm.Cond.fieldLink "BlottedDeed$Deed" (105 : Nat) "BlottedDeed$Blot" "part" "I") ∈ gt := mg1 94 rfl rfl
theorem wt_95 : (Jvm.Cond.fieldLink "BlottedDeed$Row" (65 : Nat) "BlottedDeed$Blot" "place" "I") ∈ gt := mg1 95 rfl rfl
theorem wt_96 : (Jvm.Cond.fieldLink "BlottedDeed$Deed" (108 : Nat) "BlottedDeed$Blot" "place" "I") ∈ gt := mg1 96 rfl rfl
theorem wt_110 : (Jvm.Cond.fieldLink "BlottedDeed$Deed" (9 : Nat) "BlottedDeed$Deed" "heirName" "[J") ∈ gt := mg1 110 rfl rfl
theorem wt_111 : (Jvm.Cond.fieldLink "BlottedDeed$Deed" (15 : Nat) "BlottedDeed$Deed" "heirWidth" "[I") ∈ gt := mg1 111 rfl rfl
theorem wt_112 : (Jvm.Cond.fieldLink "BlottedDeed$Deed" (19 : Nat) "BlottedDeed$Deed" "least" "[I") ∈ gt := mg1 112 rfl rfl
theorem wt_113 : (Jvm.Cond.fieldLink "BlottedDeed$Row" (116 : Nat) "BlottedDeed$Deed" "least" "[I") ∈ gt := mg1 113 rfl rfl
theorem wt_114 : (Jvm.Cond.fieldLink "BlottedDeed$Scribe" (145 : Nat) "BlottedDeed$Deed" "least" "[I") ∈ gt := mg1 114 rfl rfl
theorem wt_115 : (Jvm.Cond.fieldLink "BlottedDeed$Deed" (22 : Nat) "BlottedDeed$Deed" "thingName" "[J") ∈ gt := mg1 115 rfl rfl
theorem wt_116 : (Jvm.Cond.fieldLink "BlottedDeed$Deed" (25 : Nat) "BlottedDeed$Deed" "thingWorth" "[I") ∈ gt := mg1 116 rfl rfl
theorem wt_117 : (Jvm.Cond.fieldLink "BlottedDeed$Table" (133 : Nat) "BlottedDeed$Deed" "thingWorth" "[I") ∈ gt := mg1 117 rfl rfl
theorem wt_118 : (Jvm.Cond.fieldLink "BlottedDeed$Deed" (30 : Nat) "BlottedDeed$Deed" "partAt" "[LBlottedDeed$Part;") ∈ gt := mg1 118 rfl rfl
theorem wt_119 : (Jvm.Cond.fieldLink "BlottedDeed$Row" (81 : Nat) "BlottedDeed$Deed" "partAt" "[LBlottedDeed$Part;") ∈ gt := mg1 119 rfl rfl
theorem wt_120 : (Jvm.Cond.fieldLink "BlottedDeed$Deed" (34 : Nat) "BlottedDeed$Deed" "placeKind" "[I") ∈ gt := mg1 120 rfl rfl
theorem wt_121 : (Jvm.Cond.fieldLink "BlottedDeed$Anew" (37 : Nat) "BlottedDeed$Deed" "placeKind" "[I") ∈ gt := mg1 121 rfl rfl
theorem wt_122 : (Jvm.Cond.fieldLink "BlottedDeed$Deed" (37 : Nat) "BlottedDeed$Deed" "placeValue" "[I") ∈ gt := mg1 122 rfl rfl
theorem wt_123 : (Jvm.Cond.fieldLink "BlottedDeed$Row" (24 : Nat) "BlottedDeed$Deed" "placeValue" "[I") ∈ gt := mg1 123 rfl rfl
theorem wt_124 : (Jvm.Cond.fieldLink "BlottedDeed$Deed" (42 : Nat) "BlottedDeed$Deed" "blotAt" "[LBlottedDeed$Blot;") ∈ gt := mg1 124 rfl rfl
theorem wt_125 : (Jvm.Cond.fieldLink "BlottedDeed$Scales" (43 : Nat) "BlottedDeed$Deed" "blotAt" "[LBlottedDeed$Blot;") ∈ gt := mg1 125 rfl rfl
theorem wt_126 : (Jvm.Cond.fieldLink "BlottedDeed$Row" (56 : Nat) "BlottedDeed$Deed" "blotAt" "[LBlottedDeed$Blot;") ∈ gt := mg1 126 rfl rfl
theorem wt_127 : (Jvm.Cond.fieldLink "BlottedDeed" (129 : Nat) "BlottedDeed$Deed" "blotAt" "[LBlottedDeed$Blot;") ∈ gt := mg1 127 rfl rfl
theorem wt_128 : (Jvm.Cond.fieldLink "BlottedDeed$Scribe" (161 : Nat) "BlottedDeed$Deed" "blotAt" "[LBlottedDeed$Blot;") ∈ gt := mg1 128 rfl rfl
theorem wt_129 : (Jvm.Cond.fieldLink "BlottedDeed$Table" (180 : Nat) "BlottedDeed$Deed" "blotAt" "[LBlottedDeed$Blot;") ∈ gt := mg1 129 rfl rfl
theorem wt_130 : (Jvm.Cond.fieldLink "BlottedDeed$Deed" (52 : Nat) "BlottedDeed$Deed" "heirs" "I") ∈ gt := mg1 130 rfl rfl
theorem wt_131 : (Jvm.Cond.fieldLink "BlottedDeed" (108 : Nat) "BlottedDeed$Deed" "heirs" "I") ∈ gt := mg1 131 rfl rfl
theorem wt_132 : (Jvm.Cond.fieldLink "BlottedDeed$Row" (113 : Nat) "BlottedDeed$Deed" "heirs" "I") ∈ gt := mg1 132 rfl rfl
theorem wt_133 : (Jvm.Cond.fieldLink "BlottedDeed$Deed" (55 : Nat) "BlottedDeed$Deed" "things" "I") ∈ gt := mg1 133 rfl rfl
theorem wt_134 : (Jvm.Cond.fieldLink "BlottedDeed" (111 : Nat) "BlottedDeed$Deed" "things" "I") ∈ gt := mg1 134 rfl rfl
theorem wt_135 : (Jvm.Cond.fieldLink "BlottedDeed$Table" (127 : Nat) "BlottedDeed$Deed" "things" "I") ∈ gt := mg1 135 rfl rfl
theorem wt_136 : (Jvm.Cond.fieldLink "BlottedDeed$Deed" (58 : Nat) "BlottedDeed$Deed" "parts" "I") ∈ gt := mg1 136 rfl rfl
theorem wt_137 : (Jvm.Cond.fieldLink "BlottedDeed$Row" (78 : Nat) "BlottedDeed$Deed" "parts" "I") ∈ gt := mg1 137 rfl rfl
theorem wt_138 : (Jvm.Cond.fieldLink "BlottedDeed" (114 : Nat) "BlottedDeed$Deed" "parts" "I") ∈ gt := mg1 138 rfl rfl
theorem wt_139 : (Jvm.Cond.fieldLink "BlottedDeed$Row" (29 : Nat) "BlottedDeed$Deed" "places" "I") ∈ gt := mg1 139 rfl rfl
theorem wt_140 : (Jvm.Cond.fieldLink "BlottedDeed$Deed" (61 : Nat) "BlottedDeed$Deed" "places" "I") ∈ gt := mg1 140 rfl rfl
theorem wt_141 : (Jvm.Cond.fieldLink "BlottedDeed" (120 : Nat) "BlottedDeed$Deed" "places" "I") ∈ gt := mg1 141 rfl rfl
theorem wt_142 : (Jvm.Cond.fieldLink "BlottedDeed$Scales" (19 : Nat) "BlottedDeed$Deed" "blots" "I") ∈ gt := mg1 142 rfl rfl
theorem wt_143 : (Jvm.Cond.fieldLink "BlottedDeed$Deed" (64 : Nat) "BlottedDeed$Deed" "blots" "I") ∈ gt := mg1 143 rfl rfl
theorem wt_144 : (Jvm.Cond.fieldLink "BlottedDeed$Row" (45 : Nat) "BlottedDeed$Deed" "blots" "I") ∈ gt := mg1 144 rfl rfl
theorem wt_145 : (Jvm.Cond.fieldLink "BlottedDeed$Table" (111 : Nat) "BlottedDeed$Deed" "blots" "I") ∈ gt := mg1 145 rfl rfl
theorem wt_146 : (Jvm.Cond.fieldLink "BlottedDeed" (101 : Nat) "BlottedDeed$Deed" "blots" "I") ∈ gt := mg1 146 rfl rfl
theorem wt_147 : (Jvm.Cond.fieldLink "BlottedDeed$Scribe" (158 : Nat) "BlottedDeed$Deed" "blots" "I") ∈ gt := mg1 147 rfl rfl
theorem wt_148 : (Jvm.Cond.fieldLink "BlottedDeed$Deed" (67 : Nat) "BlottedDeed$Deed" "estate" "I") ∈ gt := mg1 148 rfl rfl
theorem wt_149 : (Jvm.Cond.fieldLink "BlottedDeed" (117 : Nat) "BlottedDeed$Deed" "estate" "I") ∈ gt := mg1 149 rfl rfl
theorem wt_150 : (Jvm.Cond.fieldLink "BlottedDeed$Row" (110 : Nat) "BlottedDeed$Deed" "estate" "I") ∈ gt := mg1 150 rfl rfl
theorem wt_151 : (Jvm.Cond.fieldLink "BlottedDeed$Scribe" (138 : Nat) "BlottedDeed$Deed" "estate" "I") ∈ gt := mg1 151 rfl rfl
theorem wt_152 : (Jvm.Cond.fieldLink "BlottedDeed$Table" (145 : Nat) "BlottedDeed$Deed" "estate" "I") ∈ gt := mg1 152 rfl rfl
theorem wt_153 : (Jvm.Cond.fieldLink "BlottedDeed$Deed" (46 : Nat) "BlottedDeed$Deed" "rows" "I") ∈ gt := mg1 153 rfl rfl
theorem wt_154 : (Jvm.Cond.fieldLink "BlottedDeed$Table" (69 : Nat) "BlottedDeed$Deed" "rows" "I") ∈ gt := mg1 154 rfl rfl
theorem wt_155 : (Jvm.Cond.fieldLink "BlottedDeed" (123 : Nat) "BlottedDeed$Deed" "rows" "I") ∈ gt := mg1 155 rfl rfl
theorem wt_189 : (Jvm.Cond.classLink "BlottedDeed" (23 : Nat) "BlottedDeed$Scribe") ∈ gt := mg1 189 rfl rfl
theorem wt_190 : (Jvm.Cond.instantiable "BlottedDeed$Scribe" (8 : Nat)) ∈ gt := mg1 190 rfl rfl
theorem wt_191 : (Jvm.Cond.methodLink "BlottedDeed" (25 : Nat) ({ cls := "BlottedDeed$Scribe", name := "<init>", desc := "([ILBlottedDeed$Deed;)V" } : Jvm.MethodName)) ∈ gt := mg1 191 rfl rfl
theorem wt_192 : (Jvm.Cond.instanceMethod ({ cls := "BlottedDeed$Scribe", name := "<init>", desc := "([ILBlottedDeed$Deed;)V" } : Jvm.MethodName)) ∈ gt := mg1 192 rfl rfl
theorem wt_193 : (Jvm.Cond.code ({ cls := "BlottedDeed$Scribe", name := "<init>", desc := "([ILBlottedDeed$Deed;)V" } : Jvm.MethodName) prog_8_method_1_code (3 : Nat) (Option.none : Option Jvm.ClassFile.FieldType)) ∈ gt := mg1 193 rfl rfl
theorem wt_194 : (Jvm.Cond.methodLink "BlottedDeed$Scribe" (3 : Nat) ({ cls := "java/lang/Object", name := "<init>", desc := "()V" } : Jvm.MethodName)) ∈ gt := mg1 194 rfl rfl
theorem wt_195 : (Jvm.Cond.fieldLink "BlottedDeed$Scribe" (9 : Nat) "BlottedDeed$Scribe" "text" "[I") ∈ gt := mg1 195 rfl rfl
theorem wt_196 : (Jvm.Cond.fieldLink "BlottedDeed$Scribe" (24 : Nat) "BlottedDeed$Scribe" "length" "I") ∈ gt := mg1 196 rfl rfl
theorem wt_197 : (Jvm.Cond.fieldLink "BlottedDeed$Scribe" (28 : Nat) "BlottedDeed$Scribe" "at" "I") ∈ gt := mg1 197 rfl rfl
theorem wt_198 : (Jvm.Cond.fieldLink "BlottedDeed$Scribe" (66 : Nat) "BlottedDeed$Scribe" "wordStart" "I") ∈ gt := mg1 198 rfl rfl
theorem wt_199 : (Jvm.Cond.fieldLink "BlottedDeed$Scribe" (123 : Nat) "BlottedDeed$Scribe" "wordCode" "J") ∈ gt := mg1 199 rfl rfl
theorem wt_200 : (Jvm.Cond.fieldLink "BlottedDeed$Scribe" (15 : Nat) "BlottedDeed$Scribe" "deed" "LBlottedDeed$Deed;") ∈ gt := mg1 200 rfl rfl
theorem wt_201 : (Jvm.Cond.fieldLink "BlottedDeed$Scribe" (53 : Nat) "BlottedDeed$Scribe" "faultKind" "I") ∈ gt := mg1 201 rfl rfl
theorem wt_202 : (Jvm.Cond.fieldLink "BlottedDeed" (89 : Nat) "BlottedDeed$Scribe" "faultKind" "I") ∈ gt := mg1 202 rfl rfl
theorem wt_203 : (Jvm.Cond.fieldLink "BlottedDeed$Scribe" (56 : Nat) "BlottedDeed$Scribe" "faultPlace" "I") ∈ gt := mg1 203 rfl rfl
theorem wt_204 : (Jvm.Cond.fieldLink "BlottedDeed" (88 : Nat) "BlottedDeed$Scribe" "faultPlace" "I") ∈ gt := mg1 204 rfl rfl
theorem wt_222 : (Jvm.Cond.classLink "BlottedDeed" (32 : Nat) "BlottedDeed$Table") ∈ gt := mg1 222 rfl rfl
theorem wt_223 : (Jvm.Cond.instantiable "BlottedDeed$Table" (12 : Nat)) ∈ gt := mg1 223 rfl rfl
theorem wt_224 : (Jvm.Cond.methodLink "BlottedDeed" (34 : Nat) ({ cls := "BlottedDeed$Table", name := "<init>", desc := "(LBlottedDeed$Deed;)V" } : Jvm.MethodName)) ∈ gt := mg1 224 rfl rfl
theorem wt_225 : (Jvm.Cond.instanceMethod ({ cls := "BlottedDeed$Table", name := "<init>", desc := "(LBlottedDeed$Deed;)V" } : Jvm.MethodName)) ∈ gt := mg1 225 rfl rfl
theorem wt_226 : (Jvm.Cond.code ({ cls := "BlottedDeed$Table", name := "<init>", desc := "(LBlottedDeed$Deed;)V" } : Jvm.MethodName) prog_9_method_1_code (2 : Nat) (Option.none : Option Jvm.ClassFile.FieldType)) ∈ gt := mg1 226 rfl rfl
theorem wt_227 : (Jvm.Cond.methodLink "BlottedDeed$Table" (3 : Nat) ({ cls := "java/lang/Object", name := "<init>", desc := "()V" } : Jvm.MethodName)) ∈ gt := mg1 227 rfl rfl
theorem wt_228 : (Jvm.Cond.classLink "BlottedDeed$Table" (25 : Nat) "BlottedDeed$Row") ∈ gt := mg1 228 rfl rfl
theorem wt_229 : (Jvm.Cond.instantiable "BlottedDeed$Row" (6 : Nat)) ∈ gt := mg1 229 rfl rfl
theorem wt_231 : (Jvm.Cond.instanceMethod ({ cls := "BlottedDeed$Row", name := "<init>", desc := "()V" } : Jvm.MethodName)) ∈ gt := mg1 231 rfl rfl
theorem wt_232 : (Jvm.Cond.code ({ cls := "BlottedDeed$Row", name := "<init>", desc := "()V" } : Jvm.MethodName) prog_6_method_1_code (1 : Nat) (Option.none : Option Jvm.ClassFile.FieldType)) ∈ gt := mg1 232 rfl rfl
theorem wt_233 : (Jvm.Cond.methodLink "BlottedDeed$Row" (3 : Nat) ({ cls := "java/lang/Object", name := "<init>", desc := "()V" } : Jvm.MethodName)) ∈ gt := mg1 233 rfl rfl
theorem wt_234 : (Jvm.Cond.fieldLink "BlottedDeed$Row" (9 : Nat) "BlottedDeed$Row" "value" "[I") ∈ gt := mg1 234 rfl rfl
theorem wt_235 : (Jvm.Cond.fieldLink "BlottedDeed$Anew" (33 : Nat) "BlottedDeed$Row" "value" "[I") ∈ gt := mg1 235 rfl rfl
theorem wt_236 : (Jvm.Cond.fieldLink "BlottedDeed$Row" (15 : Nat) "BlottedDeed$Row" "digit" "[I") ∈ gt := mg1 236 rfl rfl
theorem wt_237 : (Jvm.Cond.fieldLink "BlottedDeed$Row" (18 : Nat) "BlottedDeed$Row" "coin" "[I") ∈ gt := mg1 237 rfl rfl
theorem wt_238 : (Jvm.Cond.fieldLink "BlottedDeed$Row" (21 : Nat) "BlottedDeed$Row" "owner" "[I") ∈ gt := mg1 238 rfl rfl
theorem wt_239 : (Jvm.Cond.fieldLink "BlottedDeed$Anew" (65 : Nat) "BlottedDeed$Row" "owner" "[I") ∈ gt := mg1 239 rfl rfl
theorem wt_240 : (Jvm.Cond.fieldLink "BlottedDeed$Table" (98 : Nat) "BlottedDeed$Row" "sum" "I") ∈ gt := mg2 0 rfl rfl
theorem wt_241 : (Jvm.Cond.fieldLink "BlottedDeed$Row" (71 : Nat) "BlottedDeed$Row" "sum" "I") ∈ gt := mg2 1 rfl rfl
theorem wt_242 : (Jvm.Cond.fieldLink "BlottedDeed$Row" (74 : Nat) "BlottedDeed$Row" "willedTwice" "Z") ∈ gt := mg2 2 rfl rfl
theorem wt_256 : (Jvm.Cond.methodLink "BlottedDeed$Table" (49 : Nat) ({ cls := "BlottedDeed$Table", name := "gather", desc := "(LBlottedDeed$Deed;)V" } : Jvm.MethodName)) ∈ gt := mg2 16 rfl rfl
theorem wt_257 : (Jvm.Cond.instanceMethod ({ cls := "BlottedDeed$Table", name := "gather", desc := "(LBlottedDeed$Deed;)V" } : Jvm.MethodName)) ∈ gt := mg2 17 rfl rfl
theorem wt_258 : (Jvm.Cond.selects "BlottedDeed$Table" ({ cls := "BlottedDeed$Table", name := "gather", desc := "(LBlottedDeed$Deed;)V" } : Jvm.MethodName) ({ cls := "BlottedDeed$Table", name := "gather", desc := "(LBlottedDeed$Deed;)V" } : Jvm.MethodName)) ∈ gt := mg2 18 rfl rfl
theorem wt_259 : (Jvm.Cond.code ({ cls := "BlottedDeed$Table", name := "gather", desc := "(LBlottedDeed$Deed;)V" } : Jvm.MethodName) prog_9_method_2_code (3 : Nat) (Option.none : Option Jvm.ClassFile.FieldType)) ∈ gt := mg2 19 rfl rfl
theorem wt_260 : (Jvm.Cond.methodLink "BlottedDeed$Table" (60 : Nat) ({ cls := "java/util/Arrays", name := "fill", desc := "([II)V" } : Jvm.MethodName)) ∈ gt := mg2 20 rfl rfl
theorem wt_261 : (Jvm.Cond.static ({ cls := "java/util/Arrays", name := "fill", desc := "([II)V" } : Jvm.MethodName)) ∈ gt := mg2 21 rfl rfl
theorem wt_262 : (Jvm.Cond.code ({ cls := "java/util/Arrays", name := "fill", desc := "([II)V" } : Jvm.MethodName) prog_33_method_103_code (4 : Nat) (Option.none : Option Jvm.ClassFile.FieldType)) ∈ gt := mg2 22 rfl rfl
theorem wt_263 : (Jvm.Cond.methodLink "BlottedDeed$Table" (66 : Nat) ({ cls := "BlottedDeed$Row", name := "showFirst", desc := "(LBlottedDeed$Deed;)V" } : Jvm.MethodName)) ∈ gt := mg2 23 rfl rfl
theorem wt_264 : (Jvm.Cond.instanceMethod ({ cls := "BlottedDeed$Row", name := "showFirst", desc := "(LBlottedDeed$Deed;)V" } : Jvm.MethodName)) ∈ gt := mg2 24 rfl rfl
theorem wt_265 : (Jvm.Cond.selects "BlottedDeed$Row" ({ cls := "BlottedDeed$Row", name := "showFirst", desc := "(LBlottedDeed$Deed;)V" } : Jvm.MethodName) ({ cls := "BlottedDeed$Row", name := "showFirst", desc := "(LBlottedDeed$Deed;)V" } : Jvm.MethodName)) ∈ gt := mg2 25 rfl rfl
theorem wt_266 : (Jvm.Cond.code ({ cls := "BlottedDeed$Row", name := "showFirst", desc := "(LBlottedDeed$Deed;)V" } : Jvm.MethodName) prog_6_method_2_code (2 : Nat) (Option.none : Option Jvm.ClassFile.FieldType)) ∈ gt := mg2 26 rfl rfl
theorem wt_267 : (Jvm.Cond.methodLink "BlottedDeed$Row" (33 : Nat) ({ cls := "java/lang/System", name := "arraycopy", desc := "(Ljava/lang/Object;ILjava/lang/Object;II)V" } : Jvm.MethodName)) ∈ gt := mg2 27 rfl rfl
theorem wt_268 : (Jvm.Cond.static ({ cls := "java/lang/System", name := "arraycopy", desc := "(Ljava/lang/Object;ILjava/lang/Object;II)V" } : Jvm.MethodName)) ∈ gt := mg2 28 rfl rfl
theorem wt_269 : (Jvm.Cond.native ({ cls := "java/lang/System", name := "arraycopy", desc := "(Ljava/lang/Object;ILjava/lang/Object;II)V" } : Jvm.MethodName)) ∈ gt := mg2 29 rfl rfl
theorem wt_270 : (Jvm.Cond.methodLink "BlottedDeed$Row" (39 : Nat) ({ cls := "java/util/Arrays", name := "fill", desc := "([II)V" } : Jvm.MethodName)) ∈ gt := mg2 30 rfl rfl
theorem wt_271 : (Jvm.Cond.methodLink "BlottedDeed$Table" (74 : Nat) ({ cls := "BlottedDeed$Row", name := "reckon", desc := "(LBlottedDeed$Deed;I)V" } : Jvm.MethodName)) ∈ gt := mg2 31 rfl rfl
theorem wt_272 : (Jvm.Cond.instanceMethod ({ cls := "BlottedDeed$Row", name := "reckon", desc := "(LBlottedDeed$Deed;I)V" } : Jvm.MethodName)) ∈ gt := mg2 32 rfl rfl
theorem wt_273 : (Jvm.Cond.selects "BlottedDeed$Row" ({ cls := "BlottedDeed$Row", name := "reckon", desc := "(LBlottedDeed$Deed;I)V" } : Jvm.MethodName) ({ cls := "BlottedDeed$Row", name := "reckon", desc := "(LBlottedDeed$Deed;I)V" } : Jvm.MethodName)) ∈ gt := mg2 33 rfl rfl
theorem wt_274 : (Jvm.Cond.code ({ cls := "BlottedDeed$Row", name := "reckon", desc := "(LBlottedDeed$Deed;I)V" } : Jvm.MethodName) prog_6_method_6_code (4 : Nat) (Option.none : Option Jvm.ClassFile.FieldType)) ∈ gt := mg2 34 rfl rfl
theorem wt_275 : (Jvm.Cond.fieldLink "BlottedDeed$Row" (91 : Nat) "BlottedDeed$Verb" "WILL" "LBlottedDeed$Verb;") ∈ gt := mg2 35 rfl rfl
theorem wt_277 : (Jvm.Cond.methodLink "BlottedDeed$Row" (96 : Nat) ({ cls := "BlottedDeed$Row", name := "will", desc := "(LBlottedDeed$Part;)V" } : Jvm.MethodName)) ∈ gt := mg2 37 rfl rfl
theorem wt_279 : (Jvm.Cond.instanceMethod ({ cls := "BlottedDeed$Row", name := "will", desc := "(LBlottedDeed$Part;)V" } : Jvm.MethodName)) ∈ gt := mg2 39 rfl rfl
theorem wt_280 : (Jvm.Cond.code ({ cls := "BlottedDeed$Row", name := "will", desc := "(LBlottedDeed$Part;)V" } : Jvm.MethodName) prog_6_method_7_code (3 : Nat) (Option.none : Option Jvm.ClassFile.FieldType)) ∈ gt := mg2 40 rfl rfl
theorem wt_281 : (Jvm.Cond.methodLink "BlottedDeed$Row" (100 : Nat) ({ cls := "BlottedDeed$Row", name := "pay", desc := "(LBlottedDeed$Part;)V" } : Jvm.MethodName)) ∈ gt := mg2 41 rfl rfl
theorem wt_283 : (Jvm.Cond.instanceMethod ({ cls := "BlottedDeed$Row", name := "pay", desc := "(LBlottedDeed$Part;)V" } : Jvm.MethodName)) ∈ gt := mg2 43 rfl rfl
theorem wt_284 : (Jvm.Cond.code ({ cls := "BlottedDeed$Row", name := "pay", desc := "(LBlottedDeed$Part;)V" } : Jvm.MethodName) prog_6_method_8_code (4 : Nat) (Option.none : Option Jvm.ClassFile.FieldType)) ∈ gt := mg2 44 rfl rfl
theorem wt_285 : (Jvm.Cond.fieldLink "BlottedDeed$Row" (107 : Nat) "BlottedDeed$Verb" "WHEN" "LBlottedDeed$Verb;") ∈ gt := mg2 45 rfl rfl
theorem wt_287 : (Jvm.Cond.methodLink "BlottedDeed$Table" (78 : Nat) ({ cls := "BlottedDeed$Row", name := "broken", desc := "(LBlottedDeed$Deed;)I" } : Jvm.MethodName)) ∈ gt := mg2 47 rfl rfl
theorem wt_288 : (Jvm.Cond.instanceMethod ({ cls := "BlottedDeed$Row", name := "broken", desc := "(LBlottedDeed$Deed;)I" } : Jvm.MethodName)) ∈ gt := mg2 48 rfl rfl
theorem wt_289 : (Jvm.Cond.selects "BlottedDeed$Row" ({ cls := "BlottedDeed$Row", name := "broken", desc := "(LBlottedDeed$Deed;)I" } : Jvm.MethodName) ({ cls := "BlottedDeed$Row", name := "broken", desc := "(LBlottedDeed$Deed;)I" } : Jvm.MethodName)) ∈ gt := mg2 49 rfl rfl
theorem wt_290 : (Jvm.Cond.code ({ cls := "BlottedDeed$Row", name := "broken", desc := "(LBlottedDeed$Deed;)I" } : Jvm.MethodName) prog_6_method_9_code (4 : Nat) (Option.some Jvm.ClassFile.FieldType.int)) ∈ gt := mg2 50 rfl rfl
theorem wt_291 : (Jvm.Cond.methodLink "BlottedDeed$Table" (82 : Nat) ({ cls := "BlottedDeed$Table", name := "note", desc := "(I)V" } : Jvm.MethodName)) ∈ gt := mg2 51 rfl rfl
theorem wt_293 : (Jvm.Cond.instanceMethod ({ cls := "BlottedDeed$Table", name := "note", desc := "(I)V" } : Jvm.MethodName)) ∈ gt := mg2 53 rfl rfl
theorem wt_294 : (Jvm.Cond.code ({ cls := "BlottedDeed$Table", name := "note", desc := "(I)V" } : Jvm.MethodName) prog_9_method_3_code (2 : Nat) (Option.none : Option Jvm.ClassFile.FieldType)) ∈ gt := mg2 54 rfl rfl
theorem wt_295 : (Jvm.Cond.methodLink "BlottedDeed$Table" (89 : Nat) ({ cls := "BlottedDeed$Table", name := "keepRow", desc := "()V" } : Jvm.MethodName)) ∈ gt := mg2 55 rfl rfl
theorem wt_297 : (Jvm.Cond.instanceMethod ({ cls := "BlottedDeed$Table", name := "keepRow", desc := "()V" } : Jvm.MethodName)) ∈ gt := mg2 57 rfl rfl
theorem wt_298 : (Jvm.Cond.code ({ cls := "BlottedDeed$Table", name := "keepRow", desc := "()V" } : Jvm.MethodName) prog_9_method_4_code (2 : Nat) (Option.none : Option Jvm.ClassFile.FieldType)) ∈ gt := mg2 58 rfl rfl
theorem wt_299 : (Jvm.Cond.methodLink "BlottedDeed$Table" (101 : Nat) ({ cls := "java/lang/Math", name := "min", desc := "(II)I" } : Jvm.MethodName)) ∈ gt := mg2 59 rfl rfl
theorem wt_300 : (Jvm.Cond.static ({ cls := "java/lang/Math", name := "min", desc := "(II)I" } : Jvm.MethodName)) ∈ gt := mg2 60 rfl rfl
theorem wt_301 : (Jvm.Cond.code ({ cls := "java/lang/Math", name := "min", desc := "(II)I" } : Jvm.MethodName) prog_24_method_69_code (2 : Nat) (Option.some Jvm.ClassFile.FieldType.int)) ∈ gt := mg2 61 rfl rfl
theorem wt_302 : (Jvm.Cond.methodLink "BlottedDeed$Table" (107 : Nat) ({ cls := "java/util/Arrays", name := "copyOf", desc := "([JI)[J" } : Jvm.MethodName)) ∈ gt := mg2 62 rfl rfl
theorem wt_303 : (Jvm.Cond.static ({ cls := "java/util/Arrays", name := "copyOf", desc := "([JI)[J" } : Jvm.MethodName)) ∈ gt := mg2 63 rfl rfl
theorem wt_304 : (Jvm.Cond.code ({ cls := "java/util/Arrays", name := "copyOf", desc := "([JI)[J" } : Jvm.MethodName) prog_33_method_124_code (3 : Nat) (Option.some (Jvm.ClassFile.FieldType.array Jvm.ClassFile.FieldType.long))) ∈ gt := mg2 64 rfl rfl
theorem wt_312 : (Jvm.Cond.methodLink "java/util/Arrays" (304 : Nat) ({ cls := "java/lang/Math", name := "min", desc := "(II)I" } : Jvm.MethodName)) ∈ gt := mg2 72 rfl rfl
theorem wt_313 : (Jvm.Cond.methodLink "java/util/Arrays" (150 : Nat) ({ cls := "java/lang/System", name := "arraycopy", desc := "(Ljava/lang/Object;ILjava/lang/Object;II)V" } : Jvm.MethodName)) ∈ gt := mg2 73 rfl rfl
theorem wt_314 : (Jvm.Cond.methodLink "BlottedDeed$Table" (114 : Nat) ({ cls := "BlottedDeed$Row", name := "marks", desc := "(I)J" } : Jvm.MethodName)) ∈ gt := mg2 74 rfl rfl
theorem wt_315 : (Jvm.Cond.instanceMethod ({ cls := "BlottedDeed$Row", name := "marks", desc := "(I)J" } : Jvm.MethodName)) ∈ gt := mg2 75 rfl rfl
theorem wt_316 : (Jvm.Cond.selects "BlottedDeed$Row" ({ cls := "BlottedDeed$Row", name := "marks", desc := "(I)J" } : Jvm.MethodName) ({ cls := "BlottedDeed$Row", name := "marks", desc := "(I)J" } : Jvm.MethodName)) ∈ gt := mg2 76 rfl rfl
theorem wt_317 : (Jvm.Cond.code ({ cls := "BlottedDeed$Row", name := "marks", desc := "(I)J" } : Jvm.MethodName) prog_6_method_10_code (5 : Nat) (Option.some Jvm.ClassFile.FieldType.long)) ∈ gt := mg2 77 rfl rfl
theorem wt_318 : (Jvm.Cond.methodLink "BlottedDeed$Table" (117 : Nat) ({ cls := "BlottedDeed$Row", name := "shares", desc := "()J" } : Jvm.MethodName)) ∈ gt := mg2 78 rfl rfl
theorem wt_319 : (Jvm.Cond.instanceMethod ({ cls := "BlottedDeed$Row", name := "shares", desc := "()J" } : Jvm.MethodName)) ∈ gt := mg2 79 rfl rfl
theorem wt_320 : (Jvm.Cond.selects "BlottedDeed$Row" ({ cls := "BlottedDeed$Row", name := "shares", desc := "()J" } : Jvm.MethodName) ({ cls := "BlottedDeed$Row", name := "shares", desc := "()J" } : Jvm.MethodName)) ∈ gt := mg2 80 rfl rfl
theorem wt_321 : (Jvm.Cond.code ({ cls := "BlottedDeed$Row", name := "shares", desc := "()J" } : Jvm.MethodName) prog_6_method_12_code (4 : Nat) (Option.some Jvm.ClassFile.FieldType.long)) ∈ gt := mg2 81 rfl rfl
theorem wt_322 : (Jvm.Cond.methodLink "BlottedDeed$Table" (92 : Nat) ({ cls := "java/lang/Integer", name := "bitCount", desc := "(I)I" } : Jvm.MethodName)) ∈ gt := mg2 82 rfl rfl
theorem wt_323 : (Jvm.Cond.static ({ cls := "java/lang/Integer", name := "bitCount", desc := "(I)I" } : Jvm.MethodName)) ∈ gt := mg2 83 rfl rfl
theorem wt_324 : (Jvm.Cond.code ({ cls := "java/lang/Integer", name := "bitCount", desc := "(I)I" } : Jvm.MethodName) prog_22_method_49_code (1 : Nat) (Option.some Jvm.ClassFile.FieldType.int)) ∈ gt := mg2 84 rfl rfl
theorem wt_325 : (Jvm.Cond.constant "java/lang/Integer" (265 : Nat) (1431655765 : Int32)) ∈ gt := mg2 85 rfl rfl
theorem wt_326 : (Jvm.Cond.constant "java/lang/Integer" (266 : Nat) (858993459 : Int32)) ∈ gt := mg2 86 rfl rfl
theorem wt_327 : (Jvm.Cond.constant "java/lang/Integer" (267 : Nat) (252645135 : Int32)) ∈ gt := mg2 87 rfl rfl
theorem wt_328 : (Jvm.Cond.methodLink "BlottedDeed$Table" (86 : Nat) ({ cls := "BlottedDeed$Row", name := "showNext", desc := "(LBlottedDeed$Deed;)V" } : Jvm.MethodName)) ∈ gt := mg2 88 rfl rfl
theorem wt_329 : (Jvm.Cond.instanceMethod ({ cls := "BlottedDeed$Row", name := "showNext", desc := "(LBlottedDeed$Deed;)V" } : Jvm.MethodName)) ∈ gt := mg2 89 rfl rfl
theorem wt_330 : (Jvm.Cond.selects "BlottedDeed$Row" ({ cls := "BlottedDeed$Row", name := "showNext", desc := "(LBlottedDeed$Deed;)V" } : Jvm.MethodName) ({ cls := "BlottedDeed$Row", name := "showNext", desc := "(LBlottedDeed$Deed;)V" } : Jvm.MethodName)) ∈ gt := mg2 90 rfl rfl
theorem wt_331 : (Jvm.Cond.code ({ cls := "BlottedDeed$Row", name := "showNext", desc := "(LBlottedDeed$Deed;)V" } : Jvm.MethodName) prog_6_method_5_code (3 : Nat) (Option.none : Option Jvm.ClassFile.FieldType)) ∈ gt := mg2 91 rfl rfl
theorem wt_332 : (Jvm.Cond.methodLink "BlottedDeed$Row" (52 : Nat) ({ cls := "BlottedDeed$Row", name := "put", desc := "(LBlottedDeed$Deed;II)V" } : Jvm.MethodName)) ∈ gt := mg2 92 rfl rfl
theorem wt_334 : (Jvm.Cond.instanceMethod ({ cls := "BlottedDeed$Row", name := "put", desc := "(LBlottedDeed$Deed;II)V" } : Jvm.MethodName)) ∈ gt := mg2 94 rfl rfl
theorem wt_335 : (Jvm.Cond.code ({ cls := "BlottedDeed$Row", name := "put", desc := "(LBlottedDeed$Deed;II)V" } : Jvm.MethodName) prog_6_method_4_code (5 : Nat) (Option.none : Option Jvm.ClassFile.FieldType)) ∈ gt := mg2 95 rfl rfl
theorem wt_336 : (Jvm.Cond.fieldLink "BlottedDeed$Table" (11 : Nat) "BlottedDeed$Table" "marks" "[J") ∈ gt := mg2 96 rfl rfl
theorem wt_337 : (Jvm.Cond.fieldLink "BlottedDeed" (250 : Nat) "BlottedDeed$Table" "marks" "[J") ∈ gt := mg2 97 rfl rfl
theorem wt_338 : (Jvm.Cond.fieldLink "BlottedDeed$Table" (15 : Nat) "BlottedDeed$Table" "shares" "[J") ∈ gt := mg2 98 rfl rfl
theorem wt_339 : (Jvm.Cond.fieldLink "BlottedDeed$Table" (53 : Nat) "BlottedDeed$Table" "size" "I") ∈ gt := mg2 99 rfl rfl
theorem wt_340 : (Jvm.Cond.fieldLink "BlottedDeed" (150 : Nat) "BlottedDeed$Table" "size" "I") ∈ gt := mg2 100 rfl rfl
theorem wt_341 : (Jvm.Cond.fieldLink "BlottedDeed$Table" (18 : Nat) "BlottedDeed$Table" "rowsOfSum" "[I") ∈ gt := mg2 101 rfl rfl
theorem wt_342 : (Jvm.Cond.fieldLink "BlottedDeed" (309 : Nat) "BlottedDeed$Table" "rowsOfSum" "[I") ∈ gt := mg2 102 rfl rfl
theorem wt_343 : (Jvm.Cond.fieldLink "BlottedDeed$Table" (22 : Nat) "BlottedDeed$Table" "path" "[I") ∈ gt := mg2 103 rfl rfl
theorem wt_344 : (Jvm.Cond.fieldLink "BlottedDeed" (306 : Nat) "BlottedDeed$Table" "path" "[I") ∈ gt := mg2 104 rfl rfl
theorem wt_345 : (Jvm.Cond.fieldLink "BlottedDeed$Table" (45 : Nat) "BlottedDeed$Table" "deed" "LBlottedDeed$Deed;") ∈ gt := mg2 105 rfl rfl
theorem wt_346 : (Jvm.Cond.fieldLink "BlottedDeed$Table" (28 : Nat) "BlottedDeed$Table" "row" "LBlottedDeed$Row;") ∈ gt := mg2 106 rfl rfl
theorem wt_347 : (Jvm.Cond.fieldLink "BlottedDeed$Table" (57 : Nat) "BlottedDeed$Table" "onlyBroken" "I") ∈ gt := mg2 107 rfl rfl
theorem wt_348 : (Jvm.Cond.fieldLink "BlottedDeed$Table" (32 : Nat) "BlottedDeed$Table" "tally" "[I") ∈ gt := mg2 108 rfl rfl
theorem wt_349 : (Jvm.Cond.fieldLink "BlottedDeed$Table" (35 : Nat) "BlottedDeed$Table" "struckRows" "[I") ∈ gt := mg2 109 rfl rfl
theorem wt_350 : (Jvm.Cond.fieldLink "BlottedDeed$Table" (38 : Nat) "BlottedDeed$Table" "fewestSet" "[I") ∈ gt := mg2 110 rfl rfl
theorem wt_351 : (Jvm.Cond.fieldLink "BlottedDeed$Table" (41 : Nat) "BlottedDeed$Table" "group" "[B") ∈ gt := mg2 111 rfl rfl
theorem wt_377 : (Jvm.Cond.arrayClass Jvm.ClassFile.FieldType.byte) ∈ gt := mg2 137 rfl rfl
theorem wt_378 : (Jvm.Cond.classLink "BlottedDeed" (41 : Nat) "BlottedDeed$Anew") ∈ gt := mg2 138 rfl rfl
theorem wt_379 : (Jvm.Cond.instantiable "BlottedDeed$Anew" (3 : Nat)) ∈ gt := mg2 139 rfl rfl
theorem wt_380 : (Jvm.Cond.methodLink "BlottedDeed" (43 : Nat) ({ cls := "BlottedDeed$Anew", name := "<init>", desc := "(LBlottedDeed$Deed;)V" } : Jvm.MethodName)) ∈ gt := mg2 140 rfl rfl
theorem wt_381 : (Jvm.Cond.instanceMethod ({ cls := "BlottedDeed$Anew", name := "<init>", desc := "(LBlottedDeed$Deed;)V" } : Jvm.MethodName)) ∈ gt := mg2 141 rfl rfl
theorem wt_382 : (Jvm.Cond.code ({ cls := "BlottedDeed$Anew", name := "<init>", desc := "(LBlottedDeed$Deed;)V" } : Jvm.MethodName) prog_2_method_1_code (2 : Nat) (Option.none : Option Jvm.ClassFile.FieldType)) ∈ gt := mg2 142 rfl rfl
theorem wt_383 : (Jvm.Cond.methodLink "BlottedDeed$Anew" (3 : Nat) ({ cls := "java/lang/Object", name := "<init>", desc := "()V" } : Jvm.MethodName)) ∈ gt := mg2 143 rfl rfl
theorem wt_384 : (Jvm.Cond.classLink "BlottedDeed$Anew" (9 : Nat) "BlottedDeed$Row") ∈ gt := mg2 144 rfl rfl
theorem wt_386 : (Jvm.Cond.classLink "BlottedDeed$Anew" (18 : Nat) "BlottedDeed$Blot") ∈ gt := mg2 146 rfl rfl
theorem wt_388 : (Jvm.Cond.fieldLink "BlottedDeed$Anew" (12 : Nat) "BlottedDeed$Anew" "row" "LBlottedDeed$Row;") ∈ gt := mg2 148 rfl rfl
theorem wt_389 : (Jvm.Cond.fieldLink "BlottedDeed$Anew" (21 : Nat) "BlottedDeed$Anew" "blot" "LBlottedDeed$Blot;") ∈ gt := mg2 149 rfl rfl
theorem wt_390 : (Jvm.Cond.fieldLink "BlottedDeed$Anew" (25 : Nat) "BlottedDeed$Anew" "deed" "LBlottedDeed$Deed;") ∈ gt := mg2 150 rfl rfl
theorem wt_398 : (Jvm.Cond.classLink "BlottedDeed" (48 : Nat) "BlottedDeed$Scales") ∈ gt := mg2 158 rfl rfl
theorem wt_399 : (Jvm.Cond.instantiable "BlottedDeed$Scales" (3 : Nat)) ∈ gt := mg2 159 rfl rfl
theorem wt_401 : (Jvm.Cond.instanceMethod ({ cls := "BlottedDeed$Scales", name := "<init>", desc := "()V" } : Jvm.MethodName)) ∈ gt := mg2 161 rfl rfl
theorem wt_402 : (Jvm.Cond.code ({ cls := "BlottedDeed$Scales", name := "<init>", desc := "()V" } : Jvm.MethodName) prog_7_method_1_code (1 : Nat) (Option.none : Option Jvm.ClassFile.FieldType)) ∈ gt := mg2 162 rfl rfl
theorem wt_403 : (Jvm.Cond.methodLink "BlottedDeed$Scales" (3 : Nat) ({ cls := "java/lang/Object", name := "<init>", desc := "()V" } : Jvm.MethodName)) ∈ gt := mg2 163 rfl rfl
theorem wt_404 : (Jvm.Cond.fieldLink "BlottedDeed$Scales" (9 : Nat) "BlottedDeed$Scales" "odds" "[J") ∈ gt := mg2 164 rfl rfl
theorem wt_405 : (Jvm.Cond.fieldLink "BlottedDeed$Scales" (15 : Nat) "BlottedDeed$Scales" "slips" "[I") ∈ gt := mg2 165 rfl rfl
theorem wt_406 : (Jvm.Cond.fieldLink "BlottedDeed$Scales" (25 : Nat) "BlottedDeed$Scales" "blots" "I") ∈ gt := mg2 166 rfl rfl
theorem wt_414 : (Jvm.Cond.classLink "BlottedDeed" (55 : Nat) "BlottedDeed$Testimony") ∈ gt := mg2 174 rfl rfl
theorem wt_415 : (Jvm.Cond.instantiable "BlottedDeed$Testimony" (9 : Nat)) ∈ gt := mg2 175 rfl rfl
theorem wt_417 : (Jvm.Cond.instanceMethod ({ cls := "BlottedDeed$Testimony", name := "<init>", desc := "()V" } : Jvm.MethodName)) ∈ gt := mg2 177 rfl rfl
theorem wt_418 : (Jvm.Cond.code ({ cls := "BlottedDeed$Testimony", name := "<init>", desc := "()V" } : Jvm.MethodName) prog_10_method_1_code (1 : Nat) (Option.none : Option Jvm.ClassFile.FieldType)) ∈ gt := mg2 178 rfl rfl
theorem wt_419 : (Jvm.Cond.methodLink "BlottedDeed$Testimony" (3 : Nat) ({ cls := "java/lang/Object", name := "<init>", desc := "()V" } : Jvm.MethodName)) ∈ gt := mg2 179 rfl rfl
theorem wt_420 : (Jvm.Cond.fieldLink "BlottedDeed$Testimony" (9 : Nat) "BlottedDeed$Testimony" "copyHand" "[I") ∈ gt := mg2 180 rfl rfl
theorem wt_421 : (Jvm.Cond.fieldLink "BlottedDeed$Testimony" (15 : Nat) "BlottedDeed$Testimony" "copyBlot" "[I") ∈ gt := mg2 181 rfl rfl
theorem wt_423 : (Jvm.Cond.fieldLink "BlottedDeed$Testimony" (18 : Nat) "BlottedDeed$Testimony" "copyTells" "[I") ∈ gt := mg2 183 rfl rfl
theorem wt_425 : (Jvm.Cond.fieldLink "BlottedDeed$Testimony" (21 : Nat) "BlottedDeed$Testimony" "habitHand" "[I") ∈ gt := mg2 185 rfl rfl
theorem wt_426 : (Jvm.Cond.fieldLink "BlottedDeed$Testimony" (24 : Nat) "BlottedDeed$Testimony" "habitWritten" "[I") ∈ gt := mg2 186 rfl rfl
theorem wt_427 : (Jvm.Cond.fieldLink "BlottedDeed$Testimony" (27 : Nat) "BlottedDeed$Testimony" "habitMeant" "[I") ∈ gt := mg2 187 rfl rfl
theorem wt_428 : (Jvm.Cond.fieldLink "BlottedDeed$Testimony" (30 : Nat) "BlottedDeed$Testimony" "habitOdds" "[I") ∈ gt := mg2 188 rfl rfl
theorem wt_429 : (Jvm.Cond.fieldLink "BlottedDeed$Testimony" (33 : Nat) "BlottedDeed$Testimony" "copies" "I") ∈ gt := mg2 189 rfl rfl
theorem wt_430 : (Jvm.Cond.fieldLink "BlottedDeed$Scales" (35 : Nat) "BlottedDeed$Testimony" "copies" "I") ∈ gt := mg2 190 rfl rfl
theorem wt_431 : (Jvm.Cond.fieldLink "BlottedDeed" (240 : Nat) "BlottedDeed$Testimony" "copies" "I") ∈ gt := mg2 191 rfl rfl
theorem wt_432 : (Jvm.Cond.fieldLink "BlottedDeed$Testimony" (37 : Nat) "BlottedDeed$Testimony" "habits" "I") ∈ gt := mg2 192 rfl rfl
theorem wt_433 : (Jvm.Cond.fieldLink "BlottedDeed" (243 : Nat) "BlottedDeed$Testimony" "habits" "I") ∈ gt := mg2 193 rfl rfl
theorem wt_454 : (Jvm.Cond.fieldLink "BlottedDeed" (9 : Nat) "BlottedDeed" "tape" "[I") ∈ gt := mg2 214 rfl rfl
theorem wt_455 : (Jvm.Cond.fieldLink "BlottedDeed" (73 : Nat) "BlottedDeed" "fed" "I") ∈ gt := mg2 215 rfl rfl
theorem wt_456 : (Jvm.Cond.fieldLink "BlottedDeed" (28 : Nat) "BlottedDeed" "scribe" "LBlottedDeed$Scribe;") ∈ gt := mg2 216 rfl rfl
theorem wt_457 : (Jvm.Cond.fieldLink "BlottedDeed" (16 : Nat) "BlottedDeed" "standing" "LBlottedDeed$Deed;") ∈ gt := mg2 217 rfl rfl
theorem wt_458 : (Jvm.Cond.fieldLink "BlottedDeed" (20 : Nat) "BlottedDeed" "draft" "LBlottedDeed$Deed;") ∈ gt := mg2 218 rfl rfl
theorem wt_459 : (Jvm.Cond.fieldLink "BlottedDeed" (37 : Nat) "BlottedDeed" "table" "LBlottedDeed$Table;") ∈ gt := mg2 219 rfl rfl
theorem wt_460 : (Jvm.Cond.fieldLink "BlottedDeed" (44 : Nat) "BlottedDeed" "anew" "LBlottedDeed$Anew;") ∈ gt := mg2 220 rfl rfl
theorem wt_461 : (Jvm.Cond.fieldLink "BlottedDeed" (51 : Nat) "BlottedDeed" "scales" "LBlottedDeed$Scales;") ∈ gt := mg2 221 rfl rfl
theorem wt_462 : (Jvm.Cond.fieldLink "BlottedDeed" (58 : Nat) "BlottedDeed" "testimony" "LBlottedDeed$Testimony;") ∈ gt := mg2 222 rfl rfl
theorem wt_463 : (Jvm.Cond.fieldLink "BlottedDeed" (62 : Nat) "BlottedDeed" "images" "[LBlottedDeed$Testimony;") ∈ gt := mg2 223 rfl rfl
theorem wt_464 : (Jvm.Cond.fieldLink "BlottedDeed" (95 : Nat) "BlottedDeed" "kept" "I") ∈ gt := mg2 224 rfl rfl
theorem wt_465 : (Jvm.Cond.fieldLink "BlottedDeed" (66 : Nat) "BlottedDeed" "faultPlace" "I") ∈ gt := mg2 225 rfl rfl
theorem wt_466 : (Jvm.Cond.fieldLink "BlottedDeed" (70 : Nat) "BlottedDeed" "refused" "[I") ∈ gt := mg2 226 rfl rfl
theorem wt_494 : (Jvm.Cond.methodLink "BlottedDeedLaw" (122 : Nat) ({ cls := "BlottedDeed", name := "feed", desc := "(IIIII)I" } : Jvm.MethodName)) ∈ gt := mg3 14 rfl rfl
theorem wt_495 : (Jvm.Cond.instanceMethod ({ cls := "BlottedDeed", name := "feed", desc := "(IIIII)I" } : Jvm.MethodName)) ∈ gt := mg3 15 rfl rfl
theorem wt_496 : (Jvm.Cond.selects "BlottedDeed" ({ cls := "BlottedDeed", name := "feed", desc := "(IIIII)I" } : Jvm.MethodName) ({ cls := "BlottedDeed", name := "feed", desc := "(IIIII)I" } : Jvm.MethodName)) ∈ gt := mg3 16 rfl rfl
theorem wt_497 : (Jvm.Cond.code ({ cls := "BlottedDeed", name := "feed", desc := "(IIIII)I" } : Jvm.MethodName) prog_1_method_2_code (6 : Nat) (Option.some Jvm.ClassFile.FieldType.int)) ∈ gt := mg3 17 rfl rfl
theorem wt_498 : (Jvm.Cond.methodLink "BlottedDeed" (76 : Nat) ({ cls := "BlottedDeed", name := "putBytes", desc := "(I)V" } : Jvm.MethodName)) ∈ gt := mg3 18 rfl rfl
theorem wt_500 : (Jvm.Cond.instanceMethod ({ cls := "BlottedDeed", name := "putBytes", desc := "(I)V" } : Jvm.MethodName)) ∈ gt := mg3 20 rfl rfl
theorem wt_501 : (Jvm.Cond.code ({ cls := "BlottedDeed", name := "putBytes", desc := "(I)V" } : Jvm.MethodName) prog_1_method_3_code (3 : Nat) (Option.none : Option Jvm.ClassFile.FieldType)) ∈ gt := mg3 21 rfl rfl
theorem wt_502 : (Jvm.Cond.methodLink "BlottedDeedLaw" (137 : Nat) ({ cls := "BlottedDeed", name := "fault", desc := "()I" } : Jvm.MethodName)) ∈ gt := mg3 22 rfl rfl
theorem wt_503 : (Jvm.Cond.instanceMethod ({ cls := "BlottedDeed", name := "fault", desc := "()I" } : Jvm.MethodName)) ∈ gt := mg3 23 rfl rfl
theorem wt_504 : (Jvm.Cond.selects "BlottedDeed" ({ cls := "BlottedDeed", name := "fault", desc := "()I" } : Jvm.MethodName) ({ cls := "BlottedDeed", name := "fault", desc := "()I" } : Jvm.MethodName)) ∈ gt := mg3 24 rfl rfl
theorem wt_505 : (Jvm.Cond.code ({ cls := "BlottedDeed", name := "fault", desc := "()I" } : Jvm.MethodName) prog_1_method_5_code (1 : Nat) (Option.some Jvm.ClassFile.FieldType.int)) ∈ gt := mg3 25 rfl rfl
theorem wt_506 : (Jvm.Cond.methodLink "BlottedDeedLaw" (151 : Nat) ({ cls := "BlottedDeed", name := "readings", desc := "()I" } : Jvm.MethodName)) ∈ gt := mg3 26 rfl rfl
theorem wt_507 : (Jvm.Cond.instanceMethod ({ cls := "BlottedDeed", name := "readings", desc := "()I" } : Jvm.MethodName)) ∈ gt := mg3 27 rfl rfl
theorem wt_508 : (Jvm.Cond.selects "BlottedDeed" ({ cls := "BlottedDeed", name := "readings", desc := "()I" } : Jvm.MethodName) ({ cls := "BlottedDeed", name := "readings", desc := "()I" } : Jvm.MethodName)) ∈ gt := mg3 28 rfl rfl
theorem wt_509 : (Jvm.Cond.code ({ cls := "BlottedDeed", name := "readings", desc := "()I" } : Jvm.MethodName) prog_1_method_9_code (1 : Nat) (Option.some Jvm.ClassFile.FieldType.int)) ∈ gt := mg3 29 rfl rfl
theorem wt_510 : (Jvm.Cond.methodLink "BlottedDeedLaw" (161 : Nat) ({ cls := "BlottedDeed", name := "bars", desc := "()I" } : Jvm.MethodName)) ∈ gt := mg3 30 rfl rfl
theorem wt_511 : (Jvm.Cond.instanceMethod ({ cls := "BlottedDeed", name := "bars", desc := "()I" } : Jvm.MethodName)) ∈ gt := mg3 31 rfl rfl
theorem wt_512 : (Jvm.Cond.selects "BlottedDeed" ({ cls := "BlottedDeed", name := "bars", desc := "()I" } : Jvm.MethodName) ({ cls := "BlottedDeed", name := "bars", desc := "()I" } : Jvm.MethodName)) ∈ gt := mg3 32 rfl rfl
theorem wt_513 : (Jvm.Cond.code ({ cls := "BlottedDeed", name := "bars", desc := "()I" } : Jvm.MethodName) prog_1_method_12_code (1 : Nat) (Option.some Jvm.ClassFile.FieldType.int)) ∈ gt := mg3 33 rfl rfl
theorem wt_514 : (Jvm.Cond.methodLink "BlottedDeed" (162 : Nat) ({ cls := "BlottedDeed$Table", name := "barring", desc := "()I" } : Jvm.MethodName)) ∈ gt := mg3 34 rfl rfl
theorem wt_515 : (Jvm.Cond.instanceMethod ({ cls := "BlottedDeed$Table", name := "barring", desc := "()I" } : Jvm.MethodName)) ∈ gt := mg3 35 rfl rfl
theorem wt_516 : (Jvm.Cond.selects "BlottedDeed$Table" ({ cls := "BlottedDeed$Table", name := "barring", desc := "()I" } : Jvm.MethodName) ({ cls := "BlottedDeed$Table", name := "barring", desc := "()I" } : Jvm.MethodName)) ∈ gt := mg3 36 rfl rfl
theorem wt_517 : (Jvm.Cond.code ({ cls := "BlottedDeed$Table", name := "barring", desc := "()I" } : Jvm.MethodName) prog_9_method_5_code (2 : Nat) (Option.some Jvm.ClassFile.FieldType.int)) ∈ gt := mg3 37 rfl rfl
theorem wt_518 : (Jvm.Cond.methodLink "BlottedDeedLaw" (187 : Nat) ({ cls := "BlottedDeed", name := "settles", desc := "()I" } : Jvm.MethodName)) ∈ gt := mg3 38 rfl rfl
theorem wt_519 : (Jvm.Cond.instanceMethod ({ cls := "BlottedDeed", name := "settles", desc := "()I" } : Jvm.MethodName)) ∈ gt := mg3 39 rfl rfl
theorem wt_520 : (Jvm.Cond.selects "BlottedDeed" ({ cls := "BlottedDeed", name := "settles", desc := "()I" } : Jvm.MethodName) ({ cls := "BlottedDeed", name := "settles", desc := "()I" } : Jvm.MethodName)) ∈ gt := mg3 40 rfl rfl
theorem wt_521 : (Jvm.Cond.code ({ cls := "BlottedDeed", name := "settles", desc := "()I" } : Jvm.MethodName) prog_1_method_20_code (1 : Nat) (Option.some Jvm.ClassFile.FieldType.int)) ∈ gt := mg3 41 rfl rfl
theorem wt_522 : (Jvm.Cond.methodLink "BlottedDeed" (200 : Nat) ({ cls := "BlottedDeed$Table", name := "cleanNext", desc := "(JJ)I" } : Jvm.MethodName)) ∈ gt := mg3 42 rfl rfl
theorem wt_523 : (Jvm.Cond.instanceMethod ({ cls := "BlottedDeed$Table", name := "cleanNext", desc := "(JJ)I" } : Jvm.MethodName)) ∈ gt := mg3 43 rfl rfl
theorem wt_524 : (Jvm.Cond.selects "BlottedDeed$Table" ({ cls := "BlottedDeed$Table", name := "cleanNext", desc := "(JJ)I" } : Jvm.MethodName) ({ cls := "BlottedDeed$Table", name := "cleanNext", desc := "(JJ)I" } : Jvm.MethodName)) ∈ gt := mg3 44 rfl rfl
theorem wt_525 : (Jvm.Cond.code ({ cls := "BlottedDeed$Table", name := "cleanNext", desc := "(JJ)I" } : Jvm.MethodName) prog_9_method_21_code (9 : Nat) (Option.some Jvm.ClassFile.FieldType.int)) ∈ gt := mg3 45 rfl rfl
theorem wt_526 : (Jvm.Cond.methodLink "BlottedDeed$Table" (155 : Nat) ({ cls := "BlottedDeed$Table", name := "maskOf", desc := "(I)J" } : Jvm.MethodName)) ∈ gt := mg3 46 rfl rfl
theorem wt_527 : (Jvm.Cond.static ({ cls := "BlottedDeed$Table", name := "maskOf", desc := "(I)J" } : Jvm.MethodName)) ∈ gt := mg3 47 rfl rfl
theorem wt_528 : (Jvm.Cond.code ({ cls := "BlottedDeed$Table", name := "maskOf", desc := "(I)J" } : Jvm.MethodName) prog_9_method_22_code (1 : Nat) (Option.some Jvm.ClassFile.FieldType.long)) ∈ gt := mg3 48 rfl rfl
theorem wt_529 : (Jvm.Cond.constantLong "BlottedDeed$Table" (162 : Nat) (255 : Int64)) ∈ gt := mg3 49 rfl rfl
theorem wt_530 : (Jvm.Cond.methodLink "BlottedDeed$Table" (158 : Nat) ({ cls := "BlottedDeed$Table", name := "mostLeft", desc := "(IJJ)I" } : Jvm.MethodName)) ∈ gt := mg3 50 rfl rfl
theorem wt_531 : (Jvm.Cond.instanceMethod ({ cls := "BlottedDeed$Table", name := "mostLeft", desc := "(IJJ)I" } : Jvm.MethodName)) ∈ gt := mg3 51 rfl rfl
theorem wt_532 : (Jvm.Cond.selects "BlottedDeed$Table" ({ cls := "BlottedDeed$Table", name := "mostLeft", desc := "(IJJ)I" } : Jvm.MethodName) ({ cls := "BlottedDeed$Table", name := "mostLeft", desc := "(IJJ)I" } : Jvm.MethodName)) ∈ gt := mg3 52 rfl rfl
theorem wt_533 : (Jvm.Cond.code ({ cls := "BlottedDeed$Table", name := "mostLeft", desc := "(IJJ)I" } : Jvm.MethodName) prog_9_method_20_code (8 : Nat) (Option.some Jvm.ClassFile.FieldType.int)) ∈ gt := mg3 53 rfl rfl
theorem wt_534 : (Jvm.Cond.methodLink "BlottedDeed$Table" (151 : Nat) ({ cls := "BlottedDeed$Table", name := "tallyUp", desc := "(IJJ)V" } : Jvm.MethodName)) ∈ gt := mg3 54 rfl rfl
theorem wt_536 : (Jvm.Cond.instanceMethod ({ cls := "BlottedDeed$Table", name := "tallyUp", desc := "(IJJ)V" } : Jvm.MethodName)) ∈ gt := mg3 56 rfl rfl
theorem wt_537 : (Jvm.Cond.code ({ cls := "BlottedDeed$Table", name := "tallyUp", desc := "(IJJ)V" } : Jvm.MethodName) prog_9_method_17_code (7 : Nat) (Option.none : Option Jvm.ClassFile.FieldType)) ∈ gt := mg3 57 rfl rfl
theorem wt_538 : (Jvm.Cond.methodLink "BlottedDeed$Table" (148 : Nat) ({ cls := "BlottedDeed$Table", name := "digit", desc := "(II)I" } : Jvm.MethodName)) ∈ gt := mg3 58 rfl rfl
theorem wt_539 : (Jvm.Cond.instanceMethod ({ cls := "BlottedDeed$Table", name := "digit", desc := "(II)I" } : Jvm.MethodName)) ∈ gt := mg3 59 rfl rfl
theorem wt_540 : (Jvm.Cond.selects "BlottedDeed$Table" ({ cls := "BlottedDeed$Table", name := "digit", desc := "(II)I" } : Jvm.MethodName) ({ cls := "BlottedDeed$Table", name := "digit", desc := "(II)I" } : Jvm.MethodName)) ∈ gt := mg3 60 rfl rfl
theorem wt_541 : (Jvm.Cond.code ({ cls := "BlottedDeed$Table", name := "digit", desc := "(II)I" } : Jvm.MethodName) prog_9_method_6_code (3 : Nat) (Option.some Jvm.ClassFile.FieldType.int)) ∈ gt := mg3 61 rfl rfl
theorem wt_542 : (Jvm.Cond.methodLink "BlottedDeed$Table" (120 : Nat) ({ cls := "BlottedDeed$Row", name := "digitIn", desc := "(JI)I" } : Jvm.MethodName)) ∈ gt := mg3 62 rfl rfl
theorem wt_543 : (Jvm.Cond.static ({ cls := "BlottedDeed$Row", name := "digitIn", desc := "(JI)I" } : Jvm.MethodName)) ∈ gt := mg3 63 rfl rfl
theorem wt_544 : (Jvm.Cond.code ({ cls := "BlottedDeed$Row", name := "digitIn", desc := "(JI)I" } : Jvm.MethodName) prog_6_method_11_code (3 : Nat) (Option.some Jvm.ClassFile.FieldType.int)) ∈ gt := mg3 64 rfl rfl
theorem wt_545 : (Jvm.Cond.methodLink "BlottedDeed$Table" (139 : Nat) ({ cls := "java/lang/Math", name := "max", desc := "(II)I" } : Jvm.MethodName)) ∈ gt := mg3 65 rfl rfl
theorem wt_546 : (Jvm.Cond.static ({ cls := "java/lang/Math", name := "max", desc := "(II)I" } : Jvm.MethodName)) ∈ gt := mg3 66 rfl rfl
theorem wt_547 : (Jvm.Cond.code ({ cls := "java/lang/Math", name := "max", desc := "(II)I" } : Jvm.MethodName) prog_24_method_65_code (2 : Nat) (Option.some Jvm.ClassFile.FieldType.int)) ∈ gt := mg3 67 rfl rfl
theorem wt_548 : (Jvm.Cond.methodLink "BlottedDeedLaw" (210 : Nat) ({ cls := "BlottedDeed", name := "forget", desc := "()I" } : Jvm.MethodName)) ∈ gt := mg3 68 rfl rfl
theorem wt_549 : (Jvm.Cond.instanceMethod ({ cls := "BlottedDeed", name := "forget", desc := "()I" } : Jvm.MethodName)) ∈ gt := mg3 69 rfl rfl
theorem wt_550 : (Jvm.Cond.selects "BlottedDeed" ({ cls := "BlottedDeed", name := "forget", desc := "()I" } : Jvm.MethodName) ({ cls := "BlottedDeed", name := "forget", desc := "()I" } : Jvm.MethodName)) ∈ gt := mg3 70 rfl rfl
theorem wt_551 : (Jvm.Cond.code ({ cls := "BlottedDeed", name := "forget", desc := "()I" } : Jvm.MethodName) prog_1_method_27_code (2 : Nat) (Option.some Jvm.ClassFile.FieldType.int)) ∈ gt := mg3 71 rfl rfl
theorem wt_552 : (Jvm.Cond.methodLink "BlottedDeed" (92 : Nat) ({ cls := "BlottedDeed$Testimony", name := "clear", desc := "()V" } : Jvm.MethodName)) ∈ gt := mg3 72 rfl rfl
theorem wt_553 : (Jvm.Cond.instanceMethod ({ cls := "BlottedDeed$Testimony", name := "clear", desc := "()V" } : Jvm.MethodName)) ∈ gt := mg3 73 rfl rfl
theorem wt_554 : (Jvm.Cond.selects "BlottedDeed$Testimony" ({ cls := "BlottedDeed$Testimony", name := "clear", desc := "()V" } : Jvm.MethodName) ({ cls := "BlottedDeed$Testimony", name := "clear", desc := "()V" } : Jvm.MethodName)) ∈ gt := mg3 74 rfl rfl
theorem wt_555 : (Jvm.Cond.code ({ cls := "BlottedDeed$Testimony", name := "clear", desc := "()V" } : Jvm.MethodName) prog_10_method_2_code (1 : Nat) (Option.none : Option Jvm.ClassFile.FieldType)) ∈ gt := mg3 75 rfl rfl
theorem wt_556 : (Jvm.Cond.methodLink "BlottedDeedLaw" (220 : Nat) ({ cls := "BlottedDeed", name := "likeliest", desc := "()I" } : Jvm.MethodName)) ∈ gt := mg3 76 rfl rfl
theorem wt_557 : (Jvm.Cond.instanceMethod ({ cls := "BlottedDeed", name := "likeliest", desc := "()I" } : Jvm.MethodName)) ∈ gt := mg3 77 rfl rfl
theorem wt_558 : (Jvm.Cond.selects "BlottedDeed" ({ cls := "BlottedDeed", name := "likeliest", desc := "()I" } : Jvm.MethodName) ({ cls := "BlottedDeed", name := "likeliest", desc := "()I" } : Jvm.MethodName)) ∈ gt := mg3 78 rfl rfl
theorem wt_559 : (Jvm.Cond.code ({ cls := "BlottedDeed", name := "likeliest", desc := "()I" } : Jvm.MethodName) prog_1_method_30_code (7 : Nat) (Option.some Jvm.ClassFile.FieldType.int)) ∈ gt := mg3 79 rfl rfl
theorem wt_560 : (Jvm.Cond.methodLink "BlottedDeed" (246 : Nat) ({ cls := "BlottedDeed$Scales", name := "weigh", desc := "(LBlottedDeed$Deed;LBlottedDeed$Testimony;)V" } : Jvm.MethodName)) ∈ gt := mg3 80 rfl rfl
theorem wt_561 : (Jvm.Cond.instanceMethod ({ cls := "BlottedDeed$Scales", name := "weigh", desc := "(LBlottedDeed$Deed;LBlottedDeed$Testimony;)V" } : Jvm.MethodName)) ∈ gt := mg3 81 rfl rfl
theorem wt_562 : (Jvm.Cond.selects "BlottedDeed$Scales" ({ cls := "BlottedDeed$Scales", name := "weigh", desc := "(LBlottedDeed$Deed;LBlottedDeed$Testimony;)V" } : Jvm.MethodName) ({ cls := "BlottedDeed$Scales", name := "weigh", desc := "(LBlottedDeed$Deed;LBlottedDeed$Testimony;)V" } : Jvm.MethodName)) ∈ gt := mg3 82 rfl rfl
theorem wt_563 : (Jvm.Cond.code ({ cls := "BlottedDeed$Scales", name := "weigh", desc := "(LBlottedDeed$Deed;LBlottedDeed$Testimony;)V" } : Jvm.MethodName) prog_7_method_2_code (7 : Nat) (Option.none : Option Jvm.ClassFile.FieldType)) ∈ gt := mg3 83 rfl rfl
theorem wt_564 : (Jvm.Cond.methodLink "BlottedDeed$Scales" (26 : Nat) ({ cls := "java/util/Arrays", name := "fill", desc := "([JJ)V" } : Jvm.MethodName)) ∈ gt := mg3 84 rfl rfl
theorem wt_565 : (Jvm.Cond.static ({ cls := "java/util/Arrays", name := "fill", desc := "([JJ)V" } : Jvm.MethodName)) ∈ gt := mg3 85 rfl rfl
theorem wt_566 : (Jvm.Cond.code ({ cls := "java/util/Arrays", name := "fill", desc := "([JJ)V" } : Jvm.MethodName) prog_33_method_101_code (5 : Nat) (Option.none : Option Jvm.ClassFile.FieldType)) ∈ gt := mg3 86 rfl rfl
theorem wt_567 : (Jvm.Cond.methodLink "BlottedDeed$Scales" (32 : Nat) ({ cls := "java/util/Arrays", name := "fill", desc := "([II)V" } : Jvm.MethodName)) ∈ gt := mg3 87 rfl rfl
theorem wt_568 : (Jvm.Cond.methodLink "BlottedDeed$Scales" (58 : Nat) ({ cls := "BlottedDeed$Testimony", name := "oddsOfCopy", desc := "(III)I" } : Jvm.MethodName)) ∈ gt := mg3 88 rfl rfl
theorem wt_569 : (Jvm.Cond.instanceMethod ({ cls := "BlottedDeed$Testimony", name := "oddsOfCopy", desc := "(III)I" } : Jvm.MethodName)) ∈ gt := mg3 89 rfl rfl
theorem wt_570 : (Jvm.Cond.selects "BlottedDeed$Testimony" ({ cls := "BlottedDeed$Testimony", name := "oddsOfCopy", desc := "(III)I" } : Jvm.MethodName) ({ cls := "BlottedDeed$Testimony", name := "oddsOfCopy", desc := "(III)I" } : Jvm.MethodName)) ∈ gt := mg3 90 rfl rfl
theorem wt_571 : (Jvm.Cond.code ({ cls := "BlottedDeed$Testimony", name := "oddsOfCopy", desc := "(III)I" } : Jvm.MethodName) prog_10_method_6_code (6 : Nat) (Option.some Jvm.ClassFile.FieldType.int)) ∈ gt := mg3 91 rfl rfl
theorem wt_572 : (Jvm.Cond.methodLink "BlottedDeed$Testimony" (46 : Nat) ({ cls := "BlottedDeed$Testimony", name := "lastHabit", desc := "(II)I" } : Jvm.MethodName)) ∈ gt := mg3 92 rfl rfl
theorem wt_574 : (Jvm.Cond.instanceMethod ({ cls := "BlottedDeed$Testimony", name := "lastHabit", desc := "(II)I" } : Jvm.MethodName)) ∈ gt := mg3 94 rfl rfl
theorem wt_575 : (Jvm.Cond.code ({ cls := "BlottedDeed$Testimony", name := "lastHabit", desc := "(II)I" } : Jvm.MethodName) prog_10_method_7_code (4 : Nat) (Option.some Jvm.ClassFile.FieldType.int)) ∈ gt := mg3 95 rfl rfl
theorem wt_576 : (Jvm.Cond.methodLink "BlottedDeed" (254 : Nat) ({ cls := "BlottedDeed$Scales", name := "oddsOf", desc := "(J)J" } : Jvm.MethodName)) ∈ gt := mg3 96 rfl rfl
theorem wt_577 : (Jvm.Cond.instanceMethod ({ cls := "BlottedDeed$Scales", name := "oddsOf", desc := "(J)J" } : Jvm.MethodName)) ∈ gt := mg3 97 rfl rfl
theorem wt_578 : (Jvm.Cond.selects "BlottedDeed$Scales" ({ cls := "BlottedDeed$Scales", name := "oddsOf", desc := "(J)J" } : Jvm.MethodName) ({ cls := "BlottedDeed$Scales", name := "oddsOf", desc := "(J)J" } : Jvm.MethodName)) ∈ gt := mg3 98 rfl rfl
theorem wt_579 : (Jvm.Cond.code ({ cls := "BlottedDeed$Scales", name := "oddsOf", desc := "(J)J" } : Jvm.MethodName) prog_7_method_3_code (6 : Nat) (Option.some Jvm.ClassFile.FieldType.long)) ∈ gt := mg3 99 rfl rfl
theorem wt_580 : (Jvm.Cond.methodLink "BlottedDeed$Scales" (65 : Nat) ({ cls := "BlottedDeed$Row", name := "digitIn", desc := "(JI)I" } : Jvm.MethodName)) ∈ gt := mg3 100 rfl rfl
theorem wt_581 : (Jvm.Cond.methodLink "BlottedDeedLaw" (257 : Nat) ({ cls := "BlottedDeed", name := "bare", desc := "()I" } : Jvm.MethodName)) ∈ gt := mg3 101 rfl rfl
theorem wt_582 : (Jvm.Cond.instanceMethod ({ cls := "BlottedDeed", name := "bare", desc := "()I" } : Jvm.MethodName)) ∈ gt := mg3 102 rfl rfl
theorem wt_583 : (Jvm.Cond.selects "BlottedDeed" ({ cls := "BlottedDeed", name := "bare", desc := "()I" } : Jvm.MethodName) ({ cls := "BlottedDeed", name := "bare", desc := "()I" } : Jvm.MethodName)) ∈ gt := mg3 103 rfl rfl
theorem wt_584 : (Jvm.Cond.code ({ cls := "BlottedDeed", name := "bare", desc := "()I" } : Jvm.MethodName) prog_1_method_42_code (3 : Nat) (Option.some Jvm.ClassFile.FieldType.int)) ∈ gt := mg3 104 rfl rfl
theorem wt_585 : (Jvm.Cond.methodLink "BlottedDeed" (312 : Nat) ({ cls := "BlottedDeed$Table", name := "everOwns", desc := "(I)Z" } : Jvm.MethodName)) ∈ gt := mg3 105 rfl rfl
theorem wt_586 : (Jvm.Cond.instanceMethod ({ cls := "BlottedDeed$Table", name := "everOwns", desc := "(I)Z" } : Jvm.MethodName)) ∈ gt := mg3 106 rfl rfl
theorem wt_587 : (Jvm.Cond.selects "BlottedDeed$Table" ({ cls := "BlottedDeed$Table", name := "everOwns", desc := "(I)Z" } : Jvm.MethodName) ({ cls := "BlottedDeed$Table", name := "everOwns", desc := "(I)Z" } : Jvm.MethodName)) ∈ gt := mg3 107 rfl rfl
theorem wt_588 : (Jvm.Cond.code ({ cls := "BlottedDeed$Table", name := "everOwns", desc := "(I)Z" } : Jvm.MethodName) prog_9_method_11_code (3 : Nat) (Option.some Jvm.ClassFile.FieldType.boolean)) ∈ gt := mg3 108 rfl rfl
theorem wt_589 : (Jvm.Cond.methodLink "BlottedDeed$Table" (136 : Nat) ({ cls := "BlottedDeed$Table", name := "timesOwned", desc := "(II)I" } : Jvm.MethodName)) ∈ gt := mg3 109 rfl rfl
theorem wt_590 : (Jvm.Cond.instanceMethod ({ cls := "BlottedDeed$Table", name := "timesOwned", desc := "(II)I" } : Jvm.MethodName)) ∈ gt := mg3 110 rfl rfl
theorem wt_591 : (Jvm.Cond.selects "BlottedDeed$Table" ({ cls := "BlottedDeed$Table", name := "timesOwned", desc := "(II)I" } : Jvm.MethodName) ({ cls := "BlottedDeed$Table", name := "timesOwned", desc := "(II)I" } : Jvm.MethodName)) ∈ gt := mg3 111 rfl rfl
theorem wt_592 : (Jvm.Cond.code ({ cls := "BlottedDeed$Table", name := "timesOwned", desc := "(II)I" } : Jvm.MethodName) prog_9_method_10_code (5 : Nat) (Option.some Jvm.ClassFile.FieldType.int)) ∈ gt := mg3 112 rfl rfl
theorem wt_593 : (Jvm.Cond.methodLink "BlottedDeed$Table" (130 : Nat) ({ cls := "BlottedDeed$Table", name := "ownerOf", desc := "(II)I" } : Jvm.MethodName)) ∈ gt := mg3 113 rfl rfl
theorem wt_594 : (Jvm.Cond.instanceMethod ({ cls := "BlottedDeed$Table", name := "ownerOf", desc := "(II)I" } : Jvm.MethodName)) ∈ gt := mg3 114 rfl rfl
theorem wt_595 : (Jvm.Cond.selects "BlottedDeed$Table" ({ cls := "BlottedDeed$Table", name := "ownerOf", desc := "(II)I" } : Jvm.MethodName) ({ cls := "BlottedDeed$Table", name := "ownerOf", desc := "(II)I" } : Jvm.MethodName)) ∈ gt := mg3 115 rfl rfl
theorem wt_596 : (Jvm.Cond.code ({ cls := "BlottedDeed$Table", name := "ownerOf", desc := "(II)I" } : Jvm.MethodName) prog_9_method_8_code (3 : Nat) (Option.some Jvm.ClassFile.FieldType.int)) ∈ gt := mg3 116 rfl rfl
theorem wt_597 : (Jvm.Cond.methodLink "BlottedDeedLaw" (261 : Nat) ({ cls := "BlottedDeed", name := "image", desc := "()I" } : Jvm.MethodName)) ∈ gt := mg3 117 rfl rfl
theorem wt_598 : (Jvm.Cond.instanceMethod ({ cls := "BlottedDeed", name := "image", desc := "()I" } : Jvm.MethodName)) ∈ gt := mg3 118 rfl rfl
theorem wt_599 : (Jvm.Cond.selects "BlottedDeed" ({ cls := "BlottedDeed", name := "image", desc := "()I" } : Jvm.MethodName) ({ cls := "BlottedDeed", name := "image", desc := "()I" } : Jvm.MethodName)) ∈ gt := mg3 119 rfl rfl
theorem wt_600 : (Jvm.Cond.code ({ cls := "BlottedDeed", name := "image", desc := "()I" } : Jvm.MethodName) prog_1_method_43_code (1 : Nat) (Option.some Jvm.ClassFile.FieldType.int)) ∈ gt := mg3 120 rfl rfl
theorem wt_601 : (Jvm.Cond.methodLink "BlottedDeed" (315 : Nat) ({ cls := "BlottedDeed$Testimony", name := "takeFrom", desc := "(LBlottedDeed$Testimony;)V" } : Jvm.MethodName)) ∈ gt := mg3 121 rfl rfl
theorem wt_602 : (Jvm.Cond.instanceMethod ({ cls := "BlottedDeed$Testimony", name := "takeFrom", desc := "(LBlottedDeed$Testimony;)V" } : Jvm.MethodName)) ∈ gt := mg3 122 rfl rfl
theorem wt_603 : (Jvm.Cond.selects "BlottedDeed$Testimony" ({ cls := "BlottedDeed$Testimony", name := "takeFrom", desc := "(LBlottedDeed$Testimony;)V" } : Jvm.MethodName) ({ cls := "BlottedDeed$Testimony", name := "takeFrom", desc := "(LBlottedDeed$Testimony;)V" } : Jvm.MethodName)) ∈ gt := mg3 123 rfl rfl
theorem wt_604 : (Jvm.Cond.code ({ cls := "BlottedDeed$Testimony", name := "takeFrom", desc := "(LBlottedDeed$Testimony;)V" } : Jvm.MethodName) prog_10_method_5_code (2 : Nat) (Option.none : Option Jvm.ClassFile.FieldType)) ∈ gt := mg3 124 rfl rfl
theorem wt_605 : (Jvm.Cond.methodLink "BlottedDeed$Testimony" (40 : Nat) ({ cls := "java/lang/System", name := "arraycopy", desc := "(Ljava/lang/Object;ILjava/lang/Object;II)V" } : Jvm.MethodName)) ∈ gt := mg3 125 rfl rfl
theorem wt_606 : (Jvm.Cond.methodLink "BlottedDeedLaw" (265 : Nat) ({ cls := "BlottedDeed", name := "restore", desc := "()I" } : Jvm.MethodName)) ∈ gt := mg3 126 rfl rfl
theorem wt_607 : (Jvm.Cond.instanceMethod ({ cls := "BlottedDeed", name := "restore", desc := "()I" } : Jvm.MethodName)) ∈ gt := mg3 127 rfl rfl
theorem wt_608 : (Jvm.Cond.selects "BlottedDeed" ({ cls := "BlottedDeed", name := "restore", desc := "()I" } : Jvm.MethodName) ({ cls := "BlottedDeed", name := "restore", desc := "()I" } : Jvm.MethodName)) ∈ gt := mg3 128 rfl rfl
theorem wt_609 : (Jvm.Cond.code ({ cls := "BlottedDeed", name := "restore", desc := "()I" } : Jvm.MethodName) prog_1_method_44_code (1 : Nat) (Option.some Jvm.ClassFile.FieldType.int)) ∈ gt := mg3 129 rfl rfl
theorem wt_610 : (Jvm.Cond.methodLink "BlottedDeedLaw" (269 : Nat) ({ cls := "BlottedDeed", name := "status", desc := "(I)I" } : Jvm.MethodName)) ∈ gt := mg3 130 rfl rfl
theorem wt_611 : (Jvm.Cond.instanceMethod ({ cls := "BlottedDeed", name := "status", desc := "(I)I" } : Jvm.MethodName)) ∈ gt := mg3 131 rfl rfl
theorem wt_612 : (Jvm.Cond.selects "BlottedDeed" ({ cls := "BlottedDeed", name := "status", desc := "(I)I" } : Jvm.MethodName) ({ cls := "BlottedDeed", name := "status", desc := "(I)I" } : Jvm.MethodName)) ∈ gt := mg3 132 rfl rfl
theorem wt_613 : (Jvm.Cond.code ({ cls := "BlottedDeed", name := "status", desc := "(I)I" } : Jvm.MethodName) prog_1_method_45_code (2 : Nat) (Option.some Jvm.ClassFile.FieldType.int)) ∈ gt := mg3 133 rfl rfl
theorem wt_614 : (Jvm.Cond.methodLink "BlottedDeedLaw" (273 : Nat) ({ cls := "BlottedDeed", name := "count", desc := "(I)I" } : Jvm.MethodName)) ∈ gt := mg3 134 rfl rfl
theorem wt_615 : (Jvm.Cond.instanceMethod ({ cls := "BlottedDeed", name := "count", desc := "(I)I" } : Jvm.MethodName)) ∈ gt := mg3 135 rfl rfl
theorem wt_616 : (Jvm.Cond.selects "BlottedDeed" ({ cls := "BlottedDeed", name := "count", desc := "(I)I" } : Jvm.MethodName) ({ cls := "BlottedDeed", name := "count", desc := "(I)I" } : Jvm.MethodName)) ∈ gt := mg3 136 rfl rfl
theorem wt_617 : (Jvm.Cond.code ({ cls := "BlottedDeed", name := "count", desc := "(I)I" } : Jvm.MethodName) prog_1_method_46_code (2 : Nat) (Option.some Jvm.ClassFile.FieldType.int)) ∈ gt := mg3 137 rfl rfl
theorem wt_618 : (Jvm.Cond.methodLink "BlottedDeedLaw" (127 : Nat) ({ cls := "BlottedDeedLaw", name := "deed", desc := "(LBlottedDeed;I[J)I" } : Jvm.MethodName)) ∈ gt := mg3 138 rfl rfl
theorem wt_619 : (Jvm.Cond.static ({ cls := "BlottedDeedLaw", name := "deed", desc := "(LBlottedDeed;I[J)I" } : Jvm.MethodName)) ∈ gt := mg3 139 rfl rfl
theorem wt_620 : (Jvm.Cond.codeWith ({ cls := "BlottedDeedLaw", name := "deed", desc := "(LBlottedDeed;I[J)I" } : Jvm.MethodName) method_3_code (4 : Nat) (Option.some Jvm.ClassFile.FieldType.int) [((0 : Nat), (9 : Nat), (12 : Nat), (13 : Nat))]) ∈ gt := mg3 140 rfl rfl
theorem wt_621 : (Jvm.Cond.classLink "BlottedDeedLaw" (13 : Nat) "java/lang/IllegalArgumentException") ∈ gt := mg3 141 rfl rfl
theorem wt_622 : (Jvm.Cond.methodLink "BlottedDeedLaw" (7 : Nat) ({ cls := "BlottedDeed", name := "deed", desc := "(I)I" } : Jvm.MethodName)) ∈ gt := mg3 142 rfl rfl
theorem wt_623 : (Jvm.Cond.instanceMethod ({ cls := "BlottedDeed", name := "deed", desc := "(I)I" } : Jvm.MethodName)) ∈ gt := mg3 143 rfl rfl
theorem wt_624 : (Jvm.Cond.selects "BlottedDeed" ({ cls := "BlottedDeed", name := "deed", desc := "(I)I" } : Jvm.MethodName) ({ cls := "BlottedDeed", name := "deed", desc := "(I)I" } : Jvm.MethodName)) ∈ gt := mg3 144 rfl rfl
theorem wt_625 : (Jvm.Cond.code ({ cls := "BlottedDeed", name := "deed", desc := "(I)I" } : Jvm.MethodName) prog_1_method_4_code (3 : Nat) (Option.some Jvm.ClassFile.FieldType.int)) ∈ gt := mg3 145 rfl rfl
theorem wt_626 : (Jvm.Cond.methodLink "BlottedDeed" (80 : Nat) ({ cls := "BlottedDeed", name := "needArgument", desc := "(Z)V" } : Jvm.MethodName)) ∈ gt := mg3 146 rfl rfl
theorem wt_628 : (Jvm.Cond.instanceMethod ({ cls := "BlottedDeed", name := "needArgument", desc := "(Z)V" } : Jvm.MethodName)) ∈ gt := mg3 148 rfl rfl
theorem wt_629 : (Jvm.Cond.code ({ cls := "BlottedDeed", name := "needArgument", desc := "(Z)V" } : Jvm.MethodName) prog_1_method_52_code (2 : Nat) (Option.none : Option Jvm.ClassFile.FieldType)) ∈ gt := mg3 149 rfl rfl
theorem wt_630 : (Jvm.Cond.classLink "BlottedDeed" (331 : Nat) "java/lang/IllegalArgumentException") ∈ gt := mg3 150 rfl rfl
theorem wt_697 : (Jvm.Cond.methodLink "BlottedDeed" (84 : Nat) ({ cls := "BlottedDeed$Scribe", name := "copyOut", desc := "(LBlottedDeed$Deed;I)Z" } : Jvm.MethodName)) ∈ gt := mg3 217 rfl rfl
theorem wt_698 : (Jvm.Cond.instanceMethod ({ cls := "BlottedDeed$Scribe", name := "copyOut", desc := "(LBlottedDeed$Deed;I)Z" } : Jvm.MethodName)) ∈ gt := mg3 218 rfl rfl
theorem wt_699 : (Jvm.Cond.selects "BlottedDeed$Scribe" ({ cls := "BlottedDeed$Scribe", name := "copyOut", desc := "(LBlottedDeed$Deed;I)Z" } : Jvm.MethodName) ({ cls := "BlottedDeed$Scribe", name := "copyOut", desc := "(LBlottedDeed$Deed;I)Z" } : Jvm.MethodName)) ∈ gt := mg3 219 rfl rfl
theorem wt_700 : (Jvm.Cond.code ({ cls := "BlottedDeed$Scribe", name := "copyOut", desc := "(LBlottedDeed$Deed;I)Z" } : Jvm.MethodName) prog_8_method_2_code (5 : Nat) (Option.some Jvm.ClassFile.FieldType.boolean)) ∈ gt := mg3 220 rfl rfl
theorem wt_701 : (Jvm.Cond.methodLink "BlottedDeed$Scribe" (19 : Nat) ({ cls := "BlottedDeed$Deed", name := "clear", desc := "()V" } : Jvm.MethodName)) ∈ gt := mg3 221 rfl rfl
theorem wt_702 : (Jvm.Cond.instanceMethod ({ cls := "BlottedDeed$Deed", name := "clear", desc := "()V" } : Jvm.MethodName)) ∈ gt := mg3 222 rfl rfl
theorem wt_703 : (Jvm.Cond.selects "BlottedDeed$Deed" ({ cls := "BlottedDeed$Deed", name := "clear", desc := "()V" } : Jvm.MethodName) ({ cls := "BlottedDeed$Deed", name := "clear", desc := "()V" } : Jvm.MethodName)) ∈ gt := mg3 223 rfl rfl
theorem wt_704 : (Jvm.Cond.code ({ cls := "BlottedDeed$Deed", name := "clear", desc := "()V" } : Jvm.MethodName) prog_4_method_2_code (1 : Nat) (Option.none : Option Jvm.ClassFile.FieldType)) ∈ gt := mg3 224 rfl rfl
theorem wt_705 : (Jvm.Cond.methodLink "BlottedDeed$Scribe" (31 : Nat) ({ cls := "BlottedDeed$Scribe", name := "skipBlanks", desc := "()V" } : Jvm.MethodName)) ∈ gt := mg3 225 rfl rfl
theorem wt_707 : (Jvm.Cond.instanceMethod ({ cls := "BlottedDeed$Scribe", name := "skipBlanks", desc := "()V" } : Jvm.MethodName)) ∈ gt := mg3 227 rfl rfl
theorem wt_708 : (Jvm.Cond.code ({ cls := "BlottedDeed$Scribe", name := "skipBlanks", desc := "()V" } : Jvm.MethodName) prog_8_method_4_code (1 : Nat) (Option.none : Option Jvm.ClassFile.FieldType)) ∈ gt := mg3 228 rfl rfl
theorem wt_709 : (Jvm.Cond.methodLink "BlottedDeed$Scribe" (34 : Nat) ({ cls := "BlottedDeed$Scribe", name := "readVerb", desc := "(I)LBlottedDeed$Verb;" } : Jvm.MethodName)) ∈ gt := mg3 229 rfl rfl
theorem wt_711 : (Jvm.Cond.instanceMethod ({ cls := "BlottedDeed$Scribe", name := "readVerb", desc := "(I)LBlottedDeed$Verb;" } : Jvm.MethodName)) ∈ gt := mg3 231 rfl rfl
theorem wt_712 : (Jvm.Cond.code ({ cls := "BlottedDeed$Scribe", name := "readVerb", desc := "(I)LBlottedDeed$Verb;" } : Jvm.MethodName) prog_8_method_6_code (3 : Nat) (Option.some (Jvm.ClassFile.FieldType.object "BlottedDeed$Verb"))) ∈ gt := mg3 232 rfl rfl
theorem wt_713 : (Jvm.Cond.methodLink "BlottedDeed$Scribe" (59 : Nat) ({ cls := "BlottedDeed$Scribe", name := "readWord", desc := "()Z" } : Jvm.MethodName)) ∈ gt := mg3 233 rfl rfl
theorem wt_715 : (Jvm.Cond.instanceMethod ({ cls := "BlottedDeed$Scribe", name := "readWord", desc := "()Z" } : Jvm.MethodName)) ∈ gt := mg3 235 rfl rfl
theorem wt_716 : (Jvm.Cond.code ({ cls := "BlottedDeed$Scribe", name := "readWord", desc := "()Z" } : Jvm.MethodName) prog_8_method_15_code (1 : Nat) (Option.some Jvm.ClassFile.FieldType.boolean)) ∈ gt := mg3 236 rfl rfl
theorem wt_717 : (Jvm.Cond.constantLong "BlottedDeed$Scribe" (172 : Nat) (27 : Int64)) ∈ gt := mg3 237 rfl rfl
theorem wt_718 : (Jvm.Cond.methodLink "BlottedDeed$Scribe" (49 : Nat) ({ cls := "BlottedDeed$Scribe", name := "fail", desc := "(II)Z" } : Jvm.MethodName)) ∈ gt := mg3 238 rfl rfl
theorem wt_720 : (Jvm.Cond.instanceMethod ({ cls := "BlottedDeed$Scribe", name := "fail", desc := "(II)Z" } : Jvm.MethodName)) ∈ gt := mg4 0 rfl rfl
theorem wt_721 : (Jvm.Cond.code ({ cls := "BlottedDeed$Scribe", name := "fail", desc := "(II)Z" } : Jvm.MethodName) prog_8_method_3_code (3 : Nat) (Option.some Jvm.ClassFile.FieldType.boolean)) ∈ gt := mg4 1 rfl rfl
theorem wt_722 : (Jvm.Cond.methodLink "BlottedDeed$Scribe" (62 : Nat) ({ cls := "BlottedDeed$Scribe", name := "verbRead", desc := "()LBlottedDeed$Verb;" } : Jvm.MethodName)) ∈ gt := mg4 2 rfl rfl
theorem wt_724 : (Jvm.Cond.instanceMethod ({ cls := "BlottedDeed$Scribe", name := "verbRead", desc := "()LBlottedDeed$Verb;" } : Jvm.MethodName)) ∈ gt := mg4 4 rfl rfl
theorem wt_725 : (Jvm.Cond.code ({ cls := "BlottedDeed$Scribe", name := "verbRead", desc := "()LBlottedDeed$Verb;" } : Jvm.MethodName) prog_8_method_17_code (2 : Nat) (Option.some (Jvm.ClassFile.FieldType.object "BlottedDeed$Verb"))) ∈ gt := mg4 5 rfl rfl
theorem wt_726 : (Jvm.Cond.fieldLink "BlottedDeed$Scribe" (182 : Nat) "BlottedDeed$Scribe" "VERBS" "[LBlottedDeed$Verb;") ∈ gt := mg4 6 rfl rfl
theorem wt_728 : (Jvm.Cond.methodLink "BlottedDeed$Scribe" (190 : Nat) ({ cls := "BlottedDeed$Scribe", name := "isWord", desc := "(Ljava/lang/String;)Z" } : Jvm.MethodName)) ∈ gt := mg4 8 rfl rfl
theorem wt_730 : (Jvm.Cond.instanceMethod ({ cls := "BlottedDeed$Scribe", name := "isWord", desc := "(Ljava/lang/String;)Z" } : Jvm.MethodName)) ∈ gt := mg4 10 rfl rfl
theorem wt_731 : (Jvm.Cond.code ({ cls := "BlottedDeed$Scribe", name := "isWord", desc := "(Ljava/lang/String;)Z" } : Jvm.MethodName) prog_8_method_16_code (3 : Nat) (Option.some Jvm.ClassFile.FieldType.boolean)) ∈ gt := mg4 11 rfl rfl
theorem wt_732 : (Jvm.Cond.methodLink "BlottedDeed$Scribe" (174 : Nat) ({ cls := "java/lang/String", name := "length", desc := "()I" } : Jvm.MethodName)) ∈ gt := mg4 12 rfl rfl
theorem wt_733 : (Jvm.Cond.instanceMethod ({ cls := "java/lang/String", name := "length", desc := "()I" } : Jvm.MethodName)) ∈ gt := mg4 13 rfl rfl
theorem wt_734 : (Jvm.Cond.selects "java/lang/String" ({ cls := "java/lang/String", name := "length", desc := "()I" } : Jvm.MethodName) ({ cls := "java/lang/String", name := "length", desc := "()I" } : Jvm.MethodName)) ∈ gt := mg4 14 rfl rfl
theorem wt_735 : (Jvm.Cond.code ({ cls := "java/lang/String", name := "length", desc := "()I" } : Jvm.MethodName) prog_26_method_54_code (1 : Nat) (Option.some Jvm.ClassFile.FieldType.int)) ∈ gt := mg4 15 rfl rfl
theorem wt_736 : (Jvm.Cond.methodLink "java/lang/String" (335 : Nat) ({ cls := "java/lang/String", name := "coder", desc := "()B" } : Jvm.MethodName)) ∈ gt := mg4 16 rfl rfl
theorem wt_737 : (Jvm.Cond.instanceMethod ({ cls := "java/lang/String", name := "coder", desc := "()B" } : Jvm.MethodName)) ∈ gt := mg4 17 rfl rfl
theorem wt_738 : (Jvm.Cond.selects "java/lang/String" ({ cls := "java/lang/String", name := "coder", desc := "()B" } : Jvm.MethodName) ({ cls := "java/lang/String", name := "coder", desc := "()B" } : Jvm.MethodName)) ∈ gt := mg4 18 rfl rfl
theorem wt_739 : (Jvm.Cond.code ({ cls := "java/lang/String", name := "coder", desc := "()B" } : Jvm.MethodName) prog_26_method_152_code (1 : Nat) (Option.some Jvm.ClassFile.FieldType.byte)) ∈ gt := mg4 19 rfl rfl
theorem wt_740 : (Jvm.Cond.fieldLink "java/lang/String" (38 : Nat) "java/lang/String" "COMPACT_STRINGS" "Z") ∈ gt := mg4 20 rfl rfl
theorem wt_742 : (Jvm.Cond.methodLink "BlottedDeed$Scribe" (178 : Nat) ({ cls := "java/lang/String", name := "charAt", desc := "(I)C" } : Jvm.MethodName)) ∈ gt := mg4 22 rfl rfl
theorem wt_743 : (Jvm.Cond.instanceMethod ({ cls := "java/lang/String", name := "charAt", desc := "(I)C" } : Jvm.MethodName)) ∈ gt := mg4 23 rfl rfl
theorem wt_744 : (Jvm.Cond.selects "java/lang/String" ({ cls := "java/lang/String", name := "charAt", desc := "(I)C" } : Jvm.MethodName) ({ cls := "java/lang/String", name := "charAt", desc := "(I)C" } : Jvm.MethodName)) ∈ gt := mg4 24 rfl rfl
theorem wt_745 : (Jvm.Cond.code ({ cls := "java/lang/String", name := "charAt", desc := "(I)C" } : Jvm.MethodName) prog_26_method_56_code (2 : Nat) (Option.some Jvm.ClassFile.FieldType.char)) ∈ gt := mg4 25 rfl rfl
theorem wt_746 : (Jvm.Cond.methodLink "java/lang/String" (492 : Nat) ({ cls := "java/lang/String", name := "isLatin1", desc := "()Z" } : Jvm.MethodName)) ∈ gt := mg4 26 rfl rfl
theorem wt_747 : (Jvm.Cond.instanceMethod ({ cls := "java/lang/String", name := "isLatin1", desc := "()Z" } : Jvm.MethodName)) ∈ gt := mg4 27 rfl rfl
theorem wt_748 : (Jvm.Cond.selects "java/lang/String" ({ cls := "java/lang/String", name := "isLatin1", desc := "()Z" } : Jvm.MethodName) ({ cls := "java/lang/String", name := "isLatin1", desc := "()Z" } : Jvm.MethodName)) ∈ gt := mg4 28 rfl rfl
theorem wt_749 : (Jvm.Cond.code ({ cls := "java/lang/String", name := "isLatin1", desc := "()Z" } : Jvm.MethodName) prog_26_method_154_code (1 : Nat) (Option.some Jvm.ClassFile.FieldType.boolean)) ∈ gt := mg4 29 rfl rfl
theorem wt_750 : (Jvm.Cond.methodLink "java/lang/String" (495 : Nat) ({ cls := "java/lang/StringLatin1", name := "charAt", desc := "([BI)C" } : Jvm.MethodName)) ∈ gt := mg4 30 rfl rfl
theorem wt_751 : (Jvm.Cond.static ({ cls := "java/lang/StringLatin1", name := "charAt", desc := "([BI)C" } : Jvm.MethodName)) ∈ gt := mg4 31 rfl rfl
theorem wt_752 : (Jvm.Cond.code ({ cls := "java/lang/StringLatin1", name := "charAt", desc := "([BI)C" } : Jvm.MethodName) prog_27_method_2_code (2 : Nat) (Option.some Jvm.ClassFile.FieldType.char)) ∈ gt := mg4 32 rfl rfl
theorem wt_753 : (Jvm.Cond.methodLink "java/lang/StringLatin1" (9 : Nat) ({ cls := "java/lang/String", name := "checkIndex", desc := "(II)V" } : Jvm.MethodName)) ∈ gt := mg4 33 rfl rfl
theorem wt_754 : (Jvm.Cond.static ({ cls := "java/lang/String", name := "checkIndex", desc := "(II)V" } : Jvm.MethodName)) ∈ gt := mg4 34 rfl rfl
theorem wt_755 : (Jvm.Cond.code ({ cls := "java/lang/String", name := "checkIndex", desc := "(II)V" } : Jvm.MethodName) prog_26_method_155_code (2 : Nat) (Option.none : Option Jvm.ClassFile.FieldType)) ∈ gt := mg4 35 rfl rfl
theorem wt_756 : (Jvm.Cond.fieldLink "java/lang/String" (1053 : Nat) "jdk/internal/util/Preconditions" "SIOOBE_FORMATTER" "Ljava/util/function/BiFunction;") ∈ gt := mg4 36 rfl rfl
theorem wt_758 : (Jvm.Cond.methodLink "java/lang/String" (1059 : Nat) ({ cls := "jdk/internal/util/Preconditions", name := "checkIndex", desc := "(IILjava/util/function/BiFunction;)I" } : Jvm.MethodName)) ∈ gt := mg4 38 rfl rfl
theorem wt_759 : (Jvm.Cond.static ({ cls := "jdk/internal/util/Preconditions", name := "checkIndex", desc := "(IILjava/util/function/BiFunction;)I" } : Jvm.MethodName)) ∈ gt := mg4 39 rfl rfl
theorem wt_760 : (Jvm.Cond.code ({ cls := "jdk/internal/util/Preconditions", name := "checkIndex", desc := "(IILjava/util/function/BiFunction;)I" } : Jvm.MethodName) prog_35_method_11_code (3 : Nat) (Option.some Jvm.ClassFile.FieldType.int)) ∈ gt := mg4 40 rfl rfl
theorem wt_780 : (Jvm.Cond.methodLink "BlottedDeed$Scribe" (69 : Nat) ({ cls := "BlottedDeed$Deed", name := "isFull", desc := "(LBlottedDeed$Verb;)Z" } : Jvm.MethodName)) ∈ gt := mg4 60 rfl rfl
theorem wt_781 : (Jvm.Cond.instanceMethod ({ cls := "BlottedDeed$Deed", name := "isFull", desc := "(LBlottedDeed$Verb;)Z" } : Jvm.MethodName)) ∈ gt := mg4 61 rfl rfl
theorem wt_782 : (Jvm.Cond.selects "BlottedDeed$Deed" ({ cls := "BlottedDeed$Deed", name := "isFull", desc := "(LBlottedDeed$Verb;)Z" } : Jvm.MethodName) ({ cls := "BlottedDeed$Deed", name := "isFull", desc := "(LBlottedDeed$Verb;)Z" } : Jvm.MethodName)) ∈ gt := mg4 62 rfl rfl
theorem wt_783 : (Jvm.Cond.code ({ cls := "BlottedDeed$Deed", name := "isFull", desc := "(LBlottedDeed$Verb;)Z" } : Jvm.MethodName) prog_4_method_3_code (2 : Nat) (Option.some Jvm.ClassFile.FieldType.boolean)) ∈ gt := mg4 63 rfl rfl
theorem wt_784 : (Jvm.Cond.fieldLink "BlottedDeed$Deed" (70 : Nat) "BlottedDeed$Verb" "HEIR" "LBlottedDeed$Verb;") ∈ gt := mg4 64 rfl rfl
theorem wt_786 : (Jvm.Cond.fieldLink "BlottedDeed$Deed" (76 : Nat) "BlottedDeed$Verb" "THING" "LBlottedDeed$Verb;") ∈ gt := mg4 66 rfl rfl
theorem wt_788 : (Jvm.Cond.methodLink "BlottedDeed$Deed" (79 : Nat) ({ cls := "BlottedDeed$Verb", name := "isPart", desc := "()Z" } : Jvm.MethodName)) ∈ gt := mg4 68 rfl rfl
theorem wt_789 : (Jvm.Cond.instanceMethod ({ cls := "BlottedDeed$Verb", name := "isPart", desc := "()Z" } : Jvm.MethodName)) ∈ gt := mg4 69 rfl rfl
theorem wt_790 : (Jvm.Cond.selects "BlottedDeed$Verb" ({ cls := "BlottedDeed$Verb", name := "isPart", desc := "()Z" } : Jvm.MethodName) ({ cls := "BlottedDeed$Verb", name := "isPart", desc := "()Z" } : Jvm.MethodName)) ∈ gt := mg4 70 rfl rfl
theorem wt_791 : (Jvm.Cond.code ({ cls := "BlottedDeed$Verb", name := "isPart", desc := "()Z" } : Jvm.MethodName) prog_11_method_4_code (1 : Nat) (Option.some Jvm.ClassFile.FieldType.boolean)) ∈ gt := mg4 71 rfl rfl
theorem wt_792 : (Jvm.Cond.fieldLink "BlottedDeed$Verb" (16 : Nat) "BlottedDeed$Verb" "COIN" "LBlottedDeed$Verb;") ∈ gt := mg4 72 rfl rfl
theorem wt_793 : (Jvm.Cond.fieldLink "BlottedDeed$Verb" (19 : Nat) "BlottedDeed$Verb" "WILL" "LBlottedDeed$Verb;") ∈ gt := mg4 73 rfl rfl
theorem wt_794 : (Jvm.Cond.fieldLink "BlottedDeed$Verb" (22 : Nat) "BlottedDeed$Verb" "WHEN" "LBlottedDeed$Verb;") ∈ gt := mg4 74 rfl rfl
theorem wt_795 : (Jvm.Cond.methodLink "BlottedDeed$Scribe" (38 : Nat) ({ cls := "BlottedDeed$Scribe", name := "readBody", desc := "(LBlottedDeed$Verb;)Z" } : Jvm.MethodName)) ∈ gt := mg4 75 rfl rfl
theorem wt_797 : (Jvm.Cond.instanceMethod ({ cls := "BlottedDeed$Scribe", name := "readBody", desc := "(LBlottedDeed$Verb;)Z" } : Jvm.MethodName)) ∈ gt := mg4 77 rfl rfl
theorem wt_798 : (Jvm.Cond.code ({ cls := "BlottedDeed$Scribe", name := "readBody", desc := "(LBlottedDeed$Verb;)Z" } : Jvm.MethodName) prog_8_method_7_code (2 : Nat) (Option.some Jvm.ClassFile.FieldType.boolean)) ∈ gt := mg4 78 rfl rfl
theorem wt_799 : (Jvm.Cond.fieldLink "BlottedDeed$Scribe" (72 : Nat) "BlottedDeed$Verb" "HEIR" "LBlottedDeed$Verb;") ∈ gt := mg4 79 rfl rfl
theorem wt_800 : (Jvm.Cond.methodLink "BlottedDeed$Scribe" (78 : Nat) ({ cls := "BlottedDeed$Scribe", name := "readNewHeir", desc := "()Z" } : Jvm.MethodName)) ∈ gt := mg4 80 rfl rfl
theorem wt_802 : (Jvm.Cond.instanceMethod ({ cls := "BlottedDeed$Scribe", name := "readNewHeir", desc := "()Z" } : Jvm.MethodName)) ∈ gt := mg4 82 rfl rfl
theorem wt_803 : (Jvm.Cond.code ({ cls := "BlottedDeed$Scribe", name := "readNewHeir", desc := "()Z" } : Jvm.MethodName) prog_8_method_9_code (1 : Nat) (Option.some Jvm.ClassFile.FieldType.boolean)) ∈ gt := mg4 83 rfl rfl
theorem wt_804 : (Jvm.Cond.methodLink "BlottedDeed$Scribe" (120 : Nat) ({ cls := "BlottedDeed$Scribe", name := "readNewName", desc := "()Z" } : Jvm.MethodName)) ∈ gt := mg4 84 rfl rfl
theorem wt_806 : (Jvm.Cond.instanceMethod ({ cls := "BlottedDeed$Scribe", name := "readNewName", desc := "()Z" } : Jvm.MethodName)) ∈ gt := mg4 86 rfl rfl
theorem wt_807 : (Jvm.Cond.code ({ cls := "BlottedDeed$Scribe", name := "readNewName", desc := "()Z" } : Jvm.MethodName) prog_8_method_19_code (2 : Nat) (Option.some Jvm.ClassFile.FieldType.boolean)) ∈ gt := mg4 87 rfl rfl
theorem wt_808 : (Jvm.Cond.methodLink "BlottedDeed$Scribe" (194 : Nat) ({ cls := "BlottedDeed$Deed", name := "heirNamed", desc := "(J)I" } : Jvm.MethodName)) ∈ gt := mg4 88 rfl rfl
theorem wt_809 : (Jvm.Cond.instanceMethod ({ cls := "BlottedDeed$Deed", name := "heirNamed", desc := "(J)I" } : Jvm.MethodName)) ∈ gt := mg4 89 rfl rfl
theorem wt_810 : (Jvm.Cond.selects "BlottedDeed$Deed" ({ cls := "BlottedDeed$Deed", name := "heirNamed", desc := "(J)I" } : Jvm.MethodName) ({ cls := "BlottedDeed$Deed", name := "heirNamed", desc := "(J)I" } : Jvm.MethodName)) ∈ gt := mg4 90 rfl rfl
theorem wt_811 : (Jvm.Cond.code ({ cls := "BlottedDeed$Deed", name := "heirNamed", desc := "(J)I" } : Jvm.MethodName) prog_4_method_4_code (4 : Nat) (Option.some Jvm.ClassFile.FieldType.int)) ∈ gt := mg4 91 rfl rfl
theorem wt_812 : (Jvm.Cond.methodLink "BlottedDeed$Scribe" (198 : Nat) ({ cls := "BlottedDeed$Deed", name := "thingNamed", desc := "(J)I" } : Jvm.MethodName)) ∈ gt := mg4 92 rfl rfl
theorem wt_813 : (Jvm.Cond.instanceMethod ({ cls := "BlottedDeed$Deed", name := "thingNamed", desc := "(J)I" } : Jvm.MethodName)) ∈ gt := mg4 93 rfl rfl
theorem wt_814 : (Jvm.Cond.selects "BlottedDeed$Deed" ({ cls := "BlottedDeed$Deed", name := "thingNamed", desc := "(J)I" } : Jvm.MethodName) ({ cls := "BlottedDeed$Deed", name := "thingNamed", desc := "(J)I" } : Jvm.MethodName)) ∈ gt := mg4 94 rfl rfl
theorem wt_815 : (Jvm.Cond.code ({ cls := "BlottedDeed$Deed", name := "thingNamed", desc := "(J)I" } : Jvm.MethodName) prog_4_method_5_code (4 : Nat) (Option.some Jvm.ClassFile.FieldType.int)) ∈ gt := mg4 95 rfl rfl
theorem wt_816 : (Jvm.Cond.methodLink "BlottedDeed$Scribe" (201 : Nat) ({ cls := "BlottedDeed$Scribe", name := "isTooLong", desc := "()Z" } : Jvm.MethodName)) ∈ gt := mg4 96 rfl rfl
theorem wt_818 : (Jvm.Cond.instanceMethod ({ cls := "BlottedDeed$Scribe", name := "isTooLong", desc := "()Z" } : Jvm.MethodName)) ∈ gt := mg4 98 rfl rfl
theorem wt_819 : (Jvm.Cond.code ({ cls := "BlottedDeed$Scribe", name := "isTooLong", desc := "()Z" } : Jvm.MethodName) prog_8_method_18_code (1 : Nat) (Option.some Jvm.ClassFile.FieldType.boolean)) ∈ gt := mg4 99 rfl rfl
theorem wt_820 : (Jvm.Cond.methodLink "BlottedDeed$Scribe" (127 : Nat) ({ cls := "BlottedDeed$Deed", name := "addHeir", desc := "(JI)V" } : Jvm.MethodName)) ∈ gt := mg4 100 rfl rfl
theorem wt_821 : (Jvm.Cond.instanceMethod ({ cls := "BlottedDeed$Deed", name := "addHeir", desc := "(JI)V" } : Jvm.MethodName)) ∈ gt := mg4 101 rfl rfl
theorem wt_822 : (Jvm.Cond.selects "BlottedDeed$Deed" ({ cls := "BlottedDeed$Deed", name := "addHeir", desc := "(JI)V" } : Jvm.MethodName) ({ cls := "BlottedDeed$Deed", name := "addHeir", desc := "(JI)V" } : Jvm.MethodName)) ∈ gt := mg4 102 rfl rfl
theorem wt_823 : (Jvm.Cond.code ({ cls := "BlottedDeed$Deed", name := "addHeir", desc := "(JI)V" } : Jvm.MethodName) prog_4_method_6_code (4 : Nat) (Option.none : Option Jvm.ClassFile.FieldType)) ∈ gt := mg4 103 rfl rfl
theorem wt_824 : (Jvm.Cond.fieldLink "BlottedDeed$Scribe" (81 : Nat) "BlottedDeed$Verb" "THING" "LBlottedDeed$Verb;") ∈ gt := mg4 104 rfl rfl
theorem wt_825 : (Jvm.Cond.methodLink "BlottedDeed$Scribe" (84 : Nat) ({ cls := "BlottedDeed$Scribe", name := "readNewThing", desc := "()Z" } : Jvm.MethodName)) ∈ gt := mg4 105 rfl rfl
theorem wt_827 : (Jvm.Cond.instanceMethod ({ cls := "BlottedDeed$Scribe", name := "readNewThing", desc := "()Z" } : Jvm.MethodName)) ∈ gt := mg4 107 rfl rfl
theorem wt_828 : (Jvm.Cond.code ({ cls := "BlottedDeed$Scribe", name := "readNewThing", desc := "()Z" } : Jvm.MethodName) prog_8_method_10_code (4 : Nat) (Option.some Jvm.ClassFile.FieldType.boolean)) ∈ gt := mg4 108 rfl rfl
theorem wt_829 : (Jvm.Cond.methodLink "BlottedDeed$Scribe" (131 : Nat) ({ cls := "BlottedDeed$Scribe", name := "readNumber", desc := "(I)I" } : Jvm.MethodName)) ∈ gt := mg4 109 rfl rfl
theorem wt_831 : (Jvm.Cond.instanceMethod ({ cls := "BlottedDeed$Scribe", name := "readNumber", desc := "(I)I" } : Jvm.MethodName)) ∈ gt := mg4 111 rfl rfl
theorem wt_832 : (Jvm.Cond.code ({ cls := "BlottedDeed$Scribe", name := "readNumber", desc := "(I)I" } : Jvm.MethodName) prog_8_method_23_code (4 : Nat) (Option.some Jvm.ClassFile.FieldType.int)) ∈ gt := mg4 112 rfl rfl
theorem wt_833 : (Jvm.Cond.methodLink "BlottedDeed$Scribe" (212 : Nat) ({ cls := "java/lang/Math", name := "min", desc := "(II)I" } : Jvm.MethodName)) ∈ gt := mg4 113 rfl rfl
theorem wt_834 : (Jvm.Cond.methodLink "BlottedDeed$Scribe" (135 : Nat) ({ cls := "BlottedDeed$Deed", name := "addThing", desc := "(JI)V" } : Jvm.MethodName)) ∈ gt := mg4 114 rfl rfl
theorem wt_835 : (Jvm.Cond.instanceMethod ({ cls := "BlottedDeed$Deed", name := "addThing", desc := "(JI)V" } : Jvm.MethodName)) ∈ gt := mg4 115 rfl rfl
theorem wt_836 : (Jvm.Cond.selects "BlottedDeed$Deed" ({ cls := "BlottedDeed$Deed", name := "addThing", desc := "(JI)V" } : Jvm.MethodName) ({ cls := "BlottedDeed$Deed", name := "addThing", desc := "(JI)V" } : Jvm.MethodName)) ∈ gt := mg4 116 rfl rfl
theorem wt_837 : (Jvm.Cond.code ({ cls := "BlottedDeed$Deed", name := "addThing", desc := "(JI)V" } : Jvm.MethodName) prog_4_method_7_code (4 : Nat) (Option.none : Option Jvm.ClassFile.FieldType)) ∈ gt := mg4 117 rfl rfl
theorem wt_838 : (Jvm.Cond.fieldLink "BlottedDeed$Scribe" (87 : Nat) "BlottedDeed$Verb" "ESTATE" "LBlottedDeed$Verb;") ∈ gt := mg4 118 rfl rfl
theorem wt_840 : (Jvm.Cond.methodLink "BlottedDeed$Scribe" (90 : Nat) ({ cls := "BlottedDeed$Scribe", name := "readEstate", desc := "()Z" } : Jvm.MethodName)) ∈ gt := mg4 120 rfl rfl
theorem wt_842 : (Jvm.Cond.instanceMethod ({ cls := "BlottedDeed$Scribe", name := "readEstate", desc := "()Z" } : Jvm.MethodName)) ∈ gt := mg4 122 rfl rfl
theorem wt_843 : (Jvm.Cond.code ({ cls := "BlottedDeed$Scribe", name := "readEstate", desc := "()Z" } : Jvm.MethodName) prog_8_method_11_code (2 : Nat) (Option.some Jvm.ClassFile.FieldType.boolean)) ∈ gt := mg4 123 rfl rfl
theorem wt_844 : (Jvm.Cond.fieldLink "BlottedDeed$Scribe" (93 : Nat) "BlottedDeed$Verb" "LEAST" "LBlottedDeed$Verb;") ∈ gt := mg4 124 rfl rfl
theorem wt_846 : (Jvm.Cond.methodLink "BlottedDeed$Scribe" (96 : Nat) ({ cls := "BlottedDeed$Scribe", name := "readLeast", desc := "()Z" } : Jvm.MethodName)) ∈ gt := mg4 126 rfl rfl
theorem wt_848 : (Jvm.Cond.instanceMethod ({ cls := "BlottedDeed$Scribe", name := "readLeast", desc := "()Z" } : Jvm.MethodName)) ∈ gt := mg4 128 rfl rfl
theorem wt_849 : (Jvm.Cond.code ({ cls := "BlottedDeed$Scribe", name := "readLeast", desc := "()Z" } : Jvm.MethodName) prog_8_method_12_code (3 : Nat) (Option.some Jvm.ClassFile.FieldType.boolean)) ∈ gt := mg4 129 rfl rfl
theorem wt_850 : (Jvm.Cond.methodLink "BlottedDeed$Scribe" (141 : Nat) ({ cls := "BlottedDeed$Scribe", name := "readHeir", desc := "()I" } : Jvm.MethodName)) ∈ gt := mg4 130 rfl rfl
theorem wt_852 : (Jvm.Cond.instanceMethod ({ cls := "BlottedDeed$Scribe", name := "readHeir", desc := "()I" } : Jvm.MethodName)) ∈ gt := mg4 132 rfl rfl
theorem wt_853 : (Jvm.Cond.code ({ cls := "BlottedDeed$Scribe", name := "readHeir", desc := "()I" } : Jvm.MethodName) prog_8_method_20_code (2 : Nat) (Option.some Jvm.ClassFile.FieldType.int)) ∈ gt := mg4 133 rfl rfl
theorem wt_854 : (Jvm.Cond.methodLink "BlottedDeed$Scribe" (99 : Nat) ({ cls := "BlottedDeed$Deed", name := "addPart", desc := "(LBlottedDeed$Verb;)V" } : Jvm.MethodName)) ∈ gt := mg4 134 rfl rfl
theorem wt_855 : (Jvm.Cond.instanceMethod ({ cls := "BlottedDeed$Deed", name := "addPart", desc := "(LBlottedDeed$Verb;)V" } : Jvm.MethodName)) ∈ gt := mg4 135 rfl rfl
theorem wt_856 : (Jvm.Cond.selects "BlottedDeed$Deed" ({ cls := "BlottedDeed$Deed", name := "addPart", desc := "(LBlottedDeed$Verb;)V" } : Jvm.MethodName) ({ cls := "BlottedDeed$Deed", name := "addPart", desc := "(LBlottedDeed$Verb;)V" } : Jvm.MethodName)) ∈ gt := mg4 136 rfl rfl
theorem wt_857 : (Jvm.Cond.code ({ cls := "BlottedDeed$Deed", name := "addPart", desc := "(LBlottedDeed$Verb;)V" } : Jvm.MethodName) prog_4_method_8_code (2 : Nat) (Option.none : Option Jvm.ClassFile.FieldType)) ∈ gt := mg4 137 rfl rfl
theorem wt_858 : (Jvm.Cond.fieldLink "BlottedDeed$Scribe" (103 : Nat) "BlottedDeed$Verb" "COIN" "LBlottedDeed$Verb;") ∈ gt := mg4 138 rfl rfl
theorem wt_859 : (Jvm.Cond.methodLink "BlottedDeed$Scribe" (106 : Nat) ({ cls := "BlottedDeed$Scribe", name := "readPlace", desc := "(I)Z" } : Jvm.MethodName)) ∈ gt := mg4 139 rfl rfl
theorem wt_861 : (Jvm.Cond.instanceMethod ({ cls := "BlottedDeed$Scribe", name := "readPlace", desc := "(I)Z" } : Jvm.MethodName)) ∈ gt := mg4 141 rfl rfl
theorem wt_862 : (Jvm.Cond.code ({ cls := "BlottedDeed$Scribe", name := "readPlace", desc := "(I)Z" } : Jvm.MethodName) prog_8_method_13_code (3 : Nat) (Option.some Jvm.ClassFile.FieldType.boolean)) ∈ gt := mg4 142 rfl rfl
theorem wt_863 : (Jvm.Cond.methodLink "BlottedDeed$Scribe" (116 : Nat) ({ cls := "BlottedDeed$Scribe", name := "standsHere", desc := "(C)Z" } : Jvm.MethodName)) ∈ gt := mg4 143 rfl rfl
theorem wt_865 : (Jvm.Cond.instanceMethod ({ cls := "BlottedDeed$Scribe", name := "standsHere", desc := "(C)Z" } : Jvm.MethodName)) ∈ gt := mg4 145 rfl rfl
theorem wt_866 : (Jvm.Cond.code ({ cls := "BlottedDeed$Scribe", name := "standsHere", desc := "(C)Z" } : Jvm.MethodName) prog_8_method_5_code (2 : Nat) (Option.some Jvm.ClassFile.FieldType.boolean)) ∈ gt := mg4 146 rfl rfl
theorem wt_867 : (Jvm.Cond.methodLink "BlottedDeed$Scribe" (148 : Nat) ({ cls := "BlottedDeed$Scribe", name := "readBlot", desc := "(I)Z" } : Jvm.MethodName)) ∈ gt := mg4 147 rfl rfl
theorem wt_869 : (Jvm.Cond.instanceMethod ({ cls := "BlottedDeed$Scribe", name := "readBlot", desc := "(I)Z" } : Jvm.MethodName)) ∈ gt := mg4 149 rfl rfl
theorem wt_870 : (Jvm.Cond.code ({ cls := "BlottedDeed$Scribe", name := "readBlot", desc := "(I)Z" } : Jvm.MethodName) prog_8_method_14_code (4 : Nat) (Option.some Jvm.ClassFile.FieldType.boolean)) ∈ gt := mg4 150 rfl rfl
theorem wt_871 : (Jvm.Cond.methodLink "BlottedDeed$Scribe" (165 : Nat) ({ cls := "BlottedDeed$Deed", name := "fill", desc := "(LBlottedDeed$Blot;II)V" } : Jvm.MethodName)) ∈ gt := mg4 151 rfl rfl
theorem wt_872 : (Jvm.Cond.instanceMethod ({ cls := "BlottedDeed$Deed", name := "fill", desc := "(LBlottedDeed$Blot;II)V" } : Jvm.MethodName)) ∈ gt := mg4 152 rfl rfl
theorem wt_873 : (Jvm.Cond.selects "BlottedDeed$Deed" ({ cls := "BlottedDeed$Deed", name := "fill", desc := "(LBlottedDeed$Blot;II)V" } : Jvm.MethodName) ({ cls := "BlottedDeed$Deed", name := "fill", desc := "(LBlottedDeed$Blot;II)V" } : Jvm.MethodName)) ∈ gt := mg4 153 rfl rfl
theorem wt_874 : (Jvm.Cond.code ({ cls := "BlottedDeed$Deed", name := "fill", desc := "(LBlottedDeed$Blot;II)V" } : Jvm.MethodName) prog_4_method_11_code (5 : Nat) (Option.none : Option Jvm.ClassFile.FieldType)) ∈ gt := mg4 154 rfl rfl
theorem wt_875 : (Jvm.Cond.methodLink "BlottedDeed$Deed" (101 : Nat) ({ cls := "BlottedDeed$Blot", name := "addValues", desc := "(II)V" } : Jvm.MethodName)) ∈ gt := mg4 155 rfl rfl
theorem wt_876 : (Jvm.Cond.instanceMethod ({ cls := "BlottedDeed$Blot", name := "addValues", desc := "(II)V" } : Jvm.MethodName)) ∈ gt := mg4 156 rfl rfl
theorem wt_877 : (Jvm.Cond.selects "BlottedDeed$Blot" ({ cls := "BlottedDeed$Blot", name := "addValues", desc := "(II)V" } : Jvm.MethodName) ({ cls := "BlottedDeed$Blot", name := "addValues", desc := "(II)V" } : Jvm.MethodName)) ∈ gt := mg4 157 rfl rfl
theorem wt_878 : (Jvm.Cond.code ({ cls := "BlottedDeed$Blot", name := "addValues", desc := "(II)V" } : Jvm.MethodName) prog_3_method_2_code (4 : Nat) (Option.none : Option Jvm.ClassFile.FieldType)) ∈ gt := mg4 158 rfl rfl
theorem wt_879 : (Jvm.Cond.methodLink "BlottedDeed$Scribe" (169 : Nat) ({ cls := "BlottedDeed$Deed", name := "keepBlot", desc := "()Z" } : Jvm.MethodName)) ∈ gt := mg4 159 rfl rfl
theorem wt_880 : (Jvm.Cond.instanceMethod ({ cls := "BlottedDeed$Deed", name := "keepBlot", desc := "()Z" } : Jvm.MethodName)) ∈ gt := mg4 160 rfl rfl
theorem wt_881 : (Jvm.Cond.selects "BlottedDeed$Deed" ({ cls := "BlottedDeed$Deed", name := "keepBlot", desc := "()Z" } : Jvm.MethodName) ({ cls := "BlottedDeed$Deed", name := "keepBlot", desc := "()Z" } : Jvm.MethodName)) ∈ gt := mg4 161 rfl rfl
theorem wt_882 : (Jvm.Cond.code ({ cls := "BlottedDeed$Deed", name := "keepBlot", desc := "()Z" } : Jvm.MethodName) prog_4_method_12_code (2 : Nat) (Option.some Jvm.ClassFile.FieldType.boolean)) ∈ gt := mg4 162 rfl rfl
theorem wt_883 : (Jvm.Cond.methodLink "BlottedDeed$Deed" (112 : Nat) ({ cls := "BlottedDeed$Deed", name := "addPlace", desc := "(II)V" } : Jvm.MethodName)) ∈ gt := mg4 163 rfl rfl
theorem wt_884 : (Jvm.Cond.instanceMethod ({ cls := "BlottedDeed$Deed", name := "addPlace", desc := "(II)V" } : Jvm.MethodName)) ∈ gt := mg4 164 rfl rfl
theorem wt_885 : (Jvm.Cond.selects "BlottedDeed$Deed" ({ cls := "BlottedDeed$Deed", name := "addPlace", desc := "(II)V" } : Jvm.MethodName) ({ cls := "BlottedDeed$Deed", name := "addPlace", desc := "(II)V" } : Jvm.MethodName)) ∈ gt := mg4 165 rfl rfl
theorem wt_886 : (Jvm.Cond.code ({ cls := "BlottedDeed$Deed", name := "addPlace", desc := "(II)V" } : Jvm.MethodName) prog_4_method_10_code (3 : Nat) (Option.none : Option Jvm.ClassFile.FieldType)) ∈ gt := mg4 166 rfl rfl
theorem wt_887 : (Jvm.Cond.methodLink "BlottedDeed$Scribe" (151 : Nat) ({ cls := "BlottedDeed$Scribe", name := "readIs", desc := "()I" } : Jvm.MethodName)) ∈ gt := mg4 167 rfl rfl
theorem wt_889 : (Jvm.Cond.instanceMethod ({ cls := "BlottedDeed$Scribe", name := "readIs", desc := "()I" } : Jvm.MethodName)) ∈ gt := mg4 169 rfl rfl
theorem wt_890 : (Jvm.Cond.code ({ cls := "BlottedDeed$Scribe", name := "readIs", desc := "()I" } : Jvm.MethodName) prog_8_method_22_code (1 : Nat) (Option.some Jvm.ClassFile.FieldType.int)) ∈ gt := mg4 170 rfl rfl
theorem wt_893 : (Jvm.Cond.methodLink "BlottedDeed$Scribe" (154 : Nat) ({ cls := "BlottedDeed$Deed", name := "addPlace", desc := "(II)V" } : Jvm.MethodName)) ∈ gt := mg4 173 rfl rfl
theorem wt_894 : (Jvm.Cond.fieldLink "BlottedDeed$Scribe" (110 : Nat) "BlottedDeed$Verb" "WILL" "LBlottedDeed$Verb;") ∈ gt := mg4 174 rfl rfl
theorem wt_895 : (Jvm.Cond.methodLink "BlottedDeed$Scribe" (113 : Nat) ({ cls := "BlottedDeed$Scribe", name := "readThing", desc := "()Z" } : Jvm.MethodName)) ∈ gt := mg4 175 rfl rfl
theorem wt_897 : (Jvm.Cond.instanceMethod ({ cls := "BlottedDeed$Scribe", name := "readThing", desc := "()Z" } : Jvm.MethodName)) ∈ gt := mg4 177 rfl rfl
theorem wt_898 : (Jvm.Cond.code ({ cls := "BlottedDeed$Scribe", name := "readThing", desc := "()Z" } : Jvm.MethodName) prog_8_method_21_code (2 : Nat) (Option.some Jvm.ClassFile.FieldType.boolean)) ∈ gt := mg4 178 rfl rfl
theorem wt_899 : (Jvm.Cond.methodLink "BlottedDeed$Scribe" (204 : Nat) ({ cls := "BlottedDeed$Deed", name := "nameThing", desc := "(I)V" } : Jvm.MethodName)) ∈ gt := mg4 179 rfl rfl
theorem wt_900 : (Jvm.Cond.instanceMethod ({ cls := "BlottedDeed$Deed", name := "nameThing", desc := "(I)V" } : Jvm.MethodName)) ∈ gt := mg4 180 rfl rfl
theorem wt_901 : (Jvm.Cond.selects "BlottedDeed$Deed" ({ cls := "BlottedDeed$Deed", name := "nameThing", desc := "(I)V" } : Jvm.MethodName) ({ cls := "BlottedDeed$Deed", name := "nameThing", desc := "(I)V" } : Jvm.MethodName)) ∈ gt := mg4 181 rfl rfl
theorem wt_902 : (Jvm.Cond.code ({ cls := "BlottedDeed$Deed", name := "nameThing", desc := "(I)V" } : Jvm.MethodName) prog_4_method_9_code (2 : Nat) (Option.none : Option Jvm.ClassFile.FieldType)) ∈ gt := mg4 182 rfl rfl
theorem wt_903 : (Jvm.Cond.methodLink "BlottedDeed$Scribe" (42 : Nat) ({ cls := "BlottedDeed$Scribe", name := "readEnd", desc := "()Z" } : Jvm.MethodName)) ∈ gt := mg4 183 rfl rfl
theorem wt_905 : (Jvm.Cond.instanceMethod ({ cls := "BlottedDeed$Scribe", name := "readEnd", desc := "()Z" } : Jvm.MethodName)) ∈ gt := mg4 185 rfl rfl
theorem wt_906 : (Jvm.Cond.code ({ cls := "BlottedDeed$Scribe", name := "readEnd", desc := "()Z" } : Jvm.MethodName) prog_8_method_8_code (1 : Nat) (Option.some Jvm.ClassFile.FieldType.boolean)) ∈ gt := mg4 186 rfl rfl
theorem wt_907 : (Jvm.Cond.methodLink "BlottedDeed$Scribe" (46 : Nat) ({ cls := "BlottedDeed$Deed", name := "countRows", desc := "()Z" } : Jvm.MethodName)) ∈ gt := mg4 187 rfl rfl
theorem wt_908 : (Jvm.Cond.instanceMethod ({ cls := "BlottedDeed$Deed", name := "countRows", desc := "()Z" } : Jvm.MethodName)) ∈ gt := mg4 188 rfl rfl
theorem wt_909 : (Jvm.Cond.selects "BlottedDeed$Deed" ({ cls := "BlottedDeed$Deed", name := "countRows", desc := "()Z" } : Jvm.MethodName) ({ cls := "BlottedDeed$Deed", name := "countRows", desc := "()Z" } : Jvm.MethodName)) ∈ gt := mg4 189 rfl rfl
theorem wt_910 : (Jvm.Cond.code ({ cls := "BlottedDeed$Deed", name := "countRows", desc := "()Z" } : Jvm.MethodName) prog_4_method_13_code (4 : Nat) (Option.some Jvm.ClassFile.FieldType.boolean)) ∈ gt := mg4 190 rfl rfl
theorem wt_911 : (Jvm.Cond.constantLong "BlottedDeed$Deed" (115 : Nat) (20000 : Int64)) ∈ gt := mg4 191 rfl rfl
theorem wt_912 : (Jvm.Cond.methodLink "BlottedDeed" (98 : Nat) ({ cls := "BlottedDeed$Table", name := "gather", desc := "(LBlottedDeed$Deed;)V" } : Jvm.MethodName)) ∈ gt := mg4 192 rfl rfl
theorem wt_913 : (Jvm.Cond.methodLink "BlottedDeedLaw" (141 : Nat) ({ cls := "BlottedDeedLaw", name := "told", desc := "(LBlottedDeed;I[J)I" } : Jvm.MethodName)) ∈ gt := mg4 193 rfl rfl
theorem wt_914 : (Jvm.Cond.static ({ cls := "BlottedDeedLaw", name := "told", desc := "(LBlottedDeed;I[J)I" } : Jvm.MethodName)) ∈ gt := mg4 194 rfl rfl
theorem wt_915 : (Jvm.Cond.codeWith ({ cls := "BlottedDeedLaw", name := "told", desc := "(LBlottedDeed;I[J)I" } : Jvm.MethodName) method_4_code (4 : Nat) (Option.some Jvm.ClassFile.FieldType.int) [((0 : Nat), (9 : Nat), (12 : Nat), (13 : Nat))]) ∈ gt := mg4 195 rfl rfl
theorem wt_916 : (Jvm.Cond.methodLink "BlottedDeedLaw" (15 : Nat) ({ cls := "BlottedDeed", name := "told", desc := "(I)I" } : Jvm.MethodName)) ∈ gt := mg4 196 rfl rfl
theorem wt_917 : (Jvm.Cond.instanceMethod ({ cls := "BlottedDeed", name := "told", desc := "(I)I" } : Jvm.MethodName)) ∈ gt := mg4 197 rfl rfl
theorem wt_918 : (Jvm.Cond.selects "BlottedDeed" ({ cls := "BlottedDeed", name := "told", desc := "(I)I" } : Jvm.MethodName) ({ cls := "BlottedDeed", name := "told", desc := "(I)I" } : Jvm.MethodName)) ∈ gt := mg4 198 rfl rfl
theorem wt_919 : (Jvm.Cond.code ({ cls := "BlottedDeed", name := "told", desc := "(I)I" } : Jvm.MethodName) prog_1_method_6_code (2 : Nat) (Option.some Jvm.ClassFile.FieldType.int)) ∈ gt := mg4 199 rfl rfl
theorem wt_920 : (Jvm.Cond.methodLink "BlottedDeed" (104 : Nat) ({ cls := "BlottedDeed", name := "needWhat", desc := "(II)V" } : Jvm.MethodName)) ∈ gt := mg4 200 rfl rfl
theorem wt_922 : (Jvm.Cond.instanceMethod ({ cls := "BlottedDeed", name := "needWhat", desc := "(II)V" } : Jvm.MethodName)) ∈ gt := mg4 202 rfl rfl
theorem wt_923 : (Jvm.Cond.code ({ cls := "BlottedDeed", name := "needWhat", desc := "(II)V" } : Jvm.MethodName) prog_1_method_53_code (3 : Nat) (Option.none : Option Jvm.ClassFile.FieldType)) ∈ gt := mg4 203 rfl rfl
theorem wt_924 : (Jvm.Cond.methodLink "BlottedDeedLaw" (144 : Nat) ({ cls := "BlottedDeedLaw", name := "blot", desc := "(LBlottedDeed;II[J)I" } : Jvm.MethodName)) ∈ gt := mg4 204 rfl rfl
theorem wt_925 : (Jvm.Cond.static ({ cls := "BlottedDeedLaw", name := "blot", desc := "(LBlottedDeed;II[J)I" } : Jvm.MethodName)) ∈ gt := mg4 205 rfl rfl
theorem wt_926 : (Jvm.Cond.codeWith ({ cls := "BlottedDeedLaw", name := "blot", desc := "(LBlottedDeed;II[J)I" } : Jvm.MethodName) method_5_code (5 : Nat) (Option.some Jvm.ClassFile.FieldType.int) [((0 : Nat), (10 : Nat), (13 : Nat), (22 : Nat)), ((0 : Nat), (10 : Nat), (17 : Nat), (13 : Nat))]) ∈ gt := mg4 206 rfl rfl
theorem wt_927 : (Jvm.Cond.classLink "BlottedDeedLaw" (22 : Nat) "java/util/NoSuchElementException") ∈ gt := mg4 207 rfl rfl
theorem wt_928 : (Jvm.Cond.methodLink "BlottedDeedLaw" (18 : Nat) ({ cls := "BlottedDeed", name := "blot", desc := "(II)I" } : Jvm.MethodName)) ∈ gt := mg4 208 rfl rfl
theorem wt_929 : (Jvm.Cond.instanceMethod ({ cls := "BlottedDeed", name := "blot", desc := "(II)I" } : Jvm.MethodName)) ∈ gt := mg4 209 rfl rfl
theorem wt_930 : (Jvm.Cond.selects "BlottedDeed" ({ cls := "BlottedDeed", name := "blot", desc := "(II)I" } : Jvm.MethodName) ({ cls := "BlottedDeed", name := "blot", desc := "(II)I" } : Jvm.MethodName)) ∈ gt := mg4 210 rfl rfl
theorem wt_931 : (Jvm.Cond.code ({ cls := "BlottedDeed", name := "blot", desc := "(II)I" } : Jvm.MethodName) prog_1_method_7_code (4 : Nat) (Option.some Jvm.ClassFile.FieldType.int)) ∈ gt := mg4 211 rfl rfl
theorem wt_932 : (Jvm.Cond.methodLink "BlottedDeed" (126 : Nat) ({ cls := "BlottedDeed", name := "needBlot", desc := "(I)V" } : Jvm.MethodName)) ∈ gt := mg4 212 rfl rfl
theorem wt_934 : (Jvm.Cond.instanceMethod ({ cls := "BlottedDeed", name := "needBlot", desc := "(I)V" } : Jvm.MethodName)) ∈ gt := mg4 214 rfl rfl
theorem wt_935 : (Jvm.Cond.code ({ cls := "BlottedDeed", name := "needBlot", desc := "(I)V" } : Jvm.MethodName) prog_1_method_51_code (2 : Nat) (Option.none : Option Jvm.ClassFile.FieldType)) ∈ gt := mg4 215 rfl rfl
theorem wt_936 : (Jvm.Cond.classLink "BlottedDeed" (326 : Nat) "java/util/NoSuchElementException") ∈ gt := mg4 216 rfl rfl
theorem wt_952 : (Jvm.Cond.methodLink "BlottedDeedLaw" (148 : Nat) ({ cls := "BlottedDeedLaw", name := "candidate", desc := "(LBlottedDeed;II[J)I" } : Jvm.MethodName)) ∈ gt := mg4 232 rfl rfl
theorem wt_953 : (Jvm.Cond.static ({ cls := "BlottedDeedLaw", name := "candidate", desc := "(LBlottedDeed;II[J)I" } : Jvm.MethodName)) ∈ gt := mg4 233 rfl rfl
theorem wt_954 : (Jvm.Cond.codeWith ({ cls := "BlottedDeedLaw", name := "candidate", desc := "(LBlottedDeed;II[J)I" } : Jvm.MethodName) method_6_code (5 : Nat) (Option.some Jvm.ClassFile.FieldType.int) [((0 : Nat), (10 : Nat), (13 : Nat), (22 : Nat))]) ∈ gt := mg4 234 rfl rfl
theorem wt_955 : (Jvm.Cond.methodLink "BlottedDeedLaw" (24 : Nat) ({ cls := "BlottedDeed", name := "candidate", desc := "(II)I" } : Jvm.MethodName)) ∈ gt := mg4 235 rfl rfl
theorem wt_956 : (Jvm.Cond.instanceMethod ({ cls := "BlottedDeed", name := "candidate", desc := "(II)I" } : Jvm.MethodName)) ∈ gt := mg4 236 rfl rfl
theorem wt_957 : (Jvm.Cond.selects "BlottedDeed" ({ cls := "BlottedDeed", name := "candidate", desc := "(II)I" } : Jvm.MethodName) ({ cls := "BlottedDeed", name := "candidate", desc := "(II)I" } : Jvm.MethodName)) ∈ gt := mg4 237 rfl rfl
theorem wt_958 : (Jvm.Cond.code ({ cls := "BlottedDeed", name := "candidate", desc := "(II)I" } : Jvm.MethodName) prog_1_method_8_code (4 : Nat) (Option.some Jvm.ClassFile.FieldType.int)) ∈ gt := mg4 238 rfl rfl
theorem wt_959 : (Jvm.Cond.methodLink "BlottedDeedLaw" (155 : Nat) ({ cls := "BlottedDeedLaw", name := "reading", desc := "(LBlottedDeed;II[J)I" } : Jvm.MethodName)) ∈ gt := mg4 239 rfl rfl
theorem wt_960 : (Jvm.Cond.static ({ cls := "BlottedDeedLaw", name := "reading", desc := "(LBlottedDeed;II[J)I" } : Jvm.MethodName)) ∈ gt := mg5 0 rfl rfl
theorem wt_961 : (Jvm.Cond.codeWith ({ cls := "BlottedDeedLaw", name := "reading", desc := "(LBlottedDeed;II[J)I" } : Jvm.MethodName) method_7_code (5 : Nat) (Option.some Jvm.ClassFile.FieldType.int) [((0 : Nat), (10 : Nat), (13 : Nat), (30 : Nat)), ((0 : Nat), (10 : Nat), (17 : Nat), (22 : Nat))]) ∈ gt := mg5 1 rfl rfl
theorem wt_962 : (Jvm.Cond.classLink "BlottedDeedLaw" (30 : Nat) "java/lang/IndexOutOfBoundsException") ∈ gt := mg5 2 rfl rfl
theorem wt_963 : (Jvm.Cond.methodLink "BlottedDeedLaw" (27 : Nat) ({ cls := "BlottedDeed", name := "reading", desc := "(II)I" } : Jvm.MethodName)) ∈ gt := mg5 3 rfl rfl
theorem wt_964 : (Jvm.Cond.instanceMethod ({ cls := "BlottedDeed", name := "reading", desc := "(II)I" } : Jvm.MethodName)) ∈ gt := mg5 4 rfl rfl
theorem wt_965 : (Jvm.Cond.selects "BlottedDeed" ({ cls := "BlottedDeed", name := "reading", desc := "(II)I" } : Jvm.MethodName) ({ cls := "BlottedDeed", name := "reading", desc := "(II)I" } : Jvm.MethodName)) ∈ gt := mg5 5 rfl rfl
theorem wt_966 : (Jvm.Cond.code ({ cls := "BlottedDeed", name := "reading", desc := "(II)I" } : Jvm.MethodName) prog_1_method_10_code (3 : Nat) (Option.some Jvm.ClassFile.FieldType.int)) ∈ gt := mg5 6 rfl rfl
theorem wt_967 : (Jvm.Cond.methodLink "BlottedDeed" (151 : Nat) ({ cls := "BlottedDeed", name := "needReading", desc := "(I)V" } : Jvm.MethodName)) ∈ gt := mg5 7 rfl rfl
theorem wt_969 : (Jvm.Cond.instanceMethod ({ cls := "BlottedDeed", name := "needReading", desc := "(I)V" } : Jvm.MethodName)) ∈ gt := mg5 9 rfl rfl
theorem wt_970 : (Jvm.Cond.code ({ cls := "BlottedDeed", name := "needReading", desc := "(I)V" } : Jvm.MethodName) prog_1_method_48_code (2 : Nat) (Option.none : Option Jvm.ClassFile.FieldType)) ∈ gt := mg5 10 rfl rfl
theorem wt_971 : (Jvm.Cond.methodLink "BlottedDeed" (266 : Nat) ({ cls := "BlottedDeed", name := "needIndex", desc := "(II)V" } : Jvm.MethodName)) ∈ gt := mg5 11 rfl rfl
theorem wt_973 : (Jvm.Cond.instanceMethod ({ cls := "BlottedDeed", name := "needIndex", desc := "(II)V" } : Jvm.MethodName)) ∈ gt := mg5 13 rfl rfl
theorem wt_974 : (Jvm.Cond.code ({ cls := "BlottedDeed", name := "needIndex", desc := "(II)V" } : Jvm.MethodName) prog_1_method_47_code (3 : Nat) (Option.none : Option Jvm.ClassFile.FieldType)) ∈ gt := mg5 14 rfl rfl
theorem wt_975 : (Jvm.Cond.classLink "BlottedDeed" (319 : Nat) "java/lang/IndexOutOfBoundsException") ∈ gt := mg5 15 rfl rfl
theorem wt_991 : (Jvm.Cond.methodLink "BlottedDeed" (154 : Nat) ({ cls := "BlottedDeed$Table", name := "digit", desc := "(II)I" } : Jvm.MethodName)) ∈ gt := mg5 31 rfl rfl
theorem wt_992 : (Jvm.Cond.methodLink "BlottedDeedLaw" (158 : Nat) ({ cls := "BlottedDeedLaw", name := "alive", desc := "(LBlottedDeed;I[J)I" } : Jvm.MethodName)) ∈ gt := mg5 32 rfl rfl
theorem wt_993 : (Jvm.Cond.static ({ cls := "BlottedDeedLaw", name := "alive", desc := "(LBlottedDeed;I[J)I" } : Jvm.MethodName)) ∈ gt := mg5 33 rfl rfl
theorem wt_994 : (Jvm.Cond.codeWith ({ cls := "BlottedDeedLaw", name := "alive", desc := "(LBlottedDeed;I[J)I" } : Jvm.MethodName) method_8_code (4 : Nat) (Option.some Jvm.ClassFile.FieldType.int) [((0 : Nat), (9 : Nat), (12 : Nat), (22 : Nat))]) ∈ gt := mg5 34 rfl rfl
theorem wt_995 : (Jvm.Cond.methodLink "BlottedDeedLaw" (32 : Nat) ({ cls := "BlottedDeed", name := "alive", desc := "(I)I" } : Jvm.MethodName)) ∈ gt := mg5 35 rfl rfl
theorem wt_996 : (Jvm.Cond.instanceMethod ({ cls := "BlottedDeed", name := "alive", desc := "(I)I" } : Jvm.MethodName)) ∈ gt := mg5 36 rfl rfl
theorem wt_997 : (Jvm.Cond.selects "BlottedDeed" ({ cls := "BlottedDeed", name := "alive", desc := "(I)I" } : Jvm.MethodName) ({ cls := "BlottedDeed", name := "alive", desc := "(I)I" } : Jvm.MethodName)) ∈ gt := mg5 37 rfl rfl
theorem wt_998 : (Jvm.Cond.code ({ cls := "BlottedDeed", name := "alive", desc := "(I)I" } : Jvm.MethodName) prog_1_method_11_code (2 : Nat) (Option.some Jvm.ClassFile.FieldType.int)) ∈ gt := mg5 38 rfl rfl
theorem wt_999 : (Jvm.Cond.methodLink "BlottedDeed" (158 : Nat) ({ cls := "BlottedDeed$Table", name := "aliveUnder", desc := "(I)I" } : Jvm.MethodName)) ∈ gt := mg5 39 rfl rfl
theorem wt_1000 : (Jvm.Cond.instanceMethod ({ cls := "BlottedDeed$Table", name := "aliveUnder", desc := "(I)I" } : Jvm.MethodName)) ∈ gt := mg5 40 rfl rfl
theorem wt_1001 : (Jvm.Cond.selects "BlottedDeed$Table" ({ cls := "BlottedDeed$Table", name := "aliveUnder", desc := "(I)I" } : Jvm.MethodName) ({ cls := "BlottedDeed$Table", name := "aliveUnder", desc := "(I)I" } : Jvm.MethodName)) ∈ gt := mg5 41 rfl rfl
theorem wt_1002 : (Jvm.Cond.code ({ cls := "BlottedDeed$Table", name := "aliveUnder", desc := "(I)I" } : Jvm.MethodName) prog_9_method_18_code (4 : Nat) (Option.some Jvm.ClassFile.FieldType.int)) ∈ gt := mg5 42 rfl rfl
theorem wt_1003 : (Jvm.Cond.methodLink "BlottedDeedLaw" (165 : Nat) ({ cls := "BlottedDeedLaw", name := "gets", desc := "(LBlottedDeed;III[J)I" } : Jvm.MethodName)) ∈ gt := mg5 43 rfl rfl
theorem wt_1004 : (Jvm.Cond.static ({ cls := "BlottedDeedLaw", name := "gets", desc := "(LBlottedDeed;III[J)I" } : Jvm.MethodName)) ∈ gt := mg5 44 rfl rfl
theorem wt_1005 : (Jvm.Cond.codeWith ({ cls := "BlottedDeedLaw", name := "gets", desc := "(LBlottedDeed;III[J)I" } : Jvm.MethodName) method_9_code (6 : Nat) (Option.some Jvm.ClassFile.FieldType.int) [((0 : Nat), (12 : Nat), (15 : Nat), (30 : Nat)), ((0 : Nat), (12 : Nat), (19 : Nat), (13 : Nat))]) ∈ gt := mg5 45 rfl rfl
theorem wt_1006 : (Jvm.Cond.methodLink "BlottedDeedLaw" (35 : Nat) ({ cls := "BlottedDeed", name := "gets", desc := "(III)I" } : Jvm.MethodName)) ∈ gt := mg5 46 rfl rfl
theorem wt_1007 : (Jvm.Cond.instanceMethod ({ cls := "BlottedDeed", name := "gets", desc := "(III)I" } : Jvm.MethodName)) ∈ gt := mg5 47 rfl rfl
theorem wt_1008 : (Jvm.Cond.selects "BlottedDeed" ({ cls := "BlottedDeed", name := "gets", desc := "(III)I" } : Jvm.MethodName) ({ cls := "BlottedDeed", name := "gets", desc := "(III)I" } : Jvm.MethodName)) ∈ gt := mg5 48 rfl rfl
theorem wt_1009 : (Jvm.Cond.code ({ cls := "BlottedDeed", name := "gets", desc := "(III)I" } : Jvm.MethodName) prog_1_method_13_code (4 : Nat) (Option.some Jvm.ClassFile.FieldType.int)) ∈ gt := mg5 49 rfl rfl
theorem wt_1010 : (Jvm.Cond.methodLink "BlottedDeed" (166 : Nat) ({ cls := "BlottedDeed", name := "needHeir", desc := "(I)V" } : Jvm.MethodName)) ∈ gt := mg5 50 rfl rfl
theorem wt_1012 : (Jvm.Cond.instanceMethod ({ cls := "BlottedDeed", name := "needHeir", desc := "(I)V" } : Jvm.MethodName)) ∈ gt := mg5 52 rfl rfl
theorem wt_1013 : (Jvm.Cond.code ({ cls := "BlottedDeed", name := "needHeir", desc := "(I)V" } : Jvm.MethodName) prog_1_method_49_code (2 : Nat) (Option.none : Option Jvm.ClassFile.FieldType)) ∈ gt := mg5 53 rfl rfl
theorem wt_1014 : (Jvm.Cond.methodLink "BlottedDeed" (169 : Nat) ({ cls := "BlottedDeed$Table", name := "coinOf", desc := "(II)I" } : Jvm.MethodName)) ∈ gt := mg5 54 rfl rfl
theorem wt_1015 : (Jvm.Cond.instanceMethod ({ cls := "BlottedDeed$Table", name := "coinOf", desc := "(II)I" } : Jvm.MethodName)) ∈ gt := mg5 55 rfl rfl
theorem wt_1016 : (Jvm.Cond.selects "BlottedDeed$Table" ({ cls := "BlottedDeed$Table", name := "coinOf", desc := "(II)I" } : Jvm.MethodName) ({ cls := "BlottedDeed$Table", name := "coinOf", desc := "(II)I" } : Jvm.MethodName)) ∈ gt := mg5 56 rfl rfl
theorem wt_1017 : (Jvm.Cond.code ({ cls := "BlottedDeed$Table", name := "coinOf", desc := "(II)I" } : Jvm.MethodName) prog_9_method_7_code (3 : Nat) (Option.some Jvm.ClassFile.FieldType.int)) ∈ gt := mg5 57 rfl rfl
theorem wt_1018 : (Jvm.Cond.methodLink "BlottedDeed" (172 : Nat) ({ cls := "BlottedDeed$Table", name := "worthOf", desc := "(II)I" } : Jvm.MethodName)) ∈ gt := mg5 58 rfl rfl
theorem wt_1019 : (Jvm.Cond.instanceMethod ({ cls := "BlottedDeed$Table", name := "worthOf", desc := "(II)I" } : Jvm.MethodName)) ∈ gt := mg5 59 rfl rfl
theorem wt_1020 : (Jvm.Cond.selects "BlottedDeed$Table" ({ cls := "BlottedDeed$Table", name := "worthOf", desc := "(II)I" } : Jvm.MethodName) ({ cls := "BlottedDeed$Table", name := "worthOf", desc := "(II)I" } : Jvm.MethodName)) ∈ gt := mg5 60 rfl rfl
theorem wt_1021 : (Jvm.Cond.code ({ cls := "BlottedDeed$Table", name := "worthOf", desc := "(II)I" } : Jvm.MethodName) prog_9_method_9_code (5 : Nat) (Option.some Jvm.ClassFile.FieldType.int)) ∈ gt := mg5 61 rfl rfl
theorem wt_1022 : (Jvm.Cond.methodLink "BlottedDeed$Table" (124 : Nat) ({ cls := "BlottedDeed$Table", name := "coinOf", desc := "(II)I" } : Jvm.MethodName)) ∈ gt := mg5 62 rfl rfl
theorem wt_1023 : (Jvm.Cond.methodLink "BlottedDeedLaw" (169 : Nat) ({ cls := "BlottedDeedLaw", name := "goes", desc := "(LBlottedDeed;II[J)I" } : Jvm.MethodName)) ∈ gt := mg5 63 rfl rfl
theorem wt_1024 : (Jvm.Cond.static ({ cls := "BlottedDeedLaw", name := "goes", desc := "(LBlottedDeed;II[J)I" } : Jvm.MethodName)) ∈ gt := mg5 64 rfl rfl
theorem wt_1025 : (Jvm.Cond.codeWith ({ cls := "BlottedDeedLaw", name := "goes", desc := "(LBlottedDeed;II[J)I" } : Jvm.MethodName) method_10_code (5 : Nat) (Option.some Jvm.ClassFile.FieldType.int) [((0 : Nat), (10 : Nat), (13 : Nat), (30 : Nat))]) ∈ gt := mg5 65 rfl rfl
theorem wt_1026 : (Jvm.Cond.methodLink "BlottedDeedLaw" (39 : Nat) ({ cls := "BlottedDeed", name := "goes", desc := "(II)I" } : Jvm.MethodName)) ∈ gt := mg5 66 rfl rfl
theorem wt_1027 : (Jvm.Cond.instanceMethod ({ cls := "BlottedDeed", name := "goes", desc := "(II)I" } : Jvm.MethodName)) ∈ gt := mg5 67 rfl rfl
theorem wt_1028 : (Jvm.Cond.selects "BlottedDeed" ({ cls := "BlottedDeed", name := "goes", desc := "(II)I" } : Jvm.MethodName) ({ cls := "BlottedDeed", name := "goes", desc := "(II)I" } : Jvm.MethodName)) ∈ gt := mg5 68 rfl rfl
theorem wt_1029 : (Jvm.Cond.code ({ cls := "BlottedDeed", name := "goes", desc := "(II)I" } : Jvm.MethodName) prog_1_method_14_code (3 : Nat) (Option.some Jvm.ClassFile.FieldType.int)) ∈ gt := mg5 69 rfl rfl
theorem wt_1030 : (Jvm.Cond.methodLink "BlottedDeed" (175 : Nat) ({ cls := "BlottedDeed", name := "needThing", desc := "(I)V" } : Jvm.MethodName)) ∈ gt := mg5 70 rfl rfl
theorem wt_1032 : (Jvm.Cond.instanceMethod ({ cls := "BlottedDeed", name := "needThing", desc := "(I)V" } : Jvm.MethodName)) ∈ gt := mg5 72 rfl rfl
theorem wt_1033 : (Jvm.Cond.code ({ cls := "BlottedDeed", name := "needThing", desc := "(I)V" } : Jvm.MethodName) prog_1_method_50_code (2 : Nat) (Option.none : Option Jvm.ClassFile.FieldType)) ∈ gt := mg5 73 rfl rfl
theorem wt_1034 : (Jvm.Cond.methodLink "BlottedDeed" (178 : Nat) ({ cls := "BlottedDeed$Table", name := "ownerOf", desc := "(II)I" } : Jvm.MethodName)) ∈ gt := mg5 74 rfl rfl
theorem wt_1035 : (Jvm.Cond.methodLink "BlottedDeedLaw" (172 : Nat) ({ cls := "BlottedDeedLaw", name := "often", desc := "(LBlottedDeed;II[J)I" } : Jvm.MethodName)) ∈ gt := mg5 75 rfl rfl
theorem wt_1036 : (Jvm.Cond.static ({ cls := "BlottedDeedLaw", name := "often", desc := "(LBlottedDeed;II[J)I" } : Jvm.MethodName)) ∈ gt := mg5 76 rfl rfl
theorem wt_1037 : (Jvm.Cond.codeWith ({ cls := "BlottedDeedLaw", name := "often", desc := "(LBlottedDeed;II[J)I" } : Jvm.MethodName) method_11_code (5 : Nat) (Option.some Jvm.ClassFile.FieldType.int) [((0 : Nat), (10 : Nat), (13 : Nat), (30 : Nat))]) ∈ gt := mg5 77 rfl rfl
theorem wt_1038 : (Jvm.Cond.methodLink "BlottedDeedLaw" (42 : Nat) ({ cls := "BlottedDeed", name := "often", desc := "(II)I" } : Jvm.MethodName)) ∈ gt := mg5 78 rfl rfl
theorem wt_1039 : (Jvm.Cond.instanceMethod ({ cls := "BlottedDeed", name := "often", desc := "(II)I" } : Jvm.MethodName)) ∈ gt := mg5 79 rfl rfl
theorem wt_1040 : (Jvm.Cond.selects "BlottedDeed" ({ cls := "BlottedDeed", name := "often", desc := "(II)I" } : Jvm.MethodName) ({ cls := "BlottedDeed", name := "often", desc := "(II)I" } : Jvm.MethodName)) ∈ gt := mg5 80 rfl rfl
theorem wt_1041 : (Jvm.Cond.code ({ cls := "BlottedDeed", name := "often", desc := "(II)I" } : Jvm.MethodName) prog_1_method_15_code (3 : Nat) (Option.some Jvm.ClassFile.FieldType.int)) ∈ gt := mg5 81 rfl rfl
theorem wt_1042 : (Jvm.Cond.methodLink "BlottedDeed" (181 : Nat) ({ cls := "BlottedDeed$Table", name := "timesOwned", desc := "(II)I" } : Jvm.MethodName)) ∈ gt := mg5 82 rfl rfl
theorem wt_1043 : (Jvm.Cond.methodLink "BlottedDeedLaw" (175 : Nat) ({ cls := "BlottedDeedLaw", name := "sure", desc := "(LBlottedDeed;II[J)I" } : Jvm.MethodName)) ∈ gt := mg5 83 rfl rfl
theorem wt_1044 : (Jvm.Cond.static ({ cls := "BlottedDeedLaw", name := "sure", desc := "(LBlottedDeed;II[J)I" } : Jvm.MethodName)) ∈ gt := mg5 84 rfl rfl
theorem wt_1045 : (Jvm.Cond.codeWith ({ cls := "BlottedDeedLaw", name := "sure", desc := "(LBlottedDeed;II[J)I" } : Jvm.MethodName) method_12_code (5 : Nat) (Option.some Jvm.ClassFile.FieldType.int) [((0 : Nat), (17 : Nat), (20 : Nat), (30 : Nat))]) ∈ gt := mg5 85 rfl rfl
theorem wt_1046 : (Jvm.Cond.methodLink "BlottedDeedLaw" (45 : Nat) ({ cls := "BlottedDeed", name := "sure", desc := "(II)Z" } : Jvm.MethodName)) ∈ gt := mg5 86 rfl rfl
theorem wt_1047 : (Jvm.Cond.instanceMethod ({ cls := "BlottedDeed", name := "sure", desc := "(II)Z" } : Jvm.MethodName)) ∈ gt := mg5 87 rfl rfl
theorem wt_1048 : (Jvm.Cond.selects "BlottedDeed" ({ cls := "BlottedDeed", name := "sure", desc := "(II)Z" } : Jvm.MethodName) ({ cls := "BlottedDeed", name := "sure", desc := "(II)Z" } : Jvm.MethodName)) ∈ gt := mg5 88 rfl rfl
theorem wt_1049 : (Jvm.Cond.code ({ cls := "BlottedDeed", name := "sure", desc := "(II)Z" } : Jvm.MethodName) prog_1_method_16_code (3 : Nat) (Option.some Jvm.ClassFile.FieldType.boolean)) ∈ gt := mg5 89 rfl rfl
theorem wt_1050 : (Jvm.Cond.methodLink "BlottedDeedLaw" (178 : Nat) ({ cls := "BlottedDeedLaw", name := "coin", desc := "(LBlottedDeed;II[J)I" } : Jvm.MethodName)) ∈ gt := mg5 90 rfl rfl
theorem wt_1051 : (Jvm.Cond.static ({ cls := "BlottedDeedLaw", name := "coin", desc := "(LBlottedDeed;II[J)I" } : Jvm.MethodName)) ∈ gt := mg5 91 rfl rfl
theorem wt_1052 : (Jvm.Cond.codeWith ({ cls := "BlottedDeedLaw", name := "coin", desc := "(LBlottedDeed;II[J)I" } : Jvm.MethodName) method_13_code (5 : Nat) (Option.some Jvm.ClassFile.FieldType.int) [((0 : Nat), (10 : Nat), (13 : Nat), (30 : Nat)), ((0 : Nat), (10 : Nat), (17 : Nat), (13 : Nat))]) ∈ gt := mg5 92 rfl rfl
theorem wt_1053 : (Jvm.Cond.methodLink "BlottedDeedLaw" (49 : Nat) ({ cls := "BlottedDeed", name := "coin", desc := "(II)I" } : Jvm.MethodName)) ∈ gt := mg5 93 rfl rfl
theorem wt_1054 : (Jvm.Cond.instanceMethod ({ cls := "BlottedDeed", name := "coin", desc := "(II)I" } : Jvm.MethodName)) ∈ gt := mg5 94 rfl rfl
theorem wt_1055 : (Jvm.Cond.selects "BlottedDeed" ({ cls := "BlottedDeed", name := "coin", desc := "(II)I" } : Jvm.MethodName) ({ cls := "BlottedDeed", name := "coin", desc := "(II)I" } : Jvm.MethodName)) ∈ gt := mg5 95 rfl rfl
theorem wt_1056 : (Jvm.Cond.code ({ cls := "BlottedDeed", name := "coin", desc := "(II)I" } : Jvm.MethodName) prog_1_method_17_code (3 : Nat) (Option.some Jvm.ClassFile.FieldType.int)) ∈ gt := mg5 96 rfl rfl
theorem wt_1057 : (Jvm.Cond.methodLink "BlottedDeed" (184 : Nat) ({ cls := "BlottedDeed$Table", name := "leastCoin", desc := "(I)I" } : Jvm.MethodName)) ∈ gt := mg5 97 rfl rfl
theorem wt_1058 : (Jvm.Cond.instanceMethod ({ cls := "BlottedDeed$Table", name := "leastCoin", desc := "(I)I" } : Jvm.MethodName)) ∈ gt := mg5 98 rfl rfl
theorem wt_1059 : (Jvm.Cond.selects "BlottedDeed$Table" ({ cls := "BlottedDeed$Table", name := "leastCoin", desc := "(I)I" } : Jvm.MethodName) ({ cls := "BlottedDeed$Table", name := "leastCoin", desc := "(I)I" } : Jvm.MethodName)) ∈ gt := mg5 99 rfl rfl
theorem wt_1060 : (Jvm.Cond.code ({ cls := "BlottedDeed$Table", name := "leastCoin", desc := "(I)I" } : Jvm.MethodName) prog_9_method_12_code (5 : Nat) (Option.some Jvm.ClassFile.FieldType.int)) ∈ gt := mg5 100 rfl rfl
theorem wt_1061 : (Jvm.Cond.methodLink "BlottedDeed" (187 : Nat) ({ cls := "BlottedDeed$Table", name := "mostCoin", desc := "(I)I" } : Jvm.MethodName)) ∈ gt := mg5 101 rfl rfl
theorem wt_1062 : (Jvm.Cond.instanceMethod ({ cls := "BlottedDeed$Table", name := "mostCoin", desc := "(I)I" } : Jvm.MethodName)) ∈ gt := mg5 102 rfl rfl
theorem wt_1063 : (Jvm.Cond.selects "BlottedDeed$Table" ({ cls := "BlottedDeed$Table", name := "mostCoin", desc := "(I)I" } : Jvm.MethodName) ({ cls := "BlottedDeed$Table", name := "mostCoin", desc := "(I)I" } : Jvm.MethodName)) ∈ gt := mg5 103 rfl rfl
theorem wt_1064 : (Jvm.Cond.code ({ cls := "BlottedDeed$Table", name := "mostCoin", desc := "(I)I" } : Jvm.MethodName) prog_9_method_13_code (4 : Nat) (Option.some Jvm.ClassFile.FieldType.int)) ∈ gt := mg5 104 rfl rfl
theorem wt_1065 : (Jvm.Cond.methodLink "BlottedDeedLaw" (181 : Nat) ({ cls := "BlottedDeedLaw", name := "worth", desc := "(LBlottedDeed;II[J)I" } : Jvm.MethodName)) ∈ gt := mg5 105 rfl rfl
theorem wt_1066 : (Jvm.Cond.static ({ cls := "BlottedDeedLaw", name := "worth", desc := "(LBlottedDeed;II[J)I" } : Jvm.MethodName)) ∈ gt := mg5 106 rfl rfl
theorem wt_1067 : (Jvm.Cond.codeWith ({ cls := "BlottedDeedLaw", name := "worth", desc := "(LBlottedDeed;II[J)I" } : Jvm.MethodName) method_14_code (5 : Nat) (Option.some Jvm.ClassFile.FieldType.int) [((0 : Nat), (10 : Nat), (13 : Nat), (30 : Nat)), ((0 : Nat), (10 : Nat), (17 : Nat), (13 : Nat))]) ∈ gt := mg5 107 rfl rfl
theorem wt_1068 : (Jvm.Cond.methodLink "BlottedDeedLaw" (52 : Nat) ({ cls := "BlottedDeed", name := "worth", desc := "(II)I" } : Jvm.MethodName)) ∈ gt := mg5 108 rfl rfl
theorem wt_1069 : (Jvm.Cond.instanceMethod ({ cls := "BlottedDeed", name := "worth", desc := "(II)I" } : Jvm.MethodName)) ∈ gt := mg5 109 rfl rfl
theorem wt_1070 : (Jvm.Cond.selects "BlottedDeed" ({ cls := "BlottedDeed", name := "worth", desc := "(II)I" } : Jvm.MethodName) ({ cls := "BlottedDeed", name := "worth", desc := "(II)I" } : Jvm.MethodName)) ∈ gt := mg5 110 rfl rfl
theorem wt_1071 : (Jvm.Cond.code ({ cls := "BlottedDeed", name := "worth", desc := "(II)I" } : Jvm.MethodName) prog_1_method_18_code (4 : Nat) (Option.some Jvm.ClassFile.FieldType.int)) ∈ gt := mg5 111 rfl rfl
theorem wt_1072 : (Jvm.Cond.methodLink "BlottedDeed" (190 : Nat) ({ cls := "BlottedDeed$Table", name := "bestFor", desc := "(I)I" } : Jvm.MethodName)) ∈ gt := mg5 112 rfl rfl
theorem wt_1073 : (Jvm.Cond.instanceMethod ({ cls := "BlottedDeed$Table", name := "bestFor", desc := "(I)I" } : Jvm.MethodName)) ∈ gt := mg5 113 rfl rfl
theorem wt_1074 : (Jvm.Cond.selects "BlottedDeed$Table" ({ cls := "BlottedDeed$Table", name := "bestFor", desc := "(I)I" } : Jvm.MethodName) ({ cls := "BlottedDeed$Table", name := "bestFor", desc := "(I)I" } : Jvm.MethodName)) ∈ gt := mg5 114 rfl rfl
theorem wt_1075 : (Jvm.Cond.code ({ cls := "BlottedDeed$Table", name := "bestFor", desc := "(I)I" } : Jvm.MethodName) prog_9_method_14_code (6 : Nat) (Option.some Jvm.ClassFile.FieldType.int)) ∈ gt := mg5 115 rfl rfl
theorem wt_1076 : (Jvm.Cond.methodLink "BlottedDeed$Table" (142 : Nat) ({ cls := "BlottedDeed$Table", name := "worthOf", desc := "(II)I" } : Jvm.MethodName)) ∈ gt := mg5 116 rfl rfl
theorem wt_1077 : (Jvm.Cond.methodLink "BlottedDeed" (193 : Nat) ({ cls := "BlottedDeed$Table", name := "worstFor", desc := "(I)I" } : Jvm.MethodName)) ∈ gt := mg5 117 rfl rfl
theorem wt_1078 : (Jvm.Cond.instanceMethod ({ cls := "BlottedDeed$Table", name := "worstFor", desc := "(I)I" } : Jvm.MethodName)) ∈ gt := mg5 118 rfl rfl
theorem wt_1079 : (Jvm.Cond.selects "BlottedDeed$Table" ({ cls := "BlottedDeed$Table", name := "worstFor", desc := "(I)I" } : Jvm.MethodName) ({ cls := "BlottedDeed$Table", name := "worstFor", desc := "(I)I" } : Jvm.MethodName)) ∈ gt := mg5 119 rfl rfl
theorem wt_1080 : (Jvm.Cond.code ({ cls := "BlottedDeed$Table", name := "worstFor", desc := "(I)I" } : Jvm.MethodName) prog_9_method_15_code (6 : Nat) (Option.some Jvm.ClassFile.FieldType.int)) ∈ gt := mg5 120 rfl rfl
theorem wt_1081 : (Jvm.Cond.methodLink "BlottedDeedLaw" (184 : Nat) ({ cls := "BlottedDeedLaw", name := "cleaned", desc := "(LBlottedDeed;I[J)I" } : Jvm.MethodName)) ∈ gt := mg5 121 rfl rfl
theorem wt_1082 : (Jvm.Cond.static ({ cls := "BlottedDeedLaw", name := "cleaned", desc := "(LBlottedDeed;I[J)I" } : Jvm.MethodName)) ∈ gt := mg5 122 rfl rfl
theorem wt_1083 : (Jvm.Cond.codeWith ({ cls := "BlottedDeedLaw", name := "cleaned", desc := "(LBlottedDeed;I[J)I" } : Jvm.MethodName) method_15_code (4 : Nat) (Option.some Jvm.ClassFile.FieldType.int) [((0 : Nat), (9 : Nat), (12 : Nat), (22 : Nat))]) ∈ gt := mg5 123 rfl rfl
theorem wt_1084 : (Jvm.Cond.methodLink "BlottedDeedLaw" (55 : Nat) ({ cls := "BlottedDeed", name := "cleaned", desc := "(I)I" } : Jvm.MethodName)) ∈ gt := mg5 124 rfl rfl
theorem wt_1085 : (Jvm.Cond.instanceMethod ({ cls := "BlottedDeed", name := "cleaned", desc := "(I)I" } : Jvm.MethodName)) ∈ gt := mg5 125 rfl rfl
theorem wt_1086 : (Jvm.Cond.selects "BlottedDeed" ({ cls := "BlottedDeed", name := "cleaned", desc := "(I)I" } : Jvm.MethodName) ({ cls := "BlottedDeed", name := "cleaned", desc := "(I)I" } : Jvm.MethodName)) ∈ gt := mg5 126 rfl rfl
theorem wt_1087 : (Jvm.Cond.code ({ cls := "BlottedDeed", name := "cleaned", desc := "(I)I" } : Jvm.MethodName) prog_1_method_19_code (2 : Nat) (Option.some Jvm.ClassFile.FieldType.int)) ∈ gt := mg5 127 rfl rfl
theorem wt_1088 : (Jvm.Cond.methodLink "BlottedDeed" (196 : Nat) ({ cls := "BlottedDeed$Table", name := "mostLeft", desc := "(IJJ)I" } : Jvm.MethodName)) ∈ gt := mg5 128 rfl rfl
theorem wt_1089 : (Jvm.Cond.methodLink "BlottedDeedLaw" (191 : Nat) ({ cls := "BlottedDeedLaw", name := "fewest", desc := "(LBlottedDeed;II[J)I" } : Jvm.MethodName)) ∈ gt := mg5 129 rfl rfl
theorem wt_1090 : (Jvm.Cond.static ({ cls := "BlottedDeedLaw", name := "fewest", desc := "(LBlottedDeed;II[J)I" } : Jvm.MethodName)) ∈ gt := mg5 130 rfl rfl
theorem wt_1091 : (Jvm.Cond.codeWith ({ cls := "BlottedDeedLaw", name := "fewest", desc := "(LBlottedDeed;II[J)I" } : Jvm.MethodName) method_16_code (5 : Nat) (Option.some Jvm.ClassFile.FieldType.int) [((0 : Nat), (10 : Nat), (13 : Nat), (30 : Nat)), ((0 : Nat), (10 : Nat), (17 : Nat), (13 : Nat))]) ∈ gt := mg5 131 rfl rfl
theorem wt_1092 : (Jvm.Cond.methodLink "BlottedDeedLaw" (58 : Nat) ({ cls := "BlottedDeed", name := "fewest", desc := "(II)I" } : Jvm.MethodName)) ∈ gt := mg5 132 rfl rfl
theorem wt_1093 : (Jvm.Cond.instanceMethod ({ cls := "BlottedDeed", name := "fewest", desc := "(II)I" } : Jvm.MethodName)) ∈ gt := mg5 133 rfl rfl
theorem wt_1094 : (Jvm.Cond.selects "BlottedDeed" ({ cls := "BlottedDeed", name := "fewest", desc := "(II)I" } : Jvm.MethodName) ({ cls := "BlottedDeed", name := "fewest", desc := "(II)I" } : Jvm.MethodName)) ∈ gt := mg5 134 rfl rfl
theorem wt_1095 : (Jvm.Cond.code ({ cls := "BlottedDeed", name := "fewest", desc := "(II)I" } : Jvm.MethodName) prog_1_method_21_code (4 : Nat) (Option.some Jvm.ClassFile.FieldType.int)) ∈ gt := mg5 135 rfl rfl
theorem wt_1096 : (Jvm.Cond.methodLink "BlottedDeed" (204 : Nat) ({ cls := "BlottedDeed$Table", name := "fewestToKnow", desc := "(I)I" } : Jvm.MethodName)) ∈ gt := mg5 136 rfl rfl
theorem wt_1097 : (Jvm.Cond.instanceMethod ({ cls := "BlottedDeed$Table", name := "fewestToKnow", desc := "(I)I" } : Jvm.MethodName)) ∈ gt := mg5 137 rfl rfl
theorem wt_1098 : (Jvm.Cond.selects "BlottedDeed$Table" ({ cls := "BlottedDeed$Table", name := "fewestToKnow", desc := "(I)I" } : Jvm.MethodName) ({ cls := "BlottedDeed$Table", name := "fewestToKnow", desc := "(I)I" } : Jvm.MethodName)) ∈ gt := mg5 138 rfl rfl
theorem wt_1099 : (Jvm.Cond.code ({ cls := "BlottedDeed$Table", name := "fewestToKnow", desc := "(I)I" } : Jvm.MethodName) prog_9_method_24_code (2 : Nat) (Option.some Jvm.ClassFile.FieldType.int)) ∈ gt := mg5 139 rfl rfl
theorem wt_1100 : (Jvm.Cond.methodLink "BlottedDeed$Table" (167 : Nat) ({ cls := "BlottedDeed$Table", name := "findFewest", desc := "(I)I" } : Jvm.MethodName)) ∈ gt := mg5 140 rfl rfl
theorem wt_1102 : (Jvm.Cond.instanceMethod ({ cls := "BlottedDeed$Table", name := "findFewest", desc := "(I)I" } : Jvm.MethodName)) ∈ gt := mg5 142 rfl rfl
theorem wt_1103 : (Jvm.Cond.code ({ cls := "BlottedDeed$Table", name := "findFewest", desc := "(I)I" } : Jvm.MethodName) prog_9_method_25_code (5 : Nat) (Option.some Jvm.ClassFile.FieldType.int)) ∈ gt := mg5 143 rfl rfl
theorem wt_1104 : (Jvm.Cond.methodLink "BlottedDeed$Table" (170 : Nat) ({ cls := "BlottedDeed$Table", name := "sortOwners", desc := "(II)Z" } : Jvm.MethodName)) ∈ gt := mg5 144 rfl rfl
theorem wt_1106 : (Jvm.Cond.instanceMethod ({ cls := "BlottedDeed$Table", name := "sortOwners", desc := "(II)Z" } : Jvm.MethodName)) ∈ gt := mg5 146 rfl rfl
theorem wt_1107 : (Jvm.Cond.code ({ cls := "BlottedDeed$Table", name := "sortOwners", desc := "(II)Z" } : Jvm.MethodName) prog_9_method_27_code (8 : Nat) (Option.some Jvm.ClassFile.FieldType.boolean)) ∈ gt := mg5 147 rfl rfl
theorem wt_1108 : (Jvm.Cond.methodLink "BlottedDeed$Table" (177 : Nat) ({ cls := "BlottedDeed$Table", name := "groupsBy", desc := "(I)I" } : Jvm.MethodName)) ∈ gt := mg5 148 rfl rfl
theorem wt_1110 : (Jvm.Cond.instanceMethod ({ cls := "BlottedDeed$Table", name := "groupsBy", desc := "(I)I" } : Jvm.MethodName)) ∈ gt := mg5 150 rfl rfl
theorem wt_1111 : (Jvm.Cond.code ({ cls := "BlottedDeed$Table", name := "groupsBy", desc := "(I)I" } : Jvm.MethodName) prog_9_method_28_code (4 : Nat) (Option.some Jvm.ClassFile.FieldType.int)) ∈ gt := mg5 151 rfl rfl
theorem wt_1112 : (Jvm.Cond.methodLink "BlottedDeed$Table" (174 : Nat) ({ cls := "BlottedDeed$Table", name := "groupOf", desc := "(II)I" } : Jvm.MethodName)) ∈ gt := mg5 152 rfl rfl
theorem wt_1114 : (Jvm.Cond.instanceMethod ({ cls := "BlottedDeed$Table", name := "groupOf", desc := "(II)I" } : Jvm.MethodName)) ∈ gt := mg5 154 rfl rfl
theorem wt_1115 : (Jvm.Cond.code ({ cls := "BlottedDeed$Table", name := "groupOf", desc := "(II)I" } : Jvm.MethodName) prog_9_method_29_code (5 : Nat) (Option.some Jvm.ClassFile.FieldType.int)) ∈ gt := mg5 155 rfl rfl
theorem wt_1116 : (Jvm.Cond.methodLink "BlottedDeed" (207 : Nat) ({ cls := "java/lang/Integer", name := "bitCount", desc := "(I)I" } : Jvm.MethodName)) ∈ gt := mg5 156 rfl rfl
theorem wt_1117 : (Jvm.Cond.methodLink "BlottedDeedLaw" (194 : Nat) ({ cls := "BlottedDeedLaw", name := "sway", desc := "(LBlottedDeed;II[J)I" } : Jvm.MethodName)) ∈ gt := mg5 157 rfl rfl
theorem wt_1118 : (Jvm.Cond.static ({ cls := "BlottedDeedLaw", name := "sway", desc := "(LBlottedDeed;II[J)I" } : Jvm.MethodName)) ∈ gt := mg5 158 rfl rfl
theorem wt_1119 : (Jvm.Cond.codeWith ({ cls := "BlottedDeedLaw", name := "sway", desc := "(LBlottedDeed;II[J)I" } : Jvm.MethodName) method_17_code (5 : Nat) (Option.some Jvm.ClassFile.FieldType.int) [((0 : Nat), (10 : Nat), (13 : Nat), (30 : Nat)), ((0 : Nat), (10 : Nat), (17 : Nat), (22 : Nat))]) ∈ gt := mg5 159 rfl rfl
theorem wt_1120 : (Jvm.Cond.methodLink "BlottedDeedLaw" (61 : Nat) ({ cls := "BlottedDeed", name := "sway", desc := "(II)I" } : Jvm.MethodName)) ∈ gt := mg5 160 rfl rfl
theorem wt_1121 : (Jvm.Cond.instanceMethod ({ cls := "BlottedDeed", name := "sway", desc := "(II)I" } : Jvm.MethodName)) ∈ gt := mg5 161 rfl rfl
theorem wt_1122 : (Jvm.Cond.selects "BlottedDeed" ({ cls := "BlottedDeed", name := "sway", desc := "(II)I" } : Jvm.MethodName) ({ cls := "BlottedDeed", name := "sway", desc := "(II)I" } : Jvm.MethodName)) ∈ gt := mg5 162 rfl rfl
theorem wt_1123 : (Jvm.Cond.code ({ cls := "BlottedDeed", name := "sway", desc := "(II)I" } : Jvm.MethodName) prog_1_method_22_code (3 : Nat) (Option.some Jvm.ClassFile.FieldType.int)) ∈ gt := mg5 163 rfl rfl
theorem wt_1124 : (Jvm.Cond.methodLink "BlottedDeed" (212 : Nat) ({ cls := "BlottedDeed$Table", name := "swayedBy", desc := "(II)I" } : Jvm.MethodName)) ∈ gt := mg5 164 rfl rfl
theorem wt_1125 : (Jvm.Cond.instanceMethod ({ cls := "BlottedDeed$Table", name := "swayedBy", desc := "(II)I" } : Jvm.MethodName)) ∈ gt := mg5 165 rfl rfl
theorem wt_1126 : (Jvm.Cond.selects "BlottedDeed$Table" ({ cls := "BlottedDeed$Table", name := "swayedBy", desc := "(II)I" } : Jvm.MethodName) ({ cls := "BlottedDeed$Table", name := "swayedBy", desc := "(II)I" } : Jvm.MethodName)) ∈ gt := mg5 166 rfl rfl
theorem wt_1127 : (Jvm.Cond.code ({ cls := "BlottedDeed$Table", name := "swayedBy", desc := "(II)I" } : Jvm.MethodName) prog_9_method_26_code (6 : Nat) (Option.some Jvm.ClassFile.FieldType.int)) ∈ gt := mg5 167 rfl rfl
theorem wt_1128 : (Jvm.Cond.methodLink "BlottedDeedLaw" (197 : Nat) ({ cls := "BlottedDeedLaw", name := "gains", desc := "(LBlottedDeed;I[J)I" } : Jvm.MethodName)) ∈ gt := mg5 168 rfl rfl
theorem wt_1129 : (Jvm.Cond.static ({ cls := "BlottedDeedLaw", name := "gains", desc := "(LBlottedDeed;I[J)I" } : Jvm.MethodName)) ∈ gt := mg5 169 rfl rfl
theorem wt_1130 : (Jvm.Cond.codeWith ({ cls := "BlottedDeedLaw", name := "gains", desc := "(LBlottedDeed;I[J)I" } : Jvm.MethodName) method_18_code (4 : Nat) (Option.some Jvm.ClassFile.FieldType.int) [((0 : Nat), (9 : Nat), (12 : Nat), (22 : Nat))]) ∈ gt := mg5 170 rfl rfl
theorem wt_1131 : (Jvm.Cond.methodLink "BlottedDeedLaw" (64 : Nat) ({ cls := "BlottedDeed", name := "gains", desc := "(I)I" } : Jvm.MethodName)) ∈ gt := mg5 171 rfl rfl
theorem wt_1132 : (Jvm.Cond.instanceMethod ({ cls := "BlottedDeed", name := "gains", desc := "(I)I" } : Jvm.MethodName)) ∈ gt := mg5 172 rfl rfl
theorem wt_1133 : (Jvm.Cond.selects "BlottedDeed" ({ cls := "BlottedDeed", name := "gains", desc := "(I)I" } : Jvm.MethodName) ({ cls := "BlottedDeed", name := "gains", desc := "(I)I" } : Jvm.MethodName)) ∈ gt := mg5 173 rfl rfl
theorem wt_1134 : (Jvm.Cond.code ({ cls := "BlottedDeed", name := "gains", desc := "(I)I" } : Jvm.MethodName) prog_1_method_23_code (4 : Nat) (Option.some Jvm.ClassFile.FieldType.int)) ∈ gt := mg5 174 rfl rfl
theorem wt_1135 : (Jvm.Cond.methodLink "BlottedDeed" (215 : Nat) ({ cls := "BlottedDeed$Table", name := "gainsBy", desc := "(II)Z" } : Jvm.MethodName)) ∈ gt := mg5 175 rfl rfl
theorem wt_1136 : (Jvm.Cond.instanceMethod ({ cls := "BlottedDeed$Table", name := "gainsBy", desc := "(II)Z" } : Jvm.MethodName)) ∈ gt := mg5 176 rfl rfl
theorem wt_1137 : (Jvm.Cond.selects "BlottedDeed$Table" ({ cls := "BlottedDeed$Table", name := "gainsBy", desc := "(II)Z" } : Jvm.MethodName) ({ cls := "BlottedDeed$Table", name := "gainsBy", desc := "(II)Z" } : Jvm.MethodName)) ∈ gt := mg5 177 rfl rfl
theorem wt_1138 : (Jvm.Cond.code ({ cls := "BlottedDeed$Table", name := "gainsBy", desc := "(II)Z" } : Jvm.MethodName) prog_9_method_23_code (6 : Nat) (Option.some Jvm.ClassFile.FieldType.boolean)) ∈ gt := mg5 178 rfl rfl
theorem wt_1139 : (Jvm.Cond.methodLink "BlottedDeed$Table" (164 : Nat) ({ cls := "BlottedDeed$Table", name := "bestFor", desc := "(I)I" } : Jvm.MethodName)) ∈ gt := mg5 179 rfl rfl
theorem wt_1140 : (Jvm.Cond.methodLink "BlottedDeedLaw" (200 : Nat) ({ cls := "BlottedDeedLaw", name := "settlement", desc := "(LBlottedDeed;I[J)I" } : Jvm.MethodName)) ∈ gt := mg5 180 rfl rfl
theorem wt_1141 : (Jvm.Cond.static ({ cls := "BlottedDeedLaw", name := "settlement", desc := "(LBlottedDeed;I[J)I" } : Jvm.MethodName)) ∈ gt := mg5 181 rfl rfl
theorem wt_1142 : (Jvm.Cond.codeWith ({ cls := "BlottedDeedLaw", name := "settlement", desc := "(LBlottedDeed;I[J)I" } : Jvm.MethodName) method_19_code (4 : Nat) (Option.some Jvm.ClassFile.FieldType.int) [((0 : Nat), (9 : Nat), (12 : Nat), (30 : Nat))]) ∈ gt := mg5 182 rfl rfl
theorem wt_1143 : (Jvm.Cond.methodLink "BlottedDeedLaw" (67 : Nat) ({ cls := "BlottedDeed", name := "settlement", desc := "(I)I" } : Jvm.MethodName)) ∈ gt := mg5 183 rfl rfl
theorem wt_1144 : (Jvm.Cond.instanceMethod ({ cls := "BlottedDeed", name := "settlement", desc := "(I)I" } : Jvm.MethodName)) ∈ gt := mg5 184 rfl rfl
theorem wt_1145 : (Jvm.Cond.selects "BlottedDeed" ({ cls := "BlottedDeed", name := "settlement", desc := "(I)I" } : Jvm.MethodName) ({ cls := "BlottedDeed", name := "settlement", desc := "(I)I" } : Jvm.MethodName)) ∈ gt := mg5 185 rfl rfl
theorem wt_1146 : (Jvm.Cond.code ({ cls := "BlottedDeed", name := "settlement", desc := "(I)I" } : Jvm.MethodName) prog_1_method_24_code (4 : Nat) (Option.some Jvm.ClassFile.FieldType.int)) ∈ gt := mg5 186 rfl rfl
theorem wt_1147 : (Jvm.Cond.methodLink "BlottedDeed" (219 : Nat) ({ cls := "BlottedDeed$Table", name := "allThereIs", desc := "()I" } : Jvm.MethodName)) ∈ gt := mg5 187 rfl rfl
theorem wt_1148 : (Jvm.Cond.instanceMethod ({ cls := "BlottedDeed$Table", name := "allThereIs", desc := "()I" } : Jvm.MethodName)) ∈ gt := mg5 188 rfl rfl
theorem wt_1149 : (Jvm.Cond.selects "BlottedDeed$Table" ({ cls := "BlottedDeed$Table", name := "allThereIs", desc := "()I" } : Jvm.MethodName) ({ cls := "BlottedDeed$Table", name := "allThereIs", desc := "()I" } : Jvm.MethodName)) ∈ gt := mg5 189 rfl rfl
theorem wt_1150 : (Jvm.Cond.code ({ cls := "BlottedDeed$Table", name := "allThereIs", desc := "()I" } : Jvm.MethodName) prog_9_method_16_code (3 : Nat) (Option.some Jvm.ClassFile.FieldType.int)) ∈ gt := mg5 190 rfl rfl
theorem wt_1151 : (Jvm.Cond.methodLink "BlottedDeedLaw" (203 : Nat) ({ cls := "BlottedDeedLaw", name := "copy", desc := "(LBlottedDeed;III[J)I" } : Jvm.MethodName)) ∈ gt := mg5 191 rfl rfl
theorem wt_1152 : (Jvm.Cond.static ({ cls := "BlottedDeedLaw", name := "copy", desc := "(LBlottedDeed;III[J)I" } : Jvm.MethodName)) ∈ gt := mg5 192 rfl rfl
theorem wt_1153 : (Jvm.Cond.codeWith ({ cls := "BlottedDeedLaw", name := "copy", desc := "(LBlottedDeed;III[J)I" } : Jvm.MethodName) method_20_code (6 : Nat) (Option.some Jvm.ClassFile.FieldType.int) [((0 : Nat), (12 : Nat), (15 : Nat), (22 : Nat)), ((0 : Nat), (12 : Nat), (19 : Nat), (13 : Nat))]) ∈ gt := mg5 193 rfl rfl
theorem wt_1154 : (Jvm.Cond.methodLink "BlottedDeedLaw" (70 : Nat) ({ cls := "BlottedDeed", name := "copy", desc := "(III)I" } : Jvm.MethodName)) ∈ gt := mg5 194 rfl rfl
theorem wt_1155 : (Jvm.Cond.instanceMethod ({ cls := "BlottedDeed", name := "copy", desc := "(III)I" } : Jvm.MethodName)) ∈ gt := mg5 195 rfl rfl
theorem wt_1156 : (Jvm.Cond.selects "BlottedDeed" ({ cls := "BlottedDeed", name := "copy", desc := "(III)I" } : Jvm.MethodName) ({ cls := "BlottedDeed", name := "copy", desc := "(III)I" } : Jvm.MethodName)) ∈ gt := mg5 196 rfl rfl
theorem wt_1157 : (Jvm.Cond.code ({ cls := "BlottedDeed", name := "copy", desc := "(III)I" } : Jvm.MethodName) prog_1_method_25_code (4 : Nat) (Option.some Jvm.ClassFile.FieldType.int)) ∈ gt := mg5 197 rfl rfl
theorem wt_1158 : (Jvm.Cond.methodLink "BlottedDeed" (222 : Nat) ({ cls := "BlottedDeed", name := "isHand", desc := "(I)Z" } : Jvm.MethodName)) ∈ gt := mg5 198 rfl rfl
theorem wt_1159 : (Jvm.Cond.static ({ cls := "BlottedDeed", name := "isHand", desc := "(I)Z" } : Jvm.MethodName)) ∈ gt := mg5 199 rfl rfl
theorem wt_1160 : (Jvm.Cond.code ({ cls := "BlottedDeed", name := "isHand", desc := "(I)Z" } : Jvm.MethodName) prog_1_method_54_code (1 : Nat) (Option.some Jvm.ClassFile.FieldType.boolean)) ∈ gt := mg5 200 rfl rfl
theorem wt_1161 : (Jvm.Cond.methodLink "BlottedDeed" (226 : Nat) ({ cls := "BlottedDeed$Deed", name := "canBeTold", desc := "(II)Z" } : Jvm.MethodName)) ∈ gt := mg5 201 rfl rfl
theorem wt_1162 : (Jvm.Cond.instanceMethod ({ cls := "BlottedDeed$Deed", name := "canBeTold", desc := "(II)Z" } : Jvm.MethodName)) ∈ gt := mg5 202 rfl rfl
theorem wt_1163 : (Jvm.Cond.selects "BlottedDeed$Deed" ({ cls := "BlottedDeed$Deed", name := "canBeTold", desc := "(II)Z" } : Jvm.MethodName) ({ cls := "BlottedDeed$Deed", name := "canBeTold", desc := "(II)Z" } : Jvm.MethodName)) ∈ gt := mg5 203 rfl rfl
theorem wt_1164 : (Jvm.Cond.code ({ cls := "BlottedDeed$Deed", name := "canBeTold", desc := "(II)Z" } : Jvm.MethodName) prog_4_method_15_code (5 : Nat) (Option.some Jvm.ClassFile.FieldType.boolean)) ∈ gt := mg5 204 rfl rfl
theorem wt_1165 : (Jvm.Cond.methodLink "BlottedDeed" (229 : Nat) ({ cls := "BlottedDeed$Testimony", name := "addCopy", desc := "(III)I" } : Jvm.MethodName)) ∈ gt := mg5 205 rfl rfl
theorem wt_1166 : (Jvm.Cond.instanceMethod ({ cls := "BlottedDeed$Testimony", name := "addCopy", desc := "(III)I" } : Jvm.MethodName)) ∈ gt := mg5 206 rfl rfl
theorem wt_1167 : (Jvm.Cond.selects "BlottedDeed$Testimony" ({ cls := "BlottedDeed$Testimony", name := "addCopy", desc := "(III)I" } : Jvm.MethodName) ({ cls := "BlottedDeed$Testimony", name := "addCopy", desc := "(III)I" } : Jvm.MethodName)) ∈ gt := mg5 207 rfl rfl
theorem wt_1168 : (Jvm.Cond.code ({ cls := "BlottedDeed$Testimony", name := "addCopy", desc := "(III)I" } : Jvm.MethodName) prog_10_method_3_code (4 : Nat) (Option.some Jvm.ClassFile.FieldType.int)) ∈ gt := mg5 208 rfl rfl
theorem wt_1169 : (Jvm.Cond.methodLink "BlottedDeedLaw" (206 : Nat) ({ cls := "BlottedDeedLaw", name := "habit", desc := "(LBlottedDeed;IIII[J)I" } : Jvm.MethodName)) ∈ gt := mg5 209 rfl rfl
theorem wt_1170 : (Jvm.Cond.static ({ cls := "BlottedDeedLaw", name := "habit", desc := "(LBlottedDeed;IIII[J)I" } : Jvm.MethodName)) ∈ gt := mg5 210 rfl rfl
theorem wt_1171 : (Jvm.Cond.codeWith ({ cls := "BlottedDeedLaw", name := "habit", desc := "(LBlottedDeed;IIII[J)I" } : Jvm.MethodName) method_21_code (7 : Nat) (Option.some Jvm.ClassFile.FieldType.int) [((0 : Nat), (14 : Nat), (17 : Nat), (13 : Nat))]) ∈ gt := mg5 211 rfl rfl
theorem wt_1172 : (Jvm.Cond.methodLink "BlottedDeedLaw" (73 : Nat) ({ cls := "BlottedDeed", name := "habit", desc := "(IIII)I" } : Jvm.MethodName)) ∈ gt := mg5 212 rfl rfl
theorem wt_1173 : (Jvm.Cond.instanceMethod ({ cls := "BlottedDeed", name := "habit", desc := "(IIII)I" } : Jvm.MethodName)) ∈ gt := mg5 213 rfl rfl
theorem wt_1174 : (Jvm.Cond.selects "BlottedDeed" ({ cls := "BlottedDeed", name := "habit", desc := "(IIII)I" } : Jvm.MethodName) ({ cls := "BlottedDeed", name := "habit", desc := "(IIII)I" } : Jvm.MethodName)) ∈ gt := mg5 214 rfl rfl
theorem wt_1175 : (Jvm.Cond.code ({ cls := "BlottedDeed", name := "habit", desc := "(IIII)I" } : Jvm.MethodName) prog_1_method_26_code (5 : Nat) (Option.some Jvm.ClassFile.FieldType.int)) ∈ gt := mg5 215 rfl rfl
theorem wt_1176 : (Jvm.Cond.methodLink "BlottedDeed" (233 : Nat) ({ cls := "BlottedDeed", name := "isNum", desc := "(I)Z" } : Jvm.MethodName)) ∈ gt := mg5 216 rfl rfl
theorem wt_1177 : (Jvm.Cond.static ({ cls := "BlottedDeed", name := "isNum", desc := "(I)Z" } : Jvm.MethodName)) ∈ gt := mg5 217 rfl rfl
theorem wt_1178 : (Jvm.Cond.code ({ cls := "BlottedDeed", name := "isNum", desc := "(I)Z" } : Jvm.MethodName) prog_1_method_55_code (1 : Nat) (Option.some Jvm.ClassFile.FieldType.boolean)) ∈ gt := mg5 218 rfl rfl
theorem wt_1179 : (Jvm.Cond.methodLink "BlottedDeed" (236 : Nat) ({ cls := "BlottedDeed$Testimony", name := "addHabit", desc := "(IIII)I" } : Jvm.MethodName)) ∈ gt := mg5 219 rfl rfl
theorem wt_1180 : (Jvm.Cond.instanceMethod ({ cls := "BlottedDeed$Testimony", name := "addHabit", desc := "(IIII)I" } : Jvm.MethodName)) ∈ gt := mg5 220 rfl rfl
theorem wt_1181 : (Jvm.Cond.selects "BlottedDeed$Testimony" ({ cls := "BlottedDeed$Testimony", name := "addHabit", desc := "(IIII)I" } : Jvm.MethodName) ({ cls := "BlottedDeed$Testimony", name := "addHabit", desc := "(IIII)I" } : Jvm.MethodName)) ∈ gt := mg5 221 rfl rfl
theorem wt_1182 : (Jvm.Cond.code ({ cls := "BlottedDeed$Testimony", name := "addHabit", desc := "(IIII)I" } : Jvm.MethodName) prog_10_method_4_code (5 : Nat) (Option.some Jvm.ClassFile.FieldType.int)) ∈ gt := mg5 222 rfl rfl
theorem wt_1183 : (Jvm.Cond.methodLink "BlottedDeedLaw" (214 : Nat) ({ cls := "BlottedDeedLaw", name := "odds", desc := "(LBlottedDeed;I[J)I" } : Jvm.MethodName)) ∈ gt := mg5 223 rfl rfl
theorem wt_1184 : (Jvm.Cond.static ({ cls := "BlottedDeedLaw", name := "odds", desc := "(LBlottedDeed;I[J)I" } : Jvm.MethodName)) ∈ gt := mg5 224 rfl rfl
theorem wt_1185 : (Jvm.Cond.codeWith ({ cls := "BlottedDeedLaw", name := "odds", desc := "(LBlottedDeed;I[J)I" } : Jvm.MethodName) method_22_code (4 : Nat) (Option.some Jvm.ClassFile.FieldType.int) [((0 : Nat), (8 : Nat), (11 : Nat), (30 : Nat))]) ∈ gt := mg5 225 rfl rfl
theorem wt_1186 : (Jvm.Cond.methodLink "BlottedDeedLaw" (77 : Nat) ({ cls := "BlottedDeed", name := "odds", desc := "(I)J" } : Jvm.MethodName)) ∈ gt := mg5 226 rfl rfl
theorem wt_1187 : (Jvm.Cond.instanceMethod ({ cls := "BlottedDeed", name := "odds", desc := "(I)J" } : Jvm.MethodName)) ∈ gt := mg5 227 rfl rfl
theorem wt_1188 : (Jvm.Cond.selects "BlottedDeed" ({ cls := "BlottedDeed", name := "odds", desc := "(I)J" } : Jvm.MethodName) ({ cls := "BlottedDeed", name := "odds", desc := "(I)J" } : Jvm.MethodName)) ∈ gt := mg5 228 rfl rfl
theorem wt_1189 : (Jvm.Cond.code ({ cls := "BlottedDeed", name := "odds", desc := "(I)J" } : Jvm.MethodName) prog_1_method_28_code (2 : Nat) (Option.some Jvm.ClassFile.FieldType.long)) ∈ gt := mg5 229 rfl rfl
theorem wt_1190 : (Jvm.Cond.methodLink "BlottedDeedLaw" (217 : Nat) ({ cls := "BlottedDeedLaw", name := "likely", desc := "(LBlottedDeed;III[J)I" } : Jvm.MethodName)) ∈ gt := mg5 230 rfl rfl
theorem wt_1191 : (Jvm.Cond.static ({ cls := "BlottedDeedLaw", name := "likely", desc := "(LBlottedDeed;III[J)I" } : Jvm.MethodName)) ∈ gt := mg5 231 rfl rfl
theorem wt_1192 : (Jvm.Cond.codeWith ({ cls := "BlottedDeedLaw", name := "likely", desc := "(LBlottedDeed;III[J)I" } : Jvm.MethodName) method_23_code (6 : Nat) (Option.some Jvm.ClassFile.FieldType.int) [((0 : Nat), (11 : Nat), (14 : Nat), (30 : Nat)), ((0 : Nat), (11 : Nat), (18 : Nat), (13 : Nat))]) ∈ gt := mg5 232 rfl rfl
theorem wt_1193 : (Jvm.Cond.methodLink "BlottedDeedLaw" (81 : Nat) ({ cls := "BlottedDeed", name := "likely", desc := "(III)J" } : Jvm.MethodName)) ∈ gt := mg5 233 rfl rfl
theorem wt_1194 : (Jvm.Cond.instanceMethod ({ cls := "BlottedDeed", name := "likely", desc := "(III)J" } : Jvm.MethodName)) ∈ gt := mg5 234 rfl rfl
theorem wt_1195 : (Jvm.Cond.selects "BlottedDeed" ({ cls := "BlottedDeed", name := "likely", desc := "(III)J" } : Jvm.MethodName) ({ cls := "BlottedDeed", name := "likely", desc := "(III)J" } : Jvm.MethodName)) ∈ gt := mg5 235 rfl rfl
theorem wt_1196 : (Jvm.Cond.code ({ cls := "BlottedDeed", name := "likely", desc := "(III)J" } : Jvm.MethodName) prog_1_method_29_code (11 : Nat) (Option.some Jvm.ClassFile.FieldType.long)) ∈ gt := mg5 236 rfl rfl
theorem wt_1197 : (Jvm.Cond.methodLink "BlottedDeed" (258 : Nat) ({ cls := "BlottedDeed", name := "commonDivisor", desc := "(JJ)J" } : Jvm.MethodName)) ∈ gt := mg5 237 rfl rfl
theorem wt_1198 : (Jvm.Cond.static ({ cls := "BlottedDeed", name := "commonDivisor", desc := "(JJ)J" } : Jvm.MethodName)) ∈ gt := mg5 238 rfl rfl
theorem wt_1199 : (Jvm.Cond.code ({ cls := "BlottedDeed", name := "commonDivisor", desc := "(JJ)J" } : Jvm.MethodName) prog_1_method_56_code (7 : Nat) (Option.some Jvm.ClassFile.FieldType.long)) ∈ gt := mg5 239 rfl rfl
theorem wt_1200 : (Jvm.Cond.methodLink "BlottedDeedLaw" (224 : Nat) ({ cls := "BlottedDeedLaw", name := "slips", desc := "(LBlottedDeed;I[J)I" } : Jvm.MethodName)) ∈ gt := mg6 0 rfl rfl
theorem wt_1201 : (Jvm.Cond.static ({ cls := "BlottedDeedLaw", name := "slips", desc := "(LBlottedDeed;I[J)I" } : Jvm.MethodName)) ∈ gt := mg6 1 rfl rfl
theorem wt_1202 : (Jvm.Cond.codeWith ({ cls := "BlottedDeedLaw", name := "slips", desc := "(LBlottedDeed;I[J)I" } : Jvm.MethodName) method_24_code (4 : Nat) (Option.some Jvm.ClassFile.FieldType.int) [((0 : Nat), (9 : Nat), (12 : Nat), (13 : Nat))]) ∈ gt := mg6 2 rfl rfl
theorem wt_1203 : (Jvm.Cond.methodLink "BlottedDeedLaw" (85 : Nat) ({ cls := "BlottedDeed", name := "slips", desc := "(I)I" } : Jvm.MethodName)) ∈ gt := mg6 3 rfl rfl
theorem wt_1204 : (Jvm.Cond.instanceMethod ({ cls := "BlottedDeed", name := "slips", desc := "(I)I" } : Jvm.MethodName)) ∈ gt := mg6 4 rfl rfl
theorem wt_1205 : (Jvm.Cond.selects "BlottedDeed" ({ cls := "BlottedDeed", name := "slips", desc := "(I)I" } : Jvm.MethodName) ({ cls := "BlottedDeed", name := "slips", desc := "(I)I" } : Jvm.MethodName)) ∈ gt := mg6 5 rfl rfl
theorem wt_1206 : (Jvm.Cond.code ({ cls := "BlottedDeed", name := "slips", desc := "(I)I" } : Jvm.MethodName) prog_1_method_31_code (6 : Nat) (Option.some Jvm.ClassFile.FieldType.int)) ∈ gt := mg6 6 rfl rfl
theorem wt_1207 : (Jvm.Cond.methodLink "BlottedDeed" (262 : Nat) ({ cls := "BlottedDeed$Scales", name := "slipsOf", desc := "(J)I" } : Jvm.MethodName)) ∈ gt := mg6 7 rfl rfl
theorem wt_1208 : (Jvm.Cond.instanceMethod ({ cls := "BlottedDeed$Scales", name := "slipsOf", desc := "(J)I" } : Jvm.MethodName)) ∈ gt := mg6 8 rfl rfl
theorem wt_1209 : (Jvm.Cond.selects "BlottedDeed$Scales" ({ cls := "BlottedDeed$Scales", name := "slipsOf", desc := "(J)I" } : Jvm.MethodName) ({ cls := "BlottedDeed$Scales", name := "slipsOf", desc := "(J)I" } : Jvm.MethodName)) ∈ gt := mg6 9 rfl rfl
theorem wt_1210 : (Jvm.Cond.code ({ cls := "BlottedDeed$Scales", name := "slipsOf", desc := "(J)I" } : Jvm.MethodName) prog_7_method_4_code (5 : Nat) (Option.some Jvm.ClassFile.FieldType.int)) ∈ gt := mg6 10 rfl rfl
theorem wt_1211 : (Jvm.Cond.methodLink "BlottedDeedLaw" (227 : Nat) ({ cls := "BlottedDeedLaw", name := "more", desc := "(LBlottedDeed;II[J)I" } : Jvm.MethodName)) ∈ gt := mg6 11 rfl rfl
theorem wt_1212 : (Jvm.Cond.static ({ cls := "BlottedDeedLaw", name := "more", desc := "(LBlottedDeed;II[J)I" } : Jvm.MethodName)) ∈ gt := mg6 12 rfl rfl
theorem wt_1213 : (Jvm.Cond.codeWith ({ cls := "BlottedDeedLaw", name := "more", desc := "(LBlottedDeed;II[J)I" } : Jvm.MethodName) method_25_code (5 : Nat) (Option.some Jvm.ClassFile.FieldType.int) [((0 : Nat), (10 : Nat), (13 : Nat), (30 : Nat)), ((0 : Nat), (10 : Nat), (17 : Nat), (13 : Nat))]) ∈ gt := mg6 13 rfl rfl
theorem wt_1214 : (Jvm.Cond.methodLink "BlottedDeedLaw" (88 : Nat) ({ cls := "BlottedDeed", name := "more", desc := "(II)I" } : Jvm.MethodName)) ∈ gt := mg6 14 rfl rfl
theorem wt_1215 : (Jvm.Cond.instanceMethod ({ cls := "BlottedDeed", name := "more", desc := "(II)I" } : Jvm.MethodName)) ∈ gt := mg6 15 rfl rfl
theorem wt_1216 : (Jvm.Cond.selects "BlottedDeed" ({ cls := "BlottedDeed", name := "more", desc := "(II)I" } : Jvm.MethodName) ({ cls := "BlottedDeed", name := "more", desc := "(II)I" } : Jvm.MethodName)) ∈ gt := mg6 16 rfl rfl
theorem wt_1217 : (Jvm.Cond.code ({ cls := "BlottedDeed", name := "more", desc := "(II)I" } : Jvm.MethodName) prog_1_method_32_code (3 : Nat) (Option.some Jvm.ClassFile.FieldType.int)) ∈ gt := mg6 17 rfl rfl
theorem wt_1218 : (Jvm.Cond.methodLink "BlottedDeed" (269 : Nat) ({ cls := "BlottedDeed$Anew", name := "clean", desc := "(LBlottedDeed$Deed;J)V" } : Jvm.MethodName)) ∈ gt := mg6 18 rfl rfl
theorem wt_1219 : (Jvm.Cond.instanceMethod ({ cls := "BlottedDeed$Anew", name := "clean", desc := "(LBlottedDeed$Deed;J)V" } : Jvm.MethodName)) ∈ gt := mg6 19 rfl rfl
theorem wt_1220 : (Jvm.Cond.selects "BlottedDeed$Anew" ({ cls := "BlottedDeed$Anew", name := "clean", desc := "(LBlottedDeed$Deed;J)V" } : Jvm.MethodName) ({ cls := "BlottedDeed$Anew", name := "clean", desc := "(LBlottedDeed$Deed;J)V" } : Jvm.MethodName)) ∈ gt := mg6 20 rfl rfl
theorem wt_1221 : (Jvm.Cond.code ({ cls := "BlottedDeed$Anew", name := "clean", desc := "(LBlottedDeed$Deed;J)V" } : Jvm.MethodName) prog_2_method_2_code (4 : Nat) (Option.none : Option Jvm.ClassFile.FieldType)) ∈ gt := mg6 21 rfl rfl
theorem wt_1222 : (Jvm.Cond.methodLink "BlottedDeed$Anew" (29 : Nat) ({ cls := "BlottedDeed$Row", name := "show", desc := "(LBlottedDeed$Deed;J)V" } : Jvm.MethodName)) ∈ gt := mg6 22 rfl rfl
theorem wt_1223 : (Jvm.Cond.instanceMethod ({ cls := "BlottedDeed$Row", name := "show", desc := "(LBlottedDeed$Deed;J)V" } : Jvm.MethodName)) ∈ gt := mg6 23 rfl rfl
theorem wt_1224 : (Jvm.Cond.selects "BlottedDeed$Row" ({ cls := "BlottedDeed$Row", name := "show", desc := "(LBlottedDeed$Deed;J)V" } : Jvm.MethodName) ({ cls := "BlottedDeed$Row", name := "show", desc := "(LBlottedDeed$Deed;J)V" } : Jvm.MethodName)) ∈ gt := mg6 24 rfl rfl
theorem wt_1225 : (Jvm.Cond.code ({ cls := "BlottedDeed$Row", name := "show", desc := "(LBlottedDeed$Deed;J)V" } : Jvm.MethodName) prog_6_method_3_code (5 : Nat) (Option.none : Option Jvm.ClassFile.FieldType)) ∈ gt := mg6 25 rfl rfl
theorem wt_1226 : (Jvm.Cond.methodLink "BlottedDeed$Row" (48 : Nat) ({ cls := "BlottedDeed$Row", name := "digitIn", desc := "(JI)I" } : Jvm.MethodName)) ∈ gt := mg6 26 rfl rfl
theorem wt_1227 : (Jvm.Cond.methodLink "BlottedDeed" (273 : Nat) ({ cls := "BlottedDeed$Anew", name := "standsAt", desc := "(I)I" } : Jvm.MethodName)) ∈ gt := mg6 27 rfl rfl
theorem wt_1228 : (Jvm.Cond.instanceMethod ({ cls := "BlottedDeed$Anew", name := "standsAt", desc := "(I)I" } : Jvm.MethodName)) ∈ gt := mg6 28 rfl rfl
theorem wt_1229 : (Jvm.Cond.selects "BlottedDeed$Anew" ({ cls := "BlottedDeed$Anew", name := "standsAt", desc := "(I)I" } : Jvm.MethodName) ({ cls := "BlottedDeed$Anew", name := "standsAt", desc := "(I)I" } : Jvm.MethodName)) ∈ gt := mg6 29 rfl rfl
theorem wt_1230 : (Jvm.Cond.code ({ cls := "BlottedDeed$Anew", name := "standsAt", desc := "(I)I" } : Jvm.MethodName) prog_2_method_3_code (2 : Nat) (Option.some Jvm.ClassFile.FieldType.int)) ∈ gt := mg6 30 rfl rfl
theorem wt_1231 : (Jvm.Cond.methodLink "BlottedDeed" (276 : Nat) ({ cls := "BlottedDeed$Anew", name := "candidatesAt", desc := "(I)I" } : Jvm.MethodName)) ∈ gt := mg6 31 rfl rfl
theorem wt_1232 : (Jvm.Cond.instanceMethod ({ cls := "BlottedDeed$Anew", name := "candidatesAt", desc := "(I)I" } : Jvm.MethodName)) ∈ gt := mg6 32 rfl rfl
theorem wt_1233 : (Jvm.Cond.selects "BlottedDeed$Anew" ({ cls := "BlottedDeed$Anew", name := "candidatesAt", desc := "(I)I" } : Jvm.MethodName) ({ cls := "BlottedDeed$Anew", name := "candidatesAt", desc := "(I)I" } : Jvm.MethodName)) ∈ gt := mg6 33 rfl rfl
theorem wt_1234 : (Jvm.Cond.code ({ cls := "BlottedDeed$Anew", name := "candidatesAt", desc := "(I)I" } : Jvm.MethodName) prog_2_method_4_code (3 : Nat) (Option.some Jvm.ClassFile.FieldType.int)) ∈ gt := mg6 34 rfl rfl
theorem wt_1235 : (Jvm.Cond.methodLink "BlottedDeed$Anew" (42 : Nat) ({ cls := "BlottedDeed$Deed", name := "widthOf", desc := "(II)I" } : Jvm.MethodName)) ∈ gt := mg6 35 rfl rfl
theorem wt_1236 : (Jvm.Cond.instanceMethod ({ cls := "BlottedDeed$Deed", name := "widthOf", desc := "(II)I" } : Jvm.MethodName)) ∈ gt := mg6 36 rfl rfl
theorem wt_1237 : (Jvm.Cond.selects "BlottedDeed$Deed" ({ cls := "BlottedDeed$Deed", name := "widthOf", desc := "(II)I" } : Jvm.MethodName) ({ cls := "BlottedDeed$Deed", name := "widthOf", desc := "(II)I" } : Jvm.MethodName)) ∈ gt := mg6 37 rfl rfl
theorem wt_1238 : (Jvm.Cond.code ({ cls := "BlottedDeed$Deed", name := "widthOf", desc := "(II)I" } : Jvm.MethodName) prog_4_method_14_code (3 : Nat) (Option.some Jvm.ClassFile.FieldType.int)) ∈ gt := mg6 38 rfl rfl
theorem wt_1239 : (Jvm.Cond.methodLink "BlottedDeed$Anew" (46 : Nat) ({ cls := "BlottedDeed$Deed", name := "fill", desc := "(LBlottedDeed$Blot;II)V" } : Jvm.MethodName)) ∈ gt := mg6 39 rfl rfl
theorem wt_1240 : (Jvm.Cond.methodLink "BlottedDeed" (279 : Nat) ({ cls := "BlottedDeed$Anew", name := "readingsAt", desc := "(I)I" } : Jvm.MethodName)) ∈ gt := mg6 40 rfl rfl
theorem wt_1241 : (Jvm.Cond.instanceMethod ({ cls := "BlottedDeed$Anew", name := "readingsAt", desc := "(I)I" } : Jvm.MethodName)) ∈ gt := mg6 41 rfl rfl
theorem wt_1242 : (Jvm.Cond.selects "BlottedDeed$Anew" ({ cls := "BlottedDeed$Anew", name := "readingsAt", desc := "(I)I" } : Jvm.MethodName) ({ cls := "BlottedDeed$Anew", name := "readingsAt", desc := "(I)I" } : Jvm.MethodName)) ∈ gt := mg6 42 rfl rfl
theorem wt_1243 : (Jvm.Cond.code ({ cls := "BlottedDeed$Anew", name := "readingsAt", desc := "(I)I" } : Jvm.MethodName) prog_2_method_5_code (6 : Nat) (Option.some Jvm.ClassFile.FieldType.int)) ∈ gt := mg6 43 rfl rfl
theorem wt_1244 : (Jvm.Cond.methodLink "BlottedDeed$Anew" (54 : Nat) ({ cls := "BlottedDeed$Anew", name := "candidatesAt", desc := "(I)I" } : Jvm.MethodName)) ∈ gt := mg6 44 rfl rfl
theorem wt_1245 : (Jvm.Cond.methodLink "BlottedDeed$Anew" (61 : Nat) ({ cls := "BlottedDeed$Anew", name := "isLawful", desc := "(II)Z" } : Jvm.MethodName)) ∈ gt := mg6 45 rfl rfl
theorem wt_1247 : (Jvm.Cond.instanceMethod ({ cls := "BlottedDeed$Anew", name := "isLawful", desc := "(II)Z" } : Jvm.MethodName)) ∈ gt := mg6 47 rfl rfl
theorem wt_1248 : (Jvm.Cond.code ({ cls := "BlottedDeed$Anew", name := "isLawful", desc := "(II)Z" } : Jvm.MethodName) prog_2_method_7_code (3 : Nat) (Option.some Jvm.ClassFile.FieldType.boolean)) ∈ gt := mg6 48 rfl rfl
theorem wt_1249 : (Jvm.Cond.methodLink "BlottedDeed$Anew" (68 : Nat) ({ cls := "BlottedDeed$Row", name := "reckon", desc := "(LBlottedDeed$Deed;I)V" } : Jvm.MethodName)) ∈ gt := mg6 49 rfl rfl
theorem wt_1250 : (Jvm.Cond.methodLink "BlottedDeed$Anew" (72 : Nat) ({ cls := "BlottedDeed$Row", name := "broken", desc := "(LBlottedDeed$Deed;)I" } : Jvm.MethodName)) ∈ gt := mg6 50 rfl rfl
theorem wt_1251 : (Jvm.Cond.methodLink "BlottedDeedLaw" (230 : Nat) ({ cls := "BlottedDeedLaw", name := "weak", desc := "(LBlottedDeed;I[J)I" } : Jvm.MethodName)) ∈ gt := mg6 51 rfl rfl
theorem wt_1252 : (Jvm.Cond.static ({ cls := "BlottedDeedLaw", name := "weak", desc := "(LBlottedDeed;I[J)I" } : Jvm.MethodName)) ∈ gt := mg6 52 rfl rfl
theorem wt_1253 : (Jvm.Cond.codeWith ({ cls := "BlottedDeedLaw", name := "weak", desc := "(LBlottedDeed;I[J)I" } : Jvm.MethodName) method_26_code (4 : Nat) (Option.some Jvm.ClassFile.FieldType.int) [((0 : Nat), (9 : Nat), (12 : Nat), (30 : Nat))]) ∈ gt := mg6 53 rfl rfl
theorem wt_1254 : (Jvm.Cond.methodLink "BlottedDeedLaw" (91 : Nat) ({ cls := "BlottedDeed", name := "weak", desc := "(I)I" } : Jvm.MethodName)) ∈ gt := mg6 54 rfl rfl
theorem wt_1255 : (Jvm.Cond.instanceMethod ({ cls := "BlottedDeed", name := "weak", desc := "(I)I" } : Jvm.MethodName)) ∈ gt := mg6 55 rfl rfl
theorem wt_1256 : (Jvm.Cond.selects "BlottedDeed" ({ cls := "BlottedDeed", name := "weak", desc := "(I)I" } : Jvm.MethodName) ({ cls := "BlottedDeed", name := "weak", desc := "(I)I" } : Jvm.MethodName)) ∈ gt := mg6 56 rfl rfl
theorem wt_1257 : (Jvm.Cond.code ({ cls := "BlottedDeed", name := "weak", desc := "(I)I" } : Jvm.MethodName) prog_1_method_33_code (4 : Nat) (Option.some Jvm.ClassFile.FieldType.int)) ∈ gt := mg6 57 rfl rfl
theorem wt_1258 : (Jvm.Cond.methodLink "BlottedDeed" (282 : Nat) ({ cls := "BlottedDeed$Anew", name := "isWeak", desc := "(II)Z" } : Jvm.MethodName)) ∈ gt := mg6 58 rfl rfl
theorem wt_1259 : (Jvm.Cond.instanceMethod ({ cls := "BlottedDeed$Anew", name := "isWeak", desc := "(II)Z" } : Jvm.MethodName)) ∈ gt := mg6 59 rfl rfl
theorem wt_1260 : (Jvm.Cond.selects "BlottedDeed$Anew" ({ cls := "BlottedDeed$Anew", name := "isWeak", desc := "(II)Z" } : Jvm.MethodName) ({ cls := "BlottedDeed$Anew", name := "isWeak", desc := "(II)Z" } : Jvm.MethodName)) ∈ gt := mg6 60 rfl rfl
theorem wt_1261 : (Jvm.Cond.code ({ cls := "BlottedDeed$Anew", name := "isWeak", desc := "(II)Z" } : Jvm.MethodName) prog_2_method_6_code (9 : Nat) (Option.some Jvm.ClassFile.FieldType.boolean)) ∈ gt := mg6 61 rfl rfl
theorem wt_1262 : (Jvm.Cond.methodLink "BlottedDeedLaw" (233 : Nat) ({ cls := "BlottedDeedLaw", name := "holding", desc := "(LBlottedDeed;II[J)I" } : Jvm.MethodName)) ∈ gt := mg6 62 rfl rfl
theorem wt_1263 : (Jvm.Cond.static ({ cls := "BlottedDeedLaw", name := "holding", desc := "(LBlottedDeed;II[J)I" } : Jvm.MethodName)) ∈ gt := mg6 63 rfl rfl
theorem wt_1264 : (Jvm.Cond.codeWith ({ cls := "BlottedDeedLaw", name := "holding", desc := "(LBlottedDeed;II[J)I" } : Jvm.MethodName) method_27_code (5 : Nat) (Option.some Jvm.ClassFile.FieldType.int) [((0 : Nat), (10 : Nat), (13 : Nat), (22 : Nat))]) ∈ gt := mg6 64 rfl rfl
theorem wt_1265 : (Jvm.Cond.methodLink "BlottedDeedLaw" (94 : Nat) ({ cls := "BlottedDeed", name := "holding", desc := "(II)I" } : Jvm.MethodName)) ∈ gt := mg6 65 rfl rfl
theorem wt_1266 : (Jvm.Cond.instanceMethod ({ cls := "BlottedDeed", name := "holding", desc := "(II)I" } : Jvm.MethodName)) ∈ gt := mg6 66 rfl rfl
theorem wt_1267 : (Jvm.Cond.selects "BlottedDeed" ({ cls := "BlottedDeed", name := "holding", desc := "(II)I" } : Jvm.MethodName) ({ cls := "BlottedDeed", name := "holding", desc := "(II)I" } : Jvm.MethodName)) ∈ gt := mg6 67 rfl rfl
theorem wt_1268 : (Jvm.Cond.code ({ cls := "BlottedDeed", name := "holding", desc := "(II)I" } : Jvm.MethodName) prog_1_method_34_code (4 : Nat) (Option.some Jvm.ClassFile.FieldType.int)) ∈ gt := mg6 68 rfl rfl
theorem wt_1269 : (Jvm.Cond.methodLink "BlottedDeed" (285 : Nat) ({ cls := "BlottedDeed$Blot", name := "digitOf", desc := "(I)I" } : Jvm.MethodName)) ∈ gt := mg6 69 rfl rfl
theorem wt_1270 : (Jvm.Cond.instanceMethod ({ cls := "BlottedDeed$Blot", name := "digitOf", desc := "(I)I" } : Jvm.MethodName)) ∈ gt := mg6 70 rfl rfl
theorem wt_1271 : (Jvm.Cond.selects "BlottedDeed$Blot" ({ cls := "BlottedDeed$Blot", name := "digitOf", desc := "(I)I" } : Jvm.MethodName) ({ cls := "BlottedDeed$Blot", name := "digitOf", desc := "(I)I" } : Jvm.MethodName)) ∈ gt := mg6 71 rfl rfl
theorem wt_1272 : (Jvm.Cond.code ({ cls := "BlottedDeed$Blot", name := "digitOf", desc := "(I)I" } : Jvm.MethodName) prog_3_method_3_code (3 : Nat) (Option.some Jvm.ClassFile.FieldType.int)) ∈ gt := mg6 72 rfl rfl
theorem wt_1273 : (Jvm.Cond.methodLink "BlottedDeed" (288 : Nat) ({ cls := "BlottedDeed$Table", name := "holdingDigit", desc := "(II)I" } : Jvm.MethodName)) ∈ gt := mg6 73 rfl rfl
theorem wt_1274 : (Jvm.Cond.instanceMethod ({ cls := "BlottedDeed$Table", name := "holdingDigit", desc := "(II)I" } : Jvm.MethodName)) ∈ gt := mg6 74 rfl rfl
theorem wt_1275 : (Jvm.Cond.selects "BlottedDeed$Table" ({ cls := "BlottedDeed$Table", name := "holdingDigit", desc := "(II)I" } : Jvm.MethodName) ({ cls := "BlottedDeed$Table", name := "holdingDigit", desc := "(II)I" } : Jvm.MethodName)) ∈ gt := mg6 75 rfl rfl
theorem wt_1276 : (Jvm.Cond.code ({ cls := "BlottedDeed$Table", name := "holdingDigit", desc := "(II)I" } : Jvm.MethodName) prog_9_method_19_code (3 : Nat) (Option.some Jvm.ClassFile.FieldType.int)) ∈ gt := mg6 76 rfl rfl
theorem wt_1277 : (Jvm.Cond.methodLink "BlottedDeedLaw" (236 : Nat) ({ cls := "BlottedDeedLaw", name := "struck", desc := "(LBlottedDeed;I[J)I" } : Jvm.MethodName)) ∈ gt := mg6 77 rfl rfl
theorem wt_1278 : (Jvm.Cond.static ({ cls := "BlottedDeedLaw", name := "struck", desc := "(LBlottedDeed;I[J)I" } : Jvm.MethodName)) ∈ gt := mg6 78 rfl rfl
theorem wt_1279 : (Jvm.Cond.codeWith ({ cls := "BlottedDeedLaw", name := "struck", desc := "(LBlottedDeed;I[J)I" } : Jvm.MethodName) method_28_code (4 : Nat) (Option.some Jvm.ClassFile.FieldType.int) [((0 : Nat), (9 : Nat), (12 : Nat), (30 : Nat))]) ∈ gt := mg6 79 rfl rfl
theorem wt_1280 : (Jvm.Cond.methodLink "BlottedDeedLaw" (97 : Nat) ({ cls := "BlottedDeed", name := "struck", desc := "(I)I" } : Jvm.MethodName)) ∈ gt := mg6 80 rfl rfl
theorem wt_1281 : (Jvm.Cond.instanceMethod ({ cls := "BlottedDeed", name := "struck", desc := "(I)I" } : Jvm.MethodName)) ∈ gt := mg6 81 rfl rfl
theorem wt_1282 : (Jvm.Cond.selects "BlottedDeed" ({ cls := "BlottedDeed", name := "struck", desc := "(I)I" } : Jvm.MethodName) ({ cls := "BlottedDeed", name := "struck", desc := "(I)I" } : Jvm.MethodName)) ∈ gt := mg6 82 rfl rfl
theorem wt_1283 : (Jvm.Cond.code ({ cls := "BlottedDeed", name := "struck", desc := "(I)I" } : Jvm.MethodName) prog_1_method_35_code (2 : Nat) (Option.some Jvm.ClassFile.FieldType.int)) ∈ gt := mg6 83 rfl rfl
theorem wt_1284 : (Jvm.Cond.methodLink "BlottedDeed" (291 : Nat) ({ cls := "BlottedDeed$Table", name := "lawfulWithout", desc := "(I)I" } : Jvm.MethodName)) ∈ gt := mg6 84 rfl rfl
theorem wt_1285 : (Jvm.Cond.instanceMethod ({ cls := "BlottedDeed$Table", name := "lawfulWithout", desc := "(I)I" } : Jvm.MethodName)) ∈ gt := mg6 85 rfl rfl
theorem wt_1286 : (Jvm.Cond.selects "BlottedDeed$Table" ({ cls := "BlottedDeed$Table", name := "lawfulWithout", desc := "(I)I" } : Jvm.MethodName) ({ cls := "BlottedDeed$Table", name := "lawfulWithout", desc := "(I)I" } : Jvm.MethodName)) ∈ gt := mg6 86 rfl rfl
theorem wt_1287 : (Jvm.Cond.code ({ cls := "BlottedDeed$Table", name := "lawfulWithout", desc := "(I)I" } : Jvm.MethodName) prog_9_method_30_code (2 : Nat) (Option.some Jvm.ClassFile.FieldType.int)) ∈ gt := mg6 87 rfl rfl
theorem wt_1288 : (Jvm.Cond.methodLink "BlottedDeed$Table" (187 : Nat) ({ cls := "BlottedDeed$Table", name := "countWithout", desc := "(I)I" } : Jvm.MethodName)) ∈ gt := mg6 88 rfl rfl
theorem wt_1290 : (Jvm.Cond.instanceMethod ({ cls := "BlottedDeed$Table", name := "countWithout", desc := "(I)I" } : Jvm.MethodName)) ∈ gt := mg6 90 rfl rfl
theorem wt_1291 : (Jvm.Cond.code ({ cls := "BlottedDeed$Table", name := "countWithout", desc := "(I)I" } : Jvm.MethodName) prog_9_method_31_code (4 : Nat) (Option.some Jvm.ClassFile.FieldType.int)) ∈ gt := mg6 91 rfl rfl
theorem wt_1292 : (Jvm.Cond.methodLink "BlottedDeedLaw" (239 : Nat) ({ cls := "BlottedDeedLaw", name := "apart", desc := "(LBlottedDeed;II[J)I" } : Jvm.MethodName)) ∈ gt := mg6 92 rfl rfl
theorem wt_1293 : (Jvm.Cond.static ({ cls := "BlottedDeedLaw", name := "apart", desc := "(LBlottedDeed;II[J)I" } : Jvm.MethodName)) ∈ gt := mg6 93 rfl rfl
theorem wt_1294 : (Jvm.Cond.codeWith ({ cls := "BlottedDeedLaw", name := "apart", desc := "(LBlottedDeed;II[J)I" } : Jvm.MethodName) method_29_code (5 : Nat) (Option.some Jvm.ClassFile.FieldType.int) [((0 : Nat), (10 : Nat), (13 : Nat), (30 : Nat))]) ∈ gt := mg6 94 rfl rfl
theorem wt_1295 : (Jvm.Cond.methodLink "BlottedDeedLaw" (100 : Nat) ({ cls := "BlottedDeed", name := "apart", desc := "(II)I" } : Jvm.MethodName)) ∈ gt := mg6 95 rfl rfl
theorem wt_1296 : (Jvm.Cond.instanceMethod ({ cls := "BlottedDeed", name := "apart", desc := "(II)I" } : Jvm.MethodName)) ∈ gt := mg6 96 rfl rfl
theorem wt_1297 : (Jvm.Cond.selects "BlottedDeed" ({ cls := "BlottedDeed", name := "apart", desc := "(II)I" } : Jvm.MethodName) ({ cls := "BlottedDeed", name := "apart", desc := "(II)I" } : Jvm.MethodName)) ∈ gt := mg6 97 rfl rfl
theorem wt_1298 : (Jvm.Cond.code ({ cls := "BlottedDeed", name := "apart", desc := "(II)I" } : Jvm.MethodName) prog_1_method_36_code (3 : Nat) (Option.some Jvm.ClassFile.FieldType.int)) ∈ gt := mg6 98 rfl rfl
theorem wt_1299 : (Jvm.Cond.methodLink "BlottedDeed" (294 : Nat) ({ cls := "BlottedDeed$Table", name := "distance", desc := "(II)I" } : Jvm.MethodName)) ∈ gt := mg6 99 rfl rfl
theorem wt_1300 : (Jvm.Cond.instanceMethod ({ cls := "BlottedDeed$Table", name := "distance", desc := "(II)I" } : Jvm.MethodName)) ∈ gt := mg6 100 rfl rfl
theorem wt_1301 : (Jvm.Cond.selects "BlottedDeed$Table" ({ cls := "BlottedDeed$Table", name := "distance", desc := "(II)I" } : Jvm.MethodName) ({ cls := "BlottedDeed$Table", name := "distance", desc := "(II)I" } : Jvm.MethodName)) ∈ gt := mg6 101 rfl rfl
theorem wt_1302 : (Jvm.Cond.code ({ cls := "BlottedDeed$Table", name := "distance", desc := "(II)I" } : Jvm.MethodName) prog_9_method_32_code (5 : Nat) (Option.some Jvm.ClassFile.FieldType.int)) ∈ gt := mg6 102 rfl rfl
theorem wt_1303 : (Jvm.Cond.constantLong "BlottedDeed$Table" (190 : Nat) (9187201950435737471 : Int64)) ∈ gt := mg6 103 rfl rfl
theorem wt_1304 : (Jvm.Cond.constantLong "BlottedDeed$Table" (192 : Nat) (-9187201950435737472 : Int64)) ∈ gt := mg6 104 rfl rfl
theorem wt_1305 : (Jvm.Cond.methodLink "BlottedDeed$Table" (194 : Nat) ({ cls := "java/lang/Long", name := "bitCount", desc := "(J)I" } : Jvm.MethodName)) ∈ gt := mg6 105 rfl rfl
theorem wt_1306 : (Jvm.Cond.static ({ cls := "java/lang/Long", name := "bitCount", desc := "(J)I" } : Jvm.MethodName)) ∈ gt := mg6 106 rfl rfl
theorem wt_1307 : (Jvm.Cond.code ({ cls := "java/lang/Long", name := "bitCount", desc := "(J)I" } : Jvm.MethodName) prog_23_method_50_code (2 : Nat) (Option.some Jvm.ClassFile.FieldType.int)) ∈ gt := mg6 107 rfl rfl
theorem wt_1308 : (Jvm.Cond.constantLong "java/lang/Long" (314 : Nat) (6148914691236517205 : Int64)) ∈ gt := mg6 108 rfl rfl
theorem wt_1309 : (Jvm.Cond.constantLong "java/lang/Long" (316 : Nat) (3689348814741910323 : Int64)) ∈ gt := mg6 109 rfl rfl
theorem wt_1310 : (Jvm.Cond.constantLong "java/lang/Long" (318 : Nat) (1085102592571150095 : Int64)) ∈ gt := mg6 110 rfl rfl
theorem wt_1311 : (Jvm.Cond.methodLink "BlottedDeedLaw" (242 : Nat) ({ cls := "BlottedDeedLaw", name := "middle", desc := "(LBlottedDeed;I[J)I" } : Jvm.MethodName)) ∈ gt := mg6 111 rfl rfl
theorem wt_1312 : (Jvm.Cond.static ({ cls := "BlottedDeedLaw", name := "middle", desc := "(LBlottedDeed;I[J)I" } : Jvm.MethodName)) ∈ gt := mg6 112 rfl rfl
theorem wt_1313 : (Jvm.Cond.codeWith ({ cls := "BlottedDeedLaw", name := "middle", desc := "(LBlottedDeed;I[J)I" } : Jvm.MethodName) method_30_code (4 : Nat) (Option.some Jvm.ClassFile.FieldType.int) [((0 : Nat), (9 : Nat), (12 : Nat), (13 : Nat))]) ∈ gt := mg6 113 rfl rfl
theorem wt_1314 : (Jvm.Cond.methodLink "BlottedDeedLaw" (103 : Nat) ({ cls := "BlottedDeed", name := "middle", desc := "(I)I" } : Jvm.MethodName)) ∈ gt := mg6 114 rfl rfl
theorem wt_1315 : (Jvm.Cond.instanceMethod ({ cls := "BlottedDeed", name := "middle", desc := "(I)I" } : Jvm.MethodName)) ∈ gt := mg6 115 rfl rfl
theorem wt_1316 : (Jvm.Cond.selects "BlottedDeed" ({ cls := "BlottedDeed", name := "middle", desc := "(I)I" } : Jvm.MethodName) ({ cls := "BlottedDeed", name := "middle", desc := "(I)I" } : Jvm.MethodName)) ∈ gt := mg6 116 rfl rfl
theorem wt_1317 : (Jvm.Cond.code ({ cls := "BlottedDeed", name := "middle", desc := "(I)I" } : Jvm.MethodName) prog_1_method_37_code (3 : Nat) (Option.some Jvm.ClassFile.FieldType.int)) ∈ gt := mg6 117 rfl rfl
theorem wt_1318 : (Jvm.Cond.methodLink "BlottedDeed" (297 : Nat) ({ cls := "BlottedDeed$Table", name := "middleReading", desc := "()I" } : Jvm.MethodName)) ∈ gt := mg6 118 rfl rfl
theorem wt_1319 : (Jvm.Cond.instanceMethod ({ cls := "BlottedDeed$Table", name := "middleReading", desc := "()I" } : Jvm.MethodName)) ∈ gt := mg6 119 rfl rfl
theorem wt_1320 : (Jvm.Cond.selects "BlottedDeed$Table" ({ cls := "BlottedDeed$Table", name := "middleReading", desc := "()I" } : Jvm.MethodName) ({ cls := "BlottedDeed$Table", name := "middleReading", desc := "()I" } : Jvm.MethodName)) ∈ gt := mg6 120 rfl rfl
theorem wt_1321 : (Jvm.Cond.code ({ cls := "BlottedDeed$Table", name := "middleReading", desc := "()I" } : Jvm.MethodName) prog_9_method_34_code (6 : Nat) (Option.some Jvm.ClassFile.FieldType.int)) ∈ gt := mg6 121 rfl rfl
theorem wt_1322 : (Jvm.Cond.methodLink "BlottedDeed$Table" (202 : Nat) ({ cls := "BlottedDeed$Table", name := "farthestFrom", desc := "(I)I" } : Jvm.MethodName)) ∈ gt := mg6 122 rfl rfl
theorem wt_1323 : (Jvm.Cond.instanceMethod ({ cls := "BlottedDeed$Table", name := "farthestFrom", desc := "(I)I" } : Jvm.MethodName)) ∈ gt := mg6 123 rfl rfl
theorem wt_1324 : (Jvm.Cond.selects "BlottedDeed$Table" ({ cls := "BlottedDeed$Table", name := "farthestFrom", desc := "(I)I" } : Jvm.MethodName) ({ cls := "BlottedDeed$Table", name := "farthestFrom", desc := "(I)I" } : Jvm.MethodName)) ∈ gt := mg6 124 rfl rfl
theorem wt_1325 : (Jvm.Cond.code ({ cls := "BlottedDeed$Table", name := "farthestFrom", desc := "(I)I" } : Jvm.MethodName) prog_9_method_33_code (5 : Nat) (Option.some Jvm.ClassFile.FieldType.int)) ∈ gt := mg6 125 rfl rfl
theorem wt_1326 : (Jvm.Cond.methodLink "BlottedDeed$Table" (199 : Nat) ({ cls := "BlottedDeed$Table", name := "distance", desc := "(II)I" } : Jvm.MethodName)) ∈ gt := mg6 126 rfl rfl
theorem wt_1327 : (Jvm.Cond.methodLink "BlottedDeed" (300 : Nat) ({ cls := "BlottedDeed$Table", name := "farthestFrom", desc := "(I)I" } : Jvm.MethodName)) ∈ gt := mg6 127 rfl rfl
theorem wt_1328 : (Jvm.Cond.methodLink "BlottedDeedLaw" (245 : Nat) ({ cls := "BlottedDeedLaw", name := "when", desc := "(LBlottedDeed;IIII[J)I" } : Jvm.MethodName)) ∈ gt := mg6 128 rfl rfl
theorem wt_1329 : (Jvm.Cond.static ({ cls := "BlottedDeedLaw", name := "when", desc := "(LBlottedDeed;IIII[J)I" } : Jvm.MethodName)) ∈ gt := mg6 129 rfl rfl
theorem wt_1330 : (Jvm.Cond.codeWith ({ cls := "BlottedDeedLaw", name := "when", desc := "(LBlottedDeed;IIII[J)I" } : Jvm.MethodName) method_31_code (7 : Nat) (Option.some Jvm.ClassFile.FieldType.int) [((0 : Nat), (14 : Nat), (17 : Nat), (30 : Nat)), ((0 : Nat), (14 : Nat), (21 : Nat), (13 : Nat))]) ∈ gt := mg6 130 rfl rfl
theorem wt_1331 : (Jvm.Cond.methodLink "BlottedDeedLaw" (106 : Nat) ({ cls := "BlottedDeed", name := "when", desc := "(IIII)I" } : Jvm.MethodName)) ∈ gt := mg6 131 rfl rfl
theorem wt_1332 : (Jvm.Cond.instanceMethod ({ cls := "BlottedDeed", name := "when", desc := "(IIII)I" } : Jvm.MethodName)) ∈ gt := mg6 132 rfl rfl
theorem wt_1333 : (Jvm.Cond.selects "BlottedDeed" ({ cls := "BlottedDeed", name := "when", desc := "(IIII)I" } : Jvm.MethodName) ({ cls := "BlottedDeed", name := "when", desc := "(IIII)I" } : Jvm.MethodName)) ∈ gt := mg6 133 rfl rfl
theorem wt_1334 : (Jvm.Cond.code ({ cls := "BlottedDeed", name := "when", desc := "(IIII)I" } : Jvm.MethodName) prog_1_method_38_code (8 : Nat) (Option.some Jvm.ClassFile.FieldType.int)) ∈ gt := mg6 134 rfl rfl
theorem wt_1335 : (Jvm.Cond.methodLink "BlottedDeedLaw" (248 : Nat) ({ cls := "BlottedDeedLaw", name := "steps", desc := "(LBlottedDeed;III[J)I" } : Jvm.MethodName)) ∈ gt := mg6 135 rfl rfl
theorem wt_1336 : (Jvm.Cond.static ({ cls := "BlottedDeedLaw", name := "steps", desc := "(LBlottedDeed;III[J)I" } : Jvm.MethodName)) ∈ gt := mg6 136 rfl rfl
theorem wt_1337 : (Jvm.Cond.codeWith ({ cls := "BlottedDeedLaw", name := "steps", desc := "(LBlottedDeed;III[J)I" } : Jvm.MethodName) method_32_code (6 : Nat) (Option.some Jvm.ClassFile.FieldType.int) [((0 : Nat), (12 : Nat), (15 : Nat), (30 : Nat)), ((0 : Nat), (12 : Nat), (19 : Nat), (13 : Nat))]) ∈ gt := mg6 137 rfl rfl
theorem wt_1338 : (Jvm.Cond.methodLink "BlottedDeedLaw" (109 : Nat) ({ cls := "BlottedDeed", name := "steps", desc := "(III)I" } : Jvm.MethodName)) ∈ gt := mg6 138 rfl rfl
theorem wt_1339 : (Jvm.Cond.instanceMethod ({ cls := "BlottedDeed", name := "steps", desc := "(III)I" } : Jvm.MethodName)) ∈ gt := mg6 139 rfl rfl
theorem wt_1340 : (Jvm.Cond.selects "BlottedDeed" ({ cls := "BlottedDeed", name := "steps", desc := "(III)I" } : Jvm.MethodName) ({ cls := "BlottedDeed", name := "steps", desc := "(III)I" } : Jvm.MethodName)) ∈ gt := mg6 140 rfl rfl
theorem wt_1341 : (Jvm.Cond.code ({ cls := "BlottedDeed", name := "steps", desc := "(III)I" } : Jvm.MethodName) prog_1_method_39_code (5 : Nat) (Option.some Jvm.ClassFile.FieldType.int)) ∈ gt := mg6 141 rfl rfl
theorem wt_1342 : (Jvm.Cond.methodLink "BlottedDeed" (303 : Nat) ({ cls := "BlottedDeed$Table", name := "walk", desc := "(II)I" } : Jvm.MethodName)) ∈ gt := mg6 142 rfl rfl
theorem wt_1343 : (Jvm.Cond.instanceMethod ({ cls := "BlottedDeed$Table", name := "walk", desc := "(II)I" } : Jvm.MethodName)) ∈ gt := mg6 143 rfl rfl
theorem wt_1344 : (Jvm.Cond.selects "BlottedDeed$Table" ({ cls := "BlottedDeed$Table", name := "walk", desc := "(II)I" } : Jvm.MethodName) ({ cls := "BlottedDeed$Table", name := "walk", desc := "(II)I" } : Jvm.MethodName)) ∈ gt := mg6 144 rfl rfl
theorem wt_1345 : (Jvm.Cond.code ({ cls := "BlottedDeed$Table", name := "walk", desc := "(II)I" } : Jvm.MethodName) prog_9_method_35_code (7 : Nat) (Option.some Jvm.ClassFile.FieldType.int)) ∈ gt := mg6 145 rfl rfl
theorem wt_1346 : (Jvm.Cond.methodLink "BlottedDeed$Table" (205 : Nat) ({ cls := "BlottedDeed$Table", name := "isKnown", desc := "(IJJ)Z" } : Jvm.MethodName)) ∈ gt := mg6 146 rfl rfl
theorem wt_1348 : (Jvm.Cond.instanceMethod ({ cls := "BlottedDeed$Table", name := "isKnown", desc := "(IJJ)Z" } : Jvm.MethodName)) ∈ gt := mg6 148 rfl rfl
theorem wt_1349 : (Jvm.Cond.code ({ cls := "BlottedDeed$Table", name := "isKnown", desc := "(IJJ)Z" } : Jvm.MethodName) prog_9_method_36_code (8 : Nat) (Option.some Jvm.ClassFile.FieldType.boolean)) ∈ gt := mg6 149 rfl rfl
theorem wt_1350 : (Jvm.Cond.methodLink "BlottedDeed$Table" (209 : Nat) ({ cls := "BlottedDeed$Table", name := "cleanNext", desc := "(JJ)I" } : Jvm.MethodName)) ∈ gt := mg6 150 rfl rfl
theorem wt_1351 : (Jvm.Cond.methodLink "BlottedDeedLaw" (251 : Nat) ({ cls := "BlottedDeedLaw", name := "pairs", desc := "(LBlottedDeed;II[J)I" } : Jvm.MethodName)) ∈ gt := mg6 151 rfl rfl
theorem wt_1352 : (Jvm.Cond.static ({ cls := "BlottedDeedLaw", name := "pairs", desc := "(LBlottedDeed;II[J)I" } : Jvm.MethodName)) ∈ gt := mg6 152 rfl rfl
theorem wt_1353 : (Jvm.Cond.codeWith ({ cls := "BlottedDeedLaw", name := "pairs", desc := "(LBlottedDeed;II[J)I" } : Jvm.MethodName) method_33_code (5 : Nat) (Option.some Jvm.ClassFile.FieldType.int) [((0 : Nat), (10 : Nat), (13 : Nat), (30 : Nat)), ((0 : Nat), (10 : Nat), (17 : Nat), (13 : Nat))]) ∈ gt := mg6 153 rfl rfl
theorem wt_1354 : (Jvm.Cond.methodLink "BlottedDeedLaw" (112 : Nat) ({ cls := "BlottedDeed", name := "pairs", desc := "(II)I" } : Jvm.MethodName)) ∈ gt := mg6 154 rfl rfl
theorem wt_1355 : (Jvm.Cond.instanceMethod ({ cls := "BlottedDeed", name := "pairs", desc := "(II)I" } : Jvm.MethodName)) ∈ gt := mg6 155 rfl rfl
theorem wt_1356 : (Jvm.Cond.selects "BlottedDeed" ({ cls := "BlottedDeed", name := "pairs", desc := "(II)I" } : Jvm.MethodName) ({ cls := "BlottedDeed", name := "pairs", desc := "(II)I" } : Jvm.MethodName)) ∈ gt := mg6 156 rfl rfl
theorem wt_1357 : (Jvm.Cond.code ({ cls := "BlottedDeed", name := "pairs", desc := "(II)I" } : Jvm.MethodName) prog_1_method_40_code (6 : Nat) (Option.some Jvm.ClassFile.FieldType.int)) ∈ gt := mg6 157 rfl rfl
theorem wt_1358 : (Jvm.Cond.methodLink "BlottedDeedLaw" (254 : Nat) ({ cls := "BlottedDeedLaw", name := "rows", desc := "(LBlottedDeed;I[J)I" } : Jvm.MethodName)) ∈ gt := mg6 158 rfl rfl
theorem wt_1359 : (Jvm.Cond.static ({ cls := "BlottedDeedLaw", name := "rows", desc := "(LBlottedDeed;I[J)I" } : Jvm.MethodName)) ∈ gt := mg6 159 rfl rfl
theorem wt_1360 : (Jvm.Cond.codeWith ({ cls := "BlottedDeedLaw", name := "rows", desc := "(LBlottedDeed;I[J)I" } : Jvm.MethodName) method_34_code (4 : Nat) (Option.some Jvm.ClassFile.FieldType.int) [((0 : Nat), (9 : Nat), (12 : Nat), (13 : Nat))]) ∈ gt := mg6 160 rfl rfl
theorem wt_1361 : (Jvm.Cond.methodLink "BlottedDeedLaw" (115 : Nat) ({ cls := "BlottedDeed", name := "rows", desc := "(I)I" } : Jvm.MethodName)) ∈ gt := mg6 161 rfl rfl
theorem wt_1362 : (Jvm.Cond.instanceMethod ({ cls := "BlottedDeed", name := "rows", desc := "(I)I" } : Jvm.MethodName)) ∈ gt := mg6 162 rfl rfl
theorem wt_1363 : (Jvm.Cond.selects "BlottedDeed" ({ cls := "BlottedDeed", name := "rows", desc := "(I)I" } : Jvm.MethodName) ({ cls := "BlottedDeed", name := "rows", desc := "(I)I" } : Jvm.MethodName)) ∈ gt := mg6 163 rfl rfl
theorem wt_1364 : (Jvm.Cond.code ({ cls := "BlottedDeed", name := "rows", desc := "(I)I" } : Jvm.MethodName) prog_1_method_41_code (2 : Nat) (Option.some Jvm.ClassFile.FieldType.int)) ∈ gt := mg6 164 rfl rfl
theorem wt_1365 : (Jvm.Cond.classLink "BlottedDeedLaw" (119 : Nat) "BlottedDeedModel") ∈ gt := mg6 165 rfl rfl
theorem wt_1366 : (Jvm.Cond.instantiable "BlottedDeedModel" (50 : Nat)) ∈ gt := mg6 166 rfl rfl
theorem wt_1367 : (Jvm.Cond.methodLink "BlottedDeedLaw" (121 : Nat) ({ cls := "BlottedDeedModel", name := "<init>", desc := "()V" } : Jvm.MethodName)) ∈ gt := mg6 167 rfl rfl
theorem wt_1368 : (Jvm.Cond.instanceMethod ({ cls := "BlottedDeedModel", name := "<init>", desc := "()V" } : Jvm.MethodName)) ∈ gt := mg6 168 rfl rfl
theorem wt_1369 : (Jvm.Cond.code ({ cls := "BlottedDeedModel", name := "<init>", desc := "()V" } : Jvm.MethodName) prog_13_method_1_code (1 : Nat) (Option.none : Option Jvm.ClassFile.FieldType)) ∈ gt := mg6 169 rfl rfl
theorem wt_1370 : (Jvm.Cond.methodLink "BlottedDeedModel" (1 : Nat) ({ cls := "java/lang/Object", name := "<init>", desc := "()V" } : Jvm.MethodName)) ∈ gt := mg6 170 rfl rfl
theorem wt_1371 : (Jvm.Cond.classLink "BlottedDeedModel" (48 : Nat) "[[I") ∈ gt := mg6 171 rfl rfl
theorem wt_1373 : (Jvm.Cond.methodLink "BlottedDeedModel" (117 : Nat) ({ cls := "BlottedDeedModel", name := "laysReadings", desc := "()V" } : Jvm.MethodName)) ∈ gt := mg6 173 rfl rfl
theorem wt_1375 : (Jvm.Cond.instanceMethod ({ cls := "BlottedDeedModel", name := "laysReadings", desc := "()V" } : Jvm.MethodName)) ∈ gt := mg6 175 rfl rfl
theorem wt_1376 : (Jvm.Cond.code ({ cls := "BlottedDeedModel", name := "laysReadings", desc := "()V" } : Jvm.MethodName) prog_13_method_35_code (3 : Nat) (Option.none : Option Jvm.ClassFile.FieldType)) ∈ gt := mg6 176 rfl rfl
theorem wt_1377 : (Jvm.Cond.methodLink "BlottedDeedModel" (247 : Nat) ({ cls := "BlottedDeedModel", name := "fills", desc := "(I)V" } : Jvm.MethodName)) ∈ gt := mg6 177 rfl rfl
theorem wt_1379 : (Jvm.Cond.instanceMethod ({ cls := "BlottedDeedModel", name := "fills", desc := "(I)V" } : Jvm.MethodName)) ∈ gt := mg6 179 rfl rfl
theorem wt_1380 : (Jvm.Cond.code ({ cls := "BlottedDeedModel", name := "fills", desc := "(I)V" } : Jvm.MethodName) prog_13_method_31_code (4 : Nat) (Option.none : Option Jvm.ClassFile.FieldType)) ∈ gt := mg6 180 rfl rfl
theorem wt_1381 : (Jvm.Cond.methodLink "BlottedDeedModel" (250 : Nat) ({ cls := "BlottedDeedModel", name := "asks", desc := "(I)V" } : Jvm.MethodName)) ∈ gt := mg6 181 rfl rfl
theorem wt_1383 : (Jvm.Cond.instanceMethod ({ cls := "BlottedDeedModel", name := "asks", desc := "(I)V" } : Jvm.MethodName)) ∈ gt := mg6 183 rfl rfl
theorem wt_1384 : (Jvm.Cond.code ({ cls := "BlottedDeedModel", name := "asks", desc := "(I)V" } : Jvm.MethodName) prog_13_method_32_code (5 : Nat) (Option.none : Option Jvm.ClassFile.FieldType)) ∈ gt := mg6 184 rfl rfl
theorem wt_1385 : (Jvm.Cond.methodLink "BlottedDeedModel" (253 : Nat) ({ cls := "BlottedDeedModel", name := "broken", desc := "(I)I" } : Jvm.MethodName)) ∈ gt := mg6 185 rfl rfl
theorem wt_1387 : (Jvm.Cond.instanceMethod ({ cls := "BlottedDeedModel", name := "broken", desc := "(I)I" } : Jvm.MethodName)) ∈ gt := mg6 187 rfl rfl
theorem wt_1388 : (Jvm.Cond.code ({ cls := "BlottedDeedModel", name := "broken", desc := "(I)I" } : Jvm.MethodName) prog_13_method_34_code (4 : Nat) (Option.some Jvm.ClassFile.FieldType.int)) ∈ gt := mg6 188 rfl rfl
theorem wt_1389 : (Jvm.Cond.methodLink "BlottedDeedModel" (241 : Nat) ({ cls := "BlottedDeedModel", name := "coinTogether", desc := "()I" } : Jvm.MethodName)) ∈ gt := mg6 189 rfl rfl
theorem wt_1391 : (Jvm.Cond.instanceMethod ({ cls := "BlottedDeedModel", name := "coinTogether", desc := "()I" } : Jvm.MethodName)) ∈ gt := mg6 191 rfl rfl
theorem wt_1392 : (Jvm.Cond.code ({ cls := "BlottedDeedModel", name := "coinTogether", desc := "()I" } : Jvm.MethodName) prog_13_method_33_code (3 : Nat) (Option.some Jvm.ClassFile.FieldType.int)) ∈ gt := mg6 192 rfl rfl
theorem wt_1393 : (Jvm.Cond.fieldLink "BlottedDeedModel" (120 : Nat) "BlottedDeedModel" "thrown" "I") ∈ gt := mg6 193 rfl rfl
theorem wt_1394 : (Jvm.Cond.fieldLink "BlottedDeedModel" (123 : Nat) "BlottedDeedModel" "tape" "I") ∈ gt := mg6 194 rfl rfl
theorem wt_1395 : (Jvm.Cond.fieldLink "BlottedDeedModel" (126 : Nat) "BlottedDeedModel" "size" "I") ∈ gt := mg6 195 rfl rfl
theorem wt_1396 : (Jvm.Cond.fieldLink "BlottedDeedModel" (9 : Nat) "BlottedDeedModel" "place" "I") ∈ gt := mg6 196 rfl rfl
theorem wt_1397 : (Jvm.Cond.fieldLink "BlottedDeedModel" (129 : Nat) "BlottedDeedModel" "at" "I") ∈ gt := mg6 197 rfl rfl
theorem wt_1398 : (Jvm.Cond.fieldLink "BlottedDeedModel" (136 : Nat) "BlottedDeedModel" "fault" "I") ∈ gt := mg6 198 rfl rfl
theorem wt_1399 : (Jvm.Cond.fieldLink "BlottedDeedModel" (139 : Nat) "BlottedDeedModel" "faultAt" "I") ∈ gt := mg6 199 rfl rfl
theorem wt_1400 : (Jvm.Cond.fieldLink "BlottedDeedModel" (185 : Nat) "BlottedDeedModel" "clauses" "I") ∈ gt := mg6 200 rfl rfl
theorem wt_1401 : (Jvm.Cond.fieldLink "BlottedDeedModel" (13 : Nat) "BlottedDeedModel" "fed" "[I") ∈ gt := mg6 201 rfl rfl
theorem wt_1402 : (Jvm.Cond.fieldLink "BlottedDeedModel" (17 : Nat) "BlottedDeedModel" "refused" "[I") ∈ gt := mg6 202 rfl rfl
theorem wt_1403 : (Jvm.Cond.fieldLink "BlottedDeedModel" (20 : Nat) "BlottedDeedModel" "readTold" "[I") ∈ gt := mg6 203 rfl rfl
theorem wt_1404 : (Jvm.Cond.fieldLink "BlottedDeedModel" (23 : Nat) "BlottedDeedModel" "told" "[I") ∈ gt := mg6 204 rfl rfl
theorem wt_1405 : (Jvm.Cond.fieldLink "BlottedDeedModel" (26 : Nat) "BlottedDeedModel" "readLong" "[I") ∈ gt := mg6 205 rfl rfl
theorem wt_1406 : (Jvm.Cond.fieldLink "BlottedDeedModel" (29 : Nat) "BlottedDeedModel" "heirLong" "[I") ∈ gt := mg6 206 rfl rfl
theorem wt_1407 : (Jvm.Cond.fieldLink "BlottedDeedModel" (32 : Nat) "BlottedDeedModel" "readWorth" "[I") ∈ gt := mg6 207 rfl rfl
theorem wt_1408 : (Jvm.Cond.fieldLink "BlottedDeedModel" (35 : Nat) "BlottedDeedModel" "thingWorth" "[I") ∈ gt := mg6 208 rfl rfl
theorem wt_1409 : (Jvm.Cond.fieldLink "BlottedDeedModel" (38 : Nat) "BlottedDeedModel" "readLeast" "[I") ∈ gt := mg6 209 rfl rfl
theorem wt_1410 : (Jvm.Cond.fieldLink "BlottedDeedModel" (41 : Nat) "BlottedDeedModel" "least" "[I") ∈ gt := mg6 210 rfl rfl
theorem wt_1411 : (Jvm.Cond.fieldLink "BlottedDeedModel" (44 : Nat) "BlottedDeedModel" "readName" "[J") ∈ gt := mg6 211 rfl rfl
theorem wt_1412 : (Jvm.Cond.fieldLink "BlottedDeedModel" (50 : Nat) "BlottedDeedModel" "readPart" "[[I") ∈ gt := mg6 212 rfl rfl
theorem wt_1413 : (Jvm.Cond.fieldLink "BlottedDeedModel" (53 : Nat) "BlottedDeedModel" "part" "[[I") ∈ gt := mg6 213 rfl rfl
theorem wt_1414 : (Jvm.Cond.fieldLink "BlottedDeedModel" (56 : Nat) "BlottedDeedModel" "readPlace" "[[I") ∈ gt := mg6 214 rfl rfl
theorem wt_1415 : (Jvm.Cond.fieldLink "BlottedDeedModel" (59 : Nat) "BlottedDeedModel" "spots" "[[I") ∈ gt := mg6 215 rfl rfl
theorem wt_1416 : (Jvm.Cond.fieldLink "BlottedDeedModel" (62 : Nat) "BlottedDeedModel" "readBlot" "[[I") ∈ gt := mg6 216 rfl rfl
theorem wt_1417 : (Jvm.Cond.fieldLink "BlottedDeedModel" (65 : Nat) "BlottedDeedModel" "blot" "[[I") ∈ gt := mg6 217 rfl rfl
theorem wt_1418 : (Jvm.Cond.fieldLink "BlottedDeedModel" (68 : Nat) "BlottedDeedModel" "readCandidate" "[[I") ∈ gt := mg6 218 rfl rfl
theorem wt_1419 : (Jvm.Cond.fieldLink "BlottedDeedModel" (71 : Nat) "BlottedDeedModel" "candidate" "[[I") ∈ gt := mg6 219 rfl rfl
theorem wt_1420 : (Jvm.Cond.fieldLink "BlottedDeedModel" (244 : Nat) "BlottedDeedModel" "readings" "I") ∈ gt := mg6 220 rfl rfl
theorem wt_1421 : (Jvm.Cond.fieldLink "BlottedDeedModel" (74 : Nat) "BlottedDeedModel" "rowOf" "[I") ∈ gt := mg6 221 rfl rfl
theorem wt_1422 : (Jvm.Cond.fieldLink "BlottedDeedModel" (77 : Nat) "BlottedDeedModel" "readingAt" "[I") ∈ gt := mg6 222 rfl rfl
theorem wt_1423 : (Jvm.Cond.fieldLink "BlottedDeedModel" (80 : Nat) "BlottedDeedModel" "goesOf" "[I") ∈ gt := mg6 223 rfl rfl
theorem wt_1424 : (Jvm.Cond.fieldLink "BlottedDeedModel" (83 : Nat) "BlottedDeedModel" "coinOf" "[J") ∈ gt := mg6 224 rfl rfl
theorem wt_1425 : (Jvm.Cond.fieldLink "BlottedDeedModel" (225 : Nat) "BlottedDeedModel" "copies" "I") ∈ gt := mg6 225 rfl rfl
theorem wt_1426 : (Jvm.Cond.fieldLink "BlottedDeedModel" (228 : Nat) "BlottedDeedModel" "habits" "I") ∈ gt := mg6 226 rfl rfl
theorem wt_1427 : (Jvm.Cond.fieldLink "BlottedDeedModel" (231 : Nat) "BlottedDeedModel" "images" "I") ∈ gt := mg6 227 rfl rfl
theorem wt_1428 : (Jvm.Cond.fieldLink "BlottedDeedModel" (339 : Nat) "BlottedDeedModel" "spot" "I") ∈ gt := mg6 228 rfl rfl
theorem wt_1429 : (Jvm.Cond.fieldLink "BlottedDeedModel" (86 : Nat) "BlottedDeedModel" "copy" "[[I") ∈ gt := mg6 229 rfl rfl
theorem wt_1430 : (Jvm.Cond.fieldLink "BlottedDeedModel" (89 : Nat) "BlottedDeedModel" "habit" "[[I") ∈ gt := mg6 230 rfl rfl
theorem wt_1431 : (Jvm.Cond.fieldLink "BlottedDeedModel" (92 : Nat) "BlottedDeedModel" "kept" "[[I") ∈ gt := mg6 231 rfl rfl
theorem wt_1432 : (Jvm.Cond.fieldLink "BlottedDeedModel" (95 : Nat) "BlottedDeedModel" "filled" "[I") ∈ gt := mg6 232 rfl rfl
theorem wt_1433 : (Jvm.Cond.fieldLink "BlottedDeedModel" (98 : Nat) "BlottedDeedModel" "coins" "[I") ∈ gt := mg6 233 rfl rfl
theorem wt_1434 : (Jvm.Cond.fieldLink "BlottedDeedModel" (101 : Nat) "BlottedDeedModel" "to" "[I") ∈ gt := mg6 234 rfl rfl
theorem wt_1435 : (Jvm.Cond.fieldLink "BlottedDeedModel" (237 : Nat) "BlottedDeedModel" "isTwice" "Z") ∈ gt := mg6 235 rfl rfl
theorem wt_1436 : (Jvm.Cond.fieldLink "BlottedDeedModel" (104 : Nat) "BlottedDeedModel" "held" "[I") ∈ gt := mg6 236 rfl rfl
theorem wt_1437 : (Jvm.Cond.fieldLink "BlottedDeedModel" (107 : Nat) "BlottedDeedModel" "known" "[I") ∈ gt := mg6 237 rfl rfl
theorem wt_1438 : (Jvm.Cond.fieldLink "BlottedDeedModel" (314 : Nat) "BlottedDeedModel" "moreMany" "I") ∈ gt := mg6 238 rfl rfl
theorem wt_1439 : (Jvm.Cond.fieldLink "BlottedDeedModel" (317 : Nat) "BlottedDeedModel" "moreReadings" "I") ∈ gt := mg6 239 rfl rfl
theorem wt_1440 : (Jvm.Cond.fieldLink "BlottedDeedModel" (320 : Nat) "BlottedDeedModel" "moreGoes" "I") ∈ gt := mg7 0 rfl rfl
theorem wt_1441 : (Jvm.Cond.fieldLink "BlottedDeedModel" (110 : Nat) "BlottedDeedModel" "fit" "[Z") ∈ gt := mg7 1 rfl rfl
theorem wt_1442 : (Jvm.Cond.fieldLink "BlottedDeedModel" (114 : Nat) "BlottedDeedModel" "step" "[I") ∈ gt := mg7 2 rfl rfl
theorem wt_1544 : (Jvm.Cond.arrayClass Jvm.ClassFile.FieldType.boolean) ∈ gt := mg7 104 rfl rfl
theorem wt_1545 : (Jvm.Cond.methodLink "BlottedDeedLaw" (133 : Nat) ({ cls := "BlottedDeedModel", name := "thrown", desc := "()I" } : Jvm.MethodName)) ∈ gt := mg7 105 rfl rfl
theorem wt_1546 : (Jvm.Cond.instanceMethod ({ cls := "BlottedDeedModel", name := "thrown", desc := "()I" } : Jvm.MethodName)) ∈ gt := mg7 106 rfl rfl
theorem wt_1547 : (Jvm.Cond.selects "BlottedDeedModel" ({ cls := "BlottedDeedModel", name := "thrown", desc := "()I" } : Jvm.MethodName) ({ cls := "BlottedDeedModel", name := "thrown", desc := "()I" } : Jvm.MethodName)) ∈ gt := mg7 107 rfl rfl
theorem wt_1548 : (Jvm.Cond.code ({ cls := "BlottedDeedModel", name := "thrown", desc := "()I" } : Jvm.MethodName) prog_13_method_2_code (1 : Nat) (Option.some Jvm.ClassFile.FieldType.int)) ∈ gt := mg7 108 rfl rfl
theorem wt_1549 : (Jvm.Cond.methodLink "BlottedDeedLaw" (126 : Nat) ({ cls := "BlottedDeedModel", name := "feed", desc := "(IIIII)I" } : Jvm.MethodName)) ∈ gt := mg7 109 rfl rfl
theorem wt_1550 : (Jvm.Cond.instanceMethod ({ cls := "BlottedDeedModel", name := "feed", desc := "(IIIII)I" } : Jvm.MethodName)) ∈ gt := mg7 110 rfl rfl
theorem wt_1551 : (Jvm.Cond.selects "BlottedDeedModel" ({ cls := "BlottedDeedModel", name := "feed", desc := "(IIIII)I" } : Jvm.MethodName) ({ cls := "BlottedDeedModel", name := "feed", desc := "(IIIII)I" } : Jvm.MethodName)) ∈ gt := mg7 111 rfl rfl
theorem wt_1552 : (Jvm.Cond.code ({ cls := "BlottedDeedModel", name := "feed", desc := "(IIIII)I" } : Jvm.MethodName) prog_13_method_5_code (8 : Nat) (Option.some Jvm.ClassFile.FieldType.int)) ∈ gt := mg7 112 rfl rfl
theorem wt_1553 : (Jvm.Cond.methodLink "BlottedDeedLaw" (132 : Nat) ({ cls := "BlottedDeedModel", name := "deed", desc := "(I)I" } : Jvm.MethodName)) ∈ gt := mg7 113 rfl rfl
theorem wt_1554 : (Jvm.Cond.instanceMethod ({ cls := "BlottedDeedModel", name := "deed", desc := "(I)I" } : Jvm.MethodName)) ∈ gt := mg7 114 rfl rfl
theorem wt_1555 : (Jvm.Cond.selects "BlottedDeedModel" ({ cls := "BlottedDeedModel", name := "deed", desc := "(I)I" } : Jvm.MethodName) ({ cls := "BlottedDeedModel", name := "deed", desc := "(I)I" } : Jvm.MethodName)) ∈ gt := mg7 115 rfl rfl
theorem wt_1556 : (Jvm.Cond.code ({ cls := "BlottedDeedModel", name := "deed", desc := "(I)I" } : Jvm.MethodName) prog_13_method_24_code (3 : Nat) (Option.some Jvm.ClassFile.FieldType.int)) ∈ gt := mg7 116 rfl rfl
theorem wt_1557 : (Jvm.Cond.methodLink "BlottedDeedModel" (154 : Nat) ({ cls := "BlottedDeedModel", name := "in", desc := "(III)Z" } : Jvm.MethodName)) ∈ gt := mg7 117 rfl rfl
theorem wt_1558 : (Jvm.Cond.static ({ cls := "BlottedDeedModel", name := "in", desc := "(III)Z" } : Jvm.MethodName)) ∈ gt := mg7 118 rfl rfl
theorem wt_1559 : (Jvm.Cond.code ({ cls := "BlottedDeedModel", name := "in", desc := "(III)Z" } : Jvm.MethodName) prog_13_method_4_code (3 : Nat) (Option.some Jvm.ClassFile.FieldType.boolean)) ∈ gt := mg7 119 rfl rfl
theorem wt_1560 : (Jvm.Cond.methodLink "BlottedDeedModel" (215 : Nat) ({ cls := "BlottedDeedModel", name := "bad", desc := "(ZII)Z" } : Jvm.MethodName)) ∈ gt := mg7 120 rfl rfl
theorem wt_1562 : (Jvm.Cond.instanceMethod ({ cls := "BlottedDeedModel", name := "bad", desc := "(ZII)Z" } : Jvm.MethodName)) ∈ gt := mg7 122 rfl rfl
theorem wt_1563 : (Jvm.Cond.code ({ cls := "BlottedDeedModel", name := "bad", desc := "(ZII)Z" } : Jvm.MethodName) prog_13_method_3_code (4 : Nat) (Option.some Jvm.ClassFile.FieldType.boolean)) ∈ gt := mg7 123 rfl rfl
theorem wt_1564 : (Jvm.Cond.methodLink "BlottedDeedModel" (142 : Nat) ({ cls := "BlottedDeedModel", name := "blanks", desc := "()V" } : Jvm.MethodName)) ∈ gt := mg7 124 rfl rfl
theorem wt_1566 : (Jvm.Cond.instanceMethod ({ cls := "BlottedDeedModel", name := "blanks", desc := "()V" } : Jvm.MethodName)) ∈ gt := mg7 126 rfl rfl
theorem wt_1567 : (Jvm.Cond.code ({ cls := "BlottedDeedModel", name := "blanks", desc := "()V" } : Jvm.MethodName) prog_13_method_7_code (1 : Nat) (Option.none : Option Jvm.ClassFile.FieldType)) ∈ gt := mg7 127 rfl rfl
theorem wt_1568 : (Jvm.Cond.methodLink "BlottedDeedModel" (132 : Nat) ({ cls := "BlottedDeedModel", name := "byteAt", desc := "(I)I" } : Jvm.MethodName)) ∈ gt := mg7 128 rfl rfl
theorem wt_1570 : (Jvm.Cond.instanceMethod ({ cls := "BlottedDeedModel", name := "byteAt", desc := "(I)I" } : Jvm.MethodName)) ∈ gt := mg7 130 rfl rfl
theorem wt_1571 : (Jvm.Cond.code ({ cls := "BlottedDeedModel", name := "byteAt", desc := "(I)I" } : Jvm.MethodName) prog_13_method_6_code (2 : Nat) (Option.some Jvm.ClassFile.FieldType.int)) ∈ gt := mg7 131 rfl rfl
theorem wt_1572 : (Jvm.Cond.methodLink "BlottedDeedModel" (219 : Nat) ({ cls := "BlottedDeedModel", name := "clause", desc := "()V" } : Jvm.MethodName)) ∈ gt := mg7 132 rfl rfl
theorem wt_1574 : (Jvm.Cond.instanceMethod ({ cls := "BlottedDeedModel", name := "clause", desc := "()V" } : Jvm.MethodName)) ∈ gt := mg7 134 rfl rfl
theorem wt_1575 : (Jvm.Cond.code ({ cls := "BlottedDeedModel", name := "clause", desc := "()V" } : Jvm.MethodName) prog_13_method_17_code (4 : Nat) (Option.none : Option Jvm.ClassFile.FieldType)) ∈ gt := mg7 135 rfl rfl
theorem wt_1576 : (Jvm.Cond.methodLink "BlottedDeedModel" (182 : Nat) ({ cls := "BlottedDeedModel", name := "kindHere", desc := "()I" } : Jvm.MethodName)) ∈ gt := mg7 136 rfl rfl
theorem wt_1578 : (Jvm.Cond.instanceMethod ({ cls := "BlottedDeedModel", name := "kindHere", desc := "()I" } : Jvm.MethodName)) ∈ gt := mg7 138 rfl rfl
theorem wt_1579 : (Jvm.Cond.code ({ cls := "BlottedDeedModel", name := "kindHere", desc := "()I" } : Jvm.MethodName) prog_13_method_15_code (1 : Nat) (Option.some Jvm.ClassFile.FieldType.int)) ∈ gt := mg7 139 rfl rfl
theorem wt_1580 : (Jvm.Cond.methodLink "BlottedDeedModel" (176 : Nat) ({ cls := "BlottedDeedModel", name := "isWord", desc := "(IIIIII)Z" } : Jvm.MethodName)) ∈ gt := mg7 140 rfl rfl
theorem wt_1582 : (Jvm.Cond.instanceMethod ({ cls := "BlottedDeedModel", name := "isWord", desc := "(IIIIII)Z" } : Jvm.MethodName)) ∈ gt := mg7 142 rfl rfl
theorem wt_1583 : (Jvm.Cond.code ({ cls := "BlottedDeedModel", name := "isWord", desc := "(IIIIII)Z" } : Jvm.MethodName) prog_13_method_14_code (7 : Nat) (Option.some Jvm.ClassFile.FieldType.boolean)) ∈ gt := mg7 143 rfl rfl
theorem wt_1584 : (Jvm.Cond.methodLink "BlottedDeedModel" (168 : Nat) ({ cls := "BlottedDeedModel", name := "wordHere", desc := "()J" } : Jvm.MethodName)) ∈ gt := mg7 144 rfl rfl
theorem wt_1586 : (Jvm.Cond.instanceMethod ({ cls := "BlottedDeedModel", name := "wordHere", desc := "()J" } : Jvm.MethodName)) ∈ gt := mg7 146 rfl rfl
theorem wt_1587 : (Jvm.Cond.code ({ cls := "BlottedDeedModel", name := "wordHere", desc := "()J" } : Jvm.MethodName) prog_13_method_12_code (5 : Nat) (Option.some Jvm.ClassFile.FieldType.long)) ∈ gt := mg7 147 rfl rfl
theorem wt_1588 : (Jvm.Cond.methodLink "BlottedDeedModel" (158 : Nat) ({ cls := "BlottedDeedModel", name := "lettersHere", desc := "()I" } : Jvm.MethodName)) ∈ gt := mg7 148 rfl rfl
theorem wt_1590 : (Jvm.Cond.instanceMethod ({ cls := "BlottedDeedModel", name := "lettersHere", desc := "()I" } : Jvm.MethodName)) ∈ gt := mg7 150 rfl rfl
theorem wt_1591 : (Jvm.Cond.code ({ cls := "BlottedDeedModel", name := "lettersHere", desc := "()I" } : Jvm.MethodName) prog_13_method_11_code (2 : Nat) (Option.some Jvm.ClassFile.FieldType.int)) ∈ gt := mg7 151 rfl rfl
theorem wt_1592 : (Jvm.Cond.constantLong "BlottedDeedModel" (162 : Nat) (27 : Int64)) ∈ gt := mg7 152 rfl rfl
theorem wt_1593 : (Jvm.Cond.constantLong "BlottedDeedModel" (164 : Nat) (97 : Int64)) ∈ gt := mg7 153 rfl rfl
theorem wt_1594 : (Jvm.Cond.constantLong "BlottedDeedModel" (166 : Nat) (-1 : Int64)) ∈ gt := mg7 154 rfl rfl
theorem wt_1595 : (Jvm.Cond.methodLink "BlottedDeedModel" (172 : Nat) ({ cls := "BlottedDeedModel", name := "six", desc := "(IIIIII)J" } : Jvm.MethodName)) ∈ gt := mg7 155 rfl rfl
theorem wt_1596 : (Jvm.Cond.static ({ cls := "BlottedDeedModel", name := "six", desc := "(IIIIII)J" } : Jvm.MethodName)) ∈ gt := mg7 156 rfl rfl
theorem wt_1597 : (Jvm.Cond.code ({ cls := "BlottedDeedModel", name := "six", desc := "(IIIIII)J" } : Jvm.MethodName) prog_13_method_13_code (8 : Nat) (Option.some Jvm.ClassFile.FieldType.long)) ∈ gt := mg7 157 rfl rfl
theorem wt_1598 : (Jvm.Cond.constantLong "BlottedDeedModel" (180 : Nat) (5 : Int64)) ∈ gt := mg7 158 rfl rfl
theorem wt_1599 : (Jvm.Cond.methodLink "BlottedDeedModel" (149 : Nat) ({ cls := "BlottedDeedModel", name := "wrong", desc := "(II)V" } : Jvm.MethodName)) ∈ gt := mg7 159 rfl rfl
theorem wt_1601 : (Jvm.Cond.instanceMethod ({ cls := "BlottedDeedModel", name := "wrong", desc := "(II)V" } : Jvm.MethodName)) ∈ gt := mg7 161 rfl rfl
theorem wt_1602 : (Jvm.Cond.code ({ cls := "BlottedDeedModel", name := "wrong", desc := "(II)V" } : Jvm.MethodName) prog_13_method_8_code (3 : Nat) (Option.none : Option Jvm.ClassFile.FieldType)) ∈ gt := mg7 162 rfl rfl
theorem wt_1603 : (Jvm.Cond.methodLink "BlottedDeedModel" (188 : Nat) ({ cls := "BlottedDeedModel", name := "isFull", desc := "(I)Z" } : Jvm.MethodName)) ∈ gt := mg7 163 rfl rfl
theorem wt_1605 : (Jvm.Cond.instanceMethod ({ cls := "BlottedDeedModel", name := "isFull", desc := "(I)Z" } : Jvm.MethodName)) ∈ gt := mg7 165 rfl rfl
theorem wt_1606 : (Jvm.Cond.code ({ cls := "BlottedDeedModel", name := "isFull", desc := "(I)Z" } : Jvm.MethodName) prog_13_method_16_code (2 : Nat) (Option.some Jvm.ClassFile.FieldType.boolean)) ∈ gt := mg7 166 rfl rfl
theorem wt_1607 : (Jvm.Cond.methodLink "BlottedDeedModel" (191 : Nat) ({ cls := "BlottedDeedModel", name := "names", desc := "(I)V" } : Jvm.MethodName)) ∈ gt := mg7 167 rfl rfl
theorem wt_1609 : (Jvm.Cond.instanceMethod ({ cls := "BlottedDeedModel", name := "names", desc := "(I)V" } : Jvm.MethodName)) ∈ gt := mg7 169 rfl rfl
theorem wt_1610 : (Jvm.Cond.code ({ cls := "BlottedDeedModel", name := "names", desc := "(I)V" } : Jvm.MethodName) prog_13_method_18_code (6 : Nat) (Option.none : Option Jvm.ClassFile.FieldType)) ∈ gt := mg7 170 rfl rfl
theorem wt_1611 : (Jvm.Cond.methodLink "BlottedDeedModel" (195 : Nat) ({ cls := "BlottedDeedModel", name := "number", desc := "(II)I" } : Jvm.MethodName)) ∈ gt := mg7 171 rfl rfl
theorem wt_1613 : (Jvm.Cond.instanceMethod ({ cls := "BlottedDeedModel", name := "number", desc := "(II)I" } : Jvm.MethodName)) ∈ gt := mg7 173 rfl rfl
theorem wt_1614 : (Jvm.Cond.code ({ cls := "BlottedDeedModel", name := "number", desc := "(II)I" } : Jvm.MethodName) prog_13_method_10_code (5 : Nat) (Option.some Jvm.ClassFile.FieldType.int)) ∈ gt := mg7 174 rfl rfl
theorem wt_1615 : (Jvm.Cond.methodLink "BlottedDeedModel" (145 : Nat) ({ cls := "BlottedDeedModel", name := "isDigit", desc := "(I)Z" } : Jvm.MethodName)) ∈ gt := mg7 175 rfl rfl
theorem wt_1616 : (Jvm.Cond.static ({ cls := "BlottedDeedModel", name := "isDigit", desc := "(I)Z" } : Jvm.MethodName)) ∈ gt := mg7 176 rfl rfl
theorem wt_1617 : (Jvm.Cond.code ({ cls := "BlottedDeedModel", name := "isDigit", desc := "(I)Z" } : Jvm.MethodName) prog_13_method_9_code (1 : Nat) (Option.some Jvm.ClassFile.FieldType.boolean)) ∈ gt := mg7 177 rfl rfl
theorem wt_1618 : (Jvm.Cond.constant "BlottedDeedModel" (153 : Nat) (100000 : Int32)) ∈ gt := mg7 178 rfl rfl
theorem wt_1619 : (Jvm.Cond.methodLink "BlottedDeedModel" (199 : Nat) ({ cls := "BlottedDeedModel", name := "toldName", desc := "(II)I" } : Jvm.MethodName)) ∈ gt := mg7 179 rfl rfl
theorem wt_1621 : (Jvm.Cond.instanceMethod ({ cls := "BlottedDeedModel", name := "toldName", desc := "(II)I" } : Jvm.MethodName)) ∈ gt := mg7 181 rfl rfl
theorem wt_1622 : (Jvm.Cond.code ({ cls := "BlottedDeedModel", name := "toldName", desc := "(II)I" } : Jvm.MethodName) prog_13_method_19_code (7 : Nat) (Option.some Jvm.ClassFile.FieldType.int)) ∈ gt := mg7 182 rfl rfl
theorem wt_1623 : (Jvm.Cond.methodLink "BlottedDeedModel" (202 : Nat) ({ cls := "BlottedDeedModel", name := "reads", desc := "(I)V" } : Jvm.MethodName)) ∈ gt := mg7 183 rfl rfl
theorem wt_1625 : (Jvm.Cond.instanceMethod ({ cls := "BlottedDeedModel", name := "reads", desc := "(I)V" } : Jvm.MethodName)) ∈ gt := mg7 185 rfl rfl
theorem wt_1626 : (Jvm.Cond.code ({ cls := "BlottedDeedModel", name := "reads", desc := "(I)V" } : Jvm.MethodName) prog_13_method_20_code (3 : Nat) (Option.none : Option Jvm.ClassFile.FieldType)) ∈ gt := mg7 186 rfl rfl
theorem wt_1627 : (Jvm.Cond.methodLink "BlottedDeedModel" (205 : Nat) ({ cls := "BlottedDeedModel", name := "spotHere", desc := "(I)V" } : Jvm.MethodName)) ∈ gt := mg7 187 rfl rfl
theorem wt_1629 : (Jvm.Cond.instanceMethod ({ cls := "BlottedDeedModel", name := "spotHere", desc := "(I)V" } : Jvm.MethodName)) ∈ gt := mg7 189 rfl rfl
theorem wt_1630 : (Jvm.Cond.code ({ cls := "BlottedDeedModel", name := "spotHere", desc := "(I)V" } : Jvm.MethodName) prog_13_method_21_code (3 : Nat) (Option.none : Option Jvm.ClassFile.FieldType)) ∈ gt := mg7 190 rfl rfl
theorem wt_1631 : (Jvm.Cond.methodLink "BlottedDeedModel" (208 : Nat) ({ cls := "BlottedDeedModel", name := "blots", desc := "(I[I)V" } : Jvm.MethodName)) ∈ gt := mg7 191 rfl rfl
theorem wt_1633 : (Jvm.Cond.instanceMethod ({ cls := "BlottedDeedModel", name := "blots", desc := "(I[I)V" } : Jvm.MethodName)) ∈ gt := mg7 193 rfl rfl
theorem wt_1634 : (Jvm.Cond.code ({ cls := "BlottedDeedModel", name := "blots", desc := "(I[I)V" } : Jvm.MethodName) prog_13_method_23_code (9 : Nat) (Option.none : Option Jvm.ClassFile.FieldType)) ∈ gt := mg7 194 rfl rfl
theorem wt_1635 : (Jvm.Cond.methodLink "BlottedDeedModel" (212 : Nat) ({ cls := "BlottedDeedModel", name := "isHere", desc := "()I" } : Jvm.MethodName)) ∈ gt := mg7 195 rfl rfl
theorem wt_1637 : (Jvm.Cond.instanceMethod ({ cls := "BlottedDeedModel", name := "isHere", desc := "()I" } : Jvm.MethodName)) ∈ gt := mg7 197 rfl rfl
theorem wt_1638 : (Jvm.Cond.code ({ cls := "BlottedDeedModel", name := "isHere", desc := "()I" } : Jvm.MethodName) prog_13_method_22_code (4 : Nat) (Option.some Jvm.ClassFile.FieldType.int)) ∈ gt := mg7 198 rfl rfl
theorem wt_1639 : (Jvm.Cond.methodLink "BlottedDeedModel" (222 : Nat) ({ cls := "BlottedDeedModel", name := "stands", desc := "()V" } : Jvm.MethodName)) ∈ gt := mg7 199 rfl rfl
theorem wt_1641 : (Jvm.Cond.instanceMethod ({ cls := "BlottedDeedModel", name := "stands", desc := "()V" } : Jvm.MethodName)) ∈ gt := mg7 201 rfl rfl
theorem wt_1642 : (Jvm.Cond.code ({ cls := "BlottedDeedModel", name := "stands", desc := "()V" } : Jvm.MethodName) prog_13_method_25_code (3 : Nat) (Option.none : Option Jvm.ClassFile.FieldType)) ∈ gt := mg7 202 rfl rfl
theorem wt_1643 : (Jvm.Cond.methodLink "BlottedDeedLaw" (140 : Nat) ({ cls := "BlottedDeedModel", name := "fault", desc := "()I" } : Jvm.MethodName)) ∈ gt := mg7 203 rfl rfl
theorem wt_1644 : (Jvm.Cond.instanceMethod ({ cls := "BlottedDeedModel", name := "fault", desc := "()I" } : Jvm.MethodName)) ∈ gt := mg7 204 rfl rfl
theorem wt_1645 : (Jvm.Cond.selects "BlottedDeedModel" ({ cls := "BlottedDeedModel", name := "fault", desc := "()I" } : Jvm.MethodName) ({ cls := "BlottedDeedModel", name := "fault", desc := "()I" } : Jvm.MethodName)) ∈ gt := mg7 205 rfl rfl
theorem wt_1646 : (Jvm.Cond.code ({ cls := "BlottedDeedModel", name := "fault", desc := "()I" } : Jvm.MethodName) prog_13_method_26_code (1 : Nat) (Option.some Jvm.ClassFile.FieldType.int)) ∈ gt := mg7 206 rfl rfl
theorem wt_1647 : (Jvm.Cond.methodLink "BlottedDeedLaw" (143 : Nat) ({ cls := "BlottedDeedModel", name := "told", desc := "(I)I" } : Jvm.MethodName)) ∈ gt := mg7 207 rfl rfl
theorem wt_1648 : (Jvm.Cond.instanceMethod ({ cls := "BlottedDeedModel", name := "told", desc := "(I)I" } : Jvm.MethodName)) ∈ gt := mg7 208 rfl rfl
theorem wt_1649 : (Jvm.Cond.selects "BlottedDeedModel" ({ cls := "BlottedDeedModel", name := "told", desc := "(I)I" } : Jvm.MethodName) ({ cls := "BlottedDeedModel", name := "told", desc := "(I)I" } : Jvm.MethodName)) ∈ gt := mg7 209 rfl rfl
theorem wt_1650 : (Jvm.Cond.code ({ cls := "BlottedDeedModel", name := "told", desc := "(I)I" } : Jvm.MethodName) prog_13_method_27_code (2 : Nat) (Option.some Jvm.ClassFile.FieldType.int)) ∈ gt := mg7 210 rfl rfl
theorem wt_1651 : (Jvm.Cond.methodLink "BlottedDeedLaw" (147 : Nat) ({ cls := "BlottedDeedModel", name := "blot", desc := "(II)I" } : Jvm.MethodName)) ∈ gt := mg7 211 rfl rfl
theorem wt_1652 : (Jvm.Cond.instanceMethod ({ cls := "BlottedDeedModel", name := "blot", desc := "(II)I" } : Jvm.MethodName)) ∈ gt := mg7 212 rfl rfl
theorem wt_1653 : (Jvm.Cond.selects "BlottedDeedModel" ({ cls := "BlottedDeedModel", name := "blot", desc := "(II)I" } : Jvm.MethodName) ({ cls := "BlottedDeedModel", name := "blot", desc := "(II)I" } : Jvm.MethodName)) ∈ gt := mg7 213 rfl rfl
theorem wt_1654 : (Jvm.Cond.code ({ cls := "BlottedDeedModel", name := "blot", desc := "(II)I" } : Jvm.MethodName) prog_13_method_29_code (3 : Nat) (Option.some Jvm.ClassFile.FieldType.int)) ∈ gt := mg7 214 rfl rfl
theorem wt_1655 : (Jvm.Cond.methodLink "BlottedDeedModel" (234 : Nat) ({ cls := "BlottedDeedModel", name := "isBlot", desc := "(I)Z" } : Jvm.MethodName)) ∈ gt := mg7 215 rfl rfl
theorem wt_1657 : (Jvm.Cond.instanceMethod ({ cls := "BlottedDeedModel", name := "isBlot", desc := "(I)Z" } : Jvm.MethodName)) ∈ gt := mg7 217 rfl rfl
theorem wt_1658 : (Jvm.Cond.code ({ cls := "BlottedDeedModel", name := "isBlot", desc := "(I)Z" } : Jvm.MethodName) prog_13_method_28_code (2 : Nat) (Option.some Jvm.ClassFile.FieldType.boolean)) ∈ gt := mg7 218 rfl rfl
theorem wt_1659 : (Jvm.Cond.methodLink "BlottedDeedLaw" (150 : Nat) ({ cls := "BlottedDeedModel", name := "candidate", desc := "(II)I" } : Jvm.MethodName)) ∈ gt := mg7 219 rfl rfl
theorem wt_1660 : (Jvm.Cond.instanceMethod ({ cls := "BlottedDeedModel", name := "candidate", desc := "(II)I" } : Jvm.MethodName)) ∈ gt := mg7 220 rfl rfl
theorem wt_1661 : (Jvm.Cond.selects "BlottedDeedModel" ({ cls := "BlottedDeedModel", name := "candidate", desc := "(II)I" } : Jvm.MethodName) ({ cls := "BlottedDeedModel", name := "candidate", desc := "(II)I" } : Jvm.MethodName)) ∈ gt := mg7 221 rfl rfl
theorem wt_1662 : (Jvm.Cond.code ({ cls := "BlottedDeedModel", name := "candidate", desc := "(II)I" } : Jvm.MethodName) prog_13_method_30_code (3 : Nat) (Option.some Jvm.ClassFile.FieldType.int)) ∈ gt := mg7 222 rfl rfl
theorem wt_1663 : (Jvm.Cond.methodLink "BlottedDeedLaw" (154 : Nat) ({ cls := "BlottedDeedModel", name := "readings", desc := "()I" } : Jvm.MethodName)) ∈ gt := mg7 223 rfl rfl
theorem wt_1664 : (Jvm.Cond.instanceMethod ({ cls := "BlottedDeedModel", name := "readings", desc := "()I" } : Jvm.MethodName)) ∈ gt := mg7 224 rfl rfl
theorem wt_1665 : (Jvm.Cond.selects "BlottedDeedModel" ({ cls := "BlottedDeedModel", name := "readings", desc := "()I" } : Jvm.MethodName) ({ cls := "BlottedDeedModel", name := "readings", desc := "()I" } : Jvm.MethodName)) ∈ gt := mg7 225 rfl rfl
theorem wt_1666 : (Jvm.Cond.code ({ cls := "BlottedDeedModel", name := "readings", desc := "()I" } : Jvm.MethodName) prog_13_method_44_code (1 : Nat) (Option.some Jvm.ClassFile.FieldType.int)) ∈ gt := mg7 226 rfl rfl
theorem wt_1667 : (Jvm.Cond.methodLink "BlottedDeedLaw" (157 : Nat) ({ cls := "BlottedDeedModel", name := "reading", desc := "(II)I" } : Jvm.MethodName)) ∈ gt := mg7 227 rfl rfl
theorem wt_1668 : (Jvm.Cond.instanceMethod ({ cls := "BlottedDeedModel", name := "reading", desc := "(II)I" } : Jvm.MethodName)) ∈ gt := mg7 228 rfl rfl
theorem wt_1669 : (Jvm.Cond.selects "BlottedDeedModel" ({ cls := "BlottedDeedModel", name := "reading", desc := "(II)I" } : Jvm.MethodName) ({ cls := "BlottedDeedModel", name := "reading", desc := "(II)I" } : Jvm.MethodName)) ∈ gt := mg7 229 rfl rfl
theorem wt_1670 : (Jvm.Cond.code ({ cls := "BlottedDeedModel", name := "reading", desc := "(II)I" } : Jvm.MethodName) prog_13_method_45_code (3 : Nat) (Option.some Jvm.ClassFile.FieldType.int)) ∈ gt := mg7 230 rfl rfl
theorem wt_1671 : (Jvm.Cond.methodLink "BlottedDeedModel" (267 : Nat) ({ cls := "BlottedDeedModel", name := "isReading", desc := "(I)Z" } : Jvm.MethodName)) ∈ gt := mg7 231 rfl rfl
theorem wt_1673 : (Jvm.Cond.instanceMethod ({ cls := "BlottedDeedModel", name := "isReading", desc := "(I)Z" } : Jvm.MethodName)) ∈ gt := mg7 233 rfl rfl
theorem wt_1674 : (Jvm.Cond.code ({ cls := "BlottedDeedModel", name := "isReading", desc := "(I)Z" } : Jvm.MethodName) prog_13_method_36_code (2 : Nat) (Option.some Jvm.ClassFile.FieldType.boolean)) ∈ gt := mg7 234 rfl rfl
theorem wt_1675 : (Jvm.Cond.methodLink "BlottedDeedModel" (270 : Nat) ({ cls := "BlottedDeedModel", name := "shows", desc := "(II)I" } : Jvm.MethodName)) ∈ gt := mg7 235 rfl rfl
theorem wt_1677 : (Jvm.Cond.instanceMethod ({ cls := "BlottedDeedModel", name := "shows", desc := "(II)I" } : Jvm.MethodName)) ∈ gt := mg7 237 rfl rfl
theorem wt_1678 : (Jvm.Cond.code ({ cls := "BlottedDeedModel", name := "shows", desc := "(II)I" } : Jvm.MethodName) prog_13_method_40_code (3 : Nat) (Option.some Jvm.ClassFile.FieldType.int)) ∈ gt := mg7 238 rfl rfl
theorem wt_1679 : (Jvm.Cond.methodLink "BlottedDeedModel" (256 : Nat) ({ cls := "BlottedDeedModel", name := "digit", desc := "(II)I" } : Jvm.MethodName)) ∈ gt := mg7 239 rfl rfl
theorem wt_1681 : (Jvm.Cond.instanceMethod ({ cls := "BlottedDeedModel", name := "digit", desc := "(II)I" } : Jvm.MethodName)) ∈ gt := mg8 1 rfl rfl
theorem wt_1682 : (Jvm.Cond.code ({ cls := "BlottedDeedModel", name := "digit", desc := "(II)I" } : Jvm.MethodName) prog_13_method_39_code (5 : Nat) (Option.some Jvm.ClassFile.FieldType.int)) ∈ gt := mg8 2 rfl rfl
theorem wt_1683 : (Jvm.Cond.methodLink "BlottedDeedLaw" (160 : Nat) ({ cls := "BlottedDeedModel", name := "alive", desc := "(I)I" } : Jvm.MethodName)) ∈ gt := mg8 3 rfl rfl
theorem wt_1684 : (Jvm.Cond.instanceMethod ({ cls := "BlottedDeedModel", name := "alive", desc := "(I)I" } : Jvm.MethodName)) ∈ gt := mg8 4 rfl rfl
theorem wt_1685 : (Jvm.Cond.selects "BlottedDeedModel" ({ cls := "BlottedDeedModel", name := "alive", desc := "(I)I" } : Jvm.MethodName) ({ cls := "BlottedDeedModel", name := "alive", desc := "(I)I" } : Jvm.MethodName)) ∈ gt := mg8 5 rfl rfl
theorem wt_1686 : (Jvm.Cond.code ({ cls := "BlottedDeedModel", name := "alive", desc := "(I)I" } : Jvm.MethodName) prog_13_method_47_code (4 : Nat) (Option.some Jvm.ClassFile.FieldType.int)) ∈ gt := mg8 6 rfl rfl
theorem wt_1687 : (Jvm.Cond.methodLink "BlottedDeedModel" (273 : Nat) ({ cls := "BlottedDeedModel", name := "laysHeld", desc := "(I)V" } : Jvm.MethodName)) ∈ gt := mg8 7 rfl rfl
theorem wt_1689 : (Jvm.Cond.instanceMethod ({ cls := "BlottedDeedModel", name := "laysHeld", desc := "(I)V" } : Jvm.MethodName)) ∈ gt := mg8 9 rfl rfl
theorem wt_1690 : (Jvm.Cond.code ({ cls := "BlottedDeedModel", name := "laysHeld", desc := "(I)V" } : Jvm.MethodName) prog_13_method_46_code (3 : Nat) (Option.none : Option Jvm.ClassFile.FieldType)) ∈ gt := mg8 10 rfl rfl
theorem wt_1691 : (Jvm.Cond.methodLink "BlottedDeedLaw" (235 : Nat) ({ cls := "BlottedDeedModel", name := "holding", desc := "(II)I" } : Jvm.MethodName)) ∈ gt := mg8 11 rfl rfl
theorem wt_1692 : (Jvm.Cond.instanceMethod ({ cls := "BlottedDeedModel", name := "holding", desc := "(II)I" } : Jvm.MethodName)) ∈ gt := mg8 12 rfl rfl
theorem wt_1693 : (Jvm.Cond.selects "BlottedDeedModel" ({ cls := "BlottedDeedModel", name := "holding", desc := "(II)I" } : Jvm.MethodName) ({ cls := "BlottedDeedModel", name := "holding", desc := "(II)I" } : Jvm.MethodName)) ∈ gt := mg8 13 rfl rfl
theorem wt_1694 : (Jvm.Cond.code ({ cls := "BlottedDeedModel", name := "holding", desc := "(II)I" } : Jvm.MethodName) prog_13_method_48_code (4 : Nat) (Option.some Jvm.ClassFile.FieldType.int)) ∈ gt := mg8 14 rfl rfl
theorem wt_1695 : (Jvm.Cond.methodLink "BlottedDeedLaw" (164 : Nat) ({ cls := "BlottedDeedModel", name := "bars", desc := "()I" } : Jvm.MethodName)) ∈ gt := mg8 15 rfl rfl
theorem wt_1696 : (Jvm.Cond.instanceMethod ({ cls := "BlottedDeedModel", name := "bars", desc := "()I" } : Jvm.MethodName)) ∈ gt := mg8 16 rfl rfl
theorem wt_1697 : (Jvm.Cond.selects "BlottedDeedModel" ({ cls := "BlottedDeedModel", name := "bars", desc := "()I" } : Jvm.MethodName) ({ cls := "BlottedDeedModel", name := "bars", desc := "()I" } : Jvm.MethodName)) ∈ gt := mg8 17 rfl rfl
theorem wt_1698 : (Jvm.Cond.code ({ cls := "BlottedDeedModel", name := "bars", desc := "()I" } : Jvm.MethodName) prog_13_method_49_code (5 : Nat) (Option.some Jvm.ClassFile.FieldType.int)) ∈ gt := mg8 18 rfl rfl
theorem wt_1699 : (Jvm.Cond.methodLink "BlottedDeedLaw" (168 : Nat) ({ cls := "BlottedDeedModel", name := "gets", desc := "(III)I" } : Jvm.MethodName)) ∈ gt := mg8 19 rfl rfl
theorem wt_1700 : (Jvm.Cond.instanceMethod ({ cls := "BlottedDeedModel", name := "gets", desc := "(III)I" } : Jvm.MethodName)) ∈ gt := mg8 20 rfl rfl
theorem wt_1701 : (Jvm.Cond.selects "BlottedDeedModel" ({ cls := "BlottedDeedModel", name := "gets", desc := "(III)I" } : Jvm.MethodName) ({ cls := "BlottedDeedModel", name := "gets", desc := "(III)I" } : Jvm.MethodName)) ∈ gt := mg8 21 rfl rfl
theorem wt_1702 : (Jvm.Cond.code ({ cls := "BlottedDeedModel", name := "gets", desc := "(III)I" } : Jvm.MethodName) prog_13_method_50_code (4 : Nat) (Option.some Jvm.ClassFile.FieldType.int)) ∈ gt := mg8 22 rfl rfl
theorem wt_1703 : (Jvm.Cond.methodLink "BlottedDeedModel" (276 : Nat) ({ cls := "BlottedDeedModel", name := "isHeir", desc := "(I)Z" } : Jvm.MethodName)) ∈ gt := mg8 23 rfl rfl
theorem wt_1705 : (Jvm.Cond.instanceMethod ({ cls := "BlottedDeedModel", name := "isHeir", desc := "(I)Z" } : Jvm.MethodName)) ∈ gt := mg8 25 rfl rfl
theorem wt_1706 : (Jvm.Cond.code ({ cls := "BlottedDeedModel", name := "isHeir", desc := "(I)Z" } : Jvm.MethodName) prog_13_method_37_code (2 : Nat) (Option.some Jvm.ClassFile.FieldType.boolean)) ∈ gt := mg8 26 rfl rfl
theorem wt_1707 : (Jvm.Cond.methodLink "BlottedDeedModel" (261 : Nat) ({ cls := "BlottedDeedModel", name := "coinBy", desc := "(II)I" } : Jvm.MethodName)) ∈ gt := mg8 27 rfl rfl
theorem wt_1709 : (Jvm.Cond.instanceMethod ({ cls := "BlottedDeedModel", name := "coinBy", desc := "(II)I" } : Jvm.MethodName)) ∈ gt := mg8 29 rfl rfl
theorem wt_1710 : (Jvm.Cond.code ({ cls := "BlottedDeedModel", name := "coinBy", desc := "(II)I" } : Jvm.MethodName) prog_13_method_41_code (3 : Nat) (Option.some Jvm.ClassFile.FieldType.int)) ∈ gt := mg8 30 rfl rfl
theorem wt_1711 : (Jvm.Cond.constantLong "BlottedDeedModel" (259 : Nat) (1023 : Int64)) ∈ gt := mg8 31 rfl rfl
theorem wt_1712 : (Jvm.Cond.methodLink "BlottedDeedModel" (279 : Nat) ({ cls := "BlottedDeedModel", name := "worthBy", desc := "(II)I" } : Jvm.MethodName)) ∈ gt := mg8 32 rfl rfl
theorem wt_1714 : (Jvm.Cond.instanceMethod ({ cls := "BlottedDeedModel", name := "worthBy", desc := "(II)I" } : Jvm.MethodName)) ∈ gt := mg8 34 rfl rfl
theorem wt_1715 : (Jvm.Cond.code ({ cls := "BlottedDeedModel", name := "worthBy", desc := "(II)I" } : Jvm.MethodName) prog_13_method_43_code (5 : Nat) (Option.some Jvm.ClassFile.FieldType.int)) ∈ gt := mg8 35 rfl rfl
theorem wt_1716 : (Jvm.Cond.methodLink "BlottedDeedModel" (264 : Nat) ({ cls := "BlottedDeedModel", name := "goesBy", desc := "(II)I" } : Jvm.MethodName)) ∈ gt := mg8 36 rfl rfl
theorem wt_1718 : (Jvm.Cond.instanceMethod ({ cls := "BlottedDeedModel", name := "goesBy", desc := "(II)I" } : Jvm.MethodName)) ∈ gt := mg8 38 rfl rfl
theorem wt_1719 : (Jvm.Cond.code ({ cls := "BlottedDeedModel", name := "goesBy", desc := "(II)I" } : Jvm.MethodName) prog_13_method_42_code (3 : Nat) (Option.some Jvm.ClassFile.FieldType.int)) ∈ gt := mg8 39 rfl rfl
theorem wt_1720 : (Jvm.Cond.methodLink "BlottedDeedLaw" (171 : Nat) ({ cls := "BlottedDeedModel", name := "goes", desc := "(II)I" } : Jvm.MethodName)) ∈ gt := mg8 40 rfl rfl
theorem wt_1721 : (Jvm.Cond.instanceMethod ({ cls := "BlottedDeedModel", name := "goes", desc := "(II)I" } : Jvm.MethodName)) ∈ gt := mg8 41 rfl rfl
theorem wt_1722 : (Jvm.Cond.selects "BlottedDeedModel" ({ cls := "BlottedDeedModel", name := "goes", desc := "(II)I" } : Jvm.MethodName) ({ cls := "BlottedDeedModel", name := "goes", desc := "(II)I" } : Jvm.MethodName)) ∈ gt := mg8 42 rfl rfl
theorem wt_1723 : (Jvm.Cond.code ({ cls := "BlottedDeedModel", name := "goes", desc := "(II)I" } : Jvm.MethodName) prog_13_method_51_code (3 : Nat) (Option.some Jvm.ClassFile.FieldType.int)) ∈ gt := mg8 43 rfl rfl
theorem wt_1724 : (Jvm.Cond.methodLink "BlottedDeedModel" (282 : Nat) ({ cls := "BlottedDeedModel", name := "isThing", desc := "(I)Z" } : Jvm.MethodName)) ∈ gt := mg8 44 rfl rfl
theorem wt_1726 : (Jvm.Cond.instanceMethod ({ cls := "BlottedDeedModel", name := "isThing", desc := "(I)Z" } : Jvm.MethodName)) ∈ gt := mg8 46 rfl rfl
theorem wt_1727 : (Jvm.Cond.code ({ cls := "BlottedDeedModel", name := "isThing", desc := "(I)Z" } : Jvm.MethodName) prog_13_method_38_code (2 : Nat) (Option.some Jvm.ClassFile.FieldType.boolean)) ∈ gt := mg8 47 rfl rfl
theorem wt_1728 : (Jvm.Cond.methodLink "BlottedDeedLaw" (174 : Nat) ({ cls := "BlottedDeedModel", name := "often", desc := "(II)I" } : Jvm.MethodName)) ∈ gt := mg8 48 rfl rfl
theorem wt_1729 : (Jvm.Cond.instanceMethod ({ cls := "BlottedDeedModel", name := "often", desc := "(II)I" } : Jvm.MethodName)) ∈ gt := mg8 49 rfl rfl
theorem wt_1730 : (Jvm.Cond.selects "BlottedDeedModel" ({ cls := "BlottedDeedModel", name := "often", desc := "(II)I" } : Jvm.MethodName) ({ cls := "BlottedDeedModel", name := "often", desc := "(II)I" } : Jvm.MethodName)) ∈ gt := mg8 50 rfl rfl
theorem wt_1731 : (Jvm.Cond.code ({ cls := "BlottedDeedModel", name := "often", desc := "(II)I" } : Jvm.MethodName) prog_13_method_53_code (3 : Nat) (Option.some Jvm.ClassFile.FieldType.int)) ∈ gt := mg8 51 rfl rfl
theorem wt_1732 : (Jvm.Cond.methodLink "BlottedDeedModel" (285 : Nat) ({ cls := "BlottedDeedModel", name := "oftenBy", desc := "(II)I" } : Jvm.MethodName)) ∈ gt := mg8 52 rfl rfl
theorem wt_1734 : (Jvm.Cond.instanceMethod ({ cls := "BlottedDeedModel", name := "oftenBy", desc := "(II)I" } : Jvm.MethodName)) ∈ gt := mg8 54 rfl rfl
theorem wt_1735 : (Jvm.Cond.code ({ cls := "BlottedDeedModel", name := "oftenBy", desc := "(II)I" } : Jvm.MethodName) prog_13_method_52_code (5 : Nat) (Option.some Jvm.ClassFile.FieldType.int)) ∈ gt := mg8 55 rfl rfl
theorem wt_1736 : (Jvm.Cond.methodLink "BlottedDeedLaw" (177 : Nat) ({ cls := "BlottedDeedModel", name := "sure", desc := "(II)Z" } : Jvm.MethodName)) ∈ gt := mg8 56 rfl rfl
theorem wt_1737 : (Jvm.Cond.instanceMethod ({ cls := "BlottedDeedModel", name := "sure", desc := "(II)Z" } : Jvm.MethodName)) ∈ gt := mg8 57 rfl rfl
theorem wt_1738 : (Jvm.Cond.selects "BlottedDeedModel" ({ cls := "BlottedDeedModel", name := "sure", desc := "(II)Z" } : Jvm.MethodName) ({ cls := "BlottedDeedModel", name := "sure", desc := "(II)Z" } : Jvm.MethodName)) ∈ gt := mg8 58 rfl rfl
theorem wt_1739 : (Jvm.Cond.code ({ cls := "BlottedDeedModel", name := "sure", desc := "(II)Z" } : Jvm.MethodName) prog_13_method_54_code (3 : Nat) (Option.some Jvm.ClassFile.FieldType.boolean)) ∈ gt := mg8 59 rfl rfl
theorem wt_1740 : (Jvm.Cond.methodLink "BlottedDeedLaw" (180 : Nat) ({ cls := "BlottedDeedModel", name := "coin", desc := "(II)I" } : Jvm.MethodName)) ∈ gt := mg8 60 rfl rfl
theorem wt_1741 : (Jvm.Cond.instanceMethod ({ cls := "BlottedDeedModel", name := "coin", desc := "(II)I" } : Jvm.MethodName)) ∈ gt := mg8 61 rfl rfl
theorem wt_1742 : (Jvm.Cond.selects "BlottedDeedModel" ({ cls := "BlottedDeedModel", name := "coin", desc := "(II)I" } : Jvm.MethodName) ({ cls := "BlottedDeedModel", name := "coin", desc := "(II)I" } : Jvm.MethodName)) ∈ gt := mg8 62 rfl rfl
theorem wt_1743 : (Jvm.Cond.code ({ cls := "BlottedDeedModel", name := "coin", desc := "(II)I" } : Jvm.MethodName) prog_13_method_55_code (6 : Nat) (Option.some Jvm.ClassFile.FieldType.int)) ∈ gt := mg8 63 rfl rfl
theorem wt_1744 : (Jvm.Cond.methodLink "BlottedDeedLaw" (183 : Nat) ({ cls := "BlottedDeedModel", name := "worth", desc := "(II)I" } : Jvm.MethodName)) ∈ gt := mg8 64 rfl rfl
theorem wt_1745 : (Jvm.Cond.instanceMethod ({ cls := "BlottedDeedModel", name := "worth", desc := "(II)I" } : Jvm.MethodName)) ∈ gt := mg8 65 rfl rfl
theorem wt_1746 : (Jvm.Cond.selects "BlottedDeedModel" ({ cls := "BlottedDeedModel", name := "worth", desc := "(II)I" } : Jvm.MethodName) ({ cls := "BlottedDeedModel", name := "worth", desc := "(II)I" } : Jvm.MethodName)) ∈ gt := mg8 66 rfl rfl
theorem wt_1747 : (Jvm.Cond.code ({ cls := "BlottedDeedModel", name := "worth", desc := "(II)I" } : Jvm.MethodName) prog_13_method_57_code (4 : Nat) (Option.some Jvm.ClassFile.FieldType.int)) ∈ gt := mg8 67 rfl rfl
theorem wt_1748 : (Jvm.Cond.methodLink "BlottedDeedModel" (288 : Nat) ({ cls := "BlottedDeedModel", name := "worthAt", desc := "(II)I" } : Jvm.MethodName)) ∈ gt := mg8 68 rfl rfl
theorem wt_1750 : (Jvm.Cond.instanceMethod ({ cls := "BlottedDeedModel", name := "worthAt", desc := "(II)I" } : Jvm.MethodName)) ∈ gt := mg8 70 rfl rfl
theorem wt_1751 : (Jvm.Cond.code ({ cls := "BlottedDeedModel", name := "worthAt", desc := "(II)I" } : Jvm.MethodName) prog_13_method_56_code (5 : Nat) (Option.some Jvm.ClassFile.FieldType.int)) ∈ gt := mg8 71 rfl rfl
theorem wt_1752 : (Jvm.Cond.methodLink "BlottedDeedLaw" (186 : Nat) ({ cls := "BlottedDeedModel", name := "cleaned", desc := "(I)I" } : Jvm.MethodName)) ∈ gt := mg8 72 rfl rfl
theorem wt_1753 : (Jvm.Cond.instanceMethod ({ cls := "BlottedDeedModel", name := "cleaned", desc := "(I)I" } : Jvm.MethodName)) ∈ gt := mg8 73 rfl rfl
theorem wt_1754 : (Jvm.Cond.selects "BlottedDeedModel" ({ cls := "BlottedDeedModel", name := "cleaned", desc := "(I)I" } : Jvm.MethodName) ({ cls := "BlottedDeedModel", name := "cleaned", desc := "(I)I" } : Jvm.MethodName)) ∈ gt := mg8 74 rfl rfl
theorem wt_1755 : (Jvm.Cond.code ({ cls := "BlottedDeedModel", name := "cleaned", desc := "(I)I" } : Jvm.MethodName) prog_13_method_59_code (2 : Nat) (Option.some Jvm.ClassFile.FieldType.int)) ∈ gt := mg8 75 rfl rfl
theorem wt_1756 : (Jvm.Cond.methodLink "BlottedDeedModel" (291 : Nat) ({ cls := "BlottedDeedModel", name := "cleanedBy", desc := "(I)I" } : Jvm.MethodName)) ∈ gt := mg8 76 rfl rfl
theorem wt_1758 : (Jvm.Cond.instanceMethod ({ cls := "BlottedDeedModel", name := "cleanedBy", desc := "(I)I" } : Jvm.MethodName)) ∈ gt := mg8 78 rfl rfl
theorem wt_1759 : (Jvm.Cond.code ({ cls := "BlottedDeedModel", name := "cleanedBy", desc := "(I)I" } : Jvm.MethodName) prog_13_method_58_code (4 : Nat) (Option.some Jvm.ClassFile.FieldType.int)) ∈ gt := mg8 79 rfl rfl
theorem wt_1760 : (Jvm.Cond.methodLink "BlottedDeedLaw" (190 : Nat) ({ cls := "BlottedDeedModel", name := "settles", desc := "()I" } : Jvm.MethodName)) ∈ gt := mg8 80 rfl rfl
theorem wt_1761 : (Jvm.Cond.instanceMethod ({ cls := "BlottedDeedModel", name := "settles", desc := "()I" } : Jvm.MethodName)) ∈ gt := mg8 81 rfl rfl
theorem wt_1762 : (Jvm.Cond.selects "BlottedDeedModel" ({ cls := "BlottedDeedModel", name := "settles", desc := "()I" } : Jvm.MethodName) ({ cls := "BlottedDeedModel", name := "settles", desc := "()I" } : Jvm.MethodName)) ∈ gt := mg8 82 rfl rfl
theorem wt_1763 : (Jvm.Cond.code ({ cls := "BlottedDeedModel", name := "settles", desc := "()I" } : Jvm.MethodName) prog_13_method_60_code (5 : Nat) (Option.some Jvm.ClassFile.FieldType.int)) ∈ gt := mg8 83 rfl rfl
theorem wt_1764 : (Jvm.Cond.methodLink "BlottedDeedLaw" (193 : Nat) ({ cls := "BlottedDeedModel", name := "fewest", desc := "(II)I" } : Jvm.MethodName)) ∈ gt := mg8 84 rfl rfl
theorem wt_1765 : (Jvm.Cond.instanceMethod ({ cls := "BlottedDeedModel", name := "fewest", desc := "(II)I" } : Jvm.MethodName)) ∈ gt := mg8 85 rfl rfl
theorem wt_1766 : (Jvm.Cond.selects "BlottedDeedModel" ({ cls := "BlottedDeedModel", name := "fewest", desc := "(II)I" } : Jvm.MethodName) ({ cls := "BlottedDeedModel", name := "fewest", desc := "(II)I" } : Jvm.MethodName)) ∈ gt := mg8 86 rfl rfl
theorem wt_1767 : (Jvm.Cond.code ({ cls := "BlottedDeedModel", name := "fewest", desc := "(II)I" } : Jvm.MethodName) prog_13_method_63_code (5 : Nat) (Option.some Jvm.ClassFile.FieldType.int)) ∈ gt := mg8 87 rfl rfl
theorem wt_1768 : (Jvm.Cond.methodLink "BlottedDeedModel" (294 : Nat) ({ cls := "BlottedDeedModel", name := "ones", desc := "(I)I" } : Jvm.MethodName)) ∈ gt := mg8 88 rfl rfl
theorem wt_1769 : (Jvm.Cond.static ({ cls := "BlottedDeedModel", name := "ones", desc := "(I)I" } : Jvm.MethodName)) ∈ gt := mg8 89 rfl rfl
theorem wt_1770 : (Jvm.Cond.code ({ cls := "BlottedDeedModel", name := "ones", desc := "(I)I" } : Jvm.MethodName) prog_13_method_62_code (3 : Nat) (Option.some Jvm.ClassFile.FieldType.int)) ∈ gt := mg8 90 rfl rfl
theorem wt_1771 : (Jvm.Cond.methodLink "BlottedDeedModel" (297 : Nat) ({ cls := "BlottedDeedModel", name := "tells", desc := "(II)Z" } : Jvm.MethodName)) ∈ gt := mg8 91 rfl rfl
theorem wt_1773 : (Jvm.Cond.instanceMethod ({ cls := "BlottedDeedModel", name := "tells", desc := "(II)Z" } : Jvm.MethodName)) ∈ gt := mg8 93 rfl rfl
theorem wt_1774 : (Jvm.Cond.code ({ cls := "BlottedDeedModel", name := "tells", desc := "(II)Z" } : Jvm.MethodName) prog_13_method_61_code (7 : Nat) (Option.some Jvm.ClassFile.FieldType.boolean)) ∈ gt := mg8 94 rfl rfl
theorem wt_1775 : (Jvm.Cond.methodLink "BlottedDeedLaw" (196 : Nat) ({ cls := "BlottedDeedModel", name := "sway", desc := "(II)I" } : Jvm.MethodName)) ∈ gt := mg8 95 rfl rfl
theorem wt_1776 : (Jvm.Cond.instanceMethod ({ cls := "BlottedDeedModel", name := "sway", desc := "(II)I" } : Jvm.MethodName)) ∈ gt := mg8 96 rfl rfl
theorem wt_1777 : (Jvm.Cond.selects "BlottedDeedModel" ({ cls := "BlottedDeedModel", name := "sway", desc := "(II)I" } : Jvm.MethodName) ({ cls := "BlottedDeedModel", name := "sway", desc := "(II)I" } : Jvm.MethodName)) ∈ gt := mg8 97 rfl rfl
theorem wt_1778 : (Jvm.Cond.code ({ cls := "BlottedDeedModel", name := "sway", desc := "(II)I" } : Jvm.MethodName) prog_13_method_66_code (5 : Nat) (Option.some Jvm.ClassFile.FieldType.int)) ∈ gt := mg8 98 rfl rfl
theorem wt_1779 : (Jvm.Cond.methodLink "BlottedDeedModel" (304 : Nat) ({ cls := "BlottedDeedModel", name := "isSwayed", desc := "(III)Z" } : Jvm.MethodName)) ∈ gt := mg8 99 rfl rfl
theorem wt_1781 : (Jvm.Cond.instanceMethod ({ cls := "BlottedDeedModel", name := "isSwayed", desc := "(III)Z" } : Jvm.MethodName)) ∈ gt := mg8 101 rfl rfl
theorem wt_1782 : (Jvm.Cond.code ({ cls := "BlottedDeedModel", name := "isSwayed", desc := "(III)Z" } : Jvm.MethodName) prog_13_method_65_code (7 : Nat) (Option.some Jvm.ClassFile.FieldType.boolean)) ∈ gt := mg8 102 rfl rfl
theorem wt_1783 : (Jvm.Cond.methodLink "BlottedDeedModel" (301 : Nat) ({ cls := "BlottedDeedModel", name := "stride", desc := "(I)I" } : Jvm.MethodName)) ∈ gt := mg8 103 rfl rfl
theorem wt_1785 : (Jvm.Cond.instanceMethod ({ cls := "BlottedDeedModel", name := "stride", desc := "(I)I" } : Jvm.MethodName)) ∈ gt := mg8 105 rfl rfl
theorem wt_1786 : (Jvm.Cond.code ({ cls := "BlottedDeedModel", name := "stride", desc := "(I)I" } : Jvm.MethodName) prog_13_method_64_code (4 : Nat) (Option.some Jvm.ClassFile.FieldType.int)) ∈ gt := mg8 106 rfl rfl
theorem wt_1787 : (Jvm.Cond.methodLink "BlottedDeedLaw" (199 : Nat) ({ cls := "BlottedDeedModel", name := "gains", desc := "(I)I" } : Jvm.MethodName)) ∈ gt := mg8 107 rfl rfl
theorem wt_1788 : (Jvm.Cond.instanceMethod ({ cls := "BlottedDeedModel", name := "gains", desc := "(I)I" } : Jvm.MethodName)) ∈ gt := mg8 108 rfl rfl
theorem wt_1789 : (Jvm.Cond.selects "BlottedDeedModel" ({ cls := "BlottedDeedModel", name := "gains", desc := "(I)I" } : Jvm.MethodName) ({ cls := "BlottedDeedModel", name := "gains", desc := "(I)I" } : Jvm.MethodName)) ∈ gt := mg8 109 rfl rfl
theorem wt_1790 : (Jvm.Cond.code ({ cls := "BlottedDeedModel", name := "gains", desc := "(I)I" } : Jvm.MethodName) prog_13_method_67_code (8 : Nat) (Option.some Jvm.ClassFile.FieldType.int)) ∈ gt := mg8 110 rfl rfl
theorem wt_1791 : (Jvm.Cond.methodLink "BlottedDeedLaw" (202 : Nat) ({ cls := "BlottedDeedModel", name := "settlement", desc := "(I)I" } : Jvm.MethodName)) ∈ gt := mg8 111 rfl rfl
theorem wt_1792 : (Jvm.Cond.instanceMethod ({ cls := "BlottedDeedModel", name := "settlement", desc := "(I)I" } : Jvm.MethodName)) ∈ gt := mg8 112 rfl rfl
theorem wt_1793 : (Jvm.Cond.selects "BlottedDeedModel" ({ cls := "BlottedDeedModel", name := "settlement", desc := "(I)I" } : Jvm.MethodName) ({ cls := "BlottedDeedModel", name := "settlement", desc := "(I)I" } : Jvm.MethodName)) ∈ gt := mg8 113 rfl rfl
theorem wt_1794 : (Jvm.Cond.code ({ cls := "BlottedDeedModel", name := "settlement", desc := "(I)I" } : Jvm.MethodName) prog_13_method_68_code (4 : Nat) (Option.some Jvm.ClassFile.FieldType.int)) ∈ gt := mg8 114 rfl rfl
theorem wt_1795 : (Jvm.Cond.methodLink "BlottedDeedLaw" (205 : Nat) ({ cls := "BlottedDeedModel", name := "copy", desc := "(III)I" } : Jvm.MethodName)) ∈ gt := mg8 115 rfl rfl
theorem wt_1796 : (Jvm.Cond.instanceMethod ({ cls := "BlottedDeedModel", name := "copy", desc := "(III)I" } : Jvm.MethodName)) ∈ gt := mg8 116 rfl rfl
theorem wt_1797 : (Jvm.Cond.selects "BlottedDeedModel" ({ cls := "BlottedDeedModel", name := "copy", desc := "(III)I" } : Jvm.MethodName) ({ cls := "BlottedDeedModel", name := "copy", desc := "(III)I" } : Jvm.MethodName)) ∈ gt := mg8 117 rfl rfl
theorem wt_1798 : (Jvm.Cond.code ({ cls := "BlottedDeedModel", name := "copy", desc := "(III)I" } : Jvm.MethodName) prog_13_method_69_code (5 : Nat) (Option.some Jvm.ClassFile.FieldType.int)) ∈ gt := mg8 118 rfl rfl
theorem wt_1799 : (Jvm.Cond.methodLink "BlottedDeedLaw" (209 : Nat) ({ cls := "BlottedDeedModel", name := "habit", desc := "(IIII)I" } : Jvm.MethodName)) ∈ gt := mg8 119 rfl rfl
theorem wt_1800 : (Jvm.Cond.instanceMethod ({ cls := "BlottedDeedModel", name := "habit", desc := "(IIII)I" } : Jvm.MethodName)) ∈ gt := mg8 120 rfl rfl
theorem wt_1801 : (Jvm.Cond.selects "BlottedDeedModel" ({ cls := "BlottedDeedModel", name := "habit", desc := "(IIII)I" } : Jvm.MethodName) ({ cls := "BlottedDeedModel", name := "habit", desc := "(IIII)I" } : Jvm.MethodName)) ∈ gt := mg8 121 rfl rfl
theorem wt_1802 : (Jvm.Cond.code ({ cls := "BlottedDeedModel", name := "habit", desc := "(IIII)I" } : Jvm.MethodName) prog_13_method_70_code (5 : Nat) (Option.some Jvm.ClassFile.FieldType.int)) ∈ gt := mg8 122 rfl rfl
theorem wt_1803 : (Jvm.Cond.methodLink "BlottedDeedLaw" (213 : Nat) ({ cls := "BlottedDeedModel", name := "forget", desc := "()I" } : Jvm.MethodName)) ∈ gt := mg8 123 rfl rfl
theorem wt_1804 : (Jvm.Cond.instanceMethod ({ cls := "BlottedDeedModel", name := "forget", desc := "()I" } : Jvm.MethodName)) ∈ gt := mg8 124 rfl rfl
theorem wt_1805 : (Jvm.Cond.selects "BlottedDeedModel" ({ cls := "BlottedDeedModel", name := "forget", desc := "()I" } : Jvm.MethodName) ({ cls := "BlottedDeedModel", name := "forget", desc := "()I" } : Jvm.MethodName)) ∈ gt := mg8 125 rfl rfl
theorem wt_1806 : (Jvm.Cond.code ({ cls := "BlottedDeedModel", name := "forget", desc := "()I" } : Jvm.MethodName) prog_13_method_71_code (2 : Nat) (Option.some Jvm.ClassFile.FieldType.int)) ∈ gt := mg8 126 rfl rfl
theorem wt_1807 : (Jvm.Cond.methodLink "BlottedDeedLaw" (216 : Nat) ({ cls := "BlottedDeedModel", name := "odds", desc := "(I)J" } : Jvm.MethodName)) ∈ gt := mg8 127 rfl rfl
theorem wt_1808 : (Jvm.Cond.instanceMethod ({ cls := "BlottedDeedModel", name := "odds", desc := "(I)J" } : Jvm.MethodName)) ∈ gt := mg8 128 rfl rfl
theorem wt_1809 : (Jvm.Cond.selects "BlottedDeedModel" ({ cls := "BlottedDeedModel", name := "odds", desc := "(I)J" } : Jvm.MethodName) ({ cls := "BlottedDeedModel", name := "odds", desc := "(I)J" } : Jvm.MethodName)) ∈ gt := mg8 129 rfl rfl
theorem wt_1810 : (Jvm.Cond.code ({ cls := "BlottedDeedModel", name := "odds", desc := "(I)J" } : Jvm.MethodName) prog_13_method_74_code (2 : Nat) (Option.some Jvm.ClassFile.FieldType.long)) ∈ gt := mg8 130 rfl rfl
theorem wt_1811 : (Jvm.Cond.methodLink "BlottedDeedModel" (310 : Nat) ({ cls := "BlottedDeedModel", name := "oddsBy", desc := "(I)J" } : Jvm.MethodName)) ∈ gt := mg8 131 rfl rfl
theorem wt_1813 : (Jvm.Cond.instanceMethod ({ cls := "BlottedDeedModel", name := "oddsBy", desc := "(I)J" } : Jvm.MethodName)) ∈ gt := mg8 133 rfl rfl
theorem wt_1814 : (Jvm.Cond.code ({ cls := "BlottedDeedModel", name := "oddsBy", desc := "(I)J" } : Jvm.MethodName) prog_13_method_73_code (5 : Nat) (Option.some Jvm.ClassFile.FieldType.long)) ∈ gt := mg8 134 rfl rfl
theorem wt_1815 : (Jvm.Cond.methodLink "BlottedDeedModel" (307 : Nat) ({ cls := "BlottedDeedModel", name := "oddsOf", desc := "(II)I" } : Jvm.MethodName)) ∈ gt := mg8 135 rfl rfl
theorem wt_1817 : (Jvm.Cond.instanceMethod ({ cls := "BlottedDeedModel", name := "oddsOf", desc := "(II)I" } : Jvm.MethodName)) ∈ gt := mg8 137 rfl rfl
theorem wt_1818 : (Jvm.Cond.code ({ cls := "BlottedDeedModel", name := "oddsOf", desc := "(II)I" } : Jvm.MethodName) prog_13_method_72_code (6 : Nat) (Option.some Jvm.ClassFile.FieldType.int)) ∈ gt := mg8 138 rfl rfl
theorem wt_1819 : (Jvm.Cond.methodLink "BlottedDeedLaw" (219 : Nat) ({ cls := "BlottedDeedModel", name := "likely", desc := "(III)J" } : Jvm.MethodName)) ∈ gt := mg8 139 rfl rfl
theorem wt_1820 : (Jvm.Cond.instanceMethod ({ cls := "BlottedDeedModel", name := "likely", desc := "(III)J" } : Jvm.MethodName)) ∈ gt := mg8 140 rfl rfl
theorem wt_1821 : (Jvm.Cond.selects "BlottedDeedModel" ({ cls := "BlottedDeedModel", name := "likely", desc := "(III)J" } : Jvm.MethodName) ({ cls := "BlottedDeedModel", name := "likely", desc := "(III)J" } : Jvm.MethodName)) ∈ gt := mg8 141 rfl rfl
theorem wt_1822 : (Jvm.Cond.code ({ cls := "BlottedDeedModel", name := "likely", desc := "(III)J" } : Jvm.MethodName) prog_13_method_75_code (14 : Nat) (Option.some Jvm.ClassFile.FieldType.long)) ∈ gt := mg8 142 rfl rfl
theorem wt_1823 : (Jvm.Cond.methodLink "BlottedDeedLaw" (223 : Nat) ({ cls := "BlottedDeedModel", name := "likeliest", desc := "()I" } : Jvm.MethodName)) ∈ gt := mg8 143 rfl rfl
theorem wt_1824 : (Jvm.Cond.instanceMethod ({ cls := "BlottedDeedModel", name := "likeliest", desc := "()I" } : Jvm.MethodName)) ∈ gt := mg8 144 rfl rfl
theorem wt_1825 : (Jvm.Cond.selects "BlottedDeedModel" ({ cls := "BlottedDeedModel", name := "likeliest", desc := "()I" } : Jvm.MethodName) ({ cls := "BlottedDeedModel", name := "likeliest", desc := "()I" } : Jvm.MethodName)) ∈ gt := mg8 145 rfl rfl
theorem wt_1826 : (Jvm.Cond.code ({ cls := "BlottedDeedModel", name := "likeliest", desc := "()I" } : Jvm.MethodName) prog_13_method_76_code (7 : Nat) (Option.some Jvm.ClassFile.FieldType.int)) ∈ gt := mg8 146 rfl rfl
theorem wt_1827 : (Jvm.Cond.methodLink "BlottedDeedLaw" (226 : Nat) ({ cls := "BlottedDeedModel", name := "slips", desc := "(I)I" } : Jvm.MethodName)) ∈ gt := mg8 147 rfl rfl
theorem wt_1828 : (Jvm.Cond.instanceMethod ({ cls := "BlottedDeedModel", name := "slips", desc := "(I)I" } : Jvm.MethodName)) ∈ gt := mg8 148 rfl rfl
theorem wt_1829 : (Jvm.Cond.selects "BlottedDeedModel" ({ cls := "BlottedDeedModel", name := "slips", desc := "(I)I" } : Jvm.MethodName) ({ cls := "BlottedDeedModel", name := "slips", desc := "(I)I" } : Jvm.MethodName)) ∈ gt := mg8 149 rfl rfl
theorem wt_1830 : (Jvm.Cond.code ({ cls := "BlottedDeedModel", name := "slips", desc := "(I)I" } : Jvm.MethodName) prog_13_method_77_code (7 : Nat) (Option.some Jvm.ClassFile.FieldType.int)) ∈ gt := mg8 150 rfl rfl
theorem wt_1831 : (Jvm.Cond.methodLink "BlottedDeedLaw" (229 : Nat) ({ cls := "BlottedDeedModel", name := "more", desc := "(II)I" } : Jvm.MethodName)) ∈ gt := mg8 151 rfl rfl
theorem wt_1832 : (Jvm.Cond.instanceMethod ({ cls := "BlottedDeedModel", name := "more", desc := "(II)I" } : Jvm.MethodName)) ∈ gt := mg8 152 rfl rfl
theorem wt_1833 : (Jvm.Cond.selects "BlottedDeedModel" ({ cls := "BlottedDeedModel", name := "more", desc := "(II)I" } : Jvm.MethodName) ({ cls := "BlottedDeedModel", name := "more", desc := "(II)I" } : Jvm.MethodName)) ∈ gt := mg8 153 rfl rfl
theorem wt_1834 : (Jvm.Cond.code ({ cls := "BlottedDeedModel", name := "more", desc := "(II)I" } : Jvm.MethodName) prog_13_method_80_code (3 : Nat) (Option.some Jvm.ClassFile.FieldType.int)) ∈ gt := mg8 154 rfl rfl
theorem wt_1835 : (Jvm.Cond.methodLink "BlottedDeedModel" (327 : Nat) ({ cls := "BlottedDeedModel", name := "blotsAnew", desc := "(II)V" } : Jvm.MethodName)) ∈ gt := mg8 155 rfl rfl
theorem wt_1837 : (Jvm.Cond.instanceMethod ({ cls := "BlottedDeedModel", name := "blotsAnew", desc := "(II)V" } : Jvm.MethodName)) ∈ gt := mg8 157 rfl rfl
theorem wt_1838 : (Jvm.Cond.code ({ cls := "BlottedDeedModel", name := "blotsAnew", desc := "(II)V" } : Jvm.MethodName) prog_13_method_79_code (5 : Nat) (Option.none : Option Jvm.ClassFile.FieldType)) ∈ gt := mg8 158 rfl rfl
theorem wt_1839 : (Jvm.Cond.methodLink "BlottedDeedModel" (323 : Nat) ({ cls := "BlottedDeedModel", name := "behind", desc := "(III)I" } : Jvm.MethodName)) ∈ gt := mg8 159 rfl rfl
theorem wt_1841 : (Jvm.Cond.instanceMethod ({ cls := "BlottedDeedModel", name := "behind", desc := "(III)I" } : Jvm.MethodName)) ∈ gt := mg8 161 rfl rfl
theorem wt_1842 : (Jvm.Cond.code ({ cls := "BlottedDeedModel", name := "behind", desc := "(III)I" } : Jvm.MethodName) prog_13_method_78_code (5 : Nat) (Option.some Jvm.ClassFile.FieldType.int)) ∈ gt := mg8 162 rfl rfl
theorem wt_1843 : (Jvm.Cond.methodLink "BlottedDeedLaw" (232 : Nat) ({ cls := "BlottedDeedModel", name := "weak", desc := "(I)I" } : Jvm.MethodName)) ∈ gt := mg8 163 rfl rfl
theorem wt_1844 : (Jvm.Cond.instanceMethod ({ cls := "BlottedDeedModel", name := "weak", desc := "(I)I" } : Jvm.MethodName)) ∈ gt := mg8 164 rfl rfl
theorem wt_1845 : (Jvm.Cond.selects "BlottedDeedModel" ({ cls := "BlottedDeedModel", name := "weak", desc := "(I)I" } : Jvm.MethodName) ({ cls := "BlottedDeedModel", name := "weak", desc := "(I)I" } : Jvm.MethodName)) ∈ gt := mg8 165 rfl rfl
theorem wt_1846 : (Jvm.Cond.code ({ cls := "BlottedDeedModel", name := "weak", desc := "(I)I" } : Jvm.MethodName) prog_13_method_81_code (4 : Nat) (Option.some Jvm.ClassFile.FieldType.int)) ∈ gt := mg8 166 rfl rfl
theorem wt_1847 : (Jvm.Cond.methodLink "BlottedDeedLaw" (238 : Nat) ({ cls := "BlottedDeedModel", name := "struck", desc := "(I)I" } : Jvm.MethodName)) ∈ gt := mg8 167 rfl rfl
theorem wt_1848 : (Jvm.Cond.instanceMethod ({ cls := "BlottedDeedModel", name := "struck", desc := "(I)I" } : Jvm.MethodName)) ∈ gt := mg8 168 rfl rfl
theorem wt_1849 : (Jvm.Cond.selects "BlottedDeedModel" ({ cls := "BlottedDeedModel", name := "struck", desc := "(I)I" } : Jvm.MethodName) ({ cls := "BlottedDeedModel", name := "struck", desc := "(I)I" } : Jvm.MethodName)) ∈ gt := mg8 169 rfl rfl
theorem wt_1850 : (Jvm.Cond.code ({ cls := "BlottedDeedModel", name := "struck", desc := "(I)I" } : Jvm.MethodName) prog_13_method_82_code (4 : Nat) (Option.some Jvm.ClassFile.FieldType.int)) ∈ gt := mg8 170 rfl rfl
theorem wt_1851 : (Jvm.Cond.methodLink "BlottedDeedLaw" (241 : Nat) ({ cls := "BlottedDeedModel", name := "apart", desc := "(II)I" } : Jvm.MethodName)) ∈ gt := mg8 171 rfl rfl
theorem wt_1852 : (Jvm.Cond.instanceMethod ({ cls := "BlottedDeedModel", name := "apart", desc := "(II)I" } : Jvm.MethodName)) ∈ gt := mg8 172 rfl rfl
theorem wt_1853 : (Jvm.Cond.selects "BlottedDeedModel" ({ cls := "BlottedDeedModel", name := "apart", desc := "(II)I" } : Jvm.MethodName) ({ cls := "BlottedDeedModel", name := "apart", desc := "(II)I" } : Jvm.MethodName)) ∈ gt := mg8 173 rfl rfl
theorem wt_1854 : (Jvm.Cond.code ({ cls := "BlottedDeedModel", name := "apart", desc := "(II)I" } : Jvm.MethodName) prog_13_method_84_code (3 : Nat) (Option.some Jvm.ClassFile.FieldType.int)) ∈ gt := mg8 174 rfl rfl
theorem wt_1855 : (Jvm.Cond.methodLink "BlottedDeedModel" (330 : Nat) ({ cls := "BlottedDeedModel", name := "apartBy", desc := "(II)I" } : Jvm.MethodName)) ∈ gt := mg8 175 rfl rfl
theorem wt_1857 : (Jvm.Cond.instanceMethod ({ cls := "BlottedDeedModel", name := "apartBy", desc := "(II)I" } : Jvm.MethodName)) ∈ gt := mg8 177 rfl rfl
theorem wt_1858 : (Jvm.Cond.code ({ cls := "BlottedDeedModel", name := "apartBy", desc := "(II)I" } : Jvm.MethodName) prog_13_method_83_code (7 : Nat) (Option.some Jvm.ClassFile.FieldType.int)) ∈ gt := mg8 178 rfl rfl
theorem wt_1859 : (Jvm.Cond.methodLink "BlottedDeedLaw" (244 : Nat) ({ cls := "BlottedDeedModel", name := "middle", desc := "(I)I" } : Jvm.MethodName)) ∈ gt := mg8 179 rfl rfl
theorem wt_1860 : (Jvm.Cond.instanceMethod ({ cls := "BlottedDeedModel", name := "middle", desc := "(I)I" } : Jvm.MethodName)) ∈ gt := mg8 180 rfl rfl
theorem wt_1861 : (Jvm.Cond.selects "BlottedDeedModel" ({ cls := "BlottedDeedModel", name := "middle", desc := "(I)I" } : Jvm.MethodName) ({ cls := "BlottedDeedModel", name := "middle", desc := "(I)I" } : Jvm.MethodName)) ∈ gt := mg8 181 rfl rfl
theorem wt_1862 : (Jvm.Cond.code ({ cls := "BlottedDeedModel", name := "middle", desc := "(I)I" } : Jvm.MethodName) prog_13_method_85_code (8 : Nat) (Option.some Jvm.ClassFile.FieldType.int)) ∈ gt := mg8 182 rfl rfl
theorem wt_1863 : (Jvm.Cond.methodLink "BlottedDeedLaw" (247 : Nat) ({ cls := "BlottedDeedModel", name := "when", desc := "(IIII)I" } : Jvm.MethodName)) ∈ gt := mg8 183 rfl rfl
theorem wt_1864 : (Jvm.Cond.instanceMethod ({ cls := "BlottedDeedModel", name := "when", desc := "(IIII)I" } : Jvm.MethodName)) ∈ gt := mg8 184 rfl rfl
theorem wt_1865 : (Jvm.Cond.selects "BlottedDeedModel" ({ cls := "BlottedDeedModel", name := "when", desc := "(IIII)I" } : Jvm.MethodName) ({ cls := "BlottedDeedModel", name := "when", desc := "(IIII)I" } : Jvm.MethodName)) ∈ gt := mg8 185 rfl rfl
theorem wt_1866 : (Jvm.Cond.code ({ cls := "BlottedDeedModel", name := "when", desc := "(IIII)I" } : Jvm.MethodName) prog_13_method_86_code (8 : Nat) (Option.some Jvm.ClassFile.FieldType.int)) ∈ gt := mg8 186 rfl rfl
theorem wt_1867 : (Jvm.Cond.methodLink "BlottedDeedLaw" (250 : Nat) ({ cls := "BlottedDeedModel", name := "steps", desc := "(III)I" } : Jvm.MethodName)) ∈ gt := mg8 187 rfl rfl
theorem wt_1868 : (Jvm.Cond.instanceMethod ({ cls := "BlottedDeedModel", name := "steps", desc := "(III)I" } : Jvm.MethodName)) ∈ gt := mg8 188 rfl rfl
theorem wt_1869 : (Jvm.Cond.selects "BlottedDeedModel" ({ cls := "BlottedDeedModel", name := "steps", desc := "(III)I" } : Jvm.MethodName) ({ cls := "BlottedDeedModel", name := "steps", desc := "(III)I" } : Jvm.MethodName)) ∈ gt := mg8 189 rfl rfl
theorem wt_1870 : (Jvm.Cond.code ({ cls := "BlottedDeedModel", name := "steps", desc := "(III)I" } : Jvm.MethodName) prog_13_method_88_code (10 : Nat) (Option.some Jvm.ClassFile.FieldType.int)) ∈ gt := mg8 190 rfl rfl
theorem wt_1871 : (Jvm.Cond.methodLink "BlottedDeedModel" (333 : Nat) ({ cls := "BlottedDeedModel", name := "isKnown", desc := "(I)Z" } : Jvm.MethodName)) ∈ gt := mg8 191 rfl rfl
theorem wt_1873 : (Jvm.Cond.instanceMethod ({ cls := "BlottedDeedModel", name := "isKnown", desc := "(I)Z" } : Jvm.MethodName)) ∈ gt := mg8 193 rfl rfl
theorem wt_1874 : (Jvm.Cond.code ({ cls := "BlottedDeedModel", name := "isKnown", desc := "(I)Z" } : Jvm.MethodName) prog_13_method_87_code (4 : Nat) (Option.some Jvm.ClassFile.FieldType.boolean)) ∈ gt := mg8 194 rfl rfl
theorem wt_1875 : (Jvm.Cond.methodLink "BlottedDeedModel" (336 : Nat) ({ cls := "BlottedDeedModel", name := "mostLeft", desc := "(I)I" } : Jvm.MethodName)) ∈ gt := mg8 195 rfl rfl
theorem wt_1877 : (Jvm.Cond.instanceMethod ({ cls := "BlottedDeedModel", name := "mostLeft", desc := "(I)I" } : Jvm.MethodName)) ∈ gt := mg8 197 rfl rfl
theorem wt_1878 : (Jvm.Cond.code ({ cls := "BlottedDeedModel", name := "mostLeft", desc := "(I)I" } : Jvm.MethodName) prog_13_method_89_code (4 : Nat) (Option.some Jvm.ClassFile.FieldType.int)) ∈ gt := mg8 198 rfl rfl
theorem wt_1879 : (Jvm.Cond.methodLink "BlottedDeedLaw" (253 : Nat) ({ cls := "BlottedDeedModel", name := "pairs", desc := "(II)I" } : Jvm.MethodName)) ∈ gt := mg8 199 rfl rfl
theorem wt_1880 : (Jvm.Cond.instanceMethod ({ cls := "BlottedDeedModel", name := "pairs", desc := "(II)I" } : Jvm.MethodName)) ∈ gt := mg8 200 rfl rfl
theorem wt_1881 : (Jvm.Cond.selects "BlottedDeedModel" ({ cls := "BlottedDeedModel", name := "pairs", desc := "(II)I" } : Jvm.MethodName) ({ cls := "BlottedDeedModel", name := "pairs", desc := "(II)I" } : Jvm.MethodName)) ∈ gt := mg8 201 rfl rfl
theorem wt_1882 : (Jvm.Cond.code ({ cls := "BlottedDeedModel", name := "pairs", desc := "(II)I" } : Jvm.MethodName) prog_13_method_90_code (5 : Nat) (Option.some Jvm.ClassFile.FieldType.int)) ∈ gt := mg8 202 rfl rfl
theorem wt_1883 : (Jvm.Cond.methodLink "BlottedDeedLaw" (256 : Nat) ({ cls := "BlottedDeedModel", name := "rows", desc := "(I)I" } : Jvm.MethodName)) ∈ gt := mg8 203 rfl rfl
theorem wt_1884 : (Jvm.Cond.instanceMethod ({ cls := "BlottedDeedModel", name := "rows", desc := "(I)I" } : Jvm.MethodName)) ∈ gt := mg8 204 rfl rfl
theorem wt_1885 : (Jvm.Cond.selects "BlottedDeedModel" ({ cls := "BlottedDeedModel", name := "rows", desc := "(I)I" } : Jvm.MethodName) ({ cls := "BlottedDeedModel", name := "rows", desc := "(I)I" } : Jvm.MethodName)) ∈ gt := mg8 205 rfl rfl
theorem wt_1886 : (Jvm.Cond.code ({ cls := "BlottedDeedModel", name := "rows", desc := "(I)I" } : Jvm.MethodName) prog_13_method_91_code (4 : Nat) (Option.some Jvm.ClassFile.FieldType.int)) ∈ gt := mg8 206 rfl rfl
theorem wt_1887 : (Jvm.Cond.methodLink "BlottedDeedLaw" (260 : Nat) ({ cls := "BlottedDeedModel", name := "bare", desc := "()I" } : Jvm.MethodName)) ∈ gt := mg8 207 rfl rfl
theorem wt_1888 : (Jvm.Cond.instanceMethod ({ cls := "BlottedDeedModel", name := "bare", desc := "()I" } : Jvm.MethodName)) ∈ gt := mg8 208 rfl rfl
theorem wt_1889 : (Jvm.Cond.selects "BlottedDeedModel" ({ cls := "BlottedDeedModel", name := "bare", desc := "()I" } : Jvm.MethodName) ({ cls := "BlottedDeedModel", name := "bare", desc := "()I" } : Jvm.MethodName)) ∈ gt := mg8 209 rfl rfl
theorem wt_1890 : (Jvm.Cond.code ({ cls := "BlottedDeedModel", name := "bare", desc := "()I" } : Jvm.MethodName) prog_13_method_92_code (4 : Nat) (Option.some Jvm.ClassFile.FieldType.int)) ∈ gt := mg8 210 rfl rfl
theorem wt_1891 : (Jvm.Cond.methodLink "BlottedDeedLaw" (264 : Nat) ({ cls := "BlottedDeedModel", name := "image", desc := "()I" } : Jvm.MethodName)) ∈ gt := mg8 211 rfl rfl
theorem wt_1892 : (Jvm.Cond.instanceMethod ({ cls := "BlottedDeedModel", name := "image", desc := "()I" } : Jvm.MethodName)) ∈ gt := mg8 212 rfl rfl
theorem wt_1893 : (Jvm.Cond.selects "BlottedDeedModel" ({ cls := "BlottedDeedModel", name := "image", desc := "()I" } : Jvm.MethodName) ({ cls := "BlottedDeedModel", name := "image", desc := "()I" } : Jvm.MethodName)) ∈ gt := mg8 213 rfl rfl
theorem wt_1894 : (Jvm.Cond.code ({ cls := "BlottedDeedModel", name := "image", desc := "()I" } : Jvm.MethodName) prog_13_method_95_code (1 : Nat) (Option.some Jvm.ClassFile.FieldType.int)) ∈ gt := mg8 214 rfl rfl
theorem wt_1895 : (Jvm.Cond.methodLink "BlottedDeedModel" (346 : Nat) ({ cls := "BlottedDeedModel", name := "movesAll", desc := "([IZ)V" } : Jvm.MethodName)) ∈ gt := mg8 215 rfl rfl
theorem wt_1897 : (Jvm.Cond.instanceMethod ({ cls := "BlottedDeedModel", name := "movesAll", desc := "([IZ)V" } : Jvm.MethodName)) ∈ gt := mg8 217 rfl rfl
theorem wt_1898 : (Jvm.Cond.code ({ cls := "BlottedDeedModel", name := "movesAll", desc := "([IZ)V" } : Jvm.MethodName) prog_13_method_94_code (5 : Nat) (Option.none : Option Jvm.ClassFile.FieldType)) ∈ gt := mg8 218 rfl rfl
theorem wt_1899 : (Jvm.Cond.methodLink "BlottedDeedModel" (342 : Nat) ({ cls := "BlottedDeedModel", name := "moves", desc := "([IIZ)I" } : Jvm.MethodName)) ∈ gt := mg8 219 rfl rfl
theorem wt_1901 : (Jvm.Cond.instanceMethod ({ cls := "BlottedDeedModel", name := "moves", desc := "([IIZ)I" } : Jvm.MethodName)) ∈ gt := mg8 221 rfl rfl
theorem wt_1902 : (Jvm.Cond.code ({ cls := "BlottedDeedModel", name := "moves", desc := "([IIZ)I" } : Jvm.MethodName) prog_13_method_93_code (4 : Nat) (Option.some Jvm.ClassFile.FieldType.int)) ∈ gt := mg8 222 rfl rfl
theorem wt_1903 : (Jvm.Cond.methodLink "BlottedDeedLaw" (268 : Nat) ({ cls := "BlottedDeedModel", name := "restore", desc := "()I" } : Jvm.MethodName)) ∈ gt := mg8 223 rfl rfl
theorem wt_1904 : (Jvm.Cond.instanceMethod ({ cls := "BlottedDeedModel", name := "restore", desc := "()I" } : Jvm.MethodName)) ∈ gt := mg8 224 rfl rfl
theorem wt_1905 : (Jvm.Cond.selects "BlottedDeedModel" ({ cls := "BlottedDeedModel", name := "restore", desc := "()I" } : Jvm.MethodName) ({ cls := "BlottedDeedModel", name := "restore", desc := "()I" } : Jvm.MethodName)) ∈ gt := mg8 225 rfl rfl
theorem wt_1906 : (Jvm.Cond.code ({ cls := "BlottedDeedModel", name := "restore", desc := "()I" } : Jvm.MethodName) prog_13_method_96_code (1 : Nat) (Option.some Jvm.ClassFile.FieldType.int)) ∈ gt := mg8 226 rfl rfl
theorem wt_1907 : (Jvm.Cond.methodLink "BlottedDeedLaw" (272 : Nat) ({ cls := "BlottedDeedModel", name := "status", desc := "(I)I" } : Jvm.MethodName)) ∈ gt := mg8 227 rfl rfl
theorem wt_1908 : (Jvm.Cond.instanceMethod ({ cls := "BlottedDeedModel", name := "status", desc := "(I)I" } : Jvm.MethodName)) ∈ gt := mg8 228 rfl rfl
theorem wt_1909 : (Jvm.Cond.selects "BlottedDeedModel" ({ cls := "BlottedDeedModel", name := "status", desc := "(I)I" } : Jvm.MethodName) ({ cls := "BlottedDeedModel", name := "status", desc := "(I)I" } : Jvm.MethodName)) ∈ gt := mg8 229 rfl rfl
theorem wt_1910 : (Jvm.Cond.code ({ cls := "BlottedDeedModel", name := "status", desc := "(I)I" } : Jvm.MethodName) prog_13_method_97_code (2 : Nat) (Option.some Jvm.ClassFile.FieldType.int)) ∈ gt := mg8 230 rfl rfl
theorem wt_1911 : (Jvm.Cond.methodLink "BlottedDeedLaw" (276 : Nat) ({ cls := "BlottedDeedModel", name := "count", desc := "(I)I" } : Jvm.MethodName)) ∈ gt := mg8 231 rfl rfl
theorem wt_1912 : (Jvm.Cond.instanceMethod ({ cls := "BlottedDeedModel", name := "count", desc := "(I)I" } : Jvm.MethodName)) ∈ gt := mg8 232 rfl rfl
theorem wt_1913 : (Jvm.Cond.selects "BlottedDeedModel" ({ cls := "BlottedDeedModel", name := "count", desc := "(I)I" } : Jvm.MethodName) ({ cls := "BlottedDeedModel", name := "count", desc := "(I)I" } : Jvm.MethodName)) ∈ gt := mg8 233 rfl rfl
theorem wt_1914 : (Jvm.Cond.code ({ cls := "BlottedDeedModel", name := "count", desc := "(I)I" } : Jvm.MethodName) prog_13_method_98_code (2 : Nat) (Option.some Jvm.ClassFile.FieldType.int)) ∈ gt := mg8 234 rfl rfl
theorem wt_1933 : (Jvm.Cond.fieldLink "BlottedDeed$Scribe" (186 : Nat) "BlottedDeed$Verb" "word" "Ljava/lang/String;") ∈ gt := mg9 13 rfl rfl
theorem wt_1934 : (Jvm.Cond.fieldLink "java/lang/String" (9 : Nat) "java/lang/String" "value" "[B") ∈ gt := mg9 14 rfl rfl
theorem wt_1935 : (Jvm.Cond.fieldLink "java/lang/String" (15 : Nat) "java/lang/String" "coder" "B") ∈ gt := mg9 15 rfl rfl
