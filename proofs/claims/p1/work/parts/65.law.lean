theorem ul_0 : Cond.methodLink RL 72 yL_poly ∈ uU := uU_in (by decide +kernel) (by decide +kernel)
theorem ul_1 : Cond.static yL_poly ∈ uU := uU_in (by decide +kernel) (by decide +kernel)
theorem ul_2 : Cond.initialized yL_poly.cls ∈ uU := uU_in (by decide +kernel) (by decide +kernel)
theorem ul_3 : Cond.codeWith yL_poly cL_poly 3 (some .int) [(0, 8, 11, 13)] ∈ uU := uU_in (by decide +kernel) (by decide +kernel)
theorem ul_4 : Cond.methodLink RL 77 yX8_poly ∈ uU := uU_in (by decide +kernel) (by decide +kernel)
theorem ul_5 : Cond.instanceMethod yX8_poly ∈ uU := uU_in (by decide +kernel) (by decide +kernel)
theorem ul_6 : Cond.selects yX8_poly.cls yX8_poly yX8_poly ∈ uU := uU_in (by decide +kernel) (by decide +kernel)
theorem ul_7 : Cond.initialized yX8_poly.cls ∈ uU := uU_in (by decide +kernel) (by decide +kernel)
theorem ul_8 : Cond.code yX8_poly cX8_poly 1 (some .int) ∈ uU := uU_in (by decide +kernel) (by decide +kernel)
theorem ul_9 : Cond.methodLink RL 78 yX8_thrown ∈ uU := uU_in (by decide +kernel) (by decide +kernel)
theorem ul_10 : Cond.instanceMethod yX8_thrown ∈ uU := uU_in (by decide +kernel) (by decide +kernel)
theorem ul_11 : Cond.selects yX8_thrown.cls yX8_thrown yX8_thrown ∈ uU := uU_in (by decide +kernel) (by decide +kernel)
theorem ul_12 : Cond.initialized yX8_thrown.cls ∈ uU := uU_in (by decide +kernel) (by decide +kernel)
theorem ul_13 : Cond.code yX8_thrown cX8_thrown 1 (some .int) ∈ uU := uU_in (by decide +kernel) (by decide +kernel)
theorem ul_14 : Cond.methodLink RL 81 yL_set ∈ uU := uU_in (by decide +kernel) (by decide +kernel)
theorem ul_15 : Cond.static yL_set ∈ uU := uU_in (by decide +kernel) (by decide +kernel)
theorem ul_16 : Cond.initialized yL_set.cls ∈ uU := uU_in (by decide +kernel) (by decide +kernel)
theorem ul_17 : Cond.codeWith yL_set cL_set 6 (some .int) [(0, 19, 22, 19), (0, 19, 26, 21)] ∈ uU := uU_in (by decide +kernel) (by decide +kernel)
theorem ul_18 : Cond.methodLink RL 84 yX8_set ∈ uU := uU_in (by decide +kernel) (by decide +kernel)
theorem ul_19 : Cond.instanceMethod yX8_set ∈ uU := uU_in (by decide +kernel) (by decide +kernel)
theorem ul_20 : Cond.selects yX8_set.cls yX8_set yX8_set ∈ uU := uU_in (by decide +kernel) (by decide +kernel)
theorem ul_21 : Cond.initialized yX8_set.cls ∈ uU := uU_in (by decide +kernel) (by decide +kernel)
theorem ul_22 : Cond.code yX8_set cX8_set 5 (some .boolean) ∈ uU := uU_in (by decide +kernel) (by decide +kernel)
theorem ul_23 : Cond.methodLink RL 85 yL_at ∈ uU := uU_in (by decide +kernel) (by decide +kernel)
theorem ul_24 : Cond.static yL_at ∈ uU := uU_in (by decide +kernel) (by decide +kernel)
theorem ul_25 : Cond.initialized yL_at.cls ∈ uU := uU_in (by decide +kernel) (by decide +kernel)
theorem ul_26 : Cond.codeWith yL_at cL_at 5 (some .int) [(0, 10, 13, 19)] ∈ uU := uU_in (by decide +kernel) (by decide +kernel)
theorem ul_27 : Cond.methodLink RL 88 yX8_at ∈ uU := uU_in (by decide +kernel) (by decide +kernel)
theorem ul_28 : Cond.instanceMethod yX8_at ∈ uU := uU_in (by decide +kernel) (by decide +kernel)
theorem ul_29 : Cond.selects yX8_at.cls yX8_at yX8_at ∈ uU := uU_in (by decide +kernel) (by decide +kernel)
theorem ul_30 : Cond.initialized yX8_at.cls ∈ uU := uU_in (by decide +kernel) (by decide +kernel)
theorem ul_31 : Cond.code yX8_at cX8_at 3 (some .int) ∈ uU := uU_in (by decide +kernel) (by decide +kernel)
theorem ul_32 : Cond.methodLink RL 89 yL_times ∈ uU := uU_in (by decide +kernel) (by decide +kernel)
theorem ul_33 : Cond.static yL_times ∈ uU := uU_in (by decide +kernel) (by decide +kernel)
theorem ul_34 : Cond.initialized yL_times.cls ∈ uU := uU_in (by decide +kernel) (by decide +kernel)
theorem ul_35 : Cond.codeWith yL_times cL_times 5 (some .int) [(0, 10, 13, 19), (0, 10, 17, 13), (0, 10, 21, 21)] ∈ uU := uU_in (by decide +kernel) (by decide +kernel)
theorem ul_36 : Cond.methodLink RL 91 yX8_times ∈ uU := uU_in (by decide +kernel) (by decide +kernel)
theorem ul_37 : Cond.instanceMethod yX8_times ∈ uU := uU_in (by decide +kernel) (by decide +kernel)
theorem ul_38 : Cond.selects yX8_times.cls yX8_times yX8_times ∈ uU := uU_in (by decide +kernel) (by decide +kernel)
theorem ul_39 : Cond.initialized yX8_times.cls ∈ uU := uU_in (by decide +kernel) (by decide +kernel)
theorem ul_40 : Cond.code yX8_times cX8_times 6 (some .int) ∈ uU := uU_in (by decide +kernel) (by decide +kernel)
theorem ul_41 : Cond.methodLink RL 92 yL_over ∈ uU := uU_in (by decide +kernel) (by decide +kernel)
theorem ul_42 : Cond.static yL_over ∈ uU := uU_in (by decide +kernel) (by decide +kernel)
theorem ul_43 : Cond.initialized yL_over.cls ∈ uU := uU_in (by decide +kernel) (by decide +kernel)
theorem ul_44 : Cond.codeWith yL_over cL_over 5 (some .int) [(0, 10, 13, 19), (0, 10, 17, 13), (0, 10, 21, 33)] ∈ uU := uU_in (by decide +kernel) (by decide +kernel)
theorem ul_45 : Cond.methodLink RL 94 yX8_over ∈ uU := uU_in (by decide +kernel) (by decide +kernel)
theorem ul_46 : Cond.instanceMethod yX8_over ∈ uU := uU_in (by decide +kernel) (by decide +kernel)
theorem ul_47 : Cond.selects yX8_over.cls yX8_over yX8_over ∈ uU := uU_in (by decide +kernel) (by decide +kernel)
theorem ul_48 : Cond.initialized yX8_over.cls ∈ uU := uU_in (by decide +kernel) (by decide +kernel)
theorem ul_49 : Cond.code yX8_over cX8_over 3 (some .int) ∈ uU := uU_in (by decide +kernel) (by decide +kernel)
theorem ul_50 : Cond.methodLink RL 95 yL_gcd ∈ uU := uU_in (by decide +kernel) (by decide +kernel)
theorem ul_51 : Cond.static yL_gcd ∈ uU := uU_in (by decide +kernel) (by decide +kernel)
theorem ul_52 : Cond.initialized yL_gcd.cls ∈ uU := uU_in (by decide +kernel) (by decide +kernel)
theorem ul_53 : Cond.codeWith yL_gcd cL_gcd 5 (some .int) [(0, 10, 13, 19), (0, 10, 17, 13)] ∈ uU := uU_in (by decide +kernel) (by decide +kernel)
theorem ul_54 : Cond.methodLink RL 97 yX8_gcd ∈ uU := uU_in (by decide +kernel) (by decide +kernel)
theorem ul_55 : Cond.instanceMethod yX8_gcd ∈ uU := uU_in (by decide +kernel) (by decide +kernel)
theorem ul_56 : Cond.selects yX8_gcd.cls yX8_gcd yX8_gcd ∈ uU := uU_in (by decide +kernel) (by decide +kernel)
theorem ul_57 : Cond.initialized yX8_gcd.cls ∈ uU := uU_in (by decide +kernel) (by decide +kernel)
theorem ul_58 : Cond.code yX8_gcd cX8_gcd 3 (some .int) ∈ uU := uU_in (by decide +kernel) (by decide +kernel)
theorem ul_59 : Cond.methodLink RL 98 yL_run ∈ uU := uU_in (by decide +kernel) (by decide +kernel)
theorem ul_60 : Cond.static yL_run ∈ uU := uU_in (by decide +kernel) (by decide +kernel)
theorem ul_61 : Cond.initialized yL_run.cls ∈ uU := uU_in (by decide +kernel) (by decide +kernel)
theorem ul_62 : Cond.codeWith yL_run cL_run 4 (some .int) [(0, 9, 12, 19), (0, 9, 15, 13)] ∈ uU := uU_in (by decide +kernel) (by decide +kernel)
theorem ul_63 : Cond.methodLink RL 101 yX8_run ∈ uU := uU_in (by decide +kernel) (by decide +kernel)
theorem ul_64 : Cond.instanceMethod yX8_run ∈ uU := uU_in (by decide +kernel) (by decide +kernel)
theorem ul_65 : Cond.selects yX8_run.cls yX8_run yX8_run ∈ uU := uU_in (by decide +kernel) (by decide +kernel)
theorem ul_66 : Cond.initialized yX8_run.cls ∈ uU := uU_in (by decide +kernel) (by decide +kernel)
theorem ul_67 : Cond.code yX8_run cX8_run 4 (some .int) ∈ uU := uU_in (by decide +kernel) (by decide +kernel)
theorem ul_68 : Cond.methodLink RL 102 yL_factor ∈ uU := uU_in (by decide +kernel) (by decide +kernel)
theorem ul_69 : Cond.static yL_factor ∈ uU := uU_in (by decide +kernel) (by decide +kernel)
theorem ul_70 : Cond.initialized yL_factor.cls ∈ uU := uU_in (by decide +kernel) (by decide +kernel)
theorem ul_71 : Cond.codeWith yL_factor cL_factor 4 (some .int) [(0, 9, 12, 19)] ∈ uU := uU_in (by decide +kernel) (by decide +kernel)
theorem ul_72 : Cond.methodLink RL 104 yX8_factor ∈ uU := uU_in (by decide +kernel) (by decide +kernel)
theorem ul_73 : Cond.instanceMethod yX8_factor ∈ uU := uU_in (by decide +kernel) (by decide +kernel)
theorem ul_74 : Cond.selects yX8_factor.cls yX8_factor yX8_factor ∈ uU := uU_in (by decide +kernel) (by decide +kernel)
theorem ul_75 : Cond.initialized yX8_factor.cls ∈ uU := uU_in (by decide +kernel) (by decide +kernel)
theorem ul_76 : Cond.code yX8_factor cX8_factor 2 (some .int) ∈ uU := uU_in (by decide +kernel) (by decide +kernel)
theorem ul_77 : Cond.methodLink RL 105 yL_multiplicity ∈ uU := uU_in (by decide +kernel) (by decide +kernel)
theorem ul_78 : Cond.static yL_multiplicity ∈ uU := uU_in (by decide +kernel) (by decide +kernel)
theorem ul_79 : Cond.initialized yL_multiplicity.cls ∈ uU := uU_in (by decide +kernel) (by decide +kernel)
theorem ul_80 : Cond.codeWith yL_multiplicity cL_multiplicity 4 (some .int) [(0, 9, 12, 19)] ∈ uU := uU_in (by decide +kernel) (by decide +kernel)
theorem ul_81 : Cond.methodLink RL 107 yX8_multiplicity ∈ uU := uU_in (by decide +kernel) (by decide +kernel)
theorem ul_82 : Cond.instanceMethod yX8_multiplicity ∈ uU := uU_in (by decide +kernel) (by decide +kernel)
theorem ul_83 : Cond.selects yX8_multiplicity.cls yX8_multiplicity yX8_multiplicity ∈ uU := uU_in (by decide +kernel) (by decide +kernel)
theorem ul_84 : Cond.initialized yX8_multiplicity.cls ∈ uU := uU_in (by decide +kernel) (by decide +kernel)
theorem ul_85 : Cond.code yX8_multiplicity cX8_multiplicity 2 (some .int) ∈ uU := uU_in (by decide +kernel) (by decide +kernel)
theorem ul_86 : Cond.methodLink RL 108 yL_content ∈ uU := uU_in (by decide +kernel) (by decide +kernel)
theorem ul_87 : Cond.static yL_content ∈ uU := uU_in (by decide +kernel) (by decide +kernel)
theorem ul_88 : Cond.initialized yL_content.cls ∈ uU := uU_in (by decide +kernel) (by decide +kernel)
theorem ul_89 : Cond.codeWith yL_content cL_content 4 (some .int) [(0, 9, 12, 19)] ∈ uU := uU_in (by decide +kernel) (by decide +kernel)
theorem ul_90 : Cond.methodLink RL 110 yX8_content ∈ uU := uU_in (by decide +kernel) (by decide +kernel)
theorem ul_91 : Cond.instanceMethod yX8_content ∈ uU := uU_in (by decide +kernel) (by decide +kernel)
theorem ul_92 : Cond.selects yX8_content.cls yX8_content yX8_content ∈ uU := uU_in (by decide +kernel) (by decide +kernel)
theorem ul_93 : Cond.initialized yX8_content.cls ∈ uU := uU_in (by decide +kernel) (by decide +kernel)
theorem ul_94 : Cond.code yX8_content cX8_content 2 (some .int) ∈ uU := uU_in (by decide +kernel) (by decide +kernel)
theorem ul_95 : Cond.methodLink RL 111 yL_root ∈ uU := uU_in (by decide +kernel) (by decide +kernel)
theorem ul_96 : Cond.static yL_root ∈ uU := uU_in (by decide +kernel) (by decide +kernel)
theorem ul_97 : Cond.initialized yL_root.cls ∈ uU := uU_in (by decide +kernel) (by decide +kernel)
theorem ul_98 : Cond.codeWith yL_root cL_root 6 (some .int) [(0, 12, 15, 19), (0, 12, 19, 21)] ∈ uU := uU_in (by decide +kernel) (by decide +kernel)
theorem ul_99 : Cond.methodLink RL 113 yX8_root ∈ uU := uU_in (by decide +kernel) (by decide +kernel)
theorem ul_100 : Cond.instanceMethod yX8_root ∈ uU := uU_in (by decide +kernel) (by decide +kernel)
theorem ul_101 : Cond.selects yX8_root.cls yX8_root yX8_root ∈ uU := uU_in (by decide +kernel) (by decide +kernel)
theorem ul_102 : Cond.initialized yX8_root.cls ∈ uU := uU_in (by decide +kernel) (by decide +kernel)
theorem ul_103 : Cond.code yX8_root cX8_root 4 (some .int) ∈ uU := uU_in (by decide +kernel) (by decide +kernel)
theorem ul_104 : Cond.methodLink RL 114 yL_roots ∈ uU := uU_in (by decide +kernel) (by decide +kernel)
theorem ul_105 : Cond.static yL_roots ∈ uU := uU_in (by decide +kernel) (by decide +kernel)
theorem ul_106 : Cond.initialized yL_roots.cls ∈ uU := uU_in (by decide +kernel) (by decide +kernel)
theorem ul_107 : Cond.codeWith yL_roots cL_roots 4 (some .int) [(0, 9, 12, 19)] ∈ uU := uU_in (by decide +kernel) (by decide +kernel)
theorem ul_108 : Cond.methodLink RL 116 yX8_roots ∈ uU := uU_in (by decide +kernel) (by decide +kernel)
theorem ul_109 : Cond.instanceMethod yX8_roots ∈ uU := uU_in (by decide +kernel) (by decide +kernel)
theorem ul_110 : Cond.selects yX8_roots.cls yX8_roots yX8_roots ∈ uU := uU_in (by decide +kernel) (by decide +kernel)
theorem ul_111 : Cond.initialized yX8_roots.cls ∈ uU := uU_in (by decide +kernel) (by decide +kernel)
theorem ul_112 : Cond.code yX8_roots cX8_roots 2 (some .int) ∈ uU := uU_in (by decide +kernel) (by decide +kernel)
theorem ul_113 : Cond.methodLink RL 117 yL_parts ∈ uU := uU_in (by decide +kernel) (by decide +kernel)
theorem ul_114 : Cond.static yL_parts ∈ uU := uU_in (by decide +kernel) (by decide +kernel)
theorem ul_115 : Cond.initialized yL_parts.cls ∈ uU := uU_in (by decide +kernel) (by decide +kernel)
theorem ul_116 : Cond.codeWith yL_parts cL_parts 5 (some .int) [(0, 10, 13, 19), (0, 10, 17, 21)] ∈ uU := uU_in (by decide +kernel) (by decide +kernel)
theorem ul_117 : Cond.methodLink RL 119 yX8_parts ∈ uU := uU_in (by decide +kernel) (by decide +kernel)
theorem ul_118 : Cond.instanceMethod yX8_parts ∈ uU := uU_in (by decide +kernel) (by decide +kernel)
theorem ul_119 : Cond.selects yX8_parts.cls yX8_parts yX8_parts ∈ uU := uU_in (by decide +kernel) (by decide +kernel)
theorem ul_120 : Cond.initialized yX8_parts.cls ∈ uU := uU_in (by decide +kernel) (by decide +kernel)
theorem ul_121 : Cond.code yX8_parts cX8_parts 8 (some .int) ∈ uU := uU_in (by decide +kernel) (by decide +kernel)
theorem ul_122 : Cond.methodLink RL 120 yL_squareFree ∈ uU := uU_in (by decide +kernel) (by decide +kernel)
theorem ul_123 : Cond.static yL_squareFree ∈ uU := uU_in (by decide +kernel) (by decide +kernel)
theorem ul_124 : Cond.initialized yL_squareFree.cls ∈ uU := uU_in (by decide +kernel) (by decide +kernel)
theorem ul_125 : Cond.codeWith yL_squareFree cL_squareFree 4 (some .int) [(0, 16, 19, 19)] ∈ uU := uU_in (by decide +kernel) (by decide +kernel)
theorem ul_126 : Cond.methodLink RL 122 yX8_squareFree ∈ uU := uU_in (by decide +kernel) (by decide +kernel)
theorem ul_127 : Cond.instanceMethod yX8_squareFree ∈ uU := uU_in (by decide +kernel) (by decide +kernel)
theorem ul_128 : Cond.selects yX8_squareFree.cls yX8_squareFree yX8_squareFree ∈ uU := uU_in (by decide +kernel) (by decide +kernel)
theorem ul_129 : Cond.initialized yX8_squareFree.cls ∈ uU := uU_in (by decide +kernel) (by decide +kernel)
theorem ul_130 : Cond.code yX8_squareFree cX8_squareFree 2 (some .boolean) ∈ uU := uU_in (by decide +kernel) (by decide +kernel)
theorem ul_131 : Cond.methodLink RL 123 yL_value ∈ uU := uU_in (by decide +kernel) (by decide +kernel)
theorem ul_132 : Cond.static yL_value ∈ uU := uU_in (by decide +kernel) (by decide +kernel)
theorem ul_133 : Cond.initialized yL_value.cls ∈ uU := uU_in (by decide +kernel) (by decide +kernel)
theorem ul_134 : Cond.codeWith yL_value cL_value 6 (some .int) [(0, 12, 15, 19), (0, 12, 19, 21)] ∈ uU := uU_in (by decide +kernel) (by decide +kernel)
theorem ul_135 : Cond.methodLink RL 125 yX8_value ∈ uU := uU_in (by decide +kernel) (by decide +kernel)
theorem ul_136 : Cond.instanceMethod yX8_value ∈ uU := uU_in (by decide +kernel) (by decide +kernel)
theorem ul_137 : Cond.selects yX8_value.cls yX8_value yX8_value ∈ uU := uU_in (by decide +kernel) (by decide +kernel)
theorem ul_138 : Cond.initialized yX8_value.cls ∈ uU := uU_in (by decide +kernel) (by decide +kernel)
theorem ul_139 : Cond.code yX8_value cX8_value 7 (some .int) ∈ uU := uU_in (by decide +kernel) (by decide +kernel)
theorem ul_140 : Cond.methodLink RL 126 yX7_count ∈ uU := uU_in (by decide +kernel) (by decide +kernel)
theorem ul_141 : Cond.instanceMethod yX7_count ∈ uU := uU_in (by decide +kernel) (by decide +kernel)
theorem ul_142 : Cond.selects yX7_count.cls yX7_count yX7_count ∈ uU := uU_in (by decide +kernel) (by decide +kernel)
theorem ul_143 : Cond.initialized yX7_count.cls ∈ uU := uU_in (by decide +kernel) (by decide +kernel)
theorem ul_144 : Cond.code yX7_count cX7_count 1 (some .int) ∈ uU := uU_in (by decide +kernel) (by decide +kernel)
theorem ul_145 : Cond.methodLink RL 129 yX8_count ∈ uU := uU_in (by decide +kernel) (by decide +kernel)
theorem ul_146 : Cond.instanceMethod yX8_count ∈ uU := uU_in (by decide +kernel) (by decide +kernel)
theorem ul_147 : Cond.selects yX8_count.cls yX8_count yX8_count ∈ uU := uU_in (by decide +kernel) (by decide +kernel)
theorem ul_148 : Cond.initialized yX8_count.cls ∈ uU := uU_in (by decide +kernel) (by decide +kernel)
theorem ul_149 : Cond.code yX8_count cX8_count 1 (some .int) ∈ uU := uU_in (by decide +kernel) (by decide +kernel)
set_option maxHeartbeats 4000000 in
theorem law_exit {p : Program} {l : Launch} {e : Env} {s : State} {m : MethodId} {below : List Frame} {meth : Method} {c : Code} {b : Nat} {xs : Nat → Int32} {G : gG} {A : Nat → Prop} {L9 : Nat} {L : List Nat} {f : Nat → va_E} {H : Heap} {locs : List Loc} {cells slots : Nat} (hx : p.tables.exec = Jvm.exec) (hb : c.code = cL_law) (hr : meth.sig.returnType = ret) (hml : c.maxLocals = 7) (hown : s.vm.findClass RL = some m.cls) (hts : ∀ w ∈ uU, w.before #[Value.ref b] s = true) (hlocks : meth.locks = false) (hXs : va_X b L9 xs s s.heap) (hbl : b < s.heap.size) (hbA : ¬ A b) (hAh : ∀ q, A q → s.heap.size ≤ q) (hw : wH G A s.heap s L f H locs) (i : Nat) (hi : L9 < i + 4) (hL9 : L9 ≤ 4) (hi2 : i ≤ 4) (hc : cells ≤ 600002) (hs : slots ≤ 7302232) : ∀ ls : Array Slot, lv_has ls 7 [(4, .int (nI i)), (0, .ref b)] → W p l e room_1 s m #[Value.ref b] below meth c H locs cells slots (lw_Z below #[Value.ref b] s)  (F0 m 23 ls []) := by
  intro ls hl
  refine lv_iload hx hb dL_law_23 (lv_at hl 0 rfl) ?_
  refine lv_aload_n hx hb dL_law_25 rfl (lv_at hl 1 rfl) ?_
  refine va_slen hx hb hXs hbl hbA hw.2.2.2.1 dL_law_26 ?_
  refine lv_iconst (v := nI 4) hx hb dL_law_27 (by decide) ?_
  refine lv_isub hx hb dL_law_28 ?_
  refine lv_icmp_gt (tgt := 1109) hx hb dL_law_29 (by decide) (fun _ => ?_) (fun h => absurd ?_ h)
  · refine lv_iconst (v := 1) hx hb dL_law_1109 (by decide) ?_
    refine va_forget (fun q hq => hAh _ (hw.2.2.2.1.2.2 q hq)) ?_
    refine W.widen (k := 600002) (n := 7302232) hc hs ?_
    exact lw_ret hx hb hr hlocks dL_law_1110
  · rw [Int32.lt_iff_toInt_lt]
    have e1 : (nI L9 - nI 4).toInt = (L9 : Int) - (4 : Nat) := pk_sub_toInt (by omega) (by decide)
    have e2 : (nI i).toInt = (i : Int) := nI_toInt (by omega)
    show (nI L9 - nI 4).toInt < (nI i).toInt
    omega
set_option maxRecDepth 100000 in
set_option maxHeartbeats 4000000 in
theorem law_case_0 {p : Program} {l : Launch} {e : Env} {s : State} {m : MethodId} {below : List Frame} {meth : Method} {c : Code} {b : Nat} {xs : Nat → Int32} {G : gG} {A : Nat → Prop} {L : List Nat} {f : Nat → va_E} {H : Heap} {locs : List Loc} {cells slots x y ww dd ca ou : Nat} {own : Nat → Prop} {r : Nat → Int64} (hl0 : l.stackTraces = false) (hx : p.tables.exec = Jvm.exec) (hb : c.code = cL_law) (hr : meth.sig.returnType = ret) (hml : c.maxLocals = 7) (hown : s.vm.findClass RL = some m.cls) (hts : ∀ w ∈ uU, w.before #[Value.ref b] s = true) (hlocks : meth.locks = false) (hXs : va_X b 4 xs s s.heap) (hbl : b < s.heap.size) (hbA : ¬ A b) (hAh : ∀ q, A q → s.heap.size ≤ q) (hX : tX A s s.heap) (hw : wH G A s.heap s L f H locs) (hz : cZ G L f x own) (hm : mZ G L f y ww dd ca) (hoL : ou ∈ L) (hou : f ou = eJ G 1 r) (hno : ¬ own ou) (ny : ¬ own y) (nw : ¬ own ww) (nd : ¬ own dd) (nc : ¬ own ca) (ey : y ≠ ou) (ew : ww ≠ ou) (ed : dd ≠ ou) (ec : ca ≠ ou) (hc : cells ≤ 5000) (hs : slots ≤ 50000) : ∀ ls : Array Slot, lv_has ls 7 [(4, .int (nI 0)), (3, .ref ou), (2, .ref y), (1, .ref x), (0, .ref b)] → W p l e room_1 s m #[Value.ref b] below meth c H locs cells slots (lw_Z below #[Value.ref b] s)  (F0 m 116 ls []) := by
  intro ls hl
  refine lv_aload_n hx hb dL_law_116 rfl (lv_at hl 3 rfl) ?_
  refine lv_aload_n hx hb dL_law_117 rfl (lv_at hl 1 rfl) ?_
  refine h_callSi (As := [.ref x, .ref ou]) (rest := []) ⟨hx, hb, hml, hown, hts⟩ hX hw (z_L_poly l hl0 G L f _ x ou own r hz hoL hou hno ) (h_cS 2 hts ul_0 ul_1 ul_2 ul_3 rfl rfl (by decide) (by decide)) hl.1 rfl (lv_room (Nat.le_of_ble_eq_true rfl)) dL_law_118 ⟨by show cells + 0 ≤ 600002; omega, by show slots + 0 ≤ 7302232; omega⟩ (fun r5 u1 H locs hp hw => ?_)
  obtain ⟨e5, h0, hwr⟩ := hp
  have hm1 : mZ G L u1 y ww dd ca := hm.keep (fun _ h => h) (hwr y ny ey) (hwr ww nw ew) (hwr dd nd ed) (hwr ca nc ec)
  obtain ⟨hyL, hwwL, hddL, hcaL, fsy, hfy⟩ := hm1.mems
  refine lv_istore (lv' := [(5, .int r5), (4, .int (nI 0)), (3, .ref ou), (2, .ref y), (1, .ref x), (0, .ref b)]) hx hb dL_law_121 hl (by decide) rfl (fun ls hl => ?_)
  refine lv_aload_n hx hb dL_law_123 rfl (lv_at hl 3 rfl) ?_
  refine w_callVi (lf := fun g => (L, g)) (As := []) (rest := []) ⟨hx, hb, hml, hown, hts⟩ hw (z_X8_poly l G L u1 _ y ww dd ca hm1 ) hyL hfy rfl rfl (w_cV 0 hts ul_4 ul_5 ul_6 ul_7 ul_8 rfl rfl (by decide) (by decide)) hl.1 rfl (lv_room (Nat.le_of_ble_eq_true rfl)) dL_law_124 ⟨by show cells + 0 + 0 ≤ 600002; omega, by show slots + 0 + 0 ≤ 7302232; omega⟩ (fun r6 u2 H locs hq hw => ?_)
  have hw : wH G A s.heap s L u2 H locs := hw
  have hfin : (∃ fs2, u2 y = eO 8 fs2 ∧ fs2[3]? = some (.int r5)) ∧ (r5 = nI 0 → ∃ rr, u2 ou = eJ G 1 rr ∧ rr 0 = r6.toInt64) := by
    obtain ⟨h6, hmo⟩ := hq
    rw [← e5] at hmo
    exact ⟨hmo.1, fun h => ⟨_, (hmo.2 ou ey.symm ew.symm ed.symm ec.symm).trans (h0 h), by rw [h6]; rfl⟩⟩
  obtain ⟨⟨fs2, hfy2, hth⟩, hans⟩ := hfin
  refine lv_istore (lv' := [(6, .int r6), (5, .int r5), (4, .int (nI 0)), (3, .ref ou), (2, .ref y), (1, .ref x), (0, .ref b)]) hx hb dL_law_127 hl (by decide) rfl (fun ls hl => ?_)
  refine lv_aload_n hx hb dL_law_129 rfl (lv_at hl 4 rfl) ?_
  refine w_callVi (lf := fun g => (L, g)) (As := []) (rest := []) ⟨hx, hb, hml, hown, hts⟩ hw (c_X8_thrown l G L u2 _ y fs2 hyL hfy2 r5 hth) hyL hfy2 rfl rfl (w_cV 0 hts ul_9 ul_10 ul_11 ul_12 ul_13 rfl rfl (by decide) (by decide)) hl.1 rfl (lv_room (Nat.le_of_ble_eq_true rfl)) dL_law_130 ⟨by show cells + 0 + 0 + 0 ≤ 600002; omega, by show slots + 0 + 0 + 0 ≤ 7302232; omega⟩ (fun r7 u3 H locs hq3 hw => ?_)
  obtain ⟨e7, e8⟩ := hq3
  have hw : wH G A s.heap s L u3 H locs := hw
  rw [e8] at hw
  refine w_ti (y := r5) e7 ?_
  refine lv_iload hx hb dL_law_133 (lv_at hl 1 rfl) ?_
  refine lv_icmp_eq (tgt := 140) hx hb dL_law_135 (by decide) (fun _ => ?_) (fun h => absurd rfl h)
  refine lv_iload hx hb dL_law_140 (lv_at hl 1 rfl) ?_
  refine lv_if_ne (tgt := 157) hx hb dL_law_142 (by decide) (fun h5 => ?_) (fun h5 => ?_)
  · skip
    refine lv_goto (tgt := 1103) hx hb dL_law_157 (by decide) ?_
    refine lv_iinc (v := nI 4) (lv' := [(4, .int (nI 4)), (6, .int r6), (5, .int r5), (3, .ref ou), (2, .ref y), (1, .ref x), (0, .ref b)]) hx hb dL_law_1103 hl (k := 2) rfl (by decide) (by decide) rfl (fun ls hl => ?_)
    refine lv_goto (tgt := 23) hx hb dL_law_1106 (by decide) ?_
    exact law_exit hx hb hr hml hown hts hlocks hXs hbl hbA hAh hw 4 (by decide) (by decide) (by decide) (by show cells + 0 + 0 + 0 ≤ 600002; omega) (by show slots + 0 + 0 + 0 ≤ 7302232; omega) ls (lv_sub hl [0, 6] rfl)
  · skip
    obtain ⟨rr, hrr, hr0⟩ := hans (by rw [nI_0]; exact h5)
    refine lv_aload_n hx hb dL_law_145 rfl (lv_at hl 3 rfl) ?_
    refine lv_iconst (v := nI 0) hx hb dL_law_146 (by decide) ?_
    refine n_lald hx hb hw hoL hrr 0 (by omega) (by omega) dL_law_147 ?_
    refine lv_iload hx hb dL_law_148 (lv_at hl 0 rfl) ?_
    refine lv_i2l (v := r6.toInt64) hx hb dL_law_150 rfl ?_
    refine n_lcmp_eq (tgt := 157) hx hb dL_law_151 dL_law_152 (by decide) (fun h6 => ?_) (fun h6 => ?_)
    · skip
      refine lv_goto (tgt := 1103) hx hb dL_law_157 (by decide) ?_
      refine lv_iinc (v := nI 4) (lv' := [(4, .int (nI 4)), (6, .int r6), (5, .int r5), (3, .ref ou), (2, .ref y), (1, .ref x), (0, .ref b)]) hx hb dL_law_1103 hl (k := 2) rfl (by decide) (by decide) rfl (fun ls hl => ?_)
      refine lv_goto (tgt := 23) hx hb dL_law_1106 (by decide) ?_
      exact law_exit hx hb hr hml hown hts hlocks hXs hbl hbA hAh hw 4 (by decide) (by decide) (by decide) (by show cells + 0 + 0 + 0 ≤ 600002; omega) (by show slots + 0 + 0 + 0 ≤ 7302232; omega) ls (lv_sub hl [0, 6] rfl)
    · skip
      exact absurd hr0 h6
set_option maxRecDepth 100000 in
set_option maxHeartbeats 4000000 in
theorem law_case_1 {p : Program} {l : Launch} {e : Env} {s : State} {m : MethodId} {below : List Frame} {meth : Method} {c : Code} {b : Nat} {xs : Nat → Int32} {G : gG} {A : Nat → Prop} {L : List Nat} {f : Nat → va_E} {H : Heap} {locs : List Loc} {cells slots x y ww dd ca ou : Nat} {own : Nat → Prop} {r : Nat → Int64} (hl0 : l.stackTraces = false) (hx : p.tables.exec = Jvm.exec) (hb : c.code = cL_law) (hr : meth.sig.returnType = ret) (hml : c.maxLocals = 7) (hown : s.vm.findClass RL = some m.cls) (hts : ∀ w ∈ uU, w.before #[Value.ref b] s = true) (hlocks : meth.locks = false) (hXs : va_X b 4 xs s s.heap) (hbl : b < s.heap.size) (hbA : ¬ A b) (hAh : ∀ q, A q → s.heap.size ≤ q) (hX : tX A s s.heap) (hw : wH G A s.heap s L f H locs) (hz : cZ G L f x own) (hm : mZ G L f y ww dd ca) (hoL : ou ∈ L) (hou : f ou = eJ G 1 r) (hno : ¬ own ou) (ny : ¬ own y) (nw : ¬ own ww) (nd : ¬ own dd) (nc : ¬ own ca) (ey : y ≠ ou) (ew : ww ≠ ou) (ed : dd ≠ ou) (ec : ca ≠ ou) (hc : cells ≤ 5000) (hs : slots ≤ 50000) : ∀ ls : Array Slot, lv_has ls 7 [(4, .int (nI 0)), (3, .ref ou), (2, .ref y), (1, .ref x), (0, .ref b)] → W p l e room_1 s m #[Value.ref b] below meth c H locs cells slots (lw_Z below #[Value.ref b] s)  (F0 m 160 ls []) := by
  intro ls hl
  refine lv_aload_n hx hb dL_law_160 rfl (lv_at hl 3 rfl) ?_
  refine lv_aload_n hx hb dL_law_161 rfl (lv_at hl 4 rfl) ?_
  refine lv_iload hx hb dL_law_162 (lv_at hl 0 rfl) ?_
  refine lv_iconst (v := nI 1) hx hb dL_law_164 (by decide) ?_
  refine lv_iadd hx hb dL_law_165 ?_
  refine w_ti (y := nI (0 + 1)) (nI_add _ _) ?_
  refine va_sld hx hb hXs hbl hbA hw.2.2.2.1 (i := nI (0 + 1)) (vp_in_nI (by decide) (by decide)) dL_law_166 ?_
  refine w_ti (y := xs 1) (by rw [nI_clamp (by decide)]) ?_
  refine lv_aload_n hx hb dL_law_167 rfl (lv_at hl 4 rfl) ?_
  refine lv_iload hx hb dL_law_168 (lv_at hl 0 rfl) ?_
  refine lv_iconst (v := nI 2) hx hb dL_law_170 (by decide) ?_
  refine lv_iadd hx hb dL_law_171 ?_
  refine w_ti (y := nI (0 + 2)) (nI_add _ _) ?_
  refine va_sld hx hb hXs hbl hbA hw.2.2.2.1 (i := nI (0 + 2)) (vp_in_nI (by decide) (by decide)) dL_law_172 ?_
  refine w_ti (y := xs 2) (by rw [nI_clamp (by decide)]) ?_
  refine lv_aload_n hx hb dL_law_173 rfl (lv_at hl 4 rfl) ?_
  refine lv_iload hx hb dL_law_174 (lv_at hl 0 rfl) ?_
  refine lv_iconst (v := nI 3) hx hb dL_law_176 (by decide) ?_
  refine lv_iadd hx hb dL_law_177 ?_
  refine w_ti (y := nI (0 + 3)) (nI_add _ _) ?_
  refine va_sld hx hb hXs hbl hbA hw.2.2.2.1 (i := nI (0 + 3)) (vp_in_nI (by decide) (by decide)) dL_law_178 ?_
  refine w_ti (y := xs 3) (by rw [nI_clamp (by decide)]) ?_
  refine lv_aload_n hx hb dL_law_179 rfl (lv_at hl 1 rfl) ?_
  refine h_callSi (As := [.ref x, .int (xs 1), .int (xs 2), .int (xs 3), .ref ou]) (rest := []) ⟨hx, hb, hml, hown, hts⟩ hX hw (z_L_set l hl0 G L f _ x ou own r hz hoL hou hno (xs 1) (xs 2) (xs 3)) (h_cS 5 hts ul_14 ul_15 ul_16 ul_17 rfl rfl (by decide) (by decide)) hl.1 rfl (lv_room (Nat.le_of_ble_eq_true rfl)) dL_law_180 ⟨by show cells + 3 ≤ 600002; omega, by show slots + 18 ≤ 7302232; omega⟩ (fun r5 u1 H locs hp hw => ?_)
  obtain ⟨e5, h0, hwr⟩ := hp
  have hm1 : mZ G L u1 y ww dd ca := hm.keep (fun _ h => h) (hwr y ny ey) (hwr ww nw ew) (hwr dd nd ed) (hwr ca nc ec)
  obtain ⟨hyL, hwwL, hddL, hcaL, fsy, hfy⟩ := hm1.mems
  refine lv_istore (lv' := [(5, .int r5), (4, .int (nI 0)), (3, .ref ou), (2, .ref y), (1, .ref x), (0, .ref b)]) hx hb dL_law_183 hl (by decide) rfl (fun ls hl => ?_)
  refine lv_aload_n hx hb dL_law_185 rfl (lv_at hl 3 rfl) ?_
  refine lv_aload_n hx hb dL_law_186 rfl (lv_at hl 5 rfl) ?_
  refine lv_iload hx hb dL_law_187 (lv_at hl 1 rfl) ?_
  refine lv_iconst (v := nI 1) hx hb dL_law_189 (by decide) ?_
  refine lv_iadd hx hb dL_law_190 ?_
  refine w_ti (y := nI (0 + 1)) (nI_add _ _) ?_
  refine va_sld hx hb hXs hbl hbA hw.2.2.2.1 (i := nI (0 + 1)) (vp_in_nI (by decide) (by decide)) dL_law_191 ?_
  refine w_ti (y := xs 1) (by rw [nI_clamp (by decide)]) ?_
  refine lv_aload_n hx hb dL_law_192 rfl (lv_at hl 5 rfl) ?_
  refine lv_iload hx hb dL_law_193 (lv_at hl 1 rfl) ?_
  refine lv_iconst (v := nI 2) hx hb dL_law_195 (by decide) ?_
  refine lv_iadd hx hb dL_law_196 ?_
  refine w_ti (y := nI (0 + 2)) (nI_add _ _) ?_
  refine va_sld hx hb hXs hbl hbA hw.2.2.2.1 (i := nI (0 + 2)) (vp_in_nI (by decide) (by decide)) dL_law_197 ?_
  refine w_ti (y := xs 2) (by rw [nI_clamp (by decide)]) ?_
  refine lv_aload_n hx hb dL_law_198 rfl (lv_at hl 5 rfl) ?_
  refine lv_iload hx hb dL_law_199 (lv_at hl 1 rfl) ?_
  refine lv_iconst (v := nI 3) hx hb dL_law_201 (by decide) ?_
  refine lv_iadd hx hb dL_law_202 ?_
  refine w_ti (y := nI (0 + 3)) (nI_add _ _) ?_
  refine va_sld hx hb hXs hbl hbA hw.2.2.2.1 (i := nI (0 + 3)) (vp_in_nI (by decide) (by decide)) dL_law_203 ?_
  refine w_ti (y := xs 3) (by rw [nI_clamp (by decide)]) ?_
  refine w_callVi (lf := fun g => (L, g)) (As := [.int (xs 1), .int (xs 2), .int (xs 3)]) (rest := []) ⟨hx, hb, hml, hown, hts⟩ hw (z_X8_set l G L u1 _ y ww dd ca hm1 (xs 1) (xs 2) (xs 3)) hyL hfy rfl rfl (w_cV 3 hts ul_18 ul_19 ul_20 ul_21 ul_22 rfl rfl (by decide) (by decide)) hl.1 rfl (lv_room (Nat.le_of_ble_eq_true rfl)) dL_law_204 ⟨by show cells + 3 + 0 ≤ 600002; omega, by show slots + 18 + 0 ≤ 7302232; omega⟩ (fun r6 u2 H locs hq hw => ?_)
  have hw : wH G A s.heap s L u2 H locs := hw
  have hfin : (∃ fs2, u2 y = eO 8 fs2 ∧ fs2[3]? = some (.int r5)) ∧ (r5 = nI 0 → ∃ rr, u2 ou = eJ G 1 rr ∧ rr 0 = bL r6) := by
    obtain ⟨h6, hmo⟩ := hq
    rw [← e5] at hmo
    refine ⟨hmo.1, fun h => ⟨_, (hmo.2 ou ey.symm ew.symm ed.symm ec.symm).trans (h0 h), ?_⟩⟩
    have hcd : (inB (xs 1) 80 && inB (xs 2) 11 && okV (xs 3)) = true := by
      rw [e5] at h
      revert h
      generalize inB (xs 1) 80 = B0
      generalize inB (xs 2) 11 = B1
      generalize okV (xs 3) = B2
      cases B0 <;> cases B1 <;> cases B2 <;> decide
    rw [h6 hcd]
    rfl
  obtain ⟨⟨fs2, hfy2, hth⟩, hans⟩ := hfin
  refine lv_istore (lv' := [(6, .int r6), (5, .int r5), (4, .int (nI 0)), (3, .ref ou), (2, .ref y), (1, .ref x), (0, .ref b)]) hx hb dL_law_207 hl (by decide) rfl (fun ls hl => ?_)
  refine lv_aload_n hx hb dL_law_209 rfl (lv_at hl 4 rfl) ?_
  refine w_callVi (lf := fun g => (L, g)) (As := []) (rest := []) ⟨hx, hb, hml, hown, hts⟩ hw (c_X8_thrown l G L u2 _ y fs2 hyL hfy2 r5 hth) hyL hfy2 rfl rfl (w_cV 0 hts ul_9 ul_10 ul_11 ul_12 ul_13 rfl rfl (by decide) (by decide)) hl.1 rfl (lv_room (Nat.le_of_ble_eq_true rfl)) dL_law_210 ⟨by show cells + 3 + 0 + 0 ≤ 600002; omega, by show slots + 18 + 0 + 0 ≤ 7302232; omega⟩ (fun r7 u3 H locs hq3 hw => ?_)
  obtain ⟨e7, e8⟩ := hq3
  have hw : wH G A s.heap s L u3 H locs := hw
  rw [e8] at hw
  refine w_ti (y := r5) e7 ?_
  refine lv_iload hx hb dL_law_213 (lv_at hl 1 rfl) ?_
  refine lv_icmp_eq (tgt := 220) hx hb dL_law_215 (by decide) (fun _ => ?_) (fun h => absurd rfl h)
  refine lv_iload hx hb dL_law_220 (lv_at hl 1 rfl) ?_
  refine lv_if_ne (tgt := 244) hx hb dL_law_222 (by decide) (fun h5 => ?_) (fun h5 => ?_)
  · skip
    refine lv_goto (tgt := 1103) hx hb dL_law_244 (by decide) ?_
    refine lv_iinc (v := nI 4) (lv' := [(4, .int (nI 4)), (6, .int r6), (5, .int r5), (3, .ref ou), (2, .ref y), (1, .ref x), (0, .ref b)]) hx hb dL_law_1103 hl (k := 2) rfl (by decide) (by decide) rfl (fun ls hl => ?_)
    refine lv_goto (tgt := 23) hx hb dL_law_1106 (by decide) ?_
    exact law_exit hx hb hr hml hown hts hlocks hXs hbl hbA hAh hw 4 (by decide) (by decide) (by decide) (by show cells + 3 + 0 + 0 ≤ 600002; omega) (by show slots + 18 + 0 + 0 ≤ 7302232; omega) ls (lv_sub hl [0, 6] rfl)
  · skip
    obtain ⟨rr, hrr, hr0⟩ := hans (by rw [nI_0]; exact h5)
    refine lv_aload_n hx hb dL_law_225 rfl (lv_at hl 3 rfl) ?_
    refine lv_iconst (v := nI 0) hx hb dL_law_226 (by decide) ?_
    refine n_lald hx hb hw hoL hrr 0 (by omega) (by omega) dL_law_227 ?_
    refine lv_iload hx hb dL_law_228 (lv_at hl 0 rfl) ?_
    refine lv_if_eq (tgt := 237) hx hb dL_law_230 (by decide) (fun hb6 => ?_) (fun hb6 => ?_)
    · skip
      refine lv_lconst (v := 0) hx hb dL_law_237 (by decide) ?_
      refine n_lcmp_eq (tgt := 244) hx hb dL_law_238 dL_law_239 (by decide) (fun h6 => ?_) (fun h6 => ?_)
      · skip
        refine lv_goto (tgt := 1103) hx hb dL_law_244 (by decide) ?_
        refine lv_iinc (v := nI 4) (lv' := [(4, .int (nI 4)), (6, .int r6), (5, .int r5), (3, .ref ou), (2, .ref y), (1, .ref x), (0, .ref b)]) hx hb dL_law_1103 hl (k := 2) rfl (by decide) (by decide) rfl (fun ls hl => ?_)
        refine lv_goto (tgt := 23) hx hb dL_law_1106 (by decide) ?_
        exact law_exit hx hb hr hml hown hts hlocks hXs hbl hbA hAh hw 4 (by decide) (by decide) (by decide) (by show cells + 3 + 0 + 0 ≤ 600002; omega) (by show slots + 18 + 0 + 0 ≤ 7302232; omega) ls (lv_sub hl [0, 6] rfl)
      · skip
        exact absurd (hr0.trans (if_pos hb6)) h6
    · skip
      refine lv_lconst (v := 1) hx hb dL_law_233 (by decide) ?_
      refine lv_goto (tgt := 238) hx hb dL_law_234 (by decide) ?_
      refine n_lcmp_eq (tgt := 244) hx hb dL_law_238 dL_law_239 (by decide) (fun h6 => ?_) (fun h6 => ?_)
      · skip
        refine lv_goto (tgt := 1103) hx hb dL_law_244 (by decide) ?_
        refine lv_iinc (v := nI 4) (lv' := [(4, .int (nI 4)), (6, .int r6), (5, .int r5), (3, .ref ou), (2, .ref y), (1, .ref x), (0, .ref b)]) hx hb dL_law_1103 hl (k := 2) rfl (by decide) (by decide) rfl (fun ls hl => ?_)
        refine lv_goto (tgt := 23) hx hb dL_law_1106 (by decide) ?_
        exact law_exit hx hb hr hml hown hts hlocks hXs hbl hbA hAh hw 4 (by decide) (by decide) (by decide) (by show cells + 3 + 0 + 0 ≤ 600002; omega) (by show slots + 18 + 0 + 0 ≤ 7302232; omega) ls (lv_sub hl [0, 6] rfl)
      · skip
        exact absurd (hr0.trans (if_neg hb6)) h6
set_option maxRecDepth 100000 in
set_option maxHeartbeats 4000000 in
theorem law_case_2 {p : Program} {l : Launch} {e : Env} {s : State} {m : MethodId} {below : List Frame} {meth : Method} {c : Code} {b : Nat} {xs : Nat → Int32} {G : gG} {A : Nat → Prop} {L : List Nat} {f : Nat → va_E} {H : Heap} {locs : List Loc} {cells slots x y ww dd ca ou : Nat} {own : Nat → Prop} {r : Nat → Int64} (hl0 : l.stackTraces = false) (hx : p.tables.exec = Jvm.exec) (hb : c.code = cL_law) (hr : meth.sig.returnType = ret) (hml : c.maxLocals = 7) (hown : s.vm.findClass RL = some m.cls) (hts : ∀ w ∈ uU, w.before #[Value.ref b] s = true) (hlocks : meth.locks = false) (hXs : va_X b 4 xs s s.heap) (hbl : b < s.heap.size) (hbA : ¬ A b) (hAh : ∀ q, A q → s.heap.size ≤ q) (hX : tX A s s.heap) (hw : wH G A s.heap s L f H locs) (hz : cZ G L f x own) (hm : mZ G L f y ww dd ca) (hoL : ou ∈ L) (hou : f ou = eJ G 1 r) (hno : ¬ own ou) (ny : ¬ own y) (nw : ¬ own ww) (nd : ¬ own dd) (nc : ¬ own ca) (ey : y ≠ ou) (ew : ww ≠ ou) (ed : dd ≠ ou) (ec : ca ≠ ou) (hc : cells ≤ 5000) (hs : slots ≤ 50000) : ∀ ls : Array Slot, lv_has ls 7 [(4, .int (nI 0)), (3, .ref ou), (2, .ref y), (1, .ref x), (0, .ref b)] → W p l e room_1 s m #[Value.ref b] below meth c H locs cells slots (lw_Z below #[Value.ref b] s)  (F0 m 247 ls []) := by
  intro ls hl
  refine lv_aload_n hx hb dL_law_247 rfl (lv_at hl 3 rfl) ?_
  refine lv_aload_n hx hb dL_law_248 rfl (lv_at hl 4 rfl) ?_
  refine lv_iload hx hb dL_law_249 (lv_at hl 0 rfl) ?_
  refine lv_iconst (v := nI 1) hx hb dL_law_251 (by decide) ?_
  refine lv_iadd hx hb dL_law_252 ?_
  refine w_ti (y := nI (0 + 1)) (nI_add _ _) ?_
  refine va_sld hx hb hXs hbl hbA hw.2.2.2.1 (i := nI (0 + 1)) (vp_in_nI (by decide) (by decide)) dL_law_253 ?_
  refine w_ti (y := xs 1) (by rw [nI_clamp (by decide)]) ?_
  refine lv_aload_n hx hb dL_law_254 rfl (lv_at hl 4 rfl) ?_
  refine lv_iload hx hb dL_law_255 (lv_at hl 0 rfl) ?_
  refine lv_iconst (v := nI 2) hx hb dL_law_257 (by decide) ?_
  refine lv_iadd hx hb dL_law_258 ?_
  refine w_ti (y := nI (0 + 2)) (nI_add _ _) ?_
  refine va_sld hx hb hXs hbl hbA hw.2.2.2.1 (i := nI (0 + 2)) (vp_in_nI (by decide) (by decide)) dL_law_259 ?_
  refine w_ti (y := xs 2) (by rw [nI_clamp (by decide)]) ?_
  refine lv_aload_n hx hb dL_law_260 rfl (lv_at hl 1 rfl) ?_
  refine h_callSi (As := [.ref x, .int (xs 1), .int (xs 2), .ref ou]) (rest := []) ⟨hx, hb, hml, hown, hts⟩ hX hw (z_L_at l hl0 G L f _ x ou own r hz hoL hou hno (xs 1) (xs 2)) (h_cS 4 hts ul_23 ul_24 ul_25 ul_26 rfl rfl (by decide) (by decide)) hl.1 rfl (lv_room (Nat.le_of_ble_eq_true rfl)) dL_law_261 ⟨by show cells + 2 ≤ 600002; omega, by show slots + 12 ≤ 7302232; omega⟩ (fun r5 u1 H locs hp hw => ?_)
  obtain ⟨e5, h0, hwr⟩ := hp
  have hm1 : mZ G L u1 y ww dd ca := hm.keep (fun _ h => h) (hwr y ny ey) (hwr ww nw ew) (hwr dd nd ed) (hwr ca nc ec)
  obtain ⟨hyL, hwwL, hddL, hcaL, fsy, hfy⟩ := hm1.mems
  refine lv_istore (lv' := [(5, .int r5), (4, .int (nI 0)), (3, .ref ou), (2, .ref y), (1, .ref x), (0, .ref b)]) hx hb dL_law_264 hl (by decide) rfl (fun ls hl => ?_)
  refine lv_aload_n hx hb dL_law_266 rfl (lv_at hl 3 rfl) ?_
  refine lv_aload_n hx hb dL_law_267 rfl (lv_at hl 5 rfl) ?_
  refine lv_iload hx hb dL_law_268 (lv_at hl 1 rfl) ?_
  refine lv_iconst (v := nI 1) hx hb dL_law_270 (by decide) ?_
  refine lv_iadd hx hb dL_law_271 ?_
  refine w_ti (y := nI (0 + 1)) (nI_add _ _) ?_
  refine va_sld hx hb hXs hbl hbA hw.2.2.2.1 (i := nI (0 + 1)) (vp_in_nI (by decide) (by decide)) dL_law_272 ?_
  refine w_ti (y := xs 1) (by rw [nI_clamp (by decide)]) ?_
  refine lv_aload_n hx hb dL_law_273 rfl (lv_at hl 5 rfl) ?_
  refine lv_iload hx hb dL_law_274 (lv_at hl 1 rfl) ?_
  refine lv_iconst (v := nI 2) hx hb dL_law_276 (by decide) ?_
  refine lv_iadd hx hb dL_law_277 ?_
  refine w_ti (y := nI (0 + 2)) (nI_add _ _) ?_
  refine va_sld hx hb hXs hbl hbA hw.2.2.2.1 (i := nI (0 + 2)) (vp_in_nI (by decide) (by decide)) dL_law_278 ?_
  refine w_ti (y := xs 2) (by rw [nI_clamp (by decide)]) ?_
  refine w_callVi (lf := fun g => (L, g)) (As := [.int (xs 1), .int (xs 2)]) (rest := []) ⟨hx, hb, hml, hown, hts⟩ hw (z_X8_at l G L u1 _ y ww dd ca hm1 (xs 1) (xs 2)) hyL hfy rfl rfl (w_cV 2 hts ul_27 ul_28 ul_29 ul_30 ul_31 rfl rfl (by decide) (by decide)) hl.1 rfl (lv_room (Nat.le_of_ble_eq_true rfl)) dL_law_279 ⟨by show cells + 2 + 0 ≤ 600002; omega, by show slots + 12 + 0 ≤ 7302232; omega⟩ (fun r6 u2 H locs hq hw => ?_)
  have hw : wH G A s.heap s L u2 H locs := hw
  have hfin : (∃ fs2, u2 y = eO 8 fs2 ∧ fs2[3]? = some (.int r5)) ∧ (r5 = nI 0 → ∃ rr, u2 ou = eJ G 1 rr ∧ rr 0 = r6.toInt64) := by
    obtain ⟨h6, hmo⟩ := hq
    rw [← e5] at hmo
    refine ⟨hmo.1, fun h => ⟨_, (hmo.2 ou ey.symm ew.symm ed.symm ec.symm).trans (h0 h), ?_⟩⟩
    have hcd : (inB (xs 1) 80 && inB (xs 2) 11) = true := by
      rw [e5] at h
      revert h
      generalize inB (xs 1) 80 = B0
      generalize inB (xs 2) 11 = B1
      cases B0 <;> cases B1 <;> decide
    rw [h6 hcd]
    rfl
  obtain ⟨⟨fs2, hfy2, hth⟩, hans⟩ := hfin
  refine lv_istore (lv' := [(6, .int r6), (5, .int r5), (4, .int (nI 0)), (3, .ref ou), (2, .ref y), (1, .ref x), (0, .ref b)]) hx hb dL_law_282 hl (by decide) rfl (fun ls hl => ?_)
  refine lv_aload_n hx hb dL_law_284 rfl (lv_at hl 4 rfl) ?_
  refine w_callVi (lf := fun g => (L, g)) (As := []) (rest := []) ⟨hx, hb, hml, hown, hts⟩ hw (c_X8_thrown l G L u2 _ y fs2 hyL hfy2 r5 hth) hyL hfy2 rfl rfl (w_cV 0 hts ul_9 ul_10 ul_11 ul_12 ul_13 rfl rfl (by decide) (by decide)) hl.1 rfl (lv_room (Nat.le_of_ble_eq_true rfl)) dL_law_285 ⟨by show cells + 2 + 0 + 0 ≤ 600002; omega, by show slots + 12 + 0 + 0 ≤ 7302232; omega⟩ (fun r7 u3 H locs hq3 hw => ?_)
  obtain ⟨e7, e8⟩ := hq3
  have hw : wH G A s.heap s L u3 H locs := hw
  rw [e8] at hw
  refine w_ti (y := r5) e7 ?_
  refine lv_iload hx hb dL_law_288 (lv_at hl 1 rfl) ?_
  refine lv_icmp_eq (tgt := 295) hx hb dL_law_290 (by decide) (fun _ => ?_) (fun h => absurd rfl h)
  refine lv_iload hx hb dL_law_295 (lv_at hl 1 rfl) ?_
  refine lv_if_ne (tgt := 312) hx hb dL_law_297 (by decide) (fun h5 => ?_) (fun h5 => ?_)
  · skip
    refine lv_goto (tgt := 1103) hx hb dL_law_312 (by decide) ?_
    refine lv_iinc (v := nI 4) (lv' := [(4, .int (nI 4)), (6, .int r6), (5, .int r5), (3, .ref ou), (2, .ref y), (1, .ref x), (0, .ref b)]) hx hb dL_law_1103 hl (k := 2) rfl (by decide) (by decide) rfl (fun ls hl => ?_)
    refine lv_goto (tgt := 23) hx hb dL_law_1106 (by decide) ?_
    exact law_exit hx hb hr hml hown hts hlocks hXs hbl hbA hAh hw 4 (by decide) (by decide) (by decide) (by show cells + 2 + 0 + 0 ≤ 600002; omega) (by show slots + 12 + 0 + 0 ≤ 7302232; omega) ls (lv_sub hl [0, 6] rfl)
  · skip
    obtain ⟨rr, hrr, hr0⟩ := hans (by rw [nI_0]; exact h5)
    refine lv_aload_n hx hb dL_law_300 rfl (lv_at hl 3 rfl) ?_
    refine lv_iconst (v := nI 0) hx hb dL_law_301 (by decide) ?_
    refine n_lald hx hb hw hoL hrr 0 (by omega) (by omega) dL_law_302 ?_
    refine lv_iload hx hb dL_law_303 (lv_at hl 0 rfl) ?_
    refine lv_i2l (v := r6.toInt64) hx hb dL_law_305 rfl ?_
    refine n_lcmp_eq (tgt := 312) hx hb dL_law_306 dL_law_307 (by decide) (fun h6 => ?_) (fun h6 => ?_)
    · skip
      refine lv_goto (tgt := 1103) hx hb dL_law_312 (by decide) ?_
      refine lv_iinc (v := nI 4) (lv' := [(4, .int (nI 4)), (6, .int r6), (5, .int r5), (3, .ref ou), (2, .ref y), (1, .ref x), (0, .ref b)]) hx hb dL_law_1103 hl (k := 2) rfl (by decide) (by decide) rfl (fun ls hl => ?_)
      refine lv_goto (tgt := 23) hx hb dL_law_1106 (by decide) ?_
      exact law_exit hx hb hr hml hown hts hlocks hXs hbl hbA hAh hw 4 (by decide) (by decide) (by decide) (by show cells + 2 + 0 + 0 ≤ 600002; omega) (by show slots + 12 + 0 + 0 ≤ 7302232; omega) ls (lv_sub hl [0, 6] rfl)
    · skip
      exact absurd hr0 h6
set_option maxRecDepth 100000 in
set_option maxHeartbeats 4000000 in
theorem law_case_3 {p : Program} {l : Launch} {e : Env} {s : State} {m : MethodId} {below : List Frame} {meth : Method} {c : Code} {b : Nat} {xs : Nat → Int32} {G : gG} {A : Nat → Prop} {L : List Nat} {f : Nat → va_E} {H : Heap} {locs : List Loc} {cells slots x y ww dd ca ou : Nat} {own : Nat → Prop} {r : Nat → Int64} (hl0 : l.stackTraces = false) (hx : p.tables.exec = Jvm.exec) (hb : c.code = cL_law) (hr : meth.sig.returnType = ret) (hml : c.maxLocals = 7) (hown : s.vm.findClass RL = some m.cls) (hts : ∀ w ∈ uU, w.before #[Value.ref b] s = true) (hlocks : meth.locks = false) (hXs : va_X b 4 xs s s.heap) (hbl : b < s.heap.size) (hbA : ¬ A b) (hAh : ∀ q, A q → s.heap.size ≤ q) (hX : tX A s s.heap) (hw : wH G A s.heap s L f H locs) (hz : cZ G L f x own) (hm : mZ G L f y ww dd ca) (hoL : ou ∈ L) (hou : f ou = eJ G 1 r) (hno : ¬ own ou) (ny : ¬ own y) (nw : ¬ own ww) (nd : ¬ own dd) (nc : ¬ own ca) (ey : y ≠ ou) (ew : ww ≠ ou) (ed : dd ≠ ou) (ec : ca ≠ ou) (hc : cells ≤ 5000) (hs : slots ≤ 50000) : ∀ ls : Array Slot, lv_has ls 7 [(4, .int (nI 0)), (3, .ref ou), (2, .ref y), (1, .ref x), (0, .ref b)] → W p l e room_1 s m #[Value.ref b] below meth c H locs cells slots (lw_Z below #[Value.ref b] s)  (F0 m 315 ls []) := by
  intro ls hl
  refine lv_aload_n hx hb dL_law_315 rfl (lv_at hl 3 rfl) ?_
  refine lv_aload_n hx hb dL_law_316 rfl (lv_at hl 4 rfl) ?_
  refine lv_iload hx hb dL_law_317 (lv_at hl 0 rfl) ?_
  refine lv_iconst (v := nI 1) hx hb dL_law_319 (by decide) ?_
  refine lv_iadd hx hb dL_law_320 ?_
  refine w_ti (y := nI (0 + 1)) (nI_add _ _) ?_
  refine va_sld hx hb hXs hbl hbA hw.2.2.2.1 (i := nI (0 + 1)) (vp_in_nI (by decide) (by decide)) dL_law_321 ?_
  refine w_ti (y := xs 1) (by rw [nI_clamp (by decide)]) ?_
  refine lv_aload_n hx hb dL_law_322 rfl (lv_at hl 4 rfl) ?_
  refine lv_iload hx hb dL_law_323 (lv_at hl 0 rfl) ?_
  refine lv_iconst (v := nI 2) hx hb dL_law_325 (by decide) ?_
  refine lv_iadd hx hb dL_law_326 ?_
  refine w_ti (y := nI (0 + 2)) (nI_add _ _) ?_
  refine va_sld hx hb hXs hbl hbA hw.2.2.2.1 (i := nI (0 + 2)) (vp_in_nI (by decide) (by decide)) dL_law_327 ?_
  refine w_ti (y := xs 2) (by rw [nI_clamp (by decide)]) ?_
  refine lv_aload_n hx hb dL_law_328 rfl (lv_at hl 1 rfl) ?_
  refine h_callSi (As := [.ref x, .int (xs 1), .int (xs 2), .ref ou]) (rest := []) ⟨hx, hb, hml, hown, hts⟩ hX hw (z_L_times l hl0 G L f _ x ou own r hz hoL hou hno (xs 1) (xs 2)) (h_cS 4 hts ul_32 ul_33 ul_34 ul_35 rfl rfl (by decide) (by decide)) hl.1 rfl (lv_room (Nat.le_of_ble_eq_true rfl)) dL_law_329 ⟨by show cells + 2 ≤ 600002; omega, by show slots + 12 ≤ 7302232; omega⟩ (fun r5 u1 H locs hp hw => ?_)
  obtain ⟨e5, h0, hwr⟩ := hp
  have hm1 : mZ G L u1 y ww dd ca := hm.keep (fun _ h => h) (hwr y ny ey) (hwr ww nw ew) (hwr dd nd ed) (hwr ca nc ec)
  obtain ⟨hyL, hwwL, hddL, hcaL, fsy, hfy⟩ := hm1.mems
  refine lv_istore (lv' := [(5, .int r5), (4, .int (nI 0)), (3, .ref ou), (2, .ref y), (1, .ref x), (0, .ref b)]) hx hb dL_law_332 hl (by decide) rfl (fun ls hl => ?_)
  refine lv_aload_n hx hb dL_law_334 rfl (lv_at hl 3 rfl) ?_
  refine lv_aload_n hx hb dL_law_335 rfl (lv_at hl 5 rfl) ?_
  refine lv_iload hx hb dL_law_336 (lv_at hl 1 rfl) ?_
  refine lv_iconst (v := nI 1) hx hb dL_law_338 (by decide) ?_
  refine lv_iadd hx hb dL_law_339 ?_
  refine w_ti (y := nI (0 + 1)) (nI_add _ _) ?_
  refine va_sld hx hb hXs hbl hbA hw.2.2.2.1 (i := nI (0 + 1)) (vp_in_nI (by decide) (by decide)) dL_law_340 ?_
  refine w_ti (y := xs 1) (by rw [nI_clamp (by decide)]) ?_
  refine lv_aload_n hx hb dL_law_341 rfl (lv_at hl 5 rfl) ?_
  refine lv_iload hx hb dL_law_342 (lv_at hl 1 rfl) ?_
  refine lv_iconst (v := nI 2) hx hb dL_law_344 (by decide) ?_
  refine lv_iadd hx hb dL_law_345 ?_
  refine w_ti (y := nI (0 + 2)) (nI_add _ _) ?_
  refine va_sld hx hb hXs hbl hbA hw.2.2.2.1 (i := nI (0 + 2)) (vp_in_nI (by decide) (by decide)) dL_law_346 ?_
  refine w_ti (y := xs 2) (by rw [nI_clamp (by decide)]) ?_
  refine w_callVi (lf := fun g => (L, g)) (As := [.int (xs 1), .int (xs 2)]) (rest := []) ⟨hx, hb, hml, hown, hts⟩ hw (z_X8_times l G L u1 _ y ww dd ca hm1 (xs 1) (xs 2)) hyL hfy rfl rfl (w_cV 2 hts ul_36 ul_37 ul_38 ul_39 ul_40 rfl rfl (by decide) (by decide)) hl.1 rfl (lv_room (Nat.le_of_ble_eq_true rfl)) dL_law_347 ⟨by show cells + 2 + 0 ≤ 600002; omega, by show slots + 12 + 0 ≤ 7302232; omega⟩ (fun r6 u2 H locs hq hw => ?_)
  have hw : wH G A s.heap s L u2 H locs := hw
  have hfin : (∃ fs2, u2 y = eO 8 fs2 ∧ fs2[3]? = some (.int r5)) ∧ (r5 = nI 0 → ∃ rr, u2 ou = eJ G 1 rr ∧ rr 0 = r6.toInt64) := by
    rcases hq with ⟨hcd, h6, hmo⟩ | ⟨hcd, hmo⟩
    · rw [hcd] at e5
      have e5 : r5 = nI 0 := e5
      rw [← e5] at hmo
      exact ⟨hmo.1, fun h => ⟨_, (hmo.2 ou ey.symm ew.symm ed.symm ec.symm).trans (h0 h), by rw [h6]; rfl⟩⟩
    · rw [hcd] at e5
      have e5 : r5 = nI 1 := e5
      rw [← e5] at hmo
      exact ⟨hmo.1, fun h => absurd (e5.symm.trans h) (by decide)⟩
  obtain ⟨⟨fs2, hfy2, hth⟩, hans⟩ := hfin
  refine lv_istore (lv' := [(6, .int r6), (5, .int r5), (4, .int (nI 0)), (3, .ref ou), (2, .ref y), (1, .ref x), (0, .ref b)]) hx hb dL_law_350 hl (by decide) rfl (fun ls hl => ?_)
  refine lv_aload_n hx hb dL_law_352 rfl (lv_at hl 4 rfl) ?_
  refine w_callVi (lf := fun g => (L, g)) (As := []) (rest := []) ⟨hx, hb, hml, hown, hts⟩ hw (c_X8_thrown l G L u2 _ y fs2 hyL hfy2 r5 hth) hyL hfy2 rfl rfl (w_cV 0 hts ul_9 ul_10 ul_11 ul_12 ul_13 rfl rfl (by decide) (by decide)) hl.1 rfl (lv_room (Nat.le_of_ble_eq_true rfl)) dL_law_353 ⟨by show cells + 2 + 0 + 0 ≤ 600002; omega, by show slots + 12 + 0 + 0 ≤ 7302232; omega⟩ (fun r7 u3 H locs hq3 hw => ?_)
  obtain ⟨e7, e8⟩ := hq3
  have hw : wH G A s.heap s L u3 H locs := hw
  rw [e8] at hw
  refine w_ti (y := r5) e7 ?_
  refine lv_iload hx hb dL_law_356 (lv_at hl 1 rfl) ?_
  refine lv_icmp_eq (tgt := 363) hx hb dL_law_358 (by decide) (fun _ => ?_) (fun h => absurd rfl h)
  refine lv_iload hx hb dL_law_363 (lv_at hl 1 rfl) ?_
  refine lv_if_ne (tgt := 380) hx hb dL_law_365 (by decide) (fun h5 => ?_) (fun h5 => ?_)
  · skip
    refine lv_goto (tgt := 1103) hx hb dL_law_380 (by decide) ?_
    refine lv_iinc (v := nI 4) (lv' := [(4, .int (nI 4)), (6, .int r6), (5, .int r5), (3, .ref ou), (2, .ref y), (1, .ref x), (0, .ref b)]) hx hb dL_law_1103 hl (k := 2) rfl (by decide) (by decide) rfl (fun ls hl => ?_)
    refine lv_goto (tgt := 23) hx hb dL_law_1106 (by decide) ?_
    exact law_exit hx hb hr hml hown hts hlocks hXs hbl hbA hAh hw 4 (by decide) (by decide) (by decide) (by show cells + 2 + 0 + 0 ≤ 600002; omega) (by show slots + 12 + 0 + 0 ≤ 7302232; omega) ls (lv_sub hl [0, 6] rfl)
  · skip
    obtain ⟨rr, hrr, hr0⟩ := hans (by rw [nI_0]; exact h5)
    refine lv_aload_n hx hb dL_law_368 rfl (lv_at hl 3 rfl) ?_
    refine lv_iconst (v := nI 0) hx hb dL_law_369 (by decide) ?_
    refine n_lald hx hb hw hoL hrr 0 (by omega) (by omega) dL_law_370 ?_
    refine lv_iload hx hb dL_law_371 (lv_at hl 0 rfl) ?_
    refine lv_i2l (v := r6.toInt64) hx hb dL_law_373 rfl ?_
    refine n_lcmp_eq (tgt := 380) hx hb dL_law_374 dL_law_375 (by decide) (fun h6 => ?_) (fun h6 => ?_)
    · skip
      refine lv_goto (tgt := 1103) hx hb dL_law_380 (by decide) ?_
      refine lv_iinc (v := nI 4) (lv' := [(4, .int (nI 4)), (6, .int r6), (5, .int r5), (3, .ref ou), (2, .ref y), (1, .ref x), (0, .ref b)]) hx hb dL_law_1103 hl (k := 2) rfl (by decide) (by decide) rfl (fun ls hl => ?_)
      refine lv_goto (tgt := 23) hx hb dL_law_1106 (by decide) ?_
      exact law_exit hx hb hr hml hown hts hlocks hXs hbl hbA hAh hw 4 (by decide) (by decide) (by decide) (by show cells + 2 + 0 + 0 ≤ 600002; omega) (by show slots + 12 + 0 + 0 ≤ 7302232; omega) ls (lv_sub hl [0, 6] rfl)
    · skip
      exact absurd hr0 h6
set_option maxRecDepth 100000 in
set_option maxHeartbeats 4000000 in
theorem law_case_4 {p : Program} {l : Launch} {e : Env} {s : State} {m : MethodId} {below : List Frame} {meth : Method} {c : Code} {b : Nat} {xs : Nat → Int32} {G : gG} {A : Nat → Prop} {L : List Nat} {f : Nat → va_E} {H : Heap} {locs : List Loc} {cells slots x y ww dd ca ou : Nat} {own : Nat → Prop} {r : Nat → Int64} (hl0 : l.stackTraces = false) (hx : p.tables.exec = Jvm.exec) (hb : c.code = cL_law) (hr : meth.sig.returnType = ret) (hml : c.maxLocals = 7) (hown : s.vm.findClass RL = some m.cls) (hts : ∀ w ∈ uU, w.before #[Value.ref b] s = true) (hlocks : meth.locks = false) (hXs : va_X b 4 xs s s.heap) (hbl : b < s.heap.size) (hbA : ¬ A b) (hAh : ∀ q, A q → s.heap.size ≤ q) (hX : tX A s s.heap) (hw : wH G A s.heap s L f H locs) (hz : cZ G L f x own) (hm : mZ G L f y ww dd ca) (hoL : ou ∈ L) (hou : f ou = eJ G 1 r) (hno : ¬ own ou) (ny : ¬ own y) (nw : ¬ own ww) (nd : ¬ own dd) (nc : ¬ own ca) (ey : y ≠ ou) (ew : ww ≠ ou) (ed : dd ≠ ou) (ec : ca ≠ ou) (hc : cells ≤ 5000) (hs : slots ≤ 50000) : ∀ ls : Array Slot, lv_has ls 7 [(4, .int (nI 0)), (3, .ref ou), (2, .ref y), (1, .ref x), (0, .ref b)] → W p l e room_1 s m #[Value.ref b] below meth c H locs cells slots (lw_Z below #[Value.ref b] s)  (F0 m 383 ls []) := by
  intro ls hl
  refine lv_aload_n hx hb dL_law_383 rfl (lv_at hl 3 rfl) ?_
  refine lv_aload_n hx hb dL_law_384 rfl (lv_at hl 4 rfl) ?_
  refine lv_iload hx hb dL_law_385 (lv_at hl 0 rfl) ?_
  refine lv_iconst (v := nI 1) hx hb dL_law_387 (by decide) ?_
  refine lv_iadd hx hb dL_law_388 ?_
  refine w_ti (y := nI (0 + 1)) (nI_add _ _) ?_
  refine va_sld hx hb hXs hbl hbA hw.2.2.2.1 (i := nI (0 + 1)) (vp_in_nI (by decide) (by decide)) dL_law_389 ?_
  refine w_ti (y := xs 1) (by rw [nI_clamp (by decide)]) ?_
  refine lv_aload_n hx hb dL_law_390 rfl (lv_at hl 4 rfl) ?_
  refine lv_iload hx hb dL_law_391 (lv_at hl 0 rfl) ?_
  refine lv_iconst (v := nI 2) hx hb dL_law_393 (by decide) ?_
  refine lv_iadd hx hb dL_law_394 ?_
  refine w_ti (y := nI (0 + 2)) (nI_add _ _) ?_
  refine va_sld hx hb hXs hbl hbA hw.2.2.2.1 (i := nI (0 + 2)) (vp_in_nI (by decide) (by decide)) dL_law_395 ?_
  refine w_ti (y := xs 2) (by rw [nI_clamp (by decide)]) ?_
  refine lv_aload_n hx hb dL_law_396 rfl (lv_at hl 1 rfl) ?_
  refine h_callSi (As := [.ref x, .int (xs 1), .int (xs 2), .ref ou]) (rest := []) ⟨hx, hb, hml, hown, hts⟩ hX hw (z_L_over l hl0 G L f _ x ou own r hz hoL hou hno (xs 1) (xs 2)) (h_cS 4 hts ul_41 ul_42 ul_43 ul_44 rfl rfl (by decide) (by decide)) hl.1 rfl (lv_room (Nat.le_of_ble_eq_true rfl)) dL_law_397 ⟨by show cells + 3 ≤ 600002; omega, by show slots + 18 ≤ 7302232; omega⟩ (fun r5 u1 H locs hp hw => ?_)
  obtain ⟨e5, h0, hwr⟩ := hp
  have hm1 : mZ G L u1 y ww dd ca := hm.keep (fun _ h => h) (hwr y ny ey) (hwr ww nw ew) (hwr dd nd ed) (hwr ca nc ec)
  obtain ⟨hyL, hwwL, hddL, hcaL, fsy, hfy⟩ := hm1.mems
  refine lv_istore (lv' := [(5, .int r5), (4, .int (nI 0)), (3, .ref ou), (2, .ref y), (1, .ref x), (0, .ref b)]) hx hb dL_law_400 hl (by decide) rfl (fun ls hl => ?_)
  refine lv_aload_n hx hb dL_law_402 rfl (lv_at hl 3 rfl) ?_
  refine lv_aload_n hx hb dL_law_403 rfl (lv_at hl 5 rfl) ?_
  refine lv_iload hx hb dL_law_404 (lv_at hl 1 rfl) ?_
  refine lv_iconst (v := nI 1) hx hb dL_law_406 (by decide) ?_
  refine lv_iadd hx hb dL_law_407 ?_
  refine w_ti (y := nI (0 + 1)) (nI_add _ _) ?_
  refine va_sld hx hb hXs hbl hbA hw.2.2.2.1 (i := nI (0 + 1)) (vp_in_nI (by decide) (by decide)) dL_law_408 ?_
  refine w_ti (y := xs 1) (by rw [nI_clamp (by decide)]) ?_
  refine lv_aload_n hx hb dL_law_409 rfl (lv_at hl 5 rfl) ?_
  refine lv_iload hx hb dL_law_410 (lv_at hl 1 rfl) ?_
  refine lv_iconst (v := nI 2) hx hb dL_law_412 (by decide) ?_
  refine lv_iadd hx hb dL_law_413 ?_
  refine w_ti (y := nI (0 + 2)) (nI_add _ _) ?_
  refine va_sld hx hb hXs hbl hbA hw.2.2.2.1 (i := nI (0 + 2)) (vp_in_nI (by decide) (by decide)) dL_law_414 ?_
  refine w_ti (y := xs 2) (by rw [nI_clamp (by decide)]) ?_
  refine w_callVi (lf := fun g => (L, g)) (As := [.int (xs 1), .int (xs 2)]) (rest := []) ⟨hx, hb, hml, hown, hts⟩ hw (z_X8_over l G L u1 _ y ww dd ca hm1 (xs 1) (xs 2)) hyL hfy rfl rfl (w_cV 2 hts ul_45 ul_46 ul_47 ul_48 ul_49 rfl rfl (by decide) (by decide)) hl.1 rfl (lv_room (Nat.le_of_ble_eq_true rfl)) dL_law_415 ⟨by show cells + 3 + 0 ≤ 600002; omega, by show slots + 18 + 0 ≤ 7302232; omega⟩ (fun r6 u2 H locs hq hw => ?_)
  have hw : wH G A s.heap s L u2 H locs := hw
  have hfin : (∃ fs2, u2 y = eO 8 fs2 ∧ fs2[3]? = some (.int r5)) ∧ (r5 = nI 0 → ∃ rr, u2 ou = eJ G 1 rr ∧ rr 0 = r6.toInt64) := by
    rcases hq with ⟨hcd, hmo⟩ | ⟨hcd, hmo⟩
    · rw [hcd] at e5
      have e5 : r5 = nI 3 := e5
      rw [← e5] at hmo
      exact ⟨hmo.1, fun h => absurd (e5.symm.trans h) (by decide)⟩
    · rw [hcd] at e5
      have e5 : r5 = nI 1 := e5
      rw [← e5] at hmo
      exact ⟨hmo.1, fun h => absurd (e5.symm.trans h) (by decide)⟩
  obtain ⟨⟨fs2, hfy2, hth⟩, hans⟩ := hfin
  refine lv_istore (lv' := [(6, .int r6), (5, .int r5), (4, .int (nI 0)), (3, .ref ou), (2, .ref y), (1, .ref x), (0, .ref b)]) hx hb dL_law_418 hl (by decide) rfl (fun ls hl => ?_)
  refine lv_aload_n hx hb dL_law_420 rfl (lv_at hl 4 rfl) ?_
  refine w_callVi (lf := fun g => (L, g)) (As := []) (rest := []) ⟨hx, hb, hml, hown, hts⟩ hw (c_X8_thrown l G L u2 _ y fs2 hyL hfy2 r5 hth) hyL hfy2 rfl rfl (w_cV 0 hts ul_9 ul_10 ul_11 ul_12 ul_13 rfl rfl (by decide) (by decide)) hl.1 rfl (lv_room (Nat.le_of_ble_eq_true rfl)) dL_law_421 ⟨by show cells + 3 + 0 + 0 ≤ 600002; omega, by show slots + 18 + 0 + 0 ≤ 7302232; omega⟩ (fun r7 u3 H locs hq3 hw => ?_)
  obtain ⟨e7, e8⟩ := hq3
  have hw : wH G A s.heap s L u3 H locs := hw
  rw [e8] at hw
  refine w_ti (y := r5) e7 ?_
  refine lv_iload hx hb dL_law_424 (lv_at hl 1 rfl) ?_
  refine lv_icmp_eq (tgt := 431) hx hb dL_law_426 (by decide) (fun _ => ?_) (fun h => absurd rfl h)
  refine lv_iload hx hb dL_law_431 (lv_at hl 1 rfl) ?_
  refine lv_if_ne (tgt := 448) hx hb dL_law_433 (by decide) (fun h5 => ?_) (fun h5 => ?_)
  · skip
    refine lv_goto (tgt := 1103) hx hb dL_law_448 (by decide) ?_
    refine lv_iinc (v := nI 4) (lv' := [(4, .int (nI 4)), (6, .int r6), (5, .int r5), (3, .ref ou), (2, .ref y), (1, .ref x), (0, .ref b)]) hx hb dL_law_1103 hl (k := 2) rfl (by decide) (by decide) rfl (fun ls hl => ?_)
    refine lv_goto (tgt := 23) hx hb dL_law_1106 (by decide) ?_
    exact law_exit hx hb hr hml hown hts hlocks hXs hbl hbA hAh hw 4 (by decide) (by decide) (by decide) (by show cells + 3 + 0 + 0 ≤ 600002; omega) (by show slots + 18 + 0 + 0 ≤ 7302232; omega) ls (lv_sub hl [0, 6] rfl)
  · skip
    obtain ⟨rr, hrr, hr0⟩ := hans (by rw [nI_0]; exact h5)
    refine lv_aload_n hx hb dL_law_436 rfl (lv_at hl 3 rfl) ?_
    refine lv_iconst (v := nI 0) hx hb dL_law_437 (by decide) ?_
    refine n_lald hx hb hw hoL hrr 0 (by omega) (by omega) dL_law_438 ?_
    refine lv_iload hx hb dL_law_439 (lv_at hl 0 rfl) ?_
    refine lv_i2l (v := r6.toInt64) hx hb dL_law_441 rfl ?_
    refine n_lcmp_eq (tgt := 448) hx hb dL_law_442 dL_law_443 (by decide) (fun h6 => ?_) (fun h6 => ?_)
    · skip
      refine lv_goto (tgt := 1103) hx hb dL_law_448 (by decide) ?_
      refine lv_iinc (v := nI 4) (lv' := [(4, .int (nI 4)), (6, .int r6), (5, .int r5), (3, .ref ou), (2, .ref y), (1, .ref x), (0, .ref b)]) hx hb dL_law_1103 hl (k := 2) rfl (by decide) (by decide) rfl (fun ls hl => ?_)
      refine lv_goto (tgt := 23) hx hb dL_law_1106 (by decide) ?_
      exact law_exit hx hb hr hml hown hts hlocks hXs hbl hbA hAh hw 4 (by decide) (by decide) (by decide) (by show cells + 3 + 0 + 0 ≤ 600002; omega) (by show slots + 18 + 0 + 0 ≤ 7302232; omega) ls (lv_sub hl [0, 6] rfl)
    · skip
      exact absurd hr0 h6
set_option maxRecDepth 100000 in
set_option maxHeartbeats 4000000 in
theorem law_case_5 {p : Program} {l : Launch} {e : Env} {s : State} {m : MethodId} {below : List Frame} {meth : Method} {c : Code} {b : Nat} {xs : Nat → Int32} {G : gG} {A : Nat → Prop} {L : List Nat} {f : Nat → va_E} {H : Heap} {locs : List Loc} {cells slots x y ww dd ca ou : Nat} {own : Nat → Prop} {r : Nat → Int64} (hl0 : l.stackTraces = false) (hx : p.tables.exec = Jvm.exec) (hb : c.code = cL_law) (hr : meth.sig.returnType = ret) (hml : c.maxLocals = 7) (hown : s.vm.findClass RL = some m.cls) (hts : ∀ w ∈ uU, w.before #[Value.ref b] s = true) (hlocks : meth.locks = false) (hXs : va_X b 4 xs s s.heap) (hbl : b < s.heap.size) (hbA : ¬ A b) (hAh : ∀ q, A q → s.heap.size ≤ q) (hX : tX A s s.heap) (hw : wH G A s.heap s L f H locs) (hz : cZ G L f x own) (hm : mZ G L f y ww dd ca) (hoL : ou ∈ L) (hou : f ou = eJ G 1 r) (hno : ¬ own ou) (ny : ¬ own y) (nw : ¬ own ww) (nd : ¬ own dd) (nc : ¬ own ca) (ey : y ≠ ou) (ew : ww ≠ ou) (ed : dd ≠ ou) (ec : ca ≠ ou) (hc : cells ≤ 5000) (hs : slots ≤ 50000) : ∀ ls : Array Slot, lv_has ls 7 [(4, .int (nI 0)), (3, .ref ou), (2, .ref y), (1, .ref x), (0, .ref b)] → W p l e room_1 s m #[Value.ref b] below meth c H locs cells slots (lw_Z below #[Value.ref b] s)  (F0 m 451 ls []) := by
  intro ls hl
  refine lv_aload_n hx hb dL_law_451 rfl (lv_at hl 3 rfl) ?_
  refine lv_aload_n hx hb dL_law_452 rfl (lv_at hl 4 rfl) ?_
  refine lv_iload hx hb dL_law_453 (lv_at hl 0 rfl) ?_
  refine lv_iconst (v := nI 1) hx hb dL_law_455 (by decide) ?_
  refine lv_iadd hx hb dL_law_456 ?_
  refine w_ti (y := nI (0 + 1)) (nI_add _ _) ?_
  refine va_sld hx hb hXs hbl hbA hw.2.2.2.1 (i := nI (0 + 1)) (vp_in_nI (by decide) (by decide)) dL_law_457 ?_
  refine w_ti (y := xs 1) (by rw [nI_clamp (by decide)]) ?_
  refine lv_aload_n hx hb dL_law_458 rfl (lv_at hl 4 rfl) ?_
  refine lv_iload hx hb dL_law_459 (lv_at hl 0 rfl) ?_
  refine lv_iconst (v := nI 2) hx hb dL_law_461 (by decide) ?_
  refine lv_iadd hx hb dL_law_462 ?_
  refine w_ti (y := nI (0 + 2)) (nI_add _ _) ?_
  refine va_sld hx hb hXs hbl hbA hw.2.2.2.1 (i := nI (0 + 2)) (vp_in_nI (by decide) (by decide)) dL_law_463 ?_
  refine w_ti (y := xs 2) (by rw [nI_clamp (by decide)]) ?_
  refine lv_aload_n hx hb dL_law_464 rfl (lv_at hl 1 rfl) ?_
  refine h_callSi (As := [.ref x, .int (xs 1), .int (xs 2), .ref ou]) (rest := []) ⟨hx, hb, hml, hown, hts⟩ hX hw (z_L_gcd l hl0 G L f _ x ou own r hz hoL hou hno (xs 1) (xs 2)) (h_cS 4 hts ul_50 ul_51 ul_52 ul_53 rfl rfl (by decide) (by decide)) hl.1 rfl (lv_room (Nat.le_of_ble_eq_true rfl)) dL_law_465 ⟨by show cells + 2 ≤ 600002; omega, by show slots + 12 ≤ 7302232; omega⟩ (fun r5 u1 H locs hp hw => ?_)
  obtain ⟨e5, h0, hwr⟩ := hp
  have hm1 : mZ G L u1 y ww dd ca := hm.keep (fun _ h => h) (hwr y ny ey) (hwr ww nw ew) (hwr dd nd ed) (hwr ca nc ec)
  obtain ⟨hyL, hwwL, hddL, hcaL, fsy, hfy⟩ := hm1.mems
  refine lv_istore (lv' := [(5, .int r5), (4, .int (nI 0)), (3, .ref ou), (2, .ref y), (1, .ref x), (0, .ref b)]) hx hb dL_law_468 hl (by decide) rfl (fun ls hl => ?_)
  refine lv_aload_n hx hb dL_law_470 rfl (lv_at hl 3 rfl) ?_
  refine lv_aload_n hx hb dL_law_471 rfl (lv_at hl 5 rfl) ?_
  refine lv_iload hx hb dL_law_472 (lv_at hl 1 rfl) ?_
  refine lv_iconst (v := nI 1) hx hb dL_law_474 (by decide) ?_
  refine lv_iadd hx hb dL_law_475 ?_
  refine w_ti (y := nI (0 + 1)) (nI_add _ _) ?_
  refine va_sld hx hb hXs hbl hbA hw.2.2.2.1 (i := nI (0 + 1)) (vp_in_nI (by decide) (by decide)) dL_law_476 ?_
  refine w_ti (y := xs 1) (by rw [nI_clamp (by decide)]) ?_
  refine lv_aload_n hx hb dL_law_477 rfl (lv_at hl 5 rfl) ?_
  refine lv_iload hx hb dL_law_478 (lv_at hl 1 rfl) ?_
  refine lv_iconst (v := nI 2) hx hb dL_law_480 (by decide) ?_
  refine lv_iadd hx hb dL_law_481 ?_
  refine w_ti (y := nI (0 + 2)) (nI_add _ _) ?_
  refine va_sld hx hb hXs hbl hbA hw.2.2.2.1 (i := nI (0 + 2)) (vp_in_nI (by decide) (by decide)) dL_law_482 ?_
  refine w_ti (y := xs 2) (by rw [nI_clamp (by decide)]) ?_
  refine w_callVi (lf := fun g => (L, g)) (As := [.int (xs 1), .int (xs 2)]) (rest := []) ⟨hx, hb, hml, hown, hts⟩ hw (z_X8_gcd l G L u1 _ y ww dd ca hm1 (xs 1) (xs 2)) hyL hfy rfl rfl (w_cV 2 hts ul_54 ul_55 ul_56 ul_57 ul_58 rfl rfl (by decide) (by decide)) hl.1 rfl (lv_room (Nat.le_of_ble_eq_true rfl)) dL_law_483 ⟨by show cells + 2 + 0 ≤ 600002; omega, by show slots + 12 + 0 ≤ 7302232; omega⟩ (fun r6 u2 H locs hq hw => ?_)
  have hw : wH G A s.heap s L u2 H locs := hw
  have hfin : (∃ fs2, u2 y = eO 8 fs2 ∧ fs2[3]? = some (.int r5)) ∧ (r5 = nI 0 → ∃ rr, u2 ou = eJ G 1 rr ∧ rr 0 = r6.toInt64) := by
    rcases hq with ⟨hcd, h6, hmo⟩ | ⟨hcd, hmo⟩
    · rw [hcd] at e5
      have e5 : r5 = nI 0 := e5
      rw [← e5] at hmo
      exact ⟨hmo.1, fun h => ⟨_, (hmo.2 ou ey.symm ew.symm ed.symm ec.symm).trans (h0 h), by rw [h6]; rfl⟩⟩
    · rw [hcd] at e5
      have e5 : r5 = nI 1 := e5
      rw [← e5] at hmo
      exact ⟨hmo.1, fun h => absurd (e5.symm.trans h) (by decide)⟩
  obtain ⟨⟨fs2, hfy2, hth⟩, hans⟩ := hfin
  refine lv_istore (lv' := [(6, .int r6), (5, .int r5), (4, .int (nI 0)), (3, .ref ou), (2, .ref y), (1, .ref x), (0, .ref b)]) hx hb dL_law_486 hl (by decide) rfl (fun ls hl => ?_)
  refine lv_aload_n hx hb dL_law_488 rfl (lv_at hl 4 rfl) ?_
  refine w_callVi (lf := fun g => (L, g)) (As := []) (rest := []) ⟨hx, hb, hml, hown, hts⟩ hw (c_X8_thrown l G L u2 _ y fs2 hyL hfy2 r5 hth) hyL hfy2 rfl rfl (w_cV 0 hts ul_9 ul_10 ul_11 ul_12 ul_13 rfl rfl (by decide) (by decide)) hl.1 rfl (lv_room (Nat.le_of_ble_eq_true rfl)) dL_law_489 ⟨by show cells + 2 + 0 + 0 ≤ 600002; omega, by show slots + 12 + 0 + 0 ≤ 7302232; omega⟩ (fun r7 u3 H locs hq3 hw => ?_)
  obtain ⟨e7, e8⟩ := hq3
  have hw : wH G A s.heap s L u3 H locs := hw
  rw [e8] at hw
  refine w_ti (y := r5) e7 ?_
  refine lv_iload hx hb dL_law_492 (lv_at hl 1 rfl) ?_
  refine lv_icmp_eq (tgt := 499) hx hb dL_law_494 (by decide) (fun _ => ?_) (fun h => absurd rfl h)
  refine lv_iload hx hb dL_law_499 (lv_at hl 1 rfl) ?_
  refine lv_if_ne (tgt := 516) hx hb dL_law_501 (by decide) (fun h5 => ?_) (fun h5 => ?_)
  · skip
    refine lv_goto (tgt := 1103) hx hb dL_law_516 (by decide) ?_
    refine lv_iinc (v := nI 4) (lv' := [(4, .int (nI 4)), (6, .int r6), (5, .int r5), (3, .ref ou), (2, .ref y), (1, .ref x), (0, .ref b)]) hx hb dL_law_1103 hl (k := 2) rfl (by decide) (by decide) rfl (fun ls hl => ?_)
    refine lv_goto (tgt := 23) hx hb dL_law_1106 (by decide) ?_
    exact law_exit hx hb hr hml hown hts hlocks hXs hbl hbA hAh hw 4 (by decide) (by decide) (by decide) (by show cells + 2 + 0 + 0 ≤ 600002; omega) (by show slots + 12 + 0 + 0 ≤ 7302232; omega) ls (lv_sub hl [0, 6] rfl)
  · skip
    obtain ⟨rr, hrr, hr0⟩ := hans (by rw [nI_0]; exact h5)
    refine lv_aload_n hx hb dL_law_504 rfl (lv_at hl 3 rfl) ?_
    refine lv_iconst (v := nI 0) hx hb dL_law_505 (by decide) ?_
    refine n_lald hx hb hw hoL hrr 0 (by omega) (by omega) dL_law_506 ?_
    refine lv_iload hx hb dL_law_507 (lv_at hl 0 rfl) ?_
    refine lv_i2l (v := r6.toInt64) hx hb dL_law_509 rfl ?_
    refine n_lcmp_eq (tgt := 516) hx hb dL_law_510 dL_law_511 (by decide) (fun h6 => ?_) (fun h6 => ?_)
    · skip
      refine lv_goto (tgt := 1103) hx hb dL_law_516 (by decide) ?_
      refine lv_iinc (v := nI 4) (lv' := [(4, .int (nI 4)), (6, .int r6), (5, .int r5), (3, .ref ou), (2, .ref y), (1, .ref x), (0, .ref b)]) hx hb dL_law_1103 hl (k := 2) rfl (by decide) (by decide) rfl (fun ls hl => ?_)
      refine lv_goto (tgt := 23) hx hb dL_law_1106 (by decide) ?_
      exact law_exit hx hb hr hml hown hts hlocks hXs hbl hbA hAh hw 4 (by decide) (by decide) (by decide) (by show cells + 2 + 0 + 0 ≤ 600002; omega) (by show slots + 12 + 0 + 0 ≤ 7302232; omega) ls (lv_sub hl [0, 6] rfl)
    · skip
      exact absurd hr0 h6
set_option maxRecDepth 100000 in
set_option maxHeartbeats 4000000 in
theorem law_case_6 {p : Program} {l : Launch} {e : Env} {s : State} {m : MethodId} {below : List Frame} {meth : Method} {c : Code} {b : Nat} {xs : Nat → Int32} {G : gG} {A : Nat → Prop} {L : List Nat} {f : Nat → va_E} {H : Heap} {locs : List Loc} {cells slots x y ww dd ca ou : Nat} {own : Nat → Prop} {r : Nat → Int64} (hl0 : l.stackTraces = false) (hx : p.tables.exec = Jvm.exec) (hb : c.code = cL_law) (hr : meth.sig.returnType = ret) (hml : c.maxLocals = 7) (hown : s.vm.findClass RL = some m.cls) (hts : ∀ w ∈ uU, w.before #[Value.ref b] s = true) (hlocks : meth.locks = false) (hXs : va_X b 4 xs s s.heap) (hbl : b < s.heap.size) (hbA : ¬ A b) (hAh : ∀ q, A q → s.heap.size ≤ q) (hX : tX A s s.heap) (hw : wH G A s.heap s L f H locs) (hz : cZ G L f x own) (hm : mZ G L f y ww dd ca) (hoL : ou ∈ L) (hou : f ou = eJ G 1 r) (hno : ¬ own ou) (ny : ¬ own y) (nw : ¬ own ww) (nd : ¬ own dd) (nc : ¬ own ca) (ey : y ≠ ou) (ew : ww ≠ ou) (ed : dd ≠ ou) (ec : ca ≠ ou) (hc : cells ≤ 5000) (hs : slots ≤ 50000) : ∀ ls : Array Slot, lv_has ls 7 [(4, .int (nI 0)), (3, .ref ou), (2, .ref y), (1, .ref x), (0, .ref b)] → W p l e room_1 s m #[Value.ref b] below meth c H locs cells slots (lw_Z below #[Value.ref b] s)  (F0 m 519 ls []) := by
  intro ls hl
  refine lv_aload_n hx hb dL_law_519 rfl (lv_at hl 3 rfl) ?_
  refine lv_aload_n hx hb dL_law_520 rfl (lv_at hl 4 rfl) ?_
  refine lv_iload hx hb dL_law_521 (lv_at hl 0 rfl) ?_
  refine lv_iconst (v := nI 1) hx hb dL_law_523 (by decide) ?_
  refine lv_iadd hx hb dL_law_524 ?_
  refine w_ti (y := nI (0 + 1)) (nI_add _ _) ?_
  refine va_sld hx hb hXs hbl hbA hw.2.2.2.1 (i := nI (0 + 1)) (vp_in_nI (by decide) (by decide)) dL_law_525 ?_
  refine w_ti (y := xs 1) (by rw [nI_clamp (by decide)]) ?_
  refine lv_aload_n hx hb dL_law_526 rfl (lv_at hl 1 rfl) ?_
  refine h_callSi (As := [.ref x, .int (xs 1), .ref ou]) (rest := []) ⟨hx, hb, hml, hown, hts⟩ hX hw (z_L_run l hl0 G L f _ x ou own r hz hoL hou hno (xs 1)) (h_cS 3 hts ul_59 ul_60 ul_61 ul_62 rfl rfl (by decide) (by decide)) hl.1 rfl (lv_room (Nat.le_of_ble_eq_true rfl)) dL_law_527 ⟨by show cells + 1 ≤ 600002; omega, by show slots + 6 ≤ 7302232; omega⟩ (fun r5 u1 H locs hp hw => ?_)
  obtain ⟨e5, h0, hwr⟩ := hp
  have hm1 : mZ G L u1 y ww dd ca := hm.keep (fun _ h => h) (hwr y ny ey) (hwr ww nw ew) (hwr dd nd ed) (hwr ca nc ec)
  obtain ⟨hyL, hwwL, hddL, hcaL, fsy, hfy⟩ := hm1.mems
  refine lv_istore (lv' := [(5, .int r5), (4, .int (nI 0)), (3, .ref ou), (2, .ref y), (1, .ref x), (0, .ref b)]) hx hb dL_law_530 hl (by decide) rfl (fun ls hl => ?_)
  refine lv_aload_n hx hb dL_law_532 rfl (lv_at hl 3 rfl) ?_
  refine lv_aload_n hx hb dL_law_533 rfl (lv_at hl 5 rfl) ?_
  refine lv_iload hx hb dL_law_534 (lv_at hl 1 rfl) ?_
  refine lv_iconst (v := nI 1) hx hb dL_law_536 (by decide) ?_
  refine lv_iadd hx hb dL_law_537 ?_
  refine w_ti (y := nI (0 + 1)) (nI_add _ _) ?_
  refine va_sld hx hb hXs hbl hbA hw.2.2.2.1 (i := nI (0 + 1)) (vp_in_nI (by decide) (by decide)) dL_law_538 ?_
  refine w_ti (y := xs 1) (by rw [nI_clamp (by decide)]) ?_
  refine w_callVi (lf := fun g => (L, g)) (As := [.int (xs 1)]) (rest := []) ⟨hx, hb, hml, hown, hts⟩ hw (z_X8_run l G L u1 _ y ww dd ca hm1 (xs 1)) hyL hfy rfl rfl (w_cV 1 hts ul_63 ul_64 ul_65 ul_66 ul_67 rfl rfl (by decide) (by decide)) hl.1 rfl (lv_room (Nat.le_of_ble_eq_true rfl)) dL_law_539 ⟨by show cells + 1 + 0 ≤ 600002; omega, by show slots + 6 + 0 ≤ 7302232; omega⟩ (fun r6 u2 H locs hq hw => ?_)
  have hw : wH G A s.heap s L u2 H locs := hw
  have hfin : (∃ fs2, u2 y = eO 8 fs2 ∧ fs2[3]? = some (.int r5)) ∧ (r5 = nI 0 → ∃ rr, u2 ou = eJ G 1 rr ∧ rr 0 = r6.toInt64) := by
    obtain ⟨h6, hmo⟩ := hq
    rw [← e5] at hmo
    refine ⟨hmo.1, fun h => ⟨_, (hmo.2 ou ey.symm ew.symm ed.symm ec.symm).trans (h0 h), ?_⟩⟩
    have hcd : inB (xs 1) 80 = true := by
      rw [e5] at h
      revert h
      generalize inB (xs 1) 80 = B0
      cases B0 <;> decide
    rw [h6 hcd]
    rfl
  obtain ⟨⟨fs2, hfy2, hth⟩, hans⟩ := hfin
  refine lv_istore (lv' := [(6, .int r6), (5, .int r5), (4, .int (nI 0)), (3, .ref ou), (2, .ref y), (1, .ref x), (0, .ref b)]) hx hb dL_law_542 hl (by decide) rfl (fun ls hl => ?_)
  refine lv_aload_n hx hb dL_law_544 rfl (lv_at hl 4 rfl) ?_
  refine w_callVi (lf := fun g => (L, g)) (As := []) (rest := []) ⟨hx, hb, hml, hown, hts⟩ hw (c_X8_thrown l G L u2 _ y fs2 hyL hfy2 r5 hth) hyL hfy2 rfl rfl (w_cV 0 hts ul_9 ul_10 ul_11 ul_12 ul_13 rfl rfl (by decide) (by decide)) hl.1 rfl (lv_room (Nat.le_of_ble_eq_true rfl)) dL_law_545 ⟨by show cells + 1 + 0 + 0 ≤ 600002; omega, by show slots + 6 + 0 + 0 ≤ 7302232; omega⟩ (fun r7 u3 H locs hq3 hw => ?_)
  obtain ⟨e7, e8⟩ := hq3
  have hw : wH G A s.heap s L u3 H locs := hw
  rw [e8] at hw
  refine w_ti (y := r5) e7 ?_
  refine lv_iload hx hb dL_law_548 (lv_at hl 1 rfl) ?_
  refine lv_icmp_eq (tgt := 555) hx hb dL_law_550 (by decide) (fun _ => ?_) (fun h => absurd rfl h)
  refine lv_iload hx hb dL_law_555 (lv_at hl 1 rfl) ?_
  refine lv_if_ne (tgt := 572) hx hb dL_law_557 (by decide) (fun h5 => ?_) (fun h5 => ?_)
  · skip
    refine lv_goto (tgt := 1103) hx hb dL_law_572 (by decide) ?_
    refine lv_iinc (v := nI 4) (lv' := [(4, .int (nI 4)), (6, .int r6), (5, .int r5), (3, .ref ou), (2, .ref y), (1, .ref x), (0, .ref b)]) hx hb dL_law_1103 hl (k := 2) rfl (by decide) (by decide) rfl (fun ls hl => ?_)
    refine lv_goto (tgt := 23) hx hb dL_law_1106 (by decide) ?_
    exact law_exit hx hb hr hml hown hts hlocks hXs hbl hbA hAh hw 4 (by decide) (by decide) (by decide) (by show cells + 1 + 0 + 0 ≤ 600002; omega) (by show slots + 6 + 0 + 0 ≤ 7302232; omega) ls (lv_sub hl [0, 6] rfl)
  · skip
    obtain ⟨rr, hrr, hr0⟩ := hans (by rw [nI_0]; exact h5)
    refine lv_aload_n hx hb dL_law_560 rfl (lv_at hl 3 rfl) ?_
    refine lv_iconst (v := nI 0) hx hb dL_law_561 (by decide) ?_
    refine n_lald hx hb hw hoL hrr 0 (by omega) (by omega) dL_law_562 ?_
    refine lv_iload hx hb dL_law_563 (lv_at hl 0 rfl) ?_
    refine lv_i2l (v := r6.toInt64) hx hb dL_law_565 rfl ?_
    refine n_lcmp_eq (tgt := 572) hx hb dL_law_566 dL_law_567 (by decide) (fun h6 => ?_) (fun h6 => ?_)
    · skip
      refine lv_goto (tgt := 1103) hx hb dL_law_572 (by decide) ?_
      refine lv_iinc (v := nI 4) (lv' := [(4, .int (nI 4)), (6, .int r6), (5, .int r5), (3, .ref ou), (2, .ref y), (1, .ref x), (0, .ref b)]) hx hb dL_law_1103 hl (k := 2) rfl (by decide) (by decide) rfl (fun ls hl => ?_)
      refine lv_goto (tgt := 23) hx hb dL_law_1106 (by decide) ?_
      exact law_exit hx hb hr hml hown hts hlocks hXs hbl hbA hAh hw 4 (by decide) (by decide) (by decide) (by show cells + 1 + 0 + 0 ≤ 600002; omega) (by show slots + 6 + 0 + 0 ≤ 7302232; omega) ls (lv_sub hl [0, 6] rfl)
    · skip
      exact absurd hr0 h6
set_option maxRecDepth 100000 in
set_option maxHeartbeats 4000000 in
theorem law_case_7 {p : Program} {l : Launch} {e : Env} {s : State} {m : MethodId} {below : List Frame} {meth : Method} {c : Code} {b : Nat} {xs : Nat → Int32} {G : gG} {A : Nat → Prop} {L : List Nat} {f : Nat → va_E} {H : Heap} {locs : List Loc} {cells slots x y ww dd ca ou : Nat} {own : Nat → Prop} {r : Nat → Int64} (hl0 : l.stackTraces = false) (hx : p.tables.exec = Jvm.exec) (hb : c.code = cL_law) (hr : meth.sig.returnType = ret) (hml : c.maxLocals = 7) (hown : s.vm.findClass RL = some m.cls) (hts : ∀ w ∈ uU, w.before #[Value.ref b] s = true) (hlocks : meth.locks = false) (hXs : va_X b 4 xs s s.heap) (hbl : b < s.heap.size) (hbA : ¬ A b) (hAh : ∀ q, A q → s.heap.size ≤ q) (hX : tX A s s.heap) (hw : wH G A s.heap s L f H locs) (hz : cZ G L f x own) (hm : mZ G L f y ww dd ca) (hoL : ou ∈ L) (hou : f ou = eJ G 1 r) (hno : ¬ own ou) (ny : ¬ own y) (nw : ¬ own ww) (nd : ¬ own dd) (nc : ¬ own ca) (ey : y ≠ ou) (ew : ww ≠ ou) (ed : dd ≠ ou) (ec : ca ≠ ou) (hc : cells ≤ 5000) (hs : slots ≤ 50000) : ∀ ls : Array Slot, lv_has ls 7 [(4, .int (nI 0)), (3, .ref ou), (2, .ref y), (1, .ref x), (0, .ref b)] → W p l e room_1 s m #[Value.ref b] below meth c H locs cells slots (lw_Z below #[Value.ref b] s)  (F0 m 575 ls []) := by
  intro ls hl
  refine lv_aload_n hx hb dL_law_575 rfl (lv_at hl 3 rfl) ?_
  refine lv_aload_n hx hb dL_law_576 rfl (lv_at hl 4 rfl) ?_
  refine lv_iload hx hb dL_law_577 (lv_at hl 0 rfl) ?_
  refine lv_iconst (v := nI 1) hx hb dL_law_579 (by decide) ?_
  refine lv_iadd hx hb dL_law_580 ?_
  refine w_ti (y := nI (0 + 1)) (nI_add _ _) ?_
  refine va_sld hx hb hXs hbl hbA hw.2.2.2.1 (i := nI (0 + 1)) (vp_in_nI (by decide) (by decide)) dL_law_581 ?_
  refine w_ti (y := xs 1) (by rw [nI_clamp (by decide)]) ?_
  refine lv_aload_n hx hb dL_law_582 rfl (lv_at hl 1 rfl) ?_
  refine h_callSi (As := [.ref x, .int (xs 1), .ref ou]) (rest := []) ⟨hx, hb, hml, hown, hts⟩ hX hw (z_L_factor l hl0 G L f _ x ou own r hz hoL hou hno (xs 1)) (h_cS 3 hts ul_68 ul_69 ul_70 ul_71 rfl rfl (by decide) (by decide)) hl.1 rfl (lv_room (Nat.le_of_ble_eq_true rfl)) dL_law_583 ⟨by show cells + 1 ≤ 600002; omega, by show slots + 6 ≤ 7302232; omega⟩ (fun r5 u1 H locs hp hw => ?_)
  obtain ⟨e5, h0, hwr⟩ := hp
  have hm1 : mZ G L u1 y ww dd ca := hm.keep (fun _ h => h) (hwr y ny ey) (hwr ww nw ew) (hwr dd nd ed) (hwr ca nc ec)
  obtain ⟨hyL, hwwL, hddL, hcaL, fsy, hfy⟩ := hm1.mems
  refine lv_istore (lv' := [(5, .int r5), (4, .int (nI 0)), (3, .ref ou), (2, .ref y), (1, .ref x), (0, .ref b)]) hx hb dL_law_586 hl (by decide) rfl (fun ls hl => ?_)
  refine lv_aload_n hx hb dL_law_588 rfl (lv_at hl 3 rfl) ?_
  refine lv_aload_n hx hb dL_law_589 rfl (lv_at hl 5 rfl) ?_
  refine lv_iload hx hb dL_law_590 (lv_at hl 1 rfl) ?_
  refine lv_iconst (v := nI 1) hx hb dL_law_592 (by decide) ?_
  refine lv_iadd hx hb dL_law_593 ?_
  refine w_ti (y := nI (0 + 1)) (nI_add _ _) ?_
  refine va_sld hx hb hXs hbl hbA hw.2.2.2.1 (i := nI (0 + 1)) (vp_in_nI (by decide) (by decide)) dL_law_594 ?_
  refine w_ti (y := xs 1) (by rw [nI_clamp (by decide)]) ?_
  refine w_callVi (lf := fun g => (L, g)) (As := [.int (xs 1)]) (rest := []) ⟨hx, hb, hml, hown, hts⟩ hw (z_X8_factor l G L u1 _ y ww dd ca hm1 (xs 1)) hyL hfy rfl rfl (w_cV 1 hts ul_72 ul_73 ul_74 ul_75 ul_76 rfl rfl (by decide) (by decide)) hl.1 rfl (lv_room (Nat.le_of_ble_eq_true rfl)) dL_law_595 ⟨by show cells + 1 + 0 ≤ 600002; omega, by show slots + 6 + 0 ≤ 7302232; omega⟩ (fun r6 u2 H locs hq hw => ?_)
  have hw : wH G A s.heap s L u2 H locs := hw
  have hfin : (∃ fs2, u2 y = eO 8 fs2 ∧ fs2[3]? = some (.int r5)) ∧ (r5 = nI 0 → ∃ rr, u2 ou = eJ G 1 rr ∧ rr 0 = r6.toInt64) := by
    have hmo := hq
    rw [← e5] at hmo
    refine ⟨hmo.1, fun h => ?_⟩
    rw [e5] at h
    revert h
    intro h
    exact absurd h (by decide)
  obtain ⟨⟨fs2, hfy2, hth⟩, hans⟩ := hfin
  refine lv_istore (lv' := [(6, .int r6), (5, .int r5), (4, .int (nI 0)), (3, .ref ou), (2, .ref y), (1, .ref x), (0, .ref b)]) hx hb dL_law_598 hl (by decide) rfl (fun ls hl => ?_)
  refine lv_aload_n hx hb dL_law_600 rfl (lv_at hl 4 rfl) ?_
  refine w_callVi (lf := fun g => (L, g)) (As := []) (rest := []) ⟨hx, hb, hml, hown, hts⟩ hw (c_X8_thrown l G L u2 _ y fs2 hyL hfy2 r5 hth) hyL hfy2 rfl rfl (w_cV 0 hts ul_9 ul_10 ul_11 ul_12 ul_13 rfl rfl (by decide) (by decide)) hl.1 rfl (lv_room (Nat.le_of_ble_eq_true rfl)) dL_law_601 ⟨by show cells + 1 + 0 + 0 ≤ 600002; omega, by show slots + 6 + 0 + 0 ≤ 7302232; omega⟩ (fun r7 u3 H locs hq3 hw => ?_)
  obtain ⟨e7, e8⟩ := hq3
  have hw : wH G A s.heap s L u3 H locs := hw
  rw [e8] at hw
  refine w_ti (y := r5) e7 ?_
  refine lv_iload hx hb dL_law_604 (lv_at hl 1 rfl) ?_
  refine lv_icmp_eq (tgt := 611) hx hb dL_law_606 (by decide) (fun _ => ?_) (fun h => absurd rfl h)
  refine lv_iload hx hb dL_law_611 (lv_at hl 1 rfl) ?_
  refine lv_if_ne (tgt := 628) hx hb dL_law_613 (by decide) (fun h5 => ?_) (fun h5 => ?_)
  · skip
    refine lv_goto (tgt := 1103) hx hb dL_law_628 (by decide) ?_
    refine lv_iinc (v := nI 4) (lv' := [(4, .int (nI 4)), (6, .int r6), (5, .int r5), (3, .ref ou), (2, .ref y), (1, .ref x), (0, .ref b)]) hx hb dL_law_1103 hl (k := 2) rfl (by decide) (by decide) rfl (fun ls hl => ?_)
    refine lv_goto (tgt := 23) hx hb dL_law_1106 (by decide) ?_
    exact law_exit hx hb hr hml hown hts hlocks hXs hbl hbA hAh hw 4 (by decide) (by decide) (by decide) (by show cells + 1 + 0 + 0 ≤ 600002; omega) (by show slots + 6 + 0 + 0 ≤ 7302232; omega) ls (lv_sub hl [0, 6] rfl)
  · skip
    obtain ⟨rr, hrr, hr0⟩ := hans (by rw [nI_0]; exact h5)
    refine lv_aload_n hx hb dL_law_616 rfl (lv_at hl 3 rfl) ?_
    refine lv_iconst (v := nI 0) hx hb dL_law_617 (by decide) ?_
    refine n_lald hx hb hw hoL hrr 0 (by omega) (by omega) dL_law_618 ?_
    refine lv_iload hx hb dL_law_619 (lv_at hl 0 rfl) ?_
    refine lv_i2l (v := r6.toInt64) hx hb dL_law_621 rfl ?_
    refine n_lcmp_eq (tgt := 628) hx hb dL_law_622 dL_law_623 (by decide) (fun h6 => ?_) (fun h6 => ?_)
    · skip
      refine lv_goto (tgt := 1103) hx hb dL_law_628 (by decide) ?_
      refine lv_iinc (v := nI 4) (lv' := [(4, .int (nI 4)), (6, .int r6), (5, .int r5), (3, .ref ou), (2, .ref y), (1, .ref x), (0, .ref b)]) hx hb dL_law_1103 hl (k := 2) rfl (by decide) (by decide) rfl (fun ls hl => ?_)
      refine lv_goto (tgt := 23) hx hb dL_law_1106 (by decide) ?_
      exact law_exit hx hb hr hml hown hts hlocks hXs hbl hbA hAh hw 4 (by decide) (by decide) (by decide) (by show cells + 1 + 0 + 0 ≤ 600002; omega) (by show slots + 6 + 0 + 0 ≤ 7302232; omega) ls (lv_sub hl [0, 6] rfl)
    · skip
      exact absurd hr0 h6
set_option maxRecDepth 100000 in
set_option maxHeartbeats 4000000 in
theorem law_case_8 {p : Program} {l : Launch} {e : Env} {s : State} {m : MethodId} {below : List Frame} {meth : Method} {c : Code} {b : Nat} {xs : Nat → Int32} {G : gG} {A : Nat → Prop} {L : List Nat} {f : Nat → va_E} {H : Heap} {locs : List Loc} {cells slots x y ww dd ca ou : Nat} {own : Nat → Prop} {r : Nat → Int64} (hl0 : l.stackTraces = false) (hx : p.tables.exec = Jvm.exec) (hb : c.code = cL_law) (hr : meth.sig.returnType = ret) (hml : c.maxLocals = 7) (hown : s.vm.findClass RL = some m.cls) (hts : ∀ w ∈ uU, w.before #[Value.ref b] s = true) (hlocks : meth.locks = false) (hXs : va_X b 4 xs s s.heap) (hbl : b < s.heap.size) (hbA : ¬ A b) (hAh : ∀ q, A q → s.heap.size ≤ q) (hX : tX A s s.heap) (hw : wH G A s.heap s L f H locs) (hz : cZ G L f x own) (hm : mZ G L f y ww dd ca) (hoL : ou ∈ L) (hou : f ou = eJ G 1 r) (hno : ¬ own ou) (ny : ¬ own y) (nw : ¬ own ww) (nd : ¬ own dd) (nc : ¬ own ca) (ey : y ≠ ou) (ew : ww ≠ ou) (ed : dd ≠ ou) (ec : ca ≠ ou) (hc : cells ≤ 5000) (hs : slots ≤ 50000) : ∀ ls : Array Slot, lv_has ls 7 [(4, .int (nI 0)), (3, .ref ou), (2, .ref y), (1, .ref x), (0, .ref b)] → W p l e room_1 s m #[Value.ref b] below meth c H locs cells slots (lw_Z below #[Value.ref b] s)  (F0 m 631 ls []) := by
  intro ls hl
  refine lv_aload_n hx hb dL_law_631 rfl (lv_at hl 3 rfl) ?_
  refine lv_aload_n hx hb dL_law_632 rfl (lv_at hl 4 rfl) ?_
  refine lv_iload hx hb dL_law_633 (lv_at hl 0 rfl) ?_
  refine lv_iconst (v := nI 1) hx hb dL_law_635 (by decide) ?_
  refine lv_iadd hx hb dL_law_636 ?_
  refine w_ti (y := nI (0 + 1)) (nI_add _ _) ?_
  refine va_sld hx hb hXs hbl hbA hw.2.2.2.1 (i := nI (0 + 1)) (vp_in_nI (by decide) (by decide)) dL_law_637 ?_
  refine w_ti (y := xs 1) (by rw [nI_clamp (by decide)]) ?_
  refine lv_aload_n hx hb dL_law_638 rfl (lv_at hl 1 rfl) ?_
  refine h_callSi (As := [.ref x, .int (xs 1), .ref ou]) (rest := []) ⟨hx, hb, hml, hown, hts⟩ hX hw (z_L_multiplicity l hl0 G L f _ x ou own r hz hoL hou hno (xs 1)) (h_cS 3 hts ul_77 ul_78 ul_79 ul_80 rfl rfl (by decide) (by decide)) hl.1 rfl (lv_room (Nat.le_of_ble_eq_true rfl)) dL_law_639 ⟨by show cells + 1 ≤ 600002; omega, by show slots + 6 ≤ 7302232; omega⟩ (fun r5 u1 H locs hp hw => ?_)
  obtain ⟨e5, h0, hwr⟩ := hp
  have hm1 : mZ G L u1 y ww dd ca := hm.keep (fun _ h => h) (hwr y ny ey) (hwr ww nw ew) (hwr dd nd ed) (hwr ca nc ec)
  obtain ⟨hyL, hwwL, hddL, hcaL, fsy, hfy⟩ := hm1.mems
  refine lv_istore (lv' := [(5, .int r5), (4, .int (nI 0)), (3, .ref ou), (2, .ref y), (1, .ref x), (0, .ref b)]) hx hb dL_law_642 hl (by decide) rfl (fun ls hl => ?_)
  refine lv_aload_n hx hb dL_law_644 rfl (lv_at hl 3 rfl) ?_
  refine lv_aload_n hx hb dL_law_645 rfl (lv_at hl 5 rfl) ?_
  refine lv_iload hx hb dL_law_646 (lv_at hl 1 rfl) ?_
  refine lv_iconst (v := nI 1) hx hb dL_law_648 (by decide) ?_
  refine lv_iadd hx hb dL_law_649 ?_
  refine w_ti (y := nI (0 + 1)) (nI_add _ _) ?_
  refine va_sld hx hb hXs hbl hbA hw.2.2.2.1 (i := nI (0 + 1)) (vp_in_nI (by decide) (by decide)) dL_law_650 ?_
  refine w_ti (y := xs 1) (by rw [nI_clamp (by decide)]) ?_
  refine w_callVi (lf := fun g => (L, g)) (As := [.int (xs 1)]) (rest := []) ⟨hx, hb, hml, hown, hts⟩ hw (z_X8_multiplicity l G L u1 _ y ww dd ca hm1 (xs 1)) hyL hfy rfl rfl (w_cV 1 hts ul_81 ul_82 ul_83 ul_84 ul_85 rfl rfl (by decide) (by decide)) hl.1 rfl (lv_room (Nat.le_of_ble_eq_true rfl)) dL_law_651 ⟨by show cells + 1 + 0 ≤ 600002; omega, by show slots + 6 + 0 ≤ 7302232; omega⟩ (fun r6 u2 H locs hq hw => ?_)
  have hw : wH G A s.heap s L u2 H locs := hw
  have hfin : (∃ fs2, u2 y = eO 8 fs2 ∧ fs2[3]? = some (.int r5)) ∧ (r5 = nI 0 → ∃ rr, u2 ou = eJ G 1 rr ∧ rr 0 = r6.toInt64) := by
    have hmo := hq
    rw [← e5] at hmo
    refine ⟨hmo.1, fun h => ?_⟩
    rw [e5] at h
    revert h
    intro h
    exact absurd h (by decide)
  obtain ⟨⟨fs2, hfy2, hth⟩, hans⟩ := hfin
  refine lv_istore (lv' := [(6, .int r6), (5, .int r5), (4, .int (nI 0)), (3, .ref ou), (2, .ref y), (1, .ref x), (0, .ref b)]) hx hb dL_law_654 hl (by decide) rfl (fun ls hl => ?_)
  refine lv_aload_n hx hb dL_law_656 rfl (lv_at hl 4 rfl) ?_
  refine w_callVi (lf := fun g => (L, g)) (As := []) (rest := []) ⟨hx, hb, hml, hown, hts⟩ hw (c_X8_thrown l G L u2 _ y fs2 hyL hfy2 r5 hth) hyL hfy2 rfl rfl (w_cV 0 hts ul_9 ul_10 ul_11 ul_12 ul_13 rfl rfl (by decide) (by decide)) hl.1 rfl (lv_room (Nat.le_of_ble_eq_true rfl)) dL_law_657 ⟨by show cells + 1 + 0 + 0 ≤ 600002; omega, by show slots + 6 + 0 + 0 ≤ 7302232; omega⟩ (fun r7 u3 H locs hq3 hw => ?_)
  obtain ⟨e7, e8⟩ := hq3
  have hw : wH G A s.heap s L u3 H locs := hw
  rw [e8] at hw
  refine w_ti (y := r5) e7 ?_
  refine lv_iload hx hb dL_law_660 (lv_at hl 1 rfl) ?_
  refine lv_icmp_eq (tgt := 667) hx hb dL_law_662 (by decide) (fun _ => ?_) (fun h => absurd rfl h)
  refine lv_iload hx hb dL_law_667 (lv_at hl 1 rfl) ?_
  refine lv_if_ne (tgt := 684) hx hb dL_law_669 (by decide) (fun h5 => ?_) (fun h5 => ?_)
  · skip
    refine lv_goto (tgt := 1103) hx hb dL_law_684 (by decide) ?_
    refine lv_iinc (v := nI 4) (lv' := [(4, .int (nI 4)), (6, .int r6), (5, .int r5), (3, .ref ou), (2, .ref y), (1, .ref x), (0, .ref b)]) hx hb dL_law_1103 hl (k := 2) rfl (by decide) (by decide) rfl (fun ls hl => ?_)
    refine lv_goto (tgt := 23) hx hb dL_law_1106 (by decide) ?_
    exact law_exit hx hb hr hml hown hts hlocks hXs hbl hbA hAh hw 4 (by decide) (by decide) (by decide) (by show cells + 1 + 0 + 0 ≤ 600002; omega) (by show slots + 6 + 0 + 0 ≤ 7302232; omega) ls (lv_sub hl [0, 6] rfl)
  · skip
    obtain ⟨rr, hrr, hr0⟩ := hans (by rw [nI_0]; exact h5)
    refine lv_aload_n hx hb dL_law_672 rfl (lv_at hl 3 rfl) ?_
    refine lv_iconst (v := nI 0) hx hb dL_law_673 (by decide) ?_
    refine n_lald hx hb hw hoL hrr 0 (by omega) (by omega) dL_law_674 ?_
    refine lv_iload hx hb dL_law_675 (lv_at hl 0 rfl) ?_
    refine lv_i2l (v := r6.toInt64) hx hb dL_law_677 rfl ?_
    refine n_lcmp_eq (tgt := 684) hx hb dL_law_678 dL_law_679 (by decide) (fun h6 => ?_) (fun h6 => ?_)
    · skip
      refine lv_goto (tgt := 1103) hx hb dL_law_684 (by decide) ?_
      refine lv_iinc (v := nI 4) (lv' := [(4, .int (nI 4)), (6, .int r6), (5, .int r5), (3, .ref ou), (2, .ref y), (1, .ref x), (0, .ref b)]) hx hb dL_law_1103 hl (k := 2) rfl (by decide) (by decide) rfl (fun ls hl => ?_)
      refine lv_goto (tgt := 23) hx hb dL_law_1106 (by decide) ?_
      exact law_exit hx hb hr hml hown hts hlocks hXs hbl hbA hAh hw 4 (by decide) (by decide) (by decide) (by show cells + 1 + 0 + 0 ≤ 600002; omega) (by show slots + 6 + 0 + 0 ≤ 7302232; omega) ls (lv_sub hl [0, 6] rfl)
    · skip
      exact absurd hr0 h6
set_option maxRecDepth 100000 in
set_option maxHeartbeats 4000000 in
theorem law_case_9 {p : Program} {l : Launch} {e : Env} {s : State} {m : MethodId} {below : List Frame} {meth : Method} {c : Code} {b : Nat} {xs : Nat → Int32} {G : gG} {A : Nat → Prop} {L : List Nat} {f : Nat → va_E} {H : Heap} {locs : List Loc} {cells slots x y ww dd ca ou : Nat} {own : Nat → Prop} {r : Nat → Int64} (hl0 : l.stackTraces = false) (hx : p.tables.exec = Jvm.exec) (hb : c.code = cL_law) (hr : meth.sig.returnType = ret) (hml : c.maxLocals = 7) (hown : s.vm.findClass RL = some m.cls) (hts : ∀ w ∈ uU, w.before #[Value.ref b] s = true) (hlocks : meth.locks = false) (hXs : va_X b 4 xs s s.heap) (hbl : b < s.heap.size) (hbA : ¬ A b) (hAh : ∀ q, A q → s.heap.size ≤ q) (hX : tX A s s.heap) (hw : wH G A s.heap s L f H locs) (hz : cZ G L f x own) (hm : mZ G L f y ww dd ca) (hoL : ou ∈ L) (hou : f ou = eJ G 1 r) (hno : ¬ own ou) (ny : ¬ own y) (nw : ¬ own ww) (nd : ¬ own dd) (nc : ¬ own ca) (ey : y ≠ ou) (ew : ww ≠ ou) (ed : dd ≠ ou) (ec : ca ≠ ou) (hc : cells ≤ 5000) (hs : slots ≤ 50000) : ∀ ls : Array Slot, lv_has ls 7 [(4, .int (nI 0)), (3, .ref ou), (2, .ref y), (1, .ref x), (0, .ref b)] → W p l e room_1 s m #[Value.ref b] below meth c H locs cells slots (lw_Z below #[Value.ref b] s)  (F0 m 687 ls []) := by
  intro ls hl
  refine lv_aload_n hx hb dL_law_687 rfl (lv_at hl 3 rfl) ?_
  refine lv_aload_n hx hb dL_law_688 rfl (lv_at hl 4 rfl) ?_
  refine lv_iload hx hb dL_law_689 (lv_at hl 0 rfl) ?_
  refine lv_iconst (v := nI 1) hx hb dL_law_691 (by decide) ?_
  refine lv_iadd hx hb dL_law_692 ?_
  refine w_ti (y := nI (0 + 1)) (nI_add _ _) ?_
  refine va_sld hx hb hXs hbl hbA hw.2.2.2.1 (i := nI (0 + 1)) (vp_in_nI (by decide) (by decide)) dL_law_693 ?_
  refine w_ti (y := xs 1) (by rw [nI_clamp (by decide)]) ?_
  refine lv_aload_n hx hb dL_law_694 rfl (lv_at hl 1 rfl) ?_
  refine h_callSi (As := [.ref x, .int (xs 1), .ref ou]) (rest := []) ⟨hx, hb, hml, hown, hts⟩ hX hw (z_L_content l hl0 G L f _ x ou own r hz hoL hou hno (xs 1)) (h_cS 3 hts ul_86 ul_87 ul_88 ul_89 rfl rfl (by decide) (by decide)) hl.1 rfl (lv_room (Nat.le_of_ble_eq_true rfl)) dL_law_695 ⟨by show cells + 1 ≤ 600002; omega, by show slots + 6 ≤ 7302232; omega⟩ (fun r5 u1 H locs hp hw => ?_)
  obtain ⟨e5, h0, hwr⟩ := hp
  have hm1 : mZ G L u1 y ww dd ca := hm.keep (fun _ h => h) (hwr y ny ey) (hwr ww nw ew) (hwr dd nd ed) (hwr ca nc ec)
  obtain ⟨hyL, hwwL, hddL, hcaL, fsy, hfy⟩ := hm1.mems
  refine lv_istore (lv' := [(5, .int r5), (4, .int (nI 0)), (3, .ref ou), (2, .ref y), (1, .ref x), (0, .ref b)]) hx hb dL_law_698 hl (by decide) rfl (fun ls hl => ?_)
  refine lv_aload_n hx hb dL_law_700 rfl (lv_at hl 3 rfl) ?_
  refine lv_aload_n hx hb dL_law_701 rfl (lv_at hl 5 rfl) ?_
  refine lv_iload hx hb dL_law_702 (lv_at hl 1 rfl) ?_
  refine lv_iconst (v := nI 1) hx hb dL_law_704 (by decide) ?_
  refine lv_iadd hx hb dL_law_705 ?_
  refine w_ti (y := nI (0 + 1)) (nI_add _ _) ?_
  refine va_sld hx hb hXs hbl hbA hw.2.2.2.1 (i := nI (0 + 1)) (vp_in_nI (by decide) (by decide)) dL_law_706 ?_
  refine w_ti (y := xs 1) (by rw [nI_clamp (by decide)]) ?_
  refine w_callVi (lf := fun g => (L, g)) (As := [.int (xs 1)]) (rest := []) ⟨hx, hb, hml, hown, hts⟩ hw (z_X8_content l G L u1 _ y ww dd ca hm1 (xs 1)) hyL hfy rfl rfl (w_cV 1 hts ul_90 ul_91 ul_92 ul_93 ul_94 rfl rfl (by decide) (by decide)) hl.1 rfl (lv_room (Nat.le_of_ble_eq_true rfl)) dL_law_707 ⟨by show cells + 1 + 0 ≤ 600002; omega, by show slots + 6 + 0 ≤ 7302232; omega⟩ (fun r6 u2 H locs hq hw => ?_)
  have hw : wH G A s.heap s L u2 H locs := hw
  have hfin : (∃ fs2, u2 y = eO 8 fs2 ∧ fs2[3]? = some (.int r5)) ∧ (r5 = nI 0 → ∃ rr, u2 ou = eJ G 1 rr ∧ rr 0 = r6.toInt64) := by
    obtain ⟨h6, hmo⟩ := hq
    rw [← e5] at hmo
    refine ⟨hmo.1, fun h => ⟨_, (hmo.2 ou ey.symm ew.symm ed.symm ec.symm).trans (h0 h), ?_⟩⟩
    have hcd : inB (xs 1) 80 = true := by
      rw [e5] at h
      revert h
      generalize inB (xs 1) 80 = B0
      cases B0 <;> decide
    rw [h6 hcd]
    rfl
  obtain ⟨⟨fs2, hfy2, hth⟩, hans⟩ := hfin
  refine lv_istore (lv' := [(6, .int r6), (5, .int r5), (4, .int (nI 0)), (3, .ref ou), (2, .ref y), (1, .ref x), (0, .ref b)]) hx hb dL_law_710 hl (by decide) rfl (fun ls hl => ?_)
  refine lv_aload_n hx hb dL_law_712 rfl (lv_at hl 4 rfl) ?_
  refine w_callVi (lf := fun g => (L, g)) (As := []) (rest := []) ⟨hx, hb, hml, hown, hts⟩ hw (c_X8_thrown l G L u2 _ y fs2 hyL hfy2 r5 hth) hyL hfy2 rfl rfl (w_cV 0 hts ul_9 ul_10 ul_11 ul_12 ul_13 rfl rfl (by decide) (by decide)) hl.1 rfl (lv_room (Nat.le_of_ble_eq_true rfl)) dL_law_713 ⟨by show cells + 1 + 0 + 0 ≤ 600002; omega, by show slots + 6 + 0 + 0 ≤ 7302232; omega⟩ (fun r7 u3 H locs hq3 hw => ?_)
  obtain ⟨e7, e8⟩ := hq3
  have hw : wH G A s.heap s L u3 H locs := hw
  rw [e8] at hw
  refine w_ti (y := r5) e7 ?_
  refine lv_iload hx hb dL_law_716 (lv_at hl 1 rfl) ?_
  refine lv_icmp_eq (tgt := 723) hx hb dL_law_718 (by decide) (fun _ => ?_) (fun h => absurd rfl h)
  refine lv_iload hx hb dL_law_723 (lv_at hl 1 rfl) ?_
  refine lv_if_ne (tgt := 740) hx hb dL_law_725 (by decide) (fun h5 => ?_) (fun h5 => ?_)
  · skip
    refine lv_goto (tgt := 1103) hx hb dL_law_740 (by decide) ?_
    refine lv_iinc (v := nI 4) (lv' := [(4, .int (nI 4)), (6, .int r6), (5, .int r5), (3, .ref ou), (2, .ref y), (1, .ref x), (0, .ref b)]) hx hb dL_law_1103 hl (k := 2) rfl (by decide) (by decide) rfl (fun ls hl => ?_)
    refine lv_goto (tgt := 23) hx hb dL_law_1106 (by decide) ?_
    exact law_exit hx hb hr hml hown hts hlocks hXs hbl hbA hAh hw 4 (by decide) (by decide) (by decide) (by show cells + 1 + 0 + 0 ≤ 600002; omega) (by show slots + 6 + 0 + 0 ≤ 7302232; omega) ls (lv_sub hl [0, 6] rfl)
  · skip
    obtain ⟨rr, hrr, hr0⟩ := hans (by rw [nI_0]; exact h5)
    refine lv_aload_n hx hb dL_law_728 rfl (lv_at hl 3 rfl) ?_
    refine lv_iconst (v := nI 0) hx hb dL_law_729 (by decide) ?_
    refine n_lald hx hb hw hoL hrr 0 (by omega) (by omega) dL_law_730 ?_
    refine lv_iload hx hb dL_law_731 (lv_at hl 0 rfl) ?_
    refine lv_i2l (v := r6.toInt64) hx hb dL_law_733 rfl ?_
    refine n_lcmp_eq (tgt := 740) hx hb dL_law_734 dL_law_735 (by decide) (fun h6 => ?_) (fun h6 => ?_)
    · skip
      refine lv_goto (tgt := 1103) hx hb dL_law_740 (by decide) ?_
      refine lv_iinc (v := nI 4) (lv' := [(4, .int (nI 4)), (6, .int r6), (5, .int r5), (3, .ref ou), (2, .ref y), (1, .ref x), (0, .ref b)]) hx hb dL_law_1103 hl (k := 2) rfl (by decide) (by decide) rfl (fun ls hl => ?_)
      refine lv_goto (tgt := 23) hx hb dL_law_1106 (by decide) ?_
      exact law_exit hx hb hr hml hown hts hlocks hXs hbl hbA hAh hw 4 (by decide) (by decide) (by decide) (by show cells + 1 + 0 + 0 ≤ 600002; omega) (by show slots + 6 + 0 + 0 ≤ 7302232; omega) ls (lv_sub hl [0, 6] rfl)
    · skip
      exact absurd hr0 h6
set_option maxRecDepth 100000 in
set_option maxHeartbeats 4000000 in
theorem law_case_10 {p : Program} {l : Launch} {e : Env} {s : State} {m : MethodId} {below : List Frame} {meth : Method} {c : Code} {b : Nat} {xs : Nat → Int32} {G : gG} {A : Nat → Prop} {L : List Nat} {f : Nat → va_E} {H : Heap} {locs : List Loc} {cells slots x y ww dd ca ou : Nat} {own : Nat → Prop} {r : Nat → Int64} (hl0 : l.stackTraces = false) (hx : p.tables.exec = Jvm.exec) (hb : c.code = cL_law) (hr : meth.sig.returnType = ret) (hml : c.maxLocals = 7) (hown : s.vm.findClass RL = some m.cls) (hts : ∀ w ∈ uU, w.before #[Value.ref b] s = true) (hlocks : meth.locks = false) (hXs : va_X b 4 xs s s.heap) (hbl : b < s.heap.size) (hbA : ¬ A b) (hAh : ∀ q, A q → s.heap.size ≤ q) (hX : tX A s s.heap) (hw : wH G A s.heap s L f H locs) (hz : cZ G L f x own) (hm : mZ G L f y ww dd ca) (hoL : ou ∈ L) (hou : f ou = eJ G 1 r) (hno : ¬ own ou) (ny : ¬ own y) (nw : ¬ own ww) (nd : ¬ own dd) (nc : ¬ own ca) (ey : y ≠ ou) (ew : ww ≠ ou) (ed : dd ≠ ou) (ec : ca ≠ ou) (hc : cells ≤ 5000) (hs : slots ≤ 50000) : ∀ ls : Array Slot, lv_has ls 7 [(4, .int (nI 0)), (3, .ref ou), (2, .ref y), (1, .ref x), (0, .ref b)] → W p l e room_1 s m #[Value.ref b] below meth c H locs cells slots (lw_Z below #[Value.ref b] s)  (F0 m 743 ls []) := by
  intro ls hl
  refine lv_aload_n hx hb dL_law_743 rfl (lv_at hl 3 rfl) ?_
  refine lv_aload_n hx hb dL_law_744 rfl (lv_at hl 4 rfl) ?_
  refine lv_iload hx hb dL_law_745 (lv_at hl 0 rfl) ?_
  refine lv_iconst (v := nI 1) hx hb dL_law_747 (by decide) ?_
  refine lv_iadd hx hb dL_law_748 ?_
  refine w_ti (y := nI (0 + 1)) (nI_add _ _) ?_
  refine va_sld hx hb hXs hbl hbA hw.2.2.2.1 (i := nI (0 + 1)) (vp_in_nI (by decide) (by decide)) dL_law_749 ?_
  refine w_ti (y := xs 1) (by rw [nI_clamp (by decide)]) ?_
  refine lv_aload_n hx hb dL_law_750 rfl (lv_at hl 4 rfl) ?_
  refine lv_iload hx hb dL_law_751 (lv_at hl 0 rfl) ?_
  refine lv_iconst (v := nI 2) hx hb dL_law_753 (by decide) ?_
  refine lv_iadd hx hb dL_law_754 ?_
  refine w_ti (y := nI (0 + 2)) (nI_add _ _) ?_
  refine va_sld hx hb hXs hbl hbA hw.2.2.2.1 (i := nI (0 + 2)) (vp_in_nI (by decide) (by decide)) dL_law_755 ?_
  refine w_ti (y := xs 2) (by rw [nI_clamp (by decide)]) ?_
  refine lv_aload_n hx hb dL_law_756 rfl (lv_at hl 4 rfl) ?_
  refine lv_iload hx hb dL_law_757 (lv_at hl 0 rfl) ?_
  refine lv_iconst (v := nI 3) hx hb dL_law_759 (by decide) ?_
  refine lv_iadd hx hb dL_law_760 ?_
  refine w_ti (y := nI (0 + 3)) (nI_add _ _) ?_
  refine va_sld hx hb hXs hbl hbA hw.2.2.2.1 (i := nI (0 + 3)) (vp_in_nI (by decide) (by decide)) dL_law_761 ?_
  refine w_ti (y := xs 3) (by rw [nI_clamp (by decide)]) ?_
  refine lv_aload_n hx hb dL_law_762 rfl (lv_at hl 1 rfl) ?_
  refine h_callSi (As := [.ref x, .int (xs 1), .int (xs 2), .int (xs 3), .ref ou]) (rest := []) ⟨hx, hb, hml, hown, hts⟩ hX hw (z_L_root l hl0 G L f _ x ou own r hz hoL hou hno (xs 1) (xs 2) (xs 3)) (h_cS 5 hts ul_95 ul_96 ul_97 ul_98 rfl rfl (by decide) (by decide)) hl.1 rfl (lv_room (Nat.le_of_ble_eq_true rfl)) dL_law_763 ⟨by show cells + 2 ≤ 600002; omega, by show slots + 12 ≤ 7302232; omega⟩ (fun r5 u1 H locs hp hw => ?_)
  obtain ⟨e5, h0, hwr⟩ := hp
  have hm1 : mZ G L u1 y ww dd ca := hm.keep (fun _ h => h) (hwr y ny ey) (hwr ww nw ew) (hwr dd nd ed) (hwr ca nc ec)
  obtain ⟨hyL, hwwL, hddL, hcaL, fsy, hfy⟩ := hm1.mems
  refine lv_istore (lv' := [(5, .int r5), (4, .int (nI 0)), (3, .ref ou), (2, .ref y), (1, .ref x), (0, .ref b)]) hx hb dL_law_766 hl (by decide) rfl (fun ls hl => ?_)
  refine lv_aload_n hx hb dL_law_768 rfl (lv_at hl 3 rfl) ?_
  refine lv_aload_n hx hb dL_law_769 rfl (lv_at hl 5 rfl) ?_
  refine lv_iload hx hb dL_law_770 (lv_at hl 1 rfl) ?_
  refine lv_iconst (v := nI 1) hx hb dL_law_772 (by decide) ?_
  refine lv_iadd hx hb dL_law_773 ?_
  refine w_ti (y := nI (0 + 1)) (nI_add _ _) ?_
  refine va_sld hx hb hXs hbl hbA hw.2.2.2.1 (i := nI (0 + 1)) (vp_in_nI (by decide) (by decide)) dL_law_774 ?_
  refine w_ti (y := xs 1) (by rw [nI_clamp (by decide)]) ?_
  refine lv_aload_n hx hb dL_law_775 rfl (lv_at hl 5 rfl) ?_
  refine lv_iload hx hb dL_law_776 (lv_at hl 1 rfl) ?_
  refine lv_iconst (v := nI 2) hx hb dL_law_778 (by decide) ?_
  refine lv_iadd hx hb dL_law_779 ?_
  refine w_ti (y := nI (0 + 2)) (nI_add _ _) ?_
  refine va_sld hx hb hXs hbl hbA hw.2.2.2.1 (i := nI (0 + 2)) (vp_in_nI (by decide) (by decide)) dL_law_780 ?_
  refine w_ti (y := xs 2) (by rw [nI_clamp (by decide)]) ?_
  refine lv_aload_n hx hb dL_law_781 rfl (lv_at hl 5 rfl) ?_
  refine lv_iload hx hb dL_law_782 (lv_at hl 1 rfl) ?_
  refine lv_iconst (v := nI 3) hx hb dL_law_784 (by decide) ?_
  refine lv_iadd hx hb dL_law_785 ?_
  refine w_ti (y := nI (0 + 3)) (nI_add _ _) ?_
  refine va_sld hx hb hXs hbl hbA hw.2.2.2.1 (i := nI (0 + 3)) (vp_in_nI (by decide) (by decide)) dL_law_786 ?_
  refine w_ti (y := xs 3) (by rw [nI_clamp (by decide)]) ?_
  refine w_callVi (lf := fun g => (L, g)) (As := [.int (xs 1), .int (xs 2), .int (xs 3)]) (rest := []) ⟨hx, hb, hml, hown, hts⟩ hw (z_X8_root l G L u1 _ y ww dd ca hm1 (xs 1) (xs 2) (xs 3)) hyL hfy rfl rfl (w_cV 3 hts ul_99 ul_100 ul_101 ul_102 ul_103 rfl rfl (by decide) (by decide)) hl.1 rfl (lv_room (Nat.le_of_ble_eq_true rfl)) dL_law_787 ⟨by show cells + 2 + 0 ≤ 600002; omega, by show slots + 12 + 0 ≤ 7302232; omega⟩ (fun r6 u2 H locs hq hw => ?_)
  have hw : wH G A s.heap s L u2 H locs := hw
  have hfin : (∃ fs2, u2 y = eO 8 fs2 ∧ fs2[3]? = some (.int r5)) ∧ (r5 = nI 0 → ∃ rr, u2 ou = eJ G 1 rr ∧ rr 0 = r6.toInt64) := by
    have hmo := hq
    rw [← e5] at hmo
    refine ⟨hmo.1, fun h => ?_⟩
    rw [e5] at h
    revert h
    generalize inB (xs 1) 80 = B0
    intro h
    exact absurd h (by cases B0 <;> decide)
  obtain ⟨⟨fs2, hfy2, hth⟩, hans⟩ := hfin
  refine lv_istore (lv' := [(6, .int r6), (5, .int r5), (4, .int (nI 0)), (3, .ref ou), (2, .ref y), (1, .ref x), (0, .ref b)]) hx hb dL_law_790 hl (by decide) rfl (fun ls hl => ?_)
  refine lv_aload_n hx hb dL_law_792 rfl (lv_at hl 4 rfl) ?_
  refine w_callVi (lf := fun g => (L, g)) (As := []) (rest := []) ⟨hx, hb, hml, hown, hts⟩ hw (c_X8_thrown l G L u2 _ y fs2 hyL hfy2 r5 hth) hyL hfy2 rfl rfl (w_cV 0 hts ul_9 ul_10 ul_11 ul_12 ul_13 rfl rfl (by decide) (by decide)) hl.1 rfl (lv_room (Nat.le_of_ble_eq_true rfl)) dL_law_793 ⟨by show cells + 2 + 0 + 0 ≤ 600002; omega, by show slots + 12 + 0 + 0 ≤ 7302232; omega⟩ (fun r7 u3 H locs hq3 hw => ?_)
  obtain ⟨e7, e8⟩ := hq3
  have hw : wH G A s.heap s L u3 H locs := hw
  rw [e8] at hw
  refine w_ti (y := r5) e7 ?_
  refine lv_iload hx hb dL_law_796 (lv_at hl 1 rfl) ?_
  refine lv_icmp_eq (tgt := 803) hx hb dL_law_798 (by decide) (fun _ => ?_) (fun h => absurd rfl h)
  refine lv_iload hx hb dL_law_803 (lv_at hl 1 rfl) ?_
  refine lv_if_ne (tgt := 820) hx hb dL_law_805 (by decide) (fun h5 => ?_) (fun h5 => ?_)
  · skip
    refine lv_goto (tgt := 1103) hx hb dL_law_820 (by decide) ?_
    refine lv_iinc (v := nI 4) (lv' := [(4, .int (nI 4)), (6, .int r6), (5, .int r5), (3, .ref ou), (2, .ref y), (1, .ref x), (0, .ref b)]) hx hb dL_law_1103 hl (k := 2) rfl (by decide) (by decide) rfl (fun ls hl => ?_)
    refine lv_goto (tgt := 23) hx hb dL_law_1106 (by decide) ?_
    exact law_exit hx hb hr hml hown hts hlocks hXs hbl hbA hAh hw 4 (by decide) (by decide) (by decide) (by show cells + 2 + 0 + 0 ≤ 600002; omega) (by show slots + 12 + 0 + 0 ≤ 7302232; omega) ls (lv_sub hl [0, 6] rfl)
  · skip
    obtain ⟨rr, hrr, hr0⟩ := hans (by rw [nI_0]; exact h5)
    refine lv_aload_n hx hb dL_law_808 rfl (lv_at hl 3 rfl) ?_
    refine lv_iconst (v := nI 0) hx hb dL_law_809 (by decide) ?_
    refine n_lald hx hb hw hoL hrr 0 (by omega) (by omega) dL_law_810 ?_
    refine lv_iload hx hb dL_law_811 (lv_at hl 0 rfl) ?_
    refine lv_i2l (v := r6.toInt64) hx hb dL_law_813 rfl ?_
    refine n_lcmp_eq (tgt := 820) hx hb dL_law_814 dL_law_815 (by decide) (fun h6 => ?_) (fun h6 => ?_)
    · skip
      refine lv_goto (tgt := 1103) hx hb dL_law_820 (by decide) ?_
      refine lv_iinc (v := nI 4) (lv' := [(4, .int (nI 4)), (6, .int r6), (5, .int r5), (3, .ref ou), (2, .ref y), (1, .ref x), (0, .ref b)]) hx hb dL_law_1103 hl (k := 2) rfl (by decide) (by decide) rfl (fun ls hl => ?_)
      refine lv_goto (tgt := 23) hx hb dL_law_1106 (by decide) ?_
      exact law_exit hx hb hr hml hown hts hlocks hXs hbl hbA hAh hw 4 (by decide) (by decide) (by decide) (by show cells + 2 + 0 + 0 ≤ 600002; omega) (by show slots + 12 + 0 + 0 ≤ 7302232; omega) ls (lv_sub hl [0, 6] rfl)
    · skip
      exact absurd hr0 h6
set_option maxRecDepth 100000 in
set_option maxHeartbeats 4000000 in
theorem law_case_11 {p : Program} {l : Launch} {e : Env} {s : State} {m : MethodId} {below : List Frame} {meth : Method} {c : Code} {b : Nat} {xs : Nat → Int32} {G : gG} {A : Nat → Prop} {L : List Nat} {f : Nat → va_E} {H : Heap} {locs : List Loc} {cells slots x y ww dd ca ou : Nat} {own : Nat → Prop} {r : Nat → Int64} (hl0 : l.stackTraces = false) (hx : p.tables.exec = Jvm.exec) (hb : c.code = cL_law) (hr : meth.sig.returnType = ret) (hml : c.maxLocals = 7) (hown : s.vm.findClass RL = some m.cls) (hts : ∀ w ∈ uU, w.before #[Value.ref b] s = true) (hlocks : meth.locks = false) (hXs : va_X b 4 xs s s.heap) (hbl : b < s.heap.size) (hbA : ¬ A b) (hAh : ∀ q, A q → s.heap.size ≤ q) (hX : tX A s s.heap) (hw : wH G A s.heap s L f H locs) (hz : cZ G L f x own) (hm : mZ G L f y ww dd ca) (hoL : ou ∈ L) (hou : f ou = eJ G 1 r) (hno : ¬ own ou) (ny : ¬ own y) (nw : ¬ own ww) (nd : ¬ own dd) (nc : ¬ own ca) (ey : y ≠ ou) (ew : ww ≠ ou) (ed : dd ≠ ou) (ec : ca ≠ ou) (hc : cells ≤ 5000) (hs : slots ≤ 50000) : ∀ ls : Array Slot, lv_has ls 7 [(4, .int (nI 0)), (3, .ref ou), (2, .ref y), (1, .ref x), (0, .ref b)] → W p l e room_1 s m #[Value.ref b] below meth c H locs cells slots (lw_Z below #[Value.ref b] s)  (F0 m 823 ls []) := by
  intro ls hl
  refine lv_aload_n hx hb dL_law_823 rfl (lv_at hl 3 rfl) ?_
  refine lv_aload_n hx hb dL_law_824 rfl (lv_at hl 4 rfl) ?_
  refine lv_iload hx hb dL_law_825 (lv_at hl 0 rfl) ?_
  refine lv_iconst (v := nI 1) hx hb dL_law_827 (by decide) ?_
  refine lv_iadd hx hb dL_law_828 ?_
  refine w_ti (y := nI (0 + 1)) (nI_add _ _) ?_
  refine va_sld hx hb hXs hbl hbA hw.2.2.2.1 (i := nI (0 + 1)) (vp_in_nI (by decide) (by decide)) dL_law_829 ?_
  refine w_ti (y := xs 1) (by rw [nI_clamp (by decide)]) ?_
  refine lv_aload_n hx hb dL_law_830 rfl (lv_at hl 1 rfl) ?_
  refine h_callSi (As := [.ref x, .int (xs 1), .ref ou]) (rest := []) ⟨hx, hb, hml, hown, hts⟩ hX hw (z_L_roots l hl0 G L f _ x ou own r hz hoL hou hno (xs 1)) (h_cS 3 hts ul_104 ul_105 ul_106 ul_107 rfl rfl (by decide) (by decide)) hl.1 rfl (lv_room (Nat.le_of_ble_eq_true rfl)) dL_law_831 ⟨by show cells + 1 ≤ 600002; omega, by show slots + 6 ≤ 7302232; omega⟩ (fun r5 u1 H locs hp hw => ?_)
  obtain ⟨e5, h0, hwr⟩ := hp
  have hm1 : mZ G L u1 y ww dd ca := hm.keep (fun _ h => h) (hwr y ny ey) (hwr ww nw ew) (hwr dd nd ed) (hwr ca nc ec)
  obtain ⟨hyL, hwwL, hddL, hcaL, fsy, hfy⟩ := hm1.mems
  refine lv_istore (lv' := [(5, .int r5), (4, .int (nI 0)), (3, .ref ou), (2, .ref y), (1, .ref x), (0, .ref b)]) hx hb dL_law_834 hl (by decide) rfl (fun ls hl => ?_)
  refine lv_aload_n hx hb dL_law_836 rfl (lv_at hl 3 rfl) ?_
  refine lv_aload_n hx hb dL_law_837 rfl (lv_at hl 5 rfl) ?_
  refine lv_iload hx hb dL_law_838 (lv_at hl 1 rfl) ?_
  refine lv_iconst (v := nI 1) hx hb dL_law_840 (by decide) ?_
  refine lv_iadd hx hb dL_law_841 ?_
  refine w_ti (y := nI (0 + 1)) (nI_add _ _) ?_
  refine va_sld hx hb hXs hbl hbA hw.2.2.2.1 (i := nI (0 + 1)) (vp_in_nI (by decide) (by decide)) dL_law_842 ?_
  refine w_ti (y := xs 1) (by rw [nI_clamp (by decide)]) ?_
  refine w_callVi (lf := fun g => (L, g)) (As := [.int (xs 1)]) (rest := []) ⟨hx, hb, hml, hown, hts⟩ hw (z_X8_roots l G L u1 _ y ww dd ca hm1 (xs 1)) hyL hfy rfl rfl (w_cV 1 hts ul_108 ul_109 ul_110 ul_111 ul_112 rfl rfl (by decide) (by decide)) hl.1 rfl (lv_room (Nat.le_of_ble_eq_true rfl)) dL_law_843 ⟨by show cells + 1 + 0 ≤ 600002; omega, by show slots + 6 + 0 ≤ 7302232; omega⟩ (fun r6 u2 H locs hq hw => ?_)
  have hw : wH G A s.heap s L u2 H locs := hw
  have hfin : (∃ fs2, u2 y = eO 8 fs2 ∧ fs2[3]? = some (.int r5)) ∧ (r5 = nI 0 → ∃ rr, u2 ou = eJ G 1 rr ∧ rr 0 = r6.toInt64) := by
    obtain ⟨h6, hmo⟩ := hq
    rw [← e5] at hmo
    refine ⟨hmo.1, fun h => ⟨_, (hmo.2 ou ey.symm ew.symm ed.symm ec.symm).trans (h0 h), ?_⟩⟩
    have hcd : inB (xs 1) 80 = true := by
      rw [e5] at h
      revert h
      generalize inB (xs 1) 80 = B0
      cases B0 <;> decide
    rw [h6 hcd]
    rfl
  obtain ⟨⟨fs2, hfy2, hth⟩, hans⟩ := hfin
  refine lv_istore (lv' := [(6, .int r6), (5, .int r5), (4, .int (nI 0)), (3, .ref ou), (2, .ref y), (1, .ref x), (0, .ref b)]) hx hb dL_law_846 hl (by decide) rfl (fun ls hl => ?_)
  refine lv_aload_n hx hb dL_law_848 rfl (lv_at hl 4 rfl) ?_
  refine w_callVi (lf := fun g => (L, g)) (As := []) (rest := []) ⟨hx, hb, hml, hown, hts⟩ hw (c_X8_thrown l G L u2 _ y fs2 hyL hfy2 r5 hth) hyL hfy2 rfl rfl (w_cV 0 hts ul_9 ul_10 ul_11 ul_12 ul_13 rfl rfl (by decide) (by decide)) hl.1 rfl (lv_room (Nat.le_of_ble_eq_true rfl)) dL_law_849 ⟨by show cells + 1 + 0 + 0 ≤ 600002; omega, by show slots + 6 + 0 + 0 ≤ 7302232; omega⟩ (fun r7 u3 H locs hq3 hw => ?_)
  obtain ⟨e7, e8⟩ := hq3
  have hw : wH G A s.heap s L u3 H locs := hw
  rw [e8] at hw
  refine w_ti (y := r5) e7 ?_
  refine lv_iload hx hb dL_law_852 (lv_at hl 1 rfl) ?_
  refine lv_icmp_eq (tgt := 859) hx hb dL_law_854 (by decide) (fun _ => ?_) (fun h => absurd rfl h)
  refine lv_iload hx hb dL_law_859 (lv_at hl 1 rfl) ?_
  refine lv_if_ne (tgt := 876) hx hb dL_law_861 (by decide) (fun h5 => ?_) (fun h5 => ?_)
  · skip
    refine lv_goto (tgt := 1103) hx hb dL_law_876 (by decide) ?_
    refine lv_iinc (v := nI 4) (lv' := [(4, .int (nI 4)), (6, .int r6), (5, .int r5), (3, .ref ou), (2, .ref y), (1, .ref x), (0, .ref b)]) hx hb dL_law_1103 hl (k := 2) rfl (by decide) (by decide) rfl (fun ls hl => ?_)
    refine lv_goto (tgt := 23) hx hb dL_law_1106 (by decide) ?_
    exact law_exit hx hb hr hml hown hts hlocks hXs hbl hbA hAh hw 4 (by decide) (by decide) (by decide) (by show cells + 1 + 0 + 0 ≤ 600002; omega) (by show slots + 6 + 0 + 0 ≤ 7302232; omega) ls (lv_sub hl [0, 6] rfl)
  · skip
    obtain ⟨rr, hrr, hr0⟩ := hans (by rw [nI_0]; exact h5)
    refine lv_aload_n hx hb dL_law_864 rfl (lv_at hl 3 rfl) ?_
    refine lv_iconst (v := nI 0) hx hb dL_law_865 (by decide) ?_
    refine n_lald hx hb hw hoL hrr 0 (by omega) (by omega) dL_law_866 ?_
    refine lv_iload hx hb dL_law_867 (lv_at hl 0 rfl) ?_
    refine lv_i2l (v := r6.toInt64) hx hb dL_law_869 rfl ?_
    refine n_lcmp_eq (tgt := 876) hx hb dL_law_870 dL_law_871 (by decide) (fun h6 => ?_) (fun h6 => ?_)
    · skip
      refine lv_goto (tgt := 1103) hx hb dL_law_876 (by decide) ?_
      refine lv_iinc (v := nI 4) (lv' := [(4, .int (nI 4)), (6, .int r6), (5, .int r5), (3, .ref ou), (2, .ref y), (1, .ref x), (0, .ref b)]) hx hb dL_law_1103 hl (k := 2) rfl (by decide) (by decide) rfl (fun ls hl => ?_)
      refine lv_goto (tgt := 23) hx hb dL_law_1106 (by decide) ?_
      exact law_exit hx hb hr hml hown hts hlocks hXs hbl hbA hAh hw 4 (by decide) (by decide) (by decide) (by show cells + 1 + 0 + 0 ≤ 600002; omega) (by show slots + 6 + 0 + 0 ≤ 7302232; omega) ls (lv_sub hl [0, 6] rfl)
    · skip
      exact absurd hr0 h6
set_option maxRecDepth 100000 in
set_option maxHeartbeats 4000000 in
theorem law_case_12 {p : Program} {l : Launch} {e : Env} {s : State} {m : MethodId} {below : List Frame} {meth : Method} {c : Code} {b : Nat} {xs : Nat → Int32} {G : gG} {A : Nat → Prop} {L : List Nat} {f : Nat → va_E} {H : Heap} {locs : List Loc} {cells slots x y ww dd ca ou : Nat} {own : Nat → Prop} {r : Nat → Int64} (hl0 : l.stackTraces = false) (hx : p.tables.exec = Jvm.exec) (hb : c.code = cL_law) (hr : meth.sig.returnType = ret) (hml : c.maxLocals = 7) (hown : s.vm.findClass RL = some m.cls) (hts : ∀ w ∈ uU, w.before #[Value.ref b] s = true) (hlocks : meth.locks = false) (hXs : va_X b 4 xs s s.heap) (hbl : b < s.heap.size) (hbA : ¬ A b) (hAh : ∀ q, A q → s.heap.size ≤ q) (hX : tX A s s.heap) (hw : wH G A s.heap s L f H locs) (hz : cZ G L f x own) (hm : mZ G L f y ww dd ca) (hoL : ou ∈ L) (hou : f ou = eJ G 1 r) (hno : ¬ own ou) (ny : ¬ own y) (nw : ¬ own ww) (nd : ¬ own dd) (nc : ¬ own ca) (ey : y ≠ ou) (ew : ww ≠ ou) (ed : dd ≠ ou) (ec : ca ≠ ou) (hc : cells ≤ 5000) (hs : slots ≤ 50000) : ∀ ls : Array Slot, lv_has ls 7 [(4, .int (nI 0)), (3, .ref ou), (2, .ref y), (1, .ref x), (0, .ref b)] → W p l e room_1 s m #[Value.ref b] below meth c H locs cells slots (lw_Z below #[Value.ref b] s)  (F0 m 879 ls []) := by
  intro ls hl
  refine lv_aload_n hx hb dL_law_879 rfl (lv_at hl 3 rfl) ?_
  refine lv_aload_n hx hb dL_law_880 rfl (lv_at hl 4 rfl) ?_
  refine lv_iload hx hb dL_law_881 (lv_at hl 0 rfl) ?_
  refine lv_iconst (v := nI 1) hx hb dL_law_883 (by decide) ?_
  refine lv_iadd hx hb dL_law_884 ?_
  refine w_ti (y := nI (0 + 1)) (nI_add _ _) ?_
  refine va_sld hx hb hXs hbl hbA hw.2.2.2.1 (i := nI (0 + 1)) (vp_in_nI (by decide) (by decide)) dL_law_885 ?_
  refine w_ti (y := xs 1) (by rw [nI_clamp (by decide)]) ?_
  refine lv_aload_n hx hb dL_law_886 rfl (lv_at hl 4 rfl) ?_
  refine lv_iload hx hb dL_law_887 (lv_at hl 0 rfl) ?_
  refine lv_iconst (v := nI 2) hx hb dL_law_889 (by decide) ?_
  refine lv_iadd hx hb dL_law_890 ?_
  refine w_ti (y := nI (0 + 2)) (nI_add _ _) ?_
  refine va_sld hx hb hXs hbl hbA hw.2.2.2.1 (i := nI (0 + 2)) (vp_in_nI (by decide) (by decide)) dL_law_891 ?_
  refine w_ti (y := xs 2) (by rw [nI_clamp (by decide)]) ?_
  refine lv_aload_n hx hb dL_law_892 rfl (lv_at hl 1 rfl) ?_
  refine h_callSi (As := [.ref x, .int (xs 1), .int (xs 2), .ref ou]) (rest := []) ⟨hx, hb, hml, hown, hts⟩ hX hw (z_L_parts l hl0 G L f _ x ou own r hz hoL hou hno (xs 1) (xs 2)) (h_cS 4 hts ul_113 ul_114 ul_115 ul_116 rfl rfl (by decide) (by decide)) hl.1 rfl (lv_room (Nat.le_of_ble_eq_true rfl)) dL_law_893 ⟨by show cells + 2 ≤ 600002; omega, by show slots + 12 ≤ 7302232; omega⟩ (fun r5 u1 H locs hp hw => ?_)
  obtain ⟨e5, h0, hwr⟩ := hp
  have hm1 : mZ G L u1 y ww dd ca := hm.keep (fun _ h => h) (hwr y ny ey) (hwr ww nw ew) (hwr dd nd ed) (hwr ca nc ec)
  obtain ⟨hyL, hwwL, hddL, hcaL, fsy, hfy⟩ := hm1.mems
  refine lv_istore (lv' := [(5, .int r5), (4, .int (nI 0)), (3, .ref ou), (2, .ref y), (1, .ref x), (0, .ref b)]) hx hb dL_law_896 hl (by decide) rfl (fun ls hl => ?_)
  refine lv_aload_n hx hb dL_law_898 rfl (lv_at hl 3 rfl) ?_
  refine lv_aload_n hx hb dL_law_899 rfl (lv_at hl 5 rfl) ?_
  refine lv_iload hx hb dL_law_900 (lv_at hl 1 rfl) ?_
  refine lv_iconst (v := nI 1) hx hb dL_law_902 (by decide) ?_
  refine lv_iadd hx hb dL_law_903 ?_
  refine w_ti (y := nI (0 + 1)) (nI_add _ _) ?_
  refine va_sld hx hb hXs hbl hbA hw.2.2.2.1 (i := nI (0 + 1)) (vp_in_nI (by decide) (by decide)) dL_law_904 ?_
  refine w_ti (y := xs 1) (by rw [nI_clamp (by decide)]) ?_
  refine lv_aload_n hx hb dL_law_905 rfl (lv_at hl 5 rfl) ?_
  refine lv_iload hx hb dL_law_906 (lv_at hl 1 rfl) ?_
  refine lv_iconst (v := nI 2) hx hb dL_law_908 (by decide) ?_
  refine lv_iadd hx hb dL_law_909 ?_
  refine w_ti (y := nI (0 + 2)) (nI_add _ _) ?_
  refine va_sld hx hb hXs hbl hbA hw.2.2.2.1 (i := nI (0 + 2)) (vp_in_nI (by decide) (by decide)) dL_law_910 ?_
  refine w_ti (y := xs 2) (by rw [nI_clamp (by decide)]) ?_
  refine w_callVi (lf := fun g => (L, g)) (As := [.int (xs 1), .int (xs 2)]) (rest := []) ⟨hx, hb, hml, hown, hts⟩ hw (z_X8_parts l G L u1 _ y ww dd ca hm1 (xs 1) (xs 2)) hyL hfy rfl rfl (w_cV 2 hts ul_117 ul_118 ul_119 ul_120 ul_121 rfl rfl (by decide) (by decide)) hl.1 rfl (lv_room (Nat.le_of_ble_eq_true rfl)) dL_law_911 ⟨by show cells + 2 + 0 ≤ 600002; omega, by show slots + 12 + 0 ≤ 7302232; omega⟩ (fun r6 u2 H locs hq hw => ?_)
  have hw : wH G A s.heap s L u2 H locs := hw
  have hfin : (∃ fs2, u2 y = eO 8 fs2 ∧ fs2[3]? = some (.int r5)) ∧ (r5 = nI 0 → ∃ rr, u2 ou = eJ G 1 rr ∧ rr 0 = r6.toInt64) := by
    obtain ⟨h6, hmo⟩ := hq
    rw [← e5] at hmo
    refine ⟨hmo.1, fun h => ⟨_, (hmo.2 ou ey.symm ew.symm ed.symm ec.symm).trans (h0 h), ?_⟩⟩
    have hcd : (inB (xs 1) 80 && spB (xs 2)) = true := by
      rw [e5] at h
      revert h
      generalize inB (xs 1) 80 = B0
      generalize spB (xs 2) = B1
      cases B0 <;> cases B1 <;> decide
    rw [h6 hcd]
    rfl
  obtain ⟨⟨fs2, hfy2, hth⟩, hans⟩ := hfin
  refine lv_istore (lv' := [(6, .int r6), (5, .int r5), (4, .int (nI 0)), (3, .ref ou), (2, .ref y), (1, .ref x), (0, .ref b)]) hx hb dL_law_914 hl (by decide) rfl (fun ls hl => ?_)
  refine lv_aload_n hx hb dL_law_916 rfl (lv_at hl 4 rfl) ?_
  refine w_callVi (lf := fun g => (L, g)) (As := []) (rest := []) ⟨hx, hb, hml, hown, hts⟩ hw (c_X8_thrown l G L u2 _ y fs2 hyL hfy2 r5 hth) hyL hfy2 rfl rfl (w_cV 0 hts ul_9 ul_10 ul_11 ul_12 ul_13 rfl rfl (by decide) (by decide)) hl.1 rfl (lv_room (Nat.le_of_ble_eq_true rfl)) dL_law_917 ⟨by show cells + 2 + 0 + 0 ≤ 600002; omega, by show slots + 12 + 0 + 0 ≤ 7302232; omega⟩ (fun r7 u3 H locs hq3 hw => ?_)
  obtain ⟨e7, e8⟩ := hq3
  have hw : wH G A s.heap s L u3 H locs := hw
  rw [e8] at hw
  refine w_ti (y := r5) e7 ?_
  refine lv_iload hx hb dL_law_920 (lv_at hl 1 rfl) ?_
  refine lv_icmp_eq (tgt := 927) hx hb dL_law_922 (by decide) (fun _ => ?_) (fun h => absurd rfl h)
  refine lv_iload hx hb dL_law_927 (lv_at hl 1 rfl) ?_
  refine lv_if_ne (tgt := 944) hx hb dL_law_929 (by decide) (fun h5 => ?_) (fun h5 => ?_)
  · skip
    refine lv_goto (tgt := 1103) hx hb dL_law_944 (by decide) ?_
    refine lv_iinc (v := nI 4) (lv' := [(4, .int (nI 4)), (6, .int r6), (5, .int r5), (3, .ref ou), (2, .ref y), (1, .ref x), (0, .ref b)]) hx hb dL_law_1103 hl (k := 2) rfl (by decide) (by decide) rfl (fun ls hl => ?_)
    refine lv_goto (tgt := 23) hx hb dL_law_1106 (by decide) ?_
    exact law_exit hx hb hr hml hown hts hlocks hXs hbl hbA hAh hw 4 (by decide) (by decide) (by decide) (by show cells + 2 + 0 + 0 ≤ 600002; omega) (by show slots + 12 + 0 + 0 ≤ 7302232; omega) ls (lv_sub hl [0, 6] rfl)
  · skip
    obtain ⟨rr, hrr, hr0⟩ := hans (by rw [nI_0]; exact h5)
    refine lv_aload_n hx hb dL_law_932 rfl (lv_at hl 3 rfl) ?_
    refine lv_iconst (v := nI 0) hx hb dL_law_933 (by decide) ?_
    refine n_lald hx hb hw hoL hrr 0 (by omega) (by omega) dL_law_934 ?_
    refine lv_iload hx hb dL_law_935 (lv_at hl 0 rfl) ?_
    refine lv_i2l (v := r6.toInt64) hx hb dL_law_937 rfl ?_
    refine n_lcmp_eq (tgt := 944) hx hb dL_law_938 dL_law_939 (by decide) (fun h6 => ?_) (fun h6 => ?_)
    · skip
      refine lv_goto (tgt := 1103) hx hb dL_law_944 (by decide) ?_
      refine lv_iinc (v := nI 4) (lv' := [(4, .int (nI 4)), (6, .int r6), (5, .int r5), (3, .ref ou), (2, .ref y), (1, .ref x), (0, .ref b)]) hx hb dL_law_1103 hl (k := 2) rfl (by decide) (by decide) rfl (fun ls hl => ?_)
      refine lv_goto (tgt := 23) hx hb dL_law_1106 (by decide) ?_
      exact law_exit hx hb hr hml hown hts hlocks hXs hbl hbA hAh hw 4 (by decide) (by decide) (by decide) (by show cells + 2 + 0 + 0 ≤ 600002; omega) (by show slots + 12 + 0 + 0 ≤ 7302232; omega) ls (lv_sub hl [0, 6] rfl)
    · skip
      exact absurd hr0 h6
set_option maxRecDepth 100000 in
set_option maxHeartbeats 4000000 in
theorem law_case_13 {p : Program} {l : Launch} {e : Env} {s : State} {m : MethodId} {below : List Frame} {meth : Method} {c : Code} {b : Nat} {xs : Nat → Int32} {G : gG} {A : Nat → Prop} {L : List Nat} {f : Nat → va_E} {H : Heap} {locs : List Loc} {cells slots x y ww dd ca ou : Nat} {own : Nat → Prop} {r : Nat → Int64} (hl0 : l.stackTraces = false) (hx : p.tables.exec = Jvm.exec) (hb : c.code = cL_law) (hr : meth.sig.returnType = ret) (hml : c.maxLocals = 7) (hown : s.vm.findClass RL = some m.cls) (hts : ∀ w ∈ uU, w.before #[Value.ref b] s = true) (hlocks : meth.locks = false) (hXs : va_X b 4 xs s s.heap) (hbl : b < s.heap.size) (hbA : ¬ A b) (hAh : ∀ q, A q → s.heap.size ≤ q) (hX : tX A s s.heap) (hw : wH G A s.heap s L f H locs) (hz : cZ G L f x own) (hm : mZ G L f y ww dd ca) (hoL : ou ∈ L) (hou : f ou = eJ G 1 r) (hno : ¬ own ou) (ny : ¬ own y) (nw : ¬ own ww) (nd : ¬ own dd) (nc : ¬ own ca) (ey : y ≠ ou) (ew : ww ≠ ou) (ed : dd ≠ ou) (ec : ca ≠ ou) (hc : cells ≤ 5000) (hs : slots ≤ 50000) : ∀ ls : Array Slot, lv_has ls 7 [(4, .int (nI 0)), (3, .ref ou), (2, .ref y), (1, .ref x), (0, .ref b)] → W p l e room_1 s m #[Value.ref b] below meth c H locs cells slots (lw_Z below #[Value.ref b] s)  (F0 m 947 ls []) := by
  intro ls hl
  refine lv_aload_n hx hb dL_law_947 rfl (lv_at hl 3 rfl) ?_
  refine lv_aload_n hx hb dL_law_948 rfl (lv_at hl 4 rfl) ?_
  refine lv_iload hx hb dL_law_949 (lv_at hl 0 rfl) ?_
  refine lv_iconst (v := nI 1) hx hb dL_law_951 (by decide) ?_
  refine lv_iadd hx hb dL_law_952 ?_
  refine w_ti (y := nI (0 + 1)) (nI_add _ _) ?_
  refine va_sld hx hb hXs hbl hbA hw.2.2.2.1 (i := nI (0 + 1)) (vp_in_nI (by decide) (by decide)) dL_law_953 ?_
  refine w_ti (y := xs 1) (by rw [nI_clamp (by decide)]) ?_
  refine lv_aload_n hx hb dL_law_954 rfl (lv_at hl 1 rfl) ?_
  refine h_callSi (As := [.ref x, .int (xs 1), .ref ou]) (rest := []) ⟨hx, hb, hml, hown, hts⟩ hX hw (z_L_squareFree l hl0 G L f _ x ou own r hz hoL hou hno (xs 1)) (h_cS 3 hts ul_122 ul_123 ul_124 ul_125 rfl rfl (by decide) (by decide)) hl.1 rfl (lv_room (Nat.le_of_ble_eq_true rfl)) dL_law_955 ⟨by show cells + 1 ≤ 600002; omega, by show slots + 6 ≤ 7302232; omega⟩ (fun r5 u1 H locs hp hw => ?_)
  obtain ⟨e5, h0, hwr⟩ := hp
  have hm1 : mZ G L u1 y ww dd ca := hm.keep (fun _ h => h) (hwr y ny ey) (hwr ww nw ew) (hwr dd nd ed) (hwr ca nc ec)
  obtain ⟨hyL, hwwL, hddL, hcaL, fsy, hfy⟩ := hm1.mems
  refine lv_istore (lv' := [(5, .int r5), (4, .int (nI 0)), (3, .ref ou), (2, .ref y), (1, .ref x), (0, .ref b)]) hx hb dL_law_958 hl (by decide) rfl (fun ls hl => ?_)
  refine lv_aload_n hx hb dL_law_960 rfl (lv_at hl 3 rfl) ?_
  refine lv_aload_n hx hb dL_law_961 rfl (lv_at hl 5 rfl) ?_
  refine lv_iload hx hb dL_law_962 (lv_at hl 1 rfl) ?_
  refine lv_iconst (v := nI 1) hx hb dL_law_964 (by decide) ?_
  refine lv_iadd hx hb dL_law_965 ?_
  refine w_ti (y := nI (0 + 1)) (nI_add _ _) ?_
  refine va_sld hx hb hXs hbl hbA hw.2.2.2.1 (i := nI (0 + 1)) (vp_in_nI (by decide) (by decide)) dL_law_966 ?_
  refine w_ti (y := xs 1) (by rw [nI_clamp (by decide)]) ?_
  refine w_callVi (lf := fun g => (L, g)) (As := [.int (xs 1)]) (rest := []) ⟨hx, hb, hml, hown, hts⟩ hw (z_X8_squareFree l G L u1 _ y ww dd ca hm1 (xs 1)) hyL hfy rfl rfl (w_cV 1 hts ul_126 ul_127 ul_128 ul_129 ul_130 rfl rfl (by decide) (by decide)) hl.1 rfl (lv_room (Nat.le_of_ble_eq_true rfl)) dL_law_967 ⟨by show cells + 1 + 0 ≤ 600002; omega, by show slots + 6 + 0 ≤ 7302232; omega⟩ (fun r6 u2 H locs hq hw => ?_)
  have hw : wH G A s.heap s L u2 H locs := hw
  have hfin : (∃ fs2, u2 y = eO 8 fs2 ∧ fs2[3]? = some (.int r5)) ∧ (r5 = nI 0 → ∃ rr, u2 ou = eJ G 1 rr ∧ rr 0 = bL r6) := by
    obtain ⟨h6, hmo⟩ := hq
    rw [← e5] at hmo
    refine ⟨hmo.1, fun h => ⟨_, (hmo.2 ou ey.symm ew.symm ed.symm ec.symm).trans (h0 h), ?_⟩⟩
    have hcd : inB (xs 1) 80 = true := by
      rw [e5] at h
      revert h
      generalize inB (xs 1) 80 = B0
      cases B0 <;> decide
    rw [h6 hcd]
    rfl
  obtain ⟨⟨fs2, hfy2, hth⟩, hans⟩ := hfin
  refine lv_istore (lv' := [(6, .int r6), (5, .int r5), (4, .int (nI 0)), (3, .ref ou), (2, .ref y), (1, .ref x), (0, .ref b)]) hx hb dL_law_970 hl (by decide) rfl (fun ls hl => ?_)
  refine lv_aload_n hx hb dL_law_972 rfl (lv_at hl 4 rfl) ?_
  refine w_callVi (lf := fun g => (L, g)) (As := []) (rest := []) ⟨hx, hb, hml, hown, hts⟩ hw (c_X8_thrown l G L u2 _ y fs2 hyL hfy2 r5 hth) hyL hfy2 rfl rfl (w_cV 0 hts ul_9 ul_10 ul_11 ul_12 ul_13 rfl rfl (by decide) (by decide)) hl.1 rfl (lv_room (Nat.le_of_ble_eq_true rfl)) dL_law_973 ⟨by show cells + 1 + 0 + 0 ≤ 600002; omega, by show slots + 6 + 0 + 0 ≤ 7302232; omega⟩ (fun r7 u3 H locs hq3 hw => ?_)
  obtain ⟨e7, e8⟩ := hq3
  have hw : wH G A s.heap s L u3 H locs := hw
  rw [e8] at hw
  refine w_ti (y := r5) e7 ?_
  refine lv_iload hx hb dL_law_976 (lv_at hl 1 rfl) ?_
  refine lv_icmp_eq (tgt := 983) hx hb dL_law_978 (by decide) (fun _ => ?_) (fun h => absurd rfl h)
  refine lv_iload hx hb dL_law_983 (lv_at hl 1 rfl) ?_
  refine lv_if_ne (tgt := 1007) hx hb dL_law_985 (by decide) (fun h5 => ?_) (fun h5 => ?_)
  · skip
    refine lv_goto (tgt := 1103) hx hb dL_law_1007 (by decide) ?_
    refine lv_iinc (v := nI 4) (lv' := [(4, .int (nI 4)), (6, .int r6), (5, .int r5), (3, .ref ou), (2, .ref y), (1, .ref x), (0, .ref b)]) hx hb dL_law_1103 hl (k := 2) rfl (by decide) (by decide) rfl (fun ls hl => ?_)
    refine lv_goto (tgt := 23) hx hb dL_law_1106 (by decide) ?_
    exact law_exit hx hb hr hml hown hts hlocks hXs hbl hbA hAh hw 4 (by decide) (by decide) (by decide) (by show cells + 1 + 0 + 0 ≤ 600002; omega) (by show slots + 6 + 0 + 0 ≤ 7302232; omega) ls (lv_sub hl [0, 6] rfl)
  · skip
    obtain ⟨rr, hrr, hr0⟩ := hans (by rw [nI_0]; exact h5)
    refine lv_aload_n hx hb dL_law_988 rfl (lv_at hl 3 rfl) ?_
    refine lv_iconst (v := nI 0) hx hb dL_law_989 (by decide) ?_
    refine n_lald hx hb hw hoL hrr 0 (by omega) (by omega) dL_law_990 ?_
    refine lv_iload hx hb dL_law_991 (lv_at hl 0 rfl) ?_
    refine lv_if_eq (tgt := 1000) hx hb dL_law_993 (by decide) (fun hb6 => ?_) (fun hb6 => ?_)
    · skip
      refine lv_lconst (v := 0) hx hb dL_law_1000 (by decide) ?_
      refine n_lcmp_eq (tgt := 1007) hx hb dL_law_1001 dL_law_1002 (by decide) (fun h6 => ?_) (fun h6 => ?_)
      · skip
        refine lv_goto (tgt := 1103) hx hb dL_law_1007 (by decide) ?_
        refine lv_iinc (v := nI 4) (lv' := [(4, .int (nI 4)), (6, .int r6), (5, .int r5), (3, .ref ou), (2, .ref y), (1, .ref x), (0, .ref b)]) hx hb dL_law_1103 hl (k := 2) rfl (by decide) (by decide) rfl (fun ls hl => ?_)
        refine lv_goto (tgt := 23) hx hb dL_law_1106 (by decide) ?_
        exact law_exit hx hb hr hml hown hts hlocks hXs hbl hbA hAh hw 4 (by decide) (by decide) (by decide) (by show cells + 1 + 0 + 0 ≤ 600002; omega) (by show slots + 6 + 0 + 0 ≤ 7302232; omega) ls (lv_sub hl [0, 6] rfl)
      · skip
        exact absurd (hr0.trans (if_pos hb6)) h6
    · skip
      refine lv_lconst (v := 1) hx hb dL_law_996 (by decide) ?_
      refine lv_goto (tgt := 1001) hx hb dL_law_997 (by decide) ?_
      refine n_lcmp_eq (tgt := 1007) hx hb dL_law_1001 dL_law_1002 (by decide) (fun h6 => ?_) (fun h6 => ?_)
      · skip
        refine lv_goto (tgt := 1103) hx hb dL_law_1007 (by decide) ?_
        refine lv_iinc (v := nI 4) (lv' := [(4, .int (nI 4)), (6, .int r6), (5, .int r5), (3, .ref ou), (2, .ref y), (1, .ref x), (0, .ref b)]) hx hb dL_law_1103 hl (k := 2) rfl (by decide) (by decide) rfl (fun ls hl => ?_)
        refine lv_goto (tgt := 23) hx hb dL_law_1106 (by decide) ?_
        exact law_exit hx hb hr hml hown hts hlocks hXs hbl hbA hAh hw 4 (by decide) (by decide) (by decide) (by show cells + 1 + 0 + 0 ≤ 600002; omega) (by show slots + 6 + 0 + 0 ≤ 7302232; omega) ls (lv_sub hl [0, 6] rfl)
      · skip
        exact absurd (hr0.trans (if_neg hb6)) h6
set_option maxRecDepth 100000 in
set_option maxHeartbeats 4000000 in
theorem law_case_14 {p : Program} {l : Launch} {e : Env} {s : State} {m : MethodId} {below : List Frame} {meth : Method} {c : Code} {b : Nat} {xs : Nat → Int32} {G : gG} {A : Nat → Prop} {L : List Nat} {f : Nat → va_E} {H : Heap} {locs : List Loc} {cells slots x y ww dd ca ou : Nat} {own : Nat → Prop} {r : Nat → Int64} (hl0 : l.stackTraces = false) (hx : p.tables.exec = Jvm.exec) (hb : c.code = cL_law) (hr : meth.sig.returnType = ret) (hml : c.maxLocals = 7) (hown : s.vm.findClass RL = some m.cls) (hts : ∀ w ∈ uU, w.before #[Value.ref b] s = true) (hlocks : meth.locks = false) (hXs : va_X b 4 xs s s.heap) (hbl : b < s.heap.size) (hbA : ¬ A b) (hAh : ∀ q, A q → s.heap.size ≤ q) (hX : tX A s s.heap) (hw : wH G A s.heap s L f H locs) (hz : cZ G L f x own) (hm : mZ G L f y ww dd ca) (hoL : ou ∈ L) (hou : f ou = eJ G 1 r) (hno : ¬ own ou) (ny : ¬ own y) (nw : ¬ own ww) (nd : ¬ own dd) (nc : ¬ own ca) (ey : y ≠ ou) (ew : ww ≠ ou) (ed : dd ≠ ou) (ec : ca ≠ ou) (hc : cells ≤ 5000) (hs : slots ≤ 50000) : ∀ ls : Array Slot, lv_has ls 7 [(4, .int (nI 0)), (3, .ref ou), (2, .ref y), (1, .ref x), (0, .ref b)] → W p l e room_1 s m #[Value.ref b] below meth c H locs cells slots (lw_Z below #[Value.ref b] s)  (F0 m 1010 ls []) := by
  intro ls hl
  refine lv_aload_n hx hb dL_law_1010 rfl (lv_at hl 3 rfl) ?_
  refine lv_aload_n hx hb dL_law_1011 rfl (lv_at hl 4 rfl) ?_
  refine lv_iload hx hb dL_law_1012 (lv_at hl 0 rfl) ?_
  refine lv_iconst (v := nI 1) hx hb dL_law_1014 (by decide) ?_
  refine lv_iadd hx hb dL_law_1015 ?_
  refine w_ti (y := nI (0 + 1)) (nI_add _ _) ?_
  refine va_sld hx hb hXs hbl hbA hw.2.2.2.1 (i := nI (0 + 1)) (vp_in_nI (by decide) (by decide)) dL_law_1016 ?_
  refine w_ti (y := xs 1) (by rw [nI_clamp (by decide)]) ?_
  refine lv_aload_n hx hb dL_law_1017 rfl (lv_at hl 4 rfl) ?_
  refine lv_iload hx hb dL_law_1018 (lv_at hl 0 rfl) ?_
  refine lv_iconst (v := nI 2) hx hb dL_law_1020 (by decide) ?_
  refine lv_iadd hx hb dL_law_1021 ?_
  refine w_ti (y := nI (0 + 2)) (nI_add _ _) ?_
  refine va_sld hx hb hXs hbl hbA hw.2.2.2.1 (i := nI (0 + 2)) (vp_in_nI (by decide) (by decide)) dL_law_1022 ?_
  refine w_ti (y := xs 2) (by rw [nI_clamp (by decide)]) ?_
  refine lv_aload_n hx hb dL_law_1023 rfl (lv_at hl 4 rfl) ?_
  refine lv_iload hx hb dL_law_1024 (lv_at hl 0 rfl) ?_
  refine lv_iconst (v := nI 3) hx hb dL_law_1026 (by decide) ?_
  refine lv_iadd hx hb dL_law_1027 ?_
  refine w_ti (y := nI (0 + 3)) (nI_add _ _) ?_
  refine va_sld hx hb hXs hbl hbA hw.2.2.2.1 (i := nI (0 + 3)) (vp_in_nI (by decide) (by decide)) dL_law_1028 ?_
  refine w_ti (y := xs 3) (by rw [nI_clamp (by decide)]) ?_
  refine lv_aload_n hx hb dL_law_1029 rfl (lv_at hl 1 rfl) ?_
  refine h_callSi (As := [.ref x, .int (xs 1), .int (xs 2), .int (xs 3), .ref ou]) (rest := []) ⟨hx, hb, hml, hown, hts⟩ hX hw (z_L_value l hl0 G L f _ x ou own r hz hoL hou hno (xs 1) (xs 2) (xs 3)) (h_cS 5 hts ul_131 ul_132 ul_133 ul_134 rfl rfl (by decide) (by decide)) hl.1 rfl (lv_room (Nat.le_of_ble_eq_true rfl)) dL_law_1030 ⟨by show cells + 2 ≤ 600002; omega, by show slots + 12 ≤ 7302232; omega⟩ (fun r5 u1 H locs hp hw => ?_)
  obtain ⟨e5, h0, hwr⟩ := hp
  have hm1 : mZ G L u1 y ww dd ca := hm.keep (fun _ h => h) (hwr y ny ey) (hwr ww nw ew) (hwr dd nd ed) (hwr ca nc ec)
  obtain ⟨hyL, hwwL, hddL, hcaL, fsy, hfy⟩ := hm1.mems
  refine lv_istore (lv' := [(5, .int r5), (4, .int (nI 0)), (3, .ref ou), (2, .ref y), (1, .ref x), (0, .ref b)]) hx hb dL_law_1033 hl (by decide) rfl (fun ls hl => ?_)
  refine lv_aload_n hx hb dL_law_1035 rfl (lv_at hl 3 rfl) ?_
  refine lv_aload_n hx hb dL_law_1036 rfl (lv_at hl 5 rfl) ?_
  refine lv_iload hx hb dL_law_1037 (lv_at hl 1 rfl) ?_
  refine lv_iconst (v := nI 1) hx hb dL_law_1039 (by decide) ?_
  refine lv_iadd hx hb dL_law_1040 ?_
  refine w_ti (y := nI (0 + 1)) (nI_add _ _) ?_
  refine va_sld hx hb hXs hbl hbA hw.2.2.2.1 (i := nI (0 + 1)) (vp_in_nI (by decide) (by decide)) dL_law_1041 ?_
  refine w_ti (y := xs 1) (by rw [nI_clamp (by decide)]) ?_
  refine lv_aload_n hx hb dL_law_1042 rfl (lv_at hl 5 rfl) ?_
  refine lv_iload hx hb dL_law_1043 (lv_at hl 1 rfl) ?_
  refine lv_iconst (v := nI 2) hx hb dL_law_1045 (by decide) ?_
  refine lv_iadd hx hb dL_law_1046 ?_
  refine w_ti (y := nI (0 + 2)) (nI_add _ _) ?_
  refine va_sld hx hb hXs hbl hbA hw.2.2.2.1 (i := nI (0 + 2)) (vp_in_nI (by decide) (by decide)) dL_law_1047 ?_
  refine w_ti (y := xs 2) (by rw [nI_clamp (by decide)]) ?_
  refine lv_aload_n hx hb dL_law_1048 rfl (lv_at hl 5 rfl) ?_
  refine lv_iload hx hb dL_law_1049 (lv_at hl 1 rfl) ?_
  refine lv_iconst (v := nI 3) hx hb dL_law_1051 (by decide) ?_
  refine lv_iadd hx hb dL_law_1052 ?_
  refine w_ti (y := nI (0 + 3)) (nI_add _ _) ?_
  refine va_sld hx hb hXs hbl hbA hw.2.2.2.1 (i := nI (0 + 3)) (vp_in_nI (by decide) (by decide)) dL_law_1053 ?_
  refine w_ti (y := xs 3) (by rw [nI_clamp (by decide)]) ?_
  refine w_callVi (lf := fun g => (L, g)) (As := [.int (xs 1), .int (xs 2), .int (xs 3)]) (rest := []) ⟨hx, hb, hml, hown, hts⟩ hw (z_X8_value l G L u1 _ y ww dd ca hm1 (xs 1) (xs 2) (xs 3)) hyL hfy rfl rfl (w_cV 3 hts ul_135 ul_136 ul_137 ul_138 ul_139 rfl rfl (by decide) (by decide)) hl.1 rfl (lv_room (Nat.le_of_ble_eq_true rfl)) dL_law_1054 ⟨by show cells + 2 + 0 ≤ 600002; omega, by show slots + 12 + 0 ≤ 7302232; omega⟩ (fun r6 u2 H locs hq hw => ?_)
  have hw : wH G A s.heap s L u2 H locs := hw
  have hfin : (∃ fs2, u2 y = eO 8 fs2 ∧ fs2[3]? = some (.int r5)) ∧ (r5 = nI 0 → ∃ rr, u2 ou = eJ G 1 rr ∧ rr 0 = r6.toInt64) := by
    obtain ⟨h6, hmo⟩ := hq
    rw [← e5] at hmo
    refine ⟨hmo.1, fun h => ⟨_, (hmo.2 ou ey.symm ew.symm ed.symm ec.symm).trans (h0 h), ?_⟩⟩
    have hcd : (inB (xs 1) 80 && okM (xs 3)) = true := by
      rw [e5] at h
      revert h
      generalize inB (xs 1) 80 = B0
      generalize okM (xs 3) = B1
      cases B0 <;> cases B1 <;> decide
    rw [h6 hcd]
    rfl
  obtain ⟨⟨fs2, hfy2, hth⟩, hans⟩ := hfin
  refine lv_istore (lv' := [(6, .int r6), (5, .int r5), (4, .int (nI 0)), (3, .ref ou), (2, .ref y), (1, .ref x), (0, .ref b)]) hx hb dL_law_1057 hl (by decide) rfl (fun ls hl => ?_)
  refine lv_aload_n hx hb dL_law_1059 rfl (lv_at hl 4 rfl) ?_
  refine w_callVi (lf := fun g => (L, g)) (As := []) (rest := []) ⟨hx, hb, hml, hown, hts⟩ hw (c_X8_thrown l G L u2 _ y fs2 hyL hfy2 r5 hth) hyL hfy2 rfl rfl (w_cV 0 hts ul_9 ul_10 ul_11 ul_12 ul_13 rfl rfl (by decide) (by decide)) hl.1 rfl (lv_room (Nat.le_of_ble_eq_true rfl)) dL_law_1060 ⟨by show cells + 2 + 0 + 0 ≤ 600002; omega, by show slots + 12 + 0 + 0 ≤ 7302232; omega⟩ (fun r7 u3 H locs hq3 hw => ?_)
  obtain ⟨e7, e8⟩ := hq3
  have hw : wH G A s.heap s L u3 H locs := hw
  rw [e8] at hw
  refine w_ti (y := r5) e7 ?_
  refine lv_iload hx hb dL_law_1063 (lv_at hl 1 rfl) ?_
  refine lv_icmp_eq (tgt := 1070) hx hb dL_law_1065 (by decide) (fun _ => ?_) (fun h => absurd rfl h)
  refine lv_iload hx hb dL_law_1070 (lv_at hl 1 rfl) ?_
  refine lv_if_ne (tgt := 1087) hx hb dL_law_1072 (by decide) (fun h5 => ?_) (fun h5 => ?_)
  · skip
    refine lv_goto (tgt := 1103) hx hb dL_law_1087 (by decide) ?_
    refine lv_iinc (v := nI 4) (lv' := [(4, .int (nI 4)), (6, .int r6), (5, .int r5), (3, .ref ou), (2, .ref y), (1, .ref x), (0, .ref b)]) hx hb dL_law_1103 hl (k := 2) rfl (by decide) (by decide) rfl (fun ls hl => ?_)
    refine lv_goto (tgt := 23) hx hb dL_law_1106 (by decide) ?_
    exact law_exit hx hb hr hml hown hts hlocks hXs hbl hbA hAh hw 4 (by decide) (by decide) (by decide) (by show cells + 2 + 0 + 0 ≤ 600002; omega) (by show slots + 12 + 0 + 0 ≤ 7302232; omega) ls (lv_sub hl [0, 6] rfl)
  · skip
    obtain ⟨rr, hrr, hr0⟩ := hans (by rw [nI_0]; exact h5)
    refine lv_aload_n hx hb dL_law_1075 rfl (lv_at hl 3 rfl) ?_
    refine lv_iconst (v := nI 0) hx hb dL_law_1076 (by decide) ?_
    refine n_lald hx hb hw hoL hrr 0 (by omega) (by omega) dL_law_1077 ?_
    refine lv_iload hx hb dL_law_1078 (lv_at hl 0 rfl) ?_
    refine lv_i2l (v := r6.toInt64) hx hb dL_law_1080 rfl ?_
    refine n_lcmp_eq (tgt := 1087) hx hb dL_law_1081 dL_law_1082 (by decide) (fun h6 => ?_) (fun h6 => ?_)
    · skip
      refine lv_goto (tgt := 1103) hx hb dL_law_1087 (by decide) ?_
      refine lv_iinc (v := nI 4) (lv' := [(4, .int (nI 4)), (6, .int r6), (5, .int r5), (3, .ref ou), (2, .ref y), (1, .ref x), (0, .ref b)]) hx hb dL_law_1103 hl (k := 2) rfl (by decide) (by decide) rfl (fun ls hl => ?_)
      refine lv_goto (tgt := 23) hx hb dL_law_1106 (by decide) ?_
      exact law_exit hx hb hr hml hown hts hlocks hXs hbl hbA hAh hw 4 (by decide) (by decide) (by decide) (by show cells + 2 + 0 + 0 ≤ 600002; omega) (by show slots + 12 + 0 + 0 ≤ 7302232; omega) ls (lv_sub hl [0, 6] rfl)
    · skip
      exact absurd hr0 h6
set_option maxRecDepth 100000 in
set_option maxHeartbeats 4000000 in
theorem law_case_15 {p : Program} {l : Launch} {e : Env} {s : State} {m : MethodId} {below : List Frame} {meth : Method} {c : Code} {b : Nat} {xs : Nat → Int32} {G : gG} {A : Nat → Prop} {L : List Nat} {f : Nat → va_E} {H : Heap} {locs : List Loc} {cells slots x y ww dd ca ou : Nat} {own : Nat → Prop} {r : Nat → Int64} (hl0 : l.stackTraces = false) (hx : p.tables.exec = Jvm.exec) (hb : c.code = cL_law) (hr : meth.sig.returnType = ret) (hml : c.maxLocals = 7) (hown : s.vm.findClass RL = some m.cls) (hts : ∀ w ∈ uU, w.before #[Value.ref b] s = true) (hlocks : meth.locks = false) (hXs : va_X b 4 xs s s.heap) (hbl : b < s.heap.size) (hbA : ¬ A b) (hAh : ∀ q, A q → s.heap.size ≤ q) (hX : tX A s s.heap) (hw : wH G A s.heap s L f H locs) (hz : cZ G L f x own) (hm : mZ G L f y ww dd ca) (hoL : ou ∈ L) (hou : f ou = eJ G 1 r) (hno : ¬ own ou) (ny : ¬ own y) (nw : ¬ own ww) (nd : ¬ own dd) (nc : ¬ own ca) (ey : y ≠ ou) (ew : ww ≠ ou) (ed : dd ≠ ou) (ec : ca ≠ ou) (hc : cells ≤ 5000) (hs : slots ≤ 50000) : ∀ ls : Array Slot, lv_has ls 7 [(4, .int (nI 0)), (3, .ref ou), (2, .ref y), (1, .ref x), (0, .ref b)] → W p l e room_1 s m #[Value.ref b] below meth c H locs cells slots (lw_Z below #[Value.ref b] s)  (F0 m 1090 ls []) := by
  intro ls hl
  obtain ⟨fsx, hxL, hxo⟩ : ∃ fs, x ∈ L ∧ f x = eO 7 fs := by
    obtain ⟨fs, fs6, fs3, co, b1, b2, b3, b4, o3, o6, cr0, cr, r1, r2, r3, r4, h1, h2, -⟩ := hz
    exact ⟨fs, h1, h2⟩
  obtain ⟨hyL, hwwL, hddL, hcaL, fsy, hfy⟩ := hm.mems
  refine lv_aload_n hx hb dL_law_1090 rfl (lv_at hl 3 rfl) ?_
  refine w_callVi (lf := fun g => (L, g)) (As := []) (rest := []) ⟨hx, hb, hml, hown, hts⟩ hw (z_X7_count l G L f _ x own hz) hxL hxo rfl rfl (w_cV 0 hts ul_140 ul_141 ul_142 ul_143 ul_144 rfl rfl (by decide) (by decide)) hl.1 rfl (lv_room (Nat.le_of_ble_eq_true rfl)) dL_law_1091 ⟨by show cells + 0 ≤ 600002; omega, by show slots + 0 ≤ 7302232; omega⟩ (fun r5 u1 H locs hq hw => ?_)
  obtain ⟨e5, e6⟩ := hq
  have hw : wH G A s.heap s L u1 H locs := hw
  rw [e6] at hw
  subst e5
  refine lv_aload_n hx hb dL_law_1094 rfl (lv_at hl 2 rfl) ?_
  refine w_callVi (lf := fun g => (L, g)) (As := []) (rest := [.int (nI 0)]) ⟨hx, hb, hml, hown, hts⟩ hw (z_X8_count l G L f _ y ww dd ca hm) hyL hfy rfl rfl (w_cV 0 hts ul_145 ul_146 ul_147 ul_148 ul_149 rfl rfl (by decide) (by decide)) hl.1 rfl (lv_room (Nat.le_of_ble_eq_true rfl)) dL_law_1095 ⟨by show cells + 0 + 0 ≤ 600002; omega, by show slots + 0 + 0 ≤ 7302232; omega⟩ (fun r6 u2 H locs hq hw => ?_)
  obtain ⟨e5, hmo⟩ := hq
  have hw : wH G A s.heap s L u2 H locs := hw
  subst e5
  refine lv_icmp_eq (tgt := 1103) hx hb dL_law_1098 (by decide) (fun _ => ?_) (fun h => absurd rfl h)
  refine lv_iinc (v := nI 4) (lv' := [(4, .int (nI 4)), (3, .ref ou), (2, .ref y), (1, .ref x), (0, .ref b)]) hx hb dL_law_1103 hl (k := 0) rfl (by decide) (by decide) rfl (fun ls hl => ?_)
  refine lv_goto (tgt := 23) hx hb dL_law_1106 (by decide) ?_
  exact law_exit hx hb hr hml hown hts hlocks hXs hbl hbA hAh hw 4 (by decide) (by decide) (by decide) (by show cells + 0 + 0 ≤ 600002; omega) (by show slots + 0 + 0 ≤ 7302232; omega) ls (lv_sub hl [0, 4] rfl)
