def ox_PQ (x : ox_Q) : Prop := ox_MF x ∧ ∀ pc w, ox_row x.2.2.2.2.2.2 pc = some w → ox_rok x.1.cls x.1.name x.2.2.1 x.2.2.2.1 x.2.1 pc w
theorem ox_a1 : ox_PQ ox_q1 := by
  refine And.intro ox_mf1 (fun pc w h => ?_)
  exact ox_r1 (pc, w) (ox_row_mem (tab := ox_i1) h)
theorem ox_a2 : ox_PQ ox_q2 := by
  refine And.intro ox_mf2 (fun pc w h => ?_)
  exact ox_r2 (pc, w) (ox_row_mem (tab := ox_i2) h)
theorem ox_a3 : ox_PQ ox_q3 := by
  refine And.intro ox_mf3 (fun pc w h => ?_)
  exact ox_r3 (pc, w) (ox_row_mem (tab := ox_i3) h)
theorem ox_a4 : ox_PQ ox_q4 := by
  refine And.intro ox_mf4 (fun pc w h => ?_)
  exact ox_r4 (pc, w) (ox_row_mem (tab := ox_i4) h)
theorem ox_a5 : ox_PQ ox_q5 := by
  refine And.intro ox_mf5 (fun pc w h => ?_)
  exact ox_r5 (pc, w) (ox_row_mem (tab := ox_i5) h)
theorem ox_a6 : ox_PQ ox_q6 := by
  refine And.intro ox_mf6 (fun pc w h => ?_)
  exact ox_r6 (pc, w) (ox_row_mem (tab := ox_i6) h)
theorem ox_a7 : ox_PQ ox_q7 := by
  refine And.intro ox_mf7 (fun pc w h => ?_)
  exact ox_r7 (pc, w) (ox_row_mem (tab := ox_i7) h)
theorem ox_a8 : ox_PQ ox_q8 := by
  refine And.intro ox_mf8 (fun pc w h => ?_)
  exact ox_r8 (pc, w) (ox_row_mem (tab := ox_i8) h)
theorem ox_a9 : ox_PQ ox_q9 := by
  refine And.intro ox_mf9 (fun pc w h => ?_)
  exact ox_r9 (pc, w) (ox_row_mem (tab := ox_i9) h)
theorem ox_a10 : ox_PQ ox_q10 := by
  refine And.intro ox_mf10 (fun pc w h => ?_)
  exact ox_r10 (pc, w) (ox_row_mem (tab := ox_i10) h)
theorem ox_a11 : ox_PQ ox_q11 := by
  refine And.intro ox_mf11 (fun pc w h => ?_)
  exact ox_r11 (pc, w) (ox_row_mem (tab := ox_i11) h)
theorem ox_a12 : ox_PQ ox_q12 := by
  refine And.intro ox_mf12 (fun pc w h => ?_)
  exact ox_r12 (pc, w) (ox_row_mem (tab := ox_i12) h)
theorem ox_a13 : ox_PQ ox_q13 := by
  refine And.intro ox_mf13 (fun pc w h => ?_)
  exact ox_r13 (pc, w) (ox_row_mem (tab := ox_i13) h)
theorem ox_a14 : ox_PQ ox_q14 := by
  refine And.intro ox_mf14 (fun pc w h => ?_)
  exact ox_r14 (pc, w) (ox_row_mem (tab := ox_i14) h)
theorem ox_a15 : ox_PQ ox_q15 := by
  refine And.intro ox_mf15 (fun pc w h => ?_)
  exact ox_r15 (pc, w) (ox_row_mem (tab := ox_i15) h)
theorem ox_a16 : ox_PQ ox_q16 := by
  refine And.intro ox_mf16 (fun pc w h => ?_)
  exact ox_r16 (pc, w) (ox_row_mem (tab := ox_i16) h)
theorem ox_a17 : ox_PQ ox_q17 := by
  refine And.intro ox_mf17 (fun pc w h => ?_)
  exact ox_r17 (pc, w) (ox_row_mem (tab := ox_i17) h)
theorem ox_a18 : ox_PQ ox_q18 := by
  refine And.intro ox_mf18 (fun pc w h => ?_)
  exact ox_r18 (pc, w) (ox_row_mem (tab := ox_i18) h)
theorem ox_a19 : ox_PQ ox_q19 := by
  refine And.intro ox_mf19 (fun pc w h => ?_)
  exact ox_r19 (pc, w) (ox_row_mem (tab := ox_i19) h)
theorem ox_a20 : ox_PQ ox_q20 := by
  refine And.intro ox_mf20 (fun pc w h => ?_)
  exact ox_r20 (pc, w) (ox_row_mem (tab := ox_i20) h)
theorem ox_a21 : ox_PQ ox_q21 := by
  refine And.intro ox_mf21 (fun pc w h => ?_)
  exact ox_r21 (pc, w) (ox_row_mem (tab := ox_i21) h)
theorem ox_a22 : ox_PQ ox_q22 := by
  refine And.intro ox_mf22 (fun pc w h => ?_)
  exact ox_r22 (pc, w) (ox_row_mem (tab := ox_i22) h)
theorem ox_a23 : ox_PQ ox_q23 := by
  refine And.intro ox_mf23 (fun pc w h => ?_)
  exact ox_r23 (pc, w) (ox_row_mem (tab := ox_i23) h)
theorem ox_a24 : ox_PQ ox_q24 := by
  refine And.intro ox_mf24 (fun pc w h => ?_)
  exact ox_r24 (pc, w) (ox_row_mem (tab := ox_i24) h)
theorem ox_a25 : ox_PQ ox_q25 := by
  refine And.intro ox_mf25 (fun pc w h => ?_)
  exact ox_r25 (pc, w) (ox_row_mem (tab := ox_i25) h)
theorem ox_a26 : ox_PQ ox_q26 := by
  refine And.intro ox_mf26 (fun pc w h => ?_)
  exact ox_r26 (pc, w) (ox_row_mem (tab := ox_i26) h)
theorem ox_a27 : ox_PQ ox_q27 := by
  refine And.intro ox_mf27 (fun pc w h => ?_)
  exact ox_r27 (pc, w) (ox_row_mem (tab := ox_i27) h)
theorem ox_a28 : ox_PQ ox_q28 := by
  refine And.intro ox_mf28 (fun pc w h => ?_)
  exact ox_r28 (pc, w) (ox_row_mem (tab := ox_i28) h)
theorem ox_a29 : ox_PQ ox_q29 := by
  refine And.intro ox_mf29 (fun pc w h => ?_)
  exact ox_r29 (pc, w) (ox_row_mem (tab := ox_i29) h)
theorem ox_a30 : ox_PQ ox_q30 := by
  refine And.intro ox_mf30 (fun pc w h => ?_)
  exact ox_r30 (pc, w) (ox_row_mem (tab := ox_i30) h)
theorem ox_a31 : ox_PQ ox_q31 := by
  refine And.intro ox_mf31 (fun pc w h => ?_)
  exact ox_r31 (pc, w) (ox_row_mem (tab := ox_i31) h)
theorem ox_a32 : ox_PQ ox_q32 := by
  refine And.intro ox_mf32 (fun pc w h => ?_)
  exact ox_r32 (pc, w) (ox_row_mem (tab := ox_i32) h)
theorem ox_a33 : ox_PQ ox_q33 := by
  refine And.intro ox_mf33 (fun pc w h => ?_)
  exact ox_r33 (pc, w) (ox_row_mem (tab := ox_i33) h)
theorem ox_a34 : ox_PQ ox_q34 := by
  refine And.intro ox_mf34 (fun pc w h => ?_)
  exact ox_r34 (pc, w) (ox_row_mem (tab := ox_i34) h)
theorem ox_a35 : ox_PQ ox_q35 := by
  refine And.intro ox_mf35 (fun pc w h => ?_)
  exact ox_r35 (pc, w) (ox_row_mem (tab := ox_i35) h)
theorem ox_a36 : ox_PQ ox_q36 := by
  refine And.intro ox_mf36 (fun pc w h => ?_)
  exact ox_r36 (pc, w) (ox_row_mem (tab := ox_i36) h)
theorem ox_a37 : ox_PQ ox_q37 := by
  refine And.intro ox_mf37 (fun pc w h => ?_)
  exact ox_r37 (pc, w) (ox_row_mem (tab := ox_i37) h)
theorem ox_a38 : ox_PQ ox_q38 := by
  refine And.intro ox_mf38 (fun pc w h => ?_)
  exact ox_r38 (pc, w) (ox_row_mem (tab := ox_i38) h)
theorem ox_a39 : ox_PQ ox_q39 := by
  refine And.intro ox_mf39 (fun pc w h => ?_)
  exact ox_r39 (pc, w) (ox_row_mem (tab := ox_i39) h)
theorem ox_a40 : ox_PQ ox_q40 := by
  refine And.intro ox_mf40 (fun pc w h => ?_)
  exact ox_r40 (pc, w) (ox_row_mem (tab := ox_i40) h)
theorem ox_a41 : ox_PQ ox_q41 := by
  refine And.intro ox_mf41 (fun pc w h => ?_)
  exact ox_r41 (pc, w) (ox_row_mem (tab := ox_i41) h)
theorem ox_a42 : ox_PQ ox_q42 := by
  refine And.intro ox_mf42 (fun pc w h => ?_)
  exact ox_r42 (pc, w) (ox_row_mem (tab := ox_i42) h)
theorem ox_a43 : ox_PQ ox_q43 := by
  refine And.intro ox_mf43 (fun pc w h => ?_)
  exact ox_r43 (pc, w) (ox_row_mem (tab := ox_i43) h)
theorem ox_a44 : ox_PQ ox_q44 := by
  refine And.intro ox_mf44 (fun pc w h => ?_)
  exact ox_r44 (pc, w) (ox_row_mem (tab := ox_i44) h)
theorem ox_a45 : ox_PQ ox_q45 := by
  refine And.intro ox_mf45 (fun pc w h => ?_)
  exact ox_r45 (pc, w) (ox_row_mem (tab := ox_i45) h)
theorem ox_a46 : ox_PQ ox_q46 := by
  refine And.intro ox_mf46 (fun pc w h => ?_)
  exact ox_r46 (pc, w) (ox_row_mem (tab := ox_i46) h)
theorem ox_a47 : ox_PQ ox_q47 := by
  refine And.intro ox_mf47 (fun pc w h => ?_)
  exact ox_r47 (pc, w) (ox_row_mem (tab := ox_i47) h)
theorem ox_a48 : ox_PQ ox_q48 := by
  refine And.intro ox_mf48 (fun pc w h => ?_)
  exact ox_r48 (pc, w) (ox_row_mem (tab := ox_i48) h)
theorem ox_a49 : ox_PQ ox_q49 := by
  refine And.intro ox_mf49 (fun pc w h => ?_)
  exact ox_r49 (pc, w) (ox_row_mem (tab := ox_i49) h)
theorem ox_a50 : ox_PQ ox_q50 := by
  refine And.intro ox_mf50 (fun pc w h => ?_)
  exact ox_r50 (pc, w) (ox_row_mem (tab := ox_i50) h)
theorem ox_a51 : ox_PQ ox_q51 := by
  refine And.intro ox_mf51 (fun pc w h => ?_)
  exact ox_r51 (pc, w) (ox_row_mem (tab := ox_i51) h)
theorem ox_a52 : ox_PQ ox_q52 := by
  refine And.intro ox_mf52 (fun pc w h => ?_)
  exact ox_r52 (pc, w) (ox_row_mem (tab := ox_i52) h)
theorem ox_a53 : ox_PQ ox_q53 := by
  refine And.intro ox_mf53 (fun pc w h => ?_)
  exact ox_r53 (pc, w) (ox_row_mem (tab := ox_i53) h)
theorem ox_a54 : ox_PQ ox_q54 := by
  refine And.intro ox_mf54 (fun pc w h => ?_)
  exact ox_r54 (pc, w) (ox_row_mem (tab := ox_i54) h)
def ox_mt1 : List ox_Q := [ox_q1, ox_q2, ox_q3, ox_q4, ox_q5, ox_q6, ox_q7, ox_q8, ox_q9, ox_q10, ox_q11, ox_q12, ox_q13, ox_q14, ox_q15, ox_q16, ox_q17, ox_q18, ox_q19, ox_q20, ox_q21, ox_q22, ox_q23, ox_q24, ox_q25, ox_q26, ox_q27, ox_q28, ox_q29, ox_q30, ox_q31, ox_q32, ox_q33, ox_q34, ox_q35, ox_q36, ox_q37, ox_q38, ox_q39, ox_q40, ox_q41, ox_q42, ox_q43, ox_q44, ox_q45, ox_q46, ox_q47, ox_q48, ox_q49, ox_q50, ox_q51, ox_q52, ox_q53, ox_q54]
theorem ox_allok : ∀ x ∈ ox_mt1, ox_PQ x := by
  intro x hx
  simp only [ox_mt1, List.mem_cons, List.not_mem_nil, or_false] at hx
  rcases hx with rfl | rfl | rfl | rfl | rfl | rfl | rfl | rfl | rfl | rfl | rfl | rfl | rfl | rfl | rfl | rfl | rfl | rfl | rfl | rfl | rfl | rfl | rfl | rfl | rfl | rfl | rfl | rfl | rfl | rfl | rfl | rfl | rfl | rfl | rfl | rfl | rfl | rfl | rfl | rfl | rfl | rfl | rfl | rfl | rfl | rfl | rfl | rfl | rfl | rfl | rfl | rfl | rfl | rfl
  · exact ox_a1
  · exact ox_a2
  · exact ox_a3
  · exact ox_a4
  · exact ox_a5
  · exact ox_a6
  · exact ox_a7
  · exact ox_a8
  · exact ox_a9
  · exact ox_a10
  · exact ox_a11
  · exact ox_a12
  · exact ox_a13
  · exact ox_a14
  · exact ox_a15
  · exact ox_a16
  · exact ox_a17
  · exact ox_a18
  · exact ox_a19
  · exact ox_a20
  · exact ox_a21
  · exact ox_a22
  · exact ox_a23
  · exact ox_a24
  · exact ox_a25
  · exact ox_a26
  · exact ox_a27
  · exact ox_a28
  · exact ox_a29
  · exact ox_a30
  · exact ox_a31
  · exact ox_a32
  · exact ox_a33
  · exact ox_a34
  · exact ox_a35
  · exact ox_a36
  · exact ox_a37
  · exact ox_a38
  · exact ox_a39
  · exact ox_a40
  · exact ox_a41
  · exact ox_a42
  · exact ox_a43
  · exact ox_a44
  · exact ox_a45
  · exact ox_a46
  · exact ox_a47
  · exact ox_a48
  · exact ox_a49
  · exact ox_a50
  · exact ox_a51
  · exact ox_a52
  · exact ox_a53
  · exact ox_a54
