/-! String's own methods over the text of the moves -/
def jy_isLatin1 : MethodName := ⟨"java/lang/String", "isLatin1", "()Z"⟩
set_option maxRecDepth 100000 in
theorem jc_isLatin1 : Cond.code jy_isLatin1 prog_14_method_154_code 1 (some .boolean) ∈ xw := xw_in (i := 515) rfl rfl
theorem jg_isLatin1 : GoodIn xw (Cond.code jy_isLatin1 prog_14_method_154_code 1 (some .boolean) :: xw) := fun w hw => by
  rcases List.mem_cons.mp hw with rfl | hw
  · exact xw_good _ jc_isLatin1
  · exact xw_good _ hw
def jy_coder : MethodName := ⟨"java/lang/String", "coder", "()B"⟩
set_option maxRecDepth 100000 in
theorem jc_coder : Cond.code jy_coder prog_14_method_152_code 1 (some .byte) ∈ xw := xw_in (i := 525) rfl rfl
theorem jg_coder : GoodIn xw (Cond.code jy_coder prog_14_method_152_code 1 (some .byte) :: xw) := fun w hw => by
  rcases List.mem_cons.mp hw with rfl | hw
  · exact xw_good _ jc_coder
  · exact xw_good _ hw
def jy_length : MethodName := ⟨"java/lang/String", "length", "()I"⟩
set_option maxRecDepth 100000 in
theorem jc_length : Cond.code jy_length prog_14_method_54_code 1 (some .int) ∈ xw := xw_in (i := 521) rfl rfl
theorem jg_length : GoodIn xw (Cond.code jy_length prog_14_method_54_code 1 (some .int) :: xw) := fun w hw => by
  rcases List.mem_cons.mp hw with rfl | hw
  · exact xw_good _ jc_length
  · exact xw_good _ hw
def jy_canEncode : MethodName := ⟨"java/lang/StringLatin1", "canEncode", "(I)Z"⟩
set_option maxRecDepth 100000 in
theorem jc_canEncode : Cond.code jy_canEncode prog_15_method_4_code 1 (some .boolean) ∈ xw := xw_in (i := 531) rfl rfl
theorem jg_canEncode : GoodIn xw (Cond.code jy_canEncode prog_15_method_4_code 1 (some .boolean) :: xw) := fun w hw => by
  rcases List.mem_cons.mp hw with rfl | hw
  · exact xw_good _ jc_canEncode
  · exact xw_good _ hw
def jy_ioc : MethodName := ⟨"java/lang/StringLatin1", "indexOfChar", "([BIII)I"⟩
set_option maxRecDepth 100000 in
theorem jc_ioc : Cond.code jy_ioc prog_15_method_23_code 6 (some .int) ∈ xw := xw_in (i := 538) rfl rfl
theorem jg_ioc : GoodIn xw (Cond.code jy_ioc prog_15_method_23_code 6 (some .int) :: xw) := fun w hw => by
  rcases List.mem_cons.mp hw with rfl | hw
  · exact xw_good _ jc_ioc
  · exact xw_good _ hw
def jy_sio : MethodName := ⟨"java/lang/StringLatin1", "indexOf", "([BIII)I"⟩
set_option maxRecDepth 100000 in
theorem jc_sio : Cond.code jy_sio prog_15_method_22_code 4 (some .int) ∈ xw := xw_in (i := 528) rfl rfl
theorem jg_sio : GoodIn xw (Cond.code jy_sio prog_15_method_22_code 4 (some .int) :: xw) := fun w hw => by
  rcases List.mem_cons.mp hw with rfl | hw
  · exact xw_good _ jc_sio
  · exact xw_good _ hw
def jy_io2 : MethodName := ⟨"java/lang/String", "indexOf", "(II)I"⟩
set_option maxRecDepth 100000 in
theorem jc_io2 : Cond.code jy_io2 prog_14_method_80_code 3 (some .int) ∈ xw := xw_in (i := 511) rfl rfl
theorem jg_io2 : GoodIn xw (Cond.code jy_io2 prog_14_method_80_code 3 (some .int) :: xw) := fun w hw => by
  rcases List.mem_cons.mp hw with rfl | hw
  · exact xw_good _ jc_io2
  · exact xw_good _ hw
def jy_io1 : MethodName := ⟨"java/lang/String", "indexOf", "(I)I"⟩
set_option maxRecDepth 100000 in
theorem jc_io1 : Cond.code jy_io1 prog_14_method_79_code 2 (some .int) ∈ xw := xw_in (i := 507) rfl rfl
theorem jg_io1 : GoodIn xw (Cond.code jy_io1 prog_14_method_79_code 2 (some .int) :: xw) := fun w hw => by
  rcases List.mem_cons.mp hw with rfl | hw
  · exact xw_good _ jc_io1
  · exact xw_good _ hw
def jy_pci : MethodName := ⟨"jdk/internal/util/Preconditions", "checkIndex", "(IILjava/util/function/BiFunction;)I"⟩
set_option maxRecDepth 100000 in
theorem jc_pci : Cond.code jy_pci prog_18_method_11_code 3 (some .int) ∈ xw := xw_in (i := 775) rfl rfl
theorem jg_pci : GoodIn xw (Cond.code jy_pci prog_18_method_11_code 3 (some .int) :: xw) := fun w hw => by
  rcases List.mem_cons.mp hw with rfl | hw
  · exact xw_good _ jc_pci
  · exact xw_good _ hw
def jy_sci : MethodName := ⟨"java/lang/String", "checkIndex", "(II)V"⟩
set_option maxRecDepth 100000 in
theorem jc_sci : Cond.code jy_sci prog_14_method_155_code 2 none ∈ xw := xw_in (i := 772) rfl rfl
theorem jg_sci : GoodIn xw (Cond.code jy_sci prog_14_method_155_code 2 none :: xw) := fun w hw => by
  rcases List.mem_cons.mp hw with rfl | hw
  · exact xw_good _ jc_sci
  · exact xw_good _ hw
def jy_lca : MethodName := ⟨"java/lang/StringLatin1", "charAt", "([BI)C"⟩
set_option maxRecDepth 100000 in
theorem jc_lca : Cond.code jy_lca prog_15_method_2_code 2 (some .char) ∈ xw := xw_in (i := 769) rfl rfl
theorem jg_lca : GoodIn xw (Cond.code jy_lca prog_15_method_2_code 2 (some .char) :: xw) := fun w hw => by
  rcases List.mem_cons.mp hw with rfl | hw
  · exact xw_good _ jc_lca
  · exact xw_good _ hw
def jy_cha : MethodName := ⟨"java/lang/String", "charAt", "(I)C"⟩
set_option maxRecDepth 100000 in
theorem jc_cha : Cond.code jy_cha prog_14_method_56_code 2 (some .char) ∈ xw := xw_in (i := 766) rfl rfl
theorem jg_cha : GoodIn xw (Cond.code jy_cha prog_14_method_56_code 2 (some .char) :: xw) := fun w hw => by
  rcases List.mem_cons.mp hw with rfl | hw
  · exact xw_good _ jc_cha
  · exact xw_good _ hw
theorem jd_isLatin1 : (parseMethodDescriptor jy_isLatin1.desc).map (fun d => d.parameters.length) = some 0 := by decide +kernel
theorem jd_coder : (parseMethodDescriptor jy_coder.desc).map (fun d => d.parameters.length) = some 0 := by decide +kernel
theorem jd_length : (parseMethodDescriptor jy_length.desc).map (fun d => d.parameters.length) = some 0 := by decide +kernel
theorem jd_canEncode : (parseMethodDescriptor jy_canEncode.desc).map (fun d => d.parameters.length) = some 1 := by decide +kernel
theorem jd_ioc : (parseMethodDescriptor jy_ioc.desc).map (fun d => d.parameters.length) = some 4 := by decide +kernel
theorem jd_sio : (parseMethodDescriptor jy_sio.desc).map (fun d => d.parameters.length) = some 4 := by decide +kernel
theorem jd_io2 : (parseMethodDescriptor jy_io2.desc).map (fun d => d.parameters.length) = some 2 := by decide +kernel
theorem jd_io1 : (parseMethodDescriptor jy_io1.desc).map (fun d => d.parameters.length) = some 1 := by decide +kernel
theorem jd_pci : (parseMethodDescriptor jy_pci.desc).map (fun d => d.parameters.length) = some 3 := by decide +kernel
theorem jd_sci : (parseMethodDescriptor jy_sci.desc).map (fun d => d.parameters.length) = some 2 := by decide +kernel
theorem jd_lca : (parseMethodDescriptor jy_lca.desc).map (fun d => d.parameters.length) = some 2 := by decide +kernel
theorem jd_cha : (parseMethodDescriptor jy_cha.desc).map (fun d => d.parameters.length) = some 1 := by decide +kernel
theorem jl_492 : Cond.methodLink "java/lang/String" 492 jy_isLatin1 ∈ xw := xw_in (i := 512) (by decide +kernel) rfl
theorem jl_495 : Cond.methodLink "java/lang/String" 495 jy_lca ∈ xw := xw_in (i := 767) (by decide +kernel) rfl
theorem jl_505 : Cond.methodLink "java/lang/String" 505 jy_length ∈ xw := xw_in (i := 518) (by decide +kernel) rfl
theorem jl_633 : Cond.methodLink "java/lang/String" 633 jy_io2 ∈ xw := xw_in (i := 508) (by decide +kernel) rfl
theorem jl_637 : Cond.methodLink "java/lang/String" 637 jy_sio ∈ xw := xw_in (i := 526) (by decide +kernel) rfl
theorem jl_335 : Cond.methodLink "java/lang/String" 335 jy_coder ∈ xw := xw_in (i := 522) (by decide +kernel) rfl
theorem jl_1059 : Cond.methodLink "java/lang/String" 1059 jy_pci ∈ xw := xw_in (i := 773) (by decide +kernel) rfl
theorem jl_9 : Cond.methodLink "java/lang/StringLatin1" 9 jy_sci ∈ xw := xw_in (i := 770) (by decide +kernel) rfl
theorem jl_88 : Cond.methodLink "java/lang/StringLatin1" 88 jy_canEncode ∈ xw := xw_in (i := 529) (by decide +kernel) rfl
theorem jl_95 : Cond.methodLink "java/lang/StringLatin1" 95 jy_ioc ∈ xw := xw_in (i := 536) (by decide +kernel) rfl
theorem jl_92 : Cond.methodLink "java/lang/StringLatin1" 92 Lib.Math.max.name ∈ xw := xw_in (i := 532) (by decide +kernel) rfl
theorem jl_38 : Cond.methodLink "java/lang/StringLatin1" 38 Lib.Math.min.name ∈ xw := xw_in (i := 535) (by decide +kernel) rfl
theorem jf_38 : Cond.fieldLink "java/lang/String" 38 "java/lang/String" "COMPACT_STRINGS" "Z" ∈ xw := xw_in (i := 516) (by decide +kernel) rfl
theorem jf_1053 : Cond.fieldLink "java/lang/String" 1053 "jdk/internal/util/Preconditions" "SIOOBE_FORMATTER" "Ljava/util/function/BiFunction;" ∈ xw := xw_in (i := 557) (by decide +kernel) rfl
theorem jf_15 : Cond.fieldLink "java/lang/String" 15 "java/lang/String" "coder" "B" ∈ xw := xw_in (i := 1424) (by decide +kernel) rfl
theorem jf_9 : Cond.fieldLink "java/lang/String" 9 "java/lang/String" "value" "[B" ∈ xw := xw_in (i := 1425) (by decide +kernel) rfl
theorem js_sio : Cond.static jy_sio ∈ xw := xw_in (i := 527) (by decide +kernel) rfl
theorem js_canEncode : Cond.static jy_canEncode ∈ xw := xw_in (i := 530) (by decide +kernel) rfl
theorem js_ioc : Cond.static jy_ioc ∈ xw := xw_in (i := 537) (by decide +kernel) rfl
theorem js_lca : Cond.static jy_lca ∈ xw := xw_in (i := 768) (by decide +kernel) rfl
theorem js_sci : Cond.static jy_sci ∈ xw := xw_in (i := 771) (by decide +kernel) rfl
theorem js_pci : Cond.static jy_pci ∈ xw := xw_in (i := 774) (by decide +kernel) rfl
theorem ji_io1 : Cond.instanceMethod jy_io1 ∈ xw := xw_in (i := 505) (by decide +kernel) rfl
theorem ji_io2 : Cond.instanceMethod jy_io2 ∈ xw := xw_in (i := 509) (by decide +kernel) rfl
theorem ji_isLatin1 : Cond.instanceMethod jy_isLatin1 ∈ xw := xw_in (i := 513) (by decide +kernel) rfl
theorem ji_length : Cond.instanceMethod jy_length ∈ xw := xw_in (i := 519) (by decide +kernel) rfl
theorem ji_coder : Cond.instanceMethod jy_coder ∈ xw := xw_in (i := 523) (by decide +kernel) rfl
theorem ji_cha : Cond.instanceMethod jy_cha ∈ xw := xw_in (i := 764) (by decide +kernel) rfl
theorem jv_io1 : Cond.selects "java/lang/String" jy_io1 jy_io1 ∈ xw := xw_in (i := 506) (by decide +kernel) rfl
theorem jv_io2 : Cond.selects "java/lang/String" jy_io2 jy_io2 ∈ xw := xw_in (i := 510) (by decide +kernel) rfl
theorem jv_isLatin1 : Cond.selects "java/lang/String" jy_isLatin1 jy_isLatin1 ∈ xw := xw_in (i := 514) (by decide +kernel) rfl
theorem jv_length : Cond.selects "java/lang/String" jy_length jy_length ∈ xw := xw_in (i := 520) (by decide +kernel) rfl
theorem jv_coder : Cond.selects "java/lang/String" jy_coder jy_coder ∈ xw := xw_in (i := 524) (by decide +kernel) rfl
theorem jv_cha : Cond.selects "java/lang/String" jy_cha jy_cha ∈ xw := xw_in (i := 765) (by decide +kernel) rfl
theorem jn_S : Cond.initialized "java/lang/String" ∈ xw := xw_in (i := 90) (by decide +kernel) rfl
theorem jn_L : Cond.initialized "java/lang/StringLatin1" ∈ xw := xw_in (i := 91) (by decide +kernel) rfl
theorem jn_P : Cond.initialized "jdk/internal/util/Preconditions" ∈ xw := xw_in (i := 93) (by decide +kernel) rfl
def jF : Nat → Prop := fun _ => False
/-- the text: at q, its bytes at t -/
def jst (q t : Nat) (U : State) (H : Heap) : Prop := va_O "java/lang/String" q jF U H ∧ va_OF "java/lang/String" "coder" "B" (.int 0) q jF U H ∧ va_OF "java/lang/String" "value" "[B" (.ref t) q jF U H ∧ va_T .byte t 12 (fun j => .int (xmvb.getD j 0)) jF U H ∧
  va_Z "java/lang/String" "COMPACT_STRINGS" "Z" (.int 1) jF U H ∧ va_Zq "jdk/internal/util/Preconditions" "SIOOBE_FORMATTER" "Ljava/util/function/BiFunction;" jF U H
theorem jst_move {q t : Nat} {u U : State} {H H1 : Heap} (hv : u.vm.Alike U.vm) (hq : ∀ a : Nat, a < H.size → ¬ jF a → H1[a]? = H[a]?) (h : jst q t u H) : jst q t U H1 := by
  obtain ⟨h1, h2, h3, h4, h5, h6⟩ := h
  refine ⟨(h1.moved hv).kept hq, (h2.moved hv).kept hq, (h3.moved hv).kept hq, (h4.moved hv).kept hq, (h5.moved hv).kept hq, ?_⟩
  rcases h6 with h6 | ⟨t, h6⟩
  · exact Or.inl ((h6.moved hv).kept hq)
  · exact Or.inr ⟨t, (h6.moved hv).kept hq⟩
theorem jst_of {ad : Nat × Nat → Nat} {A : Nat → Prop} {U : State} {H : Heap} (h : xstr ad A U H) : ∃ t, jst (ad (99, 0)) t U H := by
  obtain ⟨-, -, ⟨adV, h3⟩, -, h5, h6⟩ := h
  have h3 := h3.narrow (B := jF) (fun q h => absurd h id)
  obtain ⟨k1, k2, k3, k4⟩ := h3.1 0 (by decide)
  exact ⟨adV 0, k1, k2, k3, k4, h5.narrow (B := jF) (fun q h => absurd h id), h6.narrow (B := jF) (fun q h => absurd h id)⟩
def jQ (x : Int32) : Array Value → State → Outcome → State → Prop := va_Qi (fun r (_ : Unit) => r = x) (fun _ _ => True) jF
theorem jblind {q t : Nat} {av : List Value} : FrameBlind (va_Pc av (fun U => jst q t U U.heap)) := fun a U g mk h => ⟨h.1, jst_move (u := U) (U := U.calling g mk a) (Vm.Alike.refl U.vm) (fun _ _ _ => rfl) h.2⟩
section JST
variable {p : Program} {l : Launch} {e : Env} {R : Room} {s : State} {m : MethodId} {args : Array Value} {below : List Frame} {meth : Method} {c : Code} {H : Heap} {locs : List Loc} {cells slots : Nat} {Q : State → Prop} {ls : Array Slot} {pc : Nat} {cc : ByteArray}
/-- a call of one of them -/
theorem jcallV {own : String} {ix : Nat} {y : MethodName} {bytes : ByteArray} {maxL nL : Nat} {ret : Option FieldType} {rm : Room} {q t : Nat} {As rest : List Value} {x : Int32} (hx : p.tables.exec = Jvm.exec) (hb : c.code = cc) (hml : c.maxLocals = nL) (hown : s.vm.findClass own = some m.cls) (hts : ∀ w ∈ xw, w.before args s = true)
    (hM : Met l y (Cond.code y bytes maxL ret :: xw) rm (va_Pc (.ref q :: As) (fun U => jst q t U U.heap)) (jQ x) 0 0 jF) (h1 : Cond.methodLink own ix y ∈ xw) (h2 : Cond.instanceMethod y ∈ xw) (h3 : Cond.selects "java/lang/String" y y ∈ xw) (hG : GoodIn xw (Cond.code y bytes maxL ret :: xw)) (hC : y.cls = "java/lang/String")
    (hd : (parseMethodDescriptor y.desc).map (fun d => d.parameters.length) = some As.length) (hrc : rm.cells = 0) (hrs : rm.slots = 0) (hR : rm.frames + 1 ≤ R.frames ∧ 8 + (maxL + 11) + rm.locals ≤ R.locals) (hcs : cells ≤ R.cells ∧ slots ≤ R.slots)
    (hJ : jst q t s s.heap) (hS : va_S jF s.heap H locs) (hsz : ls.size = nL) (hw : (rest.map fun v => v.category).sum ≤ 8) (hdg : decode cc pc = .ok (.invokevirtual ix, 3))
    (kk : ∀ (H1 : Heap) (locs1 : List Loc), va_S jF s.heap H1 locs1 → (∀ a : Nat, a < H.size → H1[a]? = H[a]?) → H.size ≤ H1.size → W p l e R s m args below meth c H1 locs1 cells slots Q (F0 m (pc + 3) ls (.int x :: rest))) :
    W p l e R s m args below meth c H locs cells slots Q (F0 m pc ls (As.reverse ++ .ref q :: rest)) := by
  have hrc2 : PreV s H "java/lang/String" q (va_Pc (.ref q :: As) (fun U => jst q t U U.heap)) As :=
    ⟨jblind, va_Orecv hJ.1 hS, fun U hU hW => ⟨rfl, jst_move hW.alike (by rw [hU]; exact hS.2.1) hJ⟩⟩
  refine va_calli (va_runV ⟨hx, hb, hml, hown, hts⟩ hM (cwV (C := "java/lang/String") As.length hts ?_ rfl hrc hrs ⟨hC, by rw [hC]; decide, by rw [hC]; decide, hd⟩ hR) hrc2 rfl rfl hsz rfl (lv_room hw) hdg ⟨hcs.1, hcs.2⟩) hS (fun _ _ h => h) (fun _ h => h) (fun r u t1 H1 locs1 _ _ hr _ hz hk hS1 => ?_)
  · intro w hw
    unfold wsV at hw
    rcases List.mem_append.mp hw with hw | hw
    · simp only [List.mem_cons, List.not_mem_nil, or_false] at hw
      rcases hw with rfl | rfl | rfl | rfl
      · exact xw_good _ h1
      · exact xw_good _ h2
      · exact xw_good _ h3
      · exact xw_good _ jn_S
    · exact hG w hw
  · have hr : r = x := hr
    subst hr
    exact kk H1 locs1 hS1 (fun a ha => hk a ha id) hz
theorem jcallS {own : String} {ix : Nat} {y : MethodName} {bytes : ByteArray} {maxL nL : Nat} {ret : Option FieldType} {rm : Room} {q t : Nat} {As rest : List Value} {x : Int32} (hx : p.tables.exec = Jvm.exec) (hb : c.code = cc) (hml : c.maxLocals = nL) (hown : s.vm.findClass own = some m.cls) (hts : ∀ w ∈ xw, w.before args s = true)
    (hM : Met l y (Cond.code y bytes maxL ret :: xw) rm (va_Pc As (fun U => jst q t U U.heap)) (jQ x) 0 0 jF) (h1 : Cond.methodLink own ix y ∈ xw) (h2 : Cond.static y ∈ xw) (h3 : Cond.initialized y.cls ∈ xw) (hG : GoodIn xw (Cond.code y bytes maxL ret :: xw)) (hC : y.cls ≠ "java/lang/invoke/MethodHandle" ∧ y.cls ≠ "java/lang/invoke/VarHandle")
    (hd : (parseMethodDescriptor y.desc).map (fun d => d.parameters.length) = some As.length) (hrc : rm.cells = 0) (hrs : rm.slots = 0) (hR : rm.frames + 1 ≤ R.frames ∧ 8 + (maxL + 11) + rm.locals ≤ R.locals) (hcs : cells ≤ R.cells ∧ slots ≤ R.slots)
    (hJ : jst q t s s.heap) (hS : va_S jF s.heap H locs) (hsz : ls.size = nL) (hw : (rest.map fun v => v.category).sum ≤ 8) (hdg : decode cc pc = .ok (.invokestatic ix, 3))
    (kk : ∀ (H1 : Heap) (locs1 : List Loc), va_S jF s.heap H1 locs1 → (∀ a : Nat, a < H.size → H1[a]? = H[a]?) → H.size ≤ H1.size → W p l e R s m args below meth c H1 locs1 cells slots Q (F0 m (pc + 3) ls (.int x :: rest))) :
    W p l e R s m args below meth c H locs cells slots Q (F0 m pc ls (As.reverse ++ rest)) := by
  refine va_calli (va_runS ⟨hx, hb, hml, hown, hts⟩ hM ⟨callB_of As.length hts hG rfl hrc hrs (hts _ h3) (hts _ h1) ⟨hC.1, hC.2, hd⟩ hR, hts _ h2⟩ ⟨jblind, fun U hU hW => ⟨rfl, jst_move hW.alike (by rw [hU]; exact hS.2.1) hJ⟩⟩ rfl rfl hsz rfl (lv_room hw) hdg ⟨hcs.1, hcs.2⟩) hS (fun _ _ h => h) (fun _ h => h) (fun r u t1 H1 locs1 _ _ hr _ hz hk hS1 => ?_)
  have hr : r = x := hr
  subst hr
  exact kk H1 locs1 hS1 (fun a ha => hk a ha id) hz
end JST
set_option maxRecDepth 20000 in
theorem jm_isLatin1 (l : Launch) (q t : Nat) : Met l jy_isLatin1 (Cond.code jy_isLatin1 prog_14_method_154_code 1 (some .boolean) :: xw) { frames := 0, cells := 0, slots := 0, locals := 0 } (va_Pc [.ref q] (fun U => jst q t U U.heap)) (jQ 1) 0 0 jF := by
  refine Met.ofW (cc := prog_14_method_154_code) (maxL := 1) (ret := (some .boolean)) (by decide) rfl ?_
  intro p e s m args below meth c s₁ B hml hv
  obtain ⟨rfl, hJ⟩ := hv
  have hx := B.exec
  have hb := B.bytes
  have hr := B.returns
  have hts : ∀ w ∈ xw, w.before _ s = true := fun w hw => atoms_spec (ws := Cond.code jy_isLatin1 prog_14_method_154_code 1 (some .boolean) :: xw) B.pre w (List.mem_cons_of_mem _ hw)
  have hown : s.vm.findClass "java/lang/String" = some m.cls := findClass_of_methodNamed B.named
  have hlocks := B.notSynchronized
  have hS : va_S jF s.heap s.heap [] := va_S.rf
  have hl := lv_entry ([.ref q]) (n := 1) (Nat.le_of_ble_eq_true rfl)
  rw [lg_entry_eq]
  generalize (lg_sl ([.ref q]) ++ List.replicate (1 - (lg_sl ([.ref q])).length) Slot.unset).toArray = ls at hl ⊢
  have hl : lv_has ls 1 [(0, .ref q)] := hl
  refine va_gets hx hb hJ.2.2.2.2.1 hS hown (hts _ jf_38) (fun _ h => h) (by decide +kernel) ?_
  refine lv_if_eq (tgt := 17) (off := 14) hx hb (by decide +kernel) rfl (fun h => absurd h (by decide)) (fun _ => ?_)
  refine lv_aload_n (k := 0) hx hb (by decide +kernel) rfl (lv_at hl 0 rfl) ?_
  refine vk_getf hx hb hJ.2.1 hS hown (hts _ jf_15) (fun _ h => h) (by decide +kernel) ?_
  refine lv_if_ne (tgt := 17) (off := 7) hx hb (by decide +kernel) rfl (fun h => absurd rfl h) (fun _ => ?_)
  refine lv_iconst (n := 1) (v := 1) hx hb (by decide +kernel) rfl ?_
  refine lv_goto (tgt := 18) (off := 4) hx hb (by decide +kernel) rfl ?_
  exact W.zret hx hb hr rfl (fun t ht hW => ⟨⟨1, (), rfl, rfl, trivial⟩, hS.F ht⟩) hS.2.2 (by decide +kernel)
set_option maxRecDepth 20000 in
theorem jm_coder (l : Launch) (q t : Nat) : Met l jy_coder (Cond.code jy_coder prog_14_method_152_code 1 (some .byte) :: xw) { frames := 0, cells := 0, slots := 0, locals := 0 } (va_Pc [.ref q] (fun U => jst q t U U.heap)) (jQ 0) 0 0 jF := by
  refine Met.ofW (cc := prog_14_method_152_code) (maxL := 1) (ret := (some .byte)) (by decide) rfl ?_
  intro p e s m args below meth c s₁ B hml hv
  obtain ⟨rfl, hJ⟩ := hv
  have hx := B.exec
  have hb := B.bytes
  have hr := B.returns
  have hts : ∀ w ∈ xw, w.before _ s = true := fun w hw => atoms_spec (ws := Cond.code jy_coder prog_14_method_152_code 1 (some .byte) :: xw) B.pre w (List.mem_cons_of_mem _ hw)
  have hown : s.vm.findClass "java/lang/String" = some m.cls := findClass_of_methodNamed B.named
  have hlocks := B.notSynchronized
  have hS : va_S jF s.heap s.heap [] := va_S.rf
  have hl := lv_entry ([.ref q]) (n := 1) (Nat.le_of_ble_eq_true rfl)
  rw [lg_entry_eq]
  generalize (lg_sl ([.ref q]) ++ List.replicate (1 - (lg_sl ([.ref q])).length) Slot.unset).toArray = ls at hl ⊢
  have hl : lv_has ls 1 [(0, .ref q)] := hl
  refine va_gets hx hb hJ.2.2.2.2.1 hS hown (hts _ jf_38) (fun _ h => h) (by decide +kernel) ?_
  refine lv_if_eq (tgt := 13) (off := 10) hx hb (by decide +kernel) rfl (fun h => absurd h (by decide)) (fun _ => ?_)
  refine lv_aload_n (k := 0) hx hb (by decide +kernel) rfl (lv_at hl 0 rfl) ?_
  refine vk_getf hx hb hJ.2.1 hS hown (hts _ jf_15) (fun _ h => h) (by decide +kernel) ?_
  refine lv_goto (tgt := 14) (off := 4) hx hb (by decide +kernel) rfl ?_
  exact W.zret hx hb hr rfl (fun t ht hW => ⟨⟨0, (), rfl, rfl, trivial⟩, hS.F ht⟩) hS.2.2 (by decide +kernel)
set_option maxRecDepth 20000 in
theorem jm_length (l : Launch) (q t : Nat) : Met l jy_length (Cond.code jy_length prog_14_method_54_code 1 (some .int) :: xw) { frames := 1, cells := 0, slots := 0, locals := 20 } (va_Pc [.ref q] (fun U => jst q t U U.heap)) (jQ 12) 0 0 jF := by
  refine Met.ofW (cc := prog_14_method_54_code) (maxL := 1) (ret := (some .int)) (by decide) rfl ?_
  intro p e s m args below meth c s₁ B hml hv
  obtain ⟨rfl, hJ⟩ := hv
  have hx := B.exec
  have hb := B.bytes
  have hr := B.returns
  have hts : ∀ w ∈ xw, w.before _ s = true := fun w hw => atoms_spec (ws := Cond.code jy_length prog_14_method_54_code 1 (some .int) :: xw) B.pre w (List.mem_cons_of_mem _ hw)
  have hown : s.vm.findClass "java/lang/String" = some m.cls := findClass_of_methodNamed B.named
  have hlocks := B.notSynchronized
  have hS : va_S jF s.heap s.heap [] := va_S.rf
  have hl := lv_entry ([.ref q]) (n := 1) (Nat.le_of_ble_eq_true rfl)
  rw [lg_entry_eq]
  generalize (lg_sl ([.ref q]) ++ List.replicate (1 - (lg_sl ([.ref q])).length) Slot.unset).toArray = ls at hl ⊢
  have hl : lv_has ls 1 [(0, .ref q)] := hl
  refine lv_aload_n (k := 0) hx hb (by decide +kernel) rfl (lv_at hl 0 rfl) ?_
  refine vk_getf hx hb hJ.2.2.1 hS hown (hts _ jf_9) (fun _ h => h) (by decide +kernel) ?_
  refine va_tlen (v := 12) hx hb hJ.2.2.2.1 hS rfl (by decide +kernel) ?_
  refine lv_aload_n (k := 0) hx hb (by decide +kernel) rfl (lv_at hl 0 rfl) ?_
  refine jcallV (As := []) hx hb hml hown hts (jm_coder l q t) jl_335 ji_coder jv_coder jg_coder rfl jd_coder rfl rfl ⟨Nat.le_of_ble_eq_true rfl, Nat.le_of_ble_eq_true rfl⟩ ⟨Nat.zero_le _, Nat.zero_le _⟩ hJ hS hl.1 (by decide) (by decide +kernel) (fun H1 locs1 hS _ _ => ?_)
  refine lv_ishr hx hb (by decide +kernel) ?_
  exact W.iret hx hb hr (fun t ht hW => ⟨⟨12, (), rfl, rfl, trivial⟩, hS.F ht⟩) hS.2.2 (by decide +kernel)
set_option maxRecDepth 20000 in
theorem jm_canEncode (l : Launch) (q t : Nat) (v : Int32) : Met l jy_canEncode (Cond.code jy_canEncode prog_15_method_4_code 1 (some .boolean) :: xw) { frames := 0, cells := 0, slots := 0, locals := 0 } (va_Pc [.int v] (fun U => jst q t U U.heap)) (jQ (if v < 0 then 0 else if 255 < v then 0 else 1)) 0 0 jF := by
  refine Met.ofW (cc := prog_15_method_4_code) (maxL := 1) (ret := (some .boolean)) (by decide) rfl ?_
  intro p e s m args below meth c s₁ B hml hv
  obtain ⟨rfl, hJ⟩ := hv
  have hx := B.exec
  have hb := B.bytes
  have hr := B.returns
  have hts : ∀ w ∈ xw, w.before _ s = true := fun w hw => atoms_spec (ws := Cond.code jy_canEncode prog_15_method_4_code 1 (some .boolean) :: xw) B.pre w (List.mem_cons_of_mem _ hw)
  have hown : s.vm.findClass "java/lang/StringLatin1" = some m.cls := findClass_of_methodNamed B.named
  have hlocks := B.notSynchronized
  have hS : va_S jF s.heap s.heap [] := va_S.rf
  have hl := lv_entry ([.int v]) (n := 1) (Nat.le_of_ble_eq_true rfl)
  rw [lg_entry_eq]
  generalize (lg_sl ([.int v]) ++ List.replicate (1 - (lg_sl ([.int v])).length) Slot.unset).toArray = ls at hl ⊢
  have hl : lv_has ls 1 [(0, .int v)] := hl
  refine lv_iload_n (k := 0) hx hb (by decide +kernel) rfl (lv_at hl 0 rfl) ?_
  refine lv_if_lt (tgt := 15) (off := 14) hx hb (by decide +kernel) rfl (fun h => ?_) (fun h => ?_)
  · rw [if_pos h]
    refine lv_iconst (n := 0) (v := 0) hx hb (by decide +kernel) rfl ?_
    exact W.zret hx hb hr rfl (fun t ht hW => ⟨⟨0, (), rfl, rfl, trivial⟩, hS.F ht⟩) hS.2.2 (by decide +kernel)
  · rw [if_neg h]
    refine lv_iload_n (k := 0) hx hb (by decide +kernel) rfl (lv_at hl 0 rfl) ?_
    refine lv_sipush (n := 255) (v := 255) hx hb (by decide +kernel) (by decide) ?_
    refine lv_icmp_gt (tgt := 15) (off := 7) hx hb (by decide +kernel) rfl (fun h2 => ?_) (fun h2 => ?_)
    · rw [if_pos h2]
      refine lv_iconst (n := 0) (v := 0) hx hb (by decide +kernel) rfl ?_
      exact W.zret hx hb hr rfl (fun t ht hW => ⟨⟨0, (), rfl, rfl, trivial⟩, hS.F ht⟩) hS.2.2 (by decide +kernel)
    · rw [if_neg h2]
      refine lv_iconst (n := 1) (v := 1) hx hb (by decide +kernel) rfl ?_
      refine lv_goto (tgt := 16) (off := 4) hx hb (by decide +kernel) rfl ?_
      exact W.zret hx hb hr rfl (fun t ht hW => ⟨⟨1, (), rfl, rfl, trivial⟩, hS.F ht⟩) hS.2.2 (by decide +kernel)
/-- where a sign is first found, from j on -/
noncomputable def jix (v : Int) (j : Nat) : Int32 := Int32.ofInt (xixo (xmoves.drop j) v (j : Int))
theorem jb_eq : ∀ v : Nat, v < 256 → ∀ j, j < 12 → (xmvb.getD j 0 = (Int32.ofInt (v : Int)).toInt8.toInt32 ↔ (v : Int) = ([110, 115, 119, 101, 117, 118, 120, 121, 122, 88, 89, 90] : List Int).getD j 0) := by decide +kernel
theorem jix_s {v : Int} : ∀ j, j < 12 → jix v j = if v = ([110, 115, 119, 101, 117, 118, 120, 121, 122, 88, 89, 90] : List Int).getD j 0 then Int32.ofInt (j : Int) else jix v (j + 1) := by
  intro j hj
  have : j = 0 ∨ j = 1 ∨ j = 2 ∨ j = 3 ∨ j = 4 ∨ j = 5 ∨ j = 6 ∨ j = 7 ∨ j = 8 ∨ j = 9 ∨ j = 10 ∨ j = 11 := by omega
  have key : ∀ (r : List Int) (a : Int) (j : Nat), xmoves.drop j = a :: r → xmoves.drop (j + 1) = r → jix v j = if v = a then Int32.ofInt (j : Int) else jix v (j + 1) := by
    intro r a j h1 h2
    unfold jix
    rw [h1, h2]
    show Int32.ofInt (if v = a then (j : Int) else xixo r v ((j : Int) + 1)) = _
    by_cases h : v = a
    · rw [if_pos h, if_pos h]
    · rw [if_neg h, if_neg h]; rfl
  rcases this with h | h | h | h | h | h | h | h | h | h | h | h <;> subst h <;> exact key _ _ _ rfl rfl
set_option maxRecDepth 20000 in
theorem jm_ioc (l : Launch) (q t : Nat) (v : Nat) (hv : v < 256) : Met l jy_ioc (Cond.code jy_ioc prog_15_method_23_code 6 (some .int) :: xw) { frames := 0, cells := 0, slots := 0, locals := 0 } (va_Pc [.ref t, .int (Int32.ofInt (v : Int)), .int 0, .int 12] (fun U => jst q t U U.heap)) (jQ (jix (v : Int) 0)) 0 0 jF := by
  refine Met.ofW (cc := prog_15_method_23_code) (maxL := 6) (ret := (some .int)) (by decide) rfl ?_
  intro p e s m args below meth c s₁ B hml hv
  obtain ⟨rfl, hJ⟩ := hv
  have hx := B.exec
  have hb := B.bytes
  have hr := B.returns
  have hts : ∀ w ∈ xw, w.before _ s = true := fun w hw => atoms_spec (ws := Cond.code jy_ioc prog_15_method_23_code 6 (some .int) :: xw) B.pre w (List.mem_cons_of_mem _ hw)
  have hown : s.vm.findClass "java/lang/StringLatin1" = some m.cls := findClass_of_methodNamed B.named
  have hlocks := B.notSynchronized
  have hS : va_S jF s.heap s.heap [] := va_S.rf
  have hl := lv_entry ([.ref t, .int (Int32.ofInt (v : Int)), .int 0, .int 12]) (n := 6) (Nat.le_of_ble_eq_true rfl)
  rw [lg_entry_eq]
  generalize (lg_sl ([.ref t, .int (Int32.ofInt (v : Int)), .int 0, .int 12]) ++ List.replicate (6 - (lg_sl ([.ref t, .int (Int32.ofInt (v : Int)), .int 0, .int 12])).length) Slot.unset).toArray = ls at hl ⊢
  have hl : lv_has ls 6 [(0, .ref t), (1, .int (Int32.ofInt (v : Int))), (2, .int 0), (3, .int 12)] := hl
  refine lv_iload_n (k := 1) hx hb (by decide +kernel) rfl (lv_at hl 1 rfl) ?_
  refine lv_i2b hx hb (by decide +kernel) rfl ?_
  refine lv_istore (i := 4) hx hb (by decide +kernel) hl (Nat.le_of_ble_eq_true rfl) rfl (fun ls hl => ?_)
  refine lv_iload_n (k := 2) hx hb (by decide +kernel) rfl (lv_at hl 3 rfl) ?_
  refine lv_istore (i := 5) hx hb (by decide +kernel) hl (Nat.le_of_ble_eq_true rfl) rfl (fun ls hl => ?_)
  have hl : lv_has ls 6 [(5, .int (Int32.ofInt ((0 : Nat) : Int))), (4, .int (Int32.ofInt (v : Int)).toInt8.toInt32), (0, .ref t), (1, .int (Int32.ofInt (v : Int))), (2, .int 0), (3, .int 12)] := hl
  have key : ∀ (R' : Room) (av : Array Value) (d j : Nat) (ls : Array Slot), j + d = 12 → lv_has ls 6 [(5, .int (Int32.ofInt (j : Int))), (4, .int (Int32.ofInt (v : Int)).toInt8.toInt32), (0, .ref t), (1, .int (Int32.ofInt (v : Int))), (2, .int 0), (3, .int 12)] →
      W p l e R' s m av below meth c s.heap [] 0 0 (MQ below (jQ (jix (v : Int) j)) av s 0 0 jF) (F0 m 7 ls []) := by
    intro R' av d
    induction d with
    | zero =>
      intro j ls hj hl
      have e : j = 12 := by omega
      subst e
      refine lv_iload (i := 5) hx hb (by decide +kernel) (lv_at hl 0 rfl) ?_
      refine lv_iload_n (k := 3) hx hb (by decide +kernel) rfl (lv_at hl 5 rfl) ?_
      refine lv_icmp_ge (tgt := 31) (off := 21) hx hb (by decide +kernel) rfl (fun _ => ?_) (fun h => absurd (by decide : (12 : Int32) ≤ Int32.ofInt ((12 : Nat) : Int)) h)
      refine lv_iconst (n := -1) (v := -1) hx hb (by decide +kernel) rfl ?_
      exact W.iret hx hb hr (fun t ht hW => ⟨⟨-1, (), rfl, rfl, trivial⟩, hS.F ht⟩) hS.2.2 (by decide +kernel)
    | succ d ih =>
      intro j ls hj hl
      have hj12 : j < 12 := by omega
      have hlt : ¬ (12 : Int32) ≤ Int32.ofInt (j : Int) := (by decide : ∀ j : Nat, j < 12 → ¬ (12 : Int32) ≤ Int32.ofInt (j : Int)) j hj12
      have hcl : (Int32.ofInt (j : Int)).toNatClampNeg = j := (by decide : ∀ j : Nat, j < 12 → (Int32.ofInt (j : Int)).toNatClampNeg = j) j hj12
      have hin : vp_in (Int32.ofInt (j : Int)) 12 := by
        intro h
        rcases h with h | h
        · exact absurd h ((by decide : ∀ j : Nat, j < 12 → ¬ Int32.ofInt (j : Int) < 0) j hj12)
        · rw [hcl] at h; omega
      have hs1 : Int32.ofInt (j : Int) + Int32.ofInt 1 = Int32.ofInt ((j + 1 : Nat) : Int) := (by decide : ∀ j : Nat, j < 12 → Int32.ofInt (j : Int) + Int32.ofInt 1 = Int32.ofInt ((j + 1 : Nat) : Int)) j hj12
      have hjx := jix_s (v := (v : Int)) j hj12
      have hbe := jb_eq v hv j hj12
      refine lv_iload (i := 5) hx hb (by decide +kernel) (lv_at hl 0 rfl) ?_
      refine lv_iload_n (k := 3) hx hb (by decide +kernel) rfl (lv_at hl 5 rfl) ?_
      refine lv_icmp_ge (tgt := 31) (off := 21) hx hb (by decide +kernel) rfl (fun h => absurd h hlt) (fun _ => ?_)
      refine lv_aload_n (k := 0) hx hb (by decide +kernel) rfl (lv_at hl 2 rfl) ?_
      refine lv_iload (i := 5) hx hb (by decide +kernel) (lv_at hl 0 rfl) ?_
      refine va_tb (v := .int (xmvb.getD j 0)) hx hb hJ.2.2.2.1 hS hin (by rw [hcl]) (by decide +kernel) ?_
      refine lv_iload (i := 4) hx hb (by decide +kernel) (lv_at hl 1 rfl) ?_
      refine lv_icmp_ne (tgt := 25) (off := 6) hx hb (by decide +kernel) rfl (fun h => ?_) (fun h => ?_)
      · rw [if_neg (fun q => h (hbe.mpr q))] at hjx
        rw [hjx]
        refine lv_iinc (i := 5) (n := 1) (k := 0) hx hb (by decide +kernel) hl rfl hs1 (Nat.le_of_ble_eq_true rfl) rfl (fun ls hl => ?_)
        refine lv_goto (tgt := 7) (off := -21) hx hb (by decide +kernel) rfl ?_
        exact ih (j + 1) ls (by omega) hl
      · rw [if_pos (hbe.mp h)] at hjx
        rw [hjx]
        refine lv_iload (i := 5) hx hb (by decide +kernel) (lv_at hl 0 rfl) ?_
        exact W.iret hx hb hr (fun t ht hW => ⟨⟨_, (), rfl, rfl, trivial⟩, hS.F ht⟩) hS.2.2 (by decide +kernel)
  exact key _ _ 12 0 ls rfl hl
/-- a sign that is none of these, and one that may be -/
theorem jix_out {v : Int} (h : v < 0 ∨ 255 < v) : jix v 0 = -1 := by
  have hn : ∀ j, j < 12 → ¬ v = ([110, 115, 119, 101, 117, 118, 120, 121, 122, 88, 89, 90] : List Int).getD j 0 := by
    intro j hj
    have hb : 0 ≤ ([110, 115, 119, 101, 117, 118, 120, 121, 122, 88, 89, 90] : List Int).getD j 0 ∧ ([110, 115, 119, 101, 117, 118, 120, 121, 122, 88, 89, 90] : List Int).getD j 0 ≤ 255 := (by decide : ∀ j, j < 12 → 0 ≤ ([110, 115, 119, 101, 117, 118, 120, 121, 122, 88, 89, 90] : List Int).getD j 0 ∧ ([110, 115, 119, 101, 117, 118, 120, 121, 122, 88, 89, 90] : List Int).getD j 0 ≤ 255) j hj
    omega
  have key : ∀ d j, j + d = 12 → jix v j = -1 := by
    intro d
    induction d with
    | zero =>
      intro j hj
      have e : j = 12 := by omega
      subst e
      rfl
    | succ d ih =>
      intro j hj
      rw [jix_s j (by omega), if_neg (hn j (by omega))]
      exact ih (j + 1) (by omega)
  exact key 12 0 rfl
set_option maxRecDepth 20000 in
theorem jm_sio (l : Launch) (q t : Nat) (v : Nat) (hv : v < 65536) : Met l jy_sio (Cond.code jy_sio prog_15_method_22_code 4 (some .int) :: xw) { frames := 1, cells := 0, slots := 0, locals := 25 } (va_Pc [.ref t, .int (Int32.ofInt (v : Int)), .int 0, .int 12] (fun U => jst q t U U.heap)) (jQ (jix (v : Int) 0)) 0 0 jF := by
  refine Met.ofW (cc := prog_15_method_22_code) (maxL := 4) (ret := (some .int)) (by decide) rfl ?_
  intro p e s m args below meth c s₁ B hml hv
  obtain ⟨rfl, hJ⟩ := hv
  have hx := B.exec
  have hb := B.bytes
  have hr := B.returns
  have hts : ∀ w ∈ xw, w.before _ s = true := fun w hw => atoms_spec (ws := Cond.code jy_sio prog_15_method_22_code 4 (some .int) :: xw) B.pre w (List.mem_cons_of_mem _ hw)
  have hown : s.vm.findClass "java/lang/StringLatin1" = some m.cls := findClass_of_methodNamed B.named
  have hlocks := B.notSynchronized
  have hS : va_S jF s.heap s.heap [] := va_S.rf
  have hl := lv_entry ([.ref t, .int (Int32.ofInt (v : Int)), .int 0, .int 12]) (n := 4) (Nat.le_of_ble_eq_true rfl)
  rw [lg_entry_eq]
  generalize (lg_sl ([.ref t, .int (Int32.ofInt (v : Int)), .int 0, .int 12]) ++ List.replicate (4 - (lg_sl ([.ref t, .int (Int32.ofInt (v : Int)), .int 0, .int 12])).length) Slot.unset).toArray = ls at hl ⊢
  have hl : lv_has ls 4 [(0, .ref t), (1, .int (Int32.ofInt (v : Int))), (2, .int 0), (3, .int 12)] := hl
  have hv32 : xr32 (v : Int) := ⟨by omega, by omega⟩
  have hv0 : ¬ Int32.ofInt (v : Int) < 0 := fun h => by have := (xlt0 hv32).mp h; omega
  have hv255 : 255 < Int32.ofInt (v : Int) ↔ 255 < v := by
    have := xlt32 (a := 255) (b := (v : Int)) ⟨by decide, by decide⟩ hv32
    refine Iff.trans this ?_
    omega
  refine lv_iload_n (k := 1) hx hb (by decide +kernel) rfl (lv_at hl 1 rfl) ?_
  refine jcallS (As := [.int (Int32.ofInt (v : Int))]) (q := q) (t := t) hx hb hml hown hts (jm_canEncode l q t _) jl_88 js_canEncode jn_L jg_canEncode ⟨by decide, by decide⟩ jd_canEncode rfl rfl ⟨Nat.le_of_ble_eq_true rfl, Nat.le_of_ble_eq_true rfl⟩ ⟨Nat.zero_le _, Nat.zero_le _⟩ hJ hS hl.1 (by decide) (by decide +kernel) (fun H1 locs1 hS _ _ => ?_)
  rw [if_neg hv0]
  by_cases h255 : 255 < v
  · rw [if_pos (hv255.mpr h255), jix_out (Or.inr (by omega))]
    refine lv_if_ne (tgt := 9) (off := 5) hx hb (by decide +kernel) rfl (fun h => absurd rfl h) (fun _ => ?_)
    refine lv_iconst (n := -1) (v := -1) hx hb (by decide +kernel) rfl ?_
    exact W.iret hx hb hr (fun t ht hW => ⟨⟨-1, (), rfl, rfl, trivial⟩, hS.F ht⟩) hS.2.2 (by decide +kernel)
  · rw [if_neg (fun h => h255 (hv255.mp h))]
    refine lv_if_ne (tgt := 9) (off := 5) hx hb (by decide +kernel) rfl (fun _ => ?_) (fun h => absurd h (by decide))
    refine lv_iload_n (k := 2) hx hb (by decide +kernel) rfl (lv_at hl 2 rfl) ?_
    refine lv_iconst (n := 0) (v := 0) hx hb (by decide +kernel) rfl ?_
    refine va_mmax (x := 0) (y := 0) hx hb (hml.trans hl.1.symm) hown (hts _ jl_92) (hts _ xM_max.1) (hts _ xM_init) (hts _ xM_max.2) (Nat.le_of_ble_eq_true rfl) (Nat.le_of_ble_eq_true rfl) (Nat.zero_le _) (Nat.zero_le _) (by decide +kernel) ?_
    refine lv_istore_n (k := 2) hx hb (by decide +kernel) rfl hl (Nat.le_of_ble_eq_true rfl) rfl (fun ls hl => ?_)
    have hl : lv_has ls 4 [(2, .int 0), (0, .ref t), (1, .int (Int32.ofInt (v : Int))), (3, .int 12)] := hl
    refine lv_iload_n (k := 3) hx hb (by decide +kernel) rfl (lv_at hl 3 rfl) ?_
    refine lv_aload_n (k := 0) hx hb (by decide +kernel) rfl (lv_at hl 1 rfl) ?_
    refine va_tlen (v := 12) hx hb hJ.2.2.2.1 hS rfl (by decide +kernel) ?_
    refine va_mmin (x := 12) (y := 12) hx hb (hml.trans hl.1.symm) hown (hts _ jl_38) (hts _ xM_min.1) (hts _ xM_init) (hts _ xM_min.2) (Nat.le_of_ble_eq_true rfl) (Nat.le_of_ble_eq_true rfl) (Nat.zero_le _) (Nat.zero_le _) (by decide +kernel) ?_
    refine lv_istore_n (k := 3) hx hb (by decide +kernel) rfl hl (Nat.le_of_ble_eq_true rfl) rfl (fun ls hl => ?_)
    have hl : lv_has ls 4 [(3, .int 12), (2, .int 0), (0, .ref t), (1, .int (Int32.ofInt (v : Int)))] := hl
    refine lv_iload_n (k := 2) hx hb (by decide +kernel) rfl (lv_at hl 1 rfl) ?_
    refine lv_iload_n (k := 3) hx hb (by decide +kernel) rfl (lv_at hl 0 rfl) ?_
    refine lv_icmp_lt (tgt := 29) (off := 5) hx hb (by decide +kernel) rfl (fun _ => ?_) (fun h => absurd (by decide) h)
    refine lv_aload_n (k := 0) hx hb (by decide +kernel) rfl (lv_at hl 2 rfl) ?_
    refine lv_iload_n (k := 1) hx hb (by decide +kernel) rfl (lv_at hl 3 rfl) ?_
    refine lv_iload_n (k := 2) hx hb (by decide +kernel) rfl (lv_at hl 1 rfl) ?_
    refine lv_iload_n (k := 3) hx hb (by decide +kernel) rfl (lv_at hl 0 rfl) ?_
    refine jcallS (As := [.ref t, .int (Int32.ofInt (v : Int)), .int 0, .int 12]) (q := q) (t := t) (rest := []) hx hb hml hown hts (jm_ioc l q t v (by omega)) jl_95 js_ioc jn_L jg_ioc ⟨by decide, by decide⟩ jd_ioc rfl rfl ⟨Nat.le_of_ble_eq_true rfl, Nat.le_of_ble_eq_true rfl⟩ ⟨Nat.zero_le _, Nat.zero_le _⟩ hJ hS hl.1 (by decide) (by decide +kernel) (fun H1 locs1 hS _ _ => ?_)
    exact W.iret hx hb hr (fun t ht hW => ⟨⟨_, (), rfl, rfl, trivial⟩, hS.F ht⟩) hS.2.2 (by decide +kernel)
set_option maxRecDepth 20000 in
theorem jm_io2 (l : Launch) (q t : Nat) (v : Nat) (hv : v < 65536) : Met l jy_io2 (Cond.code jy_io2 prog_14_method_80_code 3 (some .int) :: xw) { frames := 2, cells := 0, slots := 0, locals := 48 } (va_Pc [.ref q, .int (Int32.ofInt (v : Int)), .int 0] (fun U => jst q t U U.heap)) (jQ (jix (v : Int) 0)) 0 0 jF := by
  refine Met.ofW (cc := prog_14_method_80_code) (maxL := 3) (ret := (some .int)) (by decide) rfl ?_
  intro p e s m args below meth c s₁ B hml hv
  obtain ⟨rfl, hJ⟩ := hv
  have hx := B.exec
  have hb := B.bytes
  have hr := B.returns
  have hts : ∀ w ∈ xw, w.before _ s = true := fun w hw => atoms_spec (ws := Cond.code jy_io2 prog_14_method_80_code 3 (some .int) :: xw) B.pre w (List.mem_cons_of_mem _ hw)
  have hown : s.vm.findClass "java/lang/String" = some m.cls := findClass_of_methodNamed B.named
  have hlocks := B.notSynchronized
  have hS : va_S jF s.heap s.heap [] := va_S.rf
  have hl := lv_entry ([.ref q, .int (Int32.ofInt (v : Int)), .int 0]) (n := 3) (Nat.le_of_ble_eq_true rfl)
  rw [lg_entry_eq]
  generalize (lg_sl ([.ref q, .int (Int32.ofInt (v : Int)), .int 0]) ++ List.replicate (3 - (lg_sl ([.ref q, .int (Int32.ofInt (v : Int)), .int 0])).length) Slot.unset).toArray = ls at hl ⊢
  have hl : lv_has ls 3 [(0, .ref q), (1, .int (Int32.ofInt (v : Int))), (2, .int 0)] := hl
  refine lv_aload_n (k := 0) hx hb (by decide +kernel) rfl (lv_at hl 0 rfl) ?_
  refine jcallV (As := []) hx hb hml hown hts (jm_isLatin1 l q t) jl_492 ji_isLatin1 jv_isLatin1 jg_isLatin1 rfl jd_isLatin1 rfl rfl ⟨Nat.le_of_ble_eq_true rfl, Nat.le_of_ble_eq_true rfl⟩ ⟨Nat.zero_le _, Nat.zero_le _⟩ hJ hS hl.1 (by decide) (by decide +kernel) (fun H1 locs1 hS _ _ => ?_)
  refine lv_if_eq (tgt := 23) (off := 19) hx hb (by decide +kernel) rfl (fun h => absurd h (by decide)) (fun _ => ?_)
  refine lv_aload_n (k := 0) hx hb (by decide +kernel) rfl (lv_at hl 0 rfl) ?_
  refine vk_getf hx hb hJ.2.2.1 hS hown (hts _ jf_9) (fun _ h => h) (by decide +kernel) ?_
  refine lv_iload_n (k := 1) hx hb (by decide +kernel) rfl (lv_at hl 1 rfl) ?_
  refine lv_iload_n (k := 2) hx hb (by decide +kernel) rfl (lv_at hl 2 rfl) ?_
  refine lv_aload_n (k := 0) hx hb (by decide +kernel) rfl (lv_at hl 0 rfl) ?_
  refine jcallV (As := []) hx hb hml hown hts (jm_length l q t) jl_505 ji_length jv_length jg_length rfl jd_length rfl rfl ⟨Nat.le_of_ble_eq_true rfl, Nat.le_of_ble_eq_true rfl⟩ ⟨Nat.zero_le _, Nat.zero_le _⟩ hJ hS hl.1 (Nat.le_of_ble_eq_true rfl) (by decide +kernel) (fun H1 locs1 hS _ _ => ?_)
  refine jcallS (As := [.ref t, .int (Int32.ofInt (v : Int)), .int 0, .int 12]) (q := q) (t := t) (rest := []) hx hb hml hown hts (jm_sio l q t v hv) jl_637 js_sio jn_L jg_sio ⟨by decide, by decide⟩ jd_sio rfl rfl ⟨Nat.le_of_ble_eq_true rfl, Nat.le_of_ble_eq_true rfl⟩ ⟨Nat.zero_le _, Nat.zero_le _⟩ hJ hS hl.1 (by decide) (by decide +kernel) (fun H1 locs1 hS _ _ => ?_)
  refine lv_goto (tgt := 36) (off := 16) hx hb (by decide +kernel) rfl ?_
  exact W.iret hx hb hr (fun t ht hW => ⟨⟨_, (), rfl, rfl, trivial⟩, hS.F ht⟩) hS.2.2 (by decide +kernel)
set_option maxRecDepth 20000 in
theorem jm_io1 (l : Launch) (q t : Nat) (v : Nat) (hv : v < 65536) : Met l jy_io1 (Cond.code jy_io1 prog_14_method_79_code 2 (some .int) :: xw) { frames := 3, cells := 0, slots := 0, locals := 70 } (va_Pc [.ref q, .int (Int32.ofInt (v : Int))] (fun U => jst q t U U.heap)) (jQ (jix (v : Int) 0)) 0 0 jF := by
  refine Met.ofW (cc := prog_14_method_79_code) (maxL := 2) (ret := (some .int)) (by decide) rfl ?_
  intro p e s m args below meth c s₁ B hml hv
  obtain ⟨rfl, hJ⟩ := hv
  have hx := B.exec
  have hb := B.bytes
  have hr := B.returns
  have hts : ∀ w ∈ xw, w.before _ s = true := fun w hw => atoms_spec (ws := Cond.code jy_io1 prog_14_method_79_code 2 (some .int) :: xw) B.pre w (List.mem_cons_of_mem _ hw)
  have hown : s.vm.findClass "java/lang/String" = some m.cls := findClass_of_methodNamed B.named
  have hlocks := B.notSynchronized
  have hS : va_S jF s.heap s.heap [] := va_S.rf
  have hl := lv_entry ([.ref q, .int (Int32.ofInt (v : Int))]) (n := 2) (Nat.le_of_ble_eq_true rfl)
  rw [lg_entry_eq]
  generalize (lg_sl ([.ref q, .int (Int32.ofInt (v : Int))]) ++ List.replicate (2 - (lg_sl ([.ref q, .int (Int32.ofInt (v : Int))])).length) Slot.unset).toArray = ls at hl ⊢
  have hl : lv_has ls 2 [(0, .ref q), (1, .int (Int32.ofInt (v : Int)))] := hl
  refine lv_aload_n (k := 0) hx hb (by decide +kernel) rfl (lv_at hl 0 rfl) ?_
  refine lv_iload_n (k := 1) hx hb (by decide +kernel) rfl (lv_at hl 1 rfl) ?_
  refine lv_iconst (n := 0) (v := 0) hx hb (by decide +kernel) rfl ?_
  refine jcallV (As := [.int (Int32.ofInt (v : Int)), .int 0]) hx hb hml hown hts (jm_io2 l q t v hv) jl_633 ji_io2 jv_io2 jg_io2 rfl jd_io2 rfl rfl ⟨Nat.le_of_ble_eq_true rfl, Nat.le_of_ble_eq_true rfl⟩ ⟨Nat.zero_le _, Nat.zero_le _⟩ hJ hS hl.1 (by decide) (by decide +kernel) (fun H1 locs1 hS _ _ => ?_)
  exact W.iret hx hb hr (fun t ht hW => ⟨⟨_, (), rfl, rfl, trivial⟩, hS.F ht⟩) hS.2.2 (by decide +kernel)
set_option maxRecDepth 20000 in
theorem jm_pci (l : Launch) (q t : Nat) (v : Nat) (hv : v < 12) (f : Value) (hf : f = .null ∨ ∃ a, f = .ref a) : Met l jy_pci (Cond.code jy_pci prog_18_method_11_code 3 (some .int) :: xw) { frames := 0, cells := 0, slots := 0, locals := 0 } (va_Pc [.int (Int32.ofInt (v : Int)), .int 12, f] (fun U => jst q t U U.heap)) (jQ (Int32.ofInt (v : Int))) 0 0 jF := by
  refine Met.ofW (cc := prog_18_method_11_code) (maxL := 3) (ret := (some .int)) (by decide) rfl ?_
  intro p e s m args below meth c s₁ B hml hv
  obtain ⟨rfl, hJ⟩ := hv
  have hx := B.exec
  have hb := B.bytes
  have hr := B.returns
  have hts : ∀ w ∈ xw, w.before _ s = true := fun w hw => atoms_spec (ws := Cond.code jy_pci prog_18_method_11_code 3 (some .int) :: xw) B.pre w (List.mem_cons_of_mem _ hw)
  have hown : s.vm.findClass "jdk/internal/util/Preconditions" = some m.cls := findClass_of_methodNamed B.named
  have hlocks := B.notSynchronized
  have hS : va_S jF s.heap s.heap [] := va_S.rf
  have hl := lv_entry ([.int (Int32.ofInt (v : Int)), .int 12, f]) (n := 3) (by rcases hf with rfl | ⟨a, rfl⟩ <;> exact Nat.le_of_ble_eq_true rfl)
  rw [lg_entry_eq]
  generalize (lg_sl ([.int (Int32.ofInt (v : Int)), .int 12, f]) ++ List.replicate (3 - (lg_sl ([.int (Int32.ofInt (v : Int)), .int 12, f])).length) Slot.unset).toArray = ls at hl ⊢
  have hl : lv_has ls 3 [(0, .int (Int32.ofInt (v : Int))), (1, .int 12), (2, f)] := hl
  have hv0 : ¬ Int32.ofInt (v : Int) < 0 := (by decide : ∀ j : Nat, j < 12 → ¬ Int32.ofInt (j : Int) < 0) v hv
  have hv1 : Int32.ofInt (v : Int) < 12 := (by decide : ∀ j : Nat, j < 12 → Int32.ofInt (j : Int) < 12) v hv
  refine lv_iload_n (k := 0) hx hb (by decide +kernel) rfl (lv_at hl 0 rfl) ?_
  refine lv_if_lt (tgt := 9) (off := 8) hx hb (by decide +kernel) rfl (fun h => absurd h hv0) (fun _ => ?_)
  refine lv_iload_n (k := 0) hx hb (by decide +kernel) rfl (lv_at hl 0 rfl) ?_
  refine lv_iload_n (k := 1) hx hb (by decide +kernel) rfl (lv_at hl 1 rfl) ?_
  refine lv_icmp_lt (tgt := 16) (off := 10) hx hb (by decide +kernel) rfl (fun _ => ?_) (fun h => absurd hv1 h)
  refine lv_iload_n (k := 0) hx hb (by decide +kernel) rfl (lv_at hl 0 rfl) ?_
  exact W.iret hx hb hr (fun t ht hW => ⟨⟨_, (), rfl, rfl, trivial⟩, hS.F ht⟩) hS.2.2 (by decide +kernel)
set_option maxRecDepth 20000 in
theorem jm_sci (l : Launch) (q t : Nat) (v : Nat) (hv : v < 12) : Met l jy_sci (Cond.code jy_sci prog_14_method_155_code 2 none :: xw) { frames := 1, cells := 0, slots := 0, locals := 22 } (va_Pc [.int (Int32.ofInt (v : Int)), .int 12] (fun U => jst q t U U.heap)) (va_Qv (fun _ : Unit => True) (fun _ _ => True) jF) 0 0 jF := by
  refine Met.ofW (cc := prog_14_method_155_code) (maxL := 2) (ret := none) (by decide) rfl ?_
  intro p e s m args below meth c s₁ B hml hv
  obtain ⟨rfl, hJ⟩ := hv
  have hx := B.exec
  have hb := B.bytes
  have hr := B.returns
  have hts : ∀ w ∈ xw, w.before _ s = true := fun w hw => atoms_spec (ws := Cond.code jy_sci prog_14_method_155_code 2 none :: xw) B.pre w (List.mem_cons_of_mem _ hw)
  have hown : s.vm.findClass "java/lang/String" = some m.cls := findClass_of_methodNamed B.named
  have hlocks := B.notSynchronized
  have hS : va_S jF s.heap s.heap [] := va_S.rf
  have hl := lv_entry ([.int (Int32.ofInt (v : Int)), .int 12]) (n := 2) (Nat.le_of_ble_eq_true rfl)
  rw [lg_entry_eq]
  generalize (lg_sl ([.int (Int32.ofInt (v : Int)), .int 12]) ++ List.replicate (2 - (lg_sl ([.int (Int32.ofInt (v : Int)), .int 12])).length) Slot.unset).toArray = ls at hl ⊢
  have hl : lv_has ls 2 [(0, .int (Int32.ofInt (v : Int))), (1, .int 12)] := hl
  refine lv_iload_n (k := 0) hx hb (by decide +kernel) rfl (lv_at hl 0 rfl) ?_
  refine lv_iload_n (k := 1) hx hb (by decide +kernel) rfl (lv_at hl 1 rfl) ?_
  rcases hJ.2.2.2.2.2 with h | ⟨a, h⟩
  · refine va_gets hx hb h hS hown (hts _ jf_1053) (fun _ h => h) (by decide +kernel) ?_
    refine jcallS (As := [.int (Int32.ofInt (v : Int)), .int 12, .null]) (q := q) (t := t) (rest := []) hx hb hml hown hts (jm_pci l q t v hv _ (Or.inl rfl)) jl_1059 js_pci jn_P jg_pci ⟨by decide, by decide⟩ jd_pci rfl rfl ⟨Nat.le_of_ble_eq_true rfl, Nat.le_of_ble_eq_true rfl⟩ ⟨Nat.zero_le _, Nat.zero_le _⟩ hJ hS hl.1 (by decide) (by decide +kernel) (fun H1 locs1 hS _ _ => ?_)
    refine lv_pop hx hb (by decide +kernel) rfl ?_
    exact W.vret hx hb hr (fun t ht hW => ⟨⟨(), rfl, trivial, trivial⟩, hS.F ht⟩) hS.2.2 (by decide +kernel)
  · refine va_gets hx hb h hS hown (hts _ jf_1053) (fun _ h => h) (by decide +kernel) ?_
    refine jcallS (As := [.int (Int32.ofInt (v : Int)), .int 12, .ref a]) (q := q) (t := t) (rest := []) hx hb hml hown hts (jm_pci l q t v hv _ (Or.inr ⟨a, rfl⟩)) jl_1059 js_pci jn_P jg_pci ⟨by decide, by decide⟩ jd_pci rfl rfl ⟨Nat.le_of_ble_eq_true rfl, Nat.le_of_ble_eq_true rfl⟩ ⟨Nat.zero_le _, Nat.zero_le _⟩ hJ hS hl.1 (by decide) (by decide +kernel) (fun H1 locs1 hS _ _ => ?_)
    refine lv_pop hx hb (by decide +kernel) rfl ?_
    exact W.vret hx hb hr (fun t ht hW => ⟨⟨(), rfl, trivial, trivial⟩, hS.F ht⟩) hS.2.2 (by decide +kernel)
set_option maxRecDepth 20000 in
theorem jm_lca (l : Launch) (q t : Nat) (v : Nat) (hv : v < 12) : Met l jy_lca (Cond.code jy_lca prog_15_method_2_code 2 (some .char) :: xw) { frames := 2, cells := 0, slots := 0, locals := 43 } (va_Pc [.ref t, .int (Int32.ofInt (v : Int))] (fun U => jst q t U U.heap)) (jQ (xmvb.getD v 0)) 0 0 jF := by
  refine Met.ofW (cc := prog_15_method_2_code) (maxL := 2) (ret := (some .char)) (by decide) rfl ?_
  intro p e s m args below meth c s₁ B hml hv
  obtain ⟨rfl, hJ⟩ := hv
  have hx := B.exec
  have hb := B.bytes
  have hr := B.returns
  have hts : ∀ w ∈ xw, w.before _ s = true := fun w hw => atoms_spec (ws := Cond.code jy_lca prog_15_method_2_code 2 (some .char) :: xw) B.pre w (List.mem_cons_of_mem _ hw)
  have hown : s.vm.findClass "java/lang/StringLatin1" = some m.cls := findClass_of_methodNamed B.named
  have hlocks := B.notSynchronized
  have hS : va_S jF s.heap s.heap [] := va_S.rf
  have hl := lv_entry ([.ref t, .int (Int32.ofInt (v : Int))]) (n := 2) (Nat.le_of_ble_eq_true rfl)
  rw [lg_entry_eq]
  generalize (lg_sl ([.ref t, .int (Int32.ofInt (v : Int))]) ++ List.replicate (2 - (lg_sl ([.ref t, .int (Int32.ofInt (v : Int))])).length) Slot.unset).toArray = ls at hl ⊢
  have hl : lv_has ls 2 [(0, .ref t), (1, .int (Int32.ofInt (v : Int)))] := hl
  have hcl : (Int32.ofInt (v : Int)).toNatClampNeg = v := (by decide : ∀ j : Nat, j < 12 → (Int32.ofInt (j : Int)).toNatClampNeg = j) v hv
  have hin : vp_in (Int32.ofInt (v : Int)) 12 := by
    intro h
    rcases h with h | h
    · exact absurd h ((by decide : ∀ j : Nat, j < 12 → ¬ Int32.ofInt (j : Int) < 0) v hv)
    · rw [hcl] at h; omega
  have hch : ((xmvb.getD v 0 &&& 255).toUInt32 % 65536).toInt32 = xmvb.getD v 0 ∧ narrow .char (.int (xmvb.getD v 0)) = .int (xmvb.getD v 0) := by
    refine ⟨(by decide : ∀ j : Nat, j < 12 → ((xmvb.getD j 0 &&& 255).toUInt32 % 65536).toInt32 = xmvb.getD j 0) v hv, ?_⟩
    have : v = 0 ∨ v = 1 ∨ v = 2 ∨ v = 3 ∨ v = 4 ∨ v = 5 ∨ v = 6 ∨ v = 7 ∨ v = 8 ∨ v = 9 ∨ v = 10 ∨ v = 11 := by omega
    rcases this with h | h | h | h | h | h | h | h | h | h | h | h <;> subst h <;> rfl
  refine lv_iload_n (k := 1) hx hb (by decide +kernel) rfl (lv_at hl 1 rfl) ?_
  refine lv_aload_n (k := 0) hx hb (by decide +kernel) rfl (lv_at hl 0 rfl) ?_
  refine va_tlen (v := 12) hx hb hJ.2.2.2.1 hS rfl (by decide +kernel) ?_
  refine va_callv (va_runS (As := [.int (Int32.ofInt (v : Int)), .int 12]) (rest := []) ⟨hx, hb, hml, hown, hts⟩ (jm_sci l q t v hv) ⟨callB_of 2 hts jg_sci rfl rfl rfl (hts _ jn_S) (hts _ jl_9) ⟨by decide, by decide, by decide +kernel⟩ ⟨Nat.le_of_ble_eq_true rfl, Nat.le_of_ble_eq_true rfl⟩, hts _ js_sci⟩ ⟨jblind, fun U hU hW => ⟨rfl, jst_move hW.alike (by rw [hU]; exact hS.2.1) hJ⟩⟩ rfl rfl hl.1 rfl (lv_room (by decide)) (show decode prog_15_method_2_code 3 = .ok (.invokestatic 9, 3) from by decide +kernel) ⟨Nat.zero_le _, Nat.zero_le _⟩) hS (fun _ _ h => h) (fun _ h => h) (fun u t1 H1 locs1 _ _ _ _ hz hk hS => ?_)
  refine lv_aload_n (k := 0) hx hb (by decide +kernel) rfl (lv_at hl 0 rfl) ?_
  refine lv_iload_n (k := 1) hx hb (by decide +kernel) rfl (lv_at hl 1 rfl) ?_
  refine va_tb (v := .int (xmvb.getD v 0)) hx hb hJ.2.2.2.1 hS hin (by rw [hcl]) (by decide +kernel) ?_
  refine lv_sipush (n := 255) (v := 255) hx hb (by decide +kernel) (by decide) ?_
  refine lv_iand hx hb (by decide +kernel) ?_
  refine lv_i2c hx hb (by decide +kernel) hch.1 ?_
  exact W.zret hx hb hr hch.2 (fun t ht hW => ⟨⟨_, (), rfl, rfl, trivial⟩, hS.F ht⟩) hS.2.2 (by decide +kernel)
set_option maxRecDepth 20000 in
theorem jm_cha (l : Launch) (q t : Nat) (v : Nat) (hv : v < 12) : Met l jy_cha (Cond.code jy_cha prog_14_method_56_code 2 (some .char) :: xw) { frames := 3, cells := 0, slots := 0, locals := 64 } (va_Pc [.ref q, .int (Int32.ofInt (v : Int))] (fun U => jst q t U U.heap)) (jQ (xmvb.getD v 0)) 0 0 jF := by
  refine Met.ofW (cc := prog_14_method_56_code) (maxL := 2) (ret := (some .char)) (by decide) rfl ?_
  intro p e s m args below meth c s₁ B hml hv
  obtain ⟨rfl, hJ⟩ := hv
  have hx := B.exec
  have hb := B.bytes
  have hr := B.returns
  have hts : ∀ w ∈ xw, w.before _ s = true := fun w hw => atoms_spec (ws := Cond.code jy_cha prog_14_method_56_code 2 (some .char) :: xw) B.pre w (List.mem_cons_of_mem _ hw)
  have hown : s.vm.findClass "java/lang/String" = some m.cls := findClass_of_methodNamed B.named
  have hlocks := B.notSynchronized
  have hS : va_S jF s.heap s.heap [] := va_S.rf
  have hl := lv_entry ([.ref q, .int (Int32.ofInt (v : Int))]) (n := 2) (Nat.le_of_ble_eq_true rfl)
  rw [lg_entry_eq]
  generalize (lg_sl ([.ref q, .int (Int32.ofInt (v : Int))]) ++ List.replicate (2 - (lg_sl ([.ref q, .int (Int32.ofInt (v : Int))])).length) Slot.unset).toArray = ls at hl ⊢
  have hl : lv_has ls 2 [(0, .ref q), (1, .int (Int32.ofInt (v : Int)))] := hl
  have hch : narrow .char (.int (xmvb.getD v 0)) = .int (xmvb.getD v 0) := by
    have : v = 0 ∨ v = 1 ∨ v = 2 ∨ v = 3 ∨ v = 4 ∨ v = 5 ∨ v = 6 ∨ v = 7 ∨ v = 8 ∨ v = 9 ∨ v = 10 ∨ v = 11 := by omega
    rcases this with h | h | h | h | h | h | h | h | h | h | h | h <;> subst h <;> rfl
  refine lv_aload_n (k := 0) hx hb (by decide +kernel) rfl (lv_at hl 0 rfl) ?_
  refine jcallV (As := []) hx hb hml hown hts (jm_isLatin1 l q t) jl_492 ji_isLatin1 jv_isLatin1 jg_isLatin1 rfl jd_isLatin1 rfl rfl ⟨Nat.le_of_ble_eq_true rfl, Nat.le_of_ble_eq_true rfl⟩ ⟨Nat.zero_le _, Nat.zero_le _⟩ hJ hS hl.1 (by decide) (by decide +kernel) (fun H1 locs1 hS _ _ => ?_)
  refine lv_if_eq (tgt := 16) (off := 12) hx hb (by decide +kernel) rfl (fun h => absurd h (by decide)) (fun _ => ?_)
  refine lv_aload_n (k := 0) hx hb (by decide +kernel) rfl (lv_at hl 0 rfl) ?_
  refine vk_getf hx hb hJ.2.2.1 hS hown (hts _ jf_9) (fun _ h => h) (by decide +kernel) ?_
  refine lv_iload_n (k := 1) hx hb (by decide +kernel) rfl (lv_at hl 1 rfl) ?_
  refine jcallS (As := [.ref t, .int (Int32.ofInt (v : Int))]) (q := q) (t := t) (rest := []) hx hb hml hown hts (jm_lca l q t v hv) jl_495 js_lca jn_L jg_lca ⟨by decide, by decide⟩ jd_lca rfl rfl ⟨Nat.le_of_ble_eq_true rfl, Nat.le_of_ble_eq_true rfl⟩ ⟨Nat.zero_le _, Nat.zero_le _⟩ hJ hS hl.1 (by decide) (by decide +kernel) (fun H1 locs1 hS _ _ => ?_)
  exact W.zret hx hb hr hch (fun t ht hW => ⟨⟨_, (), rfl, rfl, trivial⟩, hS.F ht⟩) hS.2.2 (by decide +kernel)
theorem jst_of2 {ad : Nat × Nat → Nat} {A : Nat → Prop} {s : State} (h : xstr ad A s s.heap) : ∃ t, ∀ (U : State) (H : Heap), s.vm.Alike U.vm → (∀ a : Nat, a < s.heap.size → ¬ A a → H[a]? = s.heap[a]?) → jst (ad (99, 0)) t U H := by
  obtain ⟨-, -, ⟨adV, h3⟩, -, h5, h6⟩ := h
  refine ⟨adV 0, fun U H hv hq => ?_⟩
  have h3 := ((h3.moved hv).kept hq).narrow (B := jF) (fun q h => absurd h id)
  obtain ⟨k1, k2, k3, k4⟩ := h3.1 0 (by decide)
  exact ⟨k1, k2, k3, k4, ((h5.moved hv).kept hq).narrow (B := jF) (fun q h => absurd h id), ((h6.moved hv).kept hq).narrow (B := jF) (fun q h => absurd h id)⟩
section XPS
variable {p : Program} {l : Launch} {e : Env} {R : Room} {s : State} {m : MethodId} {args : Array Value} {below : List Frame} {meth : Method} {c : Code} {H : Heap} {locs : List Loc} {cells slots : Nat} {ls : Array Slot} {Q : State → Prop}
variable {D : va_G} {cA : Nat → ClassId} {tyl : List Nat} {ids : List (Nat × Nat)} {ad : Nat × Nat → Nat} {A : Nat → Prop} {k pc : Nat} {L : xa_L} {S rest : List xa_V} {σ : xa_H}
theorem jprim {ix : Nat} {y : MethodName} {bytes : ByteArray} {maxL : Nat} {ret : Option FieldType} {rm : Room} {As : List Value} {x : Int32} {i : Nat} (hcs : cells ≤ R.cells ∧ slots ≤ R.slots) (C : xcx D cA tyl ids ad A p R s m args meth c k)
    (hM : ∀ q t, Met l y (Cond.code y bytes maxL ret :: xw) rm (va_Pc (.ref q :: As) (fun U => jst q t U U.heap)) (jQ x) 0 0 jF) (h1 : Cond.methodLink (xmO k) ix y ∈ xw) (h2 : Cond.instanceMethod y ∈ xw) (h3 : Cond.selects "java/lang/String" y y ∈ xw) (hG : GoodIn xw (Cond.code y bytes maxL ret :: xw)) (hC : y.cls = "java/lang/String")
    (hd : (parseMethodDescriptor y.desc).map (fun d => d.parameters.length) = some As.length) (hrc : rm.cells = 0) (hrs : rm.slots = 0) (hR : rm.frames + 1 ≤ R.frames ∧ 8 + (maxL + 11) + rm.locals ≤ R.locals) (hdg : decode (xmB k) pc = .ok (.invokevirtual ix, 3))
    (Y : xdy D cA ids ad A s H locs ls (xmL k) L S σ) (hw8 : xwt rest ≤ 8) (hrs2 : ∀ w ∈ rest, w ∈ S)
    (kk : ∀ (H1 : Heap) (locs1 : List Loc), xdy D cA ids ad A s H1 locs1 ls (xmL k) L rest σ → W p l e R s m args below meth c H1 locs1 cells slots Q (F0 m (pc + 3) ls (.int x :: rest.map (xcv ad)))) :
    W p l e R s m args below meth c H locs cells slots Q (F0 m pc ls (As.reverse ++ .ref (ad (99, i)) :: rest.map (xcv ad))) := by
  obtain ⟨⟨hx, hb, hml, hown⟩, hts, hen, hI, -, hFr, hLr⟩ := C
  have hstr := hen.2.2
  have hi : ad (99, i) = ad (99, 0) := hstr.2.2.2.1 i
  obtain ⟨t, hJ⟩ := jst_of2 hstr
  have hS := Y.1.2.2
  have hJH := hJ s H (Vm.Alike.refl s.vm) hS.2.1
  have hsz : ls.size = xmL k := Y.2.2.2.2.1
  rw [hi]
  have hpre : PreV s H "java/lang/String" (ad (99, 0)) (va_Pc (.ref (ad (99, 0)) :: As) (fun U => jst (ad (99, 0)) t U U.heap)) As := by
    refine ⟨jblind, ?_, fun U hU hW => ⟨rfl, hJ U U.heap hW.alike (by rw [hU]; exact hS.2.1)⟩⟩
    obtain ⟨cell, g1, g2, g3, -⟩ := hJH.1
    exact ⟨cell, g1, g2, g3⟩
  refine va_calli (va_runV ⟨hx, hb, hml, hown, hts⟩ (hM (ad (99, 0)) t) (cwV (C := "java/lang/String") As.length hts ?_ rfl hrc hrs ⟨hC, by rw [hC]; decide, by rw [hC]; decide, hd⟩ hR) hpre rfl rfl hsz rfl (xrest hw8) hdg hcs) hS (fun _ _ h => absurd h id) (fun _ h => absurd h id) (fun r u t1 H1 locs1 _ _ hr _ hz hk hS1 => ?_)
  · intro w hw
    unfold wsV at hw
    rcases List.mem_append.mp hw with hw | hw
    · simp only [List.mem_cons, List.not_mem_nil, or_false] at hw
      rcases hw with rfl | rfl | rfl | rfl
      · exact xw_good _ h1
      · exact xw_good _ h2
      · exact xw_good _ h3
      · exact xw_good _ jn_S
    · exact hG w hw
  · have hr : r = x := hr
    subst hr
    refine kk H1 locs1 ⟨⟨Y.1.1.kept (fun k x hx => hk x.1 ((Y.1.1 k x hx).lt) id), Y.1.2.1, hS1⟩, Y.2.1, Y.2.2.1, fun w hw => Y.2.2.2.1 w (hrs2 w hw), Y.2.2.2.2⟩
theorem xmv_e : ∀ j, j < 12 → Int32.ofInt (xmoves.getD j 0) = xmvb.getD j 0 ∧ xr32 (xmoves.getD j 0) := by
  intro j hj
  have : j = 0 ∨ j = 1 ∨ j = 2 ∨ j = 3 ∨ j = 4 ∨ j = 5 ∨ j = 6 ∨ j = 7 ∨ j = 8 ∨ j = 9 ∨ j = 10 ∨ j = 11 := by omega
  rcases this with h | h | h | h | h | h | h | h | h | h | h | h <;> subst h <;> exact ⟨rfl, by decide, by decide⟩
theorem xixo_r : ∀ (r : List Int) (c n : Int), -1 ≤ n → n + (r.length : Int) < 1000 → xr32 (xixo r c n) := by
  intro r
  induction r with
  | nil => intro c n h1 h2; show xr32 (-1); exact ⟨by decide, by decide⟩
  | cons a r ih =>
    intro c n h1 h2
    have hlen : ((a :: r).length : Int) = (r.length : Int) + 1 := by simp
    show xr32 (if c = a then n else xixo r c (n + 1))
    by_cases h : c = a
    · rw [if_pos h]; exact ⟨by omega, by omega⟩
    · rw [if_neg h]; exact ih c (n + 1) (by omega) (by omega)
set_option maxRecDepth 20000 in
/-- String.indexOf, charAt, length on the text of the moves -/
theorem xprim_S {x y z ix : Nat} {v : xa_V} (hcs : cells ≤ R.cells ∧ slots ≤ R.slots) (C : xcx D cA tyl ids ad A p R s m args meth c k) (hS : S = (S.take y).reverse.reverse ++ S.drop y) (hp : xprim x (S.take y).reverse = some v)
    (hck : (decide (lw_tbl[z]? = some (Cond.methodLink (xmO k) ix (xck_p x))) && Nat.ble 5 (xmF k) && Nat.ble 141 (xmW k) && Nat.blt x 5003) = true) (h5 : 5000 ≤ x) (hdg : decode (xmB k) pc = .ok (.invokevirtual ix, 3))
    (Y : xdy D cA ids ad A s H locs ls (xmL k) L S σ) (hw8 : xwt (S.drop y) ≤ 8)
    (kk : xok ids v → ∀ (H1 : Heap) (locs1 : List Loc), xdy D cA ids ad A s H1 locs1 ls (xmL k) L (S.drop y) σ → W p l e R s m args below meth c H1 locs1 cells slots Q (F0 m (pc + 3) ls ((v :: S.drop y).map (xcv ad)))) : W p l e R s m args below meth c H locs cells slots Q (F0 m pc ls (S.map (xcv ad))) := by
  have hFr := C.2.2.2.2.2.1
  have hLr := C.2.2.2.2.2.2
  simp only [Bool.and_eq_true, decide_eq_true_eq] at hck
  obtain ⟨⟨⟨h1, h2⟩, h3⟩, h4⟩ := hck
  have h2 := Nat.ble_eq.mp h2
  have h3 := Nat.ble_eq.mp h3
  have h4 := Nat.blt_eq.mp h4
  have hdrop : ∀ w ∈ S.drop y, w ∈ S := fun w hw => List.mem_of_mem_drop hw
  have e : S.map (xcv ad) = ((S.take y).reverse.map (xcv ad)).reverse ++ (S.drop y).map (xcv ad) := by
    rw [← List.map_reverse, ← List.map_append, ← hS]
  rw [e]
  generalize (S.take y).reverse = as at hp
  generalize S.drop y = rest at hw8 kk hdrop
  have hx : x = 5000 ∨ x = 5001 ∨ x = 5002 := by omega
  match as, hp with
  | [], hp => exact xno hp
  | [.inl a], hp =>
    rcases hx with hx | hx | hx <;> subst hx <;> exact xno hp
  | .inl a :: .inr b :: r, hp => exact xno hp
  | [.inl a, .inl b], hp =>
    rcases hx with hx | hx | hx <;> subst hx <;> exact xno hp
  | .inl a :: .inl b :: d :: r, hp => exact xno hp
  | .inr (.inl a) :: r, hp => exact xno hp
  | .inr (.inr none) :: r, hp => exact xno hp
  | [.inr (.inr (some (K, i)))], hp =>
    have hp : (if K = 99 then (cond (Nat.beq x 5002) (some (.inl 12 : xa_V)) none) else none) = some v := hp
    by_cases hK : K = 99
    · rw [if_pos hK] at hp
      subst hK
      rcases hx with hx | hx | hx <;> subst hx
      · exact xno hp
      · exact xno hp
      · cases hp
        exact jprim (y := jy_length) (As := []) (rest := rest) hcs C (fun q t => jm_length l q t) (xw_in h1 rfl) ji_length jv_length jg_length rfl jd_length rfl rfl ⟨by show 1 + 1 ≤ _; omega, by show 8 + (1 + 11) + 20 ≤ _; omega⟩ hdg Y hw8 hdrop (fun H1 locs1 Y1 => kk ⟨by decide, by decide⟩ H1 locs1 Y1)
    · rw [if_neg hK] at hp; exact xno hp
  | [.inr (.inr (some (K, i))), .inl c0], hp =>
    have hp : (if K = 99 then (cond (Nat.beq x 5000) (if 0 ≤ c0 ∧ c0 < 65536 then some (.inl (xixo xmoves c0 0) : xa_V) else none) (cond (Nat.beq x 5001) (if 0 ≤ c0 ∧ c0 < 12 then some (.inl (xmoves.getD c0.toNat 0)) else none) none)) else none) = some v := hp
    by_cases hK : K = 99
    · rw [if_pos hK] at hp
      subst hK
      rcases hx with hx | hx | hx <;> subst hx
      · have hp : (if 0 ≤ c0 ∧ c0 < 65536 then some (.inl (xixo xmoves c0 0) : xa_V) else none) = some v := hp
        by_cases hc : 0 ≤ c0 ∧ c0 < 65536
        · rw [if_pos hc] at hp
          cases hp
          obtain ⟨n, hn⟩ : ∃ n : Nat, c0 = (n : Int) := ⟨c0.toNat, by omega⟩
          subst hn
          exact jprim (y := jy_io1) (As := [.int (Int32.ofInt (n : Int))]) (rest := rest) hcs C (fun q t => jm_io1 l q t n (by omega)) (xw_in h1 rfl) ji_io1 jv_io1 jg_io1 rfl jd_io1 rfl rfl ⟨by show 3 + 1 ≤ _; omega, by show 8 + (2 + 11) + 70 ≤ _; omega⟩ hdg Y hw8 hdrop (fun H1 locs1 Y1 => kk (xixo_r xmoves (n : Int) 0 (by decide) (by decide)) H1 locs1 Y1)
        · rw [if_neg hc] at hp; exact xno hp
      · have hp : (if 0 ≤ c0 ∧ c0 < 12 then some (.inl (xmoves.getD c0.toNat 0) : xa_V) else none) = some v := hp
        by_cases hc : 0 ≤ c0 ∧ c0 < 12
        · rw [if_pos hc] at hp
          cases hp
          obtain ⟨n, hn⟩ : ∃ n : Nat, c0 = (n : Int) := ⟨c0.toNat, by omega⟩
          subst hn
          have hn12 : n < 12 := by omega
          obtain ⟨w1, w2⟩ := xmv_e n hn12
          have tn : ((n : Int)).toNat = n := rfl
          refine jprim (y := jy_cha) (As := [.int (Int32.ofInt (n : Int))]) (rest := rest) hcs C (fun q t => jm_cha l q t n hn12) (xw_in h1 rfl) ji_cha jv_cha jg_cha rfl jd_cha rfl rfl ⟨by show 3 + 1 ≤ _; omega, by show 8 + (2 + 11) + 64 ≤ _; omega⟩ hdg Y hw8 hdrop (fun H1 locs1 Y1 => ?_)
          have := kk w2 H1 locs1 Y1
          rw [← w1]
          exact this
        · rw [if_neg hc] at hp; exact xno hp
      · exact xno hp
    · rw [if_neg hK] at hp; exact xno hp
  | .inr (.inr (some (K, i))) :: .inr b :: r, hp => exact xno hp
  | .inr (.inr (some (K, i))) :: .inl b :: d :: r, hp => exact xno hp
end XPS
