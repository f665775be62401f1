/-! The methods by name. Written by program. -/
def y_M_init : MethodName := ⟨"BitShuffler$BitMap", "<init>", "()V"⟩
abbrev K_M_init : bs_K := ("BitShuffler$BitMap", prog_2_method_1_code, 1, none, [], "<init>")
theorem n_M_init : bs_nm ⟨"BitShuffler$BitMap", "<init>", "()V"⟩ 0 = true := by decide +kernel
theorem c_M_init (args : Array Value) (s : State) (hts : ∀ w ∈ bs_WS, w.before args s = true) : ∃ (mk : MethodId) (methk : Method) (ck : Code), bs_Me s ⟨"BitShuffler$BitMap", "<init>", "()V"⟩ K_M_init mk methk ck := bs_Me.ofCode (hts _ q_76) rfl rfl
def y_P_init : MethodName := ⟨"BitShuffler$Program", "<init>", "()V"⟩
abbrev K_P_init : bs_K := ("BitShuffler$Program", prog_4_method_1_code, 1, none, [], "<init>")
theorem n_P_init : bs_nm ⟨"BitShuffler$Program", "<init>", "()V"⟩ 0 = true := by decide +kernel
theorem c_P_init (args : Array Value) (s : State) (hts : ∀ w ∈ bs_WS, w.before args s = true) : ∃ (mk : MethodId) (methk : Method) (ck : Code), bs_Me s ⟨"BitShuffler$Program", "<init>", "()V"⟩ K_P_init mk methk ck := bs_Me.ofCode (hts _ q_91) rfl rfl
def y_W_init : MethodName := ⟨"BitShuffler$WordMachine", "<init>", "()V"⟩
abbrev K_W_init : bs_K := ("BitShuffler$WordMachine", prog_7_method_1_code, 1, none, [], "<init>")
theorem n_W_init : bs_nm ⟨"BitShuffler$WordMachine", "<init>", "()V"⟩ 0 = true := by decide +kernel
theorem c_W_init (args : Array Value) (s : State) (hts : ∀ w ∈ bs_WS, w.before args s = true) : ∃ (mk : MethodId) (methk : Method) (ck : Code), bs_Me s ⟨"BitShuffler$WordMachine", "<init>", "()V"⟩ K_W_init mk methk ck := bs_Me.ofCode (hts _ q_111) rfl rfl
def y_S_init : MethodName := ⟨"BitShuffler$Symbols", "<init>", "()V"⟩
abbrev K_S_init : bs_K := ("BitShuffler$Symbols", prog_6_method_1_code, 1, none, [], "<init>")
theorem n_S_init : bs_nm ⟨"BitShuffler$Symbols", "<init>", "()V"⟩ 0 = true := by decide +kernel
theorem c_S_init (args : Array Value) (s : State) (hts : ∀ w ∈ bs_WS, w.before args s = true) : ∃ (mk : MethodId) (methk : Method) (ck : Code), bs_Me s ⟨"BitShuffler$Symbols", "<init>", "()V"⟩ K_S_init mk methk ck := bs_Me.ofCode (hts _ q_130) rfl rfl
def y_X_init : MethodName := ⟨"BitShuffler$SwapPlan", "<init>", "()V"⟩
abbrev K_X_init : bs_K := ("BitShuffler$SwapPlan", prog_5_method_1_code, 1, none, [], "<init>")
theorem n_X_init : bs_nm ⟨"BitShuffler$SwapPlan", "<init>", "()V"⟩ 0 = true := by decide +kernel
theorem c_X_init (args : Array Value) (s : State) (hts : ∀ w ∈ bs_WS, w.before args s = true) : ∃ (mk : MethodId) (methk : Method) (ck : Code), bs_Me s ⟨"BitShuffler$SwapPlan", "<init>", "()V"⟩ K_X_init mk methk ck := bs_Me.ofCode (hts _ q_152) rfl rfl
def y_G_init : MethodName := ⟨"BitShuffler$GatherPlan", "<init>", "()V"⟩
abbrev K_G_init : bs_K := ("BitShuffler$GatherPlan", prog_3_method_1_code, 1, none, [], "<init>")
theorem n_G_init : bs_nm ⟨"BitShuffler$GatherPlan", "<init>", "()V"⟩ 0 = true := by decide +kernel
theorem c_G_init (args : Array Value) (s : State) (hts : ∀ w ∈ bs_WS, w.before args s = true) : ∃ (mk : MethodId) (methk : Method) (ck : Code), bs_Me s ⟨"BitShuffler$GatherPlan", "<init>", "()V"⟩ K_G_init mk methk ck := bs_Me.ofCode (hts _ q_180) rfl rfl
def y_M_becomeIdentity : MethodName := ⟨"BitShuffler$BitMap", "becomeIdentity", "(I)V"⟩
abbrev K_M_becomeIdentity : bs_K := ("BitShuffler$BitMap", prog_2_method_7_code, 3, none, [], "becomeIdentity")
theorem n_M_becomeIdentity : bs_nm ⟨"BitShuffler$BitMap", "becomeIdentity", "(I)V"⟩ 1 = true := by decide +kernel
theorem c_M_becomeIdentity (args : Array Value) (s : State) (hts : ∀ w ∈ bs_WS, w.before args s = true) : ∃ (mk : MethodId) (methk : Method) (ck : Code), bs_Me s ⟨"BitShuffler$BitMap", "becomeIdentity", "(I)V"⟩ K_M_becomeIdentity mk methk ck := bs_Me.ofCode (hts _ q_195) rfl rfl
def y_B_init : MethodName := ⟨"BitShuffler", "<init>", "()V"⟩
abbrev K_B_init : bs_K := ("BitShuffler", prog_1_method_1_code, 2, none, [], "<init>")
theorem n_B_init : bs_nm ⟨"BitShuffler", "<init>", "()V"⟩ 0 = true := by decide +kernel
theorem c_B_init (args : Array Value) (s : State) (hts : ∀ w ∈ bs_WS, w.before args s = true) : ∃ (mk : MethodId) (methk : Method) (ck : Code), bs_Me s ⟨"BitShuffler", "<init>", "()V"⟩ K_B_init mk methk ck := bs_Me.ofCode (hts _ q_68) rfl rfl
def y_R_begin : MethodName := ⟨"BitShufflerModel", "begin", "(I)V"⟩
abbrev K_R_begin : bs_K := ("BitShufflerModel", prog_9_method_3_code, 3, none, [], "begin")
theorem n_R_begin : bs_nm ⟨"BitShufflerModel", "begin", "(I)V"⟩ 1 = true := by decide +kernel
theorem c_R_begin (args : Array Value) (s : State) (hts : ∀ w ∈ bs_WS, w.before args s = true) : ∃ (mk : MethodId) (methk : Method) (ck : Code), bs_Me s ⟨"BitShufflerModel", "begin", "(I)V"⟩ K_R_begin mk methk ck := bs_Me.ofCode (hts _ q_747) rfl rfl
def y_R_init : MethodName := ⟨"BitShufflerModel", "<init>", "()V"⟩
abbrev K_R_init : bs_K := ("BitShufflerModel", prog_9_method_1_code, 1, none, [], "<init>")
theorem n_R_init : bs_nm ⟨"BitShufflerModel", "<init>", "()V"⟩ 0 = true := by decide +kernel
theorem c_R_init (args : Array Value) (s : State) (hts : ∀ w ∈ bs_WS, w.before args s = true) : ∃ (mk : MethodId) (methk : Method) (ck : Code), bs_Me s ⟨"BitShufflerModel", "<init>", "()V"⟩ K_R_init mk methk ck := bs_Me.ofCode (hts _ q_742) rfl rfl
def y_P_clear : MethodName := ⟨"BitShuffler$Program", "clear", "()V"⟩
abbrev K_P_clear : bs_K := ("BitShuffler$Program", prog_4_method_6_code, 1, none, [], "clear")
theorem n_P_clear : bs_nm ⟨"BitShuffler$Program", "clear", "()V"⟩ 0 = true := by decide +kernel
theorem c_P_clear (args : Array Value) (s : State) (hts : ∀ w ∈ bs_WS, w.before args s = true) : ∃ (mk : MethodId) (methk : Method) (ck : Code), bs_Me s ⟨"BitShuffler$Program", "clear", "()V"⟩ K_P_clear mk methk ck := bs_Me.ofCode (hts _ q_448) rfl rfl
def y_B_width : MethodName := ⟨"BitShuffler", "width", "(I)V"⟩
abbrev K_B_width : bs_K := ("BitShuffler", prog_1_method_2_code, 2, none, [], "width")
theorem n_B_width : bs_nm ⟨"BitShuffler", "width", "(I)V"⟩ 1 = true := by decide +kernel
theorem c_B_width (args : Array Value) (s : State) (hts : ∀ w ∈ bs_WS, w.before args s = true) : ∃ (mk : MethodId) (methk : Method) (ck : Code), bs_Me s ⟨"BitShuffler", "width", "(I)V"⟩ K_B_width mk methk ck := bs_Me.ofCode (hts _ q_380) rfl rfl
def y_L_width : MethodName := ⟨"BitShufflerLaw", "width", "(LBitShuffler;I)I"⟩
abbrev K_L_width : bs_K := ("BitShufflerLaw", method_3_code, 3, (some .int), [(0, 5, 8, 13)], "width")
theorem n_L_width : bs_nm ⟨"BitShufflerLaw", "width", "(LBitShuffler;I)I"⟩ 2 = true := by decide +kernel
theorem c_L_width (args : Array Value) (s : State) (hts : ∀ w ∈ bs_WS, w.before args s = true) : ∃ (mk : MethodId) (methk : Method) (ck : Code), bs_Me s ⟨"BitShufflerLaw", "width", "(LBitShuffler;I)I"⟩ K_L_width mk methk ck := bs_Me.ofWith (hts _ q_375) rfl rfl
def y_R_width : MethodName := ⟨"BitShufflerModel", "width", "(I)V"⟩
abbrev K_R_width : bs_K := ("BitShufflerModel", prog_9_method_4_code, 2, none, [], "width")
theorem n_R_width : bs_nm ⟨"BitShufflerModel", "width", "(I)V"⟩ 1 = true := by decide +kernel
theorem c_R_width (args : Array Value) (s : State) (hts : ∀ w ∈ bs_WS, w.before args s = true) : ∃ (mk : MethodId) (methk : Method) (ck : Code), bs_Me s ⟨"BitShufflerModel", "width", "(I)V"⟩ K_R_width mk methk ck := bs_Me.ofCode (hts _ q_838) rfl rfl
def y_R_thrown : MethodName := ⟨"BitShufflerModel", "thrown", "()I"⟩
abbrev K_R_thrown : bs_K := ("BitShufflerModel", prog_9_method_2_code, 1, (some .int), [], "thrown")
theorem n_R_thrown : bs_nm ⟨"BitShufflerModel", "thrown", "()I"⟩ 0 = true := by decide +kernel
theorem c_R_thrown (args : Array Value) (s : State) (hts : ∀ w ∈ bs_WS, w.before args s = true) : ∃ (mk : MethodId) (methk : Method) (ck : Code), bs_Me s ⟨"BitShufflerModel", "thrown", "()I"⟩ K_R_thrown mk methk ck := bs_Me.ofCode (hts _ q_834) rfl rfl
def y_M_hasBit : MethodName := ⟨"BitShuffler$BitMap", "hasBit", "(I)Z"⟩
abbrev K_M_hasBit : bs_K := ("BitShuffler$BitMap", prog_2_method_3_code, 2, (some .boolean), [], "hasBit")
theorem n_M_hasBit : bs_nm ⟨"BitShuffler$BitMap", "hasBit", "(I)Z"⟩ 1 = true := by decide +kernel
theorem c_M_hasBit (args : Array Value) (s : State) (hts : ∀ w ∈ bs_WS, w.before args s = true) : ∃ (mk : MethodId) (methk : Method) (ck : Code), bs_Me s ⟨"BitShuffler$BitMap", "hasBit", "(I)Z"⟩ K_M_hasBit mk methk ck := bs_Me.ofCode (hts _ q_463) rfl rfl
def y_B_requireBit : MethodName := ⟨"BitShuffler", "requireBit", "(I)V"⟩
abbrev K_B_requireBit : bs_K := ("BitShuffler", prog_1_method_20_code, 2, none, [], "requireBit")
theorem n_B_requireBit : bs_nm ⟨"BitShuffler", "requireBit", "(I)V"⟩ 1 = true := by decide +kernel
theorem c_B_requireBit (args : Array Value) (s : State) (hts : ∀ w ∈ bs_WS, w.before args s = true) : ∃ (mk : MethodId) (methk : Method) (ck : Code), bs_Me s ⟨"BitShuffler", "requireBit", "(I)V"⟩ K_B_requireBit mk methk ck := bs_Me.ofCode (hts _ q_459) rfl rfl
def y_M_hasSource : MethodName := ⟨"BitShuffler$BitMap", "hasSource", "(I)Z"⟩
abbrev K_M_hasSource : bs_K := ("BitShuffler$BitMap", prog_2_method_4_code, 2, (some .boolean), [], "hasSource")
theorem n_M_hasSource : bs_nm ⟨"BitShuffler$BitMap", "hasSource", "(I)Z"⟩ 1 = true := by decide +kernel
theorem c_M_hasSource (args : Array Value) (s : State) (hts : ∀ w ∈ bs_WS, w.before args s = true) : ∃ (mk : MethodId) (methk : Method) (ck : Code), bs_Me s ⟨"BitShuffler$BitMap", "hasSource", "(I)Z"⟩ K_M_hasSource mk methk ck := bs_Me.ofCode (hts _ q_467) rfl rfl
def y_M_setSource : MethodName := ⟨"BitShuffler$BitMap", "setSource", "(II)V"⟩
abbrev K_M_setSource : bs_K := ("BitShuffler$BitMap", prog_2_method_6_code, 3, none, [], "setSource")
theorem n_M_setSource : bs_nm ⟨"BitShuffler$BitMap", "setSource", "(II)V"⟩ 2 = true := by decide +kernel
theorem c_M_setSource (args : Array Value) (s : State) (hts : ∀ w ∈ bs_WS, w.before args s = true) : ∃ (mk : MethodId) (methk : Method) (ck : Code), bs_Me s ⟨"BitShuffler$BitMap", "setSource", "(II)V"⟩ K_M_setSource mk methk ck := bs_Me.ofCode (hts _ q_472) rfl rfl
def y_B_target : MethodName := ⟨"BitShuffler", "target", "(II)V"⟩
abbrev K_B_target : bs_K := ("BitShuffler", prog_1_method_3_code, 3, none, [], "target")
theorem n_B_target : bs_nm ⟨"BitShuffler", "target", "(II)V"⟩ 2 = true := by decide +kernel
theorem c_B_target (args : Array Value) (s : State) (hts : ∀ w ∈ bs_WS, w.before args s = true) : ∃ (mk : MethodId) (methk : Method) (ck : Code), bs_Me s ⟨"BitShuffler", "target", "(II)V"⟩ K_B_target mk methk ck := bs_Me.ofCode (hts _ q_455) rfl rfl
def y_L_target : MethodName := ⟨"BitShufflerLaw", "target", "(LBitShuffler;II)I"⟩
abbrev K_L_target : bs_K := ("BitShufflerLaw", method_4_code, 4, (some .int), [(0, 6, 9, 13)], "target")
theorem n_L_target : bs_nm ⟨"BitShufflerLaw", "target", "(LBitShuffler;II)I"⟩ 3 = true := by decide +kernel
theorem c_L_target (args : Array Value) (s : State) (hts : ∀ w ∈ bs_WS, w.before args s = true) : ∃ (mk : MethodId) (methk : Method) (ck : Code), bs_Me s ⟨"BitShufflerLaw", "target", "(LBitShuffler;II)I"⟩ K_L_target mk methk ck := bs_Me.ofWith (hts _ q_451) rfl rfl
def y_R_noBit : MethodName := ⟨"BitShufflerModel", "noBit", "(I)Z"⟩
abbrev K_R_noBit : bs_K := ("BitShufflerModel", prog_9_method_5_code, 2, (some .boolean), [], "noBit")
theorem n_R_noBit : bs_nm ⟨"BitShufflerModel", "noBit", "(I)Z"⟩ 1 = true := by decide +kernel
theorem c_R_noBit (args : Array Value) (s : State) (hts : ∀ w ∈ bs_WS, w.before args s = true) : ∃ (mk : MethodId) (methk : Method) (ck : Code), bs_Me s ⟨"BitShufflerModel", "noBit", "(I)Z"⟩ K_R_noBit mk methk ck := bs_Me.ofCode (hts _ q_846) rfl rfl
def y_R_target : MethodName := ⟨"BitShufflerModel", "target", "(II)V"⟩
abbrev K_R_target : bs_K := ("BitShufflerModel", prog_9_method_6_code, 3, none, [], "target")
theorem n_R_target : bs_nm ⟨"BitShufflerModel", "target", "(II)V"⟩ 2 = true := by decide +kernel
theorem c_R_target (args : Array Value) (s : State) (hts : ∀ w ∈ bs_WS, w.before args s = true) : ∃ (mk : MethodId) (methk : Method) (ck : Code), bs_Me s ⟨"BitShufflerModel", "target", "(II)V"⟩ K_R_target mk methk ck := bs_Me.ofCode (hts _ q_842) rfl rfl
def y_M_sourceOf : MethodName := ⟨"BitShuffler$BitMap", "sourceOf", "(I)I"⟩
abbrev K_M_sourceOf : bs_K := ("BitShuffler$BitMap", prog_2_method_5_code, 2, (some .int), [], "sourceOf")
theorem n_M_sourceOf : bs_nm ⟨"BitShuffler$BitMap", "sourceOf", "(I)I"⟩ 1 = true := by decide +kernel
theorem c_M_sourceOf (args : Array Value) (s : State) (hts : ∀ w ∈ bs_WS, w.before args s = true) : ∃ (mk : MethodId) (methk : Method) (ck : Code), bs_Me s ⟨"BitShuffler$BitMap", "sourceOf", "(I)I"⟩ K_M_sourceOf mk methk ck := bs_Me.ofCode (hts _ q_354) rfl rfl
def y_B_source : MethodName := ⟨"BitShuffler", "source", "(I)I"⟩
abbrev K_B_source : bs_K := ("BitShuffler", prog_1_method_4_code, 2, (some .int), [], "source")
theorem n_B_source : bs_nm ⟨"BitShuffler", "source", "(I)I"⟩ 1 = true := by decide +kernel
theorem c_B_source (args : Array Value) (s : State) (hts : ∀ w ∈ bs_WS, w.before args s = true) : ∃ (mk : MethodId) (methk : Method) (ck : Code), bs_Me s ⟨"BitShuffler", "source", "(I)I"⟩ K_B_source mk methk ck := bs_Me.ofCode (hts _ q_479) rfl rfl
def y_L_source : MethodName := ⟨"BitShufflerLaw", "source", "(LBitShuffler;I[J)I"⟩
abbrev K_L_source : bs_K := ("BitShufflerLaw", method_5_code, 4, (some .int), [(0, 9, 12, 13)], "source")
theorem n_L_source : bs_nm ⟨"BitShufflerLaw", "source", "(LBitShuffler;I[J)I"⟩ 3 = true := by decide +kernel
theorem c_L_source (args : Array Value) (s : State) (hts : ∀ w ∈ bs_WS, w.before args s = true) : ∃ (mk : MethodId) (methk : Method) (ck : Code), bs_Me s ⟨"BitShufflerLaw", "source", "(LBitShuffler;I[J)I"⟩ K_L_source mk methk ck := bs_Me.ofWith (hts _ q_475) rfl rfl
def y_R_source : MethodName := ⟨"BitShufflerModel", "source", "(I)I"⟩
abbrev K_R_source : bs_K := ("BitShufflerModel", prog_9_method_7_code, 2, (some .int), [], "source")
theorem n_R_source : bs_nm ⟨"BitShufflerModel", "source", "(I)I"⟩ 1 = true := by decide +kernel
theorem c_R_source (args : Array Value) (s : State) (hts : ∀ w ∈ bs_WS, w.before args s = true) : ∃ (mk : MethodId) (methk : Method) (ck : Code), bs_Me s ⟨"BitShufflerModel", "source", "(I)I"⟩ K_R_source mk methk ck := bs_Me.ofCode (hts _ q_850) rfl rfl
def y_M_comesFromWord : MethodName := ⟨"BitShuffler$BitMap", "comesFromWord", "(I)Z"⟩
abbrev K_M_comesFromWord : bs_K := ("BitShuffler$BitMap", prog_2_method_11_code, 2, (some .boolean), [], "comesFromWord")
theorem n_M_comesFromWord : bs_nm ⟨"BitShuffler$BitMap", "comesFromWord", "(I)Z"⟩ 1 = true := by decide +kernel
theorem c_M_comesFromWord (args : Array Value) (s : State) (hts : ∀ w ∈ bs_WS, w.before args s = true) : ∃ (mk : MethodId) (methk : Method) (ck : Code), bs_Me s ⟨"BitShuffler$BitMap", "comesFromWord", "(I)Z"⟩ K_M_comesFromWord mk methk ck := bs_Me.ofCode (hts _ q_298) rfl rfl
def y_B_holds : MethodName := ⟨"BitShuffler", "holds", "(JI)Z"⟩
abbrev K_B_holds : bs_K := ("BitShuffler", prog_1_method_31_code, 3, (some .boolean), [], "holds")
theorem n_B_holds : bs_nm ⟨"BitShuffler", "holds", "(JI)Z"⟩ 2 = true := by decide +kernel
theorem c_B_holds (args : Array Value) (s : State) (hts : ∀ w ∈ bs_WS, w.before args s = true) : ∃ (mk : MethodId) (methk : Method) (ck : Code), bs_Me s ⟨"BitShuffler", "holds", "(JI)Z"⟩ K_B_holds mk methk ck := bs_Me.ofCode (hts _ q_278) rfl rfl
def y_M_isPermutation : MethodName := ⟨"BitShuffler$BitMap", "isPermutation", "()Z"⟩
abbrev K_M_isPermutation : bs_K := ("BitShuffler$BitMap", prog_2_method_12_code, 4, (some .boolean), [], "isPermutation")
theorem n_M_isPermutation : bs_nm ⟨"BitShuffler$BitMap", "isPermutation", "()Z"⟩ 0 = true := by decide +kernel
theorem c_M_isPermutation (args : Array Value) (s : State) (hts : ∀ w ∈ bs_WS, w.before args s = true) : ∃ (mk : MethodId) (methk : Method) (ck : Code), bs_Me s ⟨"BitShuffler$BitMap", "isPermutation", "()Z"⟩ K_M_isPermutation mk methk ck := bs_Me.ofCode (hts _ q_491) rfl rfl
def y_M_bits : MethodName := ⟨"BitShuffler$BitMap", "bits", "()I"⟩
abbrev K_M_bits : bs_K := ("BitShuffler$BitMap", prog_2_method_2_code, 1, (some .int), [], "bits")
theorem n_M_bits : bs_nm ⟨"BitShuffler$BitMap", "bits", "()I"⟩ 0 = true := by decide +kernel
theorem c_M_bits (args : Array Value) (s : State) (hts : ∀ w ∈ bs_WS, w.before args s = true) : ∃ (mk : MethodId) (methk : Method) (ck : Code), bs_Me s ⟨"BitShuffler$BitMap", "bits", "()I"⟩ K_M_bits mk methk ck := bs_Me.ofCode (hts _ q_239) rfl rfl
def y_JI_bitCount : MethodName := ⟨"java/lang/Integer", "bitCount", "(I)I"⟩
abbrev K_JI_bitCount : bs_K := ("java/lang/Integer", prog_14_method_49_code, 1, (some .int), [], "bitCount")
theorem n_JI_bitCount : bs_nm ⟨"java/lang/Integer", "bitCount", "(I)I"⟩ 1 = true := by decide +kernel
theorem c_JI_bitCount (args : Array Value) (s : State) (hts : ∀ w ∈ bs_WS, w.before args s = true) : ∃ (mk : MethodId) (methk : Method) (ck : Code), bs_Me s ⟨"java/lang/Integer", "bitCount", "(I)I"⟩ K_JI_bitCount mk methk ck := bs_Me.ofCode (hts _ q_497) rfl rfl
def y_B_isPowerOfTwo : MethodName := ⟨"BitShuffler", "isPowerOfTwo", "(I)Z"⟩
abbrev K_B_isPowerOfTwo : bs_K := ("BitShuffler", prog_1_method_32_code, 1, (some .boolean), [], "isPowerOfTwo")
theorem n_B_isPowerOfTwo : bs_nm ⟨"BitShuffler", "isPowerOfTwo", "(I)Z"⟩ 1 = true := by decide +kernel
theorem c_B_isPowerOfTwo (args : Array Value) (s : State) (hts : ∀ w ∈ bs_WS, w.before args s = true) : ∃ (mk : MethodId) (methk : Method) (ck : Code), bs_Me s ⟨"BitShuffler", "isPowerOfTwo", "(I)Z"⟩ K_B_isPowerOfTwo mk methk ck := bs_Me.ofCode (hts _ q_494) rfl rfl
def y_M_bitsShifted : MethodName := ⟨"BitShuffler$BitMap", "bitsShifted", "(I)J"⟩
abbrev K_M_bitsShifted : bs_K := ("BitShuffler$BitMap", prog_2_method_15_code, 5, (some .long), [], "bitsShifted")
theorem n_M_bitsShifted : bs_nm ⟨"BitShuffler$BitMap", "bitsShifted", "(I)J"⟩ 1 = true := by decide +kernel
theorem c_M_bitsShifted (args : Array Value) (s : State) (hts : ∀ w ∈ bs_WS, w.before args s = true) : ∃ (mk : MethodId) (methk : Method) (ck : Code), bs_Me s ⟨"BitShuffler$BitMap", "bitsShifted", "(I)J"⟩ K_M_bitsShifted mk methk ck := bs_Me.ofCode (hts _ q_523) rfl rfl
def y_P_change : MethodName := ⟨"BitShuffler$Program", "change", "(IIJ)V"⟩
abbrev K_P_change : bs_K := ("BitShuffler$Program", prog_4_method_7_code, 5, none, [], "change")
theorem n_P_change : bs_nm ⟨"BitShuffler$Program", "change", "(IIJ)V"⟩ 3 = true := by decide +kernel
theorem c_P_change (args : Array Value) (s : State) (hts : ∀ w ∈ bs_WS, w.before args s = true) : ∃ (mk : MethodId) (methk : Method) (ck : Code), bs_Me s ⟨"BitShuffler$Program", "change", "(IIJ)V"⟩ K_P_change mk methk ck := bs_Me.ofCode (hts _ q_535) rfl rfl
def y_P_append : MethodName := ⟨"BitShuffler$Program", "append", "(IIJ)V"⟩
abbrev K_P_append : bs_K := ("BitShuffler$Program", prog_4_method_8_code, 5, none, [], "append")
theorem n_P_append : bs_nm ⟨"BitShuffler$Program", "append", "(IIJ)V"⟩ 3 = true := by decide +kernel
theorem c_P_append (args : Array Value) (s : State) (hts : ∀ w ∈ bs_WS, w.before args s = true) : ∃ (mk : MethodId) (methk : Method) (ck : Code), bs_Me s ⟨"BitShuffler$Program", "append", "(IIJ)V"⟩ K_P_append mk methk ck := bs_Me.ofCode (hts _ q_531) rfl rfl
def y_P_appendMove : MethodName := ⟨"BitShuffler$Program", "appendMove", "(IIJ)V"⟩
abbrev K_P_appendMove : bs_K := ("BitShuffler$Program", prog_4_method_9_code, 5, none, [], "appendMove")
theorem n_P_appendMove : bs_nm ⟨"BitShuffler$Program", "appendMove", "(IIJ)V"⟩ 3 = true := by decide +kernel
theorem c_P_appendMove (args : Array Value) (s : State) (hts : ∀ w ∈ bs_WS, w.before args s = true) : ∃ (mk : MethodId) (methk : Method) (ck : Code), bs_Me s ⟨"BitShuffler$Program", "appendMove", "(IIJ)V"⟩ K_P_appendMove mk methk ck := bs_Me.ofCode (hts _ q_527) rfl rfl
def y_M_bitsThatAreOne : MethodName := ⟨"BitShuffler$BitMap", "bitsThatAreOne", "()J"⟩
abbrev K_M_bitsThatAreOne : bs_K := ("BitShuffler$BitMap", prog_2_method_14_code, 4, (some .long), [], "bitsThatAreOne")
theorem n_M_bitsThatAreOne : bs_nm ⟨"BitShuffler$BitMap", "bitsThatAreOne", "()J"⟩ 0 = true := by decide +kernel
theorem c_M_bitsThatAreOne (args : Array Value) (s : State) (hts : ∀ w ∈ bs_WS, w.before args s = true) : ∃ (mk : MethodId) (methk : Method) (ck : Code), bs_Me s ⟨"BitShuffler$BitMap", "bitsThatAreOne", "()J"⟩ K_M_bitsThatAreOne mk methk ck := bs_Me.ofCode (hts _ q_294) rfl rfl
def y_P_appendSet : MethodName := ⟨"BitShuffler$Program", "appendSet", "(J)V"⟩
abbrev K_P_appendSet : bs_K := ("BitShuffler$Program", prog_4_method_10_code, 3, none, [], "appendSet")
theorem n_P_appendSet : bs_nm ⟨"BitShuffler$Program", "appendSet", "(J)V"⟩ 1 = true := by decide +kernel
theorem c_P_appendSet (args : Array Value) (s : State) (hts : ∀ w ∈ bs_WS, w.before args s = true) : ∃ (mk : MethodId) (methk : Method) (ck : Code), bs_Me s ⟨"BitShuffler$Program", "appendSet", "(J)V"⟩ K_P_appendSet mk methk ck := bs_Me.ofCode (hts _ q_540) rfl rfl
def y_B_writeShifts : MethodName := ⟨"BitShuffler", "writeShifts", "()V"⟩
abbrev K_B_writeShifts : bs_K := ("BitShuffler", prog_1_method_22_code, 2, none, [], "writeShifts")
theorem n_B_writeShifts : bs_nm ⟨"BitShuffler", "writeShifts", "()V"⟩ 0 = true := by decide +kernel
theorem c_B_writeShifts (args : Array Value) (s : State) (hts : ∀ w ∈ bs_WS, w.before args s = true) : ∃ (mk : MethodId) (methk : Method) (ck : Code), bs_Me s ⟨"BitShuffler", "writeShifts", "()V"⟩ K_B_writeShifts mk methk ck := bs_Me.ofCode (hts _ q_519) rfl rfl
def y_M_bitsRotated : MethodName := ⟨"BitShuffler$BitMap", "bitsRotated", "(I)J"⟩
abbrev K_M_bitsRotated : bs_K := ("BitShuffler$BitMap", prog_2_method_16_code, 2, (some .long), [], "bitsRotated")
theorem n_M_bitsRotated : bs_nm ⟨"BitShuffler$BitMap", "bitsRotated", "(I)J"⟩ 1 = true := by decide +kernel
theorem c_M_bitsRotated (args : Array Value) (s : State) (hts : ∀ w ∈ bs_WS, w.before args s = true) : ∃ (mk : MethodId) (methk : Method) (ck : Code), bs_Me s ⟨"BitShuffler$BitMap", "bitsRotated", "(I)J"⟩ K_M_bitsRotated mk methk ck := bs_Me.ofCode (hts _ q_548) rfl rfl
def y_B_writeRotations : MethodName := ⟨"BitShuffler", "writeRotations", "()V"⟩
abbrev K_B_writeRotations : bs_K := ("BitShuffler", prog_1_method_23_code, 2, none, [], "writeRotations")
theorem n_B_writeRotations : bs_nm ⟨"BitShuffler", "writeRotations", "()V"⟩ 0 = true := by decide +kernel
theorem c_B_writeRotations (args : Array Value) (s : State) (hts : ∀ w ∈ bs_WS, w.before args s = true) : ∃ (mk : MethodId) (methk : Method) (ck : Code), bs_Me s ⟨"BitShuffler", "writeRotations", "()V"⟩ K_B_writeRotations mk methk ck := bs_Me.ofCode (hts _ q_544) rfl rfl
def y_X_followWays : MethodName := ⟨"BitShuffler$SwapPlan", "followWays", "(II)V"⟩
abbrev K_X_followWays : bs_K := ("BitShuffler$SwapPlan", prog_5_method_4_code, 7, none, [], "followWays")
theorem n_X_followWays : bs_nm ⟨"BitShuffler$SwapPlan", "followWays", "(II)V"⟩ 2 = true := by decide +kernel
theorem c_X_followWays (args : Array Value) (s : State) (hts : ∀ w ∈ bs_WS, w.before args s = true) : ∃ (mk : MethodId) (methk : Method) (ck : Code), bs_Me s ⟨"BitShuffler$SwapPlan", "followWays", "(II)V"⟩ K_X_followWays mk methk ck := bs_Me.ofCode (hts _ q_563) rfl rfl
def y_X_decideWays : MethodName := ⟨"BitShuffler$SwapPlan", "decideWays", "(I)V"⟩
abbrev K_X_decideWays : bs_K := ("BitShuffler$SwapPlan", prog_5_method_3_code, 3, none, [], "decideWays")
theorem n_X_decideWays : bs_nm ⟨"BitShuffler$SwapPlan", "decideWays", "(I)V"⟩ 1 = true := by decide +kernel
theorem c_X_decideWays (args : Array Value) (s : State) (hts : ∀ w ∈ bs_WS, w.before args s = true) : ∃ (mk : MethodId) (methk : Method) (ck : Code), bs_Me s ⟨"BitShuffler$SwapPlan", "decideWays", "(I)V"⟩ K_X_decideWays mk methk ck := bs_Me.ofCode (hts _ q_559) rfl rfl
def y_X_lowerPlaces : MethodName := ⟨"BitShuffler$SwapPlan", "lowerPlaces", "(JI)J"⟩
abbrev K_X_lowerPlaces : bs_K := ("BitShuffler$SwapPlan", prog_5_method_5_code, 7, (some .long), [], "lowerPlaces")
theorem n_X_lowerPlaces : bs_nm ⟨"BitShuffler$SwapPlan", "lowerPlaces", "(JI)J"⟩ 2 = true := by decide +kernel
theorem c_X_lowerPlaces (args : Array Value) (s : State) (hts : ∀ w ∈ bs_WS, w.before args s = true) : ∃ (mk : MethodId) (methk : Method) (ck : Code), bs_Me s ⟨"BitShuffler$SwapPlan", "lowerPlaces", "(JI)J"⟩ K_X_lowerPlaces mk methk ck := bs_Me.ofCode (hts _ q_568) rfl rfl
def y_P_appendSwap : MethodName := ⟨"BitShuffler$Program", "appendSwap", "(IJ)V"⟩
abbrev K_P_appendSwap : bs_K := ("BitShuffler$Program", prog_4_method_11_code, 4, none, [], "appendSwap")
theorem n_P_appendSwap : bs_nm ⟨"BitShuffler$Program", "appendSwap", "(IJ)V"⟩ 2 = true := by decide +kernel
theorem c_P_appendSwap (args : Array Value) (s : State) (hts : ∀ w ∈ bs_WS, w.before args s = true) : ∃ (mk : MethodId) (methk : Method) (ck : Code), bs_Me s ⟨"BitShuffler$Program", "appendSwap", "(IJ)V"⟩ K_P_appendSwap mk methk ck := bs_Me.ofCode (hts _ q_572) rfl rfl
def y_X_divideBlocks : MethodName := ⟨"BitShuffler$SwapPlan", "divideBlocks", "(I)V"⟩
abbrev K_X_divideBlocks : bs_K := ("BitShuffler$SwapPlan", prog_5_method_6_code, 6, none, [], "divideBlocks")
theorem n_X_divideBlocks : bs_nm ⟨"BitShuffler$SwapPlan", "divideBlocks", "(I)V"⟩ 1 = true := by decide +kernel
theorem c_X_divideBlocks (args : Array Value) (s : State) (hts : ∀ w ∈ bs_WS, w.before args s = true) : ∃ (mk : MethodId) (methk : Method) (ck : Code), bs_Me s ⟨"BitShuffler$SwapPlan", "divideBlocks", "(I)V"⟩ K_X_divideBlocks mk methk ck := bs_Me.ofCode (hts _ q_576) rfl rfl
def y_X_write : MethodName := ⟨"BitShuffler$SwapPlan", "write", "(LBitShuffler$BitMap;LBitShuffler$Program;)V"⟩
abbrev K_X_write : bs_K := ("BitShuffler$SwapPlan", prog_5_method_2_code, 5, none, [], "write")
theorem n_X_write : bs_nm ⟨"BitShuffler$SwapPlan", "write", "(LBitShuffler$BitMap;LBitShuffler$Program;)V"⟩ 2 = true := by decide +kernel
theorem c_X_write (args : Array Value) (s : State) (hts : ∀ w ∈ bs_WS, w.before args s = true) : ∃ (mk : MethodId) (methk : Method) (ck : Code), bs_Me s ⟨"BitShuffler$SwapPlan", "write", "(LBitShuffler$BitMap;LBitShuffler$Program;)V"⟩ K_X_write mk methk ck := bs_Me.ofCode (hts _ q_553) rfl rfl
def y_G_put : MethodName := ⟨"BitShuffler$GatherPlan", "put", "(II)V"⟩
abbrev K_G_put : bs_K := ("BitShuffler$GatherPlan", prog_3_method_3_code, 4, none, [], "put")
theorem n_G_put : bs_nm ⟨"BitShuffler$GatherPlan", "put", "(II)V"⟩ 2 = true := by decide +kernel
theorem c_G_put (args : Array Value) (s : State) (hts : ∀ w ∈ bs_WS, w.before args s = true) : ∃ (mk : MethodId) (methk : Method) (ck : Code), bs_Me s ⟨"BitShuffler$GatherPlan", "put", "(II)V"⟩ K_G_put mk methk ck := bs_Me.ofCode (hts _ q_588) rfl rfl
def y_G_write : MethodName := ⟨"BitShuffler$GatherPlan", "write", "(LBitShuffler$BitMap;LBitShuffler$Program;)V"⟩
abbrev K_G_write : bs_K := ("BitShuffler$GatherPlan", prog_3_method_2_code, 4, none, [], "write")
theorem n_G_write : bs_nm ⟨"BitShuffler$GatherPlan", "write", "(LBitShuffler$BitMap;LBitShuffler$Program;)V"⟩ 2 = true := by decide +kernel
theorem c_G_write (args : Array Value) (s : State) (hts : ∀ w ∈ bs_WS, w.before args s = true) : ∃ (mk : MethodId) (methk : Method) (ck : Code), bs_Me s ⟨"BitShuffler$GatherPlan", "write", "(LBitShuffler$BitMap;LBitShuffler$Program;)V"⟩ K_G_write mk methk ck := bs_Me.ofCode (hts _ q_581) rfl rfl
def y_P_length : MethodName := ⟨"BitShuffler$Program", "length", "()I"⟩
abbrev K_P_length : bs_K := ("BitShuffler$Program", prog_4_method_2_code, 1, (some .int), [], "length")
theorem n_P_length : bs_nm ⟨"BitShuffler$Program", "length", "()I"⟩ 0 = true := by decide +kernel
theorem c_P_length (args : Array Value) (s : State) (hts : ∀ w ∈ bs_WS, w.before args s = true) : ∃ (mk : MethodId) (methk : Method) (ck : Code), bs_Me s ⟨"BitShuffler$Program", "length", "()I"⟩ K_P_length mk methk ck := bs_Me.ofCode (hts _ q_231) rfl rfl
def y_B_make : MethodName := ⟨"BitShuffler", "make", "(I)I"⟩
abbrev K_B_make : bs_K := ("BitShuffler", prog_1_method_5_code, 2, (some .int), [], "make")
theorem n_B_make : bs_nm ⟨"BitShuffler", "make", "(I)I"⟩ 1 = true := by decide +kernel
theorem c_B_make (args : Array Value) (s : State) (hts : ∀ w ∈ bs_WS, w.before args s = true) : ∃ (mk : MethodId) (methk : Method) (ck : Code), bs_Me s ⟨"BitShuffler", "make", "(I)I"⟩ K_B_make mk methk ck := bs_Me.ofCode (hts _ q_487) rfl rfl
def y_L_make : MethodName := ⟨"BitShufflerLaw", "make", "(LBitShuffler;I[J)I"⟩
abbrev K_L_make : bs_K := ("BitShufflerLaw", method_6_code, 4, (some .int), [(0, 9, 12, 13), (0, 9, 15, 26)], "make")
theorem n_L_make : bs_nm ⟨"BitShufflerLaw", "make", "(LBitShuffler;I[J)I"⟩ 3 = true := by decide +kernel
theorem c_L_make (args : Array Value) (s : State) (hts : ∀ w ∈ bs_WS, w.before args s = true) : ∃ (mk : MethodId) (methk : Method) (ck : Code), bs_Me s ⟨"BitShufflerLaw", "make", "(LBitShuffler;I[J)I"⟩ K_L_make mk methk ck := bs_Me.ofWith (hts _ q_482) rfl rfl
def y_R_isPermutation : MethodName := ⟨"BitShufflerModel", "isPermutation", "()Z"⟩
abbrev K_R_isPermutation : bs_K := ("BitShufflerModel", prog_9_method_8_code, 3, (some .boolean), [], "isPermutation")
theorem n_R_isPermutation : bs_nm ⟨"BitShufflerModel", "isPermutation", "()Z"⟩ 0 = true := by decide +kernel
theorem c_R_isPermutation (args : Array Value) (s : State) (hts : ∀ w ∈ bs_WS, w.before args s = true) : ∃ (mk : MethodId) (methk : Method) (ck : Code), bs_Me s ⟨"BitShufflerModel", "isPermutation", "()Z"⟩ K_R_isPermutation mk methk ck := bs_Me.ofCode (hts _ q_858) rfl rfl
def y_R_add : MethodName := ⟨"BitShufflerModel", "add", "(IIJ)V"⟩
abbrev K_R_add : bs_K := ("BitShufflerModel", prog_9_method_9_code, 5, none, [], "add")
theorem n_R_add : bs_nm ⟨"BitShufflerModel", "add", "(IIJ)V"⟩ 3 = true := by decide +kernel
theorem c_R_add (args : Array Value) (s : State) (hts : ∀ w ∈ bs_WS, w.before args s = true) : ∃ (mk : MethodId) (methk : Method) (ck : Code), bs_Me s ⟨"BitShufflerModel", "add", "(IIJ)V"⟩ K_R_add mk methk ck := bs_Me.ofCode (hts _ q_866) rfl rfl
def y_R_addOnes : MethodName := ⟨"BitShufflerModel", "addOnes", "()V"⟩
abbrev K_R_addOnes : bs_K := ("BitShufflerModel", prog_9_method_10_code, 4, none, [], "addOnes")
theorem n_R_addOnes : bs_nm ⟨"BitShufflerModel", "addOnes", "()V"⟩ 0 = true := by decide +kernel
theorem c_R_addOnes (args : Array Value) (s : State) (hts : ∀ w ∈ bs_WS, w.before args s = true) : ∃ (mk : MethodId) (methk : Method) (ck : Code), bs_Me s ⟨"BitShufflerModel", "addOnes", "()V"⟩ K_R_addOnes mk methk ck := bs_Me.ofCode (hts _ q_870) rfl rfl
def y_R_makeMoves : MethodName := ⟨"BitShufflerModel", "makeMoves", "(Z)V"⟩
abbrev K_R_makeMoves : bs_K := ("BitShufflerModel", prog_9_method_11_code, 7, none, [], "makeMoves")
theorem n_R_makeMoves : bs_nm ⟨"BitShufflerModel", "makeMoves", "(Z)V"⟩ 1 = true := by decide +kernel
theorem c_R_makeMoves (args : Array Value) (s : State) (hts : ∀ w ∈ bs_WS, w.before args s = true) : ∃ (mk : MethodId) (methk : Method) (ck : Code), bs_Me s ⟨"BitShufflerModel", "makeMoves", "(Z)V"⟩ K_R_makeMoves mk methk ck := bs_Me.ofCode (hts _ q_862) rfl rfl
def y_R_across : MethodName := ⟨"BitShufflerModel", "across", "(II)I"⟩
abbrev K_R_across : bs_K := ("BitShufflerModel", prog_9_method_13_code, 3, (some .int), [], "across")
theorem n_R_across : bs_nm ⟨"BitShufflerModel", "across", "(II)I"⟩ 2 = true := by decide +kernel
theorem c_R_across (args : Array Value) (s : State) (hts : ∀ w ∈ bs_WS, w.before args s = true) : ∃ (mk : MethodId) (methk : Method) (ck : Code), bs_Me s ⟨"BitShufflerModel", "across", "(II)I"⟩ K_R_across mk methk ck := bs_Me.ofCode (hts _ q_886) rfl rfl
def y_R_decide : MethodName := ⟨"BitShufflerModel", "decide", "(II)V"⟩
abbrev K_R_decide : bs_K := ("BitShufflerModel", prog_9_method_14_code, 8, none, [], "decide")
theorem n_R_decide : bs_nm ⟨"BitShufflerModel", "decide", "(II)V"⟩ 2 = true := by decide +kernel
theorem c_R_decide (args : Array Value) (s : State) (hts : ∀ w ∈ bs_WS, w.before args s = true) : ∃ (mk : MethodId) (methk : Method) (ck : Code), bs_Me s ⟨"BitShufflerModel", "decide", "(II)V"⟩ K_R_decide mk methk ck := bs_Me.ofCode (hts _ q_882) rfl rfl
def y_R_split : MethodName := ⟨"BitShufflerModel", "split", "(III)V"⟩
abbrev K_R_split : bs_K := ("BitShufflerModel", prog_9_method_15_code, 6, none, [], "split")
theorem n_R_split : bs_nm ⟨"BitShufflerModel", "split", "(III)V"⟩ 3 = true := by decide +kernel
theorem c_R_split (args : Array Value) (s : State) (hts : ∀ w ∈ bs_WS, w.before args s = true) : ∃ (mk : MethodId) (methk : Method) (ck : Code), bs_Me s ⟨"BitShufflerModel", "split", "(III)V"⟩ K_R_split mk methk ck := bs_Me.ofCode (hts _ q_878) rfl rfl
def y_R_makeSwaps : MethodName := ⟨"BitShufflerModel", "makeSwaps", "()V"⟩
abbrev K_R_makeSwaps : bs_K := ("BitShufflerModel", prog_9_method_16_code, 4, none, [], "makeSwaps")
theorem n_R_makeSwaps : bs_nm ⟨"BitShufflerModel", "makeSwaps", "()V"⟩ 0 = true := by decide +kernel
theorem c_R_makeSwaps (args : Array Value) (s : State) (hts : ∀ w ∈ bs_WS, w.before args s = true) : ∃ (mk : MethodId) (methk : Method) (ck : Code), bs_Me s ⟨"BitShufflerModel", "makeSwaps", "()V"⟩ K_R_makeSwaps mk methk ck := bs_Me.ofCode (hts _ q_874) rfl rfl
def y_R_makeGathers : MethodName := ⟨"BitShufflerModel", "makeGathers", "()V"⟩
abbrev K_R_makeGathers : bs_K := ("BitShufflerModel", prog_9_method_12_code, 5, none, [], "makeGathers")
theorem n_R_makeGathers : bs_nm ⟨"BitShufflerModel", "makeGathers", "()V"⟩ 0 = true := by decide +kernel
theorem c_R_makeGathers (args : Array Value) (s : State) (hts : ∀ w ∈ bs_WS, w.before args s = true) : ∃ (mk : MethodId) (methk : Method) (ck : Code), bs_Me s ⟨"BitShufflerModel", "makeGathers", "()V"⟩ K_R_makeGathers mk methk ck := bs_Me.ofCode (hts _ q_890) rfl rfl
def y_R_make : MethodName := ⟨"BitShufflerModel", "make", "(I)I"⟩
abbrev K_R_make : bs_K := ("BitShufflerModel", prog_9_method_17_code, 3, (some .int), [], "make")
theorem n_R_make : bs_nm ⟨"BitShufflerModel", "make", "(I)I"⟩ 1 = true := by decide +kernel
theorem c_R_make (args : Array Value) (s : State) (hts : ∀ w ∈ bs_WS, w.before args s = true) : ∃ (mk : MethodId) (methk : Method) (ck : Code), bs_Me s ⟨"BitShufflerModel", "make", "(I)I"⟩ K_R_make mk methk ck := bs_Me.ofCode (hts _ q_854) rfl rfl
def y_B_size : MethodName := ⟨"BitShuffler", "size", "()I"⟩
abbrev K_B_size : bs_K := ("BitShuffler", prog_1_method_6_code, 1, (some .int), [], "size")
theorem n_B_size : bs_nm ⟨"BitShuffler", "size", "()I"⟩ 0 = true := by decide +kernel
theorem c_B_size (args : Array Value) (s : State) (hts : ∀ w ∈ bs_WS, w.before args s = true) : ∃ (mk : MethodId) (methk : Method) (ck : Code), bs_Me s ⟨"BitShuffler", "size", "()I"⟩ K_B_size mk methk ck := bs_Me.ofCode (hts _ q_227) rfl rfl
def y_R_size : MethodName := ⟨"BitShufflerModel", "size", "()I"⟩
abbrev K_R_size : bs_K := ("BitShufflerModel", prog_9_method_18_code, 1, (some .int), [], "size")
theorem n_R_size : bs_nm ⟨"BitShufflerModel", "size", "()I"⟩ 0 = true := by decide +kernel
theorem c_R_size (args : Array Value) (s : State) (hts : ∀ w ∈ bs_WS, w.before args s = true) : ∃ (mk : MethodId) (methk : Method) (ck : Code), bs_Me s ⟨"BitShufflerModel", "size", "()I"⟩ K_R_size mk methk ck := bs_Me.ofCode (hts _ q_894) rfl rfl
def y_B_requireStep : MethodName := ⟨"BitShuffler", "requireStep", "(I)V"⟩
abbrev K_B_requireStep : bs_K := ("BitShuffler", prog_1_method_21_code, 2, none, [], "requireStep")
theorem n_B_requireStep : bs_nm ⟨"BitShuffler", "requireStep", "(I)V"⟩ 1 = true := by decide +kernel
theorem c_B_requireStep (args : Array Value) (s : State) (hts : ∀ w ∈ bs_WS, w.before args s = true) : ∃ (mk : MethodId) (methk : Method) (ck : Code), bs_Me s ⟨"BitShuffler", "requireStep", "(I)V"⟩ K_B_requireStep mk methk ck := bs_Me.ofCode (hts _ q_603) rfl rfl
def y_P_amountAt : MethodName := ⟨"BitShuffler$Program", "amountAt", "(I)I"⟩
abbrev K_P_amountAt : bs_K := ("BitShuffler$Program", prog_4_method_4_code, 2, (some .int), [], "amountAt")
theorem n_P_amountAt : bs_nm ⟨"BitShuffler$Program", "amountAt", "(I)I"⟩ 1 = true := by decide +kernel
theorem c_P_amountAt (args : Array Value) (s : State) (hts : ∀ w ∈ bs_WS, w.before args s = true) : ∃ (mk : MethodId) (methk : Method) (ck : Code), bs_Me s ⟨"BitShuffler$Program", "amountAt", "(I)I"⟩ K_P_amountAt mk methk ck := bs_Me.ofCode (hts _ q_256) rfl rfl
def y_P_opAt : MethodName := ⟨"BitShuffler$Program", "opAt", "(I)I"⟩
abbrev K_P_opAt : bs_K := ("BitShuffler$Program", prog_4_method_3_code, 2, (some .int), [], "opAt")
theorem n_P_opAt : bs_nm ⟨"BitShuffler$Program", "opAt", "(I)I"⟩ 1 = true := by decide +kernel
theorem c_P_opAt (args : Array Value) (s : State) (hts : ∀ w ∈ bs_WS, w.before args s = true) : ∃ (mk : MethodId) (methk : Method) (ck : Code), bs_Me s ⟨"BitShuffler$Program", "opAt", "(I)I"⟩ K_P_opAt mk methk ck := bs_Me.ofCode (hts _ q_252) rfl rfl
def y_B_step : MethodName := ⟨"BitShuffler", "step", "(IZ)I"⟩
abbrev K_B_step : bs_K := ("BitShuffler", prog_1_method_7_code, 3, (some .int), [], "step")
theorem n_B_step : bs_nm ⟨"BitShuffler", "step", "(IZ)I"⟩ 2 = true := by decide +kernel
theorem c_B_step (args : Array Value) (s : State) (hts : ∀ w ∈ bs_WS, w.before args s = true) : ∃ (mk : MethodId) (methk : Method) (ck : Code), bs_Me s ⟨"BitShuffler", "step", "(IZ)I"⟩ K_B_step mk methk ck := bs_Me.ofCode (hts _ q_599) rfl rfl
def y_L_step : MethodName := ⟨"BitShufflerLaw", "step", "(LBitShuffler;IZ[J)I"⟩
abbrev K_L_step : bs_K := ("BitShufflerLaw", method_7_code, 5, (some .int), [(0, 10, 13, 32)], "step")
theorem n_L_step : bs_nm ⟨"BitShufflerLaw", "step", "(LBitShuffler;IZ[J)I"⟩ 4 = true := by decide +kernel
theorem c_L_step (args : Array Value) (s : State) (hts : ∀ w ∈ bs_WS, w.before args s = true) : ∃ (mk : MethodId) (methk : Method) (ck : Code), bs_Me s ⟨"BitShufflerLaw", "step", "(LBitShuffler;IZ[J)I"⟩ K_L_step mk methk ck := bs_Me.ofWith (hts _ q_594) rfl rfl
def y_R_noStep : MethodName := ⟨"BitShufflerModel", "noStep", "(I)Z"⟩
abbrev K_R_noStep : bs_K := ("BitShufflerModel", prog_9_method_19_code, 2, (some .boolean), [], "noStep")
theorem n_R_noStep : bs_nm ⟨"BitShufflerModel", "noStep", "(I)Z"⟩ 1 = true := by decide +kernel
theorem c_R_noStep (args : Array Value) (s : State) (hts : ∀ w ∈ bs_WS, w.before args s = true) : ∃ (mk : MethodId) (methk : Method) (ck : Code), bs_Me s ⟨"BitShufflerModel", "noStep", "(I)Z"⟩ K_R_noStep mk methk ck := bs_Me.ofCode (hts _ q_902) rfl rfl
def y_R_step : MethodName := ⟨"BitShufflerModel", "step", "(IZ)I"⟩
abbrev K_R_step : bs_K := ("BitShufflerModel", prog_9_method_20_code, 3, (some .int), [], "step")
theorem n_R_step : bs_nm ⟨"BitShufflerModel", "step", "(IZ)I"⟩ 2 = true := by decide +kernel
theorem c_R_step (args : Array Value) (s : State) (hts : ∀ w ∈ bs_WS, w.before args s = true) : ∃ (mk : MethodId) (methk : Method) (ck : Code), bs_Me s ⟨"BitShufflerModel", "step", "(IZ)I"⟩ K_R_step mk methk ck := bs_Me.ofCode (hts _ q_898) rfl rfl
def y_P_maskAt : MethodName := ⟨"BitShuffler$Program", "maskAt", "(I)J"⟩
abbrev K_P_maskAt : bs_K := ("BitShuffler$Program", prog_4_method_5_code, 2, (some .long), [], "maskAt")
theorem n_P_maskAt : bs_nm ⟨"BitShuffler$Program", "maskAt", "(I)J"⟩ 1 = true := by decide +kernel
theorem c_P_maskAt (args : Array Value) (s : State) (hts : ∀ w ∈ bs_WS, w.before args s = true) : ∃ (mk : MethodId) (methk : Method) (ck : Code), bs_Me s ⟨"BitShuffler$Program", "maskAt", "(I)J"⟩ K_P_maskAt mk methk ck := bs_Me.ofCode (hts _ q_260) rfl rfl
def y_B_mask : MethodName := ⟨"BitShuffler", "mask", "(I)J"⟩
abbrev K_B_mask : bs_K := ("BitShuffler", prog_1_method_8_code, 2, (some .long), [], "mask")
theorem n_B_mask : bs_nm ⟨"BitShuffler", "mask", "(I)J"⟩ 1 = true := by decide +kernel
theorem c_B_mask (args : Array Value) (s : State) (hts : ∀ w ∈ bs_WS, w.before args s = true) : ∃ (mk : MethodId) (methk : Method) (ck : Code), bs_Me s ⟨"BitShuffler", "mask", "(I)J"⟩ K_B_mask mk methk ck := bs_Me.ofCode (hts _ q_627) rfl rfl
def y_L_mask : MethodName := ⟨"BitShufflerLaw", "mask", "(LBitShuffler;I[J)I"⟩
abbrev K_L_mask : bs_K := ("BitShufflerLaw", method_8_code, 4, (some .int), [(0, 8, 11, 32)], "mask")
theorem n_L_mask : bs_nm ⟨"BitShufflerLaw", "mask", "(LBitShuffler;I[J)I"⟩ 3 = true := by decide +kernel
theorem c_L_mask (args : Array Value) (s : State) (hts : ∀ w ∈ bs_WS, w.before args s = true) : ∃ (mk : MethodId) (methk : Method) (ck : Code), bs_Me s ⟨"BitShufflerLaw", "mask", "(LBitShuffler;I[J)I"⟩ K_L_mask mk methk ck := bs_Me.ofWith (hts _ q_623) rfl rfl
def y_R_mask : MethodName := ⟨"BitShufflerModel", "mask", "(I)J"⟩
abbrev K_R_mask : bs_K := ("BitShufflerModel", prog_9_method_21_code, 2, (some .long), [], "mask")
theorem n_R_mask : bs_nm ⟨"BitShufflerModel", "mask", "(I)J"⟩ 1 = true := by decide +kernel
theorem c_R_mask (args : Array Value) (s : State) (hts : ∀ w ∈ bs_WS, w.before args s = true) : ∃ (mk : MethodId) (methk : Method) (ck : Code), bs_Me s ⟨"BitShufflerModel", "mask", "(I)J"⟩ K_R_mask mk methk ck := bs_Me.ofCode (hts _ q_906) rfl rfl
def y_B_allBits : MethodName := ⟨"BitShuffler", "allBits", "(I)J"⟩
abbrev K_B_allBits : bs_K := ("BitShuffler", prog_1_method_30_code, 1, (some .long), [], "allBits")
theorem n_B_allBits : bs_nm ⟨"BitShuffler", "allBits", "(I)J"⟩ 1 = true := by decide +kernel
theorem c_B_allBits (args : Array Value) (s : State) (hts : ∀ w ∈ bs_WS, w.before args s = true) : ∃ (mk : MethodId) (methk : Method) (ck : Code), bs_Me s ⟨"BitShuffler", "allBits", "(I)J"⟩ K_B_allBits mk methk ck := bs_Me.ofCode (hts _ q_246) rfl rfl
def y_B_fitsWidth : MethodName := ⟨"BitShuffler", "fitsWidth", "(JI)Z"⟩
abbrev K_B_fitsWidth : bs_K := ("BitShuffler", prog_1_method_28_code, 3, (some .boolean), [], "fitsWidth")
theorem n_B_fitsWidth : bs_nm ⟨"BitShuffler", "fitsWidth", "(JI)Z"⟩ 2 = true := by decide +kernel
theorem c_B_fitsWidth (args : Array Value) (s : State) (hts : ∀ w ∈ bs_WS, w.before args s = true) : ∃ (mk : MethodId) (methk : Method) (ck : Code), bs_Me s ⟨"BitShuffler", "fitsWidth", "(JI)Z"⟩ K_B_fitsWidth mk methk ck := bs_Me.ofCode (hts _ q_644) rfl rfl
def y_B_fitsSwap : MethodName := ⟨"BitShuffler", "fitsSwap", "(IJI)Z"⟩
abbrev K_B_fitsSwap : bs_K := ("BitShuffler", prog_1_method_29_code, 4, (some .boolean), [], "fitsSwap")
theorem n_B_fitsSwap : bs_nm ⟨"BitShuffler", "fitsSwap", "(IJI)Z"⟩ 3 = true := by decide +kernel
theorem c_B_fitsSwap (args : Array Value) (s : State) (hts : ∀ w ∈ bs_WS, w.before args s = true) : ∃ (mk : MethodId) (methk : Method) (ck : Code), bs_Me s ⟨"BitShuffler", "fitsSwap", "(IJI)Z"⟩ K_B_fitsSwap mk methk ck := bs_Me.ofCode (hts _ q_641) rfl rfl
def y_B_fitsOp : MethodName := ⟨"BitShuffler", "fitsOp", "(IIJI)Z"⟩
abbrev K_B_fitsOp : bs_K := ("BitShuffler", prog_1_method_27_code, 5, (some .boolean), [], "fitsOp")
theorem n_B_fitsOp : bs_nm ⟨"BitShuffler", "fitsOp", "(IIJI)Z"⟩ 4 = true := by decide +kernel
theorem c_B_fitsOp (args : Array Value) (s : State) (hts : ∀ w ∈ bs_WS, w.before args s = true) : ∃ (mk : MethodId) (methk : Method) (ck : Code), bs_Me s ⟨"BitShuffler", "fitsOp", "(IIJI)Z"⟩ K_B_fitsOp mk methk ck := bs_Me.ofCode (hts _ q_638) rfl rfl
def y_B_patch : MethodName := ⟨"BitShuffler", "patch", "(IIJ)V"⟩
abbrev K_B_patch : bs_K := ("BitShuffler", prog_1_method_9_code, 5, none, [], "patch")
theorem n_B_patch : bs_nm ⟨"BitShuffler", "patch", "(IIJ)V"⟩ 3 = true := by decide +kernel
theorem c_B_patch (args : Array Value) (s : State) (hts : ∀ w ∈ bs_WS, w.before args s = true) : ∃ (mk : MethodId) (methk : Method) (ck : Code), bs_Me s ⟨"BitShuffler", "patch", "(IIJ)V"⟩ K_B_patch mk methk ck := bs_Me.ofCode (hts _ q_635) rfl rfl
def y_L_patch : MethodName := ⟨"BitShufflerLaw", "patch", "(LBitShuffler;IIJ)I"⟩
abbrev K_L_patch : bs_K := ("BitShufflerLaw", method_9_code, 6, (some .int), [(0, 7, 10, 32), (0, 7, 14, 13)], "patch")
theorem n_L_patch : bs_nm ⟨"BitShufflerLaw", "patch", "(LBitShuffler;IIJ)I"⟩ 4 = true := by decide +kernel
theorem c_L_patch (args : Array Value) (s : State) (hts : ∀ w ∈ bs_WS, w.before args s = true) : ∃ (mk : MethodId) (methk : Method) (ck : Code), bs_Me s ⟨"BitShufflerLaw", "patch", "(LBitShuffler;IIJ)I"⟩ K_L_patch mk methk ck := bs_Me.ofWith (hts _ q_631) rfl rfl
def y_R_isIn : MethodName := ⟨"BitShufflerModel", "isIn", "(JI)Z"⟩
abbrev K_R_isIn : bs_K := ("BitShufflerModel", prog_9_method_22_code, 4, (some .boolean), [], "isIn")
theorem n_R_isIn : bs_nm ⟨"BitShufflerModel", "isIn", "(JI)Z"⟩ 2 = true := by decide +kernel
theorem c_R_isIn (args : Array Value) (s : State) (hts : ∀ w ∈ bs_WS, w.before args s = true) : ∃ (mk : MethodId) (methk : Method) (ck : Code), bs_Me s ⟨"BitShufflerModel", "isIn", "(JI)Z"⟩ K_R_isIn mk methk ck := bs_Me.ofCode (hts _ q_918) rfl rfl
def y_R_fits : MethodName := ⟨"BitShufflerModel", "fits", "(IIJ)Z"⟩
abbrev K_R_fits : bs_K := ("BitShufflerModel", prog_9_method_23_code, 8, (some .boolean), [], "fits")
theorem n_R_fits : bs_nm ⟨"BitShufflerModel", "fits", "(IIJ)Z"⟩ 3 = true := by decide +kernel
theorem c_R_fits (args : Array Value) (s : State) (hts : ∀ w ∈ bs_WS, w.before args s = true) : ∃ (mk : MethodId) (methk : Method) (ck : Code), bs_Me s ⟨"BitShufflerModel", "fits", "(IIJ)Z"⟩ K_R_fits mk methk ck := bs_Me.ofCode (hts _ q_914) rfl rfl
def y_R_patch : MethodName := ⟨"BitShufflerModel", "patch", "(IIJ)V"⟩
abbrev K_R_patch : bs_K := ("BitShufflerModel", prog_9_method_24_code, 5, none, [], "patch")
theorem n_R_patch : bs_nm ⟨"BitShufflerModel", "patch", "(IIJ)V"⟩ 3 = true := by decide +kernel
theorem c_R_patch (args : Array Value) (s : State) (hts : ∀ w ∈ bs_WS, w.before args s = true) : ∃ (mk : MethodId) (methk : Method) (ck : Code), bs_Me s ⟨"BitShufflerModel", "patch", "(IIJ)V"⟩ K_R_patch mk methk ck := bs_Me.ofCode (hts _ q_910) rfl rfl
def y_W_rotated : MethodName := ⟨"BitShuffler$WordMachine", "rotated", "(I)J"⟩
abbrev K_W_rotated : bs_K := ("BitShuffler$WordMachine", prog_7_method_4_code, 2, (some .long), [], "rotated")
theorem n_W_rotated : bs_nm ⟨"BitShuffler$WordMachine", "rotated", "(I)J"⟩ 1 = true := by decide +kernel
theorem c_W_rotated (args : Array Value) (s : State) (hts : ∀ w ∈ bs_WS, w.before args s = true) : ∃ (mk : MethodId) (methk : Method) (ck : Code), bs_Me s ⟨"BitShuffler$WordMachine", "rotated", "(I)J"⟩ K_W_rotated mk methk ck := bs_Me.ofCode (hts _ q_268) rfl rfl
def y_B_exchanged : MethodName := ⟨"BitShuffler", "exchanged", "(JIJ)J"⟩
abbrev K_B_exchanged : bs_K := ("BitShuffler", prog_1_method_33_code, 7, (some .long), [], "exchanged")
theorem n_B_exchanged : bs_nm ⟨"BitShuffler", "exchanged", "(JIJ)J"⟩ 3 = true := by decide +kernel
theorem c_B_exchanged (args : Array Value) (s : State) (hts : ∀ w ∈ bs_WS, w.before args s = true) : ∃ (mk : MethodId) (methk : Method) (ck : Code), bs_Me s ⟨"BitShuffler", "exchanged", "(JIJ)J"⟩ K_B_exchanged mk methk ck := bs_Me.ofCode (hts _ q_271) rfl rfl
def y_W_gathered : MethodName := ⟨"BitShuffler$WordMachine", "gathered", "(J)J"⟩
abbrev K_W_gathered : bs_K := ("BitShuffler$WordMachine", prog_7_method_5_code, 7, (some .long), [], "gathered")
theorem n_W_gathered : bs_nm ⟨"BitShuffler$WordMachine", "gathered", "(J)J"⟩ 1 = true := by decide +kernel
theorem c_W_gathered (args : Array Value) (s : State) (hts : ∀ w ∈ bs_WS, w.before args s = true) : ∃ (mk : MethodId) (methk : Method) (ck : Code), bs_Me s ⟨"BitShuffler$WordMachine", "gathered", "(J)J"⟩ K_W_gathered mk methk ck := bs_Me.ofCode (hts _ q_275) rfl rfl
def y_W_scattered : MethodName := ⟨"BitShuffler$WordMachine", "scattered", "(J)J"⟩
abbrev K_W_scattered : bs_K := ("BitShuffler$WordMachine", prog_7_method_6_code, 7, (some .long), [], "scattered")
theorem n_W_scattered : bs_nm ⟨"BitShuffler$WordMachine", "scattered", "(J)J"⟩ 1 = true := by decide +kernel
theorem c_W_scattered (args : Array Value) (s : State) (hts : ∀ w ∈ bs_WS, w.before args s = true) : ∃ (mk : MethodId) (methk : Method) (ck : Code), bs_Me s ⟨"BitShuffler$WordMachine", "scattered", "(J)J"⟩ K_W_scattered mk methk ck := bs_Me.ofCode (hts _ q_282) rfl rfl
def y_W_perform : MethodName := ⟨"BitShuffler$WordMachine", "perform", "(IIJ)V"⟩
abbrev K_W_perform : bs_K := ("BitShuffler$WordMachine", prog_7_method_3_code, 5, none, [], "perform")
theorem n_W_perform : bs_nm ⟨"BitShuffler$WordMachine", "perform", "(IIJ)V"⟩ 3 = true := by decide +kernel
theorem c_W_perform (args : Array Value) (s : State) (hts : ∀ w ∈ bs_WS, w.before args s = true) : ∃ (mk : MethodId) (methk : Method) (ck : Code), bs_Me s ⟨"BitShuffler$WordMachine", "perform", "(IIJ)V"⟩ K_W_perform mk methk ck := bs_Me.ofCode (hts _ q_264) rfl rfl
def y_W_resultOf : MethodName := ⟨"BitShuffler$WordMachine", "resultOf", "(LBitShuffler$Program;JI)J"⟩
abbrev K_W_resultOf : bs_K := ("BitShuffler$WordMachine", prog_7_method_2_code, 6, (some .long), [], "resultOf")
theorem n_W_resultOf : bs_nm ⟨"BitShuffler$WordMachine", "resultOf", "(LBitShuffler$Program;JI)J"⟩ 3 = true := by decide +kernel
theorem c_W_resultOf (args : Array Value) (s : State) (hts : ∀ w ∈ bs_WS, w.before args s = true) : ∃ (mk : MethodId) (methk : Method) (ck : Code), bs_Me s ⟨"BitShuffler$WordMachine", "resultOf", "(LBitShuffler$Program;JI)J"⟩ K_W_resultOf mk methk ck := bs_Me.ofCode (hts _ q_243) rfl rfl
def y_B_run : MethodName := ⟨"BitShuffler", "run", "(J)J"⟩
abbrev K_B_run : bs_K := ("BitShuffler", prog_1_method_10_code, 3, (some .long), [], "run")
theorem n_B_run : bs_nm ⟨"BitShuffler", "run", "(J)J"⟩ 1 = true := by decide +kernel
theorem c_B_run (args : Array Value) (s : State) (hts : ∀ w ∈ bs_WS, w.before args s = true) : ∃ (mk : MethodId) (methk : Method) (ck : Code), bs_Me s ⟨"BitShuffler", "run", "(J)J"⟩ K_B_run mk methk ck := bs_Me.ofCode (hts _ q_235) rfl rfl
def y_R_moveBits : MethodName := ⟨"BitShufflerModel", "moveBits", "(IZ)V"⟩
abbrev K_R_moveBits : bs_K := ("BitShufflerModel", prog_9_method_25_code, 6, none, [], "moveBits")
theorem n_R_moveBits : bs_nm ⟨"BitShufflerModel", "moveBits", "(IZ)V"⟩ 2 = true := by decide +kernel
theorem c_R_moveBits (args : Array Value) (s : State) (hts : ∀ w ∈ bs_WS, w.before args s = true) : ∃ (mk : MethodId) (methk : Method) (ck : Code), bs_Me s ⟨"BitShufflerModel", "moveBits", "(IZ)V"⟩ K_R_moveBits mk methk ck := bs_Me.ofCode (hts _ q_934) rfl rfl
def y_R_swapBits : MethodName := ⟨"BitShufflerModel", "swapBits", "(IJ)V"⟩
abbrev K_R_swapBits : bs_K := ("BitShufflerModel", prog_9_method_28_code, 7, none, [], "swapBits")
theorem n_R_swapBits : bs_nm ⟨"BitShufflerModel", "swapBits", "(IJ)V"⟩ 2 = true := by decide +kernel
theorem c_R_swapBits (args : Array Value) (s : State) (hts : ∀ w ∈ bs_WS, w.before args s = true) : ∃ (mk : MethodId) (methk : Method) (ck : Code), bs_Me s ⟨"BitShufflerModel", "swapBits", "(IJ)V"⟩ K_R_swapBits mk methk ck := bs_Me.ofCode (hts _ q_938) rfl rfl
def y_R_gatherBits : MethodName := ⟨"BitShufflerModel", "gatherBits", "(J)V"⟩
abbrev K_R_gatherBits : bs_K := ("BitShufflerModel", prog_9_method_26_code, 5, none, [], "gatherBits")
theorem n_R_gatherBits : bs_nm ⟨"BitShufflerModel", "gatherBits", "(J)V"⟩ 1 = true := by decide +kernel
theorem c_R_gatherBits (args : Array Value) (s : State) (hts : ∀ w ∈ bs_WS, w.before args s = true) : ∃ (mk : MethodId) (methk : Method) (ck : Code), bs_Me s ⟨"BitShufflerModel", "gatherBits", "(J)V"⟩ K_R_gatherBits mk methk ck := bs_Me.ofCode (hts _ q_942) rfl rfl
def y_R_scatterBits : MethodName := ⟨"BitShufflerModel", "scatterBits", "(J)V"⟩
abbrev K_R_scatterBits : bs_K := ("BitShufflerModel", prog_9_method_27_code, 5, none, [], "scatterBits")
theorem n_R_scatterBits : bs_nm ⟨"BitShufflerModel", "scatterBits", "(J)V"⟩ 1 = true := by decide +kernel
theorem c_R_scatterBits (args : Array Value) (s : State) (hts : ∀ w ∈ bs_WS, w.before args s = true) : ∃ (mk : MethodId) (methk : Method) (ck : Code), bs_Me s ⟨"BitShufflerModel", "scatterBits", "(J)V"⟩ K_R_scatterBits mk methk ck := bs_Me.ofCode (hts _ q_946) rfl rfl
def y_R_go : MethodName := ⟨"BitShufflerModel", "go", "(I)V"⟩
abbrev K_R_go : bs_K := ("BitShufflerModel", prog_9_method_29_code, 5, none, [], "go")
theorem n_R_go : bs_nm ⟨"BitShufflerModel", "go", "(I)V"⟩ 1 = true := by decide +kernel
theorem c_R_go (args : Array Value) (s : State) (hts : ∀ w ∈ bs_WS, w.before args s = true) : ∃ (mk : MethodId) (methk : Method) (ck : Code), bs_Me s ⟨"BitShufflerModel", "go", "(I)V"⟩ K_R_go mk methk ck := bs_Me.ofCode (hts _ q_930) rfl rfl
def y_R_goAll : MethodName := ⟨"BitShufflerModel", "goAll", "()V"⟩
abbrev K_R_goAll : bs_K := ("BitShufflerModel", prog_9_method_30_code, 2, none, [], "goAll")
theorem n_R_goAll : bs_nm ⟨"BitShufflerModel", "goAll", "()V"⟩ 0 = true := by decide +kernel
theorem c_R_goAll (args : Array Value) (s : State) (hts : ∀ w ∈ bs_WS, w.before args s = true) : ∃ (mk : MethodId) (methk : Method) (ck : Code), bs_Me s ⟨"BitShufflerModel", "goAll", "()V"⟩ K_R_goAll mk methk ck := bs_Me.ofCode (hts _ q_926) rfl rfl
def y_R_run : MethodName := ⟨"BitShufflerModel", "run", "(J)J"⟩
abbrev K_R_run : bs_K := ("BitShufflerModel", prog_9_method_31_code, 6, (some .long), [], "run")
theorem n_R_run : bs_nm ⟨"BitShufflerModel", "run", "(J)J"⟩ 1 = true := by decide +kernel
theorem c_R_run (args : Array Value) (s : State) (hts : ∀ w ∈ bs_WS, w.before args s = true) : ∃ (mk : MethodId) (methk : Method) (ck : Code), bs_Me s ⟨"BitShufflerModel", "run", "(J)J"⟩ K_R_run mk methk ck := bs_Me.ofCode (hts _ q_922) rfl rfl
def y_M_imageOf : MethodName := ⟨"BitShuffler$BitMap", "imageOf", "(J)J"⟩
abbrev K_M_imageOf : bs_K := ("BitShuffler$BitMap", prog_2_method_13_code, 6, (some .long), [], "imageOf")
theorem n_M_imageOf : bs_nm ⟨"BitShuffler$BitMap", "imageOf", "(J)J"⟩ 1 = true := by decide +kernel
theorem c_M_imageOf (args : Array Value) (s : State) (hts : ∀ w ∈ bs_WS, w.before args s = true) : ∃ (mk : MethodId) (methk : Method) (ck : Code), bs_Me s ⟨"BitShuffler$BitMap", "imageOf", "(J)J"⟩ K_M_imageOf mk methk ck := bs_Me.ofCode (hts _ q_290) rfl rfl
def y_B_direct : MethodName := ⟨"BitShuffler", "direct", "(J)J"⟩
abbrev K_B_direct : bs_K := ("BitShuffler", prog_1_method_11_code, 3, (some .long), [], "direct")
theorem n_B_direct : bs_nm ⟨"BitShuffler", "direct", "(J)J"⟩ 1 = true := by decide +kernel
theorem c_B_direct (args : Array Value) (s : State) (hts : ∀ w ∈ bs_WS, w.before args s = true) : ∃ (mk : MethodId) (methk : Method) (ck : Code), bs_Me s ⟨"BitShuffler", "direct", "(J)J"⟩ K_B_direct mk methk ck := bs_Me.ofCode (hts _ q_286) rfl rfl
def y_R_direct : MethodName := ⟨"BitShufflerModel", "direct", "(J)J"⟩
abbrev K_R_direct : bs_K := ("BitShufflerModel", prog_9_method_32_code, 7, (some .long), [], "direct")
theorem n_R_direct : bs_nm ⟨"BitShufflerModel", "direct", "(J)J"⟩ 1 = true := by decide +kernel
theorem c_R_direct (args : Array Value) (s : State) (hts : ∀ w ∈ bs_WS, w.before args s = true) : ∃ (mk : MethodId) (methk : Method) (ck : Code), bs_Me s ⟨"BitShufflerModel", "direct", "(J)J"⟩ K_R_direct mk methk ck := bs_Me.ofCode (hts _ q_950) rfl rfl
def y_S_shift : MethodName := ⟨"BitShuffler$Symbols", "shift", "(I)V"⟩
abbrev K_S_shift : bs_K := ("BitShuffler$Symbols", prog_6_method_7_code, 4, none, [], "shift")
theorem n_S_shift : bs_nm ⟨"BitShuffler$Symbols", "shift", "(I)V"⟩ 1 = true := by decide +kernel
theorem c_S_shift (args : Array Value) (s : State) (hts : ∀ w ∈ bs_WS, w.before args s = true) : ∃ (mk : MethodId) (methk : Method) (ck : Code), bs_Me s ⟨"BitShuffler$Symbols", "shift", "(I)V"⟩ K_S_shift mk methk ck := bs_Me.ofCode (hts _ q_319) rfl rfl
def y_S_rotate : MethodName := ⟨"BitShuffler$Symbols", "rotate", "(I)V"⟩
abbrev K_S_rotate : bs_K := ("BitShuffler$Symbols", prog_6_method_8_code, 3, none, [], "rotate")
theorem n_S_rotate : bs_nm ⟨"BitShuffler$Symbols", "rotate", "(I)V"⟩ 1 = true := by decide +kernel
theorem c_S_rotate (args : Array Value) (s : State) (hts : ∀ w ∈ bs_WS, w.before args s = true) : ∃ (mk : MethodId) (methk : Method) (ck : Code), bs_Me s ⟨"BitShuffler$Symbols", "rotate", "(I)V"⟩ K_S_rotate mk methk ck := bs_Me.ofCode (hts _ q_323) rfl rfl
def y_S_clearOutside : MethodName := ⟨"BitShuffler$Symbols", "clearOutside", "(J)V"⟩
abbrev K_S_clearOutside : bs_K := ("BitShuffler$Symbols", prog_6_method_9_code, 4, none, [], "clearOutside")
theorem n_S_clearOutside : bs_nm ⟨"BitShuffler$Symbols", "clearOutside", "(J)V"⟩ 1 = true := by decide +kernel
theorem c_S_clearOutside (args : Array Value) (s : State) (hts : ∀ w ∈ bs_WS, w.before args s = true) : ∃ (mk : MethodId) (methk : Method) (ck : Code), bs_Me s ⟨"BitShuffler$Symbols", "clearOutside", "(J)V"⟩ K_S_clearOutside mk methk ck := bs_Me.ofCode (hts _ q_327) rfl rfl
def y_S_addToResult : MethodName := ⟨"BitShuffler$Symbols", "addToResult", "([J)V"⟩
abbrev K_S_addToResult : bs_K := ("BitShuffler$Symbols", prog_6_method_10_code, 3, none, [], "addToResult")
theorem n_S_addToResult : bs_nm ⟨"BitShuffler$Symbols", "addToResult", "([J)V"⟩ 1 = true := by decide +kernel
theorem c_S_addToResult (args : Array Value) (s : State) (hts : ∀ w ∈ bs_WS, w.before args s = true) : ∃ (mk : MethodId) (methk : Method) (ck : Code), bs_Me s ⟨"BitShuffler$Symbols", "addToResult", "([J)V"⟩ K_S_addToResult mk methk ck := bs_Me.ofCode (hts _ q_332) rfl rfl
def y_S_swap : MethodName := ⟨"BitShuffler$Symbols", "swap", "(IJ)V"⟩
abbrev K_S_swap : bs_K := ("BitShuffler$Symbols", prog_6_method_11_code, 7, none, [], "swap")
theorem n_S_swap : bs_nm ⟨"BitShuffler$Symbols", "swap", "(IJ)V"⟩ 2 = true := by decide +kernel
theorem c_S_swap (args : Array Value) (s : State) (hts : ∀ w ∈ bs_WS, w.before args s = true) : ∃ (mk : MethodId) (methk : Method) (ck : Code), bs_Me s ⟨"BitShuffler$Symbols", "swap", "(IJ)V"⟩ K_S_swap mk methk ck := bs_Me.ofCode (hts _ q_336) rfl rfl
def y_S_gather : MethodName := ⟨"BitShuffler$Symbols", "gather", "(J)V"⟩
abbrev K_S_gather : bs_K := ("BitShuffler$Symbols", prog_6_method_12_code, 5, none, [], "gather")
theorem n_S_gather : bs_nm ⟨"BitShuffler$Symbols", "gather", "(J)V"⟩ 1 = true := by decide +kernel
theorem c_S_gather (args : Array Value) (s : State) (hts : ∀ w ∈ bs_WS, w.before args s = true) : ∃ (mk : MethodId) (methk : Method) (ck : Code), bs_Me s ⟨"BitShuffler$Symbols", "gather", "(J)V"⟩ K_S_gather mk methk ck := bs_Me.ofCode (hts _ q_340) rfl rfl
def y_JL_bitCount : MethodName := ⟨"java/lang/Long", "bitCount", "(J)I"⟩
abbrev K_JL_bitCount : bs_K := ("java/lang/Long", prog_15_method_50_code, 2, (some .int), [], "bitCount")
theorem n_JL_bitCount : bs_nm ⟨"java/lang/Long", "bitCount", "(J)I"⟩ 1 = true := by decide +kernel
theorem c_JL_bitCount (args : Array Value) (s : State) (hts : ∀ w ∈ bs_WS, w.before args s = true) : ∃ (mk : MethodId) (methk : Method) (ck : Code), bs_Me s ⟨"java/lang/Long", "bitCount", "(J)I"⟩ K_JL_bitCount mk methk ck := bs_Me.ofCode (hts _ q_347) rfl rfl
def y_S_scatter : MethodName := ⟨"BitShuffler$Symbols", "scatter", "(J)V"⟩
abbrev K_S_scatter : bs_K := ("BitShuffler$Symbols", prog_6_method_13_code, 5, none, [], "scatter")
theorem n_S_scatter : bs_nm ⟨"BitShuffler$Symbols", "scatter", "(J)V"⟩ 1 = true := by decide +kernel
theorem c_S_scatter (args : Array Value) (s : State) (hts : ∀ w ∈ bs_WS, w.before args s = true) : ∃ (mk : MethodId) (methk : Method) (ck : Code), bs_Me s ⟨"BitShuffler$Symbols", "scatter", "(J)V"⟩ K_S_scatter mk methk ck := bs_Me.ofCode (hts _ q_344) rfl rfl
def y_S_perform : MethodName := ⟨"BitShuffler$Symbols", "perform", "(IIJ)V"⟩
abbrev K_S_perform : bs_K := ("BitShuffler$Symbols", prog_6_method_6_code, 5, none, [], "perform")
theorem n_S_perform : bs_nm ⟨"BitShuffler$Symbols", "perform", "(IIJ)V"⟩ 3 = true := by decide +kernel
theorem c_S_perform (args : Array Value) (s : State) (hts : ∀ w ∈ bs_WS, w.before args s = true) : ∃ (mk : MethodId) (methk : Method) (ck : Code), bs_Me s ⟨"BitShuffler$Symbols", "perform", "(IIJ)V"⟩ K_S_perform mk methk ck := bs_Me.ofCode (hts _ q_315) rfl rfl
def y_S_trace : MethodName := ⟨"BitShuffler$Symbols", "trace", "(LBitShuffler$Program;I)V"⟩
abbrev K_S_trace : bs_K := ("BitShuffler$Symbols", prog_6_method_2_code, 4, none, [], "trace")
theorem n_S_trace : bs_nm ⟨"BitShuffler$Symbols", "trace", "(LBitShuffler$Program;I)V"⟩ 2 = true := by decide +kernel
theorem c_S_trace (args : Array Value) (s : State) (hts : ∀ w ∈ bs_WS, w.before args s = true) : ∃ (mk : MethodId) (methk : Method) (ck : Code), bs_Me s ⟨"BitShuffler$Symbols", "trace", "(LBitShuffler$Program;I)V"⟩ K_S_trace mk methk ck := bs_Me.ofCode (hts _ q_307) rfl rfl
def y_S_hasOne : MethodName := ⟨"BitShuffler$Symbols", "hasOne", "(I)Z"⟩
abbrev K_S_hasOne : bs_K := ("BitShuffler$Symbols", prog_6_method_4_code, 2, (some .boolean), [], "hasOne")
theorem n_S_hasOne : bs_nm ⟨"BitShuffler$Symbols", "hasOne", "(I)Z"⟩ 1 = true := by decide +kernel
theorem c_S_hasOne (args : Array Value) (s : State) (hts : ∀ w ∈ bs_WS, w.before args s = true) : ∃ (mk : MethodId) (methk : Method) (ck : Code), bs_Me s ⟨"BitShuffler$Symbols", "hasOne", "(I)Z"⟩ K_S_hasOne mk methk ck := bs_Me.ofCode (hts _ q_362) rfl rfl
def y_S_isRight : MethodName := ⟨"BitShuffler$Symbols", "isRight", "(II)Z"⟩
abbrev K_S_isRight : bs_K := ("BitShuffler$Symbols", prog_6_method_5_code, 5, (some .boolean), [], "isRight")
theorem n_S_isRight : bs_nm ⟨"BitShuffler$Symbols", "isRight", "(II)Z"⟩ 2 = true := by decide +kernel
theorem c_S_isRight (args : Array Value) (s : State) (hts : ∀ w ∈ bs_WS, w.before args s = true) : ∃ (mk : MethodId) (methk : Method) (ck : Code), bs_Me s ⟨"BitShuffler$Symbols", "isRight", "(II)Z"⟩ K_S_isRight mk methk ck := bs_Me.ofCode (hts _ q_358) rfl rfl
def y_B_check : MethodName := ⟨"BitShuffler", "check", "()I"⟩
abbrev K_B_check : bs_K := ("BitShuffler", prog_1_method_12_code, 2, (some .int), [], "check")
theorem n_B_check : bs_nm ⟨"BitShuffler", "check", "()I"⟩ 0 = true := by decide +kernel
theorem c_B_check (args : Array Value) (s : State) (hts : ∀ w ∈ bs_WS, w.before args s = true) : ∃ (mk : MethodId) (methk : Method) (ck : Code), bs_Me s ⟨"BitShuffler", "check", "()I"⟩ K_B_check mk methk ck := bs_Me.ofCode (hts _ q_303) rfl rfl
def y_R_check : MethodName := ⟨"BitShufflerModel", "check", "()I"⟩
abbrev K_R_check : bs_K := ("BitShufflerModel", prog_9_method_33_code, 3, (some .int), [], "check")
theorem n_R_check : bs_nm ⟨"BitShufflerModel", "check", "()I"⟩ 0 = true := by decide +kernel
theorem c_R_check (args : Array Value) (s : State) (hts : ∀ w ∈ bs_WS, w.before args s = true) : ∃ (mk : MethodId) (methk : Method) (ck : Code), bs_Me s ⟨"BitShufflerModel", "check", "()I"⟩ K_R_check mk methk ck := bs_Me.ofCode (hts _ q_954) rfl rfl
def y_S_setOf : MethodName := ⟨"BitShuffler$Symbols", "setOf", "(I)J"⟩
abbrev K_S_setOf : bs_K := ("BitShuffler$Symbols", prog_6_method_3_code, 2, (some .long), [], "setOf")
theorem n_S_setOf : bs_nm ⟨"BitShuffler$Symbols", "setOf", "(I)J"⟩ 1 = true := by decide +kernel
theorem c_S_setOf (args : Array Value) (s : State) (hts : ∀ w ∈ bs_WS, w.before args s = true) : ∃ (mk : MethodId) (methk : Method) (ck : Code), bs_Me s ⟨"BitShuffler$Symbols", "setOf", "(I)J"⟩ K_S_setOf mk methk ck := bs_Me.ofCode (hts _ q_657) rfl rfl
def y_B_origins : MethodName := ⟨"BitShuffler", "origins", "(I)J"⟩
abbrev K_B_origins : bs_K := ("BitShuffler", prog_1_method_13_code, 2, (some .long), [], "origins")
theorem n_B_origins : bs_nm ⟨"BitShuffler", "origins", "(I)J"⟩ 1 = true := by decide +kernel
theorem c_B_origins (args : Array Value) (s : State) (hts : ∀ w ∈ bs_WS, w.before args s = true) : ∃ (mk : MethodId) (methk : Method) (ck : Code), bs_Me s ⟨"BitShuffler", "origins", "(I)J"⟩ K_B_origins mk methk ck := bs_Me.ofCode (hts _ q_653) rfl rfl
def y_L_origins : MethodName := ⟨"BitShufflerLaw", "origins", "(LBitShuffler;I[J)I"⟩
abbrev K_L_origins : bs_K := ("BitShufflerLaw", method_10_code, 4, (some .int), [(0, 8, 11, 13)], "origins")
theorem n_L_origins : bs_nm ⟨"BitShufflerLaw", "origins", "(LBitShuffler;I[J)I"⟩ 3 = true := by decide +kernel
theorem c_L_origins (args : Array Value) (s : State) (hts : ∀ w ∈ bs_WS, w.before args s = true) : ∃ (mk : MethodId) (methk : Method) (ck : Code), bs_Me s ⟨"BitShufflerLaw", "origins", "(LBitShuffler;I[J)I"⟩ K_L_origins mk methk ck := bs_Me.ofWith (hts _ q_649) rfl rfl
def y_R_origins : MethodName := ⟨"BitShufflerModel", "origins", "(I)J"⟩
abbrev K_R_origins : bs_K := ("BitShufflerModel", prog_9_method_34_code, 2, (some .long), [], "origins")
theorem n_R_origins : bs_nm ⟨"BitShufflerModel", "origins", "(I)J"⟩ 1 = true := by decide +kernel
theorem c_R_origins (args : Array Value) (s : State) (hts : ∀ w ∈ bs_WS, w.before args s = true) : ∃ (mk : MethodId) (methk : Method) (ck : Code), bs_Me s ⟨"BitShufflerModel", "origins", "(I)J"⟩ K_R_origins mk methk ck := bs_Me.ofCode (hts _ q_958) rfl rfl
def y_B_constant : MethodName := ⟨"BitShuffler", "constant", "(I)Z"⟩
abbrev K_B_constant : bs_K := ("BitShuffler", prog_1_method_14_code, 2, (some .boolean), [], "constant")
theorem n_B_constant : bs_nm ⟨"BitShuffler", "constant", "(I)Z"⟩ 1 = true := by decide +kernel
theorem c_B_constant (args : Array Value) (s : State) (hts : ∀ w ∈ bs_WS, w.before args s = true) : ∃ (mk : MethodId) (methk : Method) (ck : Code), bs_Me s ⟨"BitShuffler", "constant", "(I)Z"⟩ K_B_constant mk methk ck := bs_Me.ofCode (hts _ q_664) rfl rfl
def y_L_constant : MethodName := ⟨"BitShufflerLaw", "constant", "(LBitShuffler;I[J)I"⟩
abbrev K_L_constant : bs_K := ("BitShufflerLaw", method_11_code, 4, (some .int), [(0, 16, 19, 13)], "constant")
theorem n_L_constant : bs_nm ⟨"BitShufflerLaw", "constant", "(LBitShuffler;I[J)I"⟩ 3 = true := by decide +kernel
theorem c_L_constant (args : Array Value) (s : State) (hts : ∀ w ∈ bs_WS, w.before args s = true) : ∃ (mk : MethodId) (methk : Method) (ck : Code), bs_Me s ⟨"BitShufflerLaw", "constant", "(LBitShuffler;I[J)I"⟩ K_L_constant mk methk ck := bs_Me.ofWith (hts _ q_660) rfl rfl
def y_R_constant : MethodName := ⟨"BitShufflerModel", "constant", "(I)Z"⟩
abbrev K_R_constant : bs_K := ("BitShufflerModel", prog_9_method_35_code, 2, (some .boolean), [], "constant")
theorem n_R_constant : bs_nm ⟨"BitShufflerModel", "constant", "(I)Z"⟩ 1 = true := by decide +kernel
theorem c_R_constant (args : Array Value) (s : State) (hts : ∀ w ∈ bs_WS, w.before args s = true) : ∃ (mk : MethodId) (methk : Method) (ck : Code), bs_Me s ⟨"BitShufflerModel", "constant", "(I)Z"⟩ K_R_constant mk methk ck := bs_Me.ofCode (hts _ q_962) rfl rfl
def y_P_allTicks : MethodName := ⟨"BitShuffler$Program", "allTicks", "()I"⟩
abbrev K_P_allTicks : bs_K := ("BitShuffler$Program", prog_4_method_12_code, 3, (some .int), [], "allTicks")
theorem n_P_allTicks : bs_nm ⟨"BitShuffler$Program", "allTicks", "()I"⟩ 0 = true := by decide +kernel
theorem c_P_allTicks (args : Array Value) (s : State) (hts : ∀ w ∈ bs_WS, w.before args s = true) : ∃ (mk : MethodId) (methk : Method) (ck : Code), bs_Me s ⟨"BitShuffler$Program", "allTicks", "()I"⟩ K_P_allTicks mk methk ck := bs_Me.ofCode (hts _ q_370) rfl rfl
def y_B_ticks : MethodName := ⟨"BitShuffler", "ticks", "()I"⟩
abbrev K_B_ticks : bs_K := ("BitShuffler", prog_1_method_15_code, 1, (some .int), [], "ticks")
theorem n_B_ticks : bs_nm ⟨"BitShuffler", "ticks", "()I"⟩ 0 = true := by decide +kernel
theorem c_B_ticks (args : Array Value) (s : State) (hts : ∀ w ∈ bs_WS, w.before args s = true) : ∃ (mk : MethodId) (methk : Method) (ck : Code), bs_Me s ⟨"BitShuffler", "ticks", "()I"⟩ K_B_ticks mk methk ck := bs_Me.ofCode (hts _ q_366) rfl rfl
def y_R_ticks : MethodName := ⟨"BitShufflerModel", "ticks", "()I"⟩
abbrev K_R_ticks : bs_K := ("BitShufflerModel", prog_9_method_36_code, 3, (some .int), [], "ticks")
theorem n_R_ticks : bs_nm ⟨"BitShufflerModel", "ticks", "()I"⟩ 0 = true := by decide +kernel
theorem c_R_ticks (args : Array Value) (s : State) (hts : ∀ w ∈ bs_WS, w.before args s = true) : ∃ (mk : MethodId) (methk : Method) (ck : Code), bs_Me s ⟨"BitShufflerModel", "ticks", "()I"⟩ K_R_ticks mk methk ck := bs_Me.ofCode (hts _ q_966) rfl rfl
def y_M_becomeCopy : MethodName := ⟨"BitShuffler$BitMap", "becomeCopy", "(LBitShuffler$BitMap;)V"⟩
abbrev K_M_becomeCopy : bs_K := ("BitShuffler$BitMap", prog_2_method_8_code, 2, none, [], "becomeCopy")
theorem n_M_becomeCopy : bs_nm ⟨"BitShuffler$BitMap", "becomeCopy", "(LBitShuffler$BitMap;)V"⟩ 1 = true := by decide +kernel
theorem c_M_becomeCopy (args : Array Value) (s : State) (hts : ∀ w ∈ bs_WS, w.before args s = true) : ∃ (mk : MethodId) (methk : Method) (ck : Code), bs_Me s ⟨"BitShuffler$BitMap", "becomeCopy", "(LBitShuffler$BitMap;)V"⟩ K_M_becomeCopy mk methk ck := bs_Me.ofCode (hts _ q_692) rfl rfl
def y_B_keep : MethodName := ⟨"BitShuffler", "keep", "()I"⟩
abbrev K_B_keep : bs_K := ("BitShuffler", prog_1_method_16_code, 1, (some .int), [], "keep")
theorem n_B_keep : bs_nm ⟨"BitShuffler", "keep", "()I"⟩ 0 = true := by decide +kernel
theorem c_B_keep (args : Array Value) (s : State) (hts : ∀ w ∈ bs_WS, w.before args s = true) : ∃ (mk : MethodId) (methk : Method) (ck : Code), bs_Me s ⟨"BitShuffler", "keep", "()I"⟩ K_B_keep mk methk ck := bs_Me.ofCode (hts _ q_673) rfl rfl
def y_L_keep : MethodName := ⟨"BitShufflerLaw", "keep", "(LBitShuffler;[J)I"⟩
abbrev K_L_keep : bs_K := ("BitShufflerLaw", method_12_code, 3, (some .int), [(0, 8, 11, 53)], "keep")
theorem n_L_keep : bs_nm ⟨"BitShufflerLaw", "keep", "(LBitShuffler;[J)I"⟩ 2 = true := by decide +kernel
theorem c_L_keep (args : Array Value) (s : State) (hts : ∀ w ∈ bs_WS, w.before args s = true) : ∃ (mk : MethodId) (methk : Method) (ck : Code), bs_Me s ⟨"BitShufflerLaw", "keep", "(LBitShuffler;[J)I"⟩ K_L_keep mk methk ck := bs_Me.ofWith (hts _ q_668) rfl rfl
def y_R_keep : MethodName := ⟨"BitShufflerModel", "keep", "()I"⟩
abbrev K_R_keep : bs_K := ("BitShufflerModel", prog_9_method_37_code, 2, (some .int), [], "keep")
theorem n_R_keep : bs_nm ⟨"BitShufflerModel", "keep", "()I"⟩ 0 = true := by decide +kernel
theorem c_R_keep (args : Array Value) (s : State) (hts : ∀ w ∈ bs_WS, w.before args s = true) : ∃ (mk : MethodId) (methk : Method) (ck : Code), bs_Me s ⟨"BitShufflerModel", "keep", "()I"⟩ K_R_keep mk methk ck := bs_Me.ofCode (hts _ q_970) rfl rfl
def y_M_becomeJoined : MethodName := ⟨"BitShuffler$BitMap", "becomeJoined", "(LBitShuffler$BitMap;LBitShuffler$BitMap;)V"⟩
abbrev K_M_becomeJoined : bs_K := ("BitShuffler$BitMap", prog_2_method_9_code, 4, none, [], "becomeJoined")
theorem n_M_becomeJoined : bs_nm ⟨"BitShuffler$BitMap", "becomeJoined", "(LBitShuffler$BitMap;LBitShuffler$BitMap;)V"⟩ 2 = true := by decide +kernel
theorem c_M_becomeJoined (args : Array Value) (s : State) (hts : ∀ w ∈ bs_WS, w.before args s = true) : ∃ (mk : MethodId) (methk : Method) (ck : Code), bs_Me s ⟨"BitShuffler$BitMap", "becomeJoined", "(LBitShuffler$BitMap;LBitShuffler$BitMap;)V"⟩ K_M_becomeJoined mk methk ck := bs_Me.ofCode (hts _ q_706) rfl rfl
def y_B_join : MethodName := ⟨"BitShuffler", "join", "(I)V"⟩
abbrev K_B_join : bs_K := ("BitShuffler", prog_1_method_17_code, 2, none, [], "join")
theorem n_B_join : bs_nm ⟨"BitShuffler", "join", "(I)V"⟩ 1 = true := by decide +kernel
theorem c_B_join (args : Array Value) (s : State) (hts : ∀ w ∈ bs_WS, w.before args s = true) : ∃ (mk : MethodId) (methk : Method) (ck : Code), bs_Me s ⟨"BitShuffler", "join", "(I)V"⟩ K_B_join mk methk ck := bs_Me.ofCode (hts _ q_702) rfl rfl
def y_L_join : MethodName := ⟨"BitShufflerLaw", "join", "(LBitShuffler;I)I"⟩
abbrev K_L_join : bs_K := ("BitShufflerLaw", method_13_code, 3, (some .int), [(0, 5, 8, 13), (0, 5, 11, 53)], "join")
theorem n_L_join : bs_nm ⟨"BitShufflerLaw", "join", "(LBitShuffler;I)I"⟩ 2 = true := by decide +kernel
theorem c_L_join (args : Array Value) (s : State) (hts : ∀ w ∈ bs_WS, w.before args s = true) : ∃ (mk : MethodId) (methk : Method) (ck : Code), bs_Me s ⟨"BitShufflerLaw", "join", "(LBitShuffler;I)I"⟩ K_L_join mk methk ck := bs_Me.ofWith (hts _ q_698) rfl rfl
def y_R_join : MethodName := ⟨"BitShufflerModel", "join", "(I)V"⟩
abbrev K_R_join : bs_K := ("BitShufflerModel", prog_9_method_38_code, 4, none, [], "join")
theorem n_R_join : bs_nm ⟨"BitShufflerModel", "join", "(I)V"⟩ 1 = true := by decide +kernel
theorem c_R_join (args : Array Value) (s : State) (hts : ∀ w ∈ bs_WS, w.before args s = true) : ∃ (mk : MethodId) (methk : Method) (ck : Code), bs_Me s ⟨"BitShufflerModel", "join", "(I)V"⟩ K_R_join mk methk ck := bs_Me.ofCode (hts _ q_974) rfl rfl
def y_M_becomeInverse : MethodName := ⟨"BitShuffler$BitMap", "becomeInverse", "(LBitShuffler$BitMap;)V"⟩
abbrev K_M_becomeInverse : bs_K := ("BitShuffler$BitMap", prog_2_method_10_code, 3, none, [], "becomeInverse")
theorem n_M_becomeInverse : bs_nm ⟨"BitShuffler$BitMap", "becomeInverse", "(LBitShuffler$BitMap;)V"⟩ 1 = true := by decide +kernel
theorem c_M_becomeInverse (args : Array Value) (s : State) (hts : ∀ w ∈ bs_WS, w.before args s = true) : ∃ (mk : MethodId) (methk : Method) (ck : Code), bs_Me s ⟨"BitShuffler$BitMap", "becomeInverse", "(LBitShuffler$BitMap;)V"⟩ K_M_becomeInverse mk methk ck := bs_Me.ofCode (hts _ q_717) rfl rfl
def y_B_invert : MethodName := ⟨"BitShuffler", "invert", "()V"⟩
abbrev K_B_invert : bs_K := ("BitShuffler", prog_1_method_18_code, 1, none, [], "invert")
theorem n_B_invert : bs_nm ⟨"BitShuffler", "invert", "()V"⟩ 0 = true := by decide +kernel
theorem c_B_invert (args : Array Value) (s : State) (hts : ∀ w ∈ bs_WS, w.before args s = true) : ∃ (mk : MethodId) (methk : Method) (ck : Code), bs_Me s ⟨"BitShuffler", "invert", "()V"⟩ K_B_invert mk methk ck := bs_Me.ofCode (hts _ q_713) rfl rfl
def y_L_invert : MethodName := ⟨"BitShufflerLaw", "invert", "(LBitShuffler;)I"⟩
abbrev K_L_invert : bs_K := ("BitShufflerLaw", method_14_code, 2, (some .int), [(0, 4, 7, 26)], "invert")
theorem n_L_invert : bs_nm ⟨"BitShufflerLaw", "invert", "(LBitShuffler;)I"⟩ 1 = true := by decide +kernel
theorem c_L_invert (args : Array Value) (s : State) (hts : ∀ w ∈ bs_WS, w.before args s = true) : ∃ (mk : MethodId) (methk : Method) (ck : Code), bs_Me s ⟨"BitShufflerLaw", "invert", "(LBitShuffler;)I"⟩ K_L_invert mk methk ck := bs_Me.ofWith (hts _ q_709) rfl rfl
def y_R_invert : MethodName := ⟨"BitShufflerModel", "invert", "()V"⟩
abbrev K_R_invert : bs_K := ("BitShufflerModel", prog_9_method_39_code, 2, none, [], "invert")
theorem n_R_invert : bs_nm ⟨"BitShufflerModel", "invert", "()V"⟩ 0 = true := by decide +kernel
theorem c_R_invert (args : Array Value) (s : State) (hts : ∀ w ∈ bs_WS, w.before args s = true) : ∃ (mk : MethodId) (methk : Method) (ck : Code), bs_Me s ⟨"BitShufflerModel", "invert", "()V"⟩ K_R_invert mk methk ck := bs_Me.ofCode (hts _ q_978) rfl rfl
def y_B_fieldsOf : MethodName := ⟨"BitShuffler", "fieldsOf", "(J)J"⟩
abbrev K_B_fieldsOf : bs_K := ("BitShuffler", prog_1_method_26_code, 5, (some .long), [], "fieldsOf")
theorem n_B_fieldsOf : bs_nm ⟨"BitShuffler", "fieldsOf", "(J)J"⟩ 1 = true := by decide +kernel
theorem c_B_fieldsOf (args : Array Value) (s : State) (hts : ∀ w ∈ bs_WS, w.before args s = true) : ∃ (mk : MethodId) (methk : Method) (ck : Code), bs_Me s ⟨"BitShuffler", "fieldsOf", "(J)J"⟩ K_B_fieldsOf mk methk ck := bs_Me.ofCode (hts _ q_734) rfl rfl
def y_B_canArrange : MethodName := ⟨"BitShuffler", "canArrange", "(JJII)Z"⟩
abbrev K_B_canArrange : bs_K := ("BitShuffler", prog_1_method_25_code, 8, (some .boolean), [], "canArrange")
theorem n_B_canArrange : bs_nm ⟨"BitShuffler", "canArrange", "(JJII)Z"⟩ 4 = true := by decide +kernel
theorem c_B_canArrange (args : Array Value) (s : State) (hts : ∀ w ∈ bs_WS, w.before args s = true) : ∃ (mk : MethodId) (methk : Method) (ck : Code), bs_Me s ⟨"BitShuffler", "canArrange", "(JJII)Z"⟩ K_B_canArrange mk methk ck := bs_Me.ofCode (hts _ q_731) rfl rfl
def y_B_fewestSwaps : MethodName := ⟨"BitShuffler", "fewestSwaps", "()I"⟩
abbrev K_B_fewestSwaps : bs_K := ("BitShuffler", prog_1_method_24_code, 6, (some .int), [], "fewestSwaps")
theorem n_B_fewestSwaps : bs_nm ⟨"BitShuffler", "fewestSwaps", "()I"⟩ 0 = true := by decide +kernel
theorem c_B_fewestSwaps (args : Array Value) (s : State) (hts : ∀ w ∈ bs_WS, w.before args s = true) : ∃ (mk : MethodId) (methk : Method) (ck : Code), bs_Me s ⟨"BitShuffler", "fewestSwaps", "()I"⟩ K_B_fewestSwaps mk methk ck := bs_Me.ofCode (hts _ q_728) rfl rfl
def y_B_least : MethodName := ⟨"BitShuffler", "least", "()I"⟩
abbrev K_B_least : bs_K := ("BitShuffler", prog_1_method_19_code, 1, (some .int), [], "least")
theorem n_B_least : bs_nm ⟨"BitShuffler", "least", "()I"⟩ 0 = true := by decide +kernel
theorem c_B_least (args : Array Value) (s : State) (hts : ∀ w ∈ bs_WS, w.before args s = true) : ∃ (mk : MethodId) (methk : Method) (ck : Code), bs_Me s ⟨"BitShuffler", "least", "()I"⟩ K_B_least mk methk ck := bs_Me.ofCode (hts _ q_724) rfl rfl
def y_L_least : MethodName := ⟨"BitShufflerLaw", "least", "(LBitShuffler;[J)I"⟩
abbrev K_L_least : bs_K := ("BitShufflerLaw", method_15_code, 3, (some .int), [(0, 8, 11, 26)], "least")
theorem n_L_least : bs_nm ⟨"BitShufflerLaw", "least", "(LBitShuffler;[J)I"⟩ 2 = true := by decide +kernel
theorem c_L_least (args : Array Value) (s : State) (hts : ∀ w ∈ bs_WS, w.before args s = true) : ∃ (mk : MethodId) (methk : Method) (ck : Code), bs_Me s ⟨"BitShufflerLaw", "least", "(LBitShuffler;[J)I"⟩ K_L_least mk methk ck := bs_Me.ofWith (hts _ q_720) rfl rfl
def y_R_code : MethodName := ⟨"BitShufflerModel", "code", "()I"⟩
abbrev K_R_code : bs_K := ("BitShufflerModel", prog_9_method_40_code, 3, (some .int), [], "code")
theorem n_R_code : bs_nm ⟨"BitShufflerModel", "code", "()I"⟩ 0 = true := by decide +kernel
theorem c_R_code (args : Array Value) (s : State) (hts : ∀ w ∈ bs_WS, w.before args s = true) : ∃ (mk : MethodId) (methk : Method) (ck : Code), bs_Me s ⟨"BitShufflerModel", "code", "()I"⟩ K_R_code mk methk ck := bs_Me.ofCode (hts _ q_986) rfl rfl
def y_R_spread : MethodName := ⟨"BitShufflerModel", "spread", "(I)V"⟩
abbrev K_R_spread : bs_K := ("BitShufflerModel", prog_9_method_41_code, 6, none, [], "spread")
theorem n_R_spread : bs_nm ⟨"BitShufflerModel", "spread", "(I)V"⟩ 1 = true := by decide +kernel
theorem c_R_spread (args : Array Value) (s : State) (hts : ∀ w ∈ bs_WS, w.before args s = true) : ∃ (mk : MethodId) (methk : Method) (ck : Code), bs_Me s ⟨"BitShufflerModel", "spread", "(I)V"⟩ K_R_spread mk methk ck := bs_Me.ofCode (hts _ q_990) rfl rfl
def y_R_least : MethodName := ⟨"BitShufflerModel", "least", "()I"⟩
abbrev K_R_least : bs_K := ("BitShufflerModel", prog_9_method_42_code, 3, (some .int), [], "least")
theorem n_R_least : bs_nm ⟨"BitShufflerModel", "least", "()I"⟩ 0 = true := by decide +kernel
theorem c_R_least (args : Array Value) (s : State) (hts : ∀ w ∈ bs_WS, w.before args s = true) : ∃ (mk : MethodId) (methk : Method) (ck : Code), bs_Me s ⟨"BitShufflerModel", "least", "()I"⟩ K_R_least mk methk ck := bs_Me.ofCode (hts _ q_982) rfl rfl
def y_L_law : MethodName := ⟨"BitShufflerLaw", "law", "([I)Z"⟩
abbrev K_L_law : bs_K := ("BitShufflerLaw", code, 8, (some .boolean), [], "law")
theorem n_L_law : bs_nm ⟨"BitShufflerLaw", "law", "([I)Z"⟩ 1 = true := by decide +kernel
theorem a_B_68 : ∀ w ∈ Bundle.ownAtoms0 "BitShuffler" 68 "java/lang/IllegalArgumentException" bs_up2, w ∈ bs_four ++ bs_WS := bs_pick [58, 407, 416, 421, 424, 426, 408, 409, 74, 75, 410, 415, 422, 438, 397, 439, 399, 440, 401, 411, 2, 413, 3, 403, 428, 429, 430, 431, 388, 431, 432, 433, 434, 390, 434, 435, 436, 408, 392, 427, 386, 387, 394, 395, 396, 398, 400, 402, 0, 1, 406, 405, 404] (by decide +kernel) (by decide +kernel)
theorem a_B_100 : ∀ w ∈ Bundle.ownAtoms0 "BitShuffler" 100 "java/lang/UnsupportedOperationException" bs_up2, w ∈ bs_four ++ bs_WS := bs_pick [58, 407, 416, 421, 424, 426, 408, 409, 74, 75, 410, 415, 422, 438, 397, 439, 399, 440, 401, 411, 2, 413, 3, 403, 515, 516, 517, 431, 388, 431, 432, 433, 434, 390, 434, 435, 436, 408, 392, 514, 506, 507, 508, 420, 509, 510, 511, 512, 0, 1, 406, 405, 513] (by decide +kernel) (by decide +kernel)
theorem a_B_163 : ∀ w ∈ Bundle.ownAtoms0 "BitShuffler" 163 "java/lang/IllegalStateException" bs_up2, w ∈ bs_four ++ bs_WS := bs_pick [58, 407, 416, 421, 424, 426, 408, 409, 74, 75, 410, 415, 422, 438, 397, 439, 399, 440, 401, 411, 2, 413, 3, 403, 688, 689, 690, 431, 388, 431, 432, 433, 434, 390, 434, 435, 436, 408, 392, 687, 679, 680, 681, 418, 682, 683, 684, 685, 0, 1, 406, 405, 686] (by decide +kernel) (by decide +kernel)
theorem a_B_183 : ∀ w ∈ Bundle.ownAtoms0 "BitShuffler" 183 "java/lang/IndexOutOfBoundsException" bs_up2, w ∈ bs_four ++ bs_WS := bs_pick [58, 407, 416, 421, 424, 426, 408, 409, 74, 75, 410, 415, 422, 438, 397, 439, 399, 440, 401, 411, 2, 413, 3, 403, 618, 619, 620, 431, 388, 431, 432, 433, 434, 390, 434, 435, 436, 408, 392, 617, 609, 610, 611, 419, 612, 613, 614, 615, 0, 1, 406, 405, 616] (by decide +kernel) (by decide +kernel)
theorem nc_IllegalArgumentException_IndexOutOfBoundsException : (("java/lang/IllegalArgumentException" : String), ("java/lang/IndexOutOfBoundsException" : String)) ∈ bs_nc := by decide +kernel
theorem nc_IllegalStateException_IllegalArgumentException : (("java/lang/IllegalStateException" : String), ("java/lang/IllegalArgumentException" : String)) ∈ bs_nc := by decide +kernel
theorem nc_UnsupportedOperationException_IllegalArgumentException : (("java/lang/UnsupportedOperationException" : String), ("java/lang/IllegalArgumentException" : String)) ∈ bs_nc := by decide +kernel
