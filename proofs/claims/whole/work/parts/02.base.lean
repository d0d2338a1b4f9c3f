-- the words of nest mates, which are no words of a list: they come with the state
def qn_NW (U : State) : Prop := va_Nw (.fieldLinkNest "QuandleColorings" 103 "QuandleColorings$Operation" "badColumn" "I" "QuandleColorings") U ∧ va_Nw (.fieldLinkNest "QuandleColorings" 124 "QuandleColorings$State" "braid" "LQuandleColorings$Braid;" "QuandleColorings") U ∧ va_Nw (.fieldLinkNest "QuandleColorings" 128 "QuandleColorings$Braid" "strands" "I" "QuandleColorings") U ∧ va_Nw (.fieldLinkNest "QuandleColorings" 140 "QuandleColorings$Braid" "count" "I" "QuandleColorings") U ∧ va_Nw (.fieldLinkNest "QuandleColorings" 162 "QuandleColorings$State" "weights" "LQuandleColorings$Weights;" "QuandleColorings") U ∧ va_Nw (.fieldLinkNest "QuandleColorings" 166 "QuandleColorings$Weights" "modulus" "I" "QuandleColorings") U ∧ va_Nw (.fieldLinkNest "QuandleColorings" 173 "QuandleColorings$Weights" "values" "LQuandleColorings$Grid;" "QuandleColorings") U ∧ va_Nw (.fieldLinkNest "QuandleColorings" 195 "QuandleColorings$History" "count" "I" "QuandleColorings") U ∧ va_Nw (.fieldLinkNest "QuandleColorings" 62 "QuandleColorings$State" "operation" "LQuandleColorings$Operation;" "QuandleColorings") U ∧ va_Nw (.fieldLinkNest "QuandleColorings" 71 "QuandleColorings$Operation" "size" "I" "QuandleColorings") U ∧ va_Nw (.fieldLinkNest "QuandleColorings$Automorphisms" 19 "QuandleColorings$Operation" "size" "I" "QuandleColorings") U ∧ va_Nw (.fieldLinkNest "QuandleColorings$InnerGroup" 23 "QuandleColorings$Operation" "size" "I" "QuandleColorings") U ∧ va_Nw (.fieldLinkNest "QuandleColorings$Operation" 86 "QuandleColorings" "PERMUTATIONS" "[I" "QuandleColorings") U ∧ va_Nw (.fieldLinkNest "QuandleColorings$Tracer" 34 "QuandleColorings$State" "braid" "LQuandleColorings$Braid;" "QuandleColorings") U ∧ va_Nw (.fieldLinkNest "QuandleColorings$Tracer" 40 "QuandleColorings$Braid" "strands" "I" "QuandleColorings") U ∧ va_Nw (.fieldLinkNest "QuandleColorings$Tracer" 45 "QuandleColorings$State" "operation" "LQuandleColorings$Operation;" "QuandleColorings") U ∧ va_Nw (.fieldLinkNest "QuandleColorings$Tracer" 49 "QuandleColorings$Operation" "size" "I" "QuandleColorings") U ∧ va_Nw (.fieldLinkNest "QuandleColorings$Tracer" 60 "QuandleColorings$Braid" "count" "I" "QuandleColorings") U ∧ va_Nw (.fieldLinkNest "QuandleColorings$Tracer" 74 "QuandleColorings$State" "weights" "LQuandleColorings$Weights;" "QuandleColorings") U ∧ va_Nw (.fieldLinkNest "QuandleColorings$Tracer" 78 "QuandleColorings$Weights" "values" "LQuandleColorings$Grid;" "QuandleColorings") U ∧ va_Nw (.fieldLinkNest "QuandleColorings$Weights" 29 "QuandleColorings$Operation" "size" "I" "QuandleColorings") U ∧ va_Nw (.methodLinkNest "QuandleColorings" 11 ⟨"QuandleColorings$State", "<init>", "()V"⟩ "QuandleColorings") U ∧ va_Nw (.methodLinkNest "QuandleColorings" 25 ⟨"QuandleColorings$Tracer", "<init>", "()V"⟩ "QuandleColorings") U ∧ va_Nw (.methodLinkNest "QuandleColorings" 32 ⟨"QuandleColorings$InnerGroup", "<init>", "()V"⟩ "QuandleColorings") U ∧ va_Nw (.methodLinkNest "QuandleColorings" 39 ⟨"QuandleColorings$Automorphisms", "<init>", "()V"⟩ "QuandleColorings") U ∧ va_Nw (.methodLinkNest "QuandleColorings$History" 21 ⟨"QuandleColorings$State", "<init>", "()V"⟩ "QuandleColorings") U ∧ va_Nw (.methodLinkNest "QuandleColorings$Operation" 17 ⟨"QuandleColorings$Grid", "<init>", "()V"⟩ "QuandleColorings") U ∧ va_Nw (.methodLinkNest "QuandleColorings$Operation" 58 ⟨"QuandleColorings", "tripleCode", "(III)I"⟩ "QuandleColorings") U ∧ va_Nw (.methodLinkNest "QuandleColorings$State" 18 ⟨"QuandleColorings$Braid", "<init>", "()V"⟩ "QuandleColorings") U ∧ va_Nw (.methodLinkNest "QuandleColorings$State" 25 ⟨"QuandleColorings$Weights", "<init>", "()V"⟩ "QuandleColorings") U ∧ va_Nw (.methodLinkNest "QuandleColorings$State" 9 ⟨"QuandleColorings$Operation", "<init>", "()V"⟩ "QuandleColorings") U ∧ va_Nw (.methodLinkNest "QuandleColorings$Weights" 17 ⟨"QuandleColorings$Grid", "<init>", "()V"⟩ "QuandleColorings") U ∧ va_Nw (.methodLinkNest "QuandleColorings$Weights" 55 ⟨"QuandleColorings", "tripleCode", "(III)I"⟩ "QuandleColorings") U
theorem qn_f_QC_103 {U : State} (h : qn_NW U) : va_Nw (.fieldLinkNest "QuandleColorings" 103 "QuandleColorings$Operation" "badColumn" "I" "QuandleColorings") U := h.1
theorem qn_f_QC_124 {U : State} (h : qn_NW U) : va_Nw (.fieldLinkNest "QuandleColorings" 124 "QuandleColorings$State" "braid" "LQuandleColorings$Braid;" "QuandleColorings") U := h.2.1
theorem qn_f_QC_128 {U : State} (h : qn_NW U) : va_Nw (.fieldLinkNest "QuandleColorings" 128 "QuandleColorings$Braid" "strands" "I" "QuandleColorings") U := h.2.2.1
theorem qn_f_QC_140 {U : State} (h : qn_NW U) : va_Nw (.fieldLinkNest "QuandleColorings" 140 "QuandleColorings$Braid" "count" "I" "QuandleColorings") U := h.2.2.2.1
theorem qn_f_QC_162 {U : State} (h : qn_NW U) : va_Nw (.fieldLinkNest "QuandleColorings" 162 "QuandleColorings$State" "weights" "LQuandleColorings$Weights;" "QuandleColorings") U := h.2.2.2.2.1
theorem qn_f_QC_166 {U : State} (h : qn_NW U) : va_Nw (.fieldLinkNest "QuandleColorings" 166 "QuandleColorings$Weights" "modulus" "I" "QuandleColorings") U := h.2.2.2.2.2.1
theorem qn_f_QC_173 {U : State} (h : qn_NW U) : va_Nw (.fieldLinkNest "QuandleColorings" 173 "QuandleColorings$Weights" "values" "LQuandleColorings$Grid;" "QuandleColorings") U := h.2.2.2.2.2.2.1
theorem qn_f_QC_195 {U : State} (h : qn_NW U) : va_Nw (.fieldLinkNest "QuandleColorings" 195 "QuandleColorings$History" "count" "I" "QuandleColorings") U := h.2.2.2.2.2.2.2.1
theorem qn_f_QC_62 {U : State} (h : qn_NW U) : va_Nw (.fieldLinkNest "QuandleColorings" 62 "QuandleColorings$State" "operation" "LQuandleColorings$Operation;" "QuandleColorings") U := h.2.2.2.2.2.2.2.2.1
theorem qn_f_QC_71 {U : State} (h : qn_NW U) : va_Nw (.fieldLinkNest "QuandleColorings" 71 "QuandleColorings$Operation" "size" "I" "QuandleColorings") U := h.2.2.2.2.2.2.2.2.2.1
theorem qn_f_Automorphisms_19 {U : State} (h : qn_NW U) : va_Nw (.fieldLinkNest "QuandleColorings$Automorphisms" 19 "QuandleColorings$Operation" "size" "I" "QuandleColorings") U := h.2.2.2.2.2.2.2.2.2.2.1
theorem qn_f_InnerGroup_23 {U : State} (h : qn_NW U) : va_Nw (.fieldLinkNest "QuandleColorings$InnerGroup" 23 "QuandleColorings$Operation" "size" "I" "QuandleColorings") U := h.2.2.2.2.2.2.2.2.2.2.2.1
theorem qn_f_Operation_86 {U : State} (h : qn_NW U) : va_Nw (.fieldLinkNest "QuandleColorings$Operation" 86 "QuandleColorings" "PERMUTATIONS" "[I" "QuandleColorings") U := h.2.2.2.2.2.2.2.2.2.2.2.2.1
theorem qn_f_Tracer_34 {U : State} (h : qn_NW U) : va_Nw (.fieldLinkNest "QuandleColorings$Tracer" 34 "QuandleColorings$State" "braid" "LQuandleColorings$Braid;" "QuandleColorings") U := h.2.2.2.2.2.2.2.2.2.2.2.2.2.1
theorem qn_f_Tracer_40 {U : State} (h : qn_NW U) : va_Nw (.fieldLinkNest "QuandleColorings$Tracer" 40 "QuandleColorings$Braid" "strands" "I" "QuandleColorings") U := h.2.2.2.2.2.2.2.2.2.2.2.2.2.2.1
theorem qn_f_Tracer_45 {U : State} (h : qn_NW U) : va_Nw (.fieldLinkNest "QuandleColorings$Tracer" 45 "QuandleColorings$State" "operation" "LQuandleColorings$Operation;" "QuandleColorings") U := h.2.2.2.2.2.2.2.2.2.2.2.2.2.2.2.1
theorem qn_f_Tracer_49 {U : State} (h : qn_NW U) : va_Nw (.fieldLinkNest "QuandleColorings$Tracer" 49 "QuandleColorings$Operation" "size" "I" "QuandleColorings") U := h.2.2.2.2.2.2.2.2.2.2.2.2.2.2.2.2.1
theorem qn_f_Tracer_60 {U : State} (h : qn_NW U) : va_Nw (.fieldLinkNest "QuandleColorings$Tracer" 60 "QuandleColorings$Braid" "count" "I" "QuandleColorings") U := h.2.2.2.2.2.2.2.2.2.2.2.2.2.2.2.2.2.1
theorem qn_f_Tracer_74 {U : State} (h : qn_NW U) : va_Nw (.fieldLinkNest "QuandleColorings$Tracer" 74 "QuandleColorings$State" "weights" "LQuandleColorings$Weights;" "QuandleColorings") U := h.2.2.2.2.2.2.2.2.2.2.2.2.2.2.2.2.2.2.1
theorem qn_f_Tracer_78 {U : State} (h : qn_NW U) : va_Nw (.fieldLinkNest "QuandleColorings$Tracer" 78 "QuandleColorings$Weights" "values" "LQuandleColorings$Grid;" "QuandleColorings") U := h.2.2.2.2.2.2.2.2.2.2.2.2.2.2.2.2.2.2.2.1
theorem qn_f_Weights_29 {U : State} (h : qn_NW U) : va_Nw (.fieldLinkNest "QuandleColorings$Weights" 29 "QuandleColorings$Operation" "size" "I" "QuandleColorings") U := h.2.2.2.2.2.2.2.2.2.2.2.2.2.2.2.2.2.2.2.2.1
theorem qn_m_QC_11 {U : State} (h : qn_NW U) : va_Nw (.methodLinkNest "QuandleColorings" 11 ⟨"QuandleColorings$State", "<init>", "()V"⟩ "QuandleColorings") U := h.2.2.2.2.2.2.2.2.2.2.2.2.2.2.2.2.2.2.2.2.2.1
theorem qn_m_QC_25 {U : State} (h : qn_NW U) : va_Nw (.methodLinkNest "QuandleColorings" 25 ⟨"QuandleColorings$Tracer", "<init>", "()V"⟩ "QuandleColorings") U := h.2.2.2.2.2.2.2.2.2.2.2.2.2.2.2.2.2.2.2.2.2.2.1
theorem qn_m_QC_32 {U : State} (h : qn_NW U) : va_Nw (.methodLinkNest "QuandleColorings" 32 ⟨"QuandleColorings$InnerGroup", "<init>", "()V"⟩ "QuandleColorings") U := h.2.2.2.2.2.2.2.2.2.2.2.2.2.2.2.2.2.2.2.2.2.2.2.1
theorem qn_m_QC_39 {U : State} (h : qn_NW U) : va_Nw (.methodLinkNest "QuandleColorings" 39 ⟨"QuandleColorings$Automorphisms", "<init>", "()V"⟩ "QuandleColorings") U := h.2.2.2.2.2.2.2.2.2.2.2.2.2.2.2.2.2.2.2.2.2.2.2.2.1
theorem qn_m_History_21 {U : State} (h : qn_NW U) : va_Nw (.methodLinkNest "QuandleColorings$History" 21 ⟨"QuandleColorings$State", "<init>", "()V"⟩ "QuandleColorings") U := h.2.2.2.2.2.2.2.2.2.2.2.2.2.2.2.2.2.2.2.2.2.2.2.2.2.1
theorem qn_m_Operation_17 {U : State} (h : qn_NW U) : va_Nw (.methodLinkNest "QuandleColorings$Operation" 17 ⟨"QuandleColorings$Grid", "<init>", "()V"⟩ "QuandleColorings") U := h.2.2.2.2.2.2.2.2.2.2.2.2.2.2.2.2.2.2.2.2.2.2.2.2.2.2.1
theorem qn_m_Operation_58 {U : State} (h : qn_NW U) : va_Nw (.methodLinkNest "QuandleColorings$Operation" 58 ⟨"QuandleColorings", "tripleCode", "(III)I"⟩ "QuandleColorings") U := h.2.2.2.2.2.2.2.2.2.2.2.2.2.2.2.2.2.2.2.2.2.2.2.2.2.2.2.1
theorem qn_m_State_18 {U : State} (h : qn_NW U) : va_Nw (.methodLinkNest "QuandleColorings$State" 18 ⟨"QuandleColorings$Braid", "<init>", "()V"⟩ "QuandleColorings") U := h.2.2.2.2.2.2.2.2.2.2.2.2.2.2.2.2.2.2.2.2.2.2.2.2.2.2.2.2.1
theorem qn_m_State_25 {U : State} (h : qn_NW U) : va_Nw (.methodLinkNest "QuandleColorings$State" 25 ⟨"QuandleColorings$Weights", "<init>", "()V"⟩ "QuandleColorings") U := h.2.2.2.2.2.2.2.2.2.2.2.2.2.2.2.2.2.2.2.2.2.2.2.2.2.2.2.2.2.1
theorem qn_m_State_9 {U : State} (h : qn_NW U) : va_Nw (.methodLinkNest "QuandleColorings$State" 9 ⟨"QuandleColorings$Operation", "<init>", "()V"⟩ "QuandleColorings") U := h.2.2.2.2.2.2.2.2.2.2.2.2.2.2.2.2.2.2.2.2.2.2.2.2.2.2.2.2.2.2.1
theorem qn_m_Weights_17 {U : State} (h : qn_NW U) : va_Nw (.methodLinkNest "QuandleColorings$Weights" 17 ⟨"QuandleColorings$Grid", "<init>", "()V"⟩ "QuandleColorings") U := h.2.2.2.2.2.2.2.2.2.2.2.2.2.2.2.2.2.2.2.2.2.2.2.2.2.2.2.2.2.2.2.1
theorem qn_m_Weights_55 {U : State} (h : qn_NW U) : va_Nw (.methodLinkNest "QuandleColorings$Weights" 55 ⟨"QuandleColorings", "tripleCode", "(III)I"⟩ "QuandleColorings") U := h.2.2.2.2.2.2.2.2.2.2.2.2.2.2.2.2.2.2.2.2.2.2.2.2.2.2.2.2.2.2.2.2
theorem qn_NW.warm {s U : State} (hW : s.WarmedH U.vm) (h : qn_NW s) : qn_NW U := ⟨va_Nw.warmF hW (qn_f_QC_103 h), va_Nw.warmF hW (qn_f_QC_124 h), va_Nw.warmF hW (qn_f_QC_128 h), va_Nw.warmF hW (qn_f_QC_140 h), va_Nw.warmF hW (qn_f_QC_162 h), va_Nw.warmF hW (qn_f_QC_166 h), va_Nw.warmF hW (qn_f_QC_173 h), va_Nw.warmF hW (qn_f_QC_195 h), va_Nw.warmF hW (qn_f_QC_62 h), va_Nw.warmF hW (qn_f_QC_71 h), va_Nw.warmF hW (qn_f_Automorphisms_19 h), va_Nw.warmF hW (qn_f_InnerGroup_23 h), va_Nw.warmF hW (qn_f_Operation_86 h), va_Nw.warmF hW (qn_f_Tracer_34 h), va_Nw.warmF hW (qn_f_Tracer_40 h), va_Nw.warmF hW (qn_f_Tracer_45 h), va_Nw.warmF hW (qn_f_Tracer_49 h), va_Nw.warmF hW (qn_f_Tracer_60 h), va_Nw.warmF hW (qn_f_Tracer_74 h), va_Nw.warmF hW (qn_f_Tracer_78 h), va_Nw.warmF hW (qn_f_Weights_29 h), va_Nw.warmM hW (qn_m_QC_11 h), va_Nw.warmM hW (qn_m_QC_25 h), va_Nw.warmM hW (qn_m_QC_32 h), va_Nw.warmM hW (qn_m_QC_39 h), va_Nw.warmM hW (qn_m_History_21 h), va_Nw.warmM hW (qn_m_Operation_17 h), va_Nw.warmM hW (qn_m_Operation_58 h), va_Nw.warmM hW (qn_m_State_18 h), va_Nw.warmM hW (qn_m_State_25 h), va_Nw.warmM hW (qn_m_State_9 h), va_Nw.warmM hW (qn_m_Weights_17 h), va_Nw.warmM hW (qn_m_Weights_55 h)⟩
theorem qn_NW.same {s U : State} (hv : s.vm = U.vm) (h : qn_NW s) : qn_NW U := ⟨va_Nw.same rfl hv (qn_f_QC_103 h), va_Nw.same rfl hv (qn_f_QC_124 h), va_Nw.same rfl hv (qn_f_QC_128 h), va_Nw.same rfl hv (qn_f_QC_140 h), va_Nw.same rfl hv (qn_f_QC_162 h), va_Nw.same rfl hv (qn_f_QC_166 h), va_Nw.same rfl hv (qn_f_QC_173 h), va_Nw.same rfl hv (qn_f_QC_195 h), va_Nw.same rfl hv (qn_f_QC_62 h), va_Nw.same rfl hv (qn_f_QC_71 h), va_Nw.same rfl hv (qn_f_Automorphisms_19 h), va_Nw.same rfl hv (qn_f_InnerGroup_23 h), va_Nw.same rfl hv (qn_f_Operation_86 h), va_Nw.same rfl hv (qn_f_Tracer_34 h), va_Nw.same rfl hv (qn_f_Tracer_40 h), va_Nw.same rfl hv (qn_f_Tracer_45 h), va_Nw.same rfl hv (qn_f_Tracer_49 h), va_Nw.same rfl hv (qn_f_Tracer_60 h), va_Nw.same rfl hv (qn_f_Tracer_74 h), va_Nw.same rfl hv (qn_f_Tracer_78 h), va_Nw.same rfl hv (qn_f_Weights_29 h), va_Nw.same rfl hv (qn_m_QC_11 h), va_Nw.same rfl hv (qn_m_QC_25 h), va_Nw.same rfl hv (qn_m_QC_32 h), va_Nw.same rfl hv (qn_m_QC_39 h), va_Nw.same rfl hv (qn_m_History_21 h), va_Nw.same rfl hv (qn_m_Operation_17 h), va_Nw.same rfl hv (qn_m_Operation_58 h), va_Nw.same rfl hv (qn_m_State_18 h), va_Nw.same rfl hv (qn_m_State_25 h), va_Nw.same rfl hv (qn_m_State_9 h), va_Nw.same rfl hv (qn_m_Weights_17 h), va_Nw.same rfl hv (qn_m_Weights_55 h)⟩
theorem qn_NW.of {args : Array Value} {s : State} (h : ∀ w ∈ lw_tbl, w.before args s = true) : qn_NW s := ⟨va_Nw.of rfl (h (.fieldLinkNest "QuandleColorings" 103 "QuandleColorings$Operation" "badColumn" "I" "QuandleColorings") (by decide +kernel)), va_Nw.of rfl (h (.fieldLinkNest "QuandleColorings" 124 "QuandleColorings$State" "braid" "LQuandleColorings$Braid;" "QuandleColorings") (by decide +kernel)), va_Nw.of rfl (h (.fieldLinkNest "QuandleColorings" 128 "QuandleColorings$Braid" "strands" "I" "QuandleColorings") (by decide +kernel)), va_Nw.of rfl (h (.fieldLinkNest "QuandleColorings" 140 "QuandleColorings$Braid" "count" "I" "QuandleColorings") (by decide +kernel)), va_Nw.of rfl (h (.fieldLinkNest "QuandleColorings" 162 "QuandleColorings$State" "weights" "LQuandleColorings$Weights;" "QuandleColorings") (by decide +kernel)), va_Nw.of rfl (h (.fieldLinkNest "QuandleColorings" 166 "QuandleColorings$Weights" "modulus" "I" "QuandleColorings") (by decide +kernel)), va_Nw.of rfl (h (.fieldLinkNest "QuandleColorings" 173 "QuandleColorings$Weights" "values" "LQuandleColorings$Grid;" "QuandleColorings") (by decide +kernel)), va_Nw.of rfl (h (.fieldLinkNest "QuandleColorings" 195 "QuandleColorings$History" "count" "I" "QuandleColorings") (by decide +kernel)), va_Nw.of rfl (h (.fieldLinkNest "QuandleColorings" 62 "QuandleColorings$State" "operation" "LQuandleColorings$Operation;" "QuandleColorings") (by decide +kernel)), va_Nw.of rfl (h (.fieldLinkNest "QuandleColorings" 71 "QuandleColorings$Operation" "size" "I" "QuandleColorings") (by decide +kernel)), va_Nw.of rfl (h (.fieldLinkNest "QuandleColorings$Automorphisms" 19 "QuandleColorings$Operation" "size" "I" "QuandleColorings") (by decide +kernel)), va_Nw.of rfl (h (.fieldLinkNest "QuandleColorings$InnerGroup" 23 "QuandleColorings$Operation" "size" "I" "QuandleColorings") (by decide +kernel)), va_Nw.of rfl (h (.fieldLinkNest "QuandleColorings$Operation" 86 "QuandleColorings" "PERMUTATIONS" "[I" "QuandleColorings") (by decide +kernel)), va_Nw.of rfl (h (.fieldLinkNest "QuandleColorings$Tracer" 34 "QuandleColorings$State" "braid" "LQuandleColorings$Braid;" "QuandleColorings") (by decide +kernel)), va_Nw.of rfl (h (.fieldLinkNest "QuandleColorings$Tracer" 40 "QuandleColorings$Braid" "strands" "I" "QuandleColorings") (by decide +kernel)), va_Nw.of rfl (h (.fieldLinkNest "QuandleColorings$Tracer" 45 "QuandleColorings$State" "operation" "LQuandleColorings$Operation;" "QuandleColorings") (by decide +kernel)), va_Nw.of rfl (h (.fieldLinkNest "QuandleColorings$Tracer" 49 "QuandleColorings$Operation" "size" "I" "QuandleColorings") (by decide +kernel)), va_Nw.of rfl (h (.fieldLinkNest "QuandleColorings$Tracer" 60 "QuandleColorings$Braid" "count" "I" "QuandleColorings") (by decide +kernel)), va_Nw.of rfl (h (.fieldLinkNest "QuandleColorings$Tracer" 74 "QuandleColorings$State" "weights" "LQuandleColorings$Weights;" "QuandleColorings") (by decide +kernel)), va_Nw.of rfl (h (.fieldLinkNest "QuandleColorings$Tracer" 78 "QuandleColorings$Weights" "values" "LQuandleColorings$Grid;" "QuandleColorings") (by decide +kernel)), va_Nw.of rfl (h (.fieldLinkNest "QuandleColorings$Weights" 29 "QuandleColorings$Operation" "size" "I" "QuandleColorings") (by decide +kernel)), va_Nw.of rfl (h (.methodLinkNest "QuandleColorings" 11 ⟨"QuandleColorings$State", "<init>", "()V"⟩ "QuandleColorings") (by decide +kernel)), va_Nw.of rfl (h (.methodLinkNest "QuandleColorings" 25 ⟨"QuandleColorings$Tracer", "<init>", "()V"⟩ "QuandleColorings") (by decide +kernel)), va_Nw.of rfl (h (.methodLinkNest "QuandleColorings" 32 ⟨"QuandleColorings$InnerGroup", "<init>", "()V"⟩ "QuandleColorings") (by decide +kernel)), va_Nw.of rfl (h (.methodLinkNest "QuandleColorings" 39 ⟨"QuandleColorings$Automorphisms", "<init>", "()V"⟩ "QuandleColorings") (by decide +kernel)), va_Nw.of rfl (h (.methodLinkNest "QuandleColorings$History" 21 ⟨"QuandleColorings$State", "<init>", "()V"⟩ "QuandleColorings") (by decide +kernel)), va_Nw.of rfl (h (.methodLinkNest "QuandleColorings$Operation" 17 ⟨"QuandleColorings$Grid", "<init>", "()V"⟩ "QuandleColorings") (by decide +kernel)), va_Nw.of rfl (h (.methodLinkNest "QuandleColorings$Operation" 58 ⟨"QuandleColorings", "tripleCode", "(III)I"⟩ "QuandleColorings") (by decide +kernel)), va_Nw.of rfl (h (.methodLinkNest "QuandleColorings$State" 18 ⟨"QuandleColorings$Braid", "<init>", "()V"⟩ "QuandleColorings") (by decide +kernel)), va_Nw.of rfl (h (.methodLinkNest "QuandleColorings$State" 25 ⟨"QuandleColorings$Weights", "<init>", "()V"⟩ "QuandleColorings") (by decide +kernel)), va_Nw.of rfl (h (.methodLinkNest "QuandleColorings$State" 9 ⟨"QuandleColorings$Operation", "<init>", "()V"⟩ "QuandleColorings") (by decide +kernel)), va_Nw.of rfl (h (.methodLinkNest "QuandleColorings$Weights" 17 ⟨"QuandleColorings$Grid", "<init>", "()V"⟩ "QuandleColorings") (by decide +kernel)), va_Nw.of rfl (h (.methodLinkNest "QuandleColorings$Weights" 55 ⟨"QuandleColorings", "tripleCode", "(III)I"⟩ "QuandleColorings") (by decide +kernel))⟩
-- the numbers of the classes and of the array classes
abbrev qn_G : Type := va_G × ClassId × ClassId × ClassId
abbrev qn_tys (G : qn_G) : List (ClassId × FieldType) := [(G.2.1, .int), (G.2.2.1, .boolean), (G.2.2.2, .object "QuandleColorings$State")]
def qn_EV (G : qn_G) (U : State) : Prop := va_K G.1 vwCl (qn_tys G) U ∧ qn_NW U ∧ va_AO "QuandleColorings$State" U
theorem qn_EV.moved {G : qn_G} {s U : State} (hW : s.WarmedH U.vm) (h : qn_EV G s) : qn_EV G U := ⟨va_K.moved hW.alike h.1, qn_NW.warm hW h.2.1, va_AO.moved hW.alike h.2.2⟩
theorem qn_EV.calling {G : qn_G} {U : State} {g : JFrame} {mk : MethodId} {a : Array Value} (h : qn_EV G U) : qn_EV G (U.calling g mk a) := ⟨va_K.moved (u := U) (U := U.calling g mk a) (Vm.Alike.refl U.vm) h.1, qn_NW.same (s := U) (U := U.calling g mk a) rfl h.2.1, va_AO.moved (u := U) (U := U.calling g mk a) (Vm.Alike.refl U.vm) h.2.2⟩
-- a contract's start and its ends
abbrev qn_PC (G : qn_G) (av : List Value) (sz : Nat) (ws : va_W) : Array Value → State → Prop := va_Pc av (fun U => U.heap.size = sz ∧ va_P G.1 vwCl ws U.heap ∧ qn_EV G U ∧ va_D (fun _ => True) ws)
abbrev qn_QI {S : Type} (G : qn_G) (post : Int32 → S → Prop) (wf : S → va_W) (A : Nat → Prop) : Array Value → State → Outcome → State → Prop := va_Qi post (fun u t => va_P G.1 vwCl (wf u) t.heap ∧ va_D A (wf u)) A
abbrev qn_QV {S : Type} (G : qn_G) (post : S → Prop) (wf : S → va_W) (A : Nat → Prop) : Array Value → State → Outcome → State → Prop := va_Qv post (fun u t => va_P G.1 vwCl (wf u) t.heap ∧ va_D A (wf u)) A
abbrev qn_QN {Ix S : Type} (G : qn_G) (post : S → Prop) (wf : Ix → S → va_W) (A : Nat → Prop) : Array Value → State → Outcome → State → Prop := va_Qv post (fun u t => ∃ a : Ix, va_P G.1 vwCl (wf a u) t.heap ∧ va_D A (wf a u)) A
/-- what a method's body has of the machine -/
abbrev qn_C (p : Program) (m : MethodId) (c : Code) (cc : ByteArray) (nL : Nat) (s : State) (args : Array Value) (Ts : List Cond) (own : String) (meth : Method) (ret : Option FieldType) : Prop :=
  p.tables.exec = Jvm.exec ∧ c.code = cc ∧ c.maxLocals = nL ∧ s.vm.findClass own = some m.cls ∧ (∀ w ∈ Ts, w.before args s = true) ∧ meth.sig.returnType = ret ∧ meth.locks = false
theorem qn_blind {G : qn_G} {av : List Value} {sz : Nat} {ws : va_W} : FrameBlind (qn_PC G av sz ws) := fun a U g mk q => by
  obtain ⟨q0, q1, qP, qE, qD⟩ := q
  exact ⟨q0, q1, qP, qE.calling, qD⟩
theorem qn_at {G : qn_G} {s : State} {av : List Value} {ws : va_W} {H : Heap} {A : Nat → Prop} (hE : qn_EV G s) (hP : va_P G.1 vwCl ws H) (hD : va_D A ws) : ∀ U : State, U.heap = H → s.WarmedH U.vm → qn_PC G av H.size ws av.toArray U := fun U hU hW =>
  ⟨rfl, by rw [hU], by rw [hU]; exact hP, hE.moved hW, hD.weaken (fun _ _ _ _ => trivial)⟩
theorem qn_fm {α : Type} : ∀ (l : List (Option α)) (w : List α), l = w.map some → l.filterMap id = w := by
  intro l w h
  subst h
  induction w with
  | nil => rfl
  | cons a w ih => simp
theorem qn_sub {G : qn_G} {ws wc : va_W} {H : Heap} (hP : va_P G.1 vwCl ws H) (isC : List Nat) (hC : isC.map (fun i => ws[i]?) = wc.map some) : va_P G.1 vwCl wc H := by
  refine hP.sub isC ?_
  have h := qn_fm _ _ hC
  rw [List.filterMap_map] at h
  exact h
theorem qn_rest {ws : va_W} : ∀ (isR : List Nat), isR.all (fun i => decide (i < ws.length)) = true → isR.map (fun i => ws[i]?) = (isR.filterMap (fun i => ws[i]?)).map some
  | [], _ => rfl
  | i :: is, h => by
    simp only [List.all_cons, Bool.and_eq_true, decide_eq_true_eq] at h
    rw [List.map_cons, qn_rest is h.2, List.filterMap_cons]
    have e : ws[i]? = some ws[i] := List.getElem?_eq_getElem h.1
    rw [e]
    rfl
theorem qn_preV {G : qn_G} {s : State} {ws wc : va_W} {H : Heap} {A : Nat → Prop} {q : vw_C} {ci a : Nat} {fs : List Value} {As : List Value} (hE : qn_EV G s) (hP : va_P G.1 vwCl ws H) (hD : va_D A ws) (isC : List Nat) (hC : isC.map (fun i => ws[i]?) = wc.map some) (hn : va_nd isC = true) (hc : vwCl[ci]? = some q) (he : wc[0]? = some (a, .inr (ci, fs))) : PreV s H q.1 a (qn_PC G (.ref a :: As) H.size wc) As :=
  ⟨qn_blind, va_recv hE.1 (qn_sub hP isC hC) hc he, qn_at hE (qn_sub hP isC hC) (hD.sub isC hn hC)⟩
theorem qn_preS {G : qn_G} {s : State} {ws wc : va_W} {H : Heap} {A : Nat → Prop} {As : List Value} (hE : qn_EV G s) (hP : va_P G.1 vwCl ws H) (hD : va_D A ws) (isC : List Nat) (hC : isC.map (fun i => ws[i]?) = wc.map some) (hn : va_nd isC = true) : PreS s H (qn_PC G As H.size wc) As :=
  ⟨qn_blind, qn_at hE (qn_sub hP isC hC) (hD.sub isC hn hC)⟩
/-- the place of j among the places is -/
def qn_ix : List Nat → Nat → Nat → Option Nat
  | [], _, _ => none
  | i :: is, k, j => if i = j then some k else qn_ix is (k + 1) j
theorem qn_ix_some : ∀ (is : List Nat) (k j r : Nat), qn_ix is k j = some r → ∃ d, r = k + d ∧ is[d]? = some j
  | [], k, j, r, h => by simp [qn_ix] at h
  | i :: is, k, j, r, h => by
    unfold qn_ix at h
    split at h
    · next e => exact ⟨0, by simpa using (Option.some.inj h).symm, by simp [e]⟩
    · obtain ⟨d, h1, h2⟩ := qn_ix_some is (k + 1) j r h
      exact ⟨d + 1, by omega, by simpa using h2⟩
theorem qn_ix_none : ∀ (is : List Nat) (k j : Nat), qn_ix is k j = none → j ∉ is
  | [], k, j, h => List.not_mem_nil
  | i :: is, k, j, h => by
    unfold qn_ix at h
    split at h
    · cases h
    · next e =>
      have h2 := qn_ix_none is (k + 1) j h
      simp [h2, Ne.symm e]
/-- new cells in the place of old ones -/
def qn_mg : List (Option Nat) → va_W → va_W → va_W
  | none :: s, c :: ws, w1 => c :: qn_mg s ws w1
  | some k :: s, c :: ws, w1 => ((w1[k]?).getD c) :: qn_mg s ws w1
  | _, ws, _ => ws
theorem qn_mg_get : ∀ (sel : List (Option Nat)) (ws w1 : va_W), sel.length = ws.length → ∀ (j : Nat) (q : Nat × va_E), (qn_mg sel ws w1)[j]? = some q → (∃ k : Nat, sel[j]? = some (some k) ∧ ∃ c, q = (w1[k]?).getD c) ∨ (sel[j]? = some none ∧ ws[j]? = some q)
  | [], [], w1, _, j, q, h => by simp [qn_mg] at h
  | [], c :: ws, w1, hl, j, q, h => by simp at hl
  | none :: s, [], w1, hl, j, q, h => by simp at hl
  | some k :: s, [], w1, hl, j, q, h => by simp at hl
  | none :: s, c :: ws, w1, hl, j, q, h => by
    have hl2 : s.length = ws.length := by simpa using hl
    match j, h with
    | 0, h => exact Or.inr ⟨by simp, by simpa [qn_mg] using h⟩
    | j + 1, h =>
      rcases qn_mg_get s ws w1 hl2 j q (by simpa [qn_mg] using h) with ⟨k, h1, h2⟩ | ⟨h1, h2⟩
      · exact Or.inl ⟨k, by simpa using h1, h2⟩
      · exact Or.inr ⟨by simpa using h1, by simpa using h2⟩
  | some k :: s, c :: ws, w1, hl, j, q, h => by
    have hl2 : s.length = ws.length := by simpa using hl
    match j, h with
    | 0, h => exact Or.inl ⟨k, by simp, c, by simpa [qn_mg] using h.symm⟩
    | j + 1, h =>
      rcases qn_mg_get s ws w1 hl2 j q (by simpa [qn_mg] using h) with ⟨k, h1, h2⟩ | ⟨h1, h2⟩
      · exact Or.inl ⟨k, by simpa using h1, h2⟩
      · exact Or.inr ⟨by simpa using h1, by simpa using h2⟩
theorem qn_rp_get {is : List Nat} {sel : List (Option Nat)} {N : Nat} {cs ws : va_W} (hsel : sel = (List.range N).map (qn_ix is 0)) (hN : ws.length = N) (hl : is.length = cs.length) (j : Nat) (q : Nat × va_E) (h : (qn_mg sel ws cs)[j]? = some q) : (∃ k : Nat, is[k]? = some j ∧ cs[k]? = some q) ∨ (j ∉ is ∧ ws[j]? = some q) := by
  have hls : sel.length = ws.length := by rw [hsel, hN]; simp
  have hj : ∀ o, sel[j]? = some o → qn_ix is 0 j = o := by
    intro o ho
    rw [hsel, List.getElem?_map] at ho
    cases hr : (List.range N)[j]? with
    | none => rw [hr] at ho; simp at ho
    | some x =>
      rw [hr] at ho
      have e : x = j := by
        have := List.getElem?_eq_some_iff.mp hr
        obtain ⟨_, h2⟩ := this
        simpa using h2.symm
      rw [e] at ho
      simpa using ho
  rcases qn_mg_get sel ws cs hls j q h with ⟨k, h1, c, h2⟩ | ⟨h1, h2⟩
  · obtain ⟨d, e, h3⟩ := qn_ix_some is 0 j k (hj _ h1)
    have ed : k = d := by omega
    subst ed
    have hk : k < cs.length := by rw [← hl]; exact (List.getElem?_eq_some_iff.mp h3).1
    refine Or.inl ⟨k, h3, ?_⟩
    rw [List.getElem?_eq_getElem hk] at h2 ⊢
    simp at h2
    rw [h2]
  · exact Or.inr ⟨qn_ix_none is 0 j (hj _ h1), h2⟩
theorem qn_at? {is : List Nat} {ws wc : va_W} (hC : is.map (fun i => ws[i]?) = wc.map some) {k i : Nat} (h : is[k]? = some i) : ∃ q, wc[k]? = some q ∧ ws[i]? = some q := by
  have h1 := congrArg (fun l => l[k]?) hC
  simp only [List.getElem?_map, h, Option.map_some] at h1
  cases hw : wc[k]? with
  | none => rw [hw] at h1; simp at h1
  | some q => rw [hw] at h1; exact ⟨q, rfl, by simpa using h1⟩
theorem qn_swap {G : qn_G} {A0 : Nat → Prop} {ws wc w1 : va_W} {H H1 : Heap} (hP : va_P G.1 vwCl ws H) (hD : va_D A0 ws) (is : List Nat) (hC : is.map (fun i => ws[i]?) = wc.map some) (hl : is.length = w1.length) {sel : List (Option Nat)} {M : Nat} (hsel : sel = (List.range M).map (qn_ix is 0)) (hM : ws.length = M)
    (hk : ∀ q : Nat, q < H.size → ¬ va_A wc H.size q → H1[q]? = H[q]?) (hF : ∀ q, va_A wc H.size q → A0 q) (hP1 : va_P G.1 vwCl w1 H1) (hD1 : va_D (va_A wc H.size) w1) : va_P G.1 vwCl (qn_mg sel ws w1) H1 ∧ va_D A0 (qn_mg sel ws w1) := by
  -- a cell that stays lies outside of the callee's
  have hout : ∀ (i : Nat) (q : Nat × va_E), i ∉ is → ws[i]? = some q → ¬ va_A wc H.size q.1 := by
    intro i q hi hq h
    rcases h with ⟨k, e, hk⟩ | h
    · cases hk2 : is[k]? with
      | none =>
        have h1 := congrArg (fun l => l[k]?) hC
        simp only [List.getElem?_map, hk2, Option.map_none] at h1
        rw [hk] at h1
        simp at h1
      | some i2 =>
        obtain ⟨q2, h3, h4⟩ := qn_at? hC hk2
        rw [hk] at h3
        have e2 := hD.1 i i2 q q2 hq h4 (by rw [← Option.some.inj h3])
        exact hi (by rw [e2]; exact List.mem_of_getElem? hk2)
    · exact absurd ((hP i q hq).lt) (by omega)
  refine ⟨fun j q hq => ?_, fun i j p q hp hq e => ?_, fun j q hq => ?_⟩
  · rcases qn_rp_get hsel hM hl j q hq with ⟨k, h1, h2⟩ | ⟨h1, h2⟩
    · exact hP1 k q h2
    · exact (hP j q h2).kept (hk q.1 ((hP j q h2).lt) (hout j q h1 h2))
  · rcases qn_rp_get hsel hM hl i p hp with ⟨k, h1, h2⟩ | ⟨h1, h2⟩
    · rcases qn_rp_get hsel hM hl j q hq with ⟨k', h1', h2'⟩ | ⟨h1', h2'⟩
      · have ek := hD1.1 k k' p q h2 h2' e
        rw [ek] at h1
        exact Option.some.inj (h1.symm.trans h1')
      · exact absurd (e ▸ hD1.2 k p h2) (hout j q h1' h2')
    · rcases qn_rp_get hsel hM hl j q hq with ⟨k', h1', h2'⟩ | ⟨h1', h2'⟩
      · exact absurd (e.symm ▸ hD1.2 k' q h2') (hout i p h1 h2)
      · exact hD.1 i j p q h2 h2' e
  · rcases qn_rp_get hsel hM hl j q hq with ⟨k, h1, h2⟩ | ⟨h1, h2⟩
    · exact hF _ (hD1.2 k q h2)
    · exact hD.2 j q h2
/-- a callee's one cell at the end, its new cells in its place -/
theorem qn_tail {G : qn_G} {A0 : Nat → Prop} {X w1 : va_W} {cell : Nat × va_E} {H H1 : Heap} (hP : va_P G.1 vwCl (X ++ [cell]) H) (hD : va_D A0 (X ++ [cell])) (hk : ∀ q : Nat, q < H.size → ¬ va_A [cell] H.size q → H1[q]? = H[q]?) (hF : ∀ q, va_A [cell] H.size q → A0 q) (hP1 : va_P G.1 vwCl w1 H1) (hD1 : va_D (va_A [cell] H.size) w1) : va_P G.1 vwCl (X ++ w1) H1 ∧ va_D A0 (X ++ w1) := by
  have hX : ∀ (i : Nat) (q : Nat × va_E), X[i]? = some q → (X ++ [cell])[i]? = some q := fun i q h => by
    rw [List.getElem?_append_left (List.getElem?_eq_some_iff.mp h).1]; exact h
  have hlast : (X ++ [cell])[X.length]? = some cell := by simp
  have hout : ∀ (i : Nat) (q : Nat × va_E), X[i]? = some q → ¬ va_A [cell] H.size q.1 := by
    intro i q hq h
    rcases h with ⟨k, e, hk⟩ | h
    · have hk0 : k = 0 := by
        have := (List.getElem?_eq_some_iff.mp hk).1
        simp at this
        exact this
      subst hk0
      have e1 : cell = (q.1, e) := by simpa using hk
      have e2 := hD.1 i X.length q cell (hX i q hq) hlast (by rw [e1])
      exact absurd (List.getElem?_eq_some_iff.mp hq).1 (by omega)
    · exact absurd ((hP i q (hX i q hq)).lt) (by omega)
  refine ⟨va_P.app (fun i q hq => (hP i q (hX i q hq)).kept (hk q.1 ((hP i q (hX i q hq)).lt) (hout i q hq))) hP1, va_D.app ⟨fun i j p q hp hq e => hD.1 i j p q (hX i p hp) (hX j q hq) e, fun k q hq => hD.2 k q (hX k q hq)⟩ (hD1.weaken (fun _ _ _ h => hF _ h)) (fun i j p q hp hq e => hout i p hp (e.symm ▸ hD1.2 j q hq))⟩
section QC1
variable {p : Program} {l : Launch} {e : Env} {R : Room} {s : State} {m : MethodId} {args : Array Value} {below : List Frame} {meth : Method} {c : Code} {H : Heap} {locs : List Loc} {cells slots : Nat} {Q : State → Prop}
variable {pc : Nat} {ls : Array Slot} {rest st0 : List Value} {a : Array Value} {A : Nat → Prop} {H0 : Heap} {mc ms : Nat}
theorem qn_callI {G : qn_G} {S : Type} {post : Int32 → S → Prop} {wf wd : S → va_W} {ws wc : va_W} (isC : List Nat)
    (hr : va_Run p l e R s m args below meth c H locs cells slots mc ms (F0 m pc ls st0) rest (qn_QI G post wf (va_A wc H.size) a) (va_A wc H.size))
    (hP : va_P G.1 vwCl ws H) (hD : va_D A ws) (hS : va_S A H0 H locs) (hA : ∀ q, H0.size ≤ q → A q)
    (hC : isC.map (fun i => ws[i]?) = wc.map some) (sel : List (Option Nat)) {M : Nat} (hM : ws.length = M) (hsel : sel = (List.range M).map (qn_ix isC 0)) (hl : ∀ u, isC.length = (wf u).length) (hw : ∀ u, qn_mg sel ws (wf u) = wd u)
    (kk : ∀ (r : Int32) (u : S) (H1 : Heap) (locs1 : List Loc), post r u → va_P G.1 vwCl (wd u) H1 → va_D A (wd u) → va_S A H0 H1 locs1 → W p l e R s m args below meth c H1 locs1 (cells + mc) (slots + ms) Q (F0 m (pc + 3) ls (.int r :: rest))) : W p l e R s m args below meth c H locs cells slots Q (F0 m pc ls st0) := by
  have hF := va_free (wc := wc) hD hS hA isC hC
  refine va_calli hr hS (fun q _ h => hF q h) hF (fun r u t H1 locs1 ht hvm hu hB hz hk hS => ?_)
  obtain ⟨hP1, hD1⟩ := hB
  rw [ht] at hP1
  obtain ⟨hP2, hD2⟩ := qn_swap hP hD isC hC (hl u) hsel hM hk hF hP1 hD1
  rw [hw u] at hP2 hD2
  exact kk r u H1 locs1 hu hP2 hD2 hS
theorem qn_callV {G : qn_G} {S : Type} {post : S → Prop} {wf wd : S → va_W} {ws wc : va_W} (isC : List Nat)
    (hr : va_Run p l e R s m args below meth c H locs cells slots mc ms (F0 m pc ls st0) rest (qn_QV G post wf (va_A wc H.size) a) (va_A wc H.size))
    (hP : va_P G.1 vwCl ws H) (hD : va_D A ws) (hS : va_S A H0 H locs) (hA : ∀ q, H0.size ≤ q → A q)
    (hC : isC.map (fun i => ws[i]?) = wc.map some) (sel : List (Option Nat)) {M : Nat} (hM : ws.length = M) (hsel : sel = (List.range M).map (qn_ix isC 0)) (hl : ∀ u, isC.length = (wf u).length) (hw : ∀ u, qn_mg sel ws (wf u) = wd u)
    (kk : ∀ (u : S) (H1 : Heap) (locs1 : List Loc), post u → va_P G.1 vwCl (wd u) H1 → va_D A (wd u) → va_S A H0 H1 locs1 → W p l e R s m args below meth c H1 locs1 (cells + mc) (slots + ms) Q (F0 m (pc + 3) ls rest)) : W p l e R s m args below meth c H locs cells slots Q (F0 m pc ls st0) := by
  have hF := va_free (wc := wc) hD hS hA isC hC
  refine va_callv hr hS (fun q _ h => hF q h) hF (fun u t H1 locs1 ht hvm hu hB hz hk hS => ?_)
  obtain ⟨hP1, hD1⟩ := hB
  rw [ht] at hP1
  obtain ⟨hP2, hD2⟩ := qn_swap hP hD isC hC (hl u) hsel hM hk hF hP1 hD1
  rw [hw u] at hP2 hD2
  exact kk u H1 locs1 hu hP2 hD2 hS
theorem qn_callT {G : qn_G} {Ix S : Type} {post : S → Prop} {wf : Ix → S → va_W} {X : va_W} {cell : Nat × va_E}
    (hr : va_Run p l e R s m args below meth c H locs cells slots mc ms (F0 m pc ls st0) rest (qn_QN G post wf (va_A [cell] H.size) a) (va_A [cell] H.size))
    (hP : va_P G.1 vwCl (X ++ [cell]) H) (hD : va_D A (X ++ [cell])) (hS : va_S A H0 H locs) (hA : ∀ q, H0.size ≤ q → A q)
    (kk : ∀ (b : Ix) (u : S) (H1 : Heap) (locs1 : List Loc), post u → va_P G.1 vwCl (X ++ wf b u) H1 → va_D A (X ++ wf b u) → va_S A H0 H1 locs1 → W p l e R s m args below meth c H1 locs1 (cells + mc) (slots + ms) Q (F0 m (pc + 3) ls rest)) : W p l e R s m args below meth c H locs cells slots Q (F0 m pc ls st0) := by
  have hF : ∀ q, va_A [cell] H.size q → A q := va_free (wc := [cell]) hD hS hA [X.length] (by simp)
  refine va_callv hr hS (fun q _ h => hF q h) hF (fun u t H1 locs1 ht hvm hu hB hz hk hS => ?_)
  obtain ⟨b, hP1, hD1⟩ := hB
  rw [ht] at hP1
  obtain ⟨hP2, hD2⟩ := qn_tail hP hD hk hF hP1 hD1
  exact kk b u H1 locs1 hu hP2 hD2 hS
theorem qn_callN {G : qn_G} {Ix S : Type} {post : S → Prop} {wf wd : Ix → S → va_W} {ws wc : va_W} (isC isR isP : List Nat)
    (hr : va_Run p l e R s m args below meth c H locs cells slots mc ms (F0 m pc ls st0) rest (qn_QN G post wf (va_A wc H.size) a) (va_A wc H.size))
    (hP : va_P G.1 vwCl ws H) (hD : va_D A ws) (hS : va_S A H0 H locs) (hA : ∀ q, H0.size ≤ q → A q)
    (hC : isC.map (fun i => ws[i]?) = wc.map some) (hR : isR.all (fun i => decide (i < ws.length)) = true) (hn : va_nd isR = true) (hdis : ∀ i ∈ isR, i ∉ isC)
    (hPm : ∀ a u, isP.map (fun i => (isR.filterMap (fun i => ws[i]?) ++ wf a u)[i]?) = (wd a u).map some) (hnp : va_nd isP = true)
    (kk : ∀ (b : Ix) (u : S) (H1 : Heap) (locs1 : List Loc), post u → va_P G.1 vwCl (wd b u) H1 → va_D A (wd b u) → va_S A H0 H1 locs1 → W p l e R s m args below meth c H1 locs1 (cells + mc) (slots + ms) Q (F0 m (pc + 3) ls rest)) : W p l e R s m args below meth c H locs cells slots Q (F0 m pc ls st0) := by
  have hF := va_free (wc := wc) hD hS hA isC hC
  refine va_callv hr hS (fun q _ h => hF q h) hF (fun u t H1 locs1 ht hvm hw hB hz hk hS => ?_)
  obtain ⟨b, hP1, hD1⟩ := hB
  rw [ht] at hP1
  obtain ⟨hP2, hD2⟩ := va_join (wr := isR.filterMap (fun i => ws[i]?)) hP hD isC isR hC (qn_rest isR hR) hn hdis hk hF hP1 hD1
  exact kk b u H1 locs1 hw (qn_sub hP2 isP (hPm b u)) (hD2.sub isP hnp (hPm b u)) hS
end QC1
-- the history's row of references
def qn_rf (pa : Nat → Nat → Nat) : Nat → Option Nat := fun i => if i < 5 then some (pa i 0) else none
def qn_rot (pa : Nat → Nat → Nat) : Nat → Nat → Nat := fun i => if i = 0 then pa 1 else if i = 1 then pa 2 else if i = 2 then pa 3 else if i = 3 then pa 4 else if i = 4 then pa 0 else pa i
theorem qn_C0 {p : Program} {l : Launch} {y : MethodName} {Ts : List Cond} {rm : Room} {cc : ByteArray} {maxL : Nat} {ret : Option FieldType} {e : Env} {s : State} {m : MethodId} {args : Array Value} {below : List Frame} {meth : Method} {c : Code} {s₁ : State} (B : BodyLoose p l y (headSpec Ts rm) cc maxL ret e s m args below meth c s₁) (hml : c.maxLocals = maxL) : qn_C p m c cc maxL s args Ts y.cls meth ret :=
  ⟨B.exec, B.bytes, hml, findClass_of_methodNamed B.named, atoms_spec (ws := Ts) B.pre, B.returns, B.notSynchronized⟩
-- the static row of permutations
def qn_perm : Nat → Int32 := fun k => [0, 1, 2, 0, 2, 1, 1, 0, 2, 1, 2, 0, 2, 0, 1, 2, 1, 0].getD k 0
def qn_SP (t : Nat) (A : Nat → Prop) (U : State) (H : Heap) : Prop := va_Z "QuandleColorings" "PERMUTATIONS" "[I" (.ref t) A U H ∧ va_T .int t 18 (fun j => .int (qn_perm j)) A U H
abbrev qn_PCZ (t : Nat) (G : qn_G) (av : List Value) (sz : Nat) (ws : va_W) : Array Value → State → Prop := va_Pc av (fun U => U.heap.size = sz ∧ va_P G.1 vwCl ws U.heap ∧ qn_EV G U ∧ va_D (fun _ => True) ws ∧ qn_SP t (va_A ws sz) U U.heap)
theorem qn_SP.vm {t : Nat} {A : Nat → Prop} {u U : State} {H : Heap} (hvm : u.vm.Alike U.vm) (h : qn_SP t A u H) : qn_SP t A U H := ⟨h.1.moved hvm, h.2.moved hvm⟩
theorem qn_blindZ {t : Nat} {G : qn_G} {av : List Value} {sz : Nat} {ws : va_W} : FrameBlind (qn_PCZ t G av sz ws) := fun a U g mk q => by
  obtain ⟨q0, q1, qP, qE, qD, qZ⟩ := q
  exact ⟨q0, q1, qP, qE.calling, qD, qZ.vm (U := U.calling g mk a) (Vm.Alike.refl U.vm)⟩
theorem qn_atZ {t : Nat} {G : qn_G} {s : State} {av : List Value} {ws wc : va_W} {H : Heap} {locs : List Loc} {A : Nat → Prop} (hE : qn_EV G s) (hP : va_P G.1 vwCl wc H) (hD : va_D A ws) (hZ : qn_SP t A s s.heap) (hS : va_S A s.heap H locs) (hA : ∀ q, s.heap.size ≤ q → A q) (isC : List Nat) (hC : isC.map (fun i => ws[i]?) = wc.map some) (hn : va_nd isC = true) : ∀ U : State, U.heap = H → s.WarmedH U.vm → qn_PCZ t G av H.size wc av.toArray U := fun U hU hW =>
  ⟨rfl, by rw [hU], by rw [hU]; exact hP, hE.moved hW, (hD.sub isC hn hC).weaken (fun _ _ _ _ => trivial), by
    have hF := va_free (wc := wc) hD hS hA isC hC
    have h1 : qn_SP t A s H := ⟨hZ.1.kept (fun a h1 h2 => hS.2.1 a h1 h2), hZ.2.kept (fun a h1 h2 => hS.2.1 a h1 h2)⟩
    rw [hU]
    exact qn_SP.vm hW.alike ⟨h1.1.narrow hF, h1.2.narrow hF⟩⟩
theorem qn_preT {G : qn_G} {s : State} {X : va_W} {cell : Nat × va_E} {H : Heap} {A : Nat → Prop} {As : List Value} (hE : qn_EV G s) (hP : va_P G.1 vwCl (X ++ [cell]) H) (hD : va_D A (X ++ [cell])) : PreS s H (qn_PC G As H.size [cell]) As :=
  ⟨qn_blind, qn_at hE (qn_sub hP [X.length] (by simp)) (hD.sub [X.length] rfl (by simp))⟩
theorem qn_preSZ {t : Nat} {G : qn_G} {s : State} {ws wc : va_W} {H : Heap} {locs : List Loc} {A : Nat → Prop} {As : List Value} (hE : qn_EV G s) (hP : va_P G.1 vwCl ws H) (hD : va_D A ws) (hZ : qn_SP t A s s.heap) (hS : va_S A s.heap H locs) (hA : ∀ q, s.heap.size ≤ q → A q) (isC : List Nat) (hC : isC.map (fun i => ws[i]?) = wc.map some) (hn : va_nd isC = true) : PreS s H (qn_PCZ t G As H.size wc) As :=
  ⟨qn_blindZ, qn_atZ hE (qn_sub hP isC hC) hD hZ hS hA isC hC hn⟩
theorem qn_preVZ {t : Nat} {G : qn_G} {s : State} {ws wc : va_W} {H : Heap} {locs : List Loc} {A : Nat → Prop} {q : vw_C} {ci a : Nat} {fs : List Value} {As : List Value} (hE : qn_EV G s) (hP : va_P G.1 vwCl ws H) (hD : va_D A ws) (hZ : qn_SP t A s s.heap) (hS : va_S A s.heap H locs) (hA : ∀ q, s.heap.size ≤ q → A q) (isC : List Nat) (hC : isC.map (fun i => ws[i]?) = wc.map some) (hn : va_nd isC = true) (hc : vwCl[ci]? = some q) (he : wc[0]? = some (a, .inr (ci, fs))) : PreV s H q.1 a (qn_PCZ t G (.ref a :: As) H.size wc) As :=
  ⟨qn_blindZ, va_recv hE.1 (qn_sub hP isC hC) hc he, qn_atZ hE (qn_sub hP isC hC) hD hZ hS hA isC hC hn⟩
theorem qn_ofWF {l : Launch} {y : MethodName} {ws ws' : List Cond} {rm : Room} {Pc : Array Value → State → Prop} {Qc : Array Value → State → Outcome → State → Prop} {mc ms : Nat} {free : Addr → Prop} {cc : ByteArray} {maxL : Nat} {ret : Option FieldType}
    (hy : plainFor y = true) (hw : ws = Cond.code y cc maxL ret :: ws')
    (body : ∀ p e s m args below meth c s₁, BodyLoose p l y (headSpec ws rm) cc maxL ret e s m args below meth c s₁ → c.maxLocals = maxL → Pc args s →
      W p l e (headSpec ws rm).room s m args below meth c s.heap [] 0 0 (MQ below Qc args s mc ms free) (entryFrame m args maxL)) : Met l y ws rm Pc Qc mc ms free := by
  refine MetFree.of_bodySF (code := cc) (maxLocals := maxL) (ret := ret) hy ?_ ?_
  · intro args s m h hn
    obtain ⟨meth, c, h1, h2, h3, h4, h5, h6, -, -⟩ := Cond.code_spec hn (atoms_spec (ws := ws) h _ (by rw [hw]; exact List.mem_cons_self))
    exact ⟨meth, c, h1, h2, h3, h4, h5, h6⟩
  · intro p e s m args below meth c s₁ B hml hP _
    have hh0 : s₁.heap = s.heap := by rw [B.state]; rfl
    obtain ⟨t, a1, o, b1, b2, b3⟩ := body p e s m args below meth c s₁ B hml hP s₁ hh0 (Stand.of_body B)
    exact ⟨t, o, a1, b1, b2, ⟨b3.1, b3.2⟩⟩
theorem qn_nb {r : Int32} (h : r = 0 ∨ r = 1) : narrow .boolean (.int r) = .int r := by
  rcases h with rfl | rfl <;> decide
-- a state's contents: size, badColumn, products, quotients, strands, count, crossings, modulus, values
abbrev qn_St : Type := Int32 × Int32 × (Nat → Int32) × (Nat → Int32) × Int32 × Int32 × (Nat → Int32) × Int32 × (Nat → Int32)
def qn_rotP (P : Nat → qn_St) : Nat → qn_St := fun i => if i = 0 then P 1 else if i = 1 then P 2 else if i = 2 then P 3 else if i = 3 then P 4 else if i = 4 then P 0 else P i
theorem qn_rf_rot (pa : Nat → Nat → Nat) : va_up (va_up (va_up (va_up (va_up (qn_rf pa) 0 (some (pa 1 0))) 1 (some (pa 2 0))) 2 (some (pa 3 0))) 3 (some (pa 4 0))) 4 (some (pa 0 0)) = qn_rf (qn_rot pa) := by
  funext i
  match i with
  | 0 => rfl
  | 1 => rfl
  | 2 => rfl
  | 3 => rfl
  | 4 => rfl
  | i + 5 =>
    have h : ¬ i + 5 < 5 := by omega
    simp [va_up, qn_rf, h]
theorem qn_rf_new (pa : Nat → Nat → Nat) : va_up (va_up (va_up (va_up (va_up (fun _ => none) 0 (some (pa 0 0))) 1 (some (pa 1 0))) 2 (some (pa 2 0))) 3 (some (pa 3 0))) 4 (some (pa 4 0)) = qn_rf pa := by
  funext i
  match i with
  | 0 => rfl
  | 1 => rfl
  | 2 => rfl
  | 3 => rfl
  | 4 => rfl
  | i + 5 =>
    have h : ¬ i + 5 < 5 := by omega
    simp [va_up, qn_rf, h]
