theorem kuJ5_append_3fe6f : ts_Yu yJ5_append_3fe6f cJ5_append_3fe6f 2 (some (.object "java/lang/AbstractStringBuilder")) 1 := ⟨q_1043, q_2604, q_426, q_128, q_1044, by decide +kernel, by decide +kernel⟩
theorem kuJ5_append_c97b9 : ts_Yu yJ5_append_c97b9 cJ5_append_c97b9 4 (some (.object "java/lang/AbstractStringBuilder")) 1 := ⟨q_795, q_2602, q_426, q_128, q_796, by decide +kernel, by decide +kernel⟩
theorem kuJ5_charAt_5068e : ts_Yu yJ5_charAt_5068e cJ5_charAt_5068e 5 (some .char) 1 := ⟨q_1826, q_2606, q_426, q_128, q_1827, by decide +kernel, by decide +kernel⟩
theorem kbJ5_ensureCapacityInternal_d00df : ts_Yb yJ5_ensureCapacityInternal_d00df cJ5_ensureCapacityInternal_d00df 3 none 1 := ⟨q_687, Or.inr (List.mem_of_getElem? (i := 0) (by decide +kernel)), q_128, q_688, by decide +kernel, by decide +kernel⟩
theorem kbJ5_isLatin1_aae02 : ts_Yb yJ5_isLatin1_aae02 cJ5_isLatin1_aae02 1 (some .boolean) 0 := ⟨q_717, Or.inl q_719, q_128, q_720, by decide +kernel, by decide +kernel⟩
theorem kuJ5_length_8abf5 : ts_Yu yJ5_length_8abf5 cJ5_length_8abf5 1 (some .int) 0 := ⟨q_834, q_835, q_426, q_128, q_840, by decide +kernel, by decide +kernel⟩
theorem kbJ5_newCapacity_0f7a4 : ts_Yb yJ5_newCapacity_0f7a4 cJ5_newCapacity_0f7a4 6 (some .int) 1 := ⟨q_691, Or.inr (List.mem_of_getElem? (i := 1) (by decide +kernel)), q_128, q_692, by decide +kernel, by decide +kernel⟩
theorem kuJ5_setLength_d00df : ts_Yu yJ5_setLength_d00df cJ5_setLength_d00df 2 none 1 := ⟨q_664, q_2594, q_426, q_128, q_665, by decide +kernel, by decide +kernel⟩
theorem kbJ4_append_cf468 : ts_Yb yJ4_append_cf468 cJ4_append_cf468 2 (some (.object "java/lang/StringBuilder")) 1 := ⟨q_1039, Or.inl q_1040, q_129, q_1041, by decide +kernel, by decide +kernel⟩
theorem kbJ4_append_bf812 : ts_Yb yJ4_append_bf812 cJ4_append_bf812 2 (some (.object "java/lang/StringBuilder")) 1 := ⟨q_791, Or.inl q_792, q_129, q_793, by decide +kernel, by decide +kernel⟩
theorem kbJ4_charAt_5068e : ts_Yb yJ4_charAt_5068e cJ4_charAt_5068e 2 (some .char) 1 := ⟨q_1822, Or.inl q_1823, q_129, q_1824, by decide +kernel, by decide +kernel⟩
theorem kbJ4_length_8abf5 : ts_Yb yJ4_length_8abf5 cJ4_length_8abf5 1 (some .int) 0 := ⟨q_837, Or.inl q_2605, q_129, q_838, by decide +kernel, by decide +kernel⟩
theorem kbJ4_setLength_d00df : ts_Yb yJ4_setLength_d00df cJ4_setLength_d00df 2 none 1 := ⟨q_660, Or.inl q_661, q_129, q_662, by decide +kernel, by decide +kernel⟩
