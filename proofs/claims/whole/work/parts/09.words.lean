/-! THE WORDS: one list for all methods -/
def ALLW : List Cond := lw_tbl.filter goodWord
theorem alw {w : Cond} (h : w ∈ lw_tbl) (hg : goodWord w = true) : w ∈ ALLW := List.mem_filter.mpr ⟨h, hg⟩
theorem alw_in {w : Cond} (h : w ∈ ALLW) : w ∈ lw_tbl := (List.mem_filter.mp h).1
theorem tmP {i : Nat} {w : Cond} (h : (k2_sels lw_privs)[i]? = some w) : w ∈ lw_tbl := List.mem_append_left _ (List.mem_of_getElem? h)
theorem tm1 {i : Nat} {w : Cond} (h : tables_1_1[i]? = some w) : w ∈ lw_tbl := List.mem_append_right _ (List.mem_append_left _ (List.mem_of_getElem? h))
theorem tm2 {i : Nat} {w : Cond} (h : tables_1_2[i]? = some w) : w ∈ lw_tbl := List.mem_append_right _ (List.mem_append_right _ (List.mem_append_left _ (List.mem_of_getElem? h)))
theorem tm3 {i : Nat} {w : Cond} (h : tables_1_3[i]? = some w) : w ∈ lw_tbl := List.mem_append_right _ (List.mem_append_right _ (List.mem_append_right _ (List.mem_append_left _ (List.mem_of_getElem? h))))
theorem tm4 {i : Nat} {w : Cond} (h : tables_1_4[i]? = some w) : w ∈ lw_tbl := List.mem_append_right _ (List.mem_append_right _ (List.mem_append_right _ (List.mem_append_right _ (List.mem_of_getElem? h))))
theorem uwk {C : String} {T : u_T} {N : Nat} (h : ∀ k, k < N → u_lay C T k ∈ ALLW) : ∀ w ∈ u_ws C T N, w ∈ ALLW := fun w hw => by obtain ⟨k, hk, rfl⟩ := List.mem_map.mp hw; exact h k (List.mem_range.mp hk)
theorem gAw {w : Cond} (h : w ∈ ALLW) : w ∈ ALLW ∧ ((w.onTables && w.keeps) = true ∨ ∃ ty, w = .arrayClass ty) := ⟨h, good_of_word (List.mem_filter.mp h).2⟩
theorem gNw {y : MethodName} {c : ByteArray} {n : Nat} {r : Option FieldType} (h5 : Cond.code y c n r ∈ ALLW) : GoodIn ALLW (Cond.code y c n r :: ALLW) := fun w h => (List.mem_cons.mp h).elim (fun e => by rw [e]; exact gAw h5) gAw
theorem gVw {own C : String} {idx : Nat} {y : MethodName} {c : ByteArray} {n : Nat} {r : Option FieldType} (h1 : Cond.methodLink own idx y ∈ ALLW) (h2 : Cond.instanceMethod y ∈ ALLW) (h3 : Cond.selects C y y ∈ ALLW) (h4 : Cond.initialized C ∈ ALLW) (h5 : Cond.code y c n r ∈ ALLW) : GoodIn ALLW (wsV own idx C y (Cond.code y c n r :: ALLW)) := fun w h => by
  rcases List.mem_append.mp h with h | h
  · rcases List.mem_cons.mp h with e | h
    · rw [e]; exact gAw h1
    · rcases List.mem_cons.mp h with e | h
      · rw [e]; exact gAw h2
      · rcases List.mem_cons.mp h with e | h
        · rw [e]; exact gAw h3
        · rw [List.mem_singleton.mp h]; exact gAw h4
  · exact gNw h5 w h
theorem gSw {own : String} {idx : Nat} {y : MethodName} {c : ByteArray} {n : Nat} {r : Option FieldType} (h1 : Cond.methodLink own idx y ∈ ALLW) (h2 : Cond.static y ∈ ALLW) (h4 : Cond.initialized y.cls ∈ ALLW) (h5 : Cond.code y c n r ∈ ALLW) : GoodIn ALLW (va_wsS own idx y (Cond.code y c n r :: ALLW)) := fun w h => by
  rcases List.mem_append.mp h with h | h
  · rcases List.mem_cons.mp h with e | h
    · rw [e]; exact gAw h1
    · rcases List.mem_cons.mp h with e | h
      · rw [e]; exact gAw h2
      · rw [List.mem_singleton.mp h]; exact gAw h4
  · exact gNw h5 w h
def wsX0_init : List Cond := .code yX0_init cX0_init 2 none :: ALLW
def wsX5_copy : List Cond := .code yX5_copy cX5_copy 4 none :: ALLW
def wsX5_clear : List Cond := .code yX5_clear cX5_clear 2 none :: ALLW
def wsX5_weight : List Cond := .code yX5_weight cX5_weight 3 (some .int) :: ALLW
def wsX4_quotient : List Cond := .code yX4_quotient cX4_quotient 3 (some .int) :: ALLW
def wsJ9_floorMod_7cf53 : List Cond := .code yJ9_floorMod_7cf53 cJ9_floorMod_7cf53 3 (some .int) :: ALLW
def wsX4_remainder : List Cond := .code yX4_remainder cX4_remainder 2 (some .int) :: ALLW
def wsX0_restWithout : List Cond := .code yX0_restWithout cX0_restWithout 4 (some .int) :: ALLW
def wsX0_weigh : List Cond := .code yX0_weigh cX0_weigh 5 none :: ALLW
def wsX0_choose : List Cond := .code yX0_choose cX0_choose 5 none :: ALLW
def wsX0_takeOff : List Cond := .code yX0_takeOff cX0_takeOff 2 none :: ALLW
def wsX0_walk : List Cond := .code yX0_walk cX0_walk 7 (some .int) :: ALLW
def wsX1_init : List Cond := .code yX1_init cX1_init 3 none :: ALLW
def wsJ6_bitCount_0f7a4 : List Cond := .code yJ6_bitCount_0f7a4 cJ6_bitCount_0f7a4 1 (some .int) :: ALLW
def wsX2_loadColumns : List Cond := .code yX2_loadColumns cX2_loadColumns 4 none :: ALLW
def wsX2_loadSums : List Cond := .code yX2_loadSums cX2_loadSums 5 none :: ALLW
def wsX2_firstPlace : List Cond := .code yX2_firstPlace cX2_firstPlace 4 (some .int) :: ALLW
def wsX2_isNought : List Cond := .code yX2_isNought cX2_isNought 3 (some .boolean) :: ALLW
def wsX2_factorAt : List Cond := .code yX2_factorAt cX2_factorAt 5 (some .int) :: ALLW
def wsX2_noteTelling : List Cond := .code yX2_noteTelling cX2_noteTelling 3 none :: ALLW
def wsX2_takeOutOf : List Cond := .code yX2_takeOutOf cX2_takeOutOf 11 none :: ALLW
def wsX2_takeOut : List Cond := .code yX2_takeOut cX2_takeOut 5 none :: ALLW
def wsX2_seekTelling : List Cond := .code yX2_seekTelling cX2_seekTelling 6 none :: ALLW
def wsX2_seekTellingWith : List Cond := .code yX2_seekTellingWith cX2_seekTellingWith 5 none :: ALLW
def wsX2_waysToTell : List Cond := .code yX2_waysToTell cX2_waysToTell 5 (some .int) :: ALLW
def wsX1_isLess : List Cond := .code yX1_isLess cX1_isLess 3 (some .boolean) :: ALLW
def wsX1_look : List Cond := .code yX1_look cX1_look 7 (some .boolean) :: ALLW
def wsX2_init : List Cond := .code yX2_init cX2_init 2 none :: ALLW
def wsX2_rank : List Cond := .code yX2_rank cX2_rank 3 (some .int) :: ALLW
def wsX2_seekBound : List Cond := .code yX2_seekBound cX2_seekBound 4 none :: ALLW
def wsX2_seekBoundTo : List Cond := .code yX2_seekBoundTo cX2_seekBoundTo 3 none :: ALLW
def wsX2_spark : List Cond := .code yX2_spark cX2_spark 1 (some .int) :: ALLW
def wsX3_shape : List Cond := .code yX3_shape cX3_shape 4 none :: ALLW
def wsX3_init : List Cond := .code yX3_init cX3_init 1 none :: ALLW
def wsX3_start : List Cond := .code yX3_start cX3_start 2 (some .int) :: ALLW
def wsJ9_floorMod_f86c9 : List Cond := .code yJ9_floorMod_f86c9 cJ9_floorMod_f86c9 6 (some .long) :: ALLW
def wsX3_squareSum : List Cond := .code yX3_squareSum cX3_squareSum 4 (some .long) :: ALLW
def wsX3_bucketOf : List Cond := .code yX3_bucketOf cX3_bucketOf 3 (some .int) :: ALLW
def wsX3_join : List Cond := .code yX3_join cX3_join 9 none :: ALLW
def wsX3_putNumber : List Cond := .code yX3_putNumber cX3_putNumber 3 none :: ALLW
def wsX3_isSingle : List Cond := .code yX3_isSingle cX3_isSingle 8 (some .boolean) :: ALLW
def wsX3_firstSingle : List Cond := .code yX3_firstSingle cX3_firstSingle 3 (some .int) :: ALLW
def wsX3_nothingLeft : List Cond := .code yX3_nothingLeft cX3_nothingLeft 2 (some .boolean) :: ALLW
def wsX3_tellPlace : List Cond := .code yX3_tellPlace cX3_tellPlace 5 none :: ALLW
def wsX3_tellAll : List Cond := .code yX3_tellAll cX3_tellAll 3 (some .boolean) :: ALLW
def wsX4_shape : List Cond := .code yX4_shape cX4_shape 5 none :: ALLW
def wsX4_init : List Cond := .code yX4_init cX4_init 1 none :: ALLW
def wsX4_has : List Cond := .code yX4_has cX4_has 3 (some .boolean) :: ALLW
def wsX4_fillWithPowers : List Cond := .code yX4_fillWithPowers cX4_fillWithPowers 5 none :: ALLW
def wsX4_sumsOf : List Cond := .code yX4_sumsOf cX4_sumsOf 6 none :: ALLW
def wsX4_placesWithFactorOf : List Cond := .code yX4_placesWithFactorOf cX4_placesWithFactorOf 7 (some .int) :: ALLW
def wsX4_likeness : List Cond := .code yX4_likeness cX4_likeness 6 (some .int) :: ALLW
def wsX4_mostLike : List Cond := .code yX4_mostLike cX4_mostLike 4 (some .int) :: ALLW
def wsX5_init : List Cond := .code yX5_init cX5_init 1 none :: ALLW
def wsX5_isPrime : List Cond := .code yX5_isPrime cX5_isPrime 2 (some .boolean) :: ALLW
def wsX5_begin : List Cond := .code yX5_begin cX5_begin 5 (some .int) :: ALLW
def wsX5_set : List Cond := .code yX5_set cX5_set 5 (some .int) :: ALLW
def wsX5_powers : List Cond := .code yX5_powers cX5_powers 2 (some .int) :: ALLW
def wsX5_at : List Cond := .code yX5_at cX5_at 3 (some .int) :: ALLW
def wsX5_judge : List Cond := .code yX5_judge cX5_judge 2 (some .int) :: ALLW
def wsX5_isKept : List Cond := .code yX5_isKept cX5_isKept 1 (some .boolean) :: ALLW
def wsX5_put : List Cond := .code yX5_put cX5_put 4 (some .int) :: ALLW
def wsX5_row : List Cond := .code yX5_row cX5_row 3 (some .int) :: ALLW
def wsX5_sum : List Cond := .code yX5_sum cX5_sum 4 (some .int) :: ALLW
def wsX5_told : List Cond := .code yX5_told cX5_told 3 (some .int) :: ALLW
def wsX5_tell : List Cond := .code yX5_tell cX5_tell 3 (some .int) :: ALLW
def wsX5_find : List Cond := .code yX5_find cX5_find 6 (some .int) :: ALLW
def wsX5_miss : List Cond := .code yX5_miss cX5_miss 7 (some .int) :: ALLW
def wsX5_greedy : List Cond := .code yX5_greedy cX5_greedy 6 (some .int) :: ALLW
def wsX5_sketch : List Cond := .code yX5_sketch cX5_sketch 3 (some .int) :: ALLW
def wsX5_add : List Cond := .code yX5_add cX5_add 3 (some .int) :: ALLW
def wsX5_decode : List Cond := .code yX5_decode cX5_decode 2 (some .int) :: ALLW
def wsX5_decoded : List Cond := .code yX5_decoded cX5_decoded 3 (some .int) :: ALLW
def wsX5_bucket : List Cond := .code yX5_bucket cX5_bucket 4 (some .long) :: ALLW
def wsX5_count : List Cond := .code yX5_count cX5_count 2 (some .int) :: ALLW
def wsX6_init : List Cond := .code yX6_init cX6_init 1 none :: ALLW
def wsX6_in : List Cond := .code yX6_in cX6_in 6 (some .boolean) :: ALLW
def wsX6_isPrime : List Cond := .code yX6_isPrime cX6_isPrime 3 (some .boolean) :: ALLW
def wsX6_by : List Cond := .code yX6_by cX6_by 3 (some .int) :: ALLW
def wsX6_begin : List Cond := .code yX6_begin cX6_begin 5 (some .int) :: ALLW
def wsX6_isPlace : List Cond := .code yX6_isPlace cX6_isPlace 3 (some .boolean) :: ALLW
def wsX6_set : List Cond := .code yX6_set cX6_set 5 (some .int) :: ALLW
def wsX6_powers : List Cond := .code yX6_powers cX6_powers 5 (some .int) :: ALLW
def wsX6_at : List Cond := .code yX6_at cX6_at 3 (some .int) :: ALLW
def wsX6_turned : List Cond := .code yX6_turned cX6_turned 3 (some .int) :: ALLW
def wsX6_bits : List Cond := .code yX6_bits cX6_bits 3 (some .int) :: ALLW
def wsX6_swaps : List Cond := .code yX6_swaps cX6_swaps 5 none :: ALLW
def wsX6_takes : List Cond := .code yX6_takes cX6_takes 7 none :: ALLW
def wsX6_clears : List Cond := .code yX6_clears cX6_clears 11 (some .int) :: ALLW
def wsX6_rankOf : List Cond := .code yX6_rankOf cX6_rankOf 2 (some .int) :: ALLW
def wsX6_spark : List Cond := .code yX6_spark cX6_spark 3 (some .int) :: ALLW
def wsX6_alike : List Cond := .code yX6_alike cX6_alike 7 (some .int) :: ALLW
def wsX6_judge : List Cond := .code yX6_judge cX6_judge 2 (some .int) :: ALLW
def wsX6_isSix : List Cond := .code yX6_isSix cX6_isSix 1 (some .boolean) :: ALLW
def wsX6_weight : List Cond := .code yX6_weight cX6_weight 6 (some .int) :: ALLW
def wsX6_put : List Cond := .code yX6_put cX6_put 4 (some .int) :: ALLW
def wsX6_row : List Cond := .code yX6_row cX6_row 3 (some .int) :: ALLW
def wsX6_sum : List Cond := .code yX6_sum cX6_sum 4 (some .int) :: ALLW
def wsX6_told : List Cond := .code yX6_told cX6_told 3 (some .int) :: ALLW
def wsX6_tell : List Cond := .code yX6_tell cX6_tell 6 (some .int) :: ALLW
def wsX6_solves : List Cond := .code yX6_solves cX6_solves 8 (some .boolean) :: ALLW
def wsX6_keeps : List Cond := .code yX6_keeps cX6_keeps 3 none :: ALLW
def wsX6_isBest : List Cond := .code yX6_isBest cX6_isBest 2 none :: ALLW
def wsX6_find : List Cond := .code yX6_find cX6_find 7 (some .int) :: ALLW
def wsX6_differs : List Cond := .code yX6_differs cX6_differs 6 (some .int) :: ALLW
def wsX6_isLess : List Cond := .code yX6_isLess cX6_isLess 2 (some .boolean) :: ALLW
def wsX6_miss : List Cond := .code yX6_miss cX6_miss 11 (some .int) :: ALLW
def wsX6_without : List Cond := .code yX6_without cX6_without 5 (some .int) :: ALLW
def wsX6_greedy : List Cond := .code yX6_greedy cX6_greedy 13 (some .int) :: ALLW
def wsX6_sketch : List Cond := .code yX6_sketch cX6_sketch 4 (some .int) :: ALLW
def wsX6_bucketOf : List Cond := .code yX6_bucketOf cX6_bucketOf 3 (some .int) :: ALLW
def wsX6_third : List Cond := .code yX6_third cX6_third 4 (some .long) :: ALLW
def wsX6_adds : List Cond := .code yX6_adds cX6_adds 7 none :: ALLW
def wsX6_add : List Cond := .code yX6_add cX6_add 3 (some .int) :: ALLW
def wsX6_single : List Cond := .code yX6_single cX6_single 8 (some .int) :: ALLW
def wsX6_decode : List Cond := .code yX6_decode cX6_decode 8 (some .int) :: ALLW
def wsX6_decoded : List Cond := .code yX6_decoded cX6_decoded 3 (some .int) :: ALLW
def wsX6_bucket : List Cond := .code yX6_bucket cX6_bucket 4 (some .long) :: ALLW
def wsX6_count : List Cond := .code yX6_count cX6_count 2 (some .int) :: ALLW
def wsJ9_max_7cf53 : List Cond := .code yJ9_max_7cf53 cJ9_max_7cf53 2 (some .int) :: ALLW
def wsJ9_min_7cf53 : List Cond := .code yJ9_min_7cf53 cJ9_min_7cf53 2 (some .int) :: ALLW
theorem kw_0 : (Cond.methodLink RX5 176 Lib.Math.min.name) ∈ ALLW := alw (tm2 (i := 133) rfl) rfl
theorem kw_1 : (Cond.static Lib.Math.min.name) ∈ ALLW := alw (tm2 (i := 41) rfl) rfl
theorem kw_2 : (Cond.initialized "java/lang/Math") ∈ ALLW := alw (tm1 (i := 8) rfl) rfl
theorem kw_3 : (Cond.code Lib.Math.min.name Lib.Math.min.code 2 (some .int)) ∈ ALLW := alw (tm2 (i := 42) rfl) rfl
theorem kw_4 : (Cond.constant RJ6 265 (1431655765)) ∈ ALLW := alw (tm2 (i := 145) rfl) rfl
theorem kw_5 : (Cond.constant RJ6 266 (858993459)) ∈ ALLW := alw (tm2 (i := 146) rfl) rfl
theorem kw_6 : (Cond.constant RJ6 267 (252645135)) ∈ ALLW := alw (tm2 (i := 147) rfl) rfl
theorem kw_7 : (Cond.constantLong RX3 79 (1000003)) ∈ ALLW := alw (tm2 (i := 204) rfl) rfl
theorem kw_8 : (Cond.code yJ9_floorMod_f86c9 cJ9_floorMod_f86c9 6 (some .long)) ∈ ALLW := alw (tm2 (i := 207) rfl) rfl
theorem kw_9 : (Cond.methodLink RX3 81 yJ9_floorMod_f86c9) ∈ ALLW := alw (tm2 (i := 205) rfl) rfl
theorem kw_10 : (Cond.static yJ9_floorMod_f86c9) ∈ ALLW := alw (tm2 (i := 206) rfl) rfl
theorem kw_11 : (Cond.initialized RJ9) ∈ ALLW := alw (tm1 (i := 8) rfl) rfl
theorem kw_12 : (Cond.constantLong RX6 57 (2)) ∈ ALLW := alw (tm3 (i := 84) rfl) rfl
theorem kw_13 : (Cond.constantLong RX6 59 (97)) ∈ ALLW := alw (tm3 (i := 85) rfl) rfl
theorem kw_14 : (Cond.code yX6_in cX6_in 6 (some .boolean)) ∈ ALLW := alw (tm3 (i := 88) rfl) rfl
theorem kw_15 : (Cond.methodLink RX6 61 yX6_in) ∈ ALLW := alw (tm3 (i := 86) rfl) rfl
theorem kw_16 : (Cond.static yX6_in) ∈ ALLW := alw (tm3 (i := 87) rfl) rfl
theorem kw_17 : (Cond.initialized RX6) ∈ ALLW := alw (tm1 (i := 7) rfl) rfl
theorem kw_18 : (Cond.constantLong RX6 109 (5)) ∈ ALLW := alw (tm3 (i := 153) rfl) rfl
theorem kw_19 : (Cond.constantLong RX6 156 (1000003)) ∈ ALLW := alw (tm3 (i := 238) rfl) rfl
theorem kw_X4 : ∀ w ∈ u_ws RX4 TX4 5, w ∈ ALLW := uwk (fun k hk => match k, hk with | 0, _ => alw (tm1 (i := 51) rfl) rfl | 1, _ => alw (tm1 (i := 53) rfl) rfl | 2, _ => alw (tm1 (i := 55) rfl) rfl | 3, _ => alw (tm1 (i := 57) rfl) rfl | 4, _ => alw (tm1 (i := 59) rfl) rfl | n + 5, hk => absurd hk (by omega))
theorem kw_21 : (Cond.fieldLink RX4 16 "FewThatMatter$Table" "inverses" "[I") ∈ ALLW := alw (tm1 (i := 50) rfl) rfl
theorem kw_22 : (Cond.fieldLink RX4 24 "FewThatMatter$Table" "prime" "I") ∈ ALLW := alw (tm1 (i := 34) rfl) rfl
theorem kw_23 : (Cond.code yJ9_floorMod_7cf53 cJ9_floorMod_7cf53 3 (some .int)) ∈ ALLW := alw (tm1 (i := 235) rfl) rfl
theorem kw_24 : (Cond.methodLink RX4 38 yJ9_floorMod_7cf53) ∈ ALLW := alw (tm1 (i := 233) rfl) rfl
theorem kw_25 : (Cond.static yJ9_floorMod_7cf53) ∈ ALLW := alw (tm1 (i := 234) rfl) rfl
theorem kw_26 : (Cond.fieldLink RX4 28 "FewThatMatter$Table" "height" "I") ∈ ALLW := alw (tm1 (i := 37) rfl) rfl
theorem kw_27 : (Cond.fieldLink RX4 31 "FewThatMatter$Table" "width" "I") ∈ ALLW := alw (tm1 (i := 43) rfl) rfl
theorem kw_28 : (Cond.fieldLink RX4 11 "FewThatMatter$Table" "cells" "[[I") ∈ ALLW := alw (tm1 (i := 46) rfl) rfl
theorem kw_29 : (Cond.code yX5_clear cX5_clear 2 none) ∈ ALLW := alw (tm1 (i := 33) rfl) rfl
theorem kw_30 : (Cond.initialized RX5) ∈ ALLW := alw (tm1 (i := 1) rfl) rfl
theorem kw_31 : (Cond.static yX5_clear) ∈ ALLW := alw (tm1 (i := 32) rfl) rfl
theorem kw_32 : (Cond.code yX4_quotient cX4_quotient 3 (some .int)) ∈ ALLW := alw (tm2 (i := 66) rfl) rfl
theorem kw_33 : (Cond.methodLink RX4 54 yX4_quotient) ∈ ALLW := alw (tm2 (i := 63) rfl) rfl
theorem kw_34 : (Cond.instanceMethod yX4_quotient) ∈ ALLW := alw (tm2 (i := 64) rfl) rfl
theorem kw_35 : (Cond.selects RX4 yX4_quotient yX4_quotient) ∈ ALLW := alw (tm2 (i := 65) rfl) rfl
theorem kw_36 : (Cond.initialized RX4) ∈ ALLW := alw (tm1 (i := 2) rfl) rfl
theorem kw_37 : (Cond.code yX4_placesWithFactorOf cX4_placesWithFactorOf 7 (some .int)) ∈ ALLW := alw (tm2 (i := 62) rfl) rfl
theorem kw_38 : (Cond.methodLink RX4 50 yX4_placesWithFactorOf) ∈ ALLW := alw (tm2 (i := 59) rfl) rfl
theorem kw_39 : (Cond.instanceMethod yX4_placesWithFactorOf) ∈ ALLW := alw (tm2 (i := 61) rfl) rfl
theorem kw_40 : (Cond.selects RX4 yX4_placesWithFactorOf yX4_placesWithFactorOf) ∈ ALLW := alw (tmP (i := 8) rfl) rfl
theorem kw_41 : (Cond.methodLink RX4 47 Lib.Math.max.name) ∈ ALLW := alw (tm2 (i := 67) rfl) rfl
theorem kw_42 : (Cond.static Lib.Math.max.name) ∈ ALLW := alw (tm2 (i := 68) rfl) rfl
theorem kw_43 : (Cond.code Lib.Math.max.name Lib.Math.max.code 2 (some .int)) ∈ ALLW := alw (tm2 (i := 69) rfl) rfl
theorem kw_44 : (Cond.code yX4_likeness cX4_likeness 6 (some .int)) ∈ ALLW := alw (tm2 (i := 58) rfl) rfl
theorem kw_45 : (Cond.methodLink RX4 44 yX4_likeness) ∈ ALLW := alw (tm2 (i := 55) rfl) rfl
theorem kw_46 : (Cond.instanceMethod yX4_likeness) ∈ ALLW := alw (tm2 (i := 57) rfl) rfl
theorem kw_47 : (Cond.selects RX4 yX4_likeness yX4_likeness) ∈ ALLW := alw (tmP (i := 7) rfl) rfl
theorem kw_X2 : ∀ w ∈ u_ws RX2 TX2 11, w ∈ ALLW := uwk (fun k hk => match k, hk with | 0, _ => alw (tm1 (i := 84) rfl) rfl | 1, _ => alw (tm1 (i := 86) rfl) rfl | 2, _ => alw (tm1 (i := 88) rfl) rfl | 3, _ => alw (tm1 (i := 90) rfl) rfl | 4, _ => alw (tm1 (i := 92) rfl) rfl | 5, _ => alw (tm1 (i := 94) rfl) rfl | 6, _ => alw (tm1 (i := 96) rfl) rfl | 7, _ => alw (tm1 (i := 98) rfl) rfl | 8, _ => alw (tm1 (i := 100) rfl) rfl | 9, _ => alw (tm1 (i := 102) rfl) rfl | 10, _ => alw (tm1 (i := 104) rfl) rfl | n + 11, hk => absurd hk (by omega))
theorem kw_49 : (Cond.fieldLink RX2 109 "FewThatMatter$Sets" "height" "I") ∈ ALLW := alw (tm1 (i := 77) rfl) rfl
theorem kw_50 : (Cond.fieldLink RX2 26 "FewThatMatter$Sets" "table" "LFewThatMatter$Table;") ∈ ALLW := alw (tm1 (i := 70) rfl) rfl
theorem kw_51 : (Cond.fieldLink RX2 11 "FewThatMatter$Sets" "left" "[[I") ∈ ALLW := alw (tm1 (i := 71) rfl) rfl
theorem kw_52 : (Cond.code yX2_firstPlace cX2_firstPlace 4 (some .int)) ∈ ALLW := alw (tm2 (i := 27) rfl) rfl
theorem kw_53 : (Cond.methodLink RX2 113 yX2_firstPlace) ∈ ALLW := alw (tm2 (i := 24) rfl) rfl
theorem kw_54 : (Cond.instanceMethod yX2_firstPlace) ∈ ALLW := alw (tm2 (i := 26) rfl) rfl
theorem kw_55 : (Cond.selects RX2 yX2_firstPlace yX2_firstPlace) ∈ ALLW := alw (tmP (i := 2) rfl) rfl
theorem kw_56 : (Cond.initialized RX2) ∈ ALLW := alw (tm1 (i := 3) rfl) rfl
theorem kw_57 : (Cond.fieldLink RX2 20 "FewThatMatter$Sets" "pivots" "[I") ∈ ALLW := alw (tm1 (i := 73) rfl) rfl
theorem kw_58 : (Cond.fieldLink RX2 71 "FewThatMatter$Sets" "size" "I") ∈ ALLW := alw (tm1 (i := 78) rfl) rfl
theorem kw_59 : (Cond.fieldLink RX2 23 "FewThatMatter$Sets" "answer" "[I") ∈ ALLW := alw (tm1 (i := 74) rfl) rfl
theorem kw_60 : (Cond.fieldLink RX2 16 "FewThatMatter$Sets" "taken" "[I") ∈ ALLW := alw (tm1 (i := 72) rfl) rfl
theorem kw_61 : (Cond.methodLink RX2 106 yX4_quotient) ∈ ALLW := alw (tm2 (i := 125) rfl) rfl
theorem kw_62 : (Cond.fieldLink RX2 77 "FewThatMatter$Sets" "ways" "I") ∈ ALLW := alw (tm1 (i := 80) rfl) rfl
theorem kw_63 : (Cond.fieldLink RX2 92 "FewThatMatter$Sets" "firstSet" "I") ∈ ALLW := alw (tm1 (i := 82) rfl) rfl
theorem kw_64 : (Cond.code yX2_factorAt cX2_factorAt 5 (some .int)) ∈ ALLW := alw (tm2 (i := 124) rfl) rfl
theorem kw_65 : (Cond.methodLink RX2 99 yX2_factorAt) ∈ ALLW := alw (tm2 (i := 121) rfl) rfl
theorem kw_66 : (Cond.instanceMethod yX2_factorAt) ∈ ALLW := alw (tm2 (i := 123) rfl) rfl
theorem kw_67 : (Cond.selects RX2 yX2_factorAt yX2_factorAt) ∈ ALLW := alw (tmP (i := 12) rfl) rfl
theorem kw_68 : (Cond.code yX2_takeOutOf cX2_takeOutOf 11 none) ∈ ALLW := alw (tm2 (i := 35) rfl) rfl
theorem kw_69 : (Cond.methodLink RX2 89 yX2_takeOutOf) ∈ ALLW := alw (tm2 (i := 32) rfl) rfl
theorem kw_70 : (Cond.instanceMethod yX2_takeOutOf) ∈ ALLW := alw (tm2 (i := 34) rfl) rfl
theorem kw_71 : (Cond.selects RX2 yX2_takeOutOf yX2_takeOutOf) ∈ ALLW := alw (tmP (i := 4) rfl) rfl
theorem kw_72 : (Cond.code yX2_takeOut cX2_takeOut 5 none) ∈ ALLW := alw (tm2 (i := 31) rfl) rfl
theorem kw_73 : (Cond.methodLink RX2 44 yX2_takeOut) ∈ ALLW := alw (tm2 (i := 28) rfl) rfl
theorem kw_74 : (Cond.instanceMethod yX2_takeOut) ∈ ALLW := alw (tm2 (i := 30) rfl) rfl
theorem kw_75 : (Cond.selects RX2 yX2_takeOut yX2_takeOut) ∈ ALLW := alw (tmP (i := 3) rfl) rfl
theorem kw_76 : (Cond.code yX2_seekTelling cX2_seekTelling 6 none) ∈ ALLW := alw (tm2 (i := 115) rfl) rfl
theorem kw_77 : (Cond.methodLink RX2 80 yX2_seekTelling) ∈ ALLW := alw (tm2 (i := 112) rfl) rfl
theorem kw_78 : (Cond.instanceMethod yX2_seekTelling) ∈ ALLW := alw (tm2 (i := 114) rfl) rfl
theorem kw_79 : (Cond.selects RX2 yX2_seekTelling yX2_seekTelling) ∈ ALLW := alw (tmP (i := 10) rfl) rfl
theorem kw_80 : (Cond.fieldLink RX2 74 "FewThatMatter$Sets" "enough" "I") ∈ ALLW := alw (tm1 (i := 79) rfl) rfl
theorem kw_81 : (Cond.code yX2_isNought cX2_isNought 3 (some .boolean)) ∈ ALLW := alw (tm2 (i := 23) rfl) rfl
theorem kw_82 : (Cond.methodLink RX2 40 yX2_isNought) ∈ ALLW := alw (tm2 (i := 20) rfl) rfl
theorem kw_83 : (Cond.instanceMethod yX2_isNought) ∈ ALLW := alw (tm2 (i := 22) rfl) rfl
theorem kw_84 : (Cond.selects RX2 yX2_isNought yX2_isNought) ∈ ALLW := alw (tmP (i := 1) rfl) rfl
theorem kw_85 : (Cond.code yX2_seekTellingWith cX2_seekTellingWith 5 none) ∈ ALLW := alw (tm2 (i := 129) rfl) rfl
theorem kw_86 : (Cond.methodLink RX2 86 yX2_seekTellingWith) ∈ ALLW := alw (tm2 (i := 126) rfl) rfl
theorem kw_87 : (Cond.instanceMethod yX2_seekTellingWith) ∈ ALLW := alw (tm2 (i := 128) rfl) rfl
theorem kw_88 : (Cond.selects RX2 yX2_seekTellingWith yX2_seekTellingWith) ∈ ALLW := alw (tmP (i := 13) rfl) rfl
theorem kw_89 : (Cond.code yX2_noteTelling cX2_noteTelling 3 none) ∈ ALLW := alw (tm2 (i := 119) rfl) rfl
theorem kw_90 : (Cond.methodLink RX2 83 yX2_noteTelling) ∈ ALLW := alw (tm2 (i := 116) rfl) rfl
theorem kw_91 : (Cond.instanceMethod yX2_noteTelling) ∈ ALLW := alw (tm2 (i := 118) rfl) rfl
theorem kw_92 : (Cond.selects RX2 yX2_noteTelling yX2_noteTelling) ∈ ALLW := alw (tmP (i := 11) rfl) rfl
theorem kw_93 : (Cond.code yX2_loadColumns cX2_loadColumns 4 none) ∈ ALLW := alw (tm2 (i := 19) rfl) rfl
theorem kw_94 : (Cond.methodLink RX2 30 yX2_loadColumns) ∈ ALLW := alw (tm2 (i := 16) rfl) rfl
theorem kw_95 : (Cond.instanceMethod yX2_loadColumns) ∈ ALLW := alw (tm2 (i := 18) rfl) rfl
theorem kw_96 : (Cond.selects RX2 yX2_loadColumns yX2_loadColumns) ∈ ALLW := alw (tmP (i := 0) rfl) rfl
theorem kw_97 : (Cond.code yX2_loadSums cX2_loadSums 5 none) ∈ ALLW := alw (tm2 (i := 111) rfl) rfl
theorem kw_98 : (Cond.methodLink RX2 67 yX2_loadSums) ∈ ALLW := alw (tm2 (i := 108) rfl) rfl
theorem kw_99 : (Cond.instanceMethod yX2_loadSums) ∈ ALLW := alw (tm2 (i := 110) rfl) rfl
theorem kw_100 : (Cond.selects RX2 yX2_loadSums yX2_loadSums) ∈ ALLW := alw (tmP (i := 9) rfl) rfl
theorem kw_101 : (Cond.code yX2_seekBound cX2_seekBound 4 none) ∈ ALLW := alw (tm2 (i := 46) rfl) rfl
theorem kw_102 : (Cond.methodLink RX2 60 yX2_seekBound) ∈ ALLW := alw (tm2 (i := 43) rfl) rfl
theorem kw_103 : (Cond.instanceMethod yX2_seekBound) ∈ ALLW := alw (tm2 (i := 45) rfl) rfl
theorem kw_104 : (Cond.selects RX2 yX2_seekBound yX2_seekBound) ∈ ALLW := alw (tmP (i := 5) rfl) rfl
theorem kw_105 : (Cond.fieldLink RX2 57 "FewThatMatter$Sets" "leastBound" "I") ∈ ALLW := alw (tm1 (i := 83) rfl) rfl
theorem kw_106 : (Cond.code yX2_seekBoundTo cX2_seekBoundTo 3 none) ∈ ALLW := alw (tm2 (i := 50) rfl) rfl
theorem kw_107 : (Cond.methodLink RX2 64 yX2_seekBoundTo) ∈ ALLW := alw (tm2 (i := 47) rfl) rfl
theorem kw_108 : (Cond.instanceMethod yX2_seekBoundTo) ∈ ALLW := alw (tm2 (i := 49) rfl) rfl
theorem kw_109 : (Cond.selects RX2 yX2_seekBoundTo yX2_seekBoundTo) ∈ ALLW := alw (tmP (i := 6) rfl) rfl
theorem kw_110 : (Cond.methodLink RX2 51 Lib.Math.min.name) ∈ ALLW := alw (tm2 (i := 40) rfl) rfl
theorem kw_X1 : ∀ w ∈ u_ws RX1 TX1 3, w ∈ ALLW := uwk (fun k hk => match k, hk with | 0, _ => alw (tm1 (i := 117) rfl) rfl | 1, _ => alw (tm1 (i := 119) rfl) rfl | 2, _ => alw (tm1 (i := 121) rfl) rfl | n + 3, hk => absurd hk (by omega))
theorem kw_112 : (Cond.fieldLink RX1 15 "FewThatMatter$Misses" "table" "LFewThatMatter$Table;") ∈ ALLW := alw (tm1 (i := 113) rfl) rfl
theorem kw_113 : (Cond.code yJ6_bitCount_0f7a4 cJ6_bitCount_0f7a4 1 (some .int)) ∈ ALLW := alw (tm2 (i := 144) rfl) rfl
theorem kw_114 : (Cond.methodLink RX1 29 yJ6_bitCount_0f7a4) ∈ ALLW := alw (tm2 (i := 142) rfl) rfl
theorem kw_115 : (Cond.static yJ6_bitCount_0f7a4) ∈ ALLW := alw (tm2 (i := 143) rfl) rfl
theorem kw_116 : (Cond.initialized RJ6) ∈ ALLW := alw (tm1 (i := 9) rfl) rfl
theorem kw_117 : (Cond.fieldLink RX1 19 "FewThatMatter$Misses" "sets" "LFewThatMatter$Sets;") ∈ ALLW := alw (tm1 (i := 114) rfl) rfl
theorem kw_118 : (Cond.code yX2_waysToTell cX2_waysToTell 5 (some .int)) ∈ ALLW := alw (tm2 (i := 107) rfl) rfl
theorem kw_119 : (Cond.methodLink RX1 35 yX2_waysToTell) ∈ ALLW := alw (tm2 (i := 148) rfl) rfl
theorem kw_120 : (Cond.instanceMethod yX2_waysToTell) ∈ ALLW := alw (tm2 (i := 105) rfl) rfl
theorem kw_121 : (Cond.selects RX2 yX2_waysToTell yX2_waysToTell) ∈ ALLW := alw (tm2 (i := 106) rfl) rfl
theorem kw_122 : (Cond.fieldLink RX1 9 "FewThatMatter$Misses" "answer" "[I") ∈ ALLW := alw (tm1 (i := 115) rfl) rfl
theorem kw_123 : (Cond.code yX5_copy cX5_copy 4 none) ∈ ALLW := alw (tm2 (i := 132) rfl) rfl
theorem kw_124 : (Cond.static yX5_copy) ∈ ALLW := alw (tm2 (i := 131) rfl) rfl
theorem kw_125 : (Cond.code yX1_isLess cX1_isLess 3 (some .boolean)) ∈ ALLW := alw (tm2 (i := 151) rfl) rfl
theorem kw_126 : (Cond.methodLink RX1 45 yX1_isLess) ∈ ALLW := alw (tm2 (i := 149) rfl) rfl
theorem kw_127 : (Cond.static yX1_isLess) ∈ ALLW := alw (tm2 (i := 150) rfl) rfl
theorem kw_128 : (Cond.initialized RX1) ∈ ALLW := alw (tm1 (i := 4) rfl) rfl
theorem kw_X0 : ∀ w ∈ u_ws RX0 TX0 5, w ∈ ALLW := uwk (fun k hk => match k, hk with | 0, _ => alw (tm1 (i := 135) rfl) rfl | 1, _ => alw (tm1 (i := 137) rfl) rfl | 2, _ => alw (tm1 (i := 139) rfl) rfl | 3, _ => alw (tm1 (i := 141) rfl) rfl | 4, _ => alw (tm1 (i := 143) rfl) rfl | n + 5, hk => absurd hk (by omega))
theorem kw_130 : (Cond.fieldLink RX0 15 "FewThatMatter$Greedy" "table" "LFewThatMatter$Table;") ∈ ALLW := alw (tm1 (i := 130) rfl) rfl
theorem kw_131 : (Cond.fieldLink RX0 9 "FewThatMatter$Greedy" "rest" "[I") ∈ ALLW := alw (tm1 (i := 131) rfl) rfl
theorem kw_132 : (Cond.code yX4_remainder cX4_remainder 2 (some .int)) ∈ ALLW := alw (tm1 (i := 232) rfl) rfl
theorem kw_133 : (Cond.methodLink RX0 71 yX4_remainder) ∈ ALLW := alw (tm2 (i := 177) rfl) rfl
theorem kw_134 : (Cond.instanceMethod yX4_remainder) ∈ ALLW := alw (tm1 (i := 230) rfl) rfl
theorem kw_135 : (Cond.selects RX4 yX4_remainder yX4_remainder) ∈ ALLW := alw (tm1 (i := 231) rfl) rfl
theorem kw_136 : (Cond.code yX0_restWithout cX0_restWithout 4 (some .int)) ∈ ALLW := alw (tm2 (i := 176) rfl) rfl
theorem kw_137 : (Cond.methodLink RX0 67 yX0_restWithout) ∈ ALLW := alw (tm2 (i := 173) rfl) rfl
theorem kw_138 : (Cond.instanceMethod yX0_restWithout) ∈ ALLW := alw (tm2 (i := 175) rfl) rfl
theorem kw_139 : (Cond.selects RX0 yX0_restWithout yX0_restWithout) ∈ ALLW := alw (tmP (i := 16) rfl) rfl
theorem kw_140 : (Cond.initialized RX0) ∈ ALLW := alw (tm1 (i := 5) rfl) rfl
theorem kw_141 : (Cond.fieldLink RX0 35 "FewThatMatter$Greedy" "bestColumn" "I") ∈ ALLW := alw (tm1 (i := 132) rfl) rfl
theorem kw_142 : (Cond.fieldLink RX0 45 "FewThatMatter$Greedy" "bestWeight" "I") ∈ ALLW := alw (tm1 (i := 134) rfl) rfl
theorem kw_143 : (Cond.fieldLink RX0 39 "FewThatMatter$Greedy" "bestFactor" "I") ∈ ALLW := alw (tm1 (i := 133) rfl) rfl
theorem kw_144 : (Cond.methodLink RX0 60 yX4_quotient) ∈ ALLW := alw (tm2 (i := 168) rfl) rfl
theorem kw_145 : (Cond.code yX0_weigh cX0_weigh 5 none) ∈ ALLW := alw (tm2 (i := 172) rfl) rfl
theorem kw_146 : (Cond.methodLink RX0 64 yX0_weigh) ∈ ALLW := alw (tm2 (i := 169) rfl) rfl
theorem kw_147 : (Cond.instanceMethod yX0_weigh) ∈ ALLW := alw (tm2 (i := 171) rfl) rfl
theorem kw_148 : (Cond.selects RX0 yX0_weigh yX0_weigh) ∈ ALLW := alw (tmP (i := 15) rfl) rfl
theorem kw_149 : (Cond.code yX5_weight cX5_weight 3 (some .int)) ∈ ALLW := alw (tm2 (i := 79) rfl) rfl
theorem kw_150 : (Cond.static yX5_weight) ∈ ALLW := alw (tm2 (i := 78) rfl) rfl
theorem kw_151 : (Cond.code yX0_choose cX0_choose 5 none) ∈ ALLW := alw (tm2 (i := 167) rfl) rfl
theorem kw_152 : (Cond.methodLink RX0 31 yX0_choose) ∈ ALLW := alw (tm2 (i := 164) rfl) rfl
theorem kw_153 : (Cond.instanceMethod yX0_choose) ∈ ALLW := alw (tm2 (i := 166) rfl) rfl
theorem kw_154 : (Cond.selects RX0 yX0_choose yX0_choose) ∈ ALLW := alw (tmP (i := 14) rfl) rfl
theorem kw_155 : (Cond.code yX0_takeOff cX0_takeOff 2 none) ∈ ALLW := alw (tm2 (i := 181) rfl) rfl
theorem kw_156 : (Cond.methodLink RX0 42 yX0_takeOff) ∈ ALLW := alw (tm2 (i := 178) rfl) rfl
theorem kw_157 : (Cond.instanceMethod yX0_takeOff) ∈ ALLW := alw (tm2 (i := 180) rfl) rfl
theorem kw_158 : (Cond.selects RX0 yX0_takeOff yX0_takeOff) ∈ ALLW := alw (tmP (i := 17) rfl) rfl
theorem kw_X3 : ∀ w ∈ u_ws RX3 TX3 8, w ∈ ALLW := uwk (fun k hk => match k, hk with | 0, _ => alw (tm1 (i := 171) rfl) rfl | 1, _ => alw (tm1 (i := 173) rfl) rfl | 2, _ => alw (tm1 (i := 175) rfl) rfl | 3, _ => alw (tm1 (i := 177) rfl) rfl | 4, _ => alw (tm1 (i := 179) rfl) rfl | 5, _ => alw (tm1 (i := 181) rfl) rfl | 6, _ => alw (tm1 (i := 183) rfl) rfl | 7, _ => alw (tm1 (i := 185) rfl) rfl | n + 8, hk => absurd hk (by omega))
theorem kw_160 : (Cond.fieldLink RX3 27 "FewThatMatter$Sketch" "lines" "I") ∈ ALLW := alw (tm1 (i := 156) rfl) rfl
theorem kw_161 : (Cond.fieldLink RX3 31 "FewThatMatter$Sketch" "buckets" "I") ∈ ALLW := alw (tm1 (i := 158) rfl) rfl
theorem kw_162 : (Cond.fieldLink RX3 34 "FewThatMatter$Sketch" "puts" "I") ∈ ALLW := alw (tm1 (i := 160) rfl) rfl
theorem kw_163 : (Cond.fieldLink RX3 37 "FewThatMatter$Sketch" "told" "I") ∈ ALLW := alw (tm1 (i := 162) rfl) rfl
theorem kw_164 : (Cond.fieldLink RX3 9 "FewThatMatter$Sketch" "kept" "[J") ∈ ALLW := alw (tm1 (i := 164) rfl) rfl
theorem kw_165 : (Cond.code yX3_squareSum cX3_squareSum 4 (some .long)) ∈ ALLW := alw (tm2 (i := 203) rfl) rfl
theorem kw_166 : (Cond.methodLink RX3 75 yX3_squareSum) ∈ ALLW := alw (tm2 (i := 201) rfl) rfl
theorem kw_167 : (Cond.static yX3_squareSum) ∈ ALLW := alw (tm2 (i := 202) rfl) rfl
theorem kw_168 : (Cond.initialized RX3) ∈ ALLW := alw (tm1 (i := 6) rfl) rfl
theorem kw_169 : (Cond.code yX3_bucketOf cX3_bucketOf 3 (some .int)) ∈ ALLW := alw (tm2 (i := 211) rfl) rfl
theorem kw_170 : (Cond.methodLink RX3 72 yX3_bucketOf) ∈ ALLW := alw (tm2 (i := 208) rfl) rfl
theorem kw_171 : (Cond.instanceMethod yX3_bucketOf) ∈ ALLW := alw (tm2 (i := 210) rfl) rfl
theorem kw_172 : (Cond.selects RX3 yX3_bucketOf yX3_bucketOf) ∈ ALLW := alw (tmP (i := 19) rfl) rfl
theorem kw_173 : (Cond.code yX3_start cX3_start 2 (some .int)) ∈ ALLW := alw (tm2 (i := 214) rfl) rfl
theorem kw_174 : (Cond.methodLink RX3 66 yX3_start) ∈ ALLW := alw (tm2 (i := 212) rfl) rfl
theorem kw_175 : (Cond.static yX3_start) ∈ ALLW := alw (tm2 (i := 213) rfl) rfl
theorem kw_176 : (Cond.code yX3_join cX3_join 9 none) ∈ ALLW := alw (tm2 (i := 200) rfl) rfl
theorem kw_177 : (Cond.methodLink RX3 40 yX3_join) ∈ ALLW := alw (tm2 (i := 197) rfl) rfl
theorem kw_178 : (Cond.instanceMethod yX3_join) ∈ ALLW := alw (tm2 (i := 199) rfl) rfl
theorem kw_179 : (Cond.selects RX3 yX3_join yX3_join) ∈ ALLW := alw (tmP (i := 18) rfl) rfl
theorem kw_180 : (Cond.fieldLink RX3 13 "FewThatMatter$Sketch" "rest" "[J") ∈ ALLW := alw (tm1 (i := 166) rfl) rfl
theorem kw_181 : (Cond.constantLong RX3 70 (999999)) ∈ ALLW := alw (tm2 (i := 234) rfl) rfl
theorem kw_182 : (Cond.code yX3_isSingle cX3_isSingle 8 (some .boolean)) ∈ ALLW := alw (tm2 (i := 233) rfl) rfl
theorem kw_183 : (Cond.methodLink RX3 62 yX3_isSingle) ∈ ALLW := alw (tm2 (i := 230) rfl) rfl
theorem kw_184 : (Cond.instanceMethod yX3_isSingle) ∈ ALLW := alw (tm2 (i := 232) rfl) rfl
theorem kw_185 : (Cond.selects RX3 yX3_isSingle yX3_isSingle) ∈ ALLW := alw (tmP (i := 21) rfl) rfl
theorem kw_186 : (Cond.fieldLink RX3 16 "FewThatMatter$Sketch" "toldPlaces" "[I") ∈ ALLW := alw (tm1 (i := 167) rfl) rfl
theorem kw_187 : (Cond.fieldLink RX3 20 "FewThatMatter$Sketch" "toldNumbers" "[I") ∈ ALLW := alw (tm1 (i := 169) rfl) rfl
theorem kw_188 : (Cond.methodLink RX3 44 arraycopyName) ∈ ALLW := alw (tm2 (i := 223) rfl) rfl
theorem kw_189 : (Cond.native arraycopyName) ∈ ALLW := alw (tm2 (i := 225) rfl) rfl
theorem kw_190 : (Cond.static arraycopyName) ∈ ALLW := alw (tm2 (i := 224) rfl) rfl
theorem kw_191 : (Cond.initialized "java/lang/System") ∈ ALLW := alw (tm1 (i := 10) rfl) rfl
theorem kw_192 : (Cond.code yX3_firstSingle cX3_firstSingle 3 (some .int)) ∈ ALLW := alw (tm2 (i := 229) rfl) rfl
theorem kw_193 : (Cond.methodLink RX3 50 yX3_firstSingle) ∈ ALLW := alw (tm2 (i := 226) rfl) rfl
theorem kw_194 : (Cond.instanceMethod yX3_firstSingle) ∈ ALLW := alw (tm2 (i := 228) rfl) rfl
theorem kw_195 : (Cond.selects RX3 yX3_firstSingle yX3_firstSingle) ∈ ALLW := alw (tmP (i := 20) rfl) rfl
theorem kw_196 : (Cond.code yX3_tellPlace cX3_tellPlace 5 none) ∈ ALLW := alw (tm3 (i := 2) rfl) rfl
theorem kw_197 : (Cond.methodLink RX3 58 yX3_tellPlace) ∈ ALLW := alw (tm2 (i := 239) rfl) rfl
theorem kw_198 : (Cond.instanceMethod yX3_tellPlace) ∈ ALLW := alw (tm3 (i := 1) rfl) rfl
theorem kw_199 : (Cond.selects RX3 yX3_tellPlace yX3_tellPlace) ∈ ALLW := alw (tmP (i := 23) rfl) rfl
theorem kw_200 : (Cond.code yX3_nothingLeft cX3_nothingLeft 2 (some .boolean)) ∈ ALLW := alw (tm2 (i := 238) rfl) rfl
theorem kw_201 : (Cond.methodLink RX3 54 yX3_nothingLeft) ∈ ALLW := alw (tm2 (i := 235) rfl) rfl
theorem kw_202 : (Cond.instanceMethod yX3_nothingLeft) ∈ ALLW := alw (tm2 (i := 237) rfl) rfl
theorem kw_203 : (Cond.selects RX3 yX3_nothingLeft yX3_nothingLeft) ∈ ALLW := alw (tmP (i := 22) rfl) rfl
theorem kw_204 : (Cond.code yX5_isPrime cX5_isPrime 2 (some .boolean)) ∈ ALLW := alw (tm1 (i := 218) rfl) rfl
theorem kw_205 : (Cond.methodLink RX5 56 yX5_isPrime) ∈ ALLW := alw (tm1 (i := 216) rfl) rfl
theorem kw_206 : (Cond.static yX5_isPrime) ∈ ALLW := alw (tm1 (i := 217) rfl) rfl
theorem kw_X5 : ∀ w ∈ u_ws RX5 TX5 7, w ∈ ALLW := uwk (fun k hk => match k, hk with | 0, _ => alw (tm1 (i := 197) rfl) rfl | 1, _ => alw (tm1 (i := 199) rfl) rfl | 2, _ => alw (tm1 (i := 201) rfl) rfl | 3, _ => alw (tm1 (i := 203) rfl) rfl | 4, _ => alw (tm1 (i := 205) rfl) rfl | 5, _ => alw (tm1 (i := 207) rfl) rfl | 6, _ => alw (tm1 (i := 209) rfl) rfl | n + 7, hk => absurd hk (by omega))
theorem kw_208 : (Cond.fieldLink RX5 10 "FewThatMatter" "table" "LFewThatMatter$Table;") ∈ ALLW := alw (tm1 (i := 190) rfl) rfl
theorem kw_209 : (Cond.code yX4_shape cX4_shape 5 none) ∈ ALLW := alw (tm1 (i := 30) rfl) rfl
theorem kw_210 : (Cond.methodLink RX5 60 yX4_shape) ∈ ALLW := alw (tm1 (i := 219) rfl) rfl
theorem kw_211 : (Cond.instanceMethod yX4_shape) ∈ ALLW := alw (tm1 (i := 28) rfl) rfl
theorem kw_212 : (Cond.selects RX4 yX4_shape yX4_shape) ∈ ALLW := alw (tm1 (i := 29) rfl) rfl
theorem kw_213 : (Cond.fieldLink RX5 50 "FewThatMatter" "keptRows" "[[I") ∈ ALLW := alw (tm1 (i := 195) rfl) rfl
theorem kw_214 : (Cond.methodLink RX5 64 yX5_clear) ∈ ALLW := alw (tm1 (i := 220) rfl) rfl
theorem kw_215 : (Cond.fieldLink RX5 53 "FewThatMatter" "keptSums" "[[I") ∈ ALLW := alw (tm1 (i := 196) rfl) rfl
theorem kw_216 : (Cond.code yX4_has cX4_has 3 (some .boolean)) ∈ ALLW := alw (tm1 (i := 228) rfl) rfl
theorem kw_217 : (Cond.methodLink RX5 68 yX4_has) ∈ ALLW := alw (tm1 (i := 225) rfl) rfl
theorem kw_218 : (Cond.instanceMethod yX4_has) ∈ ALLW := alw (tm1 (i := 226) rfl) rfl
theorem kw_219 : (Cond.selects RX4 yX4_has yX4_has) ∈ ALLW := alw (tm1 (i := 227) rfl) rfl
theorem kw_220 : (Cond.methodLink RX5 75 yX4_remainder) ∈ ALLW := alw (tm1 (i := 229) rfl) rfl
theorem kw_221 : (Cond.code yX4_fillWithPowers cX4_fillWithPowers 5 none) ∈ ALLW := alw (tm2 (i := 3) rfl) rfl
theorem kw_222 : (Cond.methodLink RX5 83 yX4_fillWithPowers) ∈ ALLW := alw (tm2 (i := 0) rfl) rfl
theorem kw_223 : (Cond.instanceMethod yX4_fillWithPowers) ∈ ALLW := alw (tm2 (i := 1) rfl) rfl
theorem kw_224 : (Cond.selects RX4 yX4_fillWithPowers yX4_fillWithPowers) ∈ ALLW := alw (tm2 (i := 2) rfl) rfl
theorem kw_225 : (Cond.fieldLink RX5 21 "FewThatMatter" "sets" "LFewThatMatter$Sets;") ∈ ALLW := alw (tm1 (i := 191) rfl) rfl
theorem kw_226 : (Cond.code yX2_rank cX2_rank 3 (some .int)) ∈ ALLW := alw (tm2 (i := 15) rfl) rfl
theorem kw_227 : (Cond.methodLink RX5 87 yX2_rank) ∈ ALLW := alw (tm2 (i := 12) rfl) rfl
theorem kw_228 : (Cond.instanceMethod yX2_rank) ∈ ALLW := alw (tm2 (i := 13) rfl) rfl
theorem kw_229 : (Cond.selects RX2 yX2_rank yX2_rank) ∈ ALLW := alw (tm2 (i := 14) rfl) rfl
theorem kw_230 : (Cond.code yX2_spark cX2_spark 1 (some .int)) ∈ ALLW := alw (tm2 (i := 39) rfl) rfl
theorem kw_231 : (Cond.methodLink RX5 91 yX2_spark) ∈ ALLW := alw (tm2 (i := 36) rfl) rfl
theorem kw_232 : (Cond.instanceMethod yX2_spark) ∈ ALLW := alw (tm2 (i := 37) rfl) rfl
theorem kw_233 : (Cond.selects RX2 yX2_spark yX2_spark) ∈ ALLW := alw (tm2 (i := 38) rfl) rfl
theorem kw_234 : (Cond.code yX4_mostLike cX4_mostLike 4 (some .int)) ∈ ALLW := alw (tm2 (i := 54) rfl) rfl
theorem kw_235 : (Cond.methodLink RX5 94 yX4_mostLike) ∈ ALLW := alw (tm2 (i := 51) rfl) rfl
theorem kw_236 : (Cond.instanceMethod yX4_mostLike) ∈ ALLW := alw (tm2 (i := 52) rfl) rfl
theorem kw_237 : (Cond.selects RX4 yX4_mostLike yX4_mostLike) ∈ ALLW := alw (tm2 (i := 53) rfl) rfl
theorem kw_238 : (Cond.code yX5_isKept cX5_isKept 1 (some .boolean)) ∈ ALLW := alw (tm2 (i := 76) rfl) rfl
theorem kw_239 : (Cond.methodLink RX5 97 yX5_isKept) ∈ ALLW := alw (tm2 (i := 74) rfl) rfl
theorem kw_240 : (Cond.static yX5_isKept) ∈ ALLW := alw (tm2 (i := 75) rfl) rfl
theorem kw_241 : (Cond.methodLink RX5 103 yX5_weight) ∈ ALLW := alw (tm2 (i := 77) rfl) rfl
theorem kw_242 : (Cond.code yX4_sumsOf cX4_sumsOf 6 none) ∈ ALLW := alw (tm2 (i := 99) rfl) rfl
theorem kw_243 : (Cond.methodLink RX5 110 yX4_sumsOf) ∈ ALLW := alw (tm2 (i := 96) rfl) rfl
theorem kw_244 : (Cond.instanceMethod yX4_sumsOf) ∈ ALLW := alw (tm2 (i := 97) rfl) rfl
theorem kw_245 : (Cond.selects RX4 yX4_sumsOf yX4_sumsOf) ∈ ALLW := alw (tm2 (i := 98) rfl) rfl
theorem kw_246 : (Cond.methodLink RX5 114 yX2_waysToTell) ∈ ALLW := alw (tm2 (i := 104) rfl) rfl
theorem kw_247 : (Cond.methodLink RX5 122 yX5_copy) ∈ ALLW := alw (tm2 (i := 130) rfl) rfl
theorem kw_248 : (Cond.fieldLink RX5 30 "FewThatMatter" "misses" "LFewThatMatter$Misses;") ∈ ALLW := alw (tm1 (i := 192) rfl) rfl
theorem kw_249 : (Cond.code yX1_look cX1_look 7 (some .boolean)) ∈ ALLW := alw (tm2 (i := 141) rfl) rfl
theorem kw_250 : (Cond.methodLink RX5 125 yX1_look) ∈ ALLW := alw (tm2 (i := 138) rfl) rfl
theorem kw_251 : (Cond.instanceMethod yX1_look) ∈ ALLW := alw (tm2 (i := 139) rfl) rfl
theorem kw_252 : (Cond.selects RX1 yX1_look yX1_look) ∈ ALLW := alw (tm2 (i := 140) rfl) rfl
theorem kw_253 : (Cond.fieldLink RX5 37 "FewThatMatter" "steps" "LFewThatMatter$Greedy;") ∈ ALLW := alw (tm1 (i := 193) rfl) rfl
theorem kw_254 : (Cond.code yX0_walk cX0_walk 7 (some .int)) ∈ ALLW := alw (tm2 (i := 160) rfl) rfl
theorem kw_255 : (Cond.methodLink RX5 130 yX0_walk) ∈ ALLW := alw (tm2 (i := 157) rfl) rfl
theorem kw_256 : (Cond.instanceMethod yX0_walk) ∈ ALLW := alw (tm2 (i := 158) rfl) rfl
theorem kw_257 : (Cond.selects RX0 yX0_walk yX0_walk) ∈ ALLW := alw (tm2 (i := 159) rfl) rfl
theorem kw_258 : (Cond.fieldLink RX5 44 "FewThatMatter" "sketched" "LFewThatMatter$Sketch;") ∈ ALLW := alw (tm1 (i := 194) rfl) rfl
theorem kw_259 : (Cond.code yX3_shape cX3_shape 4 none) ∈ ALLW := alw (tm1 (i := 155) rfl) rfl
theorem kw_260 : (Cond.methodLink RX5 134 yX3_shape) ∈ ALLW := alw (tm2 (i := 186) rfl) rfl
theorem kw_261 : (Cond.instanceMethod yX3_shape) ∈ ALLW := alw (tm1 (i := 153) rfl) rfl
theorem kw_262 : (Cond.selects RX3 yX3_shape yX3_shape) ∈ ALLW := alw (tm1 (i := 154) rfl) rfl
theorem kw_263 : (Cond.constant RX5 137 (999999)) ∈ ALLW := alw (tm2 (i := 191) rfl) rfl
theorem kw_264 : (Cond.constant RX5 141 (100000)) ∈ ALLW := alw (tm2 (i := 192) rfl) rfl
theorem kw_265 : (Cond.code yX3_putNumber cX3_putNumber 3 none) ∈ ALLW := alw (tm2 (i := 196) rfl) rfl
theorem kw_266 : (Cond.methodLink RX5 142 yX3_putNumber) ∈ ALLW := alw (tm2 (i := 193) rfl) rfl
theorem kw_267 : (Cond.instanceMethod yX3_putNumber) ∈ ALLW := alw (tm2 (i := 194) rfl) rfl
theorem kw_268 : (Cond.selects RX3 yX3_putNumber yX3_putNumber) ∈ ALLW := alw (tm2 (i := 195) rfl) rfl
theorem kw_269 : (Cond.code yX3_tellAll cX3_tellAll 3 (some .boolean)) ∈ ALLW := alw (tm2 (i := 222) rfl) rfl
theorem kw_270 : (Cond.methodLink RX5 145 yX3_tellAll) ∈ ALLW := alw (tm2 (i := 219) rfl) rfl
theorem kw_271 : (Cond.instanceMethod yX3_tellAll) ∈ ALLW := alw (tm2 (i := 220) rfl) rfl
theorem kw_272 : (Cond.selects RX3 yX3_tellAll yX3_tellAll) ∈ ALLW := alw (tm2 (i := 221) rfl) rfl
theorem kw_273 : (Cond.constant RX5 152 (-1000000001)) ∈ ALLW := alw (tm3 (i := 7) rfl) rfl
theorem kw_274 : (Cond.constant RX5 153 (-1000000004)) ∈ ALLW := alw (tm3 (i := 8) rfl) rfl
theorem kw_275 : (Cond.constantLong RX5 166 (-1000000000000000000)) ∈ ALLW := alw (tm3 (i := 13) rfl) rfl
theorem kw_276 : (Cond.methodLink RX5 172 yX3_start) ∈ ALLW := alw (tm3 (i := 14) rfl) rfl
theorem kw_X6 : ∀ w ∈ u_ws RX6 TX6 17, w ∈ ALLW := uwk (fun k hk => match k, hk with | 0, _ => alw (tm3 (i := 42) rfl) rfl | 1, _ => alw (tm3 (i := 44) rfl) rfl | 2, _ => alw (tm3 (i := 46) rfl) rfl | 3, _ => alw (tm3 (i := 48) rfl) rfl | 4, _ => alw (tm3 (i := 50) rfl) rfl | 5, _ => alw (tm3 (i := 52) rfl) rfl | 6, _ => alw (tm3 (i := 54) rfl) rfl | 7, _ => alw (tm3 (i := 56) rfl) rfl | 8, _ => alw (tm3 (i := 58) rfl) rfl | 9, _ => alw (tm3 (i := 60) rfl) rfl | 10, _ => alw (tm3 (i := 62) rfl) rfl | 11, _ => alw (tm3 (i := 64) rfl) rfl | 12, _ => alw (tm3 (i := 66) rfl) rfl | 13, _ => alw (tm3 (i := 68) rfl) rfl | 14, _ => alw (tm3 (i := 70) rfl) rfl | 15, _ => alw (tm3 (i := 72) rfl) rfl | 16, _ => alw (tm3 (i := 74) rfl) rfl | n + 17, hk => absurd hk (by omega))
theorem kw_278 : (Cond.fieldLink RX6 7 "FewThatMatterModel" "p" "I") ∈ ALLW := alw (tm3 (i := 25) rfl) rfl
theorem kw_279 : (Cond.code yX6_isPrime cX6_isPrime 3 (some .boolean)) ∈ ALLW := alw (tm3 (i := 83) rfl) rfl
theorem kw_280 : (Cond.methodLink RX6 65 yX6_isPrime) ∈ ALLW := alw (tm3 (i := 81) rfl) rfl
theorem kw_281 : (Cond.static yX6_isPrime) ∈ ALLW := alw (tm3 (i := 82) rfl) rfl
theorem kw_282 : (Cond.constantLong RX6 69 (6)) ∈ ALLW := alw (tm3 (i := 89) rfl) rfl
theorem kw_283 : (Cond.constantLong RX6 71 (12)) ∈ ALLW := alw (tm3 (i := 90) rfl) rfl
theorem kw_284 : (Cond.fieldLink RX6 13 "FewThatMatterModel" "m" "I") ∈ ALLW := alw (tm3 (i := 26) rfl) rfl
theorem kw_285 : (Cond.fieldLink RX6 16 "FewThatMatterModel" "n" "I") ∈ ALLW := alw (tm3 (i := 27) rfl) rfl
theorem kw_286 : (Cond.fieldLink RX6 19 "FewThatMatterModel" "table" "[I") ∈ ALLW := alw (tm3 (i := 28) rfl) rfl
theorem kw_287 : (Cond.fieldLink RX6 23 "FewThatMatterModel" "rows" "[I") ∈ ALLW := alw (tm3 (i := 29) rfl) rfl
theorem kw_288 : (Cond.fieldLink RX6 26 "FewThatMatterModel" "sums" "[I") ∈ ALLW := alw (tm3 (i := 30) rfl) rfl
theorem kw_289 : (Cond.code yX6_isPlace cX6_isPlace 3 (some .boolean)) ∈ ALLW := alw (tm3 (i := 98) rfl) rfl
theorem kw_290 : (Cond.methodLink RX6 73 yX6_isPlace) ∈ ALLW := alw (tm3 (i := 95) rfl) rfl
theorem kw_291 : (Cond.instanceMethod yX6_isPlace) ∈ ALLW := alw (tm3 (i := 97) rfl) rfl
theorem kw_292 : (Cond.selects RX6 yX6_isPlace yX6_isPlace) ∈ ALLW := alw (tmP (i := 24) rfl) rfl
theorem kw_293 : (Cond.code yX6_by cX6_by 3 (some .int)) ∈ ALLW := alw (tm3 (i := 102) rfl) rfl
theorem kw_294 : (Cond.methodLink RX6 77 yX6_by) ∈ ALLW := alw (tm3 (i := 99) rfl) rfl
theorem kw_295 : (Cond.instanceMethod yX6_by) ∈ ALLW := alw (tm3 (i := 101) rfl) rfl
theorem kw_296 : (Cond.selects RX6 yX6_by yX6_by) ∈ ALLW := alw (tmP (i := 25) rfl) rfl
theorem kw_297 : (Cond.fieldLink RX6 45 "FewThatMatterModel" "work" "[I") ∈ ALLW := alw (tm3 (i := 38) rfl) rfl
theorem kw_298 : (Cond.code yX6_bits cX6_bits 3 (some .int)) ∈ ALLW := alw (tm3 (i := 125) rfl) rfl
theorem kw_299 : (Cond.methodLink RX6 81 yX6_bits) ∈ ALLW := alw (tm3 (i := 123) rfl) rfl
theorem kw_300 : (Cond.static yX6_bits) ∈ ALLW := alw (tm3 (i := 124) rfl) rfl
theorem kw_301 : (Cond.code yX6_swaps cX6_swaps 5 none) ∈ ALLW := alw (tm3 (i := 129) rfl) rfl
theorem kw_302 : (Cond.methodLink RX6 84 yX6_swaps) ∈ ALLW := alw (tm3 (i := 126) rfl) rfl
theorem kw_303 : (Cond.instanceMethod yX6_swaps) ∈ ALLW := alw (tm3 (i := 128) rfl) rfl
theorem kw_304 : (Cond.selects RX6 yX6_swaps yX6_swaps) ∈ ALLW := alw (tmP (i := 28) rfl) rfl
theorem kw_305 : (Cond.code yX6_turned cX6_turned 3 (some .int)) ∈ ALLW := alw (tm3 (i := 133) rfl) rfl
theorem kw_306 : (Cond.methodLink RX6 88 yX6_turned) ∈ ALLW := alw (tm3 (i := 130) rfl) rfl
theorem kw_307 : (Cond.instanceMethod yX6_turned) ∈ ALLW := alw (tm3 (i := 132) rfl) rfl
theorem kw_308 : (Cond.selects RX6 yX6_turned yX6_turned) ∈ ALLW := alw (tmP (i := 29) rfl) rfl
theorem kw_309 : (Cond.code yX6_takes cX6_takes 7 none) ∈ ALLW := alw (tm3 (i := 137) rfl) rfl
theorem kw_310 : (Cond.methodLink RX6 91 yX6_takes) ∈ ALLW := alw (tm3 (i := 134) rfl) rfl
theorem kw_311 : (Cond.instanceMethod yX6_takes) ∈ ALLW := alw (tm3 (i := 136) rfl) rfl
theorem kw_312 : (Cond.selects RX6 yX6_takes yX6_takes) ∈ ALLW := alw (tmP (i := 30) rfl) rfl
theorem kw_313 : (Cond.code yX6_clears cX6_clears 11 (some .int)) ∈ ALLW := alw (tm3 (i := 122) rfl) rfl
theorem kw_314 : (Cond.methodLink RX6 95 yX6_clears) ∈ ALLW := alw (tm3 (i := 119) rfl) rfl
theorem kw_315 : (Cond.instanceMethod yX6_clears) ∈ ALLW := alw (tm3 (i := 121) rfl) rfl
theorem kw_316 : (Cond.selects RX6 yX6_clears yX6_clears) ∈ ALLW := alw (tmP (i := 27) rfl) rfl
theorem kw_317 : (Cond.code yX6_rankOf cX6_rankOf 2 (some .int)) ∈ ALLW := alw (tm3 (i := 118) rfl) rfl
theorem kw_318 : (Cond.methodLink RX6 99 yX6_rankOf) ∈ ALLW := alw (tm3 (i := 115) rfl) rfl
theorem kw_319 : (Cond.instanceMethod yX6_rankOf) ∈ ALLW := alw (tm3 (i := 117) rfl) rfl
theorem kw_320 : (Cond.selects RX6 yX6_rankOf yX6_rankOf) ∈ ALLW := alw (tmP (i := 26) rfl) rfl
theorem kw_321 : (Cond.code yX6_spark cX6_spark 3 (some .int)) ∈ ALLW := alw (tm3 (i := 141) rfl) rfl
theorem kw_322 : (Cond.methodLink RX6 102 yX6_spark) ∈ ALLW := alw (tm3 (i := 138) rfl) rfl
theorem kw_323 : (Cond.instanceMethod yX6_spark) ∈ ALLW := alw (tm3 (i := 140) rfl) rfl
theorem kw_324 : (Cond.selects RX6 yX6_spark yX6_spark) ∈ ALLW := alw (tmP (i := 31) rfl) rfl
theorem kw_325 : (Cond.code yX6_alike cX6_alike 7 (some .int)) ∈ ALLW := alw (tm3 (i := 145) rfl) rfl
theorem kw_326 : (Cond.methodLink RX6 106 yX6_alike) ∈ ALLW := alw (tm3 (i := 142) rfl) rfl
theorem kw_327 : (Cond.instanceMethod yX6_alike) ∈ ALLW := alw (tm3 (i := 144) rfl) rfl
theorem kw_328 : (Cond.selects RX6 yX6_alike yX6_alike) ∈ ALLW := alw (tmP (i := 32) rfl) rfl
theorem kw_329 : (Cond.code yX6_isSix cX6_isSix 1 (some .boolean)) ∈ ALLW := alw (tm3 (i := 152) rfl) rfl
theorem kw_330 : (Cond.methodLink RX6 111 yX6_isSix) ∈ ALLW := alw (tm3 (i := 150) rfl) rfl
theorem kw_331 : (Cond.static yX6_isSix) ∈ ALLW := alw (tm3 (i := 151) rfl) rfl
theorem kw_332 : (Cond.code yX6_weight cX6_weight 6 (some .int)) ∈ ALLW := alw (tm3 (i := 157) rfl) rfl
theorem kw_333 : (Cond.methodLink RX6 114 yX6_weight) ∈ ALLW := alw (tm3 (i := 154) rfl) rfl
theorem kw_334 : (Cond.instanceMethod yX6_weight) ∈ ALLW := alw (tm3 (i := 156) rfl) rfl
theorem kw_335 : (Cond.selects RX6 yX6_weight yX6_weight) ∈ ALLW := alw (tmP (i := 33) rfl) rfl
theorem kw_336 : (Cond.constantLong RX6 118 (-1)) ∈ ALLW := alw (tm3 (i := 162) rfl) rfl
theorem kw_337 : (Cond.fieldLink RX6 48 "FewThatMatterModel" "solved" "[I") ∈ ALLW := alw (tm3 (i := 39) rfl) rfl
theorem kw_338 : (Cond.fieldLink RX6 51 "FewThatMatterModel" "best" "[I") ∈ ALLW := alw (tm3 (i := 40) rfl) rfl
theorem kw_339 : (Cond.constantLong RX6 120 (4)) ∈ ALLW := alw (tm3 (i := 179) rfl) rfl
theorem kw_340 : (Cond.code yX6_solves cX6_solves 8 (some .boolean)) ∈ ALLW := alw (tm3 (i := 183) rfl) rfl
theorem kw_341 : (Cond.methodLink RX6 122 yX6_solves) ∈ ALLW := alw (tm3 (i := 180) rfl) rfl
theorem kw_342 : (Cond.instanceMethod yX6_solves) ∈ ALLW := alw (tm3 (i := 182) rfl) rfl
theorem kw_343 : (Cond.selects RX6 yX6_solves yX6_solves) ∈ ALLW := alw (tmP (i := 34) rfl) rfl
theorem kw_344 : (Cond.code yX6_isBest cX6_isBest 2 none) ∈ ALLW := alw (tm3 (i := 187) rfl) rfl
theorem kw_345 : (Cond.methodLink RX6 126 yX6_isBest) ∈ ALLW := alw (tm3 (i := 184) rfl) rfl
theorem kw_346 : (Cond.instanceMethod yX6_isBest) ∈ ALLW := alw (tm3 (i := 186) rfl) rfl
theorem kw_347 : (Cond.selects RX6 yX6_isBest yX6_isBest) ∈ ALLW := alw (tmP (i := 35) rfl) rfl
theorem kw_348 : (Cond.code yX6_keeps cX6_keeps 3 none) ∈ ALLW := alw (tm3 (i := 191) rfl) rfl
theorem kw_349 : (Cond.methodLink RX6 129 yX6_keeps) ∈ ALLW := alw (tm3 (i := 188) rfl) rfl
theorem kw_350 : (Cond.instanceMethod yX6_keeps) ∈ ALLW := alw (tm3 (i := 190) rfl) rfl
theorem kw_351 : (Cond.selects RX6 yX6_keeps yX6_keeps) ∈ ALLW := alw (tmP (i := 36) rfl) rfl
theorem kw_352 : (Cond.constantLong RX6 133 (3)) ∈ ALLW := alw (tm3 (i := 196) rfl) rfl
theorem kw_353 : (Cond.code yX6_differs cX6_differs 6 (some .int)) ∈ ALLW := alw (tm3 (i := 200) rfl) rfl
theorem kw_354 : (Cond.methodLink RX6 135 yX6_differs) ∈ ALLW := alw (tm3 (i := 197) rfl) rfl
theorem kw_355 : (Cond.instanceMethod yX6_differs) ∈ ALLW := alw (tm3 (i := 199) rfl) rfl
theorem kw_356 : (Cond.selects RX6 yX6_differs yX6_differs) ∈ ALLW := alw (tmP (i := 37) rfl) rfl
theorem kw_357 : (Cond.code yX6_isLess cX6_isLess 2 (some .boolean)) ∈ ALLW := alw (tm3 (i := 204) rfl) rfl
theorem kw_358 : (Cond.methodLink RX6 138 yX6_isLess) ∈ ALLW := alw (tm3 (i := 201) rfl) rfl
theorem kw_359 : (Cond.instanceMethod yX6_isLess) ∈ ALLW := alw (tm3 (i := 203) rfl) rfl
theorem kw_360 : (Cond.selects RX6 yX6_isLess yX6_isLess) ∈ ALLW := alw (tmP (i := 38) rfl) rfl
theorem kw_361 : (Cond.fieldLink RX6 54 "FewThatMatterModel" "rest" "[I") ∈ ALLW := alw (tm3 (i := 41) rfl) rfl
theorem kw_362 : (Cond.constantLong RX6 142 (8)) ∈ ALLW := alw (tm3 (i := 209) rfl) rfl
theorem kw_363 : (Cond.code yX6_without cX6_without 5 (some .int)) ∈ ALLW := alw (tm3 (i := 213) rfl) rfl
theorem kw_364 : (Cond.methodLink RX6 144 yX6_without) ∈ ALLW := alw (tm3 (i := 210) rfl) rfl
theorem kw_365 : (Cond.instanceMethod yX6_without) ∈ ALLW := alw (tm3 (i := 212) rfl) rfl
theorem kw_366 : (Cond.selects RX6 yX6_without yX6_without) ∈ ALLW := alw (tmP (i := 39) rfl) rfl
theorem kw_367 : (Cond.constantLong RX6 148 (32)) ∈ ALLW := alw (tm3 (i := 218) rfl) rfl
theorem kw_368 : (Cond.fieldLink RX6 29 "FewThatMatterModel" "lines" "I") ∈ ALLW := alw (tm3 (i := 31) rfl) rfl
theorem kw_369 : (Cond.fieldLink RX6 32 "FewThatMatterModel" "buckets" "I") ∈ ALLW := alw (tm3 (i := 32) rfl) rfl
theorem kw_370 : (Cond.fieldLink RX6 150 "FewThatMatterModel" "puts" "I") ∈ ALLW := alw (tm3 (i := 33) rfl) rfl
theorem kw_371 : (Cond.fieldLink RX6 153 "FewThatMatterModel" "toldMany" "I") ∈ ALLW := alw (tm3 (i := 35) rfl) rfl
theorem kw_372 : (Cond.fieldLink RX6 35 "FewThatMatterModel" "kept" "[J") ∈ ALLW := alw (tm3 (i := 34) rfl) rfl
theorem kw_373 : (Cond.code yX6_bucketOf cX6_bucketOf 3 (some .int)) ∈ ALLW := alw (tm3 (i := 234) rfl) rfl
theorem kw_374 : (Cond.methodLink RX6 158 yX6_bucketOf) ∈ ALLW := alw (tm3 (i := 231) rfl) rfl
theorem kw_375 : (Cond.instanceMethod yX6_bucketOf) ∈ ALLW := alw (tm3 (i := 233) rfl) rfl
theorem kw_376 : (Cond.selects RX6 yX6_bucketOf yX6_bucketOf) ∈ ALLW := alw (tmP (i := 41) rfl) rfl
theorem kw_377 : (Cond.code yX6_third cX6_third 4 (some .long)) ∈ ALLW := alw (tm3 (i := 237) rfl) rfl
theorem kw_378 : (Cond.methodLink RX6 161 yX6_third) ∈ ALLW := alw (tm3 (i := 235) rfl) rfl
theorem kw_379 : (Cond.static yX6_third) ∈ ALLW := alw (tm3 (i := 236) rfl) rfl
theorem kw_380 : (Cond.constantLong RX6 165 (999999)) ∈ ALLW := alw (tm3 (i := 223) rfl) rfl
theorem kw_381 : (Cond.constantLong RX6 167 (-1000)) ∈ ALLW := alw (tm3 (i := 224) rfl) rfl
theorem kw_382 : (Cond.constantLong RX6 169 (1000)) ∈ ALLW := alw (tm3 (i := 225) rfl) rfl
theorem kw_383 : (Cond.constant RX6 171 (100000)) ∈ ALLW := alw (tm3 (i := 226) rfl) rfl
theorem kw_384 : (Cond.code yX6_adds cX6_adds 7 none) ∈ ALLW := alw (tm3 (i := 230) rfl) rfl
theorem kw_385 : (Cond.methodLink RX6 172 yX6_adds) ∈ ALLW := alw (tm3 (i := 227) rfl) rfl
theorem kw_386 : (Cond.instanceMethod yX6_adds) ∈ ALLW := alw (tm3 (i := 229) rfl) rfl
theorem kw_387 : (Cond.selects RX6 yX6_adds yX6_adds) ∈ ALLW := alw (tmP (i := 40) rfl) rfl
theorem kw_388 : (Cond.code yX6_single cX6_single 8 (some .int)) ∈ ALLW := alw (tm4 (i := 6) rfl) rfl
theorem kw_389 : (Cond.methodLink RX6 176 yX6_single) ∈ ALLW := alw (tm4 (i := 3) rfl) rfl
theorem kw_390 : (Cond.instanceMethod yX6_single) ∈ ALLW := alw (tm4 (i := 5) rfl) rfl
theorem kw_391 : (Cond.selects RX6 yX6_single yX6_single) ∈ ALLW := alw (tmP (i := 42) rfl) rfl
theorem kw_392 : (Cond.fieldLink RX6 39 "FewThatMatterModel" "toldPlace" "[I") ∈ ALLW := alw (tm3 (i := 36) rfl) rfl
theorem kw_393 : (Cond.fieldLink RX6 42 "FewThatMatterModel" "toldNumber" "[I") ∈ ALLW := alw (tm3 (i := 37) rfl) rfl
theorem kw_394 : (Cond.constant RX6 179 (-1000000001)) ∈ ALLW := alw (tm4 (i := 11) rfl) rfl
theorem kw_395 : (Cond.constant RX6 180 (-1000000004)) ∈ ALLW := alw (tm4 (i := 12) rfl) rfl
theorem kw_396 : (Cond.constantLong RX6 181 (-1000000000000000000)) ∈ ALLW := alw (tm4 (i := 17) rfl) rfl
theorem kw_397 : (Cond.code yX5_begin cX5_begin 5 (some .int)) ∈ ALLW := alw (tm1 (i := 215) rfl) rfl
theorem kw_398 : (Cond.methodLink RL 13 yX5_begin) ∈ ALLW := alw (tm1 (i := 212) rfl) rfl
theorem kw_399 : (Cond.instanceMethod yX5_begin) ∈ ALLW := alw (tm1 (i := 213) rfl) rfl
theorem kw_400 : (Cond.selects RX5 yX5_begin yX5_begin) ∈ ALLW := alw (tm1 (i := 214) rfl) rfl
theorem kw_401 : (Cond.code yX6_begin cX6_begin 5 (some .int)) ∈ ALLW := alw (tm3 (i := 80) rfl) rfl
theorem kw_402 : (Cond.methodLink RL 17 yX6_begin) ∈ ALLW := alw (tm3 (i := 77) rfl) rfl
theorem kw_403 : (Cond.instanceMethod yX6_begin) ∈ ALLW := alw (tm3 (i := 78) rfl) rfl
theorem kw_404 : (Cond.selects RX6 yX6_begin yX6_begin) ∈ ALLW := alw (tm3 (i := 79) rfl) rfl
theorem kw_405 : (Cond.code yX5_set cX5_set 5 (some .int)) ∈ ALLW := alw (tm1 (i := 224) rfl) rfl
theorem kw_406 : (Cond.methodLink RL 18 yX5_set) ∈ ALLW := alw (tm1 (i := 221) rfl) rfl
theorem kw_407 : (Cond.instanceMethod yX5_set) ∈ ALLW := alw (tm1 (i := 222) rfl) rfl
theorem kw_408 : (Cond.selects RX5 yX5_set yX5_set) ∈ ALLW := alw (tm1 (i := 223) rfl) rfl
theorem kw_409 : (Cond.code yX6_set cX6_set 5 (some .int)) ∈ ALLW := alw (tm3 (i := 94) rfl) rfl
theorem kw_410 : (Cond.methodLink RL 21 yX6_set) ∈ ALLW := alw (tm3 (i := 91) rfl) rfl
theorem kw_411 : (Cond.instanceMethod yX6_set) ∈ ALLW := alw (tm3 (i := 92) rfl) rfl
theorem kw_412 : (Cond.selects RX6 yX6_set yX6_set) ∈ ALLW := alw (tm3 (i := 93) rfl) rfl
theorem kw_413 : (Cond.code yX5_powers cX5_powers 2 (some .int)) ∈ ALLW := alw (tm1 (i := 239) rfl) rfl
theorem kw_414 : (Cond.methodLink RL 22 yX5_powers) ∈ ALLW := alw (tm1 (i := 236) rfl) rfl
theorem kw_415 : (Cond.instanceMethod yX5_powers) ∈ ALLW := alw (tm1 (i := 237) rfl) rfl
theorem kw_416 : (Cond.selects RX5 yX5_powers yX5_powers) ∈ ALLW := alw (tm1 (i := 238) rfl) rfl
theorem kw_417 : (Cond.code yX6_powers cX6_powers 5 (some .int)) ∈ ALLW := alw (tm3 (i := 106) rfl) rfl
theorem kw_418 : (Cond.methodLink RL 26 yX6_powers) ∈ ALLW := alw (tm3 (i := 103) rfl) rfl
theorem kw_419 : (Cond.instanceMethod yX6_powers) ∈ ALLW := alw (tm3 (i := 104) rfl) rfl
theorem kw_420 : (Cond.selects RX6 yX6_powers yX6_powers) ∈ ALLW := alw (tm3 (i := 105) rfl) rfl
theorem kw_421 : (Cond.code yX5_at cX5_at 3 (some .int)) ∈ ALLW := alw (tm2 (i := 7) rfl) rfl
theorem kw_422 : (Cond.methodLink RL 27 yX5_at) ∈ ALLW := alw (tm2 (i := 4) rfl) rfl
theorem kw_423 : (Cond.instanceMethod yX5_at) ∈ ALLW := alw (tm2 (i := 5) rfl) rfl
theorem kw_424 : (Cond.selects RX5 yX5_at yX5_at) ∈ ALLW := alw (tm2 (i := 6) rfl) rfl
theorem kw_425 : (Cond.code yX6_at cX6_at 3 (some .int)) ∈ ALLW := alw (tm3 (i := 110) rfl) rfl
theorem kw_426 : (Cond.methodLink RL 31 yX6_at) ∈ ALLW := alw (tm3 (i := 107) rfl) rfl
theorem kw_427 : (Cond.instanceMethod yX6_at) ∈ ALLW := alw (tm3 (i := 108) rfl) rfl
theorem kw_428 : (Cond.selects RX6 yX6_at yX6_at) ∈ ALLW := alw (tm3 (i := 109) rfl) rfl
theorem kw_429 : (Cond.code yX5_judge cX5_judge 2 (some .int)) ∈ ALLW := alw (tm2 (i := 11) rfl) rfl
theorem kw_430 : (Cond.methodLink RL 32 yX5_judge) ∈ ALLW := alw (tm2 (i := 8) rfl) rfl
theorem kw_431 : (Cond.instanceMethod yX5_judge) ∈ ALLW := alw (tm2 (i := 9) rfl) rfl
theorem kw_432 : (Cond.selects RX5 yX5_judge yX5_judge) ∈ ALLW := alw (tm2 (i := 10) rfl) rfl
theorem kw_433 : (Cond.code yX6_judge cX6_judge 2 (some .int)) ∈ ALLW := alw (tm3 (i := 114) rfl) rfl
theorem kw_434 : (Cond.methodLink RL 35 yX6_judge) ∈ ALLW := alw (tm3 (i := 111) rfl) rfl
theorem kw_435 : (Cond.instanceMethod yX6_judge) ∈ ALLW := alw (tm3 (i := 112) rfl) rfl
theorem kw_436 : (Cond.selects RX6 yX6_judge yX6_judge) ∈ ALLW := alw (tm3 (i := 113) rfl) rfl
theorem kw_437 : (Cond.code yX5_put cX5_put 4 (some .int)) ∈ ALLW := alw (tm2 (i := 73) rfl) rfl
theorem kw_438 : (Cond.methodLink RL 36 yX5_put) ∈ ALLW := alw (tm2 (i := 70) rfl) rfl
theorem kw_439 : (Cond.instanceMethod yX5_put) ∈ ALLW := alw (tm2 (i := 71) rfl) rfl
theorem kw_440 : (Cond.selects RX5 yX5_put yX5_put) ∈ ALLW := alw (tm2 (i := 72) rfl) rfl
theorem kw_441 : (Cond.code yX6_put cX6_put 4 (some .int)) ∈ ALLW := alw (tm3 (i := 149) rfl) rfl
theorem kw_442 : (Cond.methodLink RL 39 yX6_put) ∈ ALLW := alw (tm3 (i := 146) rfl) rfl
theorem kw_443 : (Cond.instanceMethod yX6_put) ∈ ALLW := alw (tm3 (i := 147) rfl) rfl
theorem kw_444 : (Cond.selects RX6 yX6_put yX6_put) ∈ ALLW := alw (tm3 (i := 148) rfl) rfl
theorem kw_445 : (Cond.code yX5_row cX5_row 3 (some .int)) ∈ ALLW := alw (tm2 (i := 83) rfl) rfl
theorem kw_446 : (Cond.methodLink RL 40 yX5_row) ∈ ALLW := alw (tm2 (i := 80) rfl) rfl
theorem kw_447 : (Cond.instanceMethod yX5_row) ∈ ALLW := alw (tm2 (i := 81) rfl) rfl
theorem kw_448 : (Cond.selects RX5 yX5_row yX5_row) ∈ ALLW := alw (tm2 (i := 82) rfl) rfl
theorem kw_449 : (Cond.code yX6_row cX6_row 3 (some .int)) ∈ ALLW := alw (tm3 (i := 161) rfl) rfl
theorem kw_450 : (Cond.methodLink RL 43 yX6_row) ∈ ALLW := alw (tm3 (i := 158) rfl) rfl
theorem kw_451 : (Cond.instanceMethod yX6_row) ∈ ALLW := alw (tm3 (i := 159) rfl) rfl
theorem kw_452 : (Cond.selects RX6 yX6_row yX6_row) ∈ ALLW := alw (tm3 (i := 160) rfl) rfl
theorem kw_453 : (Cond.code yX5_sum cX5_sum 4 (some .int)) ∈ ALLW := alw (tm2 (i := 87) rfl) rfl
theorem kw_454 : (Cond.methodLink RL 44 yX5_sum) ∈ ALLW := alw (tm2 (i := 84) rfl) rfl
theorem kw_455 : (Cond.instanceMethod yX5_sum) ∈ ALLW := alw (tm2 (i := 85) rfl) rfl
theorem kw_456 : (Cond.selects RX5 yX5_sum yX5_sum) ∈ ALLW := alw (tm2 (i := 86) rfl) rfl
theorem kw_457 : (Cond.code yX6_sum cX6_sum 4 (some .int)) ∈ ALLW := alw (tm3 (i := 166) rfl) rfl
theorem kw_458 : (Cond.methodLink RL 47 yX6_sum) ∈ ALLW := alw (tm3 (i := 163) rfl) rfl
theorem kw_459 : (Cond.instanceMethod yX6_sum) ∈ ALLW := alw (tm3 (i := 164) rfl) rfl
theorem kw_460 : (Cond.selects RX6 yX6_sum yX6_sum) ∈ ALLW := alw (tm3 (i := 165) rfl) rfl
theorem kw_461 : (Cond.code yX5_told cX5_told 3 (some .int)) ∈ ALLW := alw (tm2 (i := 91) rfl) rfl
theorem kw_462 : (Cond.methodLink RL 48 yX5_told) ∈ ALLW := alw (tm2 (i := 88) rfl) rfl
theorem kw_463 : (Cond.instanceMethod yX5_told) ∈ ALLW := alw (tm2 (i := 89) rfl) rfl
theorem kw_464 : (Cond.selects RX5 yX5_told yX5_told) ∈ ALLW := alw (tm2 (i := 90) rfl) rfl
theorem kw_465 : (Cond.code yX6_told cX6_told 3 (some .int)) ∈ ALLW := alw (tm3 (i := 170) rfl) rfl
theorem kw_466 : (Cond.methodLink RL 51 yX6_told) ∈ ALLW := alw (tm3 (i := 167) rfl) rfl
theorem kw_467 : (Cond.instanceMethod yX6_told) ∈ ALLW := alw (tm3 (i := 168) rfl) rfl
theorem kw_468 : (Cond.selects RX6 yX6_told yX6_told) ∈ ALLW := alw (tm3 (i := 169) rfl) rfl
theorem kw_469 : (Cond.code yX5_tell cX5_tell 3 (some .int)) ∈ ALLW := alw (tm2 (i := 95) rfl) rfl
theorem kw_470 : (Cond.methodLink RL 52 yX5_tell) ∈ ALLW := alw (tm2 (i := 92) rfl) rfl
theorem kw_471 : (Cond.instanceMethod yX5_tell) ∈ ALLW := alw (tm2 (i := 93) rfl) rfl
theorem kw_472 : (Cond.selects RX5 yX5_tell yX5_tell) ∈ ALLW := alw (tm2 (i := 94) rfl) rfl
theorem kw_473 : (Cond.code yX6_tell cX6_tell 6 (some .int)) ∈ ALLW := alw (tm3 (i := 174) rfl) rfl
theorem kw_474 : (Cond.methodLink RL 55 yX6_tell) ∈ ALLW := alw (tm3 (i := 171) rfl) rfl
theorem kw_475 : (Cond.instanceMethod yX6_tell) ∈ ALLW := alw (tm3 (i := 172) rfl) rfl
theorem kw_476 : (Cond.selects RX6 yX6_tell yX6_tell) ∈ ALLW := alw (tm3 (i := 173) rfl) rfl
theorem kw_477 : (Cond.code yX5_find cX5_find 6 (some .int)) ∈ ALLW := alw (tm2 (i := 103) rfl) rfl
theorem kw_478 : (Cond.methodLink RL 56 yX5_find) ∈ ALLW := alw (tm2 (i := 100) rfl) rfl
theorem kw_479 : (Cond.instanceMethod yX5_find) ∈ ALLW := alw (tm2 (i := 101) rfl) rfl
theorem kw_480 : (Cond.selects RX5 yX5_find yX5_find) ∈ ALLW := alw (tm2 (i := 102) rfl) rfl
theorem kw_481 : (Cond.code yX6_find cX6_find 7 (some .int)) ∈ ALLW := alw (tm3 (i := 178) rfl) rfl
theorem kw_482 : (Cond.methodLink RL 59 yX6_find) ∈ ALLW := alw (tm3 (i := 175) rfl) rfl
theorem kw_483 : (Cond.instanceMethod yX6_find) ∈ ALLW := alw (tm3 (i := 176) rfl) rfl
theorem kw_484 : (Cond.selects RX6 yX6_find yX6_find) ∈ ALLW := alw (tm3 (i := 177) rfl) rfl
theorem kw_485 : (Cond.code yX5_miss cX5_miss 7 (some .int)) ∈ ALLW := alw (tm2 (i := 137) rfl) rfl
theorem kw_486 : (Cond.methodLink RL 60 yX5_miss) ∈ ALLW := alw (tm2 (i := 134) rfl) rfl
theorem kw_487 : (Cond.instanceMethod yX5_miss) ∈ ALLW := alw (tm2 (i := 135) rfl) rfl
theorem kw_488 : (Cond.selects RX5 yX5_miss yX5_miss) ∈ ALLW := alw (tm2 (i := 136) rfl) rfl
theorem kw_489 : (Cond.code yX6_miss cX6_miss 11 (some .int)) ∈ ALLW := alw (tm3 (i := 195) rfl) rfl
theorem kw_490 : (Cond.methodLink RL 64 yX6_miss) ∈ ALLW := alw (tm3 (i := 192) rfl) rfl
theorem kw_491 : (Cond.instanceMethod yX6_miss) ∈ ALLW := alw (tm3 (i := 193) rfl) rfl
theorem kw_492 : (Cond.selects RX6 yX6_miss yX6_miss) ∈ ALLW := alw (tm3 (i := 194) rfl) rfl
theorem kw_493 : (Cond.code yX5_greedy cX5_greedy 6 (some .int)) ∈ ALLW := alw (tm2 (i := 156) rfl) rfl
theorem kw_494 : (Cond.methodLink RL 65 yX5_greedy) ∈ ALLW := alw (tm2 (i := 153) rfl) rfl
theorem kw_495 : (Cond.instanceMethod yX5_greedy) ∈ ALLW := alw (tm2 (i := 154) rfl) rfl
theorem kw_496 : (Cond.selects RX5 yX5_greedy yX5_greedy) ∈ ALLW := alw (tm2 (i := 155) rfl) rfl
theorem kw_497 : (Cond.code yX6_greedy cX6_greedy 13 (some .int)) ∈ ALLW := alw (tm3 (i := 208) rfl) rfl
theorem kw_498 : (Cond.methodLink RL 68 yX6_greedy) ∈ ALLW := alw (tm3 (i := 205) rfl) rfl
theorem kw_499 : (Cond.instanceMethod yX6_greedy) ∈ ALLW := alw (tm3 (i := 206) rfl) rfl
theorem kw_500 : (Cond.selects RX6 yX6_greedy yX6_greedy) ∈ ALLW := alw (tm3 (i := 207) rfl) rfl
theorem kw_501 : (Cond.code yX5_sketch cX5_sketch 3 (some .int)) ∈ ALLW := alw (tm2 (i := 185) rfl) rfl
theorem kw_502 : (Cond.methodLink RL 69 yX5_sketch) ∈ ALLW := alw (tm2 (i := 182) rfl) rfl
theorem kw_503 : (Cond.instanceMethod yX5_sketch) ∈ ALLW := alw (tm2 (i := 183) rfl) rfl
theorem kw_504 : (Cond.selects RX5 yX5_sketch yX5_sketch) ∈ ALLW := alw (tm2 (i := 184) rfl) rfl
theorem kw_505 : (Cond.code yX6_sketch cX6_sketch 4 (some .int)) ∈ ALLW := alw (tm3 (i := 217) rfl) rfl
theorem kw_506 : (Cond.methodLink RL 72 yX6_sketch) ∈ ALLW := alw (tm3 (i := 214) rfl) rfl
theorem kw_507 : (Cond.instanceMethod yX6_sketch) ∈ ALLW := alw (tm3 (i := 215) rfl) rfl
theorem kw_508 : (Cond.selects RX6 yX6_sketch yX6_sketch) ∈ ALLW := alw (tm3 (i := 216) rfl) rfl
theorem kw_509 : (Cond.code yX5_add cX5_add 3 (some .int)) ∈ ALLW := alw (tm2 (i := 190) rfl) rfl
theorem kw_510 : (Cond.methodLink RL 73 yX5_add) ∈ ALLW := alw (tm2 (i := 187) rfl) rfl
theorem kw_511 : (Cond.instanceMethod yX5_add) ∈ ALLW := alw (tm2 (i := 188) rfl) rfl
theorem kw_512 : (Cond.selects RX5 yX5_add yX5_add) ∈ ALLW := alw (tm2 (i := 189) rfl) rfl
theorem kw_513 : (Cond.code yX6_add cX6_add 3 (some .int)) ∈ ALLW := alw (tm3 (i := 222) rfl) rfl
theorem kw_514 : (Cond.methodLink RL 76 yX6_add) ∈ ALLW := alw (tm3 (i := 219) rfl) rfl
theorem kw_515 : (Cond.instanceMethod yX6_add) ∈ ALLW := alw (tm3 (i := 220) rfl) rfl
theorem kw_516 : (Cond.selects RX6 yX6_add yX6_add) ∈ ALLW := alw (tm3 (i := 221) rfl) rfl
theorem kw_517 : (Cond.code yX5_decode cX5_decode 2 (some .int)) ∈ ALLW := alw (tm2 (i := 218) rfl) rfl
theorem kw_518 : (Cond.methodLink RL 77 yX5_decode) ∈ ALLW := alw (tm2 (i := 215) rfl) rfl
theorem kw_519 : (Cond.instanceMethod yX5_decode) ∈ ALLW := alw (tm2 (i := 216) rfl) rfl
theorem kw_520 : (Cond.selects RX5 yX5_decode yX5_decode) ∈ ALLW := alw (tm2 (i := 217) rfl) rfl
theorem kw_521 : (Cond.code yX6_decode cX6_decode 8 (some .int)) ∈ ALLW := alw (tm4 (i := 2) rfl) rfl
theorem kw_522 : (Cond.methodLink RL 81 yX6_decode) ∈ ALLW := alw (tm3 (i := 239) rfl) rfl
theorem kw_523 : (Cond.instanceMethod yX6_decode) ∈ ALLW := alw (tm4 (i := 0) rfl) rfl
theorem kw_524 : (Cond.selects RX6 yX6_decode yX6_decode) ∈ ALLW := alw (tm4 (i := 1) rfl) rfl
theorem kw_525 : (Cond.code yX5_decoded cX5_decoded 3 (some .int)) ∈ ALLW := alw (tm3 (i := 6) rfl) rfl
theorem kw_526 : (Cond.methodLink RL 82 yX5_decoded) ∈ ALLW := alw (tm3 (i := 3) rfl) rfl
theorem kw_527 : (Cond.instanceMethod yX5_decoded) ∈ ALLW := alw (tm3 (i := 4) rfl) rfl
theorem kw_528 : (Cond.selects RX5 yX5_decoded yX5_decoded) ∈ ALLW := alw (tm3 (i := 5) rfl) rfl
theorem kw_529 : (Cond.code yX6_decoded cX6_decoded 3 (some .int)) ∈ ALLW := alw (tm4 (i := 10) rfl) rfl
theorem kw_530 : (Cond.methodLink RL 85 yX6_decoded) ∈ ALLW := alw (tm4 (i := 7) rfl) rfl
theorem kw_531 : (Cond.instanceMethod yX6_decoded) ∈ ALLW := alw (tm4 (i := 8) rfl) rfl
theorem kw_532 : (Cond.selects RX6 yX6_decoded yX6_decoded) ∈ ALLW := alw (tm4 (i := 9) rfl) rfl
theorem kw_533 : (Cond.code yX5_bucket cX5_bucket 4 (some .long)) ∈ ALLW := alw (tm3 (i := 12) rfl) rfl
theorem kw_534 : (Cond.methodLink RL 86 yX5_bucket) ∈ ALLW := alw (tm3 (i := 9) rfl) rfl
theorem kw_535 : (Cond.instanceMethod yX5_bucket) ∈ ALLW := alw (tm3 (i := 10) rfl) rfl
theorem kw_536 : (Cond.selects RX5 yX5_bucket yX5_bucket) ∈ ALLW := alw (tm3 (i := 11) rfl) rfl
theorem kw_537 : (Cond.code yX6_bucket cX6_bucket 4 (some .long)) ∈ ALLW := alw (tm4 (i := 16) rfl) rfl
theorem kw_538 : (Cond.methodLink RL 90 yX6_bucket) ∈ ALLW := alw (tm4 (i := 13) rfl) rfl
theorem kw_539 : (Cond.instanceMethod yX6_bucket) ∈ ALLW := alw (tm4 (i := 14) rfl) rfl
theorem kw_540 : (Cond.selects RX6 yX6_bucket yX6_bucket) ∈ ALLW := alw (tm4 (i := 15) rfl) rfl
theorem kw_541 : (Cond.code yX5_count cX5_count 2 (some .int)) ∈ ALLW := alw (tm3 (i := 18) rfl) rfl
theorem kw_542 : (Cond.methodLink RL 91 yX5_count) ∈ ALLW := alw (tm3 (i := 15) rfl) rfl
theorem kw_543 : (Cond.instanceMethod yX5_count) ∈ ALLW := alw (tm3 (i := 16) rfl) rfl
theorem kw_544 : (Cond.selects RX5 yX5_count yX5_count) ∈ ALLW := alw (tm3 (i := 17) rfl) rfl
theorem kw_545 : (Cond.code yX6_count cX6_count 2 (some .int)) ∈ ALLW := alw (tm4 (i := 21) rfl) rfl
theorem kw_546 : (Cond.methodLink RL 94 yX6_count) ∈ ALLW := alw (tm4 (i := 18) rfl) rfl
theorem kw_547 : (Cond.instanceMethod yX6_count) ∈ ALLW := alw (tm4 (i := 19) rfl) rfl
theorem kw_548 : (Cond.selects RX6 yX6_count yX6_count) ∈ ALLW := alw (tm4 (i := 20) rfl) rfl
theorem kw_549 : (Cond.instanceMethod objectInit) ∈ ALLW := alw (tm1 (i := 17) rfl) rfl
theorem kw_550 : (Cond.code objectInit ⟨#[0xb1]⟩ 1 none) ∈ ALLW := alw (tm1 (i := 18) rfl) rfl
theorem kw_551 : (Cond.methodLink RX0 3 objectInit) ∈ ALLW := alw (tm1 (i := 129) rfl) rfl
theorem kw_552 : (Cond.arrayClass .int) ∈ ALLW := alw (tm1 (i := 62) rfl) rfl
theorem kw_553 : (Cond.methodLink RX1 3 objectInit) ∈ ALLW := alw (tm1 (i := 112) rfl) rfl
theorem kw_554 : (Cond.methodLink RX2 3 objectInit) ∈ ALLW := alw (tm1 (i := 68) rfl) rfl
theorem kw_555 : (Cond.classLink RX2 9 "[[I") ∈ ALLW := alw (tm1 (i := 69) rfl) rfl
theorem kw_556 : (Cond.methodLink RX6 1 objectInit) ∈ ALLW := alw (tm3 (i := 24) rfl) rfl
theorem kw_557 : (Cond.arrayClass .long) ∈ ALLW := alw (tm1 (i := 188) rfl) rfl
theorem kw_558 : (Cond.methodLink RX4 3 objectInit) ∈ ALLW := alw (tm1 (i := 24) rfl) rfl
theorem kw_559 : (Cond.classLink RX4 9 "[[I") ∈ ALLW := alw (tm1 (i := 25) rfl) rfl
theorem kw_560 : (Cond.methodLink RX4 20 yX4_shape) ∈ ALLW := alw (tm1 (i := 27) rfl) rfl
theorem kw_561 : (Cond.methodLink RX3 1 objectInit) ∈ ALLW := alw (tm1 (i := 151) rfl) rfl
theorem kw_562 : (Cond.methodLink RX3 23 yX3_shape) ∈ ALLW := alw (tm1 (i := 152) rfl) rfl
theorem kw_563 : (Cond.methodLink RX5 1 objectInit) ∈ ALLW := alw (tm1 (i := 16) rfl) rfl
theorem kw_564 : (Cond.classLink RX5 7 RX4) ∈ ALLW := alw (tm1 (i := 19) rfl) rfl
theorem kw_565 : (Cond.instantiable RX4 5) ∈ ALLW := alw (tm1 (i := 20) rfl) rfl
theorem kw_566 : (Cond.code yX4_init cX4_init 1 none) ∈ ALLW := alw (tm1 (i := 23) rfl) rfl
theorem kw_567 : (Cond.methodLink RX5 9 yX4_init) ∈ ALLW := alw (tm1 (i := 21) rfl) rfl
theorem kw_568 : (Cond.instanceMethod yX4_init) ∈ ALLW := alw (tm1 (i := 22) rfl) rfl
theorem kw_569 : (Cond.classLink RX5 16 RX2) ∈ ALLW := alw (tm1 (i := 63) rfl) rfl
theorem kw_570 : (Cond.instantiable RX2 11) ∈ ALLW := alw (tm1 (i := 64) rfl) rfl
theorem kw_571 : (Cond.code yX2_init cX2_init 2 none) ∈ ALLW := alw (tm1 (i := 67) rfl) rfl
theorem kw_572 : (Cond.methodLink RX5 18 yX2_init) ∈ ALLW := alw (tm1 (i := 65) rfl) rfl
theorem kw_573 : (Cond.instanceMethod yX2_init) ∈ ALLW := alw (tm1 (i := 66) rfl) rfl
theorem kw_574 : (Cond.classLink RX5 25 RX1) ∈ ALLW := alw (tm1 (i := 107) rfl) rfl
theorem kw_575 : (Cond.instantiable RX1 3) ∈ ALLW := alw (tm1 (i := 108) rfl) rfl
theorem kw_576 : (Cond.code yX1_init cX1_init 3 none) ∈ ALLW := alw (tm1 (i := 111) rfl) rfl
theorem kw_577 : (Cond.methodLink RX5 27 yX1_init) ∈ ALLW := alw (tm1 (i := 109) rfl) rfl
theorem kw_578 : (Cond.instanceMethod yX1_init) ∈ ALLW := alw (tm1 (i := 110) rfl) rfl
theorem kw_579 : (Cond.classLink RX5 34 RX0) ∈ ALLW := alw (tm1 (i := 124) rfl) rfl
theorem kw_580 : (Cond.instantiable RX0 5) ∈ ALLW := alw (tm1 (i := 125) rfl) rfl
theorem kw_581 : (Cond.code yX0_init cX0_init 2 none) ∈ ALLW := alw (tm1 (i := 128) rfl) rfl
theorem kw_582 : (Cond.methodLink RX5 36 yX0_init) ∈ ALLW := alw (tm1 (i := 126) rfl) rfl
theorem kw_583 : (Cond.instanceMethod yX0_init) ∈ ALLW := alw (tm1 (i := 127) rfl) rfl
theorem kw_584 : (Cond.classLink RX5 41 RX3) ∈ ALLW := alw (tm1 (i := 146) rfl) rfl
theorem kw_585 : (Cond.instantiable RX3 8) ∈ ALLW := alw (tm1 (i := 147) rfl) rfl
theorem kw_586 : (Cond.code yX3_init cX3_init 1 none) ∈ ALLW := alw (tm1 (i := 150) rfl) rfl
theorem kw_587 : (Cond.methodLink RX5 43 yX3_init) ∈ ALLW := alw (tm1 (i := 148) rfl) rfl
theorem kw_588 : (Cond.instanceMethod yX3_init) ∈ ALLW := alw (tm1 (i := 149) rfl) rfl
theorem kw_589 : (Cond.classLink RX5 48 "[[I") ∈ ALLW := alw (tm1 (i := 189) rfl) rfl
theorem kw_590 : (Cond.instantiable RX5 7) ∈ ALLW := alw (tm1 (i := 12) rfl) rfl
theorem kw_591 : (Cond.instantiable RX6 17) ∈ ALLW := alw (tm3 (i := 20) rfl) rfl
theorem kw_592 : (Cond.classLink RL 7 RX5) ∈ ALLW := alw (tm1 (i := 11) rfl) rfl
theorem kw_593 : (Cond.code yX5_init cX5_init 1 none) ∈ ALLW := alw (tm1 (i := 15) rfl) rfl
theorem kw_594 : (Cond.methodLink RL 9 yX5_init) ∈ ALLW := alw (tm1 (i := 13) rfl) rfl
theorem kw_595 : (Cond.instanceMethod yX5_init) ∈ ALLW := alw (tm1 (i := 14) rfl) rfl
theorem kw_596 : (Cond.classLink RL 10 RX6) ∈ ALLW := alw (tm3 (i := 19) rfl) rfl
theorem kw_597 : (Cond.code yX6_init cX6_init 1 none) ∈ ALLW := alw (tm3 (i := 23) rfl) rfl
theorem kw_598 : (Cond.methodLink RL 12 yX6_init) ∈ ALLW := alw (tm3 (i := 21) rfl) rfl
theorem kw_599 : (Cond.instanceMethod yX6_init) ∈ ALLW := alw (tm3 (i := 22) rfl) rfl
