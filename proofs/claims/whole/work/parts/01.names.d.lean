set_option maxRecDepth 20000 in
theorem ggX0_countFor_X0_countExtensions : GoodIn wsX0_countFor wsX0_countExtensions := goodIn_r _ [5, 6, 7, 4, 8, 9, 10, 11, 12, 13, 14, 15, 16, 17, 18, 19, 20, 21, 22, 23, 24, 25, 26, 2, 3, 28, 29, 30, 31, 32] (by decide +kernel) (by decide +kernel)
set_option maxRecDepth 20000 in
theorem gX0_countFor_X0_countExtensions : GoodIn wsX0_countFor (va_wsS RX0 15 yX0_countExtensions wsX0_countExtensions) := goodIn_app (goodIn_of _ (by decide +kernel)) ggX0_countFor_X0_countExtensions
set_option maxRecDepth 20000 in
theorem ggX0_countExtensions_X0_isHomomorphism : GoodIn wsX0_countExtensions wsX0_isHomomorphism := goodIn_r _ [4, 5, 6, 7, 8, 9, 10, 11, 12, 13, 14, 15, 16, 17, 18, 19, 20, 21, 3, 22, 25, 26, 27, 28, 29] (by decide +kernel) (by decide +kernel)
set_option maxRecDepth 20000 in
theorem gX0_countExtensions_X0_isHomomorphism : GoodIn wsX0_countExtensions (va_wsS RX0 25 yX0_isHomomorphism wsX0_isHomomorphism) := goodIn_app (goodIn_of _ (by decide +kernel)) ggX0_countExtensions_X0_isHomomorphism
set_option maxRecDepth 20000 in
theorem ggX0_countExtensions_X0_countExtensions : GoodIn wsX0_countExtensions wsX0_countExtensions := goodIn_r _ [0, 1, 2, 3, 4, 5, 6, 7, 8, 9, 10, 11, 12, 13, 14, 15, 16, 17, 18, 19, 20, 21, 22, 23, 24, 25, 26, 27, 28, 29] (by decide +kernel) (by decide +kernel)
set_option maxRecDepth 20000 in
theorem gX0_countExtensions_X0_countExtensions : GoodIn wsX0_countExtensions (va_wsS RX0 15 yX0_countExtensions wsX0_countExtensions) := goodIn_app (goodIn_of _ (by decide +kernel)) ggX0_countExtensions_X0_countExtensions
set_option maxRecDepth 20000 in
theorem ggX0_isHomomorphism_X5_product : GoodIn wsX0_isHomomorphism wsX5_product := goodIn_r _ [5, 6, 7, 8, 9, 10, 11, 12, 13, 14, 15, 20, 21, 22, 23, 24] (by decide +kernel) (by decide +kernel)
set_option maxRecDepth 20000 in
theorem gX0_isHomomorphism_X5_product : GoodIn wsX0_isHomomorphism (wsV RX0 29 RX5 yX5_product wsX5_product) := goodIn_app (goodIn_of _ (by decide +kernel)) ggX0_isHomomorphism_X5_product
set_option maxRecDepth 20000 in
theorem ggX0_isHomomorphism_X0_imageOf : GoodIn wsX0_isHomomorphism wsX0_imageOf := goodIn_r _ [19] (by decide +kernel) (by decide +kernel)
set_option maxRecDepth 20000 in
theorem gX0_isHomomorphism_X0_imageOf : GoodIn wsX0_isHomomorphism (va_wsS RX0 33 yX0_imageOf wsX0_imageOf) := goodIn_app (goodIn_of _ (by decide +kernel)) ggX0_isHomomorphism_X0_imageOf
set_option maxRecDepth 20000 in
theorem ggX1_removeLast_X1_at : GoodIn wsX1_removeLast wsX1_at := goodIn_r _ [6, 1, 7, 8, 9, 10] (by decide +kernel) (by decide +kernel)
set_option maxRecDepth 20000 in
theorem gX1_removeLast_X1_at : GoodIn wsX1_removeLast (wsV RX1 22 RX1 yX1_at wsX1_at) := goodIn_app (goodIn_of _ (by decide +kernel)) ggX1_removeLast_X1_at
set_option maxRecDepth 20000 in
theorem ggX2_get_X2_holds : GoodIn wsX2_get wsX2_holds := goodIn_r _ [5] (by decide +kernel) (by decide +kernel)
set_option maxRecDepth 20000 in
theorem gX2_get_X2_holds : GoodIn wsX2_get (va_wsS RX2 15 yX2_holds wsX2_holds) := goodIn_app (goodIn_of _ (by decide +kernel)) ggX2_get_X2_holds
set_option maxRecDepth 20000 in
theorem ggX2_put_X2_holds : GoodIn wsX2_put wsX2_holds := goodIn_r _ [5] (by decide +kernel) (by decide +kernel)
set_option maxRecDepth 20000 in
theorem gX2_put_X2_holds : GoodIn wsX2_put (va_wsS RX2 15 yX2_holds wsX2_holds) := goodIn_app (goodIn_of _ (by decide +kernel)) ggX2_put_X2_holds
set_option maxRecDepth 20000 in
theorem ggX3_init_X6_init : GoodIn wsX3_init wsX6_init := goodIn_r _ [10, 11, 2, 3, 12, 13, 14, 15, 16, 17, 18, 19, 20, 21, 22, 23, 24, 25, 26, 27, 28, 29, 30, 31, 32, 33, 34, 35, 36, 37, 38, 39, 40, 41, 42, 43, 44, 45, 46, 47, 48, 49, 50, 56, 57, 58, 59, 53, 54, 55, 60, 61, 62, 63, 64, 65] (by decide +kernel) (by decide +kernel)
set_option maxRecDepth 20000 in
theorem gX3_init_X6_init_n21 : GoodIn wsX3_init (wsX6_init) := ggX3_init_X6_init
set_option maxRecDepth 20000 in
theorem ggX3_remember_X3_forgetOldest : GoodIn wsX3_remember wsX3_forgetOldest := goodIn_r _ [7, 2, 1, 47, 48] (by decide +kernel) (by decide +kernel)
set_option maxRecDepth 20000 in
theorem gX3_remember_X3_forgetOldest : GoodIn wsX3_remember (wsV RX3 22 RX3 yX3_forgetOldest wsX3_forgetOldest) := goodIn_app (goodIn_of _ (by decide +kernel)) ggX3_remember_X3_forgetOldest
set_option maxRecDepth 20000 in
theorem ggX3_remember_X6_copyFrom : GoodIn wsX3_remember wsX6_copyFrom := goodIn_r _ [12, 13, 14, 15, 16, 17, 18, 19, 20, 21, 22, 23, 24, 25, 26, 27, 28, 29, 30, 31, 32, 33, 34, 35, 36, 37, 38, 39, 40, 41, 42, 43, 44, 45, 46, 49, 50, 51, 52, 53, 54, 55, 56, 57, 58, 59, 60, 61] (by decide +kernel) (by decide +kernel)
set_option maxRecDepth 20000 in
theorem gX3_remember_X6_copyFrom : GoodIn wsX3_remember (wsV RX3 25 RX6 yX6_copyFrom wsX6_copyFrom) := goodIn_app (goodIn_of _ (by decide +kernel)) ggX3_remember_X6_copyFrom
set_option maxRecDepth 20000 in
theorem ggX3_restoreLatest_X6_copyFrom : GoodIn wsX3_restoreLatest wsX6_copyFrom := goodIn_r _ [7, 8, 9, 10, 11, 12, 13, 14, 15, 16, 17, 18, 19, 20, 21, 22, 23, 24, 25, 26, 27, 28, 29, 30, 31, 32, 33, 34, 35, 36, 37, 38, 39, 40, 41, 44, 45, 46, 47, 48, 49, 50, 51, 52, 53, 54, 55, 56] (by decide +kernel) (by decide +kernel)
set_option maxRecDepth 20000 in
theorem gX3_restoreLatest_X6_copyFrom : GoodIn wsX3_restoreLatest (wsV RX3 25 RX6 yX6_copyFrom wsX6_copyFrom) := goodIn_app (goodIn_of _ (by decide +kernel)) ggX3_restoreLatest_X6_copyFrom
set_option maxRecDepth 20000 in
theorem ggX4_orderFor_X4_identity : GoodIn wsX4_orderFor wsX4_identity := goodIn_r _ [7] (by decide +kernel) (by decide +kernel)
set_option maxRecDepth 20000 in
theorem gX4_orderFor_X4_identity : GoodIn wsX4_orderFor (va_wsS RX4 28 yX4_identity wsX4_identity) := goodIn_app (goodIn_of _ (by decide +kernel)) ggX4_orderFor_X4_identity
set_option maxRecDepth 20000 in
theorem ggX4_orderFor_X4_include : GoodIn wsX4_orderFor wsX4_include := goodIn_r _ [11, 1, 2, 3, 12, 13, 6, 14, 15, 16, 17, 18, 19, 20, 21, 22, 23, 24, 43, 44, 45] (by decide +kernel) (by decide +kernel)
set_option maxRecDepth 20000 in
theorem gX4_orderFor_X4_include : GoodIn wsX4_orderFor (wsV RX4 32 RX4 yX4_include wsX4_include) := goodIn_app (goodIn_of _ (by decide +kernel)) ggX4_orderFor_X4_include
set_option maxRecDepth 20000 in
theorem ggX4_orderFor_X4_followedByColumn : GoodIn wsX4_orderFor wsX4_followedByColumn := goodIn_r _ [27, 15, 16, 6, 17, 28, 29, 30, 31, 32, 33, 34, 35, 36, 37, 38, 39, 40, 41, 42, 46, 47, 48, 49, 50] (by decide +kernel) (by decide +kernel)
set_option maxRecDepth 20000 in
theorem gX4_orderFor_X4_followedByColumn : GoodIn wsX4_orderFor (va_wsS RX4 36 yX4_followedByColumn wsX4_followedByColumn) := goodIn_app (goodIn_of _ (by decide +kernel)) ggX4_orderFor_X4_followedByColumn
set_option maxRecDepth 20000 in
theorem ggX4_include_X4_rankOf : GoodIn wsX4_include wsX4_rankOf := goodIn_r _ [7, 8, 9, 6, 10, 11, 12, 13, 14, 15, 16, 17] (by decide +kernel) (by decide +kernel)
set_option maxRecDepth 20000 in
theorem gX4_include_X4_rankOf : GoodIn wsX4_include (va_wsS RX4 40 yX4_rankOf wsX4_rankOf) := goodIn_app (goodIn_of _ (by decide +kernel)) ggX4_include_X4_rankOf
set_option maxRecDepth 20000 in
theorem ggX4_followedByColumn_X4_imageOf : GoodIn wsX4_followedByColumn wsX4_imageOf := goodIn_r _ [4] (by decide +kernel) (by decide +kernel)
set_option maxRecDepth 20000 in
theorem gX4_followedByColumn_X4_imageOf : GoodIn wsX4_followedByColumn (va_wsS RX4 44 yX4_imageOf wsX4_imageOf) := goodIn_app (goodIn_of _ (by decide +kernel)) ggX4_followedByColumn_X4_imageOf
set_option maxRecDepth 20000 in
theorem ggX4_followedByColumn_X5_product : GoodIn wsX4_followedByColumn wsX5_product := goodIn_r _ [9, 10, 11, 12, 13, 14, 15, 16, 17, 18, 19, 20, 21, 22, 23, 24] (by decide +kernel) (by decide +kernel)
set_option maxRecDepth 20000 in
theorem gX4_followedByColumn_X5_product : GoodIn wsX4_followedByColumn (wsV RX4 47 RX5 yX5_product wsX5_product) := goodIn_app (goodIn_of _ (by decide +kernel)) ggX4_followedByColumn_X5_product
set_option maxRecDepth 20000 in
theorem ggX4_rankOf_X4_imageOf : GoodIn wsX4_rankOf wsX4_imageOf := goodIn_r _ [4] (by decide +kernel) (by decide +kernel)
set_option maxRecDepth 20000 in
theorem gX4_rankOf_X4_imageOf : GoodIn wsX4_rankOf (va_wsS RX4 44 yX4_imageOf wsX4_imageOf) := goodIn_app (goodIn_of _ (by decide +kernel)) ggX4_rankOf_X4_imageOf
set_option maxRecDepth 20000 in
theorem ggX4_rankOf_J6_bitCount_0f7a4 : GoodIn wsX4_rankOf wsJ6_bitCount_0f7a4 := goodIn_r _ [8, 9, 10, 11] (by decide +kernel) (by decide +kernel)
set_option maxRecDepth 20000 in
theorem gX4_rankOf_J6_bitCount_0f7a4 : GoodIn wsX4_rankOf (va_wsS RX4 50 yJ6_bitCount_0f7a4 wsJ6_bitCount_0f7a4) := goodIn_app (goodIn_of _ (by decide +kernel)) ggX4_rankOf_J6_bitCount_0f7a4
set_option maxRecDepth 20000 in
theorem ggX5_init_X2_init : GoodIn wsX5_init wsX2_init := goodIn_r _ [12, 13, 2, 3, 14, 15, 20] (by decide +kernel) (by decide +kernel)
set_option maxRecDepth 20000 in
theorem gX5_init_X2_init_n17 : GoodIn wsX5_init (wsX2_init) := ggX5_init_X2_init
set_option maxRecDepth 20000 in
theorem ggX5_hasElements_X5_hasElement : GoodIn wsX5_hasElements wsX5_hasElement := goodIn_r _ [5, 6, 7, 8, 9, 10] (by decide +kernel) (by decide +kernel)
set_option maxRecDepth 20000 in
theorem gX5_hasElements_X5_hasElement : GoodIn wsX5_hasElements (wsV RX5 28 RX5 yX5_hasElement wsX5_hasElement) := goodIn_app (goodIn_of _ (by decide +kernel)) ggX5_hasElements_X5_hasElement
set_option maxRecDepth 20000 in
theorem ggX5_product_X2_get : GoodIn wsX5_product wsX2_get := goodIn_r _ [6, 7, 8, 9, 5, 10, 15] (by decide +kernel) (by decide +kernel)
set_option maxRecDepth 20000 in
theorem gX5_product_X2_get : GoodIn wsX5_product (wsV RX5 32 RX2 yX2_get wsX2_get) := goodIn_app (goodIn_of _ (by decide +kernel)) ggX5_product_X2_get
set_option maxRecDepth 20000 in
theorem ggX5_divide_X2_get : GoodIn wsX5_divide wsX2_get := goodIn_r _ [6, 7, 8, 9, 5, 10, 15] (by decide +kernel) (by decide +kernel)
set_option maxRecDepth 20000 in
theorem gX5_divide_X2_get : GoodIn wsX5_divide (wsV RX5 32 RX2 yX2_get wsX2_get) := goodIn_app (goodIn_of _ (by decide +kernel)) ggX5_divide_X2_get
set_option maxRecDepth 20000 in
theorem ggX5_setProduct_X2_put : GoodIn wsX5_setProduct wsX2_put := goodIn_r _ [6, 7, 8, 9, 5, 10, 31] (by decide +kernel) (by decide +kernel)
set_option maxRecDepth 20000 in
theorem gX5_setProduct_X2_put : GoodIn wsX5_setProduct (wsV RX5 36 RX2 yX2_put wsX2_put) := goodIn_app (goodIn_of _ (by decide +kernel)) ggX5_setProduct_X2_put
set_option maxRecDepth 20000 in
theorem ggX5_setProduct_X5_refreshQuotients : GoodIn wsX5_setProduct wsX5_refreshQuotients := goodIn_r _ [15, 16, 17, 18, 19, 20, 14, 21, 1, 22, 23, 24, 25, 5, 26, 7, 8, 9, 10, 2, 3, 4, 6, 27, 28, 29, 30, 31] (by decide +kernel) (by decide +kernel)
set_option maxRecDepth 20000 in
theorem gX5_setProduct_X5_refreshQuotients : GoodIn wsX5_setProduct (wsV RX5 40 RX5 yX5_refreshQuotients wsX5_refreshQuotients) := goodIn_app (goodIn_of _ (by decide +kernel)) ggX5_setProduct_X5_refreshQuotients
set_option maxRecDepth 20000 in
theorem ggX5_becomeLinear_J9_floorMod_7cf53 : GoodIn wsX5_becomeLinear wsJ9_floorMod_7cf53 := goodIn_r _ [6] (by decide +kernel) (by decide +kernel)
set_option maxRecDepth 20000 in
theorem gX5_becomeLinear_J9_floorMod_7cf53 : GoodIn wsX5_becomeLinear (va_wsS RX5 43 yJ9_floorMod_7cf53 wsJ9_floorMod_7cf53) := goodIn_app (goodIn_of _ (by decide +kernel)) ggX5_becomeLinear_J9_floorMod_7cf53
set_option maxRecDepth 20000 in
theorem ggX5_becomeLinear_X2_put : GoodIn wsX5_becomeLinear wsX2_put := goodIn_r _ [11, 12, 13, 14, 10, 15, 35] (by decide +kernel) (by decide +kernel)
set_option maxRecDepth 20000 in
theorem gX5_becomeLinear_X2_put : GoodIn wsX5_becomeLinear (wsV RX5 36 RX2 yX2_put wsX2_put) := goodIn_app (goodIn_of _ (by decide +kernel)) ggX5_becomeLinear_X2_put
set_option maxRecDepth 20000 in
theorem ggX5_becomeLinear_X5_refreshQuotients : GoodIn wsX5_becomeLinear wsX5_refreshQuotients := goodIn_r _ [20, 21, 1, 22, 23, 24, 19, 25, 2, 26, 27, 28, 29, 10, 30, 12, 13, 14, 15, 7, 8, 9, 11, 31, 32, 33, 34, 35] (by decide +kernel) (by decide +kernel)
set_option maxRecDepth 20000 in
theorem gX5_becomeLinear_X5_refreshQuotients : GoodIn wsX5_becomeLinear (wsV RX5 40 RX5 yX5_refreshQuotients wsX5_refreshQuotients) := goodIn_app (goodIn_of _ (by decide +kernel)) ggX5_becomeLinear_X5_refreshQuotients
set_option maxRecDepth 20000 in
theorem ggX5_becomeConjugation_X5_conjugate : GoodIn wsX5_becomeConjugation wsX5_conjugate := goodIn_r _ [6, 7, 8, 5, 9, 10, 11, 12] (by decide +kernel) (by decide +kernel)
set_option maxRecDepth 20000 in
theorem gX5_becomeConjugation_X5_conjugate : GoodIn wsX5_becomeConjugation (va_wsS RX5 48 yX5_conjugate wsX5_conjugate) := goodIn_app (goodIn_of _ (by decide +kernel)) ggX5_becomeConjugation_X5_conjugate
set_option maxRecDepth 20000 in
theorem ggX5_becomeConjugation_X2_put : GoodIn wsX5_becomeConjugation wsX2_put := goodIn_r _ [17, 18, 19, 20, 16, 21, 40] (by decide +kernel) (by decide +kernel)
set_option maxRecDepth 20000 in
theorem gX5_becomeConjugation_X2_put : GoodIn wsX5_becomeConjugation (wsV RX5 36 RX2 yX2_put wsX2_put) := goodIn_app (goodIn_of _ (by decide +kernel)) ggX5_becomeConjugation_X2_put
set_option maxRecDepth 20000 in
theorem ggX5_becomeConjugation_X5_refreshQuotients : GoodIn wsX5_becomeConjugation wsX5_refreshQuotients := goodIn_r _ [25, 26, 1, 27, 28, 29, 5, 30, 2, 31, 32, 33, 34, 16, 35, 18, 19, 20, 21, 13, 14, 15, 17, 36, 37, 38, 39, 40] (by decide +kernel) (by decide +kernel)
set_option maxRecDepth 20000 in
theorem gX5_becomeConjugation_X5_refreshQuotients : GoodIn wsX5_becomeConjugation (wsV RX5 40 RX5 yX5_refreshQuotients wsX5_refreshQuotients) := goodIn_app (goodIn_of _ (by decide +kernel)) ggX5_becomeConjugation_X5_refreshQuotients
set_option maxRecDepth 20000 in
theorem ggX5_becomeDual_X2_copyFrom : GoodIn wsX5_becomeDual wsX2_copyFrom := goodIn_r _ [7, 8, 35] (by decide +kernel) (by decide +kernel)
set_option maxRecDepth 20000 in
theorem gX5_becomeDual_X2_copyFrom : GoodIn wsX5_becomeDual (wsV RX5 51 RX2 yX2_copyFrom wsX2_copyFrom) := goodIn_app (goodIn_of _ (by decide +kernel)) ggX5_becomeDual_X2_copyFrom
set_option maxRecDepth 20000 in
theorem ggX5_becomeDual_X5_refreshQuotients : GoodIn wsX5_becomeDual wsX5_refreshQuotients := goodIn_r _ [13, 14, 15, 16, 17, 18, 12, 19, 1, 2, 20, 21, 22, 6, 23, 8, 24, 25, 26, 27, 28, 29, 30, 31, 32, 33, 34, 35] (by decide +kernel) (by decide +kernel)
set_option maxRecDepth 20000 in
theorem gX5_becomeDual_X5_refreshQuotients : GoodIn wsX5_becomeDual (wsV RX5 40 RX5 yX5_refreshQuotients wsX5_refreshQuotients) := goodIn_app (goodIn_of _ (by decide +kernel)) ggX5_becomeDual_X5_refreshQuotients
set_option maxRecDepth 20000 in
theorem ggX5_copyFrom_X2_copyFrom : GoodIn wsX5_copyFrom wsX2_copyFrom := goodIn_r _ [9, 10, 15] (by decide +kernel) (by decide +kernel)
set_option maxRecDepth 20000 in
theorem gX5_copyFrom_X2_copyFrom : GoodIn wsX5_copyFrom (wsV RX5 51 RX2 yX2_copyFrom wsX2_copyFrom) := goodIn_app (goodIn_of _ (by decide +kernel)) ggX5_copyFrom_X2_copyFrom
set_option maxRecDepth 20000 in
theorem ggX5_firstUndistributive_X5_product : GoodIn wsX5_firstUndistributive wsX5_product := goodIn_r _ [6, 7, 8, 9, 10, 11, 12, 13, 14, 15, 16, 20, 21, 22, 23, 24] (by decide +kernel) (by decide +kernel)
set_option maxRecDepth 20000 in
theorem gX5_firstUndistributive_X5_product : GoodIn wsX5_firstUndistributive (wsV RX5 55 RX5 yX5_product wsX5_product) := goodIn_app (goodIn_of _ (by decide +kernel)) ggX5_firstUndistributive_X5_product
set_option maxRecDepth 20000 in
theorem ggX5_firstUndistributive_X9_tripleCode : GoodIn wsX5_firstUndistributive wsX9_tripleCode := goodIn_r _ [19] (by decide +kernel) (by decide +kernel)
set_option maxRecDepth 20000 in
theorem gX5_firstUndistributive_X9_tripleCode_n58 : GoodIn wsX5_firstUndistributive (wsX9_tripleCode) := ggX5_firstUndistributive_X9_tripleCode
set_option maxRecDepth 20000 in
theorem ggX5_firstUnidempotent_X5_product : GoodIn wsX5_firstUnidempotent wsX5_product := goodIn_r _ [6, 7, 8, 9, 10, 11, 12, 13, 14, 15, 16, 17, 18, 19, 20, 21] (by decide +kernel) (by decide +kernel)
set_option maxRecDepth 20000 in
theorem gX5_firstUnidempotent_X5_product : GoodIn wsX5_firstUnidempotent (wsV RX5 55 RX5 yX5_product wsX5_product) := goodIn_app (goodIn_of _ (by decide +kernel)) ggX5_firstUnidempotent_X5_product
set_option maxRecDepth 20000 in
theorem ggX5_reachableFrom_X5_withNeighbours : GoodIn wsX5_reachableFrom wsX5_withNeighbours := goodIn_r _ [6, 1, 7, 8, 9, 5, 10, 11, 12, 13, 14, 15, 16, 17, 18, 19, 20, 21, 22, 23, 24, 25, 26, 27, 28, 29, 30, 31, 32, 33, 34, 35, 36, 37, 38, 39] (by decide +kernel) (by decide +kernel)
set_option maxRecDepth 20000 in
theorem gX5_reachableFrom_X5_withNeighbours : GoodIn wsX5_reachableFrom (wsV RX5 62 RX5 yX5_withNeighbours wsX5_withNeighbours) := goodIn_app (goodIn_of _ (by decide +kernel)) ggX5_reachableFrom_X5_withNeighbours
set_option maxRecDepth 20000 in
theorem ggX5_withNeighbours_X5_neighbours : GoodIn wsX5_withNeighbours wsX5_neighbours := goodIn_r _ [6, 1, 7, 8, 9, 5, 10, 11, 12, 13, 14, 15, 16, 17, 18, 19, 20, 21, 22, 23, 24, 25, 26, 27, 28, 29, 30, 31, 32, 33, 34, 35] (by decide +kernel) (by decide +kernel)
set_option maxRecDepth 20000 in
theorem gX5_withNeighbours_X5_neighbours : GoodIn wsX5_withNeighbours (wsV RX5 66 RX5 yX5_neighbours wsX5_neighbours) := goodIn_app (goodIn_of _ (by decide +kernel)) ggX5_withNeighbours_X5_neighbours
set_option maxRecDepth 20000 in
theorem ggX5_neighbours_X5_product : GoodIn wsX5_neighbours wsX5_product := goodIn_r _ [6, 7, 8, 9, 10, 11, 12, 13, 14, 15, 16, 27, 28, 29, 30, 31] (by decide +kernel) (by decide +kernel)
set_option maxRecDepth 20000 in
theorem gX5_neighbours_X5_product : GoodIn wsX5_neighbours (wsV RX5 55 RX5 yX5_product wsX5_product) := goodIn_app (goodIn_of _ (by decide +kernel)) ggX5_neighbours_X5_product
set_option maxRecDepth 20000 in
theorem ggX5_neighbours_X5_isInvertible : GoodIn wsX5_neighbours wsX5_isInvertible := goodIn_r _ [20, 21, 27, 28, 29, 30] (by decide +kernel) (by decide +kernel)
set_option maxRecDepth 20000 in
theorem gX5_neighbours_X5_isInvertible : GoodIn wsX5_neighbours (wsV RX5 69 RX5 yX5_isInvertible wsX5_isInvertible) := goodIn_app (goodIn_of _ (by decide +kernel)) ggX5_neighbours_X5_isInvertible
set_option maxRecDepth 20000 in
theorem ggX5_neighbours_X5_divide : GoodIn wsX5_neighbours wsX5_divide := goodIn_r _ [25, 26, 8, 9, 10, 11, 12, 13, 14, 15, 16, 27, 28, 29, 30, 31] (by decide +kernel) (by decide +kernel)
set_option maxRecDepth 20000 in
theorem gX5_neighbours_X5_divide : GoodIn wsX5_neighbours (wsV RX5 73 RX5 yX5_divide wsX5_divide) := goodIn_app (goodIn_of _ (by decide +kernel)) ggX5_neighbours_X5_divide
set_option maxRecDepth 20000 in
theorem ggX5_refreshQuotients_X5_invertColumn : GoodIn wsX5_refreshQuotients wsX5_invertColumn := goodIn_r _ [7, 2, 8, 9, 10, 11, 12, 13, 14, 15, 16, 17, 18, 19, 20, 21, 22, 23, 24, 25, 26, 27] (by decide +kernel) (by decide +kernel)
set_option maxRecDepth 20000 in
theorem gX5_refreshQuotients_X5_invertColumn : GoodIn wsX5_refreshQuotients (wsV RX5 76 RX5 yX5_invertColumn wsX5_invertColumn) := goodIn_app (goodIn_of _ (by decide +kernel)) ggX5_refreshQuotients_X5_invertColumn
set_option maxRecDepth 20000 in
theorem ggX5_invertColumn_X2_get : GoodIn wsX5_invertColumn wsX2_get := goodIn_r _ [8, 9, 10, 11, 7, 12, 21] (by decide +kernel) (by decide +kernel)
set_option maxRecDepth 20000 in
theorem gX5_invertColumn_X2_get : GoodIn wsX5_invertColumn (wsV RX5 32 RX2 yX2_get wsX2_get) := goodIn_app (goodIn_of _ (by decide +kernel)) ggX5_invertColumn_X2_get
set_option maxRecDepth 20000 in
theorem ggX5_invertColumn_X2_put : GoodIn wsX5_invertColumn wsX2_put := goodIn_r _ [16, 9, 10, 11, 7, 12, 21] (by decide +kernel) (by decide +kernel)
set_option maxRecDepth 20000 in
theorem gX5_invertColumn_X2_put : GoodIn wsX5_invertColumn (wsV RX5 36 RX2 yX2_put wsX2_put) := goodIn_app (goodIn_of _ (by decide +kernel)) ggX5_invertColumn_X2_put
set_option maxRecDepth 20000 in
theorem ggX5_conjugate_X5_sameProducts : GoodIn wsX5_conjugate wsX5_sameProducts := goodIn_r _ [4, 5, 6, 3, 7] (by decide +kernel) (by decide +kernel)
set_option maxRecDepth 20000 in
theorem gX5_conjugate_X5_sameProducts : GoodIn wsX5_conjugate (va_wsS RX5 79 yX5_sameProducts wsX5_sameProducts) := goodIn_app (goodIn_of _ (by decide +kernel)) ggX5_conjugate_X5_sameProducts
set_option maxRecDepth 20000 in
theorem ggX5_sameProducts_X5_image : GoodIn wsX5_sameProducts wsX5_image := goodIn_r _ [4] (by decide +kernel) (by decide +kernel)
set_option maxRecDepth 20000 in
theorem gX5_sameProducts_X5_image : GoodIn wsX5_sameProducts (va_wsS RX5 83 yX5_image wsX5_image) := goodIn_app (goodIn_of _ (by decide +kernel)) ggX5_sameProducts_X5_image
set_option maxRecDepth 20000 in
theorem ggX6_init_X5_init : GoodIn wsX6_init wsX5_init := goodIn_r _ [17, 18, 2, 3, 19, 20, 21, 22, 23, 24, 25, 26, 27, 28, 29, 30, 43, 44, 45, 46, 55] (by decide +kernel) (by decide +kernel)
set_option maxRecDepth 20000 in
theorem gX6_init_X5_init_n9 : GoodIn wsX6_init (wsX5_init) := ggX6_init_X5_init
set_option maxRecDepth 20000 in
theorem ggX6_init_X1_init : GoodIn wsX6_init wsX1_init := goodIn_r _ [32, 33, 2, 3, 34, 35, 29, 36, 50, 51, 52] (by decide +kernel) (by decide +kernel)
set_option maxRecDepth 20000 in
theorem gX6_init_X1_init_n18 : GoodIn wsX6_init (wsX1_init) := ggX6_init_X1_init
set_option maxRecDepth 20000 in
theorem ggX6_init_X8_init : GoodIn wsX6_init wsX8_init := goodIn_r _ [38, 39, 2, 3, 40, 41, 21, 22, 42, 26, 27, 28, 29, 30, 53, 54, 55] (by decide +kernel) (by decide +kernel)
set_option maxRecDepth 20000 in
theorem gX6_init_X8_init_n25 : GoodIn wsX6_init (wsX8_init) := ggX6_init_X8_init
set_option maxRecDepth 20000 in
theorem ggX6_becomeInitial_X5_becomeLinear : GoodIn wsX6_becomeInitial wsX5_becomeLinear := goodIn_r _ [8, 9, 10, 11, 12, 13, 14, 15, 16, 17, 18, 19, 20, 21, 22, 23, 24, 25, 26, 7, 27, 28, 29, 30, 31, 32, 33, 34, 35, 36, 37, 64, 65, 66, 67, 68] (by decide +kernel) (by decide +kernel)
set_option maxRecDepth 20000 in
theorem gX6_becomeInitial_X5_becomeLinear : GoodIn wsX6_becomeInitial (wsV RX6 30 RX5 yX5_becomeLinear wsX5_becomeLinear) := goodIn_app (goodIn_of _ (by decide +kernel)) ggX6_becomeInitial_X5_becomeLinear
set_option maxRecDepth 20000 in
theorem ggX6_becomeInitial_X1_restart : GoodIn wsX6_becomeInitial wsX1_restart := goodIn_r _ [42, 43, 44, 69, 70, 71] (by decide +kernel) (by decide +kernel)
set_option maxRecDepth 20000 in
theorem gX6_becomeInitial_X1_restart : GoodIn wsX6_becomeInitial (wsV RX6 34 RX1 yX1_restart wsX1_restart) := goodIn_app (goodIn_of _ (by decide +kernel)) ggX6_becomeInitial_X1_restart
set_option maxRecDepth 20000 in
theorem ggX6_becomeInitial_X1_append : GoodIn wsX6_becomeInitial wsX1_append := goodIn_r _ [48, 44, 49, 69, 70, 71] (by decide +kernel) (by decide +kernel)
set_option maxRecDepth 20000 in
theorem gX6_becomeInitial_X1_append : GoodIn wsX6_becomeInitial (wsV RX6 38 RX1 yX1_append wsX1_append) := goodIn_app (goodIn_of _ (by decide +kernel)) ggX6_becomeInitial_X1_append
set_option maxRecDepth 20000 in
theorem ggX6_becomeInitial_X8_restart : GoodIn wsX6_becomeInitial wsX8_restart := goodIn_r _ [54, 55, 56, 57, 58, 59, 18, 60, 20, 72, 73, 68] (by decide +kernel) (by decide +kernel)
set_option maxRecDepth 20000 in
theorem gX6_becomeInitial_X8_restart : GoodIn wsX6_becomeInitial (wsV RX6 41 RX8 yX8_restart wsX8_restart) := goodIn_app (goodIn_of _ (by decide +kernel)) ggX6_becomeInitial_X8_restart
set_option maxRecDepth 20000 in
theorem ggX6_copyFrom_X5_copyFrom : GoodIn wsX6_copyFrom wsX5_copyFrom := goodIn_r _ [8, 9, 10, 11, 12, 13, 14, 15, 16, 17, 18, 38, 39, 40, 41, 42] (by decide +kernel) (by decide +kernel)
set_option maxRecDepth 20000 in
theorem gX6_copyFrom_X5_copyFrom : GoodIn wsX6_copyFrom (wsV RX6 42 RX5 yX5_copyFrom wsX5_copyFrom) := goodIn_app (goodIn_of _ (by decide +kernel)) ggX6_copyFrom_X5_copyFrom
set_option maxRecDepth 20000 in
theorem ggX6_copyFrom_X1_copyFrom : GoodIn wsX6_copyFrom wsX1_copyFrom := goodIn_r _ [23, 24, 25, 26, 43, 44, 45] (by decide +kernel) (by decide +kernel)
set_option maxRecDepth 20000 in
theorem gX6_copyFrom_X1_copyFrom : GoodIn wsX6_copyFrom (wsV RX6 46 RX1 yX1_copyFrom wsX1_copyFrom) := goodIn_app (goodIn_of _ (by decide +kernel)) ggX6_copyFrom_X1_copyFrom
set_option maxRecDepth 20000 in
theorem ggX6_copyFrom_X8_copyFrom : GoodIn wsX6_copyFrom wsX8_copyFrom := goodIn_r _ [31, 32, 33, 34, 14, 15, 16, 17, 18, 46, 47, 42] (by decide +kernel) (by decide +kernel)
set_option maxRecDepth 20000 in
theorem gX6_copyFrom_X8_copyFrom : GoodIn wsX6_copyFrom (wsV RX6 49 RX8 yX8_copyFrom wsX8_copyFrom) := goodIn_app (goodIn_of _ (by decide +kernel)) ggX6_copyFrom_X8_copyFrom
set_option maxRecDepth 20000 in
theorem ggX7_countAll_X7_startAtFirst : GoodIn wsX7_countAll wsX7_startAtFirst := goodIn_r _ [5, 6, 66, 67, 68, 69, 70, 71, 72, 73, 74, 75, 76, 77, 78] (by decide +kernel) (by decide +kernel)
set_option maxRecDepth 20000 in
theorem gX7_countAll_X7_startAtFirst : GoodIn wsX7_countAll (wsV RX7 22 RX7 yX7_startAtFirst wsX7_startAtFirst) := goodIn_app (goodIn_of _ (by decide +kernel)) ggX7_countAll_X7_startAtFirst
set_option maxRecDepth 20000 in
theorem ggX7_countAll_X7_closes : GoodIn wsX7_countAll wsX7_closes := goodIn_r _ [10, 11, 6, 12, 13, 14, 15, 16, 17, 18, 19, 20, 21, 22, 4, 23, 24, 25, 26, 27, 28, 29, 30, 31, 32, 33, 34, 35, 36, 37, 38, 39, 40, 41, 42, 43, 44, 45, 46, 47, 48, 49, 50, 51, 52, 53, 54, 55, 56, 57, 58, 66, 67, 68, 69, 70, 71, 72, 73, 74, 79, 80, 81, 75, 76, 77, 78] (by decide +kernel) (by decide +kernel)
set_option maxRecDepth 20000 in
theorem gX7_countAll_X7_closes : GoodIn wsX7_countAll (wsV RX7 26 RX7 yX7_closes wsX7_closes) := goodIn_app (goodIn_of _ (by decide +kernel)) ggX7_countAll_X7_closes
set_option maxRecDepth 20000 in
theorem ggX7_countAll_X7_advance : GoodIn wsX7_countAll wsX7_advance := goodIn_r _ [62, 63, 64, 26, 65, 6, 69, 70, 71, 72, 73, 74, 66, 67, 68, 75, 76, 77, 78] (by decide +kernel) (by decide +kernel)
set_option maxRecDepth 20000 in
theorem gX7_countAll_X7_advance : GoodIn wsX7_countAll (wsV RX7 30 RX7 yX7_advance wsX7_advance) := goodIn_app (goodIn_of _ (by decide +kernel)) ggX7_countAll_X7_advance
set_option maxRecDepth 20000 in
theorem ggX7_countWithTotal_X7_startAtFirst : GoodIn wsX7_countWithTotal wsX7_startAtFirst := goodIn_r _ [6, 7, 66, 67, 68, 69, 70, 71, 72, 73, 74, 75, 76, 77, 78] (by decide +kernel) (by decide +kernel)
set_option maxRecDepth 20000 in
theorem gX7_countWithTotal_X7_startAtFirst : GoodIn wsX7_countWithTotal (wsV RX7 22 RX7 yX7_startAtFirst wsX7_startAtFirst) := goodIn_app (goodIn_of _ (by decide +kernel)) ggX7_countWithTotal_X7_startAtFirst
set_option maxRecDepth 20000 in
theorem ggX7_countWithTotal_X7_closes : GoodIn wsX7_countWithTotal wsX7_closes := goodIn_r _ [11, 12, 7, 1, 13, 14, 15, 16, 17, 18, 19, 20, 21, 22, 5, 23, 24, 25, 26, 27, 28, 29, 30, 31, 32, 33, 34, 35, 36, 37, 38, 39, 40, 41, 42, 43, 44, 45, 46, 47, 48, 49, 50, 51, 52, 53, 54, 55, 56, 57, 58, 66, 67, 68, 69, 70, 71, 72, 73, 74, 79, 80, 81, 75, 76, 77, 78] (by decide +kernel) (by decide +kernel)
set_option maxRecDepth 20000 in
theorem gX7_countWithTotal_X7_closes : GoodIn wsX7_countWithTotal (wsV RX7 26 RX7 yX7_closes wsX7_closes) := goodIn_app (goodIn_of _ (by decide +kernel)) ggX7_countWithTotal_X7_closes
set_option maxRecDepth 20000 in
theorem ggX7_countWithTotal_X7_advance : GoodIn wsX7_countWithTotal wsX7_advance := goodIn_r _ [62, 63, 64, 26, 65, 7, 69, 70, 71, 72, 73, 74, 66, 67, 68, 75, 76, 77, 78] (by decide +kernel) (by decide +kernel)
set_option maxRecDepth 20000 in
theorem gX7_countWithTotal_X7_advance : GoodIn wsX7_countWithTotal (wsV RX7 30 RX7 yX7_advance wsX7_advance) := goodIn_app (goodIn_of _ (by decide +kernel)) ggX7_countWithTotal_X7_advance
set_option maxRecDepth 20000 in
theorem ggX7_firstFrom_X7_startAtFirst : GoodIn wsX7_firstFrom wsX7_startAtFirst := goodIn_r _ [5, 6, 66, 67, 68, 69, 70, 71, 72, 73, 74, 75, 76, 77, 78] (by decide +kernel) (by decide +kernel)
set_option maxRecDepth 20000 in
theorem gX7_firstFrom_X7_startAtFirst : GoodIn wsX7_firstFrom (wsV RX7 22 RX7 yX7_startAtFirst wsX7_startAtFirst) := goodIn_app (goodIn_of _ (by decide +kernel)) ggX7_firstFrom_X7_startAtFirst
set_option maxRecDepth 20000 in
theorem ggX7_firstFrom_X7_closes : GoodIn wsX7_firstFrom wsX7_closes := goodIn_r _ [10, 11, 6, 12, 13, 14, 15, 16, 17, 18, 19, 20, 21, 22, 4, 23, 24, 25, 26, 27, 28, 29, 30, 31, 32, 33, 34, 35, 36, 37, 38, 39, 40, 41, 42, 43, 44, 45, 46, 47, 48, 49, 50, 51, 52, 53, 54, 55, 56, 57, 58, 66, 67, 68, 69, 70, 71, 72, 73, 74, 79, 80, 81, 75, 76, 77, 78] (by decide +kernel) (by decide +kernel)
set_option maxRecDepth 20000 in
theorem gX7_firstFrom_X7_closes : GoodIn wsX7_firstFrom (wsV RX7 26 RX7 yX7_closes wsX7_closes) := goodIn_app (goodIn_of _ (by decide +kernel)) ggX7_firstFrom_X7_closes
set_option maxRecDepth 20000 in
theorem ggX7_firstFrom_X7_advance : GoodIn wsX7_firstFrom wsX7_advance := goodIn_r _ [62, 63, 64, 26, 65, 6, 69, 70, 71, 72, 73, 74, 66, 67, 68, 75, 76, 77, 78] (by decide +kernel) (by decide +kernel)
set_option maxRecDepth 20000 in
theorem gX7_firstFrom_X7_advance : GoodIn wsX7_firstFrom (wsV RX7 30 RX7 yX7_advance wsX7_advance) := goodIn_app (goodIn_of _ (by decide +kernel)) ggX7_firstFrom_X7_advance
set_option maxRecDepth 20000 in
theorem ggX7_closes_X1_at : GoodIn wsX7_closes wsX1_at := goodIn_r _ [8, 9, 10, 57, 58, 59] (by decide +kernel) (by decide +kernel)
set_option maxRecDepth 20000 in
theorem gX7_closes_X1_at : GoodIn wsX7_closes (wsV RX7 63 RX1 yX1_at wsX1_at) := goodIn_app (goodIn_of _ (by decide +kernel)) ggX7_closes_X1_at
set_option maxRecDepth 20000 in
theorem ggX7_closes_X7_pass : GoodIn wsX7_closes wsX7_pass := goodIn_r _ [15, 16, 17, 18, 19, 1, 3, 20, 21, 22, 23, 24, 25, 26, 27, 28, 29, 30, 31, 32, 33, 34, 35, 36, 37, 38, 39, 40, 41, 42, 43, 44, 45, 46, 47, 48, 49, 50, 51, 52, 53, 54, 55, 56, 60, 61, 62, 63, 64, 65, 66] (by decide +kernel) (by decide +kernel)
set_option maxRecDepth 20000 in
theorem gX7_closes_X7_pass : GoodIn wsX7_closes (wsV RX7 67 RX7 yX7_pass wsX7_pass) := goodIn_app (goodIn_of _ (by decide +kernel)) ggX7_closes_X7_pass
set_option maxRecDepth 20000 in
theorem ggX7_pass_X2_get : GoodIn wsX7_pass wsX2_get := goodIn_r _ [11, 12, 13, 14, 10, 15, 46] (by decide +kernel) (by decide +kernel)
set_option maxRecDepth 20000 in
theorem gX7_pass_X2_get : GoodIn wsX7_pass (wsV RX7 84 RX2 yX2_get wsX2_get) := goodIn_app (goodIn_of _ (by decide +kernel)) ggX7_pass_X2_get
set_option maxRecDepth 20000 in
theorem ggX7_pass_X8_plus : GoodIn wsX7_pass wsX8_plus := goodIn_r _ [20, 21, 44, 45] (by decide +kernel) (by decide +kernel)
set_option maxRecDepth 20000 in
theorem gX7_pass_X8_plus : GoodIn wsX7_pass (wsV RX7 89 RX8 yX8_plus wsX8_plus) := goodIn_app (goodIn_of _ (by decide +kernel)) ggX7_pass_X8_plus
set_option maxRecDepth 20000 in
theorem ggX7_pass_X5_product : GoodIn wsX7_pass wsX5_product := goodIn_r _ [26, 27, 28, 8, 9, 10, 11, 12, 13, 14, 15, 47, 48, 49, 50, 46] (by decide +kernel) (by decide +kernel)
set_option maxRecDepth 20000 in
theorem gX7_pass_X5_product : GoodIn wsX7_pass (wsV RX7 92 RX5 yX5_product wsX5_product) := goodIn_app (goodIn_of _ (by decide +kernel)) ggX7_pass_X5_product
set_option maxRecDepth 20000 in
theorem ggX7_pass_X5_divide : GoodIn wsX7_pass wsX5_divide := goodIn_r _ [32, 33, 28, 8, 9, 10, 11, 12, 13, 14, 15, 47, 48, 49, 50, 46] (by decide +kernel) (by decide +kernel)
set_option maxRecDepth 20000 in
theorem gX7_pass_X5_divide : GoodIn wsX7_pass (wsV RX7 95 RX5 yX5_divide wsX5_divide) := goodIn_app (goodIn_of _ (by decide +kernel)) ggX7_pass_X5_divide
set_option maxRecDepth 20000 in
theorem ggX7_pass_X8_minus : GoodIn wsX7_pass wsX8_minus := goodIn_r _ [37, 21, 44, 45] (by decide +kernel) (by decide +kernel)
set_option maxRecDepth 20000 in
theorem gX7_pass_X8_minus : GoodIn wsX7_pass (wsV RX7 98 RX8 yX8_minus wsX8_minus) := goodIn_app (goodIn_of _ (by decide +kernel)) ggX7_pass_X8_minus
set_option maxRecDepth 20000 in
theorem ggX8_init_X2_init : GoodIn wsX8_init wsX2_init := goodIn_r _ [10, 11, 2, 3, 12, 13, 16] (by decide +kernel) (by decide +kernel)
set_option maxRecDepth 20000 in
theorem gX8_init_X2_init_n17 : GoodIn wsX8_init (wsX2_init) := ggX8_init_X2_init
set_option maxRecDepth 20000 in
theorem ggX8_restart_X2_clear : GoodIn wsX8_restart wsX2_clear := goodIn_r _ [7, 8, 11] (by decide +kernel) (by decide +kernel)
set_option maxRecDepth 20000 in
theorem gX8_restart_X2_clear : GoodIn wsX8_restart (wsV RX8 22 RX2 yX2_clear wsX2_clear) := goodIn_app (goodIn_of _ (by decide +kernel)) ggX8_restart_X2_clear
set_option maxRecDepth 20000 in
theorem ggX8_copyFrom_X2_copyFrom : GoodIn wsX8_copyFrom wsX2_copyFrom := goodIn_r _ [7, 8, 11] (by decide +kernel) (by decide +kernel)
set_option maxRecDepth 20000 in
theorem gX8_copyFrom_X2_copyFrom : GoodIn wsX8_copyFrom (wsV RX8 25 RX2 yX2_copyFrom wsX2_copyFrom) := goodIn_app (goodIn_of _ (by decide +kernel)) ggX8_copyFrom_X2_copyFrom
set_option maxRecDepth 20000 in
theorem ggX8_addBoundary_X2_get : GoodIn wsX8_addBoundary wsX2_get := goodIn_r _ [6, 7, 8, 9, 5, 10, 38] (by decide +kernel) (by decide +kernel)
set_option maxRecDepth 20000 in
theorem gX8_addBoundary_X2_get : GoodIn wsX8_addBoundary (wsV RX8 34 RX2 yX2_get wsX2_get) := goodIn_app (goodIn_of _ (by decide +kernel)) ggX8_addBoundary_X2_get
set_option maxRecDepth 20000 in
theorem ggX8_addBoundary_X8_plus : GoodIn wsX8_addBoundary wsX8_plus := goodIn_r _ [15, 16, 36, 37] (by decide +kernel) (by decide +kernel)
set_option maxRecDepth 20000 in
theorem gX8_addBoundary_X8_plus : GoodIn wsX8_addBoundary (wsV RX8 38 RX8 yX8_plus wsX8_plus) := goodIn_app (goodIn_of _ (by decide +kernel)) ggX8_addBoundary_X8_plus
set_option maxRecDepth 20000 in
theorem ggX8_addBoundary_X5_product : GoodIn wsX8_addBoundary wsX5_product := goodIn_r _ [21, 22, 23, 3, 4, 5, 6, 7, 8, 9, 10, 32, 33, 34, 35, 38] (by decide +kernel) (by decide +kernel)
set_option maxRecDepth 20000 in
theorem gX8_addBoundary_X5_product : GoodIn wsX8_addBoundary (wsV RX8 41 RX5 yX5_product wsX5_product) := goodIn_app (goodIn_of _ (by decide +kernel)) ggX8_addBoundary_X5_product
set_option maxRecDepth 20000 in
theorem ggX8_addBoundary_X8_minus : GoodIn wsX8_addBoundary wsX8_minus := goodIn_r _ [27, 16, 36, 37] (by decide +kernel) (by decide +kernel)
set_option maxRecDepth 20000 in
theorem gX8_addBoundary_X8_minus : GoodIn wsX8_addBoundary (wsV RX8 44 RX8 yX8_minus wsX8_minus) := goodIn_app (goodIn_of _ (by decide +kernel)) ggX8_addBoundary_X8_minus
set_option maxRecDepth 20000 in
theorem ggX8_addBoundary_X2_put : GoodIn wsX8_addBoundary wsX2_put := goodIn_r _ [31, 7, 8, 9, 5, 10, 38] (by decide +kernel) (by decide +kernel)
set_option maxRecDepth 20000 in
theorem gX8_addBoundary_X2_put : GoodIn wsX8_addBoundary (wsV RX8 47 RX2 yX2_put wsX2_put) := goodIn_app (goodIn_of _ (by decide +kernel)) ggX8_addBoundary_X2_put
set_option maxRecDepth 20000 in
theorem ggX8_firstUnclosed_X8_isClosedAt : GoodIn wsX8_firstUnclosed wsX8_isClosedAt := goodIn_r _ [5, 6, 7, 8, 9, 10, 11, 12, 13, 14, 15, 16, 17, 18, 19, 20, 21, 22, 23, 24, 25, 4, 26, 27, 35, 36, 37, 31, 32, 33, 34] (by decide +kernel) (by decide +kernel)
set_option maxRecDepth 20000 in
theorem gX8_firstUnclosed_X8_isClosedAt : GoodIn wsX8_firstUnclosed (wsV RX8 51 RX8 yX8_isClosedAt wsX8_isClosedAt) := goodIn_app (goodIn_of _ (by decide +kernel)) ggX8_firstUnclosed_X8_isClosedAt
set_option maxRecDepth 20000 in
theorem ggX8_firstUnclosed_X9_tripleCode : GoodIn wsX8_firstUnclosed wsX9_tripleCode := goodIn_r _ [30] (by decide +kernel) (by decide +kernel)
set_option maxRecDepth 20000 in
theorem gX8_firstUnclosed_X9_tripleCode_n55 : GoodIn wsX8_firstUnclosed (wsX9_tripleCode) := ggX8_firstUnclosed_X9_tripleCode
set_option maxRecDepth 20000 in
theorem ggX8_isClosedAt_X2_get : GoodIn wsX8_isClosedAt wsX2_get := goodIn_r _ [6, 7, 8, 9, 5, 10, 26] (by decide +kernel) (by decide +kernel)
set_option maxRecDepth 20000 in
theorem gX8_isClosedAt_X2_get : GoodIn wsX8_isClosedAt (wsV RX8 34 RX2 yX2_get wsX2_get) := goodIn_app (goodIn_of _ (by decide +kernel)) ggX8_isClosedAt_X2_get
set_option maxRecDepth 20000 in
theorem ggX8_isClosedAt_X5_product : GoodIn wsX8_isClosedAt wsX5_product := goodIn_r _ [15, 16, 17, 3, 4, 5, 6, 7, 8, 9, 10, 27, 28, 29, 30, 26] (by decide +kernel) (by decide +kernel)
set_option maxRecDepth 20000 in
theorem gX8_isClosedAt_X5_product : GoodIn wsX8_isClosedAt (wsV RX8 41 RX5 yX5_product wsX5_product) := goodIn_app (goodIn_of _ (by decide +kernel)) ggX8_isClosedAt_X5_product
set_option maxRecDepth 20000 in
theorem ggX8_isClosedAt_X8_plus : GoodIn wsX8_isClosedAt wsX8_plus := goodIn_r _ [22, 23, 24, 25] (by decide +kernel) (by decide +kernel)
set_option maxRecDepth 20000 in
theorem gX8_isClosedAt_X8_plus : GoodIn wsX8_isClosedAt (wsV RX8 38 RX8 yX8_plus wsX8_plus) := goodIn_app (goodIn_of _ (by decide +kernel)) ggX8_isClosedAt_X8_plus
set_option maxRecDepth 20000 in
theorem ggX9_init_X6_init : GoodIn wsX9_init wsX6_init := goodIn_r _ [25, 26, 2, 3, 27, 28, 29, 30, 31, 32, 33, 34, 35, 36, 37, 38, 39, 40, 41, 42, 43, 44, 45, 46, 47, 48, 49, 50, 51, 52, 53, 54, 55, 56, 57, 58, 59, 60, 61, 62, 63, 64, 65, 154, 155, 156, 157, 137, 138, 139, 158, 159, 160, 161, 162, 163] (by decide +kernel) (by decide +kernel)
set_option maxRecDepth 20000 in
theorem gX9_init_X6_init_n11 : GoodIn wsX9_init (wsX6_init) := ggX9_init_X6_init
set_option maxRecDepth 20000 in
theorem ggX9_init_X3_init : GoodIn wsX9_init wsX3_init := goodIn_r _ [68, 69, 2, 3, 70, 71, 72, 5, 6, 24, 25, 26, 27, 28, 29, 30, 31, 32, 33, 34, 35, 36, 37, 38, 39, 40, 41, 42, 43, 44, 45, 46, 47, 48, 49, 50, 51, 52, 53, 54, 55, 56, 57, 58, 59, 60, 61, 62, 63, 64, 65, 145, 146, 137, 138, 139, 154, 155, 156, 157, 158, 159, 160, 161, 162, 163] (by decide +kernel) (by decide +kernel)
set_option maxRecDepth 20000 in
theorem gX9_init_X3_init : GoodIn wsX9_init (wsX3_init) := ggX9_init_X3_init
set_option maxRecDepth 20000 in
theorem ggX9_init_X7_init : GoodIn wsX9_init wsX7_init := goodIn_r _ [74, 75, 2, 3, 52, 76, 77, 78, 147, 148, 149] (by decide +kernel) (by decide +kernel)
set_option maxRecDepth 20000 in
theorem gX9_init_X7_init_n25 : GoodIn wsX9_init (wsX7_init) := ggX9_init_X7_init
set_option maxRecDepth 20000 in
theorem ggX9_init_X4_init : GoodIn wsX9_init wsX4_init := goodIn_r _ [80, 81, 2, 3, 52, 82, 83, 84, 85, 150, 151, 152] (by decide +kernel) (by decide +kernel)
set_option maxRecDepth 20000 in
theorem gX9_init_X4_init_n32 : GoodIn wsX9_init (wsX4_init) := ggX9_init_X4_init
set_option maxRecDepth 20000 in
theorem ggX9_init_X0_init : GoodIn wsX9_init wsX0_init := goodIn_r _ [87, 88, 2, 3, 52, 89, 153] (by decide +kernel) (by decide +kernel)
set_option maxRecDepth 20000 in
theorem gX9_init_X0_init_n39 : GoodIn wsX9_init (wsX0_init) := ggX9_init_X0_init
set_option maxRecDepth 20000 in
theorem ggX9_init_X6_becomeInitial : GoodIn wsX9_init wsX6_becomeInitial := goodIn_r _ [93, 30, 34, 38, 94, 95, 96, 29, 97, 42, 46, 98, 99, 100, 101, 102, 103, 104, 45, 105, 53, 106, 107, 108, 109, 110, 111, 112, 48, 113, 114, 115, 116, 47, 117, 118, 119, 120, 121, 122, 123, 33, 124, 57, 58, 125, 126, 127, 128, 59, 129, 130, 131, 37, 132, 63, 65, 133, 134, 135, 136, 137, 138, 139, 154, 155, 156, 157, 163, 158, 159, 160, 161, 162] (by decide +kernel) (by decide +kernel)
set_option maxRecDepth 20000 in
theorem gX9_init_X6_becomeInitial : GoodIn wsX9_init (wsV RX9 44 RX6 yX6_becomeInitial wsX6_becomeInitial) := goodIn_app (goodIn_of _ (by decide +kernel)) ggX9_init_X6_becomeInitial
set_option maxRecDepth 20000 in
theorem ggX9_loadTrivial_X9_loadLinear : GoodIn wsX9_loadTrivial wsX9_loadLinear := goodIn_r _ [5, 6, 7, 8, 4, 9, 10, 11, 12, 13, 14, 15, 16, 17, 18, 19, 20, 21, 22, 23, 24, 25, 26, 27, 28, 29, 30, 31, 32, 33, 34, 35, 36, 37, 38, 39, 40, 41, 42, 43, 44, 45, 46, 47, 48, 49, 50, 51, 52, 53, 54, 55, 56, 57, 58, 59, 60, 61, 62, 63, 64, 65, 66, 67, 68, 69, 70, 71, 72, 73, 74, 75, 76, 77, 78, 79, 80, 81, 82, 83, 84, 85, 86, 87, 88, 89, 90, 91, 92, 93, 94, 95, 96, 97, 98, 99, 100, 101, 102, 103, 104, 105, 106, 107, 108, 109, 110, 111, 112, 113, 114, 115] (by decide +kernel) (by decide +kernel)
set_option maxRecDepth 20000 in
theorem gX9_loadTrivial_X9_loadLinear : GoodIn wsX9_loadTrivial (wsV RX9 47 RX9 yX9_loadLinear wsX9_loadLinear) := goodIn_app (goodIn_of _ (by decide +kernel)) ggX9_loadTrivial_X9_loadLinear
set_option maxRecDepth 20000 in
theorem ggX9_loadDihedral_X9_loadLinear : GoodIn wsX9_loadDihedral wsX9_loadLinear := goodIn_r _ [5, 6, 7, 8, 4, 9, 10, 11, 12, 13, 14, 15, 16, 17, 18, 19, 20, 21, 22, 23, 24, 25, 26, 27, 28, 29, 30, 31, 32, 33, 34, 35, 36, 37, 38, 39, 40, 41, 42, 43, 44, 45, 46, 47, 48, 49, 50, 51, 52, 53, 54, 55, 56, 57, 58, 59, 60, 61, 62, 63, 64, 65, 66, 67, 68, 69, 70, 71, 72, 73, 74, 75, 76, 77, 78, 79, 80, 81, 82, 83, 84, 85, 86, 87, 88, 89, 90, 91, 92, 93, 94, 95, 96, 97, 98, 99, 100, 101, 102, 103, 104, 105, 106, 107, 108, 109, 110, 111, 112, 113, 114, 115] (by decide +kernel) (by decide +kernel)
set_option maxRecDepth 20000 in
theorem gX9_loadDihedral_X9_loadLinear : GoodIn wsX9_loadDihedral (wsV RX9 47 RX9 yX9_loadLinear wsX9_loadLinear) := goodIn_app (goodIn_of _ (by decide +kernel)) ggX9_loadDihedral_X9_loadLinear
set_option maxRecDepth 20000 in
theorem ggX9_loadAlexander_X9_isSize : GoodIn wsX9_loadAlexander wsX9_isSize := goodIn_r _ [4] (by decide +kernel) (by decide +kernel)
set_option maxRecDepth 20000 in
theorem gX9_loadAlexander_X9_isSize : GoodIn wsX9_loadAlexander (va_wsS RX9 51 yX9_isSize wsX9_isSize) := goodIn_app (goodIn_of _ (by decide +kernel)) ggX9_loadAlexander_X9_isSize
set_option maxRecDepth 20000 in
theorem ggX9_loadAlexander_X9_haveCommonDivisor : GoodIn wsX9_loadAlexander wsX9_haveCommonDivisor := goodIn_r _ [7] (by decide +kernel) (by decide +kernel)
set_option maxRecDepth 20000 in
theorem gX9_loadAlexander_X9_haveCommonDivisor : GoodIn wsX9_loadAlexander (va_wsS RX9 55 yX9_haveCommonDivisor wsX9_haveCommonDivisor) := goodIn_app (goodIn_of _ (by decide +kernel)) ggX9_loadAlexander_X9_haveCommonDivisor
set_option maxRecDepth 20000 in
theorem ggX9_loadAlexander_X9_loadLinear : GoodIn wsX9_loadAlexander wsX9_loadLinear := goodIn_r _ [11, 12, 1, 2, 3, 4, 13, 14, 15, 16, 17, 18, 19, 20, 21, 22, 23, 24, 25, 26, 27, 28, 29, 30, 31, 32, 33, 34, 35, 36, 37, 38, 39, 40, 41, 42, 43, 44, 45, 46, 47, 48, 49, 50, 51, 52, 53, 54, 55, 56, 57, 58, 59, 60, 61, 62, 63, 64, 65, 66, 67, 68, 69, 70, 71, 72, 73, 74, 75, 76, 77, 78, 79, 80, 81, 82, 83, 84, 85, 86, 87, 88, 89, 90, 91, 92, 93, 94, 95, 96, 97, 98, 99, 100, 101, 102, 103, 104, 105, 106, 107, 108, 109, 110, 111, 112, 113, 114, 115, 116, 117, 118] (by decide +kernel) (by decide +kernel)
set_option maxRecDepth 20000 in
theorem gX9_loadAlexander_X9_loadLinear : GoodIn wsX9_loadAlexander (wsV RX9 47 RX9 yX9_loadLinear wsX9_loadLinear) := goodIn_app (goodIn_of _ (by decide +kernel)) ggX9_loadAlexander_X9_loadLinear
set_option maxRecDepth 20000 in
theorem ggX9_loadConjugation_X9_beginLoad : GoodIn wsX9_loadConjugation wsX9_beginLoad := goodIn_r _ [6, 7, 1, 8, 9, 10, 11, 12, 13, 14, 15, 16, 17, 18, 19, 20, 21, 22, 23, 24, 25, 26, 27, 28, 29, 30, 31, 32, 33, 34, 35, 36, 37, 38, 39, 40, 41, 42, 43, 44, 45, 46, 47, 48, 49, 50, 51, 52, 53, 54, 55, 56, 57, 58, 59, 60, 61, 94, 95, 96, 97, 98, 99, 100, 101, 106, 107, 108, 109, 102, 103, 104, 105, 110, 111, 112, 113] (by decide +kernel) (by decide +kernel)
set_option maxRecDepth 20000 in
theorem gX9_loadConjugation_X9_beginLoad : GoodIn wsX9_loadConjugation (wsV RX9 59 RX9 yX9_beginLoad wsX9_beginLoad) := goodIn_app (goodIn_of _ (by decide +kernel)) ggX9_loadConjugation_X9_beginLoad
set_option maxRecDepth 20000 in
theorem ggX9_loadConjugation_X5_becomeConjugation : GoodIn wsX9_loadConjugation wsX5_becomeConjugation := goodIn_r _ [65, 32, 34, 66, 67, 30, 68, 69, 70, 71, 72, 73, 74, 75, 76, 77, 39, 78, 41, 79, 80, 81, 82, 83, 84, 85, 33, 86, 87, 88, 89, 35, 90, 91, 92, 93, 102, 103, 104, 105, 110] (by decide +kernel) (by decide +kernel)
set_option maxRecDepth 20000 in
theorem gX9_loadConjugation_X5_becomeConjugation : GoodIn wsX9_loadConjugation (wsV RX9 66 RX5 yX5_becomeConjugation wsX5_becomeConjugation) := goodIn_app (goodIn_of _ (by decide +kernel)) ggX9_loadConjugation_X5_becomeConjugation
set_option maxRecDepth 20000 in
theorem ggX9_loadCyclicRack_X9_loadLinear : GoodIn wsX9_loadCyclicRack wsX9_loadLinear := goodIn_r _ [5, 6, 7, 8, 4, 9, 10, 11, 12, 13, 14, 15, 16, 17, 18, 19, 20, 21, 22, 23, 24, 25, 26, 27, 28, 29, 30, 31, 32, 33, 34, 35, 36, 37, 38, 39, 40, 41, 42, 43, 44, 45, 46, 47, 48, 49, 50, 51, 52, 53, 54, 55, 56, 57, 58, 59, 60, 61, 62, 63, 64, 65, 66, 67, 68, 69, 70, 71, 72, 73, 74, 75, 76, 77, 78, 79, 80, 81, 82, 83, 84, 85, 86, 87, 88, 89, 90, 91, 92, 93, 94, 95, 96, 97, 98, 99, 100, 101, 102, 103, 104, 105, 106, 107, 108, 109, 110, 111, 112, 113, 114, 115] (by decide +kernel) (by decide +kernel)
set_option maxRecDepth 20000 in
theorem gX9_loadCyclicRack_X9_loadLinear : GoodIn wsX9_loadCyclicRack (wsV RX9 47 RX9 yX9_loadLinear wsX9_loadLinear) := goodIn_app (goodIn_of _ (by decide +kernel)) ggX9_loadCyclicRack_X9_loadLinear
set_option maxRecDepth 20000 in
theorem ggX9_loadDual_X5_isInvertible : GoodIn wsX9_loadDual wsX5_isInvertible := goodIn_r _ [6, 7, 97, 98, 99, 100] (by decide +kernel) (by decide +kernel)
set_option maxRecDepth 20000 in
theorem gX9_loadDual_X5_isInvertible : GoodIn wsX9_loadDual (wsV RX9 75 RX5 yX5_isInvertible wsX5_isInvertible) := goodIn_app (goodIn_of _ (by decide +kernel)) ggX9_loadDual_X5_isInvertible
set_option maxRecDepth 20000 in
theorem ggX9_loadDual_X9_beginLoad : GoodIn wsX9_loadDual wsX9_beginLoad := goodIn_r _ [12, 13, 1, 14, 15, 16, 17, 18, 19, 20, 21, 22, 23, 24, 25, 26, 27, 28, 29, 30, 31, 32, 33, 34, 35, 5, 36, 37, 7, 38, 39, 40, 41, 42, 43, 44, 45, 46, 47, 48, 49, 50, 51, 52, 53, 54, 55, 56, 57, 58, 59, 60, 61, 62, 63, 64, 65, 89, 90, 91, 92, 93, 94, 95, 96, 101, 102, 103, 104, 97, 98, 99, 100, 105, 106, 107, 108] (by decide +kernel) (by decide +kernel)
set_option maxRecDepth 20000 in
theorem gX9_loadDual_X9_beginLoad : GoodIn wsX9_loadDual (wsV RX9 59 RX9 yX9_beginLoad wsX9_beginLoad) := goodIn_app (goodIn_of _ (by decide +kernel)) ggX9_loadDual_X9_beginLoad
set_option maxRecDepth 20000 in
theorem ggX9_loadDual_X5_becomeDual : GoodIn wsX9_loadDual wsX5_becomeDual := goodIn_r _ [69, 38, 39, 40, 41, 42, 43, 44, 45, 70, 71, 72, 5, 73, 7, 37, 74, 75, 76, 77, 78, 79, 80, 81, 82, 83, 84, 85, 86, 87, 88, 97, 98, 99, 100, 105] (by decide +kernel) (by decide +kernel)
set_option maxRecDepth 20000 in
theorem gX9_loadDual_X5_becomeDual : GoodIn wsX9_loadDual (wsV RX9 79 RX5 yX5_becomeDual wsX5_becomeDual) := goodIn_app (goodIn_of _ (by decide +kernel)) ggX9_loadDual_X5_becomeDual
set_option maxRecDepth 20000 in
theorem ggX9_setEntry_X5_hasElements : GoodIn wsX9_setEntry wsX5_hasElements := goodIn_r _ [7, 8, 9, 10, 6, 11, 12, 97, 98, 99, 100] (by decide +kernel) (by decide +kernel)
set_option maxRecDepth 20000 in
theorem gX9_setEntry_X5_hasElements : GoodIn wsX9_setEntry (wsV RX9 82 RX5 yX5_hasElements wsX5_hasElements) := goodIn_app (goodIn_of _ (by decide +kernel)) ggX9_setEntry_X5_hasElements
set_option maxRecDepth 20000 in
theorem ggX9_setEntry_X5_hasElement : GoodIn wsX9_setEntry wsX5_hasElement := goodIn_r _ [11, 12, 97, 98, 99, 100] (by decide +kernel) (by decide +kernel)
set_option maxRecDepth 20000 in
theorem gX9_setEntry_X5_hasElement : GoodIn wsX9_setEntry (wsV RX9 85 RX5 yX5_hasElement wsX5_hasElement) := goodIn_app (goodIn_of _ (by decide +kernel)) ggX9_setEntry_X5_hasElement
set_option maxRecDepth 20000 in
theorem ggX9_setEntry_X3_remember : GoodIn wsX9_setEntry wsX3_remember := goodIn_r _ [18, 19, 20, 21, 22, 23, 17, 24, 25, 26, 27, 28, 29, 30, 31, 32, 33, 34, 35, 6, 36, 12, 37, 38, 39, 40, 41, 42, 43, 44, 45, 46, 47, 48, 49, 50, 51, 52, 53, 54, 55, 56, 57, 58, 59, 60, 61, 101, 102, 94, 95, 96, 97, 98, 99, 100, 103, 104, 105, 106, 107, 108] (by decide +kernel) (by decide +kernel)
set_option maxRecDepth 20000 in
theorem gX9_setEntry_X3_remember : GoodIn wsX9_setEntry (wsV RX9 88 RX3 yX3_remember wsX3_remember) := goodIn_app (goodIn_of _ (by decide +kernel)) ggX9_setEntry_X3_remember
set_option maxRecDepth 20000 in
theorem ggX9_setEntry_X5_product : GoodIn wsX9_setEntry wsX5_product := goodIn_r _ [65, 38, 66, 67, 68, 43, 69, 45, 70, 71, 72, 97, 98, 99, 100, 103] (by decide +kernel) (by decide +kernel)
set_option maxRecDepth 20000 in
theorem gX9_setEntry_X5_product : GoodIn wsX9_setEntry (wsV RX9 92 RX5 yX5_product wsX5_product) := goodIn_app (goodIn_of _ (by decide +kernel)) ggX9_setEntry_X5_product
set_option maxRecDepth 20000 in
theorem ggX9_setEntry_X5_setProduct : GoodIn wsX9_setEntry wsX5_setProduct := goodIn_r _ [76, 38, 77, 78, 79, 43, 80, 45, 70, 71, 72, 81, 82, 83, 6, 84, 37, 12, 85, 86, 87, 88, 39, 66, 67, 68, 69, 97, 98, 99, 100, 103] (by decide +kernel) (by decide +kernel)
set_option maxRecDepth 20000 in
theorem gX9_setEntry_X5_setProduct : GoodIn wsX9_setEntry (wsV RX9 96 RX5 yX5_setProduct wsX5_setProduct) := goodIn_app (goodIn_of _ (by decide +kernel)) ggX9_setEntry_X5_setProduct
set_option maxRecDepth 20000 in
theorem ggX9_entry_X5_hasElements : GoodIn wsX9_entry wsX5_hasElements := goodIn_r _ [6, 7, 8, 9, 5, 10, 11, 34, 35, 36, 37] (by decide +kernel) (by decide +kernel)
set_option maxRecDepth 20000 in
theorem gX9_entry_X5_hasElements : GoodIn wsX9_entry (wsV RX9 82 RX5 yX5_hasElements wsX5_hasElements) := goodIn_app (goodIn_of _ (by decide +kernel)) ggX9_entry_X5_hasElements
set_option maxRecDepth 20000 in
theorem ggX9_entry_X5_product : GoodIn wsX9_entry wsX5_product := goodIn_r _ [15, 16, 17, 18, 19, 20, 21, 22, 23, 24, 25, 34, 35, 36, 37, 38] (by decide +kernel) (by decide +kernel)
set_option maxRecDepth 20000 in
theorem gX9_entry_X5_product : GoodIn wsX9_entry (wsV RX9 92 RX5 yX5_product wsX5_product) := goodIn_app (goodIn_of _ (by decide +kernel)) ggX9_entry_X5_product
set_option maxRecDepth 20000 in
theorem ggX9_quotient_X5_hasElements : GoodIn wsX9_quotient wsX5_hasElements := goodIn_r _ [6, 7, 8, 9, 5, 10, 11, 39, 40, 41, 42] (by decide +kernel) (by decide +kernel)
set_option maxRecDepth 20000 in
theorem gX9_quotient_X5_hasElements : GoodIn wsX9_quotient (wsV RX9 82 RX5 yX5_hasElements wsX5_hasElements) := goodIn_app (goodIn_of _ (by decide +kernel)) ggX9_quotient_X5_hasElements
set_option maxRecDepth 20000 in
theorem ggX9_quotient_X5_isInvertible : GoodIn wsX9_quotient wsX5_isInvertible := goodIn_r _ [15, 16, 39, 40, 41, 42] (by decide +kernel) (by decide +kernel)
set_option maxRecDepth 20000 in
theorem gX9_quotient_X5_isInvertible : GoodIn wsX9_quotient (wsV RX9 75 RX5 yX5_isInvertible wsX5_isInvertible) := goodIn_app (goodIn_of _ (by decide +kernel)) ggX9_quotient_X5_isInvertible
set_option maxRecDepth 20000 in
theorem ggX9_quotient_X5_divide : GoodIn wsX9_quotient wsX5_divide := goodIn_r _ [20, 21, 22, 23, 24, 25, 26, 27, 28, 29, 30, 39, 40, 41, 42, 43] (by decide +kernel) (by decide +kernel)
set_option maxRecDepth 20000 in
theorem gX9_quotient_X5_divide : GoodIn wsX9_quotient (wsV RX9 100 RX5 yX5_divide wsX5_divide) := goodIn_app (goodIn_of _ (by decide +kernel)) ggX9_quotient_X5_divide
set_option maxRecDepth 20000 in
theorem ggX9_distributivityViolation_X5_firstUndistributive : GoodIn wsX9_distributivityViolation wsX5_firstUndistributive := goodIn_r _ [6, 7, 8, 9, 10, 5, 11, 12, 13, 14, 15, 16, 17, 18, 19, 20, 21, 22, 23, 24, 33, 34, 35, 36, 37] (by decide +kernel) (by decide +kernel)
set_option maxRecDepth 20000 in
theorem gX9_distributivityViolation_X5_firstUndistributive : GoodIn wsX9_distributivityViolation (wsV RX9 106 RX5 yX5_firstUndistributive wsX5_firstUndistributive) := goodIn_app (goodIn_of _ (by decide +kernel)) ggX9_distributivityViolation_X5_firstUndistributive
set_option maxRecDepth 20000 in
theorem ggX9_idempotencyViolation_X5_firstUnidempotent : GoodIn wsX9_idempotencyViolation wsX5_firstUnidempotent := goodIn_r _ [6, 7, 8, 9, 10, 5, 11, 12, 13, 14, 15, 16, 17, 18, 19, 20, 21, 30, 31, 32, 33, 34] (by decide +kernel) (by decide +kernel)
set_option maxRecDepth 20000 in
theorem gX9_idempotencyViolation_X5_firstUnidempotent : GoodIn wsX9_idempotencyViolation (wsV RX9 110 RX5 yX5_firstUnidempotent wsX5_firstUnidempotent) := goodIn_app (goodIn_of _ (by decide +kernel)) ggX9_idempotencyViolation_X5_firstUnidempotent
set_option maxRecDepth 20000 in
theorem ggX9_kind_X5_isInvertible : GoodIn wsX9_kind wsX5_isInvertible := goodIn_r _ [6, 7, 42, 43, 44, 45] (by decide +kernel) (by decide +kernel)
set_option maxRecDepth 20000 in
theorem gX9_kind_X5_isInvertible : GoodIn wsX9_kind (wsV RX9 75 RX5 yX5_isInvertible wsX5_isInvertible) := goodIn_app (goodIn_of _ (by decide +kernel)) ggX9_kind_X5_isInvertible
set_option maxRecDepth 20000 in
theorem ggX9_kind_X5_firstUndistributive : GoodIn wsX9_kind wsX5_firstUndistributive := goodIn_r _ [11, 12, 13, 14, 15, 5, 16, 17, 18, 19, 20, 21, 22, 23, 24, 25, 26, 27, 28, 29, 42, 43, 44, 45, 46] (by decide +kernel) (by decide +kernel)
set_option maxRecDepth 20000 in
theorem gX9_kind_X5_firstUndistributive : GoodIn wsX9_kind (wsV RX9 106 RX5 yX5_firstUndistributive wsX5_firstUndistributive) := goodIn_app (goodIn_of _ (by decide +kernel)) ggX9_kind_X5_firstUndistributive
set_option maxRecDepth 20000 in
theorem ggX9_kind_X5_firstUnidempotent : GoodIn wsX9_kind wsX5_firstUnidempotent := goodIn_r _ [33, 12, 13, 14, 15, 5, 16, 17, 18, 19, 20, 21, 22, 23, 24, 25, 26, 42, 43, 44, 45, 46] (by decide +kernel) (by decide +kernel)
set_option maxRecDepth 20000 in
theorem gX9_kind_X5_firstUnidempotent : GoodIn wsX9_kind (wsV RX9 110 RX5 yX5_firstUnidempotent wsX5_firstUnidempotent) := goodIn_app (goodIn_of _ (by decide +kernel)) ggX9_kind_X5_firstUnidempotent
set_option maxRecDepth 20000 in
theorem ggX9_orbit_X5_hasElement : GoodIn wsX9_orbit wsX5_hasElement := goodIn_r _ [6, 7, 52, 53, 54, 55] (by decide +kernel) (by decide +kernel)
set_option maxRecDepth 20000 in
theorem gX9_orbit_X5_hasElement : GoodIn wsX9_orbit (wsV RX9 85 RX5 yX5_hasElement wsX5_hasElement) := goodIn_app (goodIn_of _ (by decide +kernel)) ggX9_orbit_X5_hasElement
set_option maxRecDepth 20000 in
theorem ggX9_orbit_X5_reachableFrom : GoodIn wsX9_orbit wsX5_reachableFrom := goodIn_r _ [11, 7, 12, 13, 14, 5, 15, 16, 17, 18, 19, 20, 21, 22, 23, 24, 25, 26, 27, 28, 29, 30, 31, 32, 33, 34, 35, 36, 37, 38, 39, 40, 41, 42, 43, 52, 53, 54, 55, 56] (by decide +kernel) (by decide +kernel)
set_option maxRecDepth 20000 in
theorem gX9_orbit_X5_reachableFrom : GoodIn wsX9_orbit (wsV RX9 113 RX5 yX5_reachableFrom wsX5_reachableFrom) := goodIn_app (goodIn_of _ (by decide +kernel)) ggX9_orbit_X5_reachableFrom
set_option maxRecDepth 20000 in
theorem ggX9_innerGroupOrder_X5_isInvertible : GoodIn wsX9_innerGroupOrder wsX5_isInvertible := goodIn_r _ [7, 8, 62, 63, 64, 65] (by decide +kernel) (by decide +kernel)
set_option maxRecDepth 20000 in
theorem gX9_innerGroupOrder_X5_isInvertible : GoodIn wsX9_innerGroupOrder (wsV RX9 75 RX5 yX5_isInvertible wsX5_isInvertible) := goodIn_app (goodIn_of _ (by decide +kernel)) ggX9_innerGroupOrder_X5_isInvertible
set_option maxRecDepth 20000 in
theorem ggX9_innerGroupOrder_X4_orderFor : GoodIn wsX9_innerGroupOrder wsX4_orderFor := goodIn_r _ [13, 14, 15, 16, 17, 18, 12, 19, 20, 21, 22, 23, 24, 25, 26, 27, 28, 29, 30, 31, 32, 33, 34, 35, 36, 37, 38, 39, 40, 41, 42, 6, 43, 44, 45, 46, 47, 48, 49, 50, 51, 52, 53, 66, 67, 68, 62, 63, 64, 65, 69] (by decide +kernel) (by decide +kernel)
set_option maxRecDepth 20000 in
theorem gX9_innerGroupOrder_X4_orderFor : GoodIn wsX9_innerGroupOrder (wsV RX9 117 RX4 yX4_orderFor wsX4_orderFor) := goodIn_app (goodIn_of _ (by decide +kernel)) ggX9_innerGroupOrder_X4_orderFor
set_option maxRecDepth 20000 in
theorem ggX9_automorphismCount_X0_countFor : GoodIn wsX9_automorphismCount wsX0_countFor := goodIn_r _ [7, 8, 9, 10, 6, 11, 12, 13, 14, 15, 16, 17, 18, 19, 20, 21, 22, 23, 24, 25, 26, 27, 28, 29, 30, 31, 32, 41, 42, 43, 44, 45, 46] (by decide +kernel) (by decide +kernel)
set_option maxRecDepth 20000 in
theorem gX9_automorphismCount_X0_countFor : GoodIn wsX9_automorphismCount (wsV RX9 121 RX0 yX0_countFor wsX0_countFor) := goodIn_app (goodIn_of _ (by decide +kernel)) ggX9_automorphismCount_X0_countFor
set_option maxRecDepth 20000 in
theorem ggX9_setStrands_X3_remember : GoodIn wsX9_setStrands wsX3_remember := goodIn_r _ [7, 8, 9, 10, 11, 12, 6, 13, 14, 15, 16, 17, 18, 19, 20, 21, 22, 23, 24, 25, 26, 27, 28, 29, 30, 31, 32, 33, 34, 35, 36, 37, 38, 39, 40, 41, 42, 43, 44, 45, 46, 47, 48, 49, 50, 51, 52, 68, 69, 62, 63, 64, 70, 71, 72, 73, 74, 65, 66, 67, 75, 76] (by decide +kernel) (by decide +kernel)
set_option maxRecDepth 20000 in
theorem gX9_setStrands_X3_remember : GoodIn wsX9_setStrands (wsV RX9 88 RX3 yX3_remember wsX3_remember) := goodIn_app (goodIn_of _ (by decide +kernel)) ggX9_setStrands_X3_remember
set_option maxRecDepth 20000 in
theorem ggX9_setStrands_X1_restart : GoodIn wsX9_setStrands wsX1_restart := goodIn_r _ [56, 42, 43, 65, 66, 67] (by decide +kernel) (by decide +kernel)
set_option maxRecDepth 20000 in
theorem gX9_setStrands_X1_restart : GoodIn wsX9_setStrands (wsV RX9 133 RX1 yX1_restart wsX1_restart) := goodIn_app (goodIn_of _ (by decide +kernel)) ggX9_setStrands_X1_restart
set_option maxRecDepth 20000 in
theorem ggX9_appendCrossing_X1_allows : GoodIn wsX9_appendCrossing wsX1_allows := goodIn_r _ [7, 8, 69, 70, 71] (by decide +kernel) (by decide +kernel)
set_option maxRecDepth 20000 in
theorem gX9_appendCrossing_X1_allows : GoodIn wsX9_appendCrossing (wsV RX9 137 RX1 yX1_allows wsX1_allows) := goodIn_app (goodIn_of _ (by decide +kernel)) ggX9_appendCrossing_X1_allows
set_option maxRecDepth 20000 in
theorem ggX9_appendCrossing_X3_remember : GoodIn wsX9_appendCrossing wsX3_remember := goodIn_r _ [13, 14, 15, 16, 17, 18, 12, 19, 20, 21, 22, 23, 24, 25, 26, 27, 28, 29, 30, 31, 32, 33, 34, 35, 36, 37, 38, 39, 40, 41, 42, 43, 44, 45, 6, 46, 8, 47, 48, 49, 50, 51, 52, 53, 54, 55, 56, 72, 73, 66, 67, 68, 74, 75, 76, 77, 78, 69, 70, 71, 79, 80] (by decide +kernel) (by decide +kernel)
set_option maxRecDepth 20000 in
theorem gX9_appendCrossing_X3_remember : GoodIn wsX9_appendCrossing (wsV RX9 88 RX3 yX3_remember wsX3_remember) := goodIn_app (goodIn_of _ (by decide +kernel)) ggX9_appendCrossing_X3_remember
set_option maxRecDepth 20000 in
theorem ggX9_appendCrossing_X1_append : GoodIn wsX9_appendCrossing wsX1_append := goodIn_r _ [60, 47, 48, 69, 70, 71] (by decide +kernel) (by decide +kernel)
set_option maxRecDepth 20000 in
theorem gX9_appendCrossing_X1_append : GoodIn wsX9_appendCrossing (wsV RX9 143 RX1 yX1_append wsX1_append) := goodIn_app (goodIn_of _ (by decide +kernel)) ggX9_appendCrossing_X1_append
set_option maxRecDepth 20000 in
theorem ggX9_removeCrossing_X3_remember : GoodIn wsX9_removeCrossing wsX3_remember := goodIn_r _ [11, 12, 13, 14, 15, 16, 10, 17, 18, 19, 20, 21, 22, 23, 24, 25, 26, 27, 28, 29, 30, 31, 32, 33, 34, 35, 36, 37, 38, 39, 40, 41, 42, 43, 44, 45, 46, 47, 48, 49, 50, 51, 52, 53, 54, 55, 56, 76, 77, 70, 71, 72, 78, 79, 80, 81, 82, 73, 74, 75, 83, 84] (by decide +kernel) (by decide +kernel)
set_option maxRecDepth 20000 in
theorem gX9_removeCrossing_X3_remember : GoodIn wsX9_removeCrossing (wsV RX9 88 RX3 yX3_remember wsX3_remember) := goodIn_app (goodIn_of _ (by decide +kernel)) ggX9_removeCrossing_X3_remember
set_option maxRecDepth 20000 in
theorem ggX9_removeCrossing_X1_removeLast : GoodIn wsX9_removeCrossing wsX1_removeLast := goodIn_r _ [60, 47, 61, 62, 63, 44, 64, 48, 73, 74, 75] (by decide +kernel) (by decide +kernel)
set_option maxRecDepth 20000 in
theorem gX9_removeCrossing_X1_removeLast : GoodIn wsX9_removeCrossing (wsV RX9 146 RX1 yX1_removeLast wsX1_removeLast) := goodIn_app (goodIn_of _ (by decide +kernel)) ggX9_removeCrossing_X1_removeLast
set_option maxRecDepth 20000 in
theorem ggX9_coloringCount_X5_isInvertible : GoodIn wsX9_coloringCount wsX5_isInvertible := goodIn_r _ [7, 8, 85, 86, 87, 88] (by decide +kernel) (by decide +kernel)
set_option maxRecDepth 20000 in
theorem gX9_coloringCount_X5_isInvertible : GoodIn wsX9_coloringCount (wsV RX9 75 RX5 yX5_isInvertible wsX5_isInvertible) := goodIn_app (goodIn_of _ (by decide +kernel)) ggX9_coloringCount_X5_isInvertible
set_option maxRecDepth 20000 in
theorem ggX9_coloringCount_X7_countAll : GoodIn wsX9_coloringCount wsX7_countAll := goodIn_r _ [13, 14, 15, 16, 12, 17, 18, 19, 20, 21, 22, 23, 24, 25, 26, 27, 28, 29, 30, 31, 32, 33, 34, 35, 36, 37, 38, 39, 40, 41, 42, 43, 44, 45, 46, 47, 48, 49, 50, 51, 52, 53, 54, 55, 56, 57, 6, 58, 59, 60, 61, 62, 63, 64, 65, 66, 67, 68, 69, 70, 71, 72, 73, 74, 75, 76, 89, 90, 91, 82, 83, 84, 92, 93, 94, 85, 86, 87, 88, 95, 96, 97] (by decide +kernel) (by decide +kernel)
set_option maxRecDepth 20000 in
theorem gX9_coloringCount_X7_countAll : GoodIn wsX9_coloringCount (wsV RX9 154 RX7 yX7_countAll wsX7_countAll) := goodIn_app (goodIn_of _ (by decide +kernel)) ggX9_coloringCount_X7_countAll
set_option maxRecDepth 20000 in
theorem ggX9_nextColoring_X5_isInvertible : GoodIn wsX9_nextColoring wsX5_isInvertible := goodIn_r _ [7, 8, 85, 86, 87, 88] (by decide +kernel) (by decide +kernel)
set_option maxRecDepth 20000 in
theorem gX9_nextColoring_X5_isInvertible : GoodIn wsX9_nextColoring (wsV RX9 75 RX5 yX5_isInvertible wsX5_isInvertible) := goodIn_app (goodIn_of _ (by decide +kernel)) ggX9_nextColoring_X5_isInvertible
set_option maxRecDepth 20000 in
theorem ggX9_nextColoring_X7_firstFrom : GoodIn wsX9_nextColoring wsX7_firstFrom := goodIn_r _ [13, 14, 15, 16, 12, 17, 18, 19, 20, 21, 22, 23, 24, 25, 26, 27, 28, 29, 30, 31, 32, 33, 34, 35, 36, 37, 38, 39, 40, 41, 42, 43, 44, 45, 46, 47, 48, 49, 50, 51, 52, 53, 54, 55, 56, 57, 6, 58, 59, 60, 61, 62, 63, 64, 65, 66, 67, 68, 69, 70, 71, 72, 73, 74, 75, 76, 89, 90, 91, 82, 83, 84, 92, 93, 94, 85, 86, 87, 88, 95, 96, 97] (by decide +kernel) (by decide +kernel)
set_option maxRecDepth 20000 in
theorem gX9_nextColoring_X7_firstFrom : GoodIn wsX9_nextColoring (wsV RX9 158 RX7 yX7_firstFrom wsX7_firstFrom) := goodIn_app (goodIn_of _ (by decide +kernel)) ggX9_nextColoring_X7_firstFrom
set_option maxRecDepth 20000 in
theorem ggX9_setModulus_X3_remember : GoodIn wsX9_setModulus wsX3_remember := goodIn_r _ [7, 8, 9, 10, 11, 12, 6, 13, 14, 15, 16, 17, 18, 19, 20, 21, 22, 23, 24, 25, 26, 27, 28, 29, 30, 31, 32, 33, 34, 35, 36, 37, 38, 39, 40, 41, 42, 43, 44, 45, 46, 47, 48, 49, 50, 51, 52, 71, 72, 66, 67, 68, 73, 74, 75, 76, 77, 78, 79, 80, 69, 70] (by decide +kernel) (by decide +kernel)
set_option maxRecDepth 20000 in
theorem gX9_setModulus_X3_remember : GoodIn wsX9_setModulus (wsV RX9 88 RX3 yX3_remember wsX3_remember) := goodIn_app (goodIn_of _ (by decide +kernel)) ggX9_setModulus_X3_remember
set_option maxRecDepth 20000 in
theorem ggX9_setModulus_X8_restart : GoodIn wsX9_setModulus wsX8_restart := goodIn_r _ [56, 50, 51, 57, 58, 59, 34, 60, 36, 69, 70, 77] (by decide +kernel) (by decide +kernel)
set_option maxRecDepth 20000 in
theorem gX9_setModulus_X8_restart : GoodIn wsX9_setModulus (wsV RX9 171 RX8 yX8_restart wsX8_restart) := goodIn_app (goodIn_of _ (by decide +kernel)) ggX9_setModulus_X8_restart
set_option maxRecDepth 20000 in
theorem ggX9_setWeight_X5_hasElements : GoodIn wsX9_setWeight wsX5_hasElements := goodIn_r _ [7, 8, 9, 10, 6, 11, 12, 86, 87, 88, 89] (by decide +kernel) (by decide +kernel)
set_option maxRecDepth 20000 in
theorem gX9_setWeight_X5_hasElements : GoodIn wsX9_setWeight (wsV RX9 82 RX5 yX5_hasElements wsX5_hasElements) := goodIn_app (goodIn_of _ (by decide +kernel)) ggX9_setWeight_X5_hasElements
set_option maxRecDepth 20000 in
theorem ggX9_setWeight_X8_allows : GoodIn wsX9_setWeight wsX8_allows := goodIn_r _ [17, 18, 84, 85] (by decide +kernel) (by decide +kernel)
set_option maxRecDepth 20000 in
theorem gX9_setWeight_X8_allows : GoodIn wsX9_setWeight (wsV RX9 172 RX8 yX8_allows wsX8_allows) := goodIn_app (goodIn_of _ (by decide +kernel)) ggX9_setWeight_X8_allows
set_option maxRecDepth 20000 in
theorem ggX9_setWeight_X3_remember : GoodIn wsX9_setWeight wsX3_remember := goodIn_r _ [23, 24, 25, 26, 27, 28, 22, 29, 30, 31, 32, 33, 34, 35, 36, 37, 38, 39, 40, 6, 41, 12, 42, 43, 44, 45, 46, 47, 48, 49, 50, 51, 52, 53, 54, 55, 56, 57, 58, 59, 60, 61, 16, 62, 18, 63, 64, 90, 91, 81, 82, 83, 86, 87, 88, 89, 92, 93, 94, 95, 84, 85] (by decide +kernel) (by decide +kernel)
set_option maxRecDepth 20000 in
theorem gX9_setWeight_X3_remember : GoodIn wsX9_setWeight (wsV RX9 88 RX3 yX3_remember wsX3_remember) := goodIn_app (goodIn_of _ (by decide +kernel)) ggX9_setWeight_X3_remember
set_option maxRecDepth 20000 in
theorem ggX9_setWeight_X2_get : GoodIn wsX9_setWeight wsX2_get := goodIn_r _ [68, 50, 69, 70, 48, 71, 92] (by decide +kernel) (by decide +kernel)
set_option maxRecDepth 20000 in
theorem gX9_setWeight_X2_get : GoodIn wsX9_setWeight (wsV RX9 177 RX2 yX2_get wsX2_get) := goodIn_app (goodIn_of _ (by decide +kernel)) ggX9_setWeight_X2_get
set_option maxRecDepth 20000 in
theorem ggX9_setWeight_X2_put : GoodIn wsX9_setWeight wsX2_put := goodIn_r _ [75, 50, 69, 70, 48, 71, 92] (by decide +kernel) (by decide +kernel)
set_option maxRecDepth 20000 in
theorem gX9_setWeight_X2_put : GoodIn wsX9_setWeight (wsV RX9 182 RX2 yX2_put wsX2_put) := goodIn_app (goodIn_of _ (by decide +kernel)) ggX9_setWeight_X2_put
set_option maxRecDepth 20000 in
theorem ggX9_addCoboundary_X5_hasElement : GoodIn wsX9_addCoboundary wsX5_hasElement := goodIn_r _ [7, 8, 97, 98, 99, 100] (by decide +kernel) (by decide +kernel)
set_option maxRecDepth 20000 in
theorem gX9_addCoboundary_X5_hasElement : GoodIn wsX9_addCoboundary (wsV RX9 85 RX5 yX5_hasElement wsX5_hasElement) := goodIn_app (goodIn_of _ (by decide +kernel)) ggX9_addCoboundary_X5_hasElement
set_option maxRecDepth 20000 in
theorem ggX9_addCoboundary_X8_allows : GoodIn wsX9_addCoboundary wsX8_allows := goodIn_r _ [13, 14, 101, 102] (by decide +kernel) (by decide +kernel)
set_option maxRecDepth 20000 in
theorem gX9_addCoboundary_X8_allows : GoodIn wsX9_addCoboundary (wsV RX9 172 RX8 yX8_allows wsX8_allows) := goodIn_app (goodIn_of _ (by decide +kernel)) ggX9_addCoboundary_X8_allows
set_option maxRecDepth 20000 in
theorem ggX9_addCoboundary_X3_remember : GoodIn wsX9_addCoboundary wsX3_remember := goodIn_r _ [19, 20, 21, 22, 23, 24, 18, 25, 26, 27, 28, 29, 30, 31, 32, 33, 34, 35, 36, 6, 37, 8, 38, 39, 40, 41, 42, 43, 44, 45, 46, 47, 48, 49, 50, 51, 52, 53, 54, 55, 56, 57, 12, 58, 14, 59, 60, 103, 104, 94, 95, 96, 97, 98, 99, 100, 105, 106, 107, 108, 101, 102] (by decide +kernel) (by decide +kernel)
set_option maxRecDepth 20000 in
theorem gX9_addCoboundary_X3_remember : GoodIn wsX9_addCoboundary (wsV RX9 88 RX3 yX3_remember wsX3_remember) := goodIn_app (goodIn_of _ (by decide +kernel)) ggX9_addCoboundary_X3_remember
set_option maxRecDepth 20000 in
theorem ggX9_addCoboundary_X8_addBoundary : GoodIn wsX9_addCoboundary wsX8_addBoundary := goodIn_r _ [64, 59, 65, 66, 67, 44, 68, 46, 69, 70, 71, 72, 73, 74, 12, 75, 14, 76, 77, 78, 6, 79, 39, 80, 81, 82, 83, 84, 85, 86, 87, 88, 97, 98, 99, 100, 101, 102, 105] (by decide +kernel) (by decide +kernel)
set_option maxRecDepth 20000 in
theorem gX9_addCoboundary_X8_addBoundary : GoodIn wsX9_addCoboundary (wsV RX9 185 RX8 yX8_addBoundary wsX8_addBoundary) := goodIn_app (goodIn_of _ (by decide +kernel)) ggX9_addCoboundary_X8_addBoundary
set_option maxRecDepth 20000 in
theorem ggX9_weight_X5_hasElements : GoodIn wsX9_weight wsX5_hasElements := goodIn_r _ [6, 7, 8, 9, 5, 10, 11, 31, 32, 33, 34] (by decide +kernel) (by decide +kernel)
set_option maxRecDepth 20000 in
theorem gX9_weight_X5_hasElements : GoodIn wsX9_weight (wsV RX9 82 RX5 yX5_hasElements wsX5_hasElements) := goodIn_app (goodIn_of _ (by decide +kernel)) ggX9_weight_X5_hasElements
set_option maxRecDepth 20000 in
theorem ggX9_weight_X2_get : GoodIn wsX9_weight wsX2_get := goodIn_r _ [16, 17, 18, 19, 15, 20, 35] (by decide +kernel) (by decide +kernel)
set_option maxRecDepth 20000 in
theorem gX9_weight_X2_get : GoodIn wsX9_weight (wsV RX9 177 RX2 yX2_get wsX2_get) := goodIn_app (goodIn_of _ (by decide +kernel)) ggX9_weight_X2_get
set_option maxRecDepth 20000 in
theorem ggX9_cocycleViolation_X8_firstUnclosed : GoodIn wsX9_cocycleViolation wsX8_firstUnclosed := goodIn_r _ [6, 7, 8, 9, 5, 10, 11, 12, 13, 14, 15, 16, 17, 18, 19, 20, 21, 22, 23, 24, 25, 26, 27, 28, 29, 30, 31, 32, 33, 34, 35, 44, 45, 46, 47, 48, 49, 50] (by decide +kernel) (by decide +kernel)
set_option maxRecDepth 20000 in
theorem gX9_cocycleViolation_X8_firstUnclosed : GoodIn wsX9_cocycleViolation (wsV RX9 189 RX8 yX8_firstUnclosed wsX8_firstUnclosed) := goodIn_app (goodIn_of _ (by decide +kernel)) ggX9_cocycleViolation_X8_firstUnclosed
set_option maxRecDepth 20000 in
theorem ggX9_stateSum_X8_allows : GoodIn wsX9_stateSum wsX8_allows := goodIn_r _ [7, 8, 89, 90] (by decide +kernel) (by decide +kernel)
set_option maxRecDepth 20000 in
theorem gX9_stateSum_X8_allows : GoodIn wsX9_stateSum (wsV RX9 172 RX8 yX8_allows wsX8_allows) := goodIn_app (goodIn_of _ (by decide +kernel)) ggX9_stateSum_X8_allows
set_option maxRecDepth 20000 in
theorem ggX9_stateSum_X5_isInvertible : GoodIn wsX9_stateSum wsX5_isInvertible := goodIn_r _ [13, 14, 91, 92, 93, 94] (by decide +kernel) (by decide +kernel)
set_option maxRecDepth 20000 in
theorem gX9_stateSum_X5_isInvertible : GoodIn wsX9_stateSum (wsV RX9 75 RX5 yX5_isInvertible wsX5_isInvertible) := goodIn_app (goodIn_of _ (by decide +kernel)) ggX9_stateSum_X5_isInvertible
set_option maxRecDepth 20000 in
theorem ggX9_stateSum_X7_countWithTotal : GoodIn wsX9_stateSum wsX7_countWithTotal := goodIn_r _ [19, 20, 21, 22, 23, 18, 24, 25, 26, 27, 28, 29, 30, 31, 32, 33, 34, 35, 36, 37, 38, 39, 40, 41, 42, 43, 44, 45, 46, 47, 48, 49, 50, 51, 52, 53, 54, 55, 56, 57, 6, 58, 8, 59, 60, 61, 12, 62, 63, 64, 65, 66, 67, 68, 69, 70, 71, 72, 73, 74, 75, 76, 77, 78, 79, 80, 95, 96, 97, 86, 87, 88, 98, 99, 100, 91, 92, 93, 94, 89, 90, 101] (by decide +kernel) (by decide +kernel)
set_option maxRecDepth 20000 in
theorem gX9_stateSum_X7_countWithTotal : GoodIn wsX9_stateSum (wsV RX9 192 RX7 yX7_countWithTotal wsX7_countWithTotal) := goodIn_app (goodIn_of _ (by decide +kernel)) ggX9_stateSum_X7_countWithTotal
set_option maxRecDepth 20000 in
theorem ggX9_undo_X3_restoreLatest : GoodIn wsX9_undo wsX3_restoreLatest := goodIn_r _ [7, 8, 9, 10, 11, 12, 13, 14, 15, 16, 17, 18, 19, 20, 21, 22, 23, 24, 25, 26, 27, 28, 29, 30, 31, 32, 33, 34, 35, 36, 37, 38, 39, 40, 41, 42, 43, 44, 45, 46, 47, 48, 54, 55, 56, 57, 58, 59, 60, 61, 62, 63, 64, 65, 66, 67, 68] (by decide +kernel) (by decide +kernel)
set_option maxRecDepth 20000 in
theorem gX9_undo_X3_restoreLatest : GoodIn wsX9_undo (wsV RX9 196 RX3 yX3_restoreLatest wsX3_restoreLatest) := goodIn_app (goodIn_of _ (by decide +kernel)) ggX9_undo_X3_restoreLatest
set_option maxRecDepth 20000 in
theorem ggX9_loadLinear_X9_isSize : GoodIn wsX9_loadLinear wsX9_isSize := goodIn_r _ [5] (by decide +kernel) (by decide +kernel)
set_option maxRecDepth 20000 in
theorem gX9_loadLinear_X9_isSize : GoodIn wsX9_loadLinear (va_wsS RX9 51 yX9_isSize wsX9_isSize) := goodIn_app (goodIn_of _ (by decide +kernel)) ggX9_loadLinear_X9_isSize
set_option maxRecDepth 20000 in
theorem ggX9_loadLinear_X9_beginLoad : GoodIn wsX9_loadLinear wsX9_beginLoad := goodIn_r _ [9, 10, 1, 11, 12, 13, 14, 15, 16, 17, 18, 19, 20, 21, 22, 23, 24, 25, 26, 27, 28, 29, 30, 31, 32, 33, 34, 35, 36, 37, 38, 39, 40, 41, 42, 43, 44, 45, 46, 47, 48, 49, 50, 51, 52, 53, 54, 55, 56, 57, 58, 59, 60, 61, 62, 63, 64, 92, 93, 94, 95, 96, 97, 98, 99, 100, 101, 102, 103, 104, 105, 106, 107, 108, 109, 110, 111] (by decide +kernel) (by decide +kernel)
set_option maxRecDepth 20000 in
theorem gX9_loadLinear_X9_beginLoad : GoodIn wsX9_loadLinear (wsV RX9 59 RX9 yX9_beginLoad wsX9_beginLoad) := goodIn_app (goodIn_of _ (by decide +kernel)) ggX9_loadLinear_X9_beginLoad
set_option maxRecDepth 20000 in
theorem ggX9_loadLinear_X5_becomeLinear : GoodIn wsX9_loadLinear wsX5_becomeLinear := goodIn_r _ [68, 35, 37, 69, 70, 71, 72, 73, 74, 75, 42, 76, 44, 77, 78, 79, 80, 81, 82, 33, 83, 36, 84, 85, 86, 87, 38, 88, 89, 90, 91, 104, 105, 106, 107, 108] (by decide +kernel) (by decide +kernel)
set_option maxRecDepth 20000 in
theorem gX9_loadLinear_X5_becomeLinear : GoodIn wsX9_loadLinear (wsV RX9 199 RX5 yX5_becomeLinear wsX5_becomeLinear) := goodIn_app (goodIn_of _ (by decide +kernel)) ggX9_loadLinear_X5_becomeLinear
set_option maxRecDepth 20000 in
theorem ggX9_beginLoad_X3_remember : GoodIn wsX9_beginLoad wsX3_remember := goodIn_r _ [7, 8, 9, 10, 11, 12, 6, 13, 14, 15, 16, 17, 18, 19, 20, 21, 22, 23, 24, 25, 26, 27, 28, 29, 30, 31, 32, 33, 34, 35, 36, 37, 38, 39, 40, 41, 42, 43, 44, 45, 46, 47, 48, 49, 50, 51, 52, 67, 68, 62, 63, 64, 69, 70, 71, 72, 73, 74, 75, 76, 65, 66] (by decide +kernel) (by decide +kernel)
set_option maxRecDepth 20000 in
theorem gX9_beginLoad_X3_remember : GoodIn wsX9_beginLoad (wsV RX9 88 RX3 yX3_remember wsX3_remember) := goodIn_app (goodIn_of _ (by decide +kernel)) ggX9_beginLoad_X3_remember
set_option maxRecDepth 20000 in
theorem ggX9_beginLoad_X2_clear : GoodIn wsX9_beginLoad wsX2_clear := goodIn_r _ [56, 36, 73] (by decide +kernel) (by decide +kernel)
set_option maxRecDepth 20000 in
theorem gX9_beginLoad_X2_clear : GoodIn wsX9_beginLoad (wsV RX9 203 RX2 yX2_clear wsX2_clear) := goodIn_app (goodIn_of _ (by decide +kernel)) ggX9_beginLoad_X2_clear
set_option maxRecDepth 20000 in
theorem ggX10_isElement_X10_in : GoodIn wsX10_isElement wsX10_in := goodIn_r _ [5] (by decide +kernel) (by decide +kernel)
set_option maxRecDepth 20000 in
theorem gX10_isElement_X10_in : GoodIn wsX10_isElement (va_wsS RX10 37 yX10_in wsX10_in) := goodIn_app (goodIn_of _ (by decide +kernel)) ggX10_isElement_X10_in
set_option maxRecDepth 20000 in
theorem ggX10_loads_X10_edit : GoodIn wsX10_loads wsX10_edit := goodIn_r _ [6, 7, 8, 1, 9, 10, 11, 12, 13, 14, 15, 16, 17, 18, 19] (by decide +kernel) (by decide +kernel)
set_option maxRecDepth 20000 in
theorem gX10_loads_X10_edit : GoodIn wsX10_loads (wsV RX10 45 RX10 yX10_edit wsX10_edit) := goodIn_app (goodIn_of _ (by decide +kernel)) ggX10_loads_X10_edit
set_option maxRecDepth 20000 in
theorem ggX10_loadTrivial_X10_in : GoodIn wsX10_loadTrivial wsX10_in := goodIn_r _ [5] (by decide +kernel) (by decide +kernel)
set_option maxRecDepth 20000 in
theorem gX10_loadTrivial_X10_in : GoodIn wsX10_loadTrivial (va_wsS RX10 37 yX10_in wsX10_in) := goodIn_app (goodIn_of _ (by decide +kernel)) ggX10_loadTrivial_X10_in
set_option maxRecDepth 20000 in
theorem ggX10_loadTrivial_X10_loads : GoodIn wsX10_loadTrivial wsX10_loads := goodIn_r _ [9, 1, 10, 11, 12, 4, 13, 14, 15, 16, 17, 18, 19, 20, 21, 22, 23, 24, 25, 26] (by decide +kernel) (by decide +kernel)
set_option maxRecDepth 20000 in
theorem gX10_loadTrivial_X10_loads : GoodIn wsX10_loadTrivial (wsV RX10 48 RX10 yX10_loads wsX10_loads) := goodIn_app (goodIn_of _ (by decide +kernel)) ggX10_loadTrivial_X10_loads
set_option maxRecDepth 20000 in
theorem ggX10_alexander_X10_loads : GoodIn wsX10_alexander wsX10_loads := goodIn_r _ [6, 1, 7, 8, 9, 5, 10, 11, 12, 13, 14, 15, 16, 17, 18, 19, 20, 21, 22, 23] (by decide +kernel) (by decide +kernel)
set_option maxRecDepth 20000 in
theorem gX10_alexander_X10_loads : GoodIn wsX10_alexander (wsV RX10 48 RX10 yX10_loads wsX10_loads) := goodIn_app (goodIn_of _ (by decide +kernel)) ggX10_alexander_X10_loads
set_option maxRecDepth 20000 in
theorem ggX10_loadDihedral_X10_in : GoodIn wsX10_loadDihedral wsX10_in := goodIn_r _ [4] (by decide +kernel) (by decide +kernel)
set_option maxRecDepth 20000 in
theorem gX10_loadDihedral_X10_in : GoodIn wsX10_loadDihedral (va_wsS RX10 37 yX10_in wsX10_in) := goodIn_app (goodIn_of _ (by decide +kernel)) ggX10_loadDihedral_X10_in
set_option maxRecDepth 20000 in
theorem ggX10_loadDihedral_X10_alexander : GoodIn wsX10_loadDihedral wsX10_alexander := goodIn_r _ [8, 9, 10, 11, 12, 3, 13, 14, 15, 16, 17, 18, 19, 20, 21, 22, 23, 24, 25, 26, 27, 28, 29, 30] (by decide +kernel) (by decide +kernel)
set_option maxRecDepth 20000 in
theorem gX10_loadDihedral_X10_alexander : GoodIn wsX10_loadDihedral (wsV RX10 52 RX10 yX10_alexander wsX10_alexander) := goodIn_app (goodIn_of _ (by decide +kernel)) ggX10_loadDihedral_X10_alexander
set_option maxRecDepth 20000 in
theorem ggX10_loadAlexander_X10_in : GoodIn wsX10_loadAlexander wsX10_in := goodIn_r _ [4] (by decide +kernel) (by decide +kernel)
set_option maxRecDepth 20000 in
theorem gX10_loadAlexander_X10_in : GoodIn wsX10_loadAlexander (va_wsS RX10 37 yX10_in wsX10_in) := goodIn_app (goodIn_of _ (by decide +kernel)) ggX10_loadAlexander_X10_in
set_option maxRecDepth 20000 in
theorem ggX10_loadAlexander_X10_divisor : GoodIn wsX10_loadAlexander wsX10_divisor := goodIn_r _ [7] (by decide +kernel) (by decide +kernel)
set_option maxRecDepth 20000 in
theorem gX10_loadAlexander_X10_divisor : GoodIn wsX10_loadAlexander (va_wsS RX10 56 yX10_divisor wsX10_divisor) := goodIn_app (goodIn_of _ (by decide +kernel)) ggX10_loadAlexander_X10_divisor
set_option maxRecDepth 20000 in
theorem ggX10_loadAlexander_X10_alexander : GoodIn wsX10_loadAlexander wsX10_alexander := goodIn_r _ [11, 12, 13, 14, 15, 3, 16, 17, 18, 19, 20, 21, 22, 23, 24, 25, 26, 27, 28, 29, 30, 31, 32, 33] (by decide +kernel) (by decide +kernel)
set_option maxRecDepth 20000 in
theorem gX10_loadAlexander_X10_alexander : GoodIn wsX10_loadAlexander (wsV RX10 52 RX10 yX10_alexander wsX10_alexander) := goodIn_app (goodIn_of _ (by decide +kernel)) ggX10_loadAlexander_X10_alexander
set_option maxRecDepth 20000 in
theorem ggX10_loadConjugation_X10_loads : GoodIn wsX10_loadConjugation wsX10_loads := goodIn_r _ [9, 4, 10, 11, 12, 8, 13, 14, 15, 24, 25, 26, 27, 28, 29, 30, 31, 32, 33, 34] (by decide +kernel) (by decide +kernel)
set_option maxRecDepth 20000 in
theorem gX10_loadConjugation_X10_loads : GoodIn wsX10_loadConjugation (wsV RX10 48 RX10 yX10_loads wsX10_loads) := goodIn_app (goodIn_of _ (by decide +kernel)) ggX10_loadConjugation_X10_loads
set_option maxRecDepth 20000 in
theorem ggX10_loadConjugation_X10_unrank : GoodIn wsX10_loadConjugation wsX10_unrank := goodIn_r _ [19, 2, 24, 25, 26, 27, 28, 29, 30, 31, 32, 33, 34] (by decide +kernel) (by decide +kernel)
set_option maxRecDepth 20000 in
theorem gX10_loadConjugation_X10_unrank : GoodIn wsX10_loadConjugation (wsV RX10 60 RX10 yX10_unrank wsX10_unrank) := goodIn_app (goodIn_of _ (by decide +kernel)) ggX10_loadConjugation_X10_unrank
set_option maxRecDepth 20000 in
theorem ggX10_loadConjugation_X10_rank : GoodIn wsX10_loadConjugation wsX10_rank := goodIn_r _ [23, 3, 24, 25, 26, 27, 28, 29, 30, 31, 32, 33, 34] (by decide +kernel) (by decide +kernel)
set_option maxRecDepth 20000 in
theorem gX10_loadConjugation_X10_rank : GoodIn wsX10_loadConjugation (wsV RX10 63 RX10 yX10_rank wsX10_rank) := goodIn_app (goodIn_of _ (by decide +kernel)) ggX10_loadConjugation_X10_rank
set_option maxRecDepth 20000 in
theorem ggX10_loadCyclicRack_X10_in : GoodIn wsX10_loadCyclicRack wsX10_in := goodIn_r _ [5] (by decide +kernel) (by decide +kernel)
set_option maxRecDepth 20000 in
theorem gX10_loadCyclicRack_X10_in : GoodIn wsX10_loadCyclicRack (va_wsS RX10 37 yX10_in wsX10_in) := goodIn_app (goodIn_of _ (by decide +kernel)) ggX10_loadCyclicRack_X10_in
set_option maxRecDepth 20000 in
theorem ggX10_loadCyclicRack_X10_loads : GoodIn wsX10_loadCyclicRack wsX10_loads := goodIn_r _ [9, 1, 10, 11, 12, 4, 13, 14, 15, 16, 17, 18, 19, 20, 21, 22, 23, 24, 25, 26] (by decide +kernel) (by decide +kernel)
set_option maxRecDepth 20000 in
theorem gX10_loadCyclicRack_X10_loads : GoodIn wsX10_loadCyclicRack (wsV RX10 48 RX10 yX10_loads wsX10_loads) := goodIn_app (goodIn_of _ (by decide +kernel)) ggX10_loadCyclicRack_X10_loads
set_option maxRecDepth 20000 in
theorem ggX10_loadDual_X10_column : GoodIn wsX10_loadDual wsX10_column := goodIn_r _ [7, 1, 2, 18, 19, 20, 21, 22, 23, 24, 25, 26, 27, 28] (by decide +kernel) (by decide +kernel)
set_option maxRecDepth 20000 in
theorem gX10_loadDual_X10_column : GoodIn wsX10_loadDual (wsV RX10 67 RX10 yX10_column wsX10_column) := goodIn_app (goodIn_of _ (by decide +kernel)) ggX10_loadDual_X10_column
set_option maxRecDepth 20000 in
theorem ggX10_loadDual_X10_loads : GoodIn wsX10_loadDual wsX10_loads := goodIn_r _ [11, 1, 12, 13, 14, 6, 15, 16, 17, 18, 19, 20, 21, 22, 23, 24, 25, 26, 27, 28] (by decide +kernel) (by decide +kernel)
set_option maxRecDepth 20000 in
theorem gX10_loadDual_X10_loads : GoodIn wsX10_loadDual (wsV RX10 48 RX10 yX10_loads wsX10_loads) := goodIn_app (goodIn_of _ (by decide +kernel)) ggX10_loadDual_X10_loads
set_option maxRecDepth 20000 in
theorem ggX10_setEntry_X10_isElement : GoodIn wsX10_setEntry wsX10_isElement := goodIn_r _ [6, 1, 7, 8, 5, 9, 16, 17, 18, 19, 20, 21, 22, 23, 24, 25, 26] (by decide +kernel) (by decide +kernel)
set_option maxRecDepth 20000 in
theorem gX10_setEntry_X10_isElement : GoodIn wsX10_setEntry (wsV RX10 71 RX10 yX10_isElement wsX10_isElement) := goodIn_app (goodIn_of _ (by decide +kernel)) ggX10_setEntry_X10_isElement
set_option maxRecDepth 20000 in
theorem ggX10_setEntry_X10_edit : GoodIn wsX10_setEntry wsX10_edit := goodIn_r _ [13, 14, 15, 1, 16, 17, 18, 19, 20, 21, 22, 23, 24, 25, 26] (by decide +kernel) (by decide +kernel)
set_option maxRecDepth 20000 in
theorem gX10_setEntry_X10_edit : GoodIn wsX10_setEntry (wsV RX10 45 RX10 yX10_edit wsX10_edit) := goodIn_app (goodIn_of _ (by decide +kernel)) ggX10_setEntry_X10_edit
set_option maxRecDepth 20000 in
theorem ggX10_entry_X10_isElement : GoodIn wsX10_entry wsX10_isElement := goodIn_r _ [6, 1, 7, 8, 5, 9, 10, 11, 12, 13, 14, 15, 16, 17, 18, 19, 20] (by decide +kernel) (by decide +kernel)
set_option maxRecDepth 20000 in
theorem gX10_entry_X10_isElement : GoodIn wsX10_entry (wsV RX10 71 RX10 yX10_isElement wsX10_isElement) := goodIn_app (goodIn_of _ (by decide +kernel)) ggX10_entry_X10_isElement
set_option maxRecDepth 20000 in
theorem ggX10_quotient_X10_isElement : GoodIn wsX10_quotient wsX10_isElement := goodIn_r _ [6, 7, 8, 9, 5, 10, 15, 16, 17, 18, 19, 20, 21, 22, 23, 24, 25] (by decide +kernel) (by decide +kernel)
set_option maxRecDepth 20000 in
theorem gX10_quotient_X10_isElement : GoodIn wsX10_quotient (wsV RX10 71 RX10 yX10_isElement wsX10_isElement) := goodIn_app (goodIn_of _ (by decide +kernel)) ggX10_quotient_X10_isElement
set_option maxRecDepth 20000 in
theorem ggX10_quotient_X10_column : GoodIn wsX10_quotient wsX10_column := goodIn_r _ [14, 7, 1, 15, 16, 17, 18, 19, 20, 21, 22, 23, 24, 25] (by decide +kernel) (by decide +kernel)
set_option maxRecDepth 20000 in
theorem gX10_quotient_X10_column : GoodIn wsX10_quotient (wsV RX10 67 RX10 yX10_column wsX10_column) := goodIn_app (goodIn_of _ (by decide +kernel)) ggX10_quotient_X10_column
set_option maxRecDepth 20000 in
theorem ggX10_nonInvertibleColumn_X10_column : GoodIn wsX10_nonInvertibleColumn wsX10_column := goodIn_r _ [5, 6, 7, 8, 9, 10, 11, 12, 13, 14, 15, 16, 17, 18] (by decide +kernel) (by decide +kernel)
set_option maxRecDepth 20000 in
theorem gX10_nonInvertibleColumn_X10_column : GoodIn wsX10_nonInvertibleColumn (wsV RX10 67 RX10 yX10_column wsX10_column) := goodIn_app (goodIn_of _ (by decide +kernel)) ggX10_nonInvertibleColumn_X10_column
set_option maxRecDepth 20000 in
theorem ggX10_violation_X10_weightOf : GoodIn wsX10_violation wsX10_weightOf := goodIn_r _ [6, 1, 11, 12, 13, 14, 15, 16, 17, 18, 19, 20, 21] (by decide +kernel) (by decide +kernel)
set_option maxRecDepth 20000 in
theorem gX10_violation_X10_weightOf : GoodIn wsX10_violation (wsV RX10 75 RX10 yX10_weightOf wsX10_weightOf) := goodIn_app (goodIn_of _ (by decide +kernel)) ggX10_violation_X10_weightOf
set_option maxRecDepth 20000 in
theorem ggX10_violation_X10_of : GoodIn wsX10_violation wsX10_of := goodIn_r _ [10, 1, 11, 12, 13, 14, 15, 16, 17, 18, 19, 20, 21] (by decide +kernel) (by decide +kernel)
set_option maxRecDepth 20000 in
theorem gX10_violation_X10_of : GoodIn wsX10_violation (wsV RX10 78 RX10 yX10_of wsX10_of) := goodIn_app (goodIn_of _ (by decide +kernel)) ggX10_violation_X10_of
set_option maxRecDepth 20000 in
theorem ggX10_distributivityViolation_X10_violation : GoodIn wsX10_distributivityViolation wsX10_violation := goodIn_r _ [5, 6, 7, 8, 9, 4, 10, 11, 12, 13, 14, 15, 16, 17, 18, 19, 20, 21, 22, 23, 24, 25] (by decide +kernel) (by decide +kernel)
set_option maxRecDepth 20000 in
theorem gX10_distributivityViolation_X10_violation : GoodIn wsX10_distributivityViolation (wsV RX10 81 RX10 yX10_violation wsX10_violation) := goodIn_app (goodIn_of _ (by decide +kernel)) ggX10_distributivityViolation_X10_violation
set_option maxRecDepth 20000 in
theorem ggX10_idempotencyViolation_X10_of : GoodIn wsX10_idempotencyViolation wsX10_of := goodIn_r _ [6, 1, 7, 8, 9, 10, 11, 12, 13, 14, 15, 16, 17] (by decide +kernel) (by decide +kernel)
set_option maxRecDepth 20000 in
theorem gX10_idempotencyViolation_X10_of : GoodIn wsX10_idempotencyViolation (wsV RX10 78 RX10 yX10_of wsX10_of) := goodIn_app (goodIn_of _ (by decide +kernel)) ggX10_idempotencyViolation_X10_of
set_option maxRecDepth 20000 in
theorem ggX10_kind_X10_column : GoodIn wsX10_kind wsX10_column := goodIn_r _ [5, 6, 7, 24, 25, 26, 27, 28, 29, 30, 31, 32, 33, 34] (by decide +kernel) (by decide +kernel)
set_option maxRecDepth 20000 in
theorem gX10_kind_X10_column : GoodIn wsX10_kind (wsV RX10 67 RX10 yX10_column wsX10_column) := goodIn_app (goodIn_of _ (by decide +kernel)) ggX10_kind_X10_column
set_option maxRecDepth 20000 in
theorem ggX10_kind_X10_violation : GoodIn wsX10_kind wsX10_violation := goodIn_r _ [11, 6, 12, 13, 14, 4, 15, 16, 17, 18, 19, 24, 25, 26, 27, 28, 29, 30, 31, 32, 33, 34] (by decide +kernel) (by decide +kernel)
set_option maxRecDepth 20000 in
theorem gX10_kind_X10_violation : GoodIn wsX10_kind (wsV RX10 81 RX10 yX10_violation wsX10_violation) := goodIn_app (goodIn_of _ (by decide +kernel)) ggX10_kind_X10_violation
set_option maxRecDepth 20000 in
theorem ggX10_kind_X10_idempotencyViolation : GoodIn wsX10_kind wsX10_idempotencyViolation := goodIn_r _ [23, 6, 16, 17, 18, 4, 19, 24, 25, 26, 27, 28, 29, 30, 31, 32, 33, 34] (by decide +kernel) (by decide +kernel)
set_option maxRecDepth 20000 in
theorem gX10_kind_X10_idempotencyViolation : GoodIn wsX10_kind (wsV RX10 85 RX10 yX10_idempotencyViolation wsX10_idempotencyViolation) := goodIn_app (goodIn_of _ (by decide +kernel)) ggX10_kind_X10_idempotencyViolation
set_option maxRecDepth 20000 in
theorem ggX10_orbit_X10_isElement : GoodIn wsX10_orbit wsX10_isElement := goodIn_r _ [7, 1, 8, 9, 6, 10, 19, 20, 21, 22, 23, 24, 25, 26, 27, 28, 29] (by decide +kernel) (by decide +kernel)
set_option maxRecDepth 20000 in
theorem gX10_orbit_X10_isElement : GoodIn wsX10_orbit (wsV RX10 71 RX10 yX10_isElement wsX10_isElement) := goodIn_app (goodIn_of _ (by decide +kernel)) ggX10_orbit_X10_isElement
set_option maxRecDepth 20000 in
theorem ggX10_orbit_X10_column : GoodIn wsX10_orbit wsX10_column := goodIn_r _ [14, 1, 2, 19, 20, 21, 22, 23, 24, 25, 26, 27, 28, 29] (by decide +kernel) (by decide +kernel)
set_option maxRecDepth 20000 in
theorem gX10_orbit_X10_column : GoodIn wsX10_orbit (wsV RX10 67 RX10 yX10_column wsX10_column) := goodIn_app (goodIn_of _ (by decide +kernel)) ggX10_orbit_X10_column
set_option maxRecDepth 20000 in
theorem ggX10_orbit_X10_of : GoodIn wsX10_orbit wsX10_of := goodIn_r _ [18, 1, 19, 20, 21, 22, 23, 24, 25, 26, 27, 28, 29] (by decide +kernel) (by decide +kernel)
set_option maxRecDepth 20000 in
theorem gX10_orbit_X10_of : GoodIn wsX10_orbit (wsV RX10 78 RX10 yX10_of wsX10_of) := goodIn_app (goodIn_of _ (by decide +kernel)) ggX10_orbit_X10_of
set_option maxRecDepth 20000 in
theorem ggX10_innerGroupOrder_X10_column : GoodIn wsX10_innerGroupOrder wsX10_column := goodIn_r _ [9, 1, 10, 19, 20, 21, 22, 23, 24, 25, 26, 27, 28, 29] (by decide +kernel) (by decide +kernel)
set_option maxRecDepth 20000 in
theorem gX10_innerGroupOrder_X10_column : GoodIn wsX10_innerGroupOrder (wsV RX10 67 RX10 yX10_column wsX10_column) := goodIn_app (goodIn_of _ (by decide +kernel)) ggX10_innerGroupOrder_X10_column
set_option maxRecDepth 20000 in
theorem ggX10_innerGroupOrder_X10_of : GoodIn wsX10_innerGroupOrder wsX10_of := goodIn_r _ [14, 1, 19, 20, 21, 22, 23, 24, 25, 26, 27, 28, 29] (by decide +kernel) (by decide +kernel)
set_option maxRecDepth 20000 in
theorem gX10_innerGroupOrder_X10_of : GoodIn wsX10_innerGroupOrder (wsV RX10 78 RX10 yX10_of wsX10_of) := goodIn_app (goodIn_of _ (by decide +kernel)) ggX10_innerGroupOrder_X10_of
set_option maxRecDepth 20000 in
theorem ggX10_innerGroupOrder_X10_rank : GoodIn wsX10_innerGroupOrder wsX10_rank := goodIn_r _ [18, 4, 19, 20, 21, 22, 23, 24, 25, 26, 27, 28, 29] (by decide +kernel) (by decide +kernel)
set_option maxRecDepth 20000 in
theorem gX10_innerGroupOrder_X10_rank : GoodIn wsX10_innerGroupOrder (wsV RX10 63 RX10 yX10_rank wsX10_rank) := goodIn_app (goodIn_of _ (by decide +kernel)) ggX10_innerGroupOrder_X10_rank
set_option maxRecDepth 20000 in
theorem ggX10_isAutomorphism_X10_of : GoodIn wsX10_isAutomorphism wsX10_of := goodIn_r _ [7, 1, 8, 9, 10, 11, 12, 13, 14, 15, 16, 17, 18] (by decide +kernel) (by decide +kernel)
set_option maxRecDepth 20000 in
theorem gX10_isAutomorphism_X10_of : GoodIn wsX10_isAutomorphism (wsV RX10 78 RX10 yX10_of wsX10_of) := goodIn_app (goodIn_of _ (by decide +kernel)) ggX10_isAutomorphism_X10_of
set_option maxRecDepth 20000 in
theorem ggX10_automorphismCount_X10_factorial : GoodIn wsX10_automorphismCount wsX10_factorial := goodIn_r _ [5] (by decide +kernel) (by decide +kernel)
set_option maxRecDepth 20000 in
theorem gX10_automorphismCount_X10_factorial : GoodIn wsX10_automorphismCount (va_wsS RX10 88 yX10_factorial wsX10_factorial) := goodIn_app (goodIn_of _ (by decide +kernel)) ggX10_automorphismCount_X10_factorial
set_option maxRecDepth 20000 in
theorem ggX10_automorphismCount_X10_unrank : GoodIn wsX10_automorphismCount wsX10_unrank := goodIn_r _ [9, 10, 19, 20, 21, 22, 23, 24, 25, 26, 27, 28, 29] (by decide +kernel) (by decide +kernel)
set_option maxRecDepth 20000 in
theorem gX10_automorphismCount_X10_unrank : GoodIn wsX10_automorphismCount (wsV RX10 60 RX10 yX10_unrank wsX10_unrank) := goodIn_app (goodIn_of _ (by decide +kernel)) ggX10_automorphismCount_X10_unrank
set_option maxRecDepth 20000 in
theorem ggX10_automorphismCount_X10_isAutomorphism : GoodIn wsX10_automorphismCount wsX10_isAutomorphism := goodIn_r _ [14, 1, 10, 15, 16, 17, 4, 18, 19, 20, 21, 22, 23, 24, 25, 26, 27, 28, 29] (by decide +kernel) (by decide +kernel)
set_option maxRecDepth 20000 in
theorem gX10_automorphismCount_X10_isAutomorphism : GoodIn wsX10_automorphismCount (wsV RX10 91 RX10 yX10_isAutomorphism wsX10_isAutomorphism) := goodIn_app (goodIn_of _ (by decide +kernel)) ggX10_automorphismCount_X10_isAutomorphism
set_option maxRecDepth 20000 in
theorem ggX10_setStrands_X10_in : GoodIn wsX10_setStrands wsX10_in := goodIn_r _ [5] (by decide +kernel) (by decide +kernel)
set_option maxRecDepth 20000 in
theorem gX10_setStrands_X10_in : GoodIn wsX10_setStrands (va_wsS RX10 37 yX10_in wsX10_in) := goodIn_app (goodIn_of _ (by decide +kernel)) ggX10_setStrands_X10_in
set_option maxRecDepth 20000 in
theorem ggX10_setStrands_X10_edit : GoodIn wsX10_setStrands wsX10_edit := goodIn_r _ [9, 10, 11, 1, 12, 13, 14, 15, 16, 17, 18, 19, 20, 21, 22] (by decide +kernel) (by decide +kernel)
set_option maxRecDepth 20000 in
theorem gX10_setStrands_X10_edit : GoodIn wsX10_setStrands (wsV RX10 45 RX10 yX10_edit wsX10_edit) := goodIn_app (goodIn_of _ (by decide +kernel)) ggX10_setStrands_X10_edit
set_option maxRecDepth 20000 in
theorem ggX10_appendCrossing_X10_in : GoodIn wsX10_appendCrossing wsX10_in := goodIn_r _ [5] (by decide +kernel) (by decide +kernel)
set_option maxRecDepth 20000 in
theorem gX10_appendCrossing_X10_in : GoodIn wsX10_appendCrossing (va_wsS RX10 37 yX10_in wsX10_in) := goodIn_app (goodIn_of _ (by decide +kernel)) ggX10_appendCrossing_X10_in
set_option maxRecDepth 20000 in
theorem ggX10_appendCrossing_X10_edit : GoodIn wsX10_appendCrossing wsX10_edit := goodIn_r _ [9, 10, 11, 1, 12, 13, 14, 15, 16, 17, 18, 19, 20, 21, 22] (by decide +kernel) (by decide +kernel)
set_option maxRecDepth 20000 in
theorem gX10_appendCrossing_X10_edit : GoodIn wsX10_appendCrossing (wsV RX10 45 RX10 yX10_edit wsX10_edit) := goodIn_app (goodIn_of _ (by decide +kernel)) ggX10_appendCrossing_X10_edit
set_option maxRecDepth 20000 in
theorem ggX10_removeCrossing_X10_edit : GoodIn wsX10_removeCrossing wsX10_edit := goodIn_r _ [6, 7, 8, 1, 9, 10, 11, 12, 13, 14, 15, 16, 17, 18, 19] (by decide +kernel) (by decide +kernel)
set_option maxRecDepth 20000 in
theorem gX10_removeCrossing_X10_edit : GoodIn wsX10_removeCrossing (wsV RX10 45 RX10 yX10_edit wsX10_edit) := goodIn_app (goodIn_of _ (by decide +kernel)) ggX10_removeCrossing_X10_edit
set_option maxRecDepth 20000 in
theorem ggX10_isColoring_X10_of : GoodIn wsX10_isColoring wsX10_of := goodIn_r _ [9, 1, 14, 15, 16, 17, 18, 19, 20, 21, 22, 23, 24] (by decide +kernel) (by decide +kernel)
set_option maxRecDepth 20000 in
theorem gX10_isColoring_X10_of : GoodIn wsX10_isColoring (wsV RX10 78 RX10 yX10_of wsX10_of) := goodIn_app (goodIn_of _ (by decide +kernel)) ggX10_isColoring_X10_of
set_option maxRecDepth 20000 in
theorem ggX10_isColoring_X10_weightOf : GoodIn wsX10_isColoring wsX10_weightOf := goodIn_r _ [13, 1, 14, 15, 16, 17, 18, 19, 20, 21, 22, 23, 24] (by decide +kernel) (by decide +kernel)
set_option maxRecDepth 20000 in
theorem gX10_isColoring_X10_weightOf : GoodIn wsX10_isColoring (wsV RX10 75 RX10 yX10_weightOf wsX10_weightOf) := goodIn_app (goodIn_of _ (by decide +kernel)) ggX10_isColoring_X10_weightOf
set_option maxRecDepth 20000 in
theorem ggX10_coloringCount_X10_column : GoodIn wsX10_coloringCount wsX10_column := goodIn_r _ [5, 6, 7, 26, 27, 28, 29, 30, 31, 32, 33, 34, 35, 36] (by decide +kernel) (by decide +kernel)
set_option maxRecDepth 20000 in
theorem gX10_coloringCount_X10_column : GoodIn wsX10_coloringCount (wsV RX10 67 RX10 yX10_column wsX10_column) := goodIn_app (goodIn_of _ (by decide +kernel)) ggX10_coloringCount_X10_column
set_option maxRecDepth 20000 in
theorem ggX10_coloringCount_X10_codes : GoodIn wsX10_coloringCount wsX10_codes := goodIn_r _ [11, 6, 26, 27, 28, 29, 30, 31, 32, 33, 34, 35, 36] (by decide +kernel) (by decide +kernel)
set_option maxRecDepth 20000 in
theorem gX10_coloringCount_X10_codes : GoodIn wsX10_coloringCount (wsV RX10 98 RX10 yX10_codes wsX10_codes) := goodIn_app (goodIn_of _ (by decide +kernel)) ggX10_coloringCount_X10_codes
set_option maxRecDepth 20000 in
theorem ggX10_coloringCount_X10_isColoring : GoodIn wsX10_coloringCount wsX10_isColoring := goodIn_r _ [15, 6, 16, 17, 7, 18, 19, 20, 4, 21, 22, 23, 24, 25, 26, 27, 28, 29, 30, 31, 32, 33, 34, 35, 36] (by decide +kernel) (by decide +kernel)
set_option maxRecDepth 20000 in
theorem gX10_coloringCount_X10_isColoring : GoodIn wsX10_coloringCount (wsV RX10 101 RX10 yX10_isColoring wsX10_isColoring) := goodIn_app (goodIn_of _ (by decide +kernel)) ggX10_coloringCount_X10_isColoring
set_option maxRecDepth 20000 in
theorem ggX10_nextColoring_X10_column : GoodIn wsX10_nextColoring wsX10_column := goodIn_r _ [5, 6, 7, 26, 27, 28, 29, 30, 31, 32, 33, 34, 35, 36] (by decide +kernel) (by decide +kernel)
set_option maxRecDepth 20000 in
theorem gX10_nextColoring_X10_column : GoodIn wsX10_nextColoring (wsV RX10 67 RX10 yX10_column wsX10_column) := goodIn_app (goodIn_of _ (by decide +kernel)) ggX10_nextColoring_X10_column
set_option maxRecDepth 20000 in
theorem ggX10_nextColoring_X10_codes : GoodIn wsX10_nextColoring wsX10_codes := goodIn_r _ [11, 6, 26, 27, 28, 29, 30, 31, 32, 33, 34, 35, 36] (by decide +kernel) (by decide +kernel)
set_option maxRecDepth 20000 in
theorem gX10_nextColoring_X10_codes : GoodIn wsX10_nextColoring (wsV RX10 98 RX10 yX10_codes wsX10_codes) := goodIn_app (goodIn_of _ (by decide +kernel)) ggX10_nextColoring_X10_codes
set_option maxRecDepth 20000 in
theorem ggX10_nextColoring_X10_isColoring : GoodIn wsX10_nextColoring wsX10_isColoring := goodIn_r _ [15, 6, 16, 17, 7, 18, 19, 20, 4, 21, 22, 23, 24, 25, 26, 27, 28, 29, 30, 31, 32, 33, 34, 35, 36] (by decide +kernel) (by decide +kernel)
set_option maxRecDepth 20000 in
theorem gX10_nextColoring_X10_isColoring : GoodIn wsX10_nextColoring (wsV RX10 101 RX10 yX10_isColoring wsX10_isColoring) := goodIn_app (goodIn_of _ (by decide +kernel)) ggX10_nextColoring_X10_isColoring
set_option maxRecDepth 20000 in
theorem ggX10_setModulus_X10_in : GoodIn wsX10_setModulus wsX10_in := goodIn_r _ [5] (by decide +kernel) (by decide +kernel)
set_option maxRecDepth 20000 in
theorem gX10_setModulus_X10_in : GoodIn wsX10_setModulus (va_wsS RX10 37 yX10_in wsX10_in) := goodIn_app (goodIn_of _ (by decide +kernel)) ggX10_setModulus_X10_in
set_option maxRecDepth 20000 in
theorem ggX10_setModulus_X10_edit : GoodIn wsX10_setModulus wsX10_edit := goodIn_r _ [9, 10, 11, 1, 12, 13, 14, 15, 16, 17, 18, 19, 20, 21, 22] (by decide +kernel) (by decide +kernel)
set_option maxRecDepth 20000 in
theorem gX10_setModulus_X10_edit : GoodIn wsX10_setModulus (wsV RX10 45 RX10 yX10_edit wsX10_edit) := goodIn_app (goodIn_of _ (by decide +kernel)) ggX10_setModulus_X10_edit
set_option maxRecDepth 20000 in
theorem ggX10_setWeight_X10_isElement : GoodIn wsX10_setWeight wsX10_isElement := goodIn_r _ [6, 1, 7, 8, 5, 9, 20, 21, 22, 23, 24, 25, 26, 27, 28, 29, 30] (by decide +kernel) (by decide +kernel)
set_option maxRecDepth 20000 in
theorem gX10_setWeight_X10_isElement : GoodIn wsX10_setWeight (wsV RX10 71 RX10 yX10_isElement wsX10_isElement) := goodIn_app (goodIn_of _ (by decide +kernel)) ggX10_setWeight_X10_isElement
set_option maxRecDepth 20000 in
theorem ggX10_setWeight_X10_in : GoodIn wsX10_setWeight wsX10_in := goodIn_r _ [9] (by decide +kernel) (by decide +kernel)
set_option maxRecDepth 20000 in
theorem gX10_setWeight_X10_in : GoodIn wsX10_setWeight (va_wsS RX10 37 yX10_in wsX10_in) := goodIn_app (goodIn_of _ (by decide +kernel)) ggX10_setWeight_X10_in
set_option maxRecDepth 20000 in
theorem ggX10_setWeight_X10_edit : GoodIn wsX10_setWeight wsX10_edit := goodIn_r _ [13, 14, 15, 1, 20, 21, 22, 23, 24, 25, 26, 27, 28, 29, 30] (by decide +kernel) (by decide +kernel)
set_option maxRecDepth 20000 in
theorem gX10_setWeight_X10_edit : GoodIn wsX10_setWeight (wsV RX10 45 RX10 yX10_edit wsX10_edit) := goodIn_app (goodIn_of _ (by decide +kernel)) ggX10_setWeight_X10_edit
set_option maxRecDepth 20000 in
theorem ggX10_setWeight_X10_weightOf : GoodIn wsX10_setWeight wsX10_weightOf := goodIn_r _ [19, 1, 20, 21, 22, 23, 24, 25, 26, 27, 28, 29, 30] (by decide +kernel) (by decide +kernel)
set_option maxRecDepth 20000 in
theorem gX10_setWeight_X10_weightOf : GoodIn wsX10_setWeight (wsV RX10 75 RX10 yX10_weightOf wsX10_weightOf) := goodIn_app (goodIn_of _ (by decide +kernel)) ggX10_setWeight_X10_weightOf
set_option maxRecDepth 20000 in
theorem ggX10_addCoboundary_X10_isElement : GoodIn wsX10_addCoboundary wsX10_isElement := goodIn_r _ [6, 1, 7, 8, 5, 9, 24, 25, 26, 27, 28, 29, 30, 31, 32, 33, 34] (by decide +kernel) (by decide +kernel)
set_option maxRecDepth 20000 in
theorem gX10_addCoboundary_X10_isElement : GoodIn wsX10_addCoboundary (wsV RX10 71 RX10 yX10_isElement wsX10_isElement) := goodIn_app (goodIn_of _ (by decide +kernel)) ggX10_addCoboundary_X10_isElement
set_option maxRecDepth 20000 in
theorem ggX10_addCoboundary_X10_in : GoodIn wsX10_addCoboundary wsX10_in := goodIn_r _ [9] (by decide +kernel) (by decide +kernel)
set_option maxRecDepth 20000 in
theorem gX10_addCoboundary_X10_in : GoodIn wsX10_addCoboundary (va_wsS RX10 37 yX10_in wsX10_in) := goodIn_app (goodIn_of _ (by decide +kernel)) ggX10_addCoboundary_X10_in
set_option maxRecDepth 20000 in
theorem ggX10_addCoboundary_X10_edit : GoodIn wsX10_addCoboundary wsX10_edit := goodIn_r _ [13, 14, 15, 1, 24, 25, 26, 27, 28, 29, 30, 31, 32, 33, 34] (by decide +kernel) (by decide +kernel)
set_option maxRecDepth 20000 in
theorem gX10_addCoboundary_X10_edit : GoodIn wsX10_addCoboundary (wsV RX10 45 RX10 yX10_edit wsX10_edit) := goodIn_app (goodIn_of _ (by decide +kernel)) ggX10_addCoboundary_X10_edit
set_option maxRecDepth 20000 in
theorem ggX10_addCoboundary_X10_weightOf : GoodIn wsX10_addCoboundary wsX10_weightOf := goodIn_r _ [19, 1, 24, 25, 26, 27, 28, 29, 30, 31, 32, 33, 34] (by decide +kernel) (by decide +kernel)
set_option maxRecDepth 20000 in
theorem gX10_addCoboundary_X10_weightOf : GoodIn wsX10_addCoboundary (wsV RX10 75 RX10 yX10_weightOf wsX10_weightOf) := goodIn_app (goodIn_of _ (by decide +kernel)) ggX10_addCoboundary_X10_weightOf
set_option maxRecDepth 20000 in
theorem ggX10_addCoboundary_X10_of : GoodIn wsX10_addCoboundary wsX10_of := goodIn_r _ [23, 1, 24, 25, 26, 27, 28, 29, 30, 31, 32, 33, 34] (by decide +kernel) (by decide +kernel)
set_option maxRecDepth 20000 in
theorem gX10_addCoboundary_X10_of : GoodIn wsX10_addCoboundary (wsV RX10 78 RX10 yX10_of wsX10_of) := goodIn_app (goodIn_of _ (by decide +kernel)) ggX10_addCoboundary_X10_of
set_option maxRecDepth 20000 in
theorem ggX10_weight_X10_isElement : GoodIn wsX10_weight wsX10_isElement := goodIn_r _ [5, 6, 7, 8, 4, 9, 14, 15, 16, 17, 18, 19, 20, 21, 22, 23, 24] (by decide +kernel) (by decide +kernel)
set_option maxRecDepth 20000 in
theorem gX10_weight_X10_isElement : GoodIn wsX10_weight (wsV RX10 71 RX10 yX10_isElement wsX10_isElement) := goodIn_app (goodIn_of _ (by decide +kernel)) ggX10_weight_X10_isElement
set_option maxRecDepth 20000 in
theorem ggX10_weight_X10_weightOf : GoodIn wsX10_weight wsX10_weightOf := goodIn_r _ [13, 6, 14, 15, 16, 17, 18, 19, 20, 21, 22, 23, 24] (by decide +kernel) (by decide +kernel)
set_option maxRecDepth 20000 in
theorem gX10_weight_X10_weightOf : GoodIn wsX10_weight (wsV RX10 75 RX10 yX10_weightOf wsX10_weightOf) := goodIn_app (goodIn_of _ (by decide +kernel)) ggX10_weight_X10_weightOf
set_option maxRecDepth 20000 in
theorem ggX10_cocycleViolation_X10_violation : GoodIn wsX10_cocycleViolation wsX10_violation := goodIn_r _ [5, 6, 7, 8, 9, 4, 10, 11, 12, 13, 14, 15, 16, 17, 18, 19, 20, 21, 22, 23, 24, 25] (by decide +kernel) (by decide +kernel)
set_option maxRecDepth 20000 in
theorem gX10_cocycleViolation_X10_violation : GoodIn wsX10_cocycleViolation (wsV RX10 81 RX10 yX10_violation wsX10_violation) := goodIn_app (goodIn_of _ (by decide +kernel)) ggX10_cocycleViolation_X10_violation
set_option maxRecDepth 20000 in
theorem ggX10_stateSum_X10_in : GoodIn wsX10_stateSum wsX10_in := goodIn_r _ [6] (by decide +kernel) (by decide +kernel)
set_option maxRecDepth 20000 in
theorem gX10_stateSum_X10_in : GoodIn wsX10_stateSum (va_wsS RX10 37 yX10_in wsX10_in) := goodIn_app (goodIn_of _ (by decide +kernel)) ggX10_stateSum_X10_in
set_option maxRecDepth 20000 in
theorem ggX10_stateSum_X10_column : GoodIn wsX10_stateSum wsX10_column := goodIn_r _ [10, 1, 11, 29, 30, 31, 32, 33, 34, 35, 36, 37, 38, 39] (by decide +kernel) (by decide +kernel)
set_option maxRecDepth 20000 in
theorem gX10_stateSum_X10_column : GoodIn wsX10_stateSum (wsV RX10 67 RX10 yX10_column wsX10_column) := goodIn_app (goodIn_of _ (by decide +kernel)) ggX10_stateSum_X10_column
set_option maxRecDepth 20000 in
theorem ggX10_stateSum_X10_codes : GoodIn wsX10_stateSum wsX10_codes := goodIn_r _ [15, 1, 29, 30, 31, 32, 33, 34, 35, 36, 37, 38, 39] (by decide +kernel) (by decide +kernel)
set_option maxRecDepth 20000 in
theorem gX10_stateSum_X10_codes : GoodIn wsX10_stateSum (wsV RX10 98 RX10 yX10_codes wsX10_codes) := goodIn_app (goodIn_of _ (by decide +kernel)) ggX10_stateSum_X10_codes
set_option maxRecDepth 20000 in
theorem ggX10_stateSum_X10_isColoring : GoodIn wsX10_stateSum wsX10_isColoring := goodIn_r _ [19, 1, 20, 2, 11, 21, 22, 23, 5, 24, 25, 26, 27, 28, 29, 30, 31, 32, 33, 34, 35, 36, 37, 38, 39] (by decide +kernel) (by decide +kernel)
set_option maxRecDepth 20000 in
theorem gX10_stateSum_X10_isColoring : GoodIn wsX10_stateSum (wsV RX10 101 RX10 yX10_isColoring wsX10_isColoring) := goodIn_app (goodIn_of _ (by decide +kernel)) ggX10_stateSum_X10_isColoring
