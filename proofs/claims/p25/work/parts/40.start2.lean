/-! The start: the constants, out of the premises (found by their paths). -/
def c_kn : List String := ["FACT", "CLAUSE", "WHEN", "OPTIONAL", "NEEDS", "BARS", "AFTER", "REF", "DEF", "USE", "SHOW", "IF", "ELSE", "POINTS", "POINT", "AND", "OR", "NOT", "MIN", "MAX", "OPEN_BLOCK", "CLOSE_BLOCK", "OPEN_SUM", "CLOSE_SUM", "OPEN_TEST", "CLOSE_TEST", "SEMICOLON", "COMMA", "PLUS", "MINUS", "TIMES", "OVER", "LESS", "MORE", "EQUAL", "AT_MOST", "AT_LEAST", "NAME", "NUMBER", "STRING", "END", "WRONG", "TURN"]
def c_kk : List Nat := [157, 163, 166, 169, 172, 175, 178, 181, 184, 187, 190, 193, 196, 199, 202, 205, 208, 211, 214, 217, 220, 223, 226, 229, 232, 235, 238, 241, 244, 247, 250, 253, 256, 259, 262, 265, 268, 271, 271, 271, 271, 271, 271]
/-- the text of a kind: its place among the texts -/
def c_kt : List Nat := [30, 33, 34, 50, 8, 9, 10, 27, 29, 28, 53, 25, 24, 54, 55, 48, 49, 26, 56, 57, 51, 52, 38, 37, 35, 36, 32, 39, 42, 43, 40, 41, 44, 45, 31, 46, 47, 1, 1, 1, 1, 1, 1]
def c_so : List (String × Nat) := [("ClauseDeskLaw", 142), ("ClauseDeskLaw", 79), ("ClauseDeskLaw", 144), ("ClauseDeskLaw", 122), ("ClauseDeskLaw", 185), ("ClauseDeskLaw", 187), ("ClauseDeskLaw", 189), ("ClauseDeskLaw", 191), ("ClauseDeskLaw", 193), ("ClauseDeskLaw", 197), ("ClauseDeskLaw", 198), ("ClauseDeskLaw", 92), ("ClauseDeskLaw", 101), ("ClauseDeskLaw", 103), ("ClauseDeskLaw", 109), ("ClauseDeskLaw", 114), ("ClauseDeskLaw", 116), ("ClauseDeskLaw", 118), ("ClauseDeskLaw", 120), ("ClauseDeskLaw", 124), ("ClauseDeskLaw", 130), ("ClauseDeskLaw", 132), ("ClauseDeskLaw", 134), ("ClauseDeskLaw", 136), ("ClauseDesk$Kind", 196), ("ClauseDesk$Kind", 193), ("ClauseDesk$Kind", 211), ("ClauseDesk$Kind", 181), ("ClauseDesk$Kind", 187), ("ClauseDesk$Kind", 184), ("ClauseDesk$Kind", 157), ("ClauseDesk$Kind", 262), ("ClauseDesk$Kind", 238), ("ClauseDesk$Kind", 163), ("ClauseDesk$Kind", 166), ("ClauseDesk$Kind", 232), ("ClauseDesk$Kind", 235), ("ClauseDesk$Kind", 229), ("ClauseDesk$Kind", 226), ("ClauseDesk$Kind", 241), ("ClauseDesk$Kind", 250), ("ClauseDesk$Kind", 253), ("ClauseDesk$Kind", 244), ("ClauseDesk$Kind", 247), ("ClauseDesk$Kind", 256), ("ClauseDesk$Kind", 259), ("ClauseDesk$Kind", 265), ("ClauseDesk$Kind", 268), ("ClauseDesk$Kind", 205), ("ClauseDesk$Kind", 208), ("ClauseDesk$Kind", 169), ("ClauseDesk$Kind", 220), ("ClauseDesk$Kind", 223), ("ClauseDesk$Kind", 190), ("ClauseDesk$Kind", 199), ("ClauseDesk$Kind", 202), ("ClauseDesk$Kind", 214), ("ClauseDesk$Kind", 217)]
def c_sb : List (List Int32) := [[102, 97, 99, 116, 32], [], [32, 61, 32], [59, 32], [99, 108, 97, 117, 115, 101, 32], [119, 104, 101, 110, 32], [32, 62, 32], [111, 112, 116, 105, 111, 110, 97, 108, 32], [110, 101, 101, 100, 115], [98, 97, 114, 115], [97, 102, 116, 101, 114], [123, 32], [100, 101, 102, 32], [117, 115, 101, 32], [39, 84, 101, 120, 116, 32], [59, 32, 39, 32], [114, 101, 102, 32], [115, 104, 111, 119, 32], [42, 50, 45], [105, 102, 32], [101, 108, 115, 101, 32], [112, 111, 105, 110, 116, 115, 32, 123, 32, 112, 111, 105, 110, 116, 32], [112, 111, 105, 110, 116, 32], [125, 32], [101, 108, 115, 101], [105, 102], [110, 111, 116], [114, 101, 102], [117, 115, 101], [100, 101, 102], [102, 97, 99, 116], [61], [59], [99, 108, 97, 117, 115, 101], [119, 104, 101, 110], [91], [93], [41], [40], [44], [42], [47], [43], [45], [60], [62], [60, 61], [62, 61], [97, 110, 100], [111, 114], [111, 112, 116, 105, 111, 110, 97, 108], [123], [125], [115, 104, 111, 119], [112, 111, 105, 110, 116, 115], [112, 111, 105, 110, 116], [109, 105, 110], [109, 97, 120]]
def c_sw : List Int32 := [14, 15, 0, 0, 16, 17, 18, 2, 3, 4, 5, 6, 0, 7, 19, 28, 29, 0, 12, 13, 0, 0, 11, 0, 0, 0, 0, 0, 20, 10, 21, 22, 23, 24, 25, 26, 27, 9, 8, 1, 0, 0, 0]
def c_d1 : List Int32 := [48, 49, 50, 51, 52, 53, 54, 55, 56, 57, 48, 49, 50, 51, 52, 53, 54, 55, 56, 57, 48, 49, 50, 51, 52, 53, 54, 55, 56, 57, 48, 49, 50, 51, 52, 53, 54, 55, 56, 57, 48, 49, 50, 51, 52, 53, 54, 55, 56, 57, 48, 49, 50, 51, 52, 53, 54, 55, 56, 57, 48, 49, 50, 51, 52, 53, 54, 55, 56, 57, 48, 49, 50, 51, 52, 53, 54, 55, 56, 57, 48, 49, 50, 51, 52, 53, 54, 55, 56, 57, 48, 49, 50, 51, 52, 53, 54, 55, 56, 57]
def c_d2 : List Int32 := [48, 48, 48, 48, 48, 48, 48, 48, 48, 48, 49, 49, 49, 49, 49, 49, 49, 49, 49, 49, 50, 50, 50, 50, 50, 50, 50, 50, 50, 50, 51, 51, 51, 51, 51, 51, 51, 51, 51, 51, 52, 52, 52, 52, 52, 52, 52, 52, 52, 52, 53, 53, 53, 53, 53, 53, 53, 53, 53, 53, 54, 54, 54, 54, 54, 54, 54, 54, 54, 54, 55, 55, 55, 55, 55, 55, 55, 55, 55, 55, 56, 56, 56, 56, 56, 56, 56, 56, 56, 56, 57, 57, 57, 57, 57, 57, 57, 57, 57, 57]
def q_w : List Nat := [3137, 2625, 3649, 2369, 3393, 2881, 3905, 2241, 3265, 2753, 3777, 2497, 3521, 3009, 4033, 2081, 3105, 2593, 3617, 2337, 3361, 2849, 3873, 2209, 3233, 2721, 3745, 2465, 3489, 2977, 4001, 2145, 3169, 2657, 3681, 2401, 3425, 2913, 3937, 2273, 3297, 2785, 3809]
def q_1 : List Nat := [2873, 3897, 2233, 3257, 2745, 3769, 2489, 3513, 3001, 4025, 2169, 3193, 2681, 3705, 2425, 3449, 2937, 3961, 2297, 3321, 2809, 3833, 2553, 3577, 3065, 4089, 2053, 3077, 2565, 3589, 2309, 3333, 2821, 3845, 2181, 3205, 2693, 3717, 2437, 3461, 2949, 3973, 2117, 3141, 2629, 3653, 2373, 3397, 2885, 3909, 2245, 3269, 2757, 3781, 2501, 3525, 3013, 4037, 2085, 3109, 2597, 3621, 2341, 3365, 2853, 3877, 2213, 3237, 2725, 3749, 2469, 3493, 2981, 4005, 2149, 3173, 2661, 3685, 2405, 3429, 2917, 3941, 2277, 3301, 2789, 3813, 2533, 3557, 3045, 4069, 2069, 3093, 2581, 3605, 2325, 3349, 2837, 3861, 2197, 3221]
def q_2 : List Nat := [3477, 2965, 3989, 2133, 3157, 2645, 3669, 2389, 3413, 2901, 3925, 2261, 3285, 2773, 3797, 2517, 3541, 3029, 4053, 2101, 3125, 2613, 3637, 2357, 3381, 2869, 3893, 2229, 3253, 2741, 3765, 2485, 3509, 2997, 4021, 2165, 3189, 2677, 3701, 2421, 3445, 2933, 3957, 2293, 3317, 2805, 3829, 2549, 3573, 3061, 4085, 2061, 3085, 2573, 3597, 2317, 3341, 2829, 3853, 2189, 3213, 2701, 3725, 2445, 3469, 2957, 3981, 2125, 3149, 2637, 3661, 2381, 3405, 2893, 3917, 2253, 3277, 2765, 3789, 2509, 3533, 3021, 4045, 2093, 3117, 2605, 3629, 2349, 3373, 2861, 3885, 2221, 3245, 2733, 3757, 2477, 3501, 2989, 4013, 2157]
def q_k : List Nat := [3401, 3017, 3113, 3161, 3153, 2961, 2385, 2193, 3921, 3729, 2777, 3713, 2177, 3545, 2105, 3737, 2969, 3345, 3181, 2413, 2393, 3929, 3497, 2729, 2345, 3881, 3785, 2153, 3305, 2537, 3689, 2921, 4073, 2585, 2249, 3353, 2201, 4065, 2529, 2633, 4049, 3329, 2577]
def q_ko : List Nat := [2889, 4041, 2601, 2649, 2641, 3985, 3409, 3217, 2257, 2449, 3801, 2433, 3201, 3033, 3129, 2457, 3993, 2833, 2669, 3437, 3417, 2265, 2985, 3753, 3369, 2217, 2505, 3177, 2793, 3561, 2409, 3945, 2073, 3609, 3273, 2841, 3225, 2065, 3553, 3657, 2097, 2817, 3601]
def q_kx : List Nat := [3913, 2089, 3625, 3673, 3665, 2129, 2897, 2705, 3281, 3473, 2521, 3457, 2689, 4057, 2617, 3481, 2137, 3857, 3693, 2925, 2905, 3289, 4009, 2473, 2857, 3241, 3529, 2665, 3817, 3049, 3433, 2281, 3097, 2329, 2761, 3865, 2713, 3089, 3041, 2377, 3121, 3841, 2321]
def q_kd : List Nat := [0, 0, 0, 0, 2811, 2171, 2311, 0, 0, 0, 0, 0, 0, 0, 0, 0, 0, 0, 0, 0, 0, 0, 0, 0, 0, 0, 0, 0, 0, 0, 0, 0, 0, 0, 0, 0, 0, 2331, 2331, 2331, 2331, 2331, 2331]
def q_ka : List Nat := [3889, 2225, 3249, 2737, 3761, 2481, 3505, 2993, 4017, 2161, 3185, 2673, 3697, 2417, 3441, 2929, 3953, 2289, 3313, 2801, 3825, 2545, 3569, 3057, 4081, 2057, 3081, 2569, 3593, 2313, 3337, 2825, 3849, 2185, 3209, 2697, 3721, 2441, 3465, 2953, 3977, 2121, 3145]
def q_s1 : List Nat := [2173, 3325, 3581, 3331, 3715, 2883, 4035, 2851, 3683, 2531, 2323, 3475, 3667, 3795, 3635, 3507, 3443, 3571, 2827, 3467, 2379, 3531, 2155, 2795, 3355, 3483, 3675, 2779, 3131, 3335, 2439, 2375, 3271, 3015, 2215, 2151, 3431, 2791, 4071, 2327, 3223, 2967, 3671, 2263, 3543, 2615, 3895, 3511, 3703, 2807, 2063, 2447, 3151, 2895, 3023, 2223, 3183, 2287]
def q_s2 : List Nat := [3197, 2813, 3069, 2819, 2435, 3907, 2083, 3875, 2403, 3555, 3347, 2963, 2387, 2515, 2355, 2995, 2931, 3059, 3851, 2955, 3403, 3019, 3179, 3819, 2843, 2971, 2395, 3803, 2619, 2823, 3463, 3399, 2759, 4039, 3239, 3175, 2919, 3815, 2071, 3351, 2711, 3991, 2391, 3287, 3031, 3639, 2231, 2999, 2423, 3831, 3087, 3471, 2639, 3919, 4047, 3247, 2671, 3311]
def q_s3 : List Nat := [2685, 3837, 4093, 3843, 3459, 2243, 3107, 2211, 3427, 3043, 2835, 3987, 3411, 3539, 3379, 4019, 3955, 4083, 2187, 3979, 2891, 4043, 2667, 2539, 3867, 3995, 3419, 2523, 3643, 3847, 2951, 2887, 3783, 2087, 2727, 2663, 3943, 2535, 3095, 2839, 3735, 2135, 3415, 2775, 4055, 2359, 3255, 4023, 3447, 2551, 2575, 2959, 3663, 2255, 2095, 2735, 3695, 2799]
def q_s4 : List Nat := [3709, 2557, 1027, 2179, 2947, 3267, 2595, 3235, 2915, 4067, 3859, 2131, 2899, 3027, 2867, 2163, 2291, 2059, 3211, 2123, 3915, 2091, 3691, 3563, 2203, 2139, 2907, 3547, 2363, 2183, 3975, 3911, 2503, 3111, 3751, 3687, 2279, 3559, 2583, 3863, 2455, 3159, 2903, 3799, 2103, 3383, 2743, 2167, 2935, 3575, 3599, 3983, 2383, 3279, 3119, 3759, 2415, 3823]
def q_s5 : List (List Nat) := [[2429, 3453, 2941, 3965, 2301], [], [2563, 3587, 2307], [3203, 2691], [3971, 2115, 3139, 2627, 3651, 2371, 3395], [2755, 3779, 2499, 3523, 3011], [3619, 2339, 3363], [2723, 3747, 2467, 3491, 2979, 4003, 2147, 3171, 2659], [3939, 2275, 3299, 2787, 3811], [2067, 3091, 2579, 3603], [2195, 3219, 2707, 3731, 2451], [3155, 2643], [3923, 2259, 3283, 2771], [4051, 2099, 3123, 2611], [3891, 2227, 3251, 2739, 3763, 2483], [3187, 2675, 3699, 2419], [3315, 2803, 3827, 2547], [3083, 2571, 3595, 2315, 3339], [2699, 3723, 2443], [3147, 2635, 3659], [2251, 3275, 2763, 3787, 2507], [3115, 2603, 3627, 2347, 3371, 2859, 3883, 2219, 3243, 2731, 3755, 2475, 3499, 2987, 4011], [2411, 3435, 2923, 3947, 2283, 3307], [3051, 4075], [3227, 2715, 3739, 2459], [3163, 2651], [3931, 2267, 3291], [3035, 4059, 2107], [3387, 2875, 3899], [3207, 2695, 3719], [2119, 3143, 2631, 3655], [2247], [3527], [2599, 3623, 2343, 3367, 2855, 3879], [2471, 3495, 2983, 4007], [2407], [3303], [3047], [3607], [2199], [3479], [2647], [3927], [2519], [3127], [2871], [3767, 2487], [3191, 2679], [3959, 2295, 3319], [3063, 4087], [2319, 3343, 2831, 3855, 2191, 3215, 2703, 3727], [2127], [3407], [2767, 3791, 2511, 3535], [2607, 3631, 2351, 3375, 2863, 3887], [2479, 3503, 2991, 4015, 2159], [3439, 2927, 3951], [2543, 3567, 3055]]
/-- a premise by its path -/
def n_go : Nat → Nat → Cond → Cond
  | 0, _, c => c
  | f + 1, p, .and x y => bif Nat.ble p 1 then .and x y else n_go f (p / 2) (bif Nat.beq (p % 2) 1 then y else x)
  | _ + 1, _, c => c
theorem n_go_of {args : Array Value} {s : State} : ∀ (f p : Nat) (c : Cond), c.before args s = true → (n_go f p c).before args s = true := by
  intro f
  induction f with
  | zero => intro p c h; exact h
  | succ f ih =>
    intro p c h
    cases c with
    | and x y =>
      have h0 := h
      rw [Cond.before_and, Bool.and_eq_true] at h
      show (bif Nat.ble p 1 then Cond.and x y else n_go f (p / 2) (bif Nat.beq (p % 2) 1 then y else x)).before args s = true
      cases Nat.ble p 1
      · cases Nat.beq (p % 2) 1
        · exact ih _ _ h.1
        · exact ih _ _ h.2
      · exact h0
    | _ => exact h
def n_T : Cond := Jvm.Cond.and given_1 narrow_1
def n_1 (p : Nat) (w : Cond) : Bool := decide (n_go 20 p n_T = w)
theorem n_in {p : Nat} {w : Cond} {args : Array Value} {s : State} (h0 : n_T.before args s = true) (h : n_1 p w = true) : w.before args s = true := (of_decide_eq_true h) ▸ n_go_of 20 p n_T h0
def n_all (N : Nat) (q : List Nat) (w : Nat → Cond) : Bool := (List.range N).all (fun i => n_1 (q.getD i 0) (w i))
theorem n_use {N : Nat} {q : List Nat} {w : Nat → Cond} {args : Array Value} {s : State} (h0 : n_T.before args s = true) (h : n_all N q w = true) : ∀ i, i < N → (w i).before args s = true := fun i hi => n_in h0 (List.all_eq_true.mp h i (List.mem_range.mpr hi))
def tK (i : Nat) : Term := .static "ClauseDesk$Kind" (c_kn.getD i "") "LClauseDesk$Kind;"
def tS (j : Nat) : Term := .string (c_so.getD j ("", 0)).1 (c_so.getD j ("", 0)).2
def tV (j : Nat) : Term := .field (tS j) "java/lang/String" "value" "[B"
def tKS : Term := .static "ClauseDesk" "KINDS" "[LClauseDesk$Kind;"
def tSW : Term := .static "ClauseDesk$1" "$SwitchMap$ClauseDesk$Kind" "[I"
def tD1 : Term := .static "java/lang/Integer" "DigitOnes" "[B"
def tD2 : Term := .static "java/lang/Integer" "DigitTens" "[B"
def tFM : Term := .static "jdk/internal/util/Preconditions" "SIOOBE_FORMATTER" "Ljava/util/function/BiFunction;"
def c_sl (j : Nat) : Nat := (c_sb.getD j []).length
set_option maxRecDepth 100000 in
theorem nk_1 : n_all 43 q_k (fun i => .exactly (tK i) "ClauseDesk$Kind") = true := by decide +kernel
set_option maxRecDepth 100000 in
theorem nk_2 : n_all 43 q_ko (fun i => .eq (.field (tK i) "java/lang/Enum" "ordinal" "I") (.int (Int32.ofNat i))) = true := by decide +kernel
set_option maxRecDepth 100000 in
theorem nk_3 : n_all 43 q_kx (fun i => .eq (.field (tK i) "ClauseDesk$Kind" "text" "Ljava/lang/String;") (.string "ClauseDesk$Kind" (c_kk.getD i 0))) = true := by decide +kernel
set_option maxRecDepth 100000 in
theorem nk_4 : (List.range 43).all (fun i => Nat.blt (c_kt.getD i 0) 58 && (decide (tS (c_kt.getD i 0) = .string "ClauseDesk$Kind" (c_kk.getD i 0)) || n_1 (q_kd.getD i 0) (.eq (tS (c_kt.getD i 0)) (.string "ClauseDesk$Kind" (c_kk.getD i 0))))) = true := by decide +kernel
set_option maxRecDepth 100000 in
theorem nk_5 : n_all 43 q_ka (fun i => .eq (.elem tKS (.int (Int32.ofNat i))) (tK i)) = true := by decide +kernel
set_option maxRecDepth 100000 in
theorem nw_1 : n_all 43 q_w (fun i => .eq (.elem tSW (.int (Int32.ofNat i))) (.int (c_sw.getD i 0))) = true := by decide +kernel
set_option maxRecDepth 100000 in
theorem nd_1 : n_all 100 q_1 (fun i => .eq (.elem tD1 (.int (Int32.ofNat i))) (.int (c_d1.getD i 0))) = true := by decide +kernel
set_option maxRecDepth 100000 in
theorem nd_2 : n_all 100 q_2 (fun i => .eq (.elem tD2 (.int (Int32.ofNat i))) (.int (c_d2.getD i 0))) = true := by decide +kernel
set_option maxRecDepth 100000 in
theorem ns_1 : n_all 58 q_s1 (fun j => .exactly (tS j) "java/lang/String") = true := by decide +kernel
set_option maxRecDepth 100000 in
theorem ns_2 : n_all 58 q_s2 (fun j => .eq (.field (tS j) "java/lang/String" "coder" "B") (.int 0)) = true := by decide +kernel
set_option maxRecDepth 100000 in
theorem ns_3 : n_all 58 q_s3 (fun j => .arrayOf (tV j) .byte) = true := by decide +kernel
set_option maxRecDepth 100000 in
theorem ns_4 : n_all 58 q_s4 (fun j => .eq (.length (tV j)) (.int (Int32.ofNat (c_sl j)))) = true := by decide +kernel
set_option maxRecDepth 100000 in
theorem ns_5 : (List.range 58).all (fun j => Nat.ble (c_sl j) 100 && n_all (c_sl j) (q_s5.getD j []) (fun i => .eq (.elem (tV j) (.int (Int32.ofNat i))) (.int ((c_sb.getD j []).getD i 0)))) = true := by decide +kernel
set_option maxRecDepth 100000 in
theorem n1_1 : n_1 2353 (.arrayOf tKS (.object "ClauseDesk$Kind")) = true ∧ n_1 3377 (.eq (.length tKS) (.int (Int32.ofNat 43))) = true ∧ n_1 3969 (.arrayOf tSW .int) = true ∧ n_1 2113 (.eq (.length tSW) (.int (Int32.ofNat 43))) = true := by decide +kernel
set_option maxRecDepth 100000 in
theorem n1_2 : n_1 2361 (.arrayOf tD1 .byte) = true ∧ n_1 3385 (.eq (.length tD1) (.int (Int32.ofNat 100))) = true ∧ n_1 3733 (.arrayOf tD2 .byte) = true ∧ n_1 2453 (.eq (.length tD2) (.int (Int32.ofNat 100))) = true := by decide +kernel
set_option maxRecDepth 100000 in
theorem n1_3 : n_1 3793 (.isRef tFM) = true ∧ n_1 2769 (.eq (.static "java/lang/String" "COMPACT_STRINGS" "Z") (.int 1)) = true := by decide +kernel
section EN
variable {args : Array Value} {s : State} {A : Nat → Prop}
theorem en_kind (h0 : n_T.before args s = true) (hA : ∀ a : Nat, a < s.heap.size → ¬ A a) : ∃ ad : Nat → Nat, ∀ i, i < 43 → (tK i).eval args s none [] s = some (.ref (ad i)) ∧ va_O "ClauseDesk$Kind" (ad i) A s s.heap ∧ va_OF "java/lang/Enum" "ordinal" "I" (.int (Int32.ofNat i)) (ad i) A s s.heap := by
  have h : ∀ i : Nat, ∃ t : Nat, i < 43 → (tK i).eval args s none [] s = some (.ref t) ∧ va_O "ClauseDesk$Kind" t A s s.heap ∧ va_OF "java/lang/Enum" "ordinal" "I" (.int (Int32.ofNat i)) t A s s.heap := by
    intro i
    by_cases hi : i < 43
    · have hex := n_use h0 nk_1 i hi
      obtain ⟨a, c, cell, k, q1, -⟩ := Cond.exactly_spec (args := args) (first := s) (o := none) (s := s) (idx := []) (t := tK i) (cls := "ClauseDesk$Kind") hex
      exact ⟨a, fun _ => ⟨q1, va_Oof hex q1 hA, vk_OFof q1 (va_eqt (n_use h0 nk_2 i hi)) hA⟩⟩
    · exact ⟨0, fun z => absurd z hi⟩
  exact Classical.axiomOfChoice h
theorem en_str (h0 : n_T.before args s = true) (hA : ∀ a : Nat, a < s.heap.size → ¬ A a) : ∃ ad av : Nat → Nat, ∀ j, j < 58 → (tS j).eval args s none [] s = some (.ref (ad j)) ∧ va_O "java/lang/String" (ad j) A s s.heap ∧ va_OF "java/lang/String" "value" "[B" (.ref (av j)) (ad j) A s s.heap ∧ va_OF "java/lang/String" "coder" "B" (.int 0) (ad j) A s s.heap ∧
    va_T .byte (av j) (c_sl j) (fun i => .int ((c_sb.getD j []).getD i 0)) A s s.heap := by
  have h : ∀ j : Nat, ∃ q : Nat × Nat, j < 58 → (tS j).eval args s none [] s = some (.ref q.1) ∧ va_O "java/lang/String" q.1 A s s.heap ∧ va_OF "java/lang/String" "value" "[B" (.ref q.2) q.1 A s s.heap ∧ va_OF "java/lang/String" "coder" "B" (.int 0) q.1 A s s.heap ∧
    va_T .byte q.2 (c_sl j) (fun i => .int ((c_sb.getD j []).getD i 0)) A s s.heap := by
    intro j
    by_cases hj : j < 58
    · have hex := n_use h0 ns_1 j hj
      obtain ⟨a, c, cell, k, q1, -⟩ := Cond.exactly_spec (args := args) (first := s) (o := none) (s := s) (idx := []) (t := tS j) (cls := "java/lang/String") hex
      have h5 := List.all_eq_true.mp ns_5 j (List.mem_range.mpr hj)
      rw [Bool.and_eq_true] at h5
      obtain ⟨h6, h7⟩ := h5
      have h6 := Nat.le_of_ble_eq_true h6
      obtain ⟨t, ht, hT⟩ := va_Tof (f := fun i => .int ((c_sb.getD j []).getD i 0)) (A := A) (by omega) (n_use h0 ns_3 j hj) (va_eqt (n_use h0 ns_4 j hj)) (fun i hi => va_eqt (n_use h0 h7 i hi)) hA
      exact ⟨(a, t), fun _ => ⟨q1, va_Oof hex q1 hA, vk_OFof q1 ht hA, vk_OFof q1 (va_eqt (n_use h0 ns_2 j hj)) hA, hT⟩⟩
    · exact ⟨(0, 0), fun z => absurd z hj⟩
  obtain ⟨f, hf⟩ := Classical.axiomOfChoice h
  exact ⟨fun j => (f j).1, fun j => (f j).2, hf⟩
theorem en_kt (h0 : n_T.before args s = true) (hA : ∀ a : Nat, a < s.heap.size → ¬ A a) {ak as : Nat → Nat} (hk : ∀ i, i < 43 → (tK i).eval args s none [] s = some (.ref (ak i))) (hs : ∀ j, j < 58 → (tS j).eval args s none [] s = some (.ref (as j))) : ∀ i, i < 43 → c_kt.getD i 0 < 58 ∧ va_OF "ClauseDesk$Kind" "text" "Ljava/lang/String;" (.ref (as (c_kt.getD i 0))) (ak i) A s s.heap := by
  intro i hi
  have h4 := List.all_eq_true.mp nk_4 i (List.mem_range.mpr hi)
  rw [Bool.and_eq_true, Bool.or_eq_true] at h4
  obtain ⟨h5, h6⟩ := h4
  have h5 : c_kt.getD i 0 < 58 := Nat.le_of_ble_eq_true h5
  refine ⟨h5, vk_OFof (hk i hi) (va_eqv (n_use h0 nk_3 i hi) ?_) hA⟩
  rcases h6 with h | h
  · rw [← of_decide_eq_true h]; exact hs _ h5
  · exact va_eqR (n_in h0 h) (hs _ h5)
theorem en_rows (h0 : n_T.before args s = true) (hA : ∀ a : Nat, a < s.heap.size → ¬ A a) {ak : Nat → Nat} (hk : ∀ i, i < 43 → (tK i).eval args s none [] s = some (.ref (ak i))) :
    (∃ t, tKS.eval args s none [] s = some (.ref t) ∧ va_T (.object "ClauseDesk$Kind") t 43 (fun j => .ref (ak j)) A s s.heap) ∧ (∃ t, tSW.eval args s none [] s = some (.ref t) ∧ va_T .int t 43 (fun j => .int (c_sw.getD j 0)) A s s.heap) ∧
    (∃ t, tD1.eval args s none [] s = some (.ref t) ∧ va_T .byte t 100 (fun j => .int (c_d1.getD j 0)) A s s.heap) ∧ (∃ t, tD2.eval args s none [] s = some (.ref t) ∧ va_T .byte t 100 (fun j => .int (c_d2.getD j 0)) A s s.heap) :=
  ⟨va_Tof (f := fun j => .ref (ak j)) (by decide) (n_in h0 n1_1.1) (va_eqt (n_in h0 n1_1.2.1)) (fun i hi => va_eqv (n_use h0 nk_5 i hi) (hk i hi)) hA,
   va_Tof (f := fun j => .int (c_sw.getD j 0)) (by decide) (n_in h0 n1_1.2.2.1) (va_eqt (n_in h0 n1_1.2.2.2)) (fun i hi => va_eqt (n_use h0 nw_1 i hi)) hA,
   va_Tof (f := fun j => .int (c_d1.getD j 0)) (by decide) (n_in h0 n1_2.1) (va_eqt (n_in h0 n1_2.2.1)) (fun i hi => va_eqt (n_use h0 nd_1 i hi)) hA,
   va_Tof (f := fun j => .int (c_d2.getD j 0)) (by decide) (n_in h0 n1_2.2.2.1) (va_eqt (n_in h0 n1_2.2.2.2)) (fun i hi => va_eqt (n_use h0 nd_2 i hi)) hA⟩
end EN
