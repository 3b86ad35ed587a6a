/-! THE LAW'S METHODS (5) -/
def w_L_tells_L191 (B : Nat × Nat) (o : Nat) (a1 : Nat) (Q : Int32 → LwS → Prop) (x5 : Int32) (x22 : Int32) (x24 : Int32) (r25 : Int32) (K191 : (Int32 × Int32 × LwS) → Prop) (z191 : Int32 × Int32 × LwS) : Prop := ((4 ≤ z191.2.1) → lcall B z191.2.2 (fun B1 K => w_L_setMetre B1 o x5 x22 x24 z191.2.2 K) (fun r26 t26 => ∀ x27 : Int32, x27 = (if z191.1 = 0 then (-1000003) else r25) → ∃ J334 : Int32 → LwS → Prop, (∀ x28 : Int32, ∀ t29 : LwS, J334 x28 t29 → ((gb x28) ∧ Q x28 t29)) ∧ ∃ J333 : LwS → Prop, (∀ t31 : LwS, J333 t31 → (J334 0 t31)) ∧ (((r26 = x27) → lcall B t26 (fun B1 K => w_L_length B1 o x5 t26 K) (fun r32 t32 => ((¬ (z191.1 = 0)) → ¬ x24 = 0) ∧ ∀ x33 : Int32, x33 = (if z191.1 = 0 then r25 else (((96 : Int32) * x22) / x24)) → ((r32 = x33) → lcall B t32 (fun B1 K => w_L_setMetre B1 o x5 0 4 t32 K) (fun r35 t35 => ((r35 = (-1000002)) → lcall B t35 (fun B1 K => w_L_setMetre B1 o x5 4 3 t35 K) (fun r36 t36 => ((r36 = (-1000002)) → (vp_in 0 (rN t36.2 a1)) ∧ lcall B t36 (fun B1 K => w_L_setMetre B1 o (rG t36.2 a1 (Int32.toNatClampNeg 0)) 0 4 t36 K) (fun r38 t38 => ((r38 = (-1000001)) → J334 1 t38) ∧ (¬ (r38 = (-1000001)) → J333 t38))) ∧ (¬ (r36 = (-1000002)) → J333 t36))) ∧ (¬ (r35 = (-1000002)) → J333 t35))) ∧ (¬ (r32 = x33) → J333 t32))) ∧ (¬ (r26 = x27) → J333 t26)))) ∧ (¬ (4 ≤ z191.2.1) → ∃ J229 : Int32 → LwS → Prop, (∀ x39 : Int32, ∀ t40 : LwS, J229 x39 t40 → (K191 (x39, (z191.2.1 + 1), t40))) ∧ ∃ J228 : LwS → Prop, (∀ t41 : LwS, J228 t41 → (J229 0 t41)) ∧ (((z191.1 = 0) → J228 z191.2.2) ∧ (¬ (z191.1 = 0) → lcall B z191.2.2 (fun B1 K => w_L_left B1 o z191.2.1 x5 z191.2.2 K) (fun r42 t42 => (¬ x24 = 0) ∧ (((((96 : Int32) * x22) / x24) < (r25 - r42)) → J228 t42) ∧ (¬ ((((96 : Int32) * x22) / x24) < (r25 - r42)) → J229 1 t42)))))
def w_L_tells (B : Nat × Nat) (o : Nat) (a1 : Nat) (a2 : Nat) (a3 : Int32) (a4 : Int32) (t : LwS) (Q : Int32 → LwS → Prop) : Prop := (d_L_low a3 8) ∧ ∀ x2 : Int32, x2 = (v_L_low a3 8) → (vp_in 0 (rN t.2 a1)) ∧ (d_L_low a4 (rG t.2 a1 (Int32.toNatClampNeg 0))) ∧ ∀ x5 : Int32, x5 = (v_L_low a4 (rG t.2 a1 (Int32.toNatClampNeg 0))) → ((x2 = 0) → (d_L_low (a4 >>> (5 &&& 31)) 3) ∧ ((¬ ((v_L_low (a4 >>> (5 &&& 31)) 3) = 0)) → d_L_low (a4 >>> (7 &&& 31)) 211) ∧ ∀ x7 : Int32, x7 = (if (v_L_low (a4 >>> (5 &&& 31)) 3) = 0 then ((-1) : Int32) else ((30 : Int32) + (v_L_low (a4 >>> (7 &&& 31)) 211))) → lcall B t (fun B1 K => w_L_setTempo B1 o x5 x7 t K) (fun r9 t9 => ∃ J144 : Int32 → LwS → Prop, (∀ x10 : Int32, ∀ t11 : LwS, J144 x10 t11 → ((gb x10) ∧ Q x10 t11)) ∧ ∃ J143 : LwS → Prop, (∀ t13 : LwS, J143 t13 → (J144 0 t13)) ∧ (((r9 < (-1)) → J143 t9) ∧ (¬ (r9 < (-1)) → lcall B t9 (fun B1 K => w_L_setTempo B1 o x5 x7 t9 K) (fun r14 t14 => ((r14 = x7) → ∃ J99 : LwS → Prop, (∀ t15 : LwS, J99 t15 → (lcall B t15 (fun B1 K => w_L_setTempo B1 o x5 29 t15 K) (fun r16 t16 => ((r16 = (-1000002)) → lcall B t16 (fun B1 K => w_L_setTempo B1 o x5 241 t16 K) (fun r17 t17 => ((r17 = (-1000002)) → (vp_in 0 (rN t17.2 a1)) ∧ lcall B t17 (fun B1 K => w_L_setTempo B1 o (rG t17.2 a1 (Int32.toNatClampNeg 0)) 0 t17 K) (fun r19 t19 => ((r19 = (-1000001)) → J144 1 t19) ∧ (¬ (r19 = (-1000001)) → J143 t19))) ∧ (¬ (r17 = (-1000002)) → J143 t17))) ∧ (¬ (r16 = (-1000002)) → J143 t16)))) ∧ (((x7 < 0) → J99 t14) ∧ (¬ (x7 < 0) → lcall B t14 (fun B1 K => w_L_tempo B1 o x5 t14 K) (fun r20 t20 => ((r20 = x7) → J99 t20) ∧ (¬ (r20 = x7) → J143 t20))))) ∧ (¬ (r14 = x7) → J143 t14)))))) ∧ (¬ (x2 = 0) → ((x2 = 1) → (d_L_low (a4 >>> (5 &&& 31)) 9) ∧ ∀ x22 : Int32, x22 = ((1 : Int32) + (v_L_low (a4 >>> (5 &&& 31)) 9)) → (d_L_low (a4 >>> (9 &&& 31)) 3) ∧ ∀ x24 : Int32, x24 = ((2 : Int32) <<< ((v_L_low (a4 >>> (9 &&& 31)) 3) &&& 31)) → lcall B t (fun B1 K => w_L_length B1 o x5 t K) (fun r25 t25 => ∃ n, lp (w_L_tells_L191 B o a1 Q x5 x22 x24 r25) n (1, 0, t25))) ∧ (¬ (x2 = 1) → ((x2 = 2) → (vp_in 0 (rN t.2 a1)) ∧ (d_L_low (a4 >>> (5 &&& 31)) ((rG t.2 a1 (Int32.toNatClampNeg 0)) - x5)) ∧ ∀ x46 : Int32, x46 = (x5 + (v_L_low (a4 >>> (5 &&& 31)) ((rG t.2 a1 (Int32.toNatClampNeg 0)) - x5))) → (d_L_low (a4 >>> (9 &&& 31)) ((x46 - x5) + 1)) ∧ ∀ x48 : Int32, x48 = (v_L_low (a4 >>> (9 &&& 31)) ((x46 - x5) + 1)) → (kdC t.1 o = 14) ∧ lcall B t (fun B1 K => w_X11_places B1 o t.1 (fun r S' => K r (S', t.2)) (fun _ _ => False)) (fun r49 t49 => lcall B t49 (fun B1 K => w_L_addRepeat B1 o x5 x46 x48 t49 K) (fun r50 t50 => ∃ J448 : Int32 → LwS → Prop, (∀ x51 : Int32, ∀ t52 : LwS, J448 x51 t52 → (∃ J536 : Int32 → LwS → Prop, (∀ x53 : Int32, ∀ t54 : LwS, J536 x53 t54 → ((gb x53) ∧ Q x53 t54)) ∧ ∃ J535 : LwS → Prop, (∀ t56 : LwS, J535 t56 → (J536 0 t56)) ∧ (((x51 = 0) → J535 t52) ∧ (¬ (x51 = 0) → lcall B t52 (fun B1 K => w_L_addRepeat B1 o x5 x46 x48 t52 K) (fun r57 t57 => ((r57 = (-1000003)) → lcall B t57 (fun B1 K => w_L_addRepeat B1 o x5 x46 ((x46 - x5) + 1) t57 K) (fun r58 t58 => ((r58 = (-1000002)) → (vp_in 0 (rN t58.2 a1)) ∧ lcall B t58 (fun B1 K => w_L_addRepeat B1 o x5 (rG t58.2 a1 (Int32.toNatClampNeg 0)) 0 t58 K) (fun r60 t60 => ((r60 = (-1000001)) → lcall B t60 (fun B1 K => w_L_addRepeat B1 o x5 (x5 - 1) 0 t60 K) (fun r61 t61 => ∀ x62 : Int32, x62 = (if x5 = 0 then ((-1000001) : Int32) else (-1000002)) → ((r61 = x62) → J536 1 t61) ∧ (¬ (r61 = x62) → J535 t61))) ∧ (¬ (r60 = (-1000001)) → J535 t60))) ∧ (¬ (r58 = (-1000002)) → J535 t58))) ∧ (¬ (r57 = (-1000003)) → J535 t57)))))) ∧ (((r50 = (-1000003)) → (kdC t50.1 o = 14) ∧ lcall B t50 (fun B1 K => w_X11_places B1 o t50.1 (fun r S' => K r (S', t50.2)) (fun _ _ => False)) (fun r63 t63 => ((r63 = r49) → J448 1 t63) ∧ (¬ (r63 = r49) → J448 0 t63))) ∧ (¬ (r50 = (-1000003)) → ∃ J447 : LwS → Prop, (∀ t64 : LwS, J447 t64 → (J448 0 t64)) ∧ (((r50 ≤ 0) → J447 t50) ∧ (¬ (r50 ≤ 0) → (kdC t50.1 o = 14) ∧ lcall B t50 (fun B1 K => w_X11_places B1 o t50.1 (fun r S' => K r (S', t50.2)) (fun _ _ => False)) (fun r65 t65 => ((r65 = ((((r49 + x46) - x5) + 1) - x48)) → J448 1 t65) ∧ (¬ (r65 = ((((r49 + x46) - x5) + 1) - x48)) → J447 t65))))))))) ∧ (¬ (x2 = 2) → ((x2 = 3) → (kdC t.1 o = 14) ∧ lcall B t (fun B1 K => w_X11_places B1 o t.1 (fun r S' => K r (S', t.2)) (fun _ _ => False)) (fun r66 t66 => lcall B t66 (fun B1 K => w_L_dropRepeat B1 o x5 t66 K) (fun r67 t67 => ∃ J620 : Int32 → LwS → Prop, (∀ x68 : Int32, ∀ t69 : LwS, J620 x68 t69 → ((gb x68) ∧ Q x68 t69)) ∧ ∃ J619 : LwS → Prop, (∀ t71 : LwS, J619 t71 → (J620 0 t71)) ∧ ∃ J592 : LwS → Prop, (∀ t72 : LwS, J592 t72 → (lcall B t72 (fun B1 K => w_L_dropRepeat B1 o x5 t72 K) (fun r73 t73 => ((r73 = (-1000003)) → (vp_in 0 (rN t73.2 a1)) ∧ lcall B t73 (fun B1 K => w_L_dropRepeat B1 o (rG t73.2 a1 (Int32.toNatClampNeg 0)) t73 K) (fun r75 t75 => ((r75 = (-1000001)) → J620 1 t75) ∧ (¬ (r75 = (-1000001)) → J619 t75))) ∧ (¬ (r73 = (-1000003)) → J619 t73)))) ∧ (((r67 = (-1000003)) → (kdC t67.1 o = 14) ∧ lcall B t67 (fun B1 K => w_X11_places B1 o t67.1 (fun r S' => K r (S', t67.2)) (fun _ _ => False)) (fun r76 t76 => ((r76 = r66) → J592 t76) ∧ (¬ (r76 = r66) → J619 t76))) ∧ (¬ (r67 = (-1000003)) → ((r67 < x5) → J619 t67) ∧ (¬ (r67 < x5) → (kdC t67.1 o = 14) ∧ lcall B t67 (fun B1 K => w_X11_places B1 o t67.1 (fun r S' => K r (S', t67.2)) (fun _ _ => False)) (fun r77 t77 => ((r66 ≤ r77) → J619 t77) ∧ (¬ (r66 ≤ r77) → J592 t77)))))))) ∧ (¬ (x2 = 3) → ((x2 = 4) → (d_L_low (a4 >>> (5 &&& 31)) 4) ∧ ∀ x79 : Int32, x79 = (v_L_low (a4 >>> (5 &&& 31)) 4) → (d_L_low (a4 >>> (7 &&& 31)) 25) ∧ ∀ x81 : Int32, x81 = ((v_L_low (a4 >>> (7 &&& 31)) 25) - 12) → (vp_in x79 (rN t.2 a2)) ∧ ∀ x83 : Int32, x83 = (rG t.2 a2 (Int32.toNatClampNeg x79)) → (vp_in x79 (rN t.2 a2)) ∧ ∀ t85 : LwS, t85 = rSt t a2 x79 x81 → lcall B t85 (fun B1 K => w_L_transpose B1 o x79 x81 t85 K) (fun r86 t86 => ∃ J706 : Int32 → LwS → Prop, (∀ x87 : Int32, ∀ t88 : LwS, J706 x87 t88 → ((gb x87) ∧ Q x87 t88)) ∧ ∃ J705 : LwS → Prop, (∀ t90 : LwS, J705 t90 → (J706 0 t90)) ∧ (((r86 = x83) → lcall B t86 (fun B1 K => w_L_transpose B1 o x79 13 t86 K) (fun r91 t91 => ((r91 = (-1000002)) → lcall B t91 (fun B1 K => w_L_transpose B1 o 4 0 t91 K) (fun r92 t92 => ((r92 = (-1000002)) → J706 1 t92) ∧ (¬ (r92 = (-1000002)) → J705 t92))) ∧ (¬ (r91 = (-1000002)) → J705 t91))) ∧ (¬ (r86 = x83) → J705 t86)))) ∧ (¬ (x2 = 4) → ((x2 = 5) → (d_L_low a4 361) ∧ (vp_in 1 (rN t.2 a1)) ∧ ∀ t95 : LwS, t95 = rSt t a1 1 ((40 : Int32) + (v_L_low a4 361)) → (d_L_low (a4 >>> (9 &&& 31)) 6) ∧ (vp_in 2 (rN t95.2 a1)) ∧ ∀ t98 : LwS, t98 = rSt t95 a1 2 ((1 : Int32) + (v_L_low (a4 >>> (9 &&& 31)) 6)) → (d_L_low (a4 >>> (12 &&& 31)) 4000) ∧ (vp_in 3 (rN t98.2 a1)) ∧ ∀ t101 : LwS, t101 = rSt t98 a1 3 (v_L_low (a4 >>> (12 &&& 31)) 4000) → (vp_in 1 (rN t101.2 a1)) ∧ (vp_in 2 (rN t101.2 a1)) ∧ (vp_in 3 (rN t101.2 a1)) ∧ lcall B t101 (fun B1 K => w_L_setPaper B1 o (rG t101.2 a1 (Int32.toNatClampNeg 1)) (rG t101.2 a1 (Int32.toNatClampNeg 2)) (rG t101.2 a1 (Int32.toNatClampNeg 3)) t101 K) (fun r105 t105 => ∃ J846 : Int32 → LwS → Prop, (∀ x106 : Int32, ∀ t107 : LwS, J846 x106 t107 → ((gb x106) ∧ Q x106 t107)) ∧ ∃ J845 : LwS → Prop, (∀ t109 : LwS, J845 t109 → (J846 0 t109)) ∧ (((r105 = 0) → lcall B t105 (fun B1 K => w_L_setPaper B1 o 39 1 0 t105 K) (fun r110 t110 => ((r110 = (-1000002)) → lcall B t110 (fun B1 K => w_L_setPaper B1 o 401 1 0 t110 K) (fun r111 t111 => ((r111 = (-1000002)) → lcall B t111 (fun B1 K => w_L_setPaper B1 o 40 0 0 t111 K) (fun r112 t112 => ((r112 = (-1000002)) → lcall B t112 (fun B1 K => w_L_setPaper B1 o 40 7 0 t112 K) (fun r113 t113 => ((r113 = (-1000002)) → lcall B t113 (fun B1 K => w_L_setPaper B1 o 40 1 20001 t113 K) (fun r114 t114 => ((r114 = (-1000002)) → J846 1 t114) ∧ (¬ (r114 = (-1000002)) → J845 t114))) ∧ (¬ (r113 = (-1000002)) → J845 t113))) ∧ (¬ (r112 = (-1000002)) → J845 t112))) ∧ (¬ (r111 = (-1000002)) → J845 t111))) ∧ (¬ (r110 = (-1000002)) → J845 t110))) ∧ (¬ (r105 = 0) → J845 t105)))) ∧ (¬ (x2 = 5) → (d_L_low (a4 >>> (5 &&& 31)) 4) ∧ ∀ x116 : Int32, x116 = (v_L_low (a4 >>> (5 &&& 31)) 4) → ((x2 = 6) → (d_L_low (a4 >>> (7 &&& 31)) 2) ∧ ∀ x118 : Int32, x118 = (if (v_L_low (a4 >>> (7 &&& 31)) 2) = 0 then 1 else 0) → lcall B t (fun B1 K => w_L_allowTurn B1 o x116 x5 x118 t K) (fun r119 t119 => ∃ J955 : Int32 → LwS → Prop, (∀ x120 : Int32, ∀ t121 : LwS, J955 x120 t121 → ((gb x120) ∧ Q x120 t121)) ∧ ∃ J954 : LwS → Prop, (∀ t123 : LwS, J954 t123 → (J955 0 t123)) ∧ (((r119 < 0) → J954 t119) ∧ (¬ (r119 < 0) → lcall B t119 (fun B1 K => w_L_allowTurn B1 o x116 x5 x118 t119 K) (fun r124 t124 => ∀ x125 : Int32, x125 = (if ¬ (x118 = 0) then 1 else 0) → ((r124 = x125) → lcall B t124 (fun B1 K => w_L_allowTurn B1 o 4 x5 1 t124 K) (fun r126 t126 => ((r126 = (-1000002)) → (vp_in 0 (rN t126.2 a1)) ∧ lcall B t126 (fun B1 K => w_L_allowTurn B1 o 0 (rG t126.2 a1 (Int32.toNatClampNeg 0)) 1 t126 K) (fun r128 t128 => ((r128 = (-1000001)) → J955 1 t128) ∧ (¬ (r128 = (-1000001)) → J954 t128))) ∧ (¬ (r126 = (-1000002)) → J954 t126))) ∧ (¬ (r124 = x125) → J954 t124)))))) ∧ (¬ (x2 = 6) → lcall B t (fun B1 K => w_L_events B1 o x116 x5 t K) (fun r129 t129 => (kdC t129.1 o = 14) ∧ lcall B t129 (fun B1 K => w_X11_phrases B1 o t129.1 (fun r S' => K r (S', t129.2)) (fun _ _ => False)) (fun r130 t130 => ((2 ≤ r129) → lcall B t130 (fun B1 K => w_L_addPhrase B1 o x116 x5 0 x5 (r129 - 1) t130 K) (fun r131 t131 => ∃ J1122 : Int32 → LwS → Prop, (∀ x132 : Int32, ∀ t133 : LwS, J1122 x132 t133 → (∃ J1183 : Int32 → LwS → Prop, (∀ x134 : Int32, ∀ t135 : LwS, J1183 x134 t135 → ((gb x134) ∧ Q x134 t135)) ∧ ∃ J1182 : LwS → Prop, (∀ t137 : LwS, J1182 t137 → (J1183 0 t137)) ∧ (((x132 = 0) → J1182 t133) ∧ (¬ (x132 = 0) → lcall B t133 (fun B1 K => w_L_addPhrase B1 o x116 x5 (r129 - 1) x5 0 t133 K) (fun r138 t138 => ((r138 = (-1000003)) → lcall B t138 (fun B1 K => w_L_addPhrase B1 o x116 x5 0 x5 r129 t138 K) (fun r139 t139 => ((r139 = (-1000001)) → lcall B t139 (fun B1 K => w_L_dropPhrase B1 o 20 t139 K) (fun r140 t140 => ((r140 = (-1000001)) → J1183 1 t140) ∧ (¬ (r140 = (-1000001)) → J1182 t140))) ∧ (¬ (r139 = (-1000001)) → J1182 t139))) ∧ (¬ (r138 = (-1000003)) → J1182 t138)))))) ∧ (((r131 = (-1000003)) → (kdC t131.1 o = 14) ∧ lcall B t131 (fun B1 K => w_X11_phrases B1 o t131.1 (fun r S' => K r (S', t131.2)) (fun _ _ => False)) (fun r141 t141 => ((r141 = r130) → J1122 1 t141) ∧ (¬ (r141 = r130) → J1122 0 t141))) ∧ (¬ (r131 = (-1000003)) → (kdC t131.1 o = 14) ∧ lcall B t131 (fun B1 K => w_X11_phrases B1 o t131.1 (fun r S' => K r (S', t131.2)) (fun _ _ => False)) (fun r142 t142 => ∃ J1121 : LwS → Prop, (∀ t143 : LwS, J1121 t143 → (J1122 0 t143)) ∧ (((r142 = (r130 + 1)) → (d_L_low (a3 >>> (3 &&& 31)) 2) ∧ ∃ J1117 : LwS → Prop, (∀ t145 : LwS, J1117 t145 → (J1122 1 t145)) ∧ ((((0 : Int32) < (v_L_low (a3 >>> (3 &&& 31)) 2)) → J1117 t142) ∧ (¬ ((0 : Int32) < (v_L_low (a3 >>> (3 &&& 31)) 2)) → lcall B t142 (fun B1 K => w_L_dropPhrase B1 o r131 t142 K) (fun r146 t146 => ((r146 = 1) → lcall B t146 (fun B1 K => w_L_dropPhrase B1 o r131 t146 K) (fun r147 t147 => ((r147 = 0) → (kdC t147.1 o = 14) ∧ lcall B t147 (fun B1 K => w_X11_phrases B1 o t147.1 (fun r S' => K r (S', t147.2)) (fun _ _ => False)) (fun r148 t148 => ((r148 = r130) → J1117 t148) ∧ (¬ (r148 = r130) → J1121 t148))) ∧ (¬ (r147 = 0) → J1121 t147))) ∧ (¬ (r146 = 1) → J1121 t146))))) ∧ (¬ (r142 = (r130 + 1)) → J1121 t142))))))) ∧ (¬ (2 ≤ r129) → lcall B t130 (fun B1 K => w_L_addPhrase B1 o x116 x5 0 x5 0 t130 K) (fun r149 t149 => ∀ x150 : Int32, x150 = (if r129 = 0 then ((-1000001) : Int32) else (-1000003)) → ∃ J1026 : Int32 → LwS → Prop, (∀ x151 : Int32, ∀ t152 : LwS, J1026 x151 t152 → ((gb x151) ∧ Q x151 t152)) ∧ ∃ J1025 : LwS → Prop, (∀ t154 : LwS, J1025 t154 → (J1026 0 t154)) ∧ (((r149 = x150) → lcall B t149 (fun B1 K => w_L_addPhrase B1 o 4 x5 0 x5 0 t149 K) (fun r155 t155 => ((r155 = (-1000002)) → J1026 1 t155) ∧ (¬ (r155 = (-1000002)) → J1025 t155))) ∧ (¬ (r149 = x150) → J1025 t149)))))))))))))
set_option maxRecDepth 20000 in
set_option maxHeartbeats 4000000 in
theorem c_L_tells (l : Launch) (D : va_G) (K : Nat → ClassId) (E0 b0 : Nat) (B : Nat × Nat) (o : Nat) (a1 : Nat) (a2 : Nat) (a3 : Int32) (a4 : Int32) (t : LwS) (Q : Int32 → LwS → Prop) (h : w_L_tells B o a1 a2 a3 a4 t Q) : MetR l yL_tells (.code yL_tells cL_tells 12 (some .boolean)) 13 [.ref o, .ref a1, .ref a2, .int a3, .int a4] Q D K E0 b0 B t := by
  unfold w_L_tells at h
  refine gr_start (by decide) rfl (Nat.le_of_ble_eq_true rfl) (fun p e s m args below meth c C E => ?_)
  refine gr_iloadn C 3 3 dL_tells_0 rfl rfl ?_
  refine gr_bipush C 8 dL_tells_1 (by decide) ?_
  obtain ⟨g1, h⟩ := h
  refine gr_callP C (y := yL_low) (as := [.int a3, .int 8]) (by exact ⟨Nat.le_of_ble_eq_true rfl, Nat.le_of_ble_eq_true rfl⟩) (fun B1 => c_L_low l D K E0 b0 B1 a3 8 t g1) hk_L_low rfl vs_L_213 kc_L_low dL_tells_3 (Nat.le_of_ble_eq_true rfl) ?_
  refine gr_nameI (fun x2 ex2 => ?_)
  have h := h x2 ex2
  refine gr_istore C [(5, .int x2), (0, .ref o), (1, .ref a1), (2, .ref a2), (3, .int a3), (4, .int a4)] dL_tells_6 (by decide) rfl ?_
  refine gr_iload C 5 dL_tells_8 rfl ?_
  refine gr_aloadn C 2 1 dL_tells_10 rfl rfl ?_
  refine gr_iconst C 0 dL_tells_11 (by decide) ?_
  obtain ⟨g3, h⟩ := h
  refine gr_iald C g3 dL_tells_12 ?_
  obtain ⟨g4, h⟩ := h
  refine gr_callP C (y := yL_low) (as := [.int a4, .int (rG t.2 a1 (Int32.toNatClampNeg 0))]) (by exact ⟨Nat.le_of_ble_eq_true rfl, Nat.le_of_ble_eq_true rfl⟩) (fun B1 => c_L_low l D K E0 b0 B1 a4 (rG t.2 a1 (Int32.toNatClampNeg 0)) t g4) hk_L_low rfl vs_L_213 kc_L_low dL_tells_13 (Nat.le_of_ble_eq_true rfl) ?_
  refine gr_nameI (fun x5 ex5 => ?_)
  have h := h x5 ex5
  refine gr_istore C [(6, .int x5), (5, .int x2), (0, .ref o), (1, .ref a1), (2, .ref a2), (3, .int a3), (4, .int a4)] dL_tells_16 (by decide) rfl ?_
  refine gr_iload C 1 dL_tells_18 rfl ?_
  refine gr_if_ne C 145 dL_tells_20 (by decide) (fun c20_1 => ?_) (fun c20_1 => ?_)
  · have h := h.2 c20_1
    refine gr_iload C 1 dL_tells_145 rfl ?_
    refine gr_iconst C 1 dL_tells_147 (by decide) ?_
    refine gr_icmp_ne C 335 dL_tells_148 (by decide) (fun c148_10 => ?_) (fun c148_10 => ?_)
    · have h := h.2 c148_10
      refine gr_iload C 1 dL_tells_335 rfl ?_
      refine gr_iconst C 2 dL_tells_337 (by decide) ?_
      refine gr_icmp_ne C 537 dL_tells_338 (by decide) (fun c338_21 => ?_) (fun c338_21 => ?_)
      · have h := h.2 c338_21
        refine gr_iload C 1 dL_tells_537 rfl ?_
        refine gr_iconst C 3 dL_tells_539 (by decide) ?_
        refine gr_icmp_ne C 621 dL_tells_540 (by decide) (fun c540_32 => ?_) (fun c540_32 => ?_)
        · have h := h.2 c540_32
          refine gr_iload C 1 dL_tells_621 rfl ?_
          refine gr_iconst C 4 dL_tells_623 (by decide) ?_
          refine gr_icmp_ne C 707 dL_tells_624 (by decide) (fun c624_39 => ?_) (fun c624_39 => ?_)
          · have h := h.2 c624_39
            refine gr_iload C 1 dL_tells_707 rfl ?_
            refine gr_iconst C 5 dL_tells_709 (by decide) ?_
            refine gr_icmp_ne C 847 dL_tells_710 (by decide) (fun c710_43 => ?_) (fun c710_43 => ?_)
            · have h := h.2 c710_43
              refine gr_iload C 6 dL_tells_847 rfl ?_
              refine gr_iconst C 5 dL_tells_849 (by decide) ?_
              refine gr_ishr C dL_tells_850 ?_
              refine gr_iconst C 4 dL_tells_851 (by decide) ?_
              obtain ⟨g115, h⟩ := h
              refine gr_callP C (y := yL_low) (as := [.int (a4 >>> (5 &&& 31)), .int 4]) (by exact ⟨Nat.le_of_ble_eq_true rfl, Nat.le_of_ble_eq_true rfl⟩) (fun B1 => c_L_low l D K E0 b0 B1 (a4 >>> (5 &&& 31)) 4 t g115) hk_L_low rfl vs_L_213 kc_L_low dL_tells_852 (Nat.le_of_ble_eq_true rfl) ?_
              refine gr_nameI (fun x116 ex116 => ?_)
              have h := h x116 ex116
              refine gr_istore C [(7, .int x116), (6, .int x5), (5, .int x2), (0, .ref o), (1, .ref a1), (2, .ref a2), (3, .int a3), (4, .int a4)] dL_tells_855 (by decide) rfl ?_
              refine gr_iload C 2 dL_tells_857 rfl ?_
              refine gr_bipush C 6 dL_tells_859 (by decide) ?_
              refine gr_icmp_ne C 956 dL_tells_861 (by decide) (fun c861_50 => ?_) (fun c861_50 => ?_)
              · have h := h.2 c861_50
                refine gr_aloadn C 3 0 dL_tells_956 rfl rfl ?_
                refine gr_iload C 0 dL_tells_957 rfl ?_
                refine gr_iload C 1 dL_tells_959 rfl ?_
                obtain ⟨B129, hB129, hR129, h⟩ := h
                refine gr_callW C (y := yL_events) (as := [.ref o, .int x116, .int x5]) (by exact ⟨Nat.le_of_ble_eq_true rfl, Nat.le_of_ble_eq_true rfl⟩) B129 hB129 hR129 (c_L_events l D K E0 b0 B129 o x116 x5 t _ h) hk_L_events rfl vs_L_236 kc_L_events dL_tells_961 (Nat.le_of_ble_eq_true rfl) (fun r129 t129 h z1 z2 => ?_)
                have h := h z1 z2
                refine gr_istore C [(8, .int r129), (7, .int x116), (6, .int x5), (5, .int x2), (0, .ref o), (1, .ref a1), (2, .ref a2), (3, .int a3), (4, .int a4)] dL_tells_964 (by decide) rfl ?_
                refine gr_aloadn C 4 0 dL_tells_966 rfl rfl ?_
                obtain ⟨hk130, h⟩ := h
                obtain ⟨B130, hB130, hR130, h⟩ := h
                refine gr_call C (y := yX11_phrases) (as := []) (by exact ⟨Nat.le_of_ble_eq_true rfl, Nat.le_of_ble_eq_true rfl⟩) B130 hB130 hR130 (c_X11_phrases l D K E0 B130 _ o t129.1 _ _ h) hk_X11_phrases rfl vl_L_329 kc_X11_phrases (isC_of hk130 (by decide)) dL_tells_967 (Nat.le_of_ble_eq_true rfl) (fun _ _ h => h.elim) ?_
                rintro v S' ⟨r130, rfl, h⟩ _ z1 z2
                have h := h z1 z2
                obtain ⟨t130, et130⟩ : ∃ q : LwS, q = (S', t129.2) := ⟨_, rfl⟩
                rw [← et130] at h ⊢
                refine gr_istore C [(9, .int r130), (8, .int r129), (7, .int x116), (6, .int x5), (5, .int x2), (0, .ref o), (1, .ref a1), (2, .ref a2), (3, .int a3), (4, .int a4)] dL_tells_970 (by decide) rfl ?_
                refine gr_iload C 1 dL_tells_972 rfl ?_
                refine gr_iconst C 2 dL_tells_974 (by decide) ?_
                refine gr_icmp_ge C 1027 dL_tells_975 (by decide) (fun c975_57 => ?_) (fun c975_57 => ?_)
                · have h := h.1 c975_57
                  refine gr_aloadn C 5 0 dL_tells_1027 rfl rfl ?_
                  refine gr_iload C 2 dL_tells_1028 rfl ?_
                  refine gr_iload C 3 dL_tells_1030 rfl ?_
                  refine gr_iconst C 0 dL_tells_1032 (by decide) ?_
                  refine gr_iload C 3 dL_tells_1033 rfl ?_
                  refine gr_iload C 1 dL_tells_1035 rfl ?_
                  refine gr_iconst C 1 dL_tells_1037 (by decide) ?_
                  refine gr_isub C dL_tells_1038 ?_
                  obtain ⟨B131, hB131, hR131, h⟩ := h
                  refine gr_callW C (y := yL_addPhrase) (as := [.ref o, .int x116, .int x5, .int 0, .int x5, .int (r129 - 1)]) (by exact ⟨Nat.le_of_ble_eq_true rfl, Nat.le_of_ble_eq_true rfl⟩) B131 hB131 hR131 (c_L_addPhrase l D K E0 b0 B131 o x116 x5 0 x5 (r129 - 1) t130 _ h) hk_L_addPhrase rfl vs_L_332 kc_L_addPhrase dL_tells_1039 (Nat.le_of_ble_eq_true rfl) (fun r131 t131 h z1 z2 => ?_)
                  have h := h z1 z2
                  refine gr_istore C [(10, .int r131), (9, .int r130), (8, .int r129), (7, .int x116), (6, .int x5), (5, .int x2), (0, .ref o), (1, .ref a1), (2, .ref a2), (3, .int a3), (4, .int a4)] dL_tells_1042 (by decide) rfl ?_
                  refine gr_iload C 0 dL_tells_1044 rfl ?_
                  refine gr_ldc C (-1000003) v_i908 dL_tells_1046 ?_
                  obtain ⟨J1122, hJ1122, h⟩ := h
                  have k1122 : ∀ x132 : Int32, ∀ t133 : LwS, J1122 x132 t133 → GR p l e (rmC 13 B t.1) s m args below meth c 12 D K E0 B b0 (gr_Q below D K E0 b0 Q args s (rmC 13 B t.1)) t133 1122 [(0, .ref o), (6, .int x5), (7, .int x116), (8, .int r129)] [.int x132] := by
                    intro x132 t133 h
                    have h := hJ1122 x132 t133 h
                    refine gr_istore C [(11, .int x132), (0, .ref o), (6, .int x5), (7, .int x116), (8, .int r129)] dL_tells_1122 (by decide) rfl ?_
                    refine gr_iload C 0 dL_tells_1124 rfl ?_
                    obtain ⟨J1183, hJ1183, h⟩ := h
                    have k1183 : ∀ x134 : Int32, ∀ t135 : LwS, J1183 x134 t135 → GR p l e (rmC 13 B t.1) s m args below meth c 12 D K E0 B b0 (gr_Q below D K E0 b0 Q args s (rmC 13 B t.1)) t135 1183 [] [.int x134] := by
                      intro x134 t135 h
                      have h := hJ1183 x134 t135 h
                      obtain ⟨g136, h⟩ := h
                      exact gr_zret C E g136 dL_tells_1183 h
                    obtain ⟨J1182, hJ1182, h⟩ := h
                    have k1182 : ∀ t137 : LwS, J1182 t137 → GR p l e (rmC 13 B t.1) s m args below meth c 12 D K E0 B b0 (gr_Q below D K E0 b0 Q args s (rmC 13 B t.1)) t137 1182 [] [] := by
                      intro t137 h
                      have h := hJ1182 t137 h
                      refine gr_iconst C 0 dL_tells_1182 (by decide) ?_
                      exact k1183 0 t137 h
                    refine gr_if_eq C 1182 dL_tells_1126 (by decide) (fun c1126_58 => ?_) (fun c1126_58 => ?_)
                    · have h := h.1 c1126_58
                      refine gr_sub [] rfl ?_
                      exact k1182 t133 h
                    · have h := h.2 c1126_58
                      refine gr_aloadn C 1 0 dL_tells_1129 rfl rfl ?_
                      refine gr_iload C 3 dL_tells_1130 rfl ?_
                      refine gr_iload C 2 dL_tells_1132 rfl ?_
                      refine gr_iload C 4 dL_tells_1134 rfl ?_
                      refine gr_iconst C 1 dL_tells_1136 (by decide) ?_
                      refine gr_isub C dL_tells_1137 ?_
                      refine gr_iload C 2 dL_tells_1138 rfl ?_
                      refine gr_iconst C 0 dL_tells_1140 (by decide) ?_
                      obtain ⟨B138, hB138, hR138, h⟩ := h
                      refine gr_callW C (y := yL_addPhrase) (as := [.ref o, .int x116, .int x5, .int (r129 - 1), .int x5, .int 0]) (by exact ⟨Nat.le_of_ble_eq_true rfl, Nat.le_of_ble_eq_true rfl⟩) B138 hB138 hR138 (c_L_addPhrase l D K E0 b0 B138 o x116 x5 (r129 - 1) x5 0 t133 _ h) hk_L_addPhrase rfl vs_L_332 kc_L_addPhrase dL_tells_1141 (Nat.le_of_ble_eq_true rfl) (fun r138 t138 h z1 z2 => ?_)
                      have h := h z1 z2
                      refine gr_ldc C (-1000003) v_i908 dL_tells_1144 ?_
                      refine gr_icmp_ne C 1182 dL_tells_1146 (by decide) (fun c1146_59 => ?_) (fun c1146_59 => ?_)
                      · have h := h.2 c1146_59
                        refine gr_sub [] rfl ?_
                        exact k1182 t138 h
                      · have h := h.1 c1146_59
                        refine gr_aloadn C 1 0 dL_tells_1149 rfl rfl ?_
                        refine gr_iload C 3 dL_tells_1150 rfl ?_
                        refine gr_iload C 2 dL_tells_1152 rfl ?_
                        refine gr_iconst C 0 dL_tells_1154 (by decide) ?_
                        refine gr_iload C 2 dL_tells_1155 rfl ?_
                        refine gr_iload C 4 dL_tells_1157 rfl ?_
                        obtain ⟨B139, hB139, hR139, h⟩ := h
                        refine gr_callW C (y := yL_addPhrase) (as := [.ref o, .int x116, .int x5, .int 0, .int x5, .int r129]) (by exact ⟨Nat.le_of_ble_eq_true rfl, Nat.le_of_ble_eq_true rfl⟩) B139 hB139 hR139 (c_L_addPhrase l D K E0 b0 B139 o x116 x5 0 x5 r129 t138 _ h) hk_L_addPhrase rfl vs_L_332 kc_L_addPhrase dL_tells_1159 (Nat.le_of_ble_eq_true rfl) (fun r139 t139 h z1 z2 => ?_)
                        have h := h z1 z2
                        refine gr_ldc C (-1000001) v_i533 dL_tells_1162 ?_
                        refine gr_icmp_ne C 1182 dL_tells_1164 (by decide) (fun c1164_60 => ?_) (fun c1164_60 => ?_)
                        · have h := h.2 c1164_60
                          refine gr_sub [] rfl ?_
                          exact k1182 t139 h
                        · have h := h.1 c1164_60
                          refine gr_aloadn C 1 0 dL_tells_1167 rfl rfl ?_
                          refine gr_bipush C 20 dL_tells_1168 (by decide) ?_
                          obtain ⟨B140, hB140, hR140, h⟩ := h
                          refine gr_callW C (y := yL_dropPhrase) (as := [.ref o, .int 20]) (by exact ⟨Nat.le_of_ble_eq_true rfl, Nat.le_of_ble_eq_true rfl⟩) B140 hB140 hR140 (c_L_dropPhrase l D K E0 b0 B140 o 20 t139 _ h) hk_L_dropPhrase rfl vs_L_335 kc_L_dropPhrase dL_tells_1170 (Nat.le_of_ble_eq_true rfl) (fun r140 t140 h z1 z2 => ?_)
                          have h := h z1 z2
                          refine gr_ldc C (-1000001) v_i533 dL_tells_1173 ?_
                          refine gr_icmp_ne C 1182 dL_tells_1175 (by decide) (fun c1175_61 => ?_) (fun c1175_61 => ?_)
                          · have h := h.2 c1175_61
                            refine gr_sub [] rfl ?_
                            exact k1182 t140 h
                          · have h := h.1 c1175_61
                            refine gr_iconst C 1 dL_tells_1178 (by decide) ?_
                            refine gr_goto C 1183 dL_tells_1179 (by decide) ?_
                            refine gr_sub [] rfl ?_
                            exact k1183 1 t140 h
                  refine gr_icmp_ne C 1068 dL_tells_1048 (by decide) (fun c1048_62 => ?_) (fun c1048_62 => ?_)
                  · have h := h.2 c1048_62
                    refine gr_aloadn C 6 0 dL_tells_1068 rfl rfl ?_
                    obtain ⟨hk142, h⟩ := h
                    obtain ⟨B142, hB142, hR142, h⟩ := h
                    refine gr_call C (y := yX11_phrases) (as := []) (by exact ⟨Nat.le_of_ble_eq_true rfl, Nat.le_of_ble_eq_true rfl⟩) B142 hB142 hR142 (c_X11_phrases l D K E0 B142 _ o t131.1 _ _ h) hk_X11_phrases rfl vl_L_329 kc_X11_phrases (isC_of hk142 (by decide)) dL_tells_1069 (Nat.le_of_ble_eq_true rfl) (fun _ _ h => h.elim) ?_
                    rintro v S' ⟨r142, rfl, h⟩ _ z1 z2
                    have h := h z1 z2
                    obtain ⟨t142, et142⟩ : ∃ q : LwS, q = (S', t131.2) := ⟨_, rfl⟩
                    rw [← et142] at h ⊢
                    refine gr_iload C 1 dL_tells_1072 rfl ?_
                    refine gr_iconst C 1 dL_tells_1074 (by decide) ?_
                    refine gr_iadd C dL_tells_1075 ?_
                    obtain ⟨J1121, hJ1121, h⟩ := h
                    have k1121 : ∀ t143 : LwS, J1121 t143 → GR p l e (rmC 13 B t.1) s m args below meth c 12 D K E0 B b0 (gr_Q below D K E0 b0 Q args s (rmC 13 B t.1)) t143 1121 [(0, .ref o), (6, .int x5), (7, .int x116), (8, .int r129)] [] := by
                      intro t143 h
                      have h := hJ1121 t143 h
                      refine gr_iconst C 0 dL_tells_1121 (by decide) ?_
                      exact k1122 0 t143 h
                    refine gr_icmp_ne C 1121 dL_tells_1076 (by decide) (fun c1076_64 => ?_) (fun c1076_64 => ?_)
                    · have h := h.2 c1076_64
                      refine gr_sub [6, 4, 3, 2] rfl ?_
                      exact k1121 t142 h
                    · have h := h.1 c1076_64
                      refine gr_iloadn C 9 3 dL_tells_1079 rfl rfl ?_
                      refine gr_iconst C 3 dL_tells_1080 (by decide) ?_
                      refine gr_ishr C dL_tells_1081 ?_
                      refine gr_iconst C 2 dL_tells_1082 (by decide) ?_
                      obtain ⟨g144, h⟩ := h
                      refine gr_callP C (y := yL_low) (as := [.int (a3 >>> (3 &&& 31)), .int 2]) (by exact ⟨Nat.le_of_ble_eq_true rfl, Nat.le_of_ble_eq_true rfl⟩) (fun B1 => c_L_low l D K E0 b0 B1 (a3 >>> (3 &&& 31)) 2 t142 g144) hk_L_low rfl vs_L_213 kc_L_low dL_tells_1083 (Nat.le_of_ble_eq_true rfl) ?_
                      obtain ⟨J1117, hJ1117, h⟩ := h
                      have k1117 : ∀ t145 : LwS, J1117 t145 → GR p l e (rmC 13 B t.1) s m args below meth c 12 D K E0 B b0 (gr_Q below D K E0 b0 Q args s (rmC 13 B t.1)) t145 1117 [(0, .ref o), (6, .int x5), (7, .int x116), (8, .int r129)] [] := by
                        intro t145 h
                        have h := hJ1117 t145 h
                        refine gr_iconst C 1 dL_tells_1117 (by decide) ?_
                        refine gr_goto C 1122 dL_tells_1118 (by decide) ?_
                        exact k1122 1 t145 h
                      refine gr_if_gt C 1117 dL_tells_1086 (by decide) (fun c1086_65 => ?_) (fun c1086_65 => ?_)
                      · have h := h.1 c1086_65
                        refine gr_sub [6, 4, 3, 2] rfl ?_
                        exact k1117 t142 h
                      · have h := h.2 c1086_65
                        refine gr_aloadn C 6 0 dL_tells_1089 rfl rfl ?_
                        refine gr_iload C 0 dL_tells_1090 rfl ?_
                        obtain ⟨B146, hB146, hR146, h⟩ := h
                        refine gr_callW C (y := yL_dropPhrase) (as := [.ref o, .int r131]) (by exact ⟨Nat.le_of_ble_eq_true rfl, Nat.le_of_ble_eq_true rfl⟩) B146 hB146 hR146 (c_L_dropPhrase l D K E0 b0 B146 o r131 t142 _ h) hk_L_dropPhrase rfl vs_L_335 kc_L_dropPhrase dL_tells_1092 (Nat.le_of_ble_eq_true rfl) (fun r146 t146 h z1 z2 => ?_)
                        have h := h z1 z2
                        refine gr_iconst C 1 dL_tells_1095 (by decide) ?_
                        refine gr_icmp_ne C 1121 dL_tells_1096 (by decide) (fun c1096_66 => ?_) (fun c1096_66 => ?_)
                        · have h := h.2 c1096_66
                          refine gr_sub [6, 4, 3, 2] rfl ?_
                          exact k1121 t146 h
                        · have h := h.1 c1096_66
                          refine gr_aloadn C 6 0 dL_tells_1099 rfl rfl ?_
                          refine gr_iload C 0 dL_tells_1100 rfl ?_
                          obtain ⟨B147, hB147, hR147, h⟩ := h
                          refine gr_callW C (y := yL_dropPhrase) (as := [.ref o, .int r131]) (by exact ⟨Nat.le_of_ble_eq_true rfl, Nat.le_of_ble_eq_true rfl⟩) B147 hB147 hR147 (c_L_dropPhrase l D K E0 b0 B147 o r131 t146 _ h) hk_L_dropPhrase rfl vs_L_335 kc_L_dropPhrase dL_tells_1102 (Nat.le_of_ble_eq_true rfl) (fun r147 t147 h z1 z2 => ?_)
                          have h := h z1 z2
                          refine gr_if_ne C 1121 dL_tells_1105 (by decide) (fun c1105_67 => ?_) (fun c1105_67 => ?_)
                          · have h := h.2 c1105_67
                            refine gr_sub [6, 4, 3, 2] rfl ?_
                            exact k1121 t147 h
                          · have h := h.1 c1105_67
                            refine gr_aloadn C 6 0 dL_tells_1108 rfl rfl ?_
                            obtain ⟨hk148, h⟩ := h
                            obtain ⟨B148, hB148, hR148, h⟩ := h
                            refine gr_call C (y := yX11_phrases) (as := []) (by exact ⟨Nat.le_of_ble_eq_true rfl, Nat.le_of_ble_eq_true rfl⟩) B148 hB148 hR148 (c_X11_phrases l D K E0 B148 _ o t147.1 _ _ h) hk_X11_phrases rfl vl_L_329 kc_X11_phrases (isC_of hk148 (by decide)) dL_tells_1109 (Nat.le_of_ble_eq_true rfl) (fun _ _ h => h.elim) ?_
                            rintro v S' ⟨r148, rfl, h⟩ _ z1 z2
                            have h := h z1 z2
                            obtain ⟨t148, et148⟩ : ∃ q : LwS, q = (S', t147.2) := ⟨_, rfl⟩
                            rw [← et148] at h ⊢
                            refine gr_iload C 1 dL_tells_1112 rfl ?_
                            refine gr_icmp_ne C 1121 dL_tells_1114 (by decide) (fun c1114_68 => ?_) (fun c1114_68 => ?_)
                            · have h := h.2 c1114_68
                              refine gr_sub [6, 4, 3, 2] rfl ?_
                              exact k1121 t148 h
                            · have h := h.1 c1114_68
                              refine gr_sub [6, 4, 3, 2] rfl ?_
                              exact k1117 t148 h
                  · have h := h.1 c1048_62
                    refine gr_aloadn C 6 0 dL_tells_1051 rfl rfl ?_
                    obtain ⟨hk141, h⟩ := h
                    obtain ⟨B141, hB141, hR141, h⟩ := h
                    refine gr_call C (y := yX11_phrases) (as := []) (by exact ⟨Nat.le_of_ble_eq_true rfl, Nat.le_of_ble_eq_true rfl⟩) B141 hB141 hR141 (c_X11_phrases l D K E0 B141 _ o t131.1 _ _ h) hk_X11_phrases rfl vl_L_329 kc_X11_phrases (isC_of hk141 (by decide)) dL_tells_1052 (Nat.le_of_ble_eq_true rfl) (fun _ _ h => h.elim) ?_
                    rintro v S' ⟨r141, rfl, h⟩ _ z1 z2
                    have h := h z1 z2
                    obtain ⟨t141, et141⟩ : ∃ q : LwS, q = (S', t131.2) := ⟨_, rfl⟩
                    rw [← et141] at h ⊢
                    refine gr_iload C 1 dL_tells_1055 rfl ?_
                    refine gr_icmp_ne C 1064 dL_tells_1057 (by decide) (fun c1057_63 => ?_) (fun c1057_63 => ?_)
                    · have h := h.2 c1057_63
                      refine gr_iconst C 0 dL_tells_1064 (by decide) ?_
                      refine gr_goto C 1122 dL_tells_1065 (by decide) ?_
                      refine gr_sub [6, 4, 3, 2] rfl ?_
                      exact k1122 0 t141 h
                    · have h := h.1 c1057_63
                      refine gr_iconst C 1 dL_tells_1060 (by decide) ?_
                      refine gr_goto C 1122 dL_tells_1061 (by decide) ?_
                      refine gr_sub [6, 4, 3, 2] rfl ?_
                      exact k1122 1 t141 h
                · have h := h.2 c975_57
                  refine gr_aloadn C 5 0 dL_tells_978 rfl rfl ?_
                  refine gr_iload C 2 dL_tells_979 rfl ?_
                  refine gr_iload C 3 dL_tells_981 rfl ?_
                  refine gr_iconst C 0 dL_tells_983 (by decide) ?_
                  refine gr_iload C 3 dL_tells_984 rfl ?_
                  refine gr_iconst C 0 dL_tells_986 (by decide) ?_
                  obtain ⟨B149, hB149, hR149, h⟩ := h
                  refine gr_callW C (y := yL_addPhrase) (as := [.ref o, .int x116, .int x5, .int 0, .int x5, .int 0]) (by exact ⟨Nat.le_of_ble_eq_true rfl, Nat.le_of_ble_eq_true rfl⟩) B149 hB149 hR149 (c_L_addPhrase l D K E0 b0 B149 o x116 x5 0 x5 0 t130 _ h) hk_L_addPhrase rfl vs_L_332 kc_L_addPhrase dL_tells_987 (Nat.le_of_ble_eq_true rfl) (fun r149 t149 h z1 z2 => ?_)
                  have h := h z1 z2
                  refine gr_iload C 1 dL_tells_990 rfl ?_
                  have k1002 : ∀ x150 : Int32, x150 = (if r129 = 0 then ((-1000001) : Int32) else (-1000003)) → GR p l e (rmC 13 B t.1) s m args below meth c 12 D K E0 B b0 (gr_Q below D K E0 b0 Q args s (rmC 13 B t.1)) t149 1002 [(0, .ref o), (6, .int x5)] [.int x150, .int r149] := by
                    intro x150 ex150
                    have h := h x150 ex150
                    obtain ⟨J1026, hJ1026, h⟩ := h
                    have k1026 : ∀ x151 : Int32, ∀ t152 : LwS, J1026 x151 t152 → GR p l e (rmC 13 B t.1) s m args below meth c 12 D K E0 B b0 (gr_Q below D K E0 b0 Q args s (rmC 13 B t.1)) t152 1026 [] [.int x151] := by
                      intro x151 t152 h
                      have h := hJ1026 x151 t152 h
                      obtain ⟨g153, h⟩ := h
                      exact gr_zret C E g153 dL_tells_1026 h
                    obtain ⟨J1025, hJ1025, h⟩ := h
                    have k1025 : ∀ t154 : LwS, J1025 t154 → GR p l e (rmC 13 B t.1) s m args below meth c 12 D K E0 B b0 (gr_Q below D K E0 b0 Q args s (rmC 13 B t.1)) t154 1025 [] [] := by
                      intro t154 h
                      have h := hJ1025 t154 h
                      refine gr_iconst C 0 dL_tells_1025 (by decide) ?_
                      exact k1026 0 t154 h
                    refine gr_icmp_ne C 1025 dL_tells_1002 (by decide) (fun c1002_70 => ?_) (fun c1002_70 => ?_)
                    · have h := h.2 c1002_70
                      refine gr_sub [] rfl ?_
                      exact k1025 t149 h
                    · have h := h.1 c1002_70
                      refine gr_aloadn C 0 0 dL_tells_1005 rfl rfl ?_
                      refine gr_iconst C 4 dL_tells_1006 (by decide) ?_
                      refine gr_iload C 1 dL_tells_1007 rfl ?_
                      refine gr_iconst C 0 dL_tells_1009 (by decide) ?_
                      refine gr_iload C 1 dL_tells_1010 rfl ?_
                      refine gr_iconst C 0 dL_tells_1012 (by decide) ?_
                      obtain ⟨B155, hB155, hR155, h⟩ := h
                      refine gr_callW C (y := yL_addPhrase) (as := [.ref o, .int 4, .int x5, .int 0, .int x5, .int 0]) (by exact ⟨Nat.le_of_ble_eq_true rfl, Nat.le_of_ble_eq_true rfl⟩) B155 hB155 hR155 (c_L_addPhrase l D K E0 b0 B155 o 4 x5 0 x5 0 t149 _ h) hk_L_addPhrase rfl vs_L_332 kc_L_addPhrase dL_tells_1013 (Nat.le_of_ble_eq_true rfl) (fun r155 t155 h z1 z2 => ?_)
                      have h := h z1 z2
                      refine gr_ldc C (-1000002) v_i617 dL_tells_1016 ?_
                      refine gr_icmp_ne C 1025 dL_tells_1018 (by decide) (fun c1018_71 => ?_) (fun c1018_71 => ?_)
                      · have h := h.2 c1018_71
                        refine gr_sub [] rfl ?_
                        exact k1025 t155 h
                      · have h := h.1 c1018_71
                        refine gr_iconst C 1 dL_tells_1021 (by decide) ?_
                        refine gr_goto C 1026 dL_tells_1022 (by decide) ?_
                        refine gr_sub [] rfl ?_
                        exact k1026 1 t155 h
                  refine gr_if_ne C 1000 dL_tells_992 (by decide) (fun c992_69 => ?_) (fun c992_69 => ?_)
                  · refine gr_ldc C (-1000003) v_i908 dL_tells_1000 ?_
                    refine gr_sub [5, 3] rfl ?_
                    exact k1002 _ ((if_neg c992_69).symm)
                  · refine gr_ldc C (-1000001) v_i533 dL_tells_995 ?_
                    refine gr_goto C 1002 dL_tells_997 (by decide) ?_
                    refine gr_sub [5, 3] rfl ?_
                    exact k1002 _ ((if_pos c992_69).symm)
              · have h := h.1 c861_50
                refine gr_iload C 7 dL_tells_864 rfl ?_
                refine gr_bipush C 7 dL_tells_866 (by decide) ?_
                refine gr_ishr C dL_tells_868 ?_
                refine gr_iconst C 2 dL_tells_869 (by decide) ?_
                obtain ⟨g117, h⟩ := h
                refine gr_callP C (y := yL_low) (as := [.int (a4 >>> (7 &&& 31)), .int 2]) (by exact ⟨Nat.le_of_ble_eq_true rfl, Nat.le_of_ble_eq_true rfl⟩) (fun B1 => c_L_low l D K E0 b0 B1 (a4 >>> (7 &&& 31)) 2 t g117) hk_L_low rfl vs_L_213 kc_L_low dL_tells_870 (Nat.le_of_ble_eq_true rfl) ?_
                have k881 : ∀ x118 : Int32, x118 = (if (v_L_low (a4 >>> (7 &&& 31)) 2) = 0 then 1 else 0) → GR p l e (rmC 13 B t.1) s m args below meth c 12 D K E0 B b0 (gr_Q below D K E0 b0 Q args s (rmC 13 B t.1)) t 881 [(0, .ref o), (1, .ref a1), (6, .int x5), (7, .int x116)] [.int x118] := by
                  intro x118 ex118
                  have h := h x118 ex118
                  refine gr_istore C [(8, .int x118), (0, .ref o), (1, .ref a1), (6, .int x5), (7, .int x116)] dL_tells_881 (by decide) rfl ?_
                  refine gr_aloadn C 1 0 dL_tells_883 rfl rfl ?_
                  refine gr_iload C 4 dL_tells_884 rfl ?_
                  refine gr_iload C 3 dL_tells_886 rfl ?_
                  refine gr_iload C 0 dL_tells_888 rfl ?_
                  obtain ⟨B119, hB119, hR119, h⟩ := h
                  refine gr_callW C (y := yL_allowTurn) (as := [.ref o, .int x116, .int x5, .int x118]) (by exact ⟨Nat.le_of_ble_eq_true rfl, Nat.le_of_ble_eq_true rfl⟩) B119 hB119 hR119 (c_L_allowTurn l D K E0 b0 B119 o x116 x5 x118 t _ h) hk_L_allowTurn rfl vs_L_326 kc_L_allowTurn dL_tells_890 (Nat.le_of_ble_eq_true rfl) (fun r119 t119 h z1 z2 => ?_)
                  have h := h z1 z2
                  refine gr_istore C [(9, .int r119), (8, .int x118), (0, .ref o), (1, .ref a1), (6, .int x5), (7, .int x116)] dL_tells_893 (by decide) rfl ?_
                  refine gr_iload C 0 dL_tells_895 rfl ?_
                  obtain ⟨J955, hJ955, h⟩ := h
                  have k955 : ∀ x120 : Int32, ∀ t121 : LwS, J955 x120 t121 → GR p l e (rmC 13 B t.1) s m args below meth c 12 D K E0 B b0 (gr_Q below D K E0 b0 Q args s (rmC 13 B t.1)) t121 955 [] [.int x120] := by
                    intro x120 t121 h
                    have h := hJ955 x120 t121 h
                    obtain ⟨g122, h⟩ := h
                    exact gr_zret C E g122 dL_tells_955 h
                  obtain ⟨J954, hJ954, h⟩ := h
                  have k954 : ∀ t123 : LwS, J954 t123 → GR p l e (rmC 13 B t.1) s m args below meth c 12 D K E0 B b0 (gr_Q below D K E0 b0 Q args s (rmC 13 B t.1)) t123 954 [] [] := by
                    intro t123 h
                    have h := hJ954 t123 h
                    refine gr_iconst C 0 dL_tells_954 (by decide) ?_
                    exact k955 0 t123 h
                  refine gr_if_lt C 954 dL_tells_897 (by decide) (fun c897_52 => ?_) (fun c897_52 => ?_)
                  · have h := h.1 c897_52
                    refine gr_sub [] rfl ?_
                    exact k954 t119 h
                  · have h := h.2 c897_52
                    refine gr_aloadn C 2 0 dL_tells_900 rfl rfl ?_
                    refine gr_iload C 5 dL_tells_901 rfl ?_
                    refine gr_iload C 4 dL_tells_903 rfl ?_
                    refine gr_iload C 1 dL_tells_905 rfl ?_
                    obtain ⟨B124, hB124, hR124, h⟩ := h
                    refine gr_callW C (y := yL_allowTurn) (as := [.ref o, .int x116, .int x5, .int x118]) (by exact ⟨Nat.le_of_ble_eq_true rfl, Nat.le_of_ble_eq_true rfl⟩) B124 hB124 hR124 (c_L_allowTurn l D K E0 b0 B124 o x116 x5 x118 t119 _ h) hk_L_allowTurn rfl vs_L_326 kc_L_allowTurn dL_tells_907 (Nat.le_of_ble_eq_true rfl) (fun r124 t124 h z1 z2 => ?_)
                    have h := h z1 z2
                    refine gr_iload C 1 dL_tells_910 rfl ?_
                    have k920 : ∀ x125 : Int32, x125 = (if ¬ (x118 = 0) then 1 else 0) → GR p l e (rmC 13 B t.1) s m args below meth c 12 D K E0 B b0 (gr_Q below D K E0 b0 Q args s (rmC 13 B t.1)) t124 920 [(0, .ref o), (1, .ref a1), (6, .int x5)] [.int x125, .int r124] := by
                      intro x125 ex125
                      have h := h x125 ex125
                      refine gr_icmp_ne C 954 dL_tells_920 (by decide) (fun c920_54 => ?_) (fun c920_54 => ?_)
                      · have h := h.2 c920_54
                        refine gr_sub [] rfl ?_
                        exact k954 t124 h
                      · have h := h.1 c920_54
                        refine gr_aloadn C 0 0 dL_tells_923 rfl rfl ?_
                        refine gr_iconst C 4 dL_tells_924 (by decide) ?_
                        refine gr_iload C 2 dL_tells_925 rfl ?_
                        refine gr_iconst C 1 dL_tells_927 (by decide) ?_
                        obtain ⟨B126, hB126, hR126, h⟩ := h
                        refine gr_callW C (y := yL_allowTurn) (as := [.ref o, .int 4, .int x5, .int 1]) (by exact ⟨Nat.le_of_ble_eq_true rfl, Nat.le_of_ble_eq_true rfl⟩) B126 hB126 hR126 (c_L_allowTurn l D K E0 b0 B126 o 4 x5 1 t124 _ h) hk_L_allowTurn rfl vs_L_326 kc_L_allowTurn dL_tells_928 (Nat.le_of_ble_eq_true rfl) (fun r126 t126 h z1 z2 => ?_)
                        have h := h z1 z2
                        refine gr_ldc C (-1000002) v_i617 dL_tells_931 ?_
                        refine gr_icmp_ne C 954 dL_tells_933 (by decide) (fun c933_55 => ?_) (fun c933_55 => ?_)
                        · have h := h.2 c933_55
                          refine gr_sub [] rfl ?_
                          exact k954 t126 h
                        · have h := h.1 c933_55
                          refine gr_aloadn C 0 0 dL_tells_936 rfl rfl ?_
                          refine gr_iconst C 0 dL_tells_937 (by decide) ?_
                          refine gr_aloadn C 1 1 dL_tells_938 rfl rfl ?_
                          refine gr_iconst C 0 dL_tells_939 (by decide) ?_
                          obtain ⟨g127, h⟩ := h
                          refine gr_iald C g127 dL_tells_940 ?_
                          refine gr_iconst C 1 dL_tells_941 (by decide) ?_
                          obtain ⟨B128, hB128, hR128, h⟩ := h
                          refine gr_callW C (y := yL_allowTurn) (as := [.ref o, .int 0, .int (rG t126.2 a1 (Int32.toNatClampNeg 0)), .int 1]) (by exact ⟨Nat.le_of_ble_eq_true rfl, Nat.le_of_ble_eq_true rfl⟩) B128 hB128 hR128 (c_L_allowTurn l D K E0 b0 B128 o 0 (rG t126.2 a1 (Int32.toNatClampNeg 0)) 1 t126 _ h) hk_L_allowTurn rfl vs_L_326 kc_L_allowTurn dL_tells_942 (Nat.le_of_ble_eq_true rfl) (fun r128 t128 h z1 z2 => ?_)
                          have h := h z1 z2
                          refine gr_ldc C (-1000001) v_i533 dL_tells_945 ?_
                          refine gr_icmp_ne C 954 dL_tells_947 (by decide) (fun c947_56 => ?_) (fun c947_56 => ?_)
                          · have h := h.2 c947_56
                            refine gr_sub [] rfl ?_
                            exact k954 t128 h
                          · have h := h.1 c947_56
                            refine gr_iconst C 1 dL_tells_950 (by decide) ?_
                            refine gr_goto C 955 dL_tells_951 (by decide) ?_
                            refine gr_sub [] rfl ?_
                            exact k955 1 t128 h
                    refine gr_if_eq C 919 dL_tells_912 (by decide) (fun c912_53 => ?_) (fun c912_53 => ?_)
                    · refine gr_iconst C 0 dL_tells_919 (by decide) ?_
                      refine gr_sub [2, 3, 4] rfl ?_
                      exact k920 _ ((if_neg (fun q0 => q0 c912_53)).symm)
                    · refine gr_iconst C 1 dL_tells_915 (by decide) ?_
                      refine gr_goto C 920 dL_tells_916 (by decide) ?_
                      refine gr_sub [2, 3, 4] rfl ?_
                      exact k920 _ ((if_pos c912_53).symm)
                refine gr_if_ne C 880 dL_tells_873 (by decide) (fun c873_51 => ?_) (fun c873_51 => ?_)
                · refine gr_iconst C 0 dL_tells_880 (by decide) ?_
                  refine gr_sub [3, 4, 1, 0] rfl ?_
                  exact k881 _ ((if_neg c873_51).symm)
                · refine gr_iconst C 1 dL_tells_876 (by decide) ?_
                  refine gr_goto C 881 dL_tells_877 (by decide) ?_
                  refine gr_sub [3, 4, 1, 0] rfl ?_
                  exact k881 _ ((if_pos c873_51).symm)
            · have h := h.1 c710_43
              refine gr_aloadn C 3 1 dL_tells_713 rfl rfl ?_
              refine gr_iconst C 1 dL_tells_714 (by decide) ?_
              refine gr_bipush C 40 dL_tells_715 (by decide) ?_
              refine gr_iload C 6 dL_tells_717 rfl ?_
              refine gr_sipush C 361 dL_tells_719 (by decide) ?_
              obtain ⟨g93, h⟩ := h
              refine gr_callP C (y := yL_low) (as := [.int a4, .int 361]) (by exact ⟨Nat.le_of_ble_eq_true rfl, Nat.le_of_ble_eq_true rfl⟩) (fun B1 => c_L_low l D K E0 b0 B1 a4 361 t g93) hk_L_low rfl vs_L_213 kc_L_low dL_tells_722 (Nat.le_of_ble_eq_true rfl) ?_
              refine gr_iadd C dL_tells_725 ?_
              obtain ⟨g94, h⟩ := h
              refine gr_iast C g94 dL_tells_726 ?_
              refine gr_nameS (fun t95 et95 => ?_)
              have h := h t95 et95
              refine gr_aloadn C 3 1 dL_tells_727 rfl rfl ?_
              refine gr_iconst C 2 dL_tells_728 (by decide) ?_
              refine gr_iconst C 1 dL_tells_729 (by decide) ?_
              refine gr_iload C 6 dL_tells_730 rfl ?_
              refine gr_bipush C 9 dL_tells_732 (by decide) ?_
              refine gr_ishr C dL_tells_734 ?_
              refine gr_bipush C 6 dL_tells_735 (by decide) ?_
              obtain ⟨g96, h⟩ := h
              refine gr_callP C (y := yL_low) (as := [.int (a4 >>> (9 &&& 31)), .int 6]) (by exact ⟨Nat.le_of_ble_eq_true rfl, Nat.le_of_ble_eq_true rfl⟩) (fun B1 => c_L_low l D K E0 b0 B1 (a4 >>> (9 &&& 31)) 6 t95 g96) hk_L_low rfl vs_L_213 kc_L_low dL_tells_737 (Nat.le_of_ble_eq_true rfl) ?_
              refine gr_iadd C dL_tells_740 ?_
              obtain ⟨g97, h⟩ := h
              refine gr_iast C g97 dL_tells_741 ?_
              refine gr_nameS (fun t98 et98 => ?_)
              have h := h t98 et98
              refine gr_aloadn C 3 1 dL_tells_742 rfl rfl ?_
              refine gr_iconst C 3 dL_tells_743 (by decide) ?_
              refine gr_iload C 6 dL_tells_744 rfl ?_
              refine gr_bipush C 12 dL_tells_746 (by decide) ?_
              refine gr_ishr C dL_tells_748 ?_
              refine gr_sipush C 4000 dL_tells_749 (by decide) ?_
              obtain ⟨g99, h⟩ := h
              refine gr_callP C (y := yL_low) (as := [.int (a4 >>> (12 &&& 31)), .int 4000]) (by exact ⟨Nat.le_of_ble_eq_true rfl, Nat.le_of_ble_eq_true rfl⟩) (fun B1 => c_L_low l D K E0 b0 B1 (a4 >>> (12 &&& 31)) 4000 t98 g99) hk_L_low rfl vs_L_213 kc_L_low dL_tells_752 (Nat.le_of_ble_eq_true rfl) ?_
              obtain ⟨g100, h⟩ := h
              refine gr_iast C g100 dL_tells_755 ?_
              refine gr_nameS (fun t101 et101 => ?_)
              have h := h t101 et101
              refine gr_aloadn C 2 0 dL_tells_756 rfl rfl ?_
              refine gr_aloadn C 3 1 dL_tells_757 rfl rfl ?_
              refine gr_iconst C 1 dL_tells_758 (by decide) ?_
              obtain ⟨g102, h⟩ := h
              refine gr_iald C g102 dL_tells_759 ?_
              refine gr_aloadn C 3 1 dL_tells_760 rfl rfl ?_
              refine gr_iconst C 2 dL_tells_761 (by decide) ?_
              obtain ⟨g103, h⟩ := h
              refine gr_iald C g103 dL_tells_762 ?_
              refine gr_aloadn C 3 1 dL_tells_763 rfl rfl ?_
              refine gr_iconst C 3 dL_tells_764 (by decide) ?_
              obtain ⟨g104, h⟩ := h
              refine gr_iald C g104 dL_tells_765 ?_
              obtain ⟨B105, hB105, hR105, h⟩ := h
              refine gr_callW C (y := yL_setPaper) (as := [.ref o, .int (rG t101.2 a1 (Int32.toNatClampNeg 1)), .int (rG t101.2 a1 (Int32.toNatClampNeg 2)), .int (rG t101.2 a1 (Int32.toNatClampNeg 3))]) (by exact ⟨Nat.le_of_ble_eq_true rfl, Nat.le_of_ble_eq_true rfl⟩) B105 hB105 hR105 (c_L_setPaper l D K E0 b0 B105 o (rG t101.2 a1 (Int32.toNatClampNeg 1)) (rG t101.2 a1 (Int32.toNatClampNeg 2)) (rG t101.2 a1 (Int32.toNatClampNeg 3)) t101 _ h) hk_L_setPaper rfl vs_L_324 kc_L_setPaper dL_tells_766 (Nat.le_of_ble_eq_true rfl) (fun r105 t105 h z1 z2 => ?_)
              have h := h z1 z2
              obtain ⟨J846, hJ846, h⟩ := h
              have k846 : ∀ x106 : Int32, ∀ t107 : LwS, J846 x106 t107 → GR p l e (rmC 13 B t.1) s m args below meth c 12 D K E0 B b0 (gr_Q below D K E0 b0 Q args s (rmC 13 B t.1)) t107 846 [] [.int x106] := by
                intro x106 t107 h
                have h := hJ846 x106 t107 h
                obtain ⟨g108, h⟩ := h
                exact gr_zret C E g108 dL_tells_846 h
              obtain ⟨J845, hJ845, h⟩ := h
              have k845 : ∀ t109 : LwS, J845 t109 → GR p l e (rmC 13 B t.1) s m args below meth c 12 D K E0 B b0 (gr_Q below D K E0 b0 Q args s (rmC 13 B t.1)) t109 845 [] [] := by
                intro t109 h
                have h := hJ845 t109 h
                refine gr_iconst C 0 dL_tells_845 (by decide) ?_
                exact k846 0 t109 h
              refine gr_if_ne C 845 dL_tells_769 (by decide) (fun c769_44 => ?_) (fun c769_44 => ?_)
              · have h := h.2 c769_44
                refine gr_sub [] rfl ?_
                exact k845 t105 h
              · have h := h.1 c769_44
                refine gr_aloadn C 2 0 dL_tells_772 rfl rfl ?_
                refine gr_bipush C 39 dL_tells_773 (by decide) ?_
                refine gr_iconst C 1 dL_tells_775 (by decide) ?_
                refine gr_iconst C 0 dL_tells_776 (by decide) ?_
                obtain ⟨B110, hB110, hR110, h⟩ := h
                refine gr_callW C (y := yL_setPaper) (as := [.ref o, .int 39, .int 1, .int 0]) (by exact ⟨Nat.le_of_ble_eq_true rfl, Nat.le_of_ble_eq_true rfl⟩) B110 hB110 hR110 (c_L_setPaper l D K E0 b0 B110 o 39 1 0 t105 _ h) hk_L_setPaper rfl vs_L_324 kc_L_setPaper dL_tells_777 (Nat.le_of_ble_eq_true rfl) (fun r110 t110 h z1 z2 => ?_)
                have h := h z1 z2
                refine gr_ldc C (-1000002) v_i617 dL_tells_780 ?_
                refine gr_icmp_ne C 845 dL_tells_782 (by decide) (fun c782_45 => ?_) (fun c782_45 => ?_)
                · have h := h.2 c782_45
                  refine gr_sub [] rfl ?_
                  exact k845 t110 h
                · have h := h.1 c782_45
                  refine gr_aloadn C 2 0 dL_tells_785 rfl rfl ?_
                  refine gr_sipush C 401 dL_tells_786 (by decide) ?_
                  refine gr_iconst C 1 dL_tells_789 (by decide) ?_
                  refine gr_iconst C 0 dL_tells_790 (by decide) ?_
                  obtain ⟨B111, hB111, hR111, h⟩ := h
                  refine gr_callW C (y := yL_setPaper) (as := [.ref o, .int 401, .int 1, .int 0]) (by exact ⟨Nat.le_of_ble_eq_true rfl, Nat.le_of_ble_eq_true rfl⟩) B111 hB111 hR111 (c_L_setPaper l D K E0 b0 B111 o 401 1 0 t110 _ h) hk_L_setPaper rfl vs_L_324 kc_L_setPaper dL_tells_791 (Nat.le_of_ble_eq_true rfl) (fun r111 t111 h z1 z2 => ?_)
                  have h := h z1 z2
                  refine gr_ldc C (-1000002) v_i617 dL_tells_794 ?_
                  refine gr_icmp_ne C 845 dL_tells_796 (by decide) (fun c796_46 => ?_) (fun c796_46 => ?_)
                  · have h := h.2 c796_46
                    refine gr_sub [] rfl ?_
                    exact k845 t111 h
                  · have h := h.1 c796_46
                    refine gr_aloadn C 2 0 dL_tells_799 rfl rfl ?_
                    refine gr_bipush C 40 dL_tells_800 (by decide) ?_
                    refine gr_iconst C 0 dL_tells_802 (by decide) ?_
                    refine gr_iconst C 0 dL_tells_803 (by decide) ?_
                    obtain ⟨B112, hB112, hR112, h⟩ := h
                    refine gr_callW C (y := yL_setPaper) (as := [.ref o, .int 40, .int 0, .int 0]) (by exact ⟨Nat.le_of_ble_eq_true rfl, Nat.le_of_ble_eq_true rfl⟩) B112 hB112 hR112 (c_L_setPaper l D K E0 b0 B112 o 40 0 0 t111 _ h) hk_L_setPaper rfl vs_L_324 kc_L_setPaper dL_tells_804 (Nat.le_of_ble_eq_true rfl) (fun r112 t112 h z1 z2 => ?_)
                    have h := h z1 z2
                    refine gr_ldc C (-1000002) v_i617 dL_tells_807 ?_
                    refine gr_icmp_ne C 845 dL_tells_809 (by decide) (fun c809_47 => ?_) (fun c809_47 => ?_)
                    · have h := h.2 c809_47
                      refine gr_sub [] rfl ?_
                      exact k845 t112 h
                    · have h := h.1 c809_47
                      refine gr_aloadn C 2 0 dL_tells_812 rfl rfl ?_
                      refine gr_bipush C 40 dL_tells_813 (by decide) ?_
                      refine gr_bipush C 7 dL_tells_815 (by decide) ?_
                      refine gr_iconst C 0 dL_tells_817 (by decide) ?_
                      obtain ⟨B113, hB113, hR113, h⟩ := h
                      refine gr_callW C (y := yL_setPaper) (as := [.ref o, .int 40, .int 7, .int 0]) (by exact ⟨Nat.le_of_ble_eq_true rfl, Nat.le_of_ble_eq_true rfl⟩) B113 hB113 hR113 (c_L_setPaper l D K E0 b0 B113 o 40 7 0 t112 _ h) hk_L_setPaper rfl vs_L_324 kc_L_setPaper dL_tells_818 (Nat.le_of_ble_eq_true rfl) (fun r113 t113 h z1 z2 => ?_)
                      have h := h z1 z2
                      refine gr_ldc C (-1000002) v_i617 dL_tells_821 ?_
                      refine gr_icmp_ne C 845 dL_tells_823 (by decide) (fun c823_48 => ?_) (fun c823_48 => ?_)
                      · have h := h.2 c823_48
                        refine gr_sub [] rfl ?_
                        exact k845 t113 h
                      · have h := h.1 c823_48
                        refine gr_aloadn C 2 0 dL_tells_826 rfl rfl ?_
                        refine gr_bipush C 40 dL_tells_827 (by decide) ?_
                        refine gr_iconst C 1 dL_tells_829 (by decide) ?_
                        refine gr_sipush C 20001 dL_tells_830 (by decide) ?_
                        obtain ⟨B114, hB114, hR114, h⟩ := h
                        refine gr_callW C (y := yL_setPaper) (as := [.ref o, .int 40, .int 1, .int 20001]) (by exact ⟨Nat.le_of_ble_eq_true rfl, Nat.le_of_ble_eq_true rfl⟩) B114 hB114 hR114 (c_L_setPaper l D K E0 b0 B114 o 40 1 20001 t113 _ h) hk_L_setPaper rfl vs_L_324 kc_L_setPaper dL_tells_833 (Nat.le_of_ble_eq_true rfl) (fun r114 t114 h z1 z2 => ?_)
                        have h := h z1 z2
                        refine gr_ldc C (-1000002) v_i617 dL_tells_836 ?_
                        refine gr_icmp_ne C 845 dL_tells_838 (by decide) (fun c838_49 => ?_) (fun c838_49 => ?_)
                        · have h := h.2 c838_49
                          refine gr_sub [] rfl ?_
                          exact k845 t114 h
                        · have h := h.1 c838_49
                          refine gr_iconst C 1 dL_tells_841 (by decide) ?_
                          refine gr_goto C 846 dL_tells_842 (by decide) ?_
                          refine gr_sub [] rfl ?_
                          exact k846 1 t114 h
          · have h := h.1 c624_39
            refine gr_iload C 6 dL_tells_627 rfl ?_
            refine gr_iconst C 5 dL_tells_629 (by decide) ?_
            refine gr_ishr C dL_tells_630 ?_
            refine gr_iconst C 4 dL_tells_631 (by decide) ?_
            obtain ⟨g78, h⟩ := h
            refine gr_callP C (y := yL_low) (as := [.int (a4 >>> (5 &&& 31)), .int 4]) (by exact ⟨Nat.le_of_ble_eq_true rfl, Nat.le_of_ble_eq_true rfl⟩) (fun B1 => c_L_low l D K E0 b0 B1 (a4 >>> (5 &&& 31)) 4 t g78) hk_L_low rfl vs_L_213 kc_L_low dL_tells_632 (Nat.le_of_ble_eq_true rfl) ?_
            refine gr_nameI (fun x79 ex79 => ?_)
            have h := h x79 ex79
            refine gr_istore C [(7, .int x79), (6, .int x5), (5, .int x2), (0, .ref o), (1, .ref a1), (2, .ref a2), (3, .int a3), (4, .int a4)] dL_tells_635 (by decide) rfl ?_
            refine gr_iload C 7 dL_tells_637 rfl ?_
            refine gr_bipush C 7 dL_tells_639 (by decide) ?_
            refine gr_ishr C dL_tells_641 ?_
            refine gr_bipush C 25 dL_tells_642 (by decide) ?_
            obtain ⟨g80, h⟩ := h
            refine gr_callP C (y := yL_low) (as := [.int (a4 >>> (7 &&& 31)), .int 25]) (by exact ⟨Nat.le_of_ble_eq_true rfl, Nat.le_of_ble_eq_true rfl⟩) (fun B1 => c_L_low l D K E0 b0 B1 (a4 >>> (7 &&& 31)) 25 t g80) hk_L_low rfl vs_L_213 kc_L_low dL_tells_644 (Nat.le_of_ble_eq_true rfl) ?_
            refine gr_bipush C 12 dL_tells_647 (by decide) ?_
            refine gr_isub C dL_tells_649 ?_
            refine gr_nameI (fun x81 ex81 => ?_)
            have h := h x81 ex81
            refine gr_istore C [(8, .int x81), (7, .int x79), (6, .int x5), (5, .int x2), (0, .ref o), (1, .ref a1), (2, .ref a2), (3, .int a3), (4, .int a4)] dL_tells_650 (by decide) rfl ?_
            refine gr_aloadn C 6 2 dL_tells_652 rfl rfl ?_
            refine gr_iload C 1 dL_tells_653 rfl ?_
            obtain ⟨g82, h⟩ := h
            refine gr_iald C g82 dL_tells_655 ?_
            refine gr_nameI (fun x83 ex83 => ?_)
            have h := h x83 ex83
            refine gr_istore C [(9, .int x83), (8, .int x81), (7, .int x79), (6, .int x5), (5, .int x2), (0, .ref o), (1, .ref a1), (2, .ref a2), (3, .int a3), (4, .int a4)] dL_tells_656 (by decide) rfl ?_
            refine gr_aloadn C 7 2 dL_tells_658 rfl rfl ?_
            refine gr_iload C 2 dL_tells_659 rfl ?_
            refine gr_iload C 1 dL_tells_661 rfl ?_
            obtain ⟨g84, h⟩ := h
            refine gr_iast C g84 dL_tells_663 ?_
            refine gr_nameS (fun t85 et85 => ?_)
            have h := h t85 et85
            refine gr_aloadn C 5 0 dL_tells_664 rfl rfl ?_
            refine gr_iload C 2 dL_tells_665 rfl ?_
            refine gr_iload C 1 dL_tells_667 rfl ?_
            obtain ⟨B86, hB86, hR86, h⟩ := h
            refine gr_callW C (y := yL_transpose) (as := [.ref o, .int x79, .int x81]) (by exact ⟨Nat.le_of_ble_eq_true rfl, Nat.le_of_ble_eq_true rfl⟩) B86 hB86 hR86 (c_L_transpose l D K E0 b0 B86 o x79 x81 t85 _ h) hk_L_transpose rfl vs_L_322 kc_L_transpose dL_tells_669 (Nat.le_of_ble_eq_true rfl) (fun r86 t86 h z1 z2 => ?_)
            have h := h z1 z2
            refine gr_iload C 0 dL_tells_672 rfl ?_
            obtain ⟨J706, hJ706, h⟩ := h
            have k706 : ∀ x87 : Int32, ∀ t88 : LwS, J706 x87 t88 → GR p l e (rmC 13 B t.1) s m args below meth c 12 D K E0 B b0 (gr_Q below D K E0 b0 Q args s (rmC 13 B t.1)) t88 706 [] [.int x87] := by
              intro x87 t88 h
              have h := hJ706 x87 t88 h
              obtain ⟨g89, h⟩ := h
              exact gr_zret C E g89 dL_tells_706 h
            obtain ⟨J705, hJ705, h⟩ := h
            have k705 : ∀ t90 : LwS, J705 t90 → GR p l e (rmC 13 B t.1) s m args below meth c 12 D K E0 B b0 (gr_Q below D K E0 b0 Q args s (rmC 13 B t.1)) t90 705 [] [] := by
              intro t90 h
              have h := hJ705 t90 h
              refine gr_iconst C 0 dL_tells_705 (by decide) ?_
              exact k706 0 t90 h
            refine gr_icmp_ne C 705 dL_tells_674 (by decide) (fun c674_40 => ?_) (fun c674_40 => ?_)
            · have h := h.2 c674_40
              refine gr_sub [] rfl ?_
              exact k705 t86 h
            · have h := h.1 c674_40
              refine gr_aloadn C 5 0 dL_tells_677 rfl rfl ?_
              refine gr_iload C 2 dL_tells_678 rfl ?_
              refine gr_bipush C 13 dL_tells_680 (by decide) ?_
              obtain ⟨B91, hB91, hR91, h⟩ := h
              refine gr_callW C (y := yL_transpose) (as := [.ref o, .int x79, .int 13]) (by exact ⟨Nat.le_of_ble_eq_true rfl, Nat.le_of_ble_eq_true rfl⟩) B91 hB91 hR91 (c_L_transpose l D K E0 b0 B91 o x79 13 t86 _ h) hk_L_transpose rfl vs_L_322 kc_L_transpose dL_tells_682 (Nat.le_of_ble_eq_true rfl) (fun r91 t91 h z1 z2 => ?_)
              have h := h z1 z2
              refine gr_ldc C (-1000002) v_i617 dL_tells_685 ?_
              refine gr_icmp_ne C 705 dL_tells_687 (by decide) (fun c687_41 => ?_) (fun c687_41 => ?_)
              · have h := h.2 c687_41
                refine gr_sub [] rfl ?_
                exact k705 t91 h
              · have h := h.1 c687_41
                refine gr_aloadn C 5 0 dL_tells_690 rfl rfl ?_
                refine gr_iconst C 4 dL_tells_691 (by decide) ?_
                refine gr_iconst C 0 dL_tells_692 (by decide) ?_
                obtain ⟨B92, hB92, hR92, h⟩ := h
                refine gr_callW C (y := yL_transpose) (as := [.ref o, .int 4, .int 0]) (by exact ⟨Nat.le_of_ble_eq_true rfl, Nat.le_of_ble_eq_true rfl⟩) B92 hB92 hR92 (c_L_transpose l D K E0 b0 B92 o 4 0 t91 _ h) hk_L_transpose rfl vs_L_322 kc_L_transpose dL_tells_693 (Nat.le_of_ble_eq_true rfl) (fun r92 t92 h z1 z2 => ?_)
                have h := h z1 z2
                refine gr_ldc C (-1000002) v_i617 dL_tells_696 ?_
                refine gr_icmp_ne C 705 dL_tells_698 (by decide) (fun c698_42 => ?_) (fun c698_42 => ?_)
                · have h := h.2 c698_42
                  refine gr_sub [] rfl ?_
                  exact k705 t92 h
                · have h := h.1 c698_42
                  refine gr_iconst C 1 dL_tells_701 (by decide) ?_
                  refine gr_goto C 706 dL_tells_702 (by decide) ?_
                  refine gr_sub [] rfl ?_
                  exact k706 1 t92 h
        · have h := h.1 c540_32
          refine gr_aloadn C 2 0 dL_tells_543 rfl rfl ?_
          obtain ⟨hk66, h⟩ := h
          obtain ⟨B66, hB66, hR66, h⟩ := h
          refine gr_call C (y := yX11_places) (as := []) (by exact ⟨Nat.le_of_ble_eq_true rfl, Nat.le_of_ble_eq_true rfl⟩) B66 hB66 hR66 (c_X11_places l D K E0 B66 _ o t.1 _ _ h) hk_X11_places rfl vl_L_180 kc_X11_places (isC_of hk66 (by decide)) dL_tells_544 (Nat.le_of_ble_eq_true rfl) (fun _ _ h => h.elim) ?_
          rintro v S' ⟨r66, rfl, h⟩ _ z1 z2
          have h := h z1 z2
          obtain ⟨t66, et66⟩ : ∃ q : LwS, q = (S', t.2) := ⟨_, rfl⟩
          rw [← et66] at h ⊢
          refine gr_istore C [(7, .int r66), (6, .int x5), (5, .int x2), (0, .ref o), (1, .ref a1), (2, .ref a2), (3, .int a3), (4, .int a4)] dL_tells_547 (by decide) rfl ?_
          refine gr_aloadn C 3 0 dL_tells_549 rfl rfl ?_
          refine gr_iload C 1 dL_tells_550 rfl ?_
          obtain ⟨B67, hB67, hR67, h⟩ := h
          refine gr_callW C (y := yL_dropRepeat) (as := [.ref o, .int x5]) (by exact ⟨Nat.le_of_ble_eq_true rfl, Nat.le_of_ble_eq_true rfl⟩) B67 hB67 hR67 (c_L_dropRepeat l D K E0 b0 B67 o x5 t66 _ h) hk_L_dropRepeat rfl vs_L_320 kc_L_dropRepeat dL_tells_552 (Nat.le_of_ble_eq_true rfl) (fun r67 t67 h z1 z2 => ?_)
          have h := h z1 z2
          refine gr_istore C [(8, .int r67), (7, .int r66), (6, .int x5), (5, .int x2), (0, .ref o), (1, .ref a1), (2, .ref a2), (3, .int a3), (4, .int a4)] dL_tells_555 (by decide) rfl ?_
          refine gr_iload C 0 dL_tells_557 rfl ?_
          refine gr_ldc C (-1000003) v_i908 dL_tells_559 ?_
          obtain ⟨J620, hJ620, h⟩ := h
          have k620 : ∀ x68 : Int32, ∀ t69 : LwS, J620 x68 t69 → GR p l e (rmC 13 B t.1) s m args below meth c 12 D K E0 B b0 (gr_Q below D K E0 b0 Q args s (rmC 13 B t.1)) t69 620 [] [.int x68] := by
            intro x68 t69 h
            have h := hJ620 x68 t69 h
            obtain ⟨g70, h⟩ := h
            exact gr_zret C E g70 dL_tells_620 h
          obtain ⟨J619, hJ619, h⟩ := h
          have k619 : ∀ t71 : LwS, J619 t71 → GR p l e (rmC 13 B t.1) s m args below meth c 12 D K E0 B b0 (gr_Q below D K E0 b0 Q args s (rmC 13 B t.1)) t71 619 [] [] := by
            intro t71 h
            have h := hJ619 t71 h
            refine gr_iconst C 0 dL_tells_619 (by decide) ?_
            exact k620 0 t71 h
          obtain ⟨J592, hJ592, h⟩ := h
          have k592 : ∀ t72 : LwS, J592 t72 → GR p l e (rmC 13 B t.1) s m args below meth c 12 D K E0 B b0 (gr_Q below D K E0 b0 Q args s (rmC 13 B t.1)) t72 592 [(0, .ref o), (1, .ref a1), (6, .int x5)] [] := by
            intro t72 h
            have h := hJ592 t72 h
            refine gr_aloadn C 0 0 dL_tells_592 rfl rfl ?_
            refine gr_iload C 2 dL_tells_593 rfl ?_
            obtain ⟨B73, hB73, hR73, h⟩ := h
            refine gr_callW C (y := yL_dropRepeat) (as := [.ref o, .int x5]) (by exact ⟨Nat.le_of_ble_eq_true rfl, Nat.le_of_ble_eq_true rfl⟩) B73 hB73 hR73 (c_L_dropRepeat l D K E0 b0 B73 o x5 t72 _ h) hk_L_dropRepeat rfl vs_L_320 kc_L_dropRepeat dL_tells_595 (Nat.le_of_ble_eq_true rfl) (fun r73 t73 h z1 z2 => ?_)
            have h := h z1 z2
            refine gr_ldc C (-1000003) v_i908 dL_tells_598 ?_
            refine gr_icmp_ne C 619 dL_tells_600 (by decide) (fun c600_33 => ?_) (fun c600_33 => ?_)
            · have h := h.2 c600_33
              refine gr_sub [] rfl ?_
              exact k619 t73 h
            · have h := h.1 c600_33
              refine gr_aloadn C 0 0 dL_tells_603 rfl rfl ?_
              refine gr_aloadn C 1 1 dL_tells_604 rfl rfl ?_
              refine gr_iconst C 0 dL_tells_605 (by decide) ?_
              obtain ⟨g74, h⟩ := h
              refine gr_iald C g74 dL_tells_606 ?_
              obtain ⟨B75, hB75, hR75, h⟩ := h
              refine gr_callW C (y := yL_dropRepeat) (as := [.ref o, .int (rG t73.2 a1 (Int32.toNatClampNeg 0))]) (by exact ⟨Nat.le_of_ble_eq_true rfl, Nat.le_of_ble_eq_true rfl⟩) B75 hB75 hR75 (c_L_dropRepeat l D K E0 b0 B75 o (rG t73.2 a1 (Int32.toNatClampNeg 0)) t73 _ h) hk_L_dropRepeat rfl vs_L_320 kc_L_dropRepeat dL_tells_607 (Nat.le_of_ble_eq_true rfl) (fun r75 t75 h z1 z2 => ?_)
              have h := h z1 z2
              refine gr_ldc C (-1000001) v_i533 dL_tells_610 ?_
              refine gr_icmp_ne C 619 dL_tells_612 (by decide) (fun c612_34 => ?_) (fun c612_34 => ?_)
              · have h := h.2 c612_34
                refine gr_sub [] rfl ?_
                exact k619 t75 h
              · have h := h.1 c612_34
                refine gr_iconst C 1 dL_tells_615 (by decide) ?_
                refine gr_goto C 620 dL_tells_616 (by decide) ?_
                refine gr_sub [] rfl ?_
                exact k620 1 t75 h
          refine gr_icmp_ne C 576 dL_tells_561 (by decide) (fun c561_35 => ?_) (fun c561_35 => ?_)
          · have h := h.2 c561_35
            refine gr_iload C 0 dL_tells_576 rfl ?_
            refine gr_iload C 2 dL_tells_578 rfl ?_
            refine gr_icmp_lt C 619 dL_tells_580 (by decide) (fun c580_37 => ?_) (fun c580_37 => ?_)
            · have h := h.1 c580_37
              refine gr_sub [] rfl ?_
              exact k619 t67 h
            · have h := h.2 c580_37
              refine gr_aloadn C 4 0 dL_tells_583 rfl rfl ?_
              obtain ⟨hk77, h⟩ := h
              obtain ⟨B77, hB77, hR77, h⟩ := h
              refine gr_call C (y := yX11_places) (as := []) (by exact ⟨Nat.le_of_ble_eq_true rfl, Nat.le_of_ble_eq_true rfl⟩) B77 hB77 hR77 (c_X11_places l D K E0 B77 _ o t67.1 _ _ h) hk_X11_places rfl vl_L_180 kc_X11_places (isC_of hk77 (by decide)) dL_tells_584 (Nat.le_of_ble_eq_true rfl) (fun _ _ h => h.elim) ?_
              rintro v S' ⟨r77, rfl, h⟩ _ z1 z2
              have h := h z1 z2
              obtain ⟨t77, et77⟩ : ∃ q : LwS, q = (S', t67.2) := ⟨_, rfl⟩
              rw [← et77] at h ⊢
              refine gr_iload C 1 dL_tells_587 rfl ?_
              refine gr_icmp_ge C 619 dL_tells_589 (by decide) (fun c589_38 => ?_) (fun c589_38 => ?_)
              · have h := h.1 c589_38
                refine gr_sub [] rfl ?_
                exact k619 t77 h
              · have h := h.2 c589_38
                refine gr_sub [4, 5, 2] rfl ?_
                exact k592 t77 h
          · have h := h.1 c561_35
            refine gr_aloadn C 4 0 dL_tells_564 rfl rfl ?_
            obtain ⟨hk76, h⟩ := h
            obtain ⟨B76, hB76, hR76, h⟩ := h
            refine gr_call C (y := yX11_places) (as := []) (by exact ⟨Nat.le_of_ble_eq_true rfl, Nat.le_of_ble_eq_true rfl⟩) B76 hB76 hR76 (c_X11_places l D K E0 B76 _ o t67.1 _ _ h) hk_X11_places rfl vl_L_180 kc_X11_places (isC_of hk76 (by decide)) dL_tells_565 (Nat.le_of_ble_eq_true rfl) (fun _ _ h => h.elim) ?_
            rintro v S' ⟨r76, rfl, h⟩ _ z1 z2
            have h := h z1 z2
            obtain ⟨t76, et76⟩ : ∃ q : LwS, q = (S', t67.2) := ⟨_, rfl⟩
            rw [← et76] at h ⊢
            refine gr_iload C 1 dL_tells_568 rfl ?_
            refine gr_icmp_ne C 619 dL_tells_570 (by decide) (fun c570_36 => ?_) (fun c570_36 => ?_)
            · have h := h.2 c570_36
              refine gr_sub [] rfl ?_
              exact k619 t76 h
            · have h := h.1 c570_36
              refine gr_goto C 592 dL_tells_573 (by decide) ?_
              refine gr_sub [4, 5, 2] rfl ?_
              exact k592 t76 h
      · have h := h.1 c338_21
        refine gr_iload C 0 dL_tells_341 rfl ?_
        refine gr_iload C 6 dL_tells_343 rfl ?_
        refine gr_iconst C 5 dL_tells_345 (by decide) ?_
        refine gr_ishr C dL_tells_346 ?_
        refine gr_aloadn C 3 1 dL_tells_347 rfl rfl ?_
        refine gr_iconst C 0 dL_tells_348 (by decide) ?_
        obtain ⟨g44, h⟩ := h
        refine gr_iald C g44 dL_tells_349 ?_
        refine gr_iload C 0 dL_tells_350 rfl ?_
        refine gr_isub C dL_tells_352 ?_
        obtain ⟨g45, h⟩ := h
        refine gr_callP C (y := yL_low) (as := [.int (a4 >>> (5 &&& 31)), .int ((rG t.2 a1 (Int32.toNatClampNeg 0)) - x5)]) (by exact ⟨Nat.le_of_ble_eq_true rfl, Nat.le_of_ble_eq_true rfl⟩) (fun B1 => c_L_low l D K E0 b0 B1 (a4 >>> (5 &&& 31)) ((rG t.2 a1 (Int32.toNatClampNeg 0)) - x5) t g45) hk_L_low rfl vs_L_213 kc_L_low dL_tells_353 (Nat.le_of_ble_eq_true rfl) ?_
        refine gr_iadd C dL_tells_356 ?_
        refine gr_nameI (fun x46 ex46 => ?_)
        have h := h x46 ex46
        refine gr_istore C [(7, .int x46), (6, .int x5), (5, .int x2), (0, .ref o), (1, .ref a1), (2, .ref a2), (3, .int a3), (4, .int a4)] dL_tells_357 (by decide) rfl ?_
        refine gr_iload C 7 dL_tells_359 rfl ?_
        refine gr_bipush C 9 dL_tells_361 (by decide) ?_
        refine gr_ishr C dL_tells_363 ?_
        refine gr_iload C 0 dL_tells_364 rfl ?_
        refine gr_iload C 1 dL_tells_366 rfl ?_
        refine gr_isub C dL_tells_368 ?_
        refine gr_iconst C 1 dL_tells_369 (by decide) ?_
        refine gr_iadd C dL_tells_370 ?_
        obtain ⟨g47, h⟩ := h
        refine gr_callP C (y := yL_low) (as := [.int (a4 >>> (9 &&& 31)), .int ((x46 - x5) + 1)]) (by exact ⟨Nat.le_of_ble_eq_true rfl, Nat.le_of_ble_eq_true rfl⟩) (fun B1 => c_L_low l D K E0 b0 B1 (a4 >>> (9 &&& 31)) ((x46 - x5) + 1) t g47) hk_L_low rfl vs_L_213 kc_L_low dL_tells_371 (Nat.le_of_ble_eq_true rfl) ?_
        refine gr_nameI (fun x48 ex48 => ?_)
        have h := h x48 ex48
        refine gr_istore C [(8, .int x48), (7, .int x46), (6, .int x5), (5, .int x2), (0, .ref o), (1, .ref a1), (2, .ref a2), (3, .int a3), (4, .int a4)] dL_tells_374 (by decide) rfl ?_
        refine gr_aloadn C 4 0 dL_tells_376 rfl rfl ?_
        obtain ⟨hk49, h⟩ := h
        obtain ⟨B49, hB49, hR49, h⟩ := h
        refine gr_call C (y := yX11_places) (as := []) (by exact ⟨Nat.le_of_ble_eq_true rfl, Nat.le_of_ble_eq_true rfl⟩) B49 hB49 hR49 (c_X11_places l D K E0 B49 _ o t.1 _ _ h) hk_X11_places rfl vl_L_180 kc_X11_places (isC_of hk49 (by decide)) dL_tells_377 (Nat.le_of_ble_eq_true rfl) (fun _ _ h => h.elim) ?_
        rintro v S' ⟨r49, rfl, h⟩ _ z1 z2
        have h := h z1 z2
        obtain ⟨t49, et49⟩ : ∃ q : LwS, q = (S', t.2) := ⟨_, rfl⟩
        rw [← et49] at h ⊢
        refine gr_istore C [(9, .int r49), (8, .int x48), (7, .int x46), (6, .int x5), (5, .int x2), (0, .ref o), (1, .ref a1), (2, .ref a2), (3, .int a3), (4, .int a4)] dL_tells_380 (by decide) rfl ?_
        refine gr_aloadn C 5 0 dL_tells_382 rfl rfl ?_
        refine gr_iload C 3 dL_tells_383 rfl ?_
        refine gr_iload C 2 dL_tells_385 rfl ?_
        refine gr_iload C 1 dL_tells_387 rfl ?_
        obtain ⟨B50, hB50, hR50, h⟩ := h
        refine gr_callW C (y := yL_addRepeat) (as := [.ref o, .int x5, .int x46, .int x48]) (by exact ⟨Nat.le_of_ble_eq_true rfl, Nat.le_of_ble_eq_true rfl⟩) B50 hB50 hR50 (c_L_addRepeat l D K E0 b0 B50 o x5 x46 x48 t49 _ h) hk_L_addRepeat rfl vs_L_318 kc_L_addRepeat dL_tells_389 (Nat.le_of_ble_eq_true rfl) (fun r50 t50 h z1 z2 => ?_)
        have h := h z1 z2
        refine gr_istore C [(10, .int r50), (9, .int r49), (8, .int x48), (7, .int x46), (6, .int x5), (5, .int x2), (0, .ref o), (1, .ref a1), (2, .ref a2), (3, .int a3), (4, .int a4)] dL_tells_392 (by decide) rfl ?_
        refine gr_iload C 0 dL_tells_394 rfl ?_
        refine gr_ldc C (-1000003) v_i908 dL_tells_396 ?_
        obtain ⟨J448, hJ448, h⟩ := h
        have k448 : ∀ x51 : Int32, ∀ t52 : LwS, J448 x51 t52 → GR p l e (rmC 13 B t.1) s m args below meth c 12 D K E0 B b0 (gr_Q below D K E0 b0 Q args s (rmC 13 B t.1)) t52 448 [(0, .ref o), (1, .ref a1), (6, .int x5), (7, .int x46), (8, .int x48)] [.int x51] := by
          intro x51 t52 h
          have h := hJ448 x51 t52 h
          refine gr_istore C [(11, .int x51), (0, .ref o), (1, .ref a1), (6, .int x5), (7, .int x46), (8, .int x48)] dL_tells_448 (by decide) rfl ?_
          refine gr_iload C 0 dL_tells_450 rfl ?_
          obtain ⟨J536, hJ536, h⟩ := h
          have k536 : ∀ x53 : Int32, ∀ t54 : LwS, J536 x53 t54 → GR p l e (rmC 13 B t.1) s m args below meth c 12 D K E0 B b0 (gr_Q below D K E0 b0 Q args s (rmC 13 B t.1)) t54 536 [] [.int x53] := by
            intro x53 t54 h
            have h := hJ536 x53 t54 h
            obtain ⟨g55, h⟩ := h
            exact gr_zret C E g55 dL_tells_536 h
          obtain ⟨J535, hJ535, h⟩ := h
          have k535 : ∀ t56 : LwS, J535 t56 → GR p l e (rmC 13 B t.1) s m args below meth c 12 D K E0 B b0 (gr_Q below D K E0 b0 Q args s (rmC 13 B t.1)) t56 535 [] [] := by
            intro t56 h
            have h := hJ535 t56 h
            refine gr_iconst C 0 dL_tells_535 (by decide) ?_
            exact k536 0 t56 h
          refine gr_if_eq C 535 dL_tells_452 (by decide) (fun c452_22 => ?_) (fun c452_22 => ?_)
          · have h := h.1 c452_22
            refine gr_sub [] rfl ?_
            exact k535 t52 h
          · have h := h.2 c452_22
            refine gr_aloadn C 1 0 dL_tells_455 rfl rfl ?_
            refine gr_iload C 3 dL_tells_456 rfl ?_
            refine gr_iload C 4 dL_tells_458 rfl ?_
            refine gr_iload C 5 dL_tells_460 rfl ?_
            obtain ⟨B57, hB57, hR57, h⟩ := h
            refine gr_callW C (y := yL_addRepeat) (as := [.ref o, .int x5, .int x46, .int x48]) (by exact ⟨Nat.le_of_ble_eq_true rfl, Nat.le_of_ble_eq_true rfl⟩) B57 hB57 hR57 (c_L_addRepeat l D K E0 b0 B57 o x5 x46 x48 t52 _ h) hk_L_addRepeat rfl vs_L_318 kc_L_addRepeat dL_tells_462 (Nat.le_of_ble_eq_true rfl) (fun r57 t57 h z1 z2 => ?_)
            have h := h z1 z2
            refine gr_ldc C (-1000003) v_i908 dL_tells_465 ?_
            refine gr_icmp_ne C 535 dL_tells_467 (by decide) (fun c467_23 => ?_) (fun c467_23 => ?_)
            · have h := h.2 c467_23
              refine gr_sub [] rfl ?_
              exact k535 t57 h
            · have h := h.1 c467_23
              refine gr_aloadn C 1 0 dL_tells_470 rfl rfl ?_
              refine gr_iload C 3 dL_tells_471 rfl ?_
              refine gr_iload C 4 dL_tells_473 rfl ?_
              refine gr_iload C 4 dL_tells_475 rfl ?_
              refine gr_iload C 3 dL_tells_477 rfl ?_
              refine gr_isub C dL_tells_479 ?_
              refine gr_iconst C 1 dL_tells_480 (by decide) ?_
              refine gr_iadd C dL_tells_481 ?_
              obtain ⟨B58, hB58, hR58, h⟩ := h
              refine gr_callW C (y := yL_addRepeat) (as := [.ref o, .int x5, .int x46, .int ((x46 - x5) + 1)]) (by exact ⟨Nat.le_of_ble_eq_true rfl, Nat.le_of_ble_eq_true rfl⟩) B58 hB58 hR58 (c_L_addRepeat l D K E0 b0 B58 o x5 x46 ((x46 - x5) + 1) t57 _ h) hk_L_addRepeat rfl vs_L_318 kc_L_addRepeat dL_tells_482 (Nat.le_of_ble_eq_true rfl) (fun r58 t58 h z1 z2 => ?_)
              have h := h z1 z2
              refine gr_ldc C (-1000002) v_i617 dL_tells_485 ?_
              refine gr_icmp_ne C 535 dL_tells_487 (by decide) (fun c487_24 => ?_) (fun c487_24 => ?_)
              · have h := h.2 c487_24
                refine gr_sub [] rfl ?_
                exact k535 t58 h
              · have h := h.1 c487_24
                refine gr_aloadn C 1 0 dL_tells_490 rfl rfl ?_
                refine gr_iload C 3 dL_tells_491 rfl ?_
                refine gr_aloadn C 2 1 dL_tells_493 rfl rfl ?_
                refine gr_iconst C 0 dL_tells_494 (by decide) ?_
                obtain ⟨g59, h⟩ := h
                refine gr_iald C g59 dL_tells_495 ?_
                refine gr_iconst C 0 dL_tells_496 (by decide) ?_
                obtain ⟨B60, hB60, hR60, h⟩ := h
                refine gr_callW C (y := yL_addRepeat) (as := [.ref o, .int x5, .int (rG t58.2 a1 (Int32.toNatClampNeg 0)), .int 0]) (by exact ⟨Nat.le_of_ble_eq_true rfl, Nat.le_of_ble_eq_true rfl⟩) B60 hB60 hR60 (c_L_addRepeat l D K E0 b0 B60 o x5 (rG t58.2 a1 (Int32.toNatClampNeg 0)) 0 t58 _ h) hk_L_addRepeat rfl vs_L_318 kc_L_addRepeat dL_tells_497 (Nat.le_of_ble_eq_true rfl) (fun r60 t60 h z1 z2 => ?_)
                have h := h z1 z2
                refine gr_ldc C (-1000001) v_i533 dL_tells_500 ?_
                refine gr_icmp_ne C 535 dL_tells_502 (by decide) (fun c502_25 => ?_) (fun c502_25 => ?_)
                · have h := h.2 c502_25
                  refine gr_sub [] rfl ?_
                  exact k535 t60 h
                · have h := h.1 c502_25
                  refine gr_aloadn C 1 0 dL_tells_505 rfl rfl ?_
                  refine gr_iload C 3 dL_tells_506 rfl ?_
                  refine gr_iload C 3 dL_tells_508 rfl ?_
                  refine gr_iconst C 1 dL_tells_510 (by decide) ?_
                  refine gr_isub C dL_tells_511 ?_
                  refine gr_iconst C 0 dL_tells_512 (by decide) ?_
                  obtain ⟨B61, hB61, hR61, h⟩ := h
                  refine gr_callW C (y := yL_addRepeat) (as := [.ref o, .int x5, .int (x5 - 1), .int 0]) (by exact ⟨Nat.le_of_ble_eq_true rfl, Nat.le_of_ble_eq_true rfl⟩) B61 hB61 hR61 (c_L_addRepeat l D K E0 b0 B61 o x5 (x5 - 1) 0 t60 _ h) hk_L_addRepeat rfl vs_L_318 kc_L_addRepeat dL_tells_513 (Nat.le_of_ble_eq_true rfl) (fun r61 t61 h z1 z2 => ?_)
                  have h := h z1 z2
                  refine gr_iload C 3 dL_tells_516 rfl ?_
                  have k528 : ∀ x62 : Int32, x62 = (if x5 = 0 then ((-1000001) : Int32) else (-1000002)) → GR p l e (rmC 13 B t.1) s m args below meth c 12 D K E0 B b0 (gr_Q below D K E0 b0 Q args s (rmC 13 B t.1)) t61 528 [] [.int x62, .int r61] := by
                    intro x62 ex62
                    have h := h x62 ex62
                    refine gr_icmp_ne C 535 dL_tells_528 (by decide) (fun c528_27 => ?_) (fun c528_27 => ?_)
                    · have h := h.2 c528_27
                      exact k535 t61 h
                    · have h := h.1 c528_27
                      refine gr_iconst C 1 dL_tells_531 (by decide) ?_
                      refine gr_goto C 536 dL_tells_532 (by decide) ?_
                      exact k536 1 t61 h
                  refine gr_if_ne C 526 dL_tells_518 (by decide) (fun c518_26 => ?_) (fun c518_26 => ?_)
                  · refine gr_ldc C (-1000002) v_i617 dL_tells_526 ?_
                    refine gr_sub [] rfl ?_
                    exact k528 _ ((if_neg c518_26).symm)
                  · refine gr_ldc C (-1000001) v_i533 dL_tells_521 ?_
                    refine gr_goto C 528 dL_tells_523 (by decide) ?_
                    refine gr_sub [] rfl ?_
                    exact k528 _ ((if_pos c518_26).symm)
        refine gr_icmp_ne C 418 dL_tells_398 (by decide) (fun c398_28 => ?_) (fun c398_28 => ?_)
        · have h := h.2 c398_28
          refine gr_iload C 0 dL_tells_418 rfl ?_
          obtain ⟨J447, hJ447, h⟩ := h
          have k447 : ∀ t64 : LwS, J447 t64 → GR p l e (rmC 13 B t.1) s m args below meth c 12 D K E0 B b0 (gr_Q below D K E0 b0 Q args s (rmC 13 B t.1)) t64 447 [(0, .ref o), (1, .ref a1), (6, .int x5), (7, .int x46), (8, .int x48)] [] := by
            intro t64 h
            have h := hJ447 t64 h
            refine gr_iconst C 0 dL_tells_447 (by decide) ?_
            exact k448 0 t64 h
          refine gr_if_le C 447 dL_tells_420 (by decide) (fun c420_30 => ?_) (fun c420_30 => ?_)
          · have h := h.1 c420_30
            refine gr_sub [6, 7, 4, 3, 2] rfl ?_
            exact k447 t50 h
          · have h := h.2 c420_30
            refine gr_aloadn C 6 0 dL_tells_423 rfl rfl ?_
            obtain ⟨hk65, h⟩ := h
            obtain ⟨B65, hB65, hR65, h⟩ := h
            refine gr_call C (y := yX11_places) (as := []) (by exact ⟨Nat.le_of_ble_eq_true rfl, Nat.le_of_ble_eq_true rfl⟩) B65 hB65 hR65 (c_X11_places l D K E0 B65 _ o t50.1 _ _ h) hk_X11_places rfl vl_L_180 kc_X11_places (isC_of hk65 (by decide)) dL_tells_424 (Nat.le_of_ble_eq_true rfl) (fun _ _ h => h.elim) ?_
            rintro v S' ⟨r65, rfl, h⟩ _ z1 z2
            have h := h z1 z2
            obtain ⟨t65, et65⟩ : ∃ q : LwS, q = (S', t50.2) := ⟨_, rfl⟩
            rw [← et65] at h ⊢
            refine gr_iload C 1 dL_tells_427 rfl ?_
            refine gr_iload C 3 dL_tells_429 rfl ?_
            refine gr_iadd C dL_tells_431 ?_
            refine gr_iload C 4 dL_tells_432 rfl ?_
            refine gr_isub C dL_tells_434 ?_
            refine gr_iconst C 1 dL_tells_435 (by decide) ?_
            refine gr_iadd C dL_tells_436 ?_
            refine gr_iload C 2 dL_tells_437 rfl ?_
            refine gr_isub C dL_tells_439 ?_
            refine gr_icmp_ne C 447 dL_tells_440 (by decide) (fun c440_31 => ?_) (fun c440_31 => ?_)
            · have h := h.2 c440_31
              refine gr_sub [6, 7, 4, 3, 2] rfl ?_
              exact k447 t65 h
            · have h := h.1 c440_31
              refine gr_iconst C 1 dL_tells_443 (by decide) ?_
              refine gr_goto C 448 dL_tells_444 (by decide) ?_
              refine gr_sub [6, 7, 4, 3, 2] rfl ?_
              exact k448 1 t65 h
        · have h := h.1 c398_28
          refine gr_aloadn C 6 0 dL_tells_401 rfl rfl ?_
          obtain ⟨hk63, h⟩ := h
          obtain ⟨B63, hB63, hR63, h⟩ := h
          refine gr_call C (y := yX11_places) (as := []) (by exact ⟨Nat.le_of_ble_eq_true rfl, Nat.le_of_ble_eq_true rfl⟩) B63 hB63 hR63 (c_X11_places l D K E0 B63 _ o t50.1 _ _ h) hk_X11_places rfl vl_L_180 kc_X11_places (isC_of hk63 (by decide)) dL_tells_402 (Nat.le_of_ble_eq_true rfl) (fun _ _ h => h.elim) ?_
          rintro v S' ⟨r63, rfl, h⟩ _ z1 z2
          have h := h z1 z2
          obtain ⟨t63, et63⟩ : ∃ q : LwS, q = (S', t50.2) := ⟨_, rfl⟩
          rw [← et63] at h ⊢
          refine gr_iload C 1 dL_tells_405 rfl ?_
          refine gr_icmp_ne C 414 dL_tells_407 (by decide) (fun c407_29 => ?_) (fun c407_29 => ?_)
          · have h := h.2 c407_29
            refine gr_iconst C 0 dL_tells_414 (by decide) ?_
            refine gr_goto C 448 dL_tells_415 (by decide) ?_
            refine gr_sub [6, 7, 4, 3, 2] rfl ?_
            exact k448 0 t63 h
          · have h := h.1 c407_29
            refine gr_iconst C 1 dL_tells_410 (by decide) ?_
            refine gr_goto C 448 dL_tells_411 (by decide) ?_
            refine gr_sub [6, 7, 4, 3, 2] rfl ?_
            exact k448 1 t63 h
    · have h := h.1 c148_10
      refine gr_iconst C 1 dL_tells_151 (by decide) ?_
      refine gr_iload C 6 dL_tells_152 rfl ?_
      refine gr_iconst C 5 dL_tells_154 (by decide) ?_
      refine gr_ishr C dL_tells_155 ?_
      refine gr_bipush C 9 dL_tells_156 (by decide) ?_
      obtain ⟨g21, h⟩ := h
      refine gr_callP C (y := yL_low) (as := [.int (a4 >>> (5 &&& 31)), .int 9]) (by exact ⟨Nat.le_of_ble_eq_true rfl, Nat.le_of_ble_eq_true rfl⟩) (fun B1 => c_L_low l D K E0 b0 B1 (a4 >>> (5 &&& 31)) 9 t g21) hk_L_low rfl vs_L_213 kc_L_low dL_tells_158 (Nat.le_of_ble_eq_true rfl) ?_
      refine gr_iadd C dL_tells_161 ?_
      refine gr_nameI (fun x22 ex22 => ?_)
      have h := h x22 ex22
      refine gr_istore C [(7, .int x22), (6, .int x5), (5, .int x2), (0, .ref o), (1, .ref a1), (2, .ref a2), (3, .int a3), (4, .int a4)] dL_tells_162 (by decide) rfl ?_
      refine gr_iconst C 2 dL_tells_164 (by decide) ?_
      refine gr_iload C 7 dL_tells_165 rfl ?_
      refine gr_bipush C 9 dL_tells_167 (by decide) ?_
      refine gr_ishr C dL_tells_169 ?_
      refine gr_iconst C 3 dL_tells_170 (by decide) ?_
      obtain ⟨g23, h⟩ := h
      refine gr_callP C (y := yL_low) (as := [.int (a4 >>> (9 &&& 31)), .int 3]) (by exact ⟨Nat.le_of_ble_eq_true rfl, Nat.le_of_ble_eq_true rfl⟩) (fun B1 => c_L_low l D K E0 b0 B1 (a4 >>> (9 &&& 31)) 3 t g23) hk_L_low rfl vs_L_213 kc_L_low dL_tells_171 (Nat.le_of_ble_eq_true rfl) ?_
      refine gr_ishl C dL_tells_174 ?_
      refine gr_nameI (fun x24 ex24 => ?_)
      have h := h x24 ex24
      refine gr_istore C [(8, .int x24), (7, .int x22), (6, .int x5), (5, .int x2), (0, .ref o), (1, .ref a1), (2, .ref a2), (3, .int a3), (4, .int a4)] dL_tells_175 (by decide) rfl ?_
      refine gr_aloadn C 4 0 dL_tells_177 rfl rfl ?_
      refine gr_iload C 2 dL_tells_178 rfl ?_
      obtain ⟨B25, hB25, hR25, h⟩ := h
      refine gr_callW C (y := yL_length) (as := [.ref o, .int x5]) (by exact ⟨Nat.le_of_ble_eq_true rfl, Nat.le_of_ble_eq_true rfl⟩) B25 hB25 hR25 (c_L_length l D K E0 b0 B25 o x5 t _ h) hk_L_length rfl vs_L_193 kc_L_length dL_tells_180 (Nat.le_of_ble_eq_true rfl) (fun r25 t25 h z1 z2 => ?_)
      have h := h z1 z2
      refine gr_istore C [(9, .int r25), (8, .int x24), (7, .int x22), (6, .int x5), (5, .int x2), (0, .ref o), (1, .ref a1), (2, .ref a2), (3, .int a3), (4, .int a4)] dL_tells_183 (by decide) rfl ?_
      refine gr_iconst C 1 dL_tells_185 (by decide) ?_
      refine gr_istore C [(10, .int 1), (9, .int r25), (8, .int x24), (7, .int x22), (6, .int x5), (5, .int x2), (0, .ref o), (1, .ref a1), (2, .ref a2), (3, .int a3), (4, .int a4)] dL_tells_186 (by decide) rfl ?_
      refine gr_iconst C 0 dL_tells_188 (by decide) ?_
      refine gr_istore C [(11, .int 0), (10, .int 1), (9, .int r25), (8, .int x24), (7, .int x22), (6, .int x5), (5, .int x2), (0, .ref o), (1, .ref a1), (2, .ref a2), (3, .int a3), (4, .int a4)] dL_tells_189 (by decide) rfl ?_
      refine gr_sub [7, 8, 5, 4, 3, 2, 1, 0] rfl ?_
      obtain ⟨n191, h⟩ := h
      have k191 : ∀ (n191 : Nat) (z191 : Int32 × Int32 × LwS), lp (w_L_tells_L191 B o a1 Q x5 x22 x24 r25) n191 z191 → GR p l e (rmC 13 B t.1) s m args below meth c 12 D K E0 B b0 (gr_Q below D K E0 b0 Q args s (rmC 13 B t.1)) z191.2.2 191 [(0, .ref o), (1, .ref a1), (6, .int x5), (7, .int x22), (8, .int x24), (9, .int r25), (10, .int z191.1), (11, .int z191.2.1)] [] := by
        intro n191
        induction n191 with
        | zero => intro z191 h; exact h.elim
        | succ n191 ih191 =>
          intro z191 h
          have h : w_L_tells_L191 B o a1 Q x5 x22 x24 r25 (lp (w_L_tells_L191 B o a1 Q x5 x22 x24 r25) n191) z191 := h
          unfold w_L_tells_L191 at h
          refine gr_iload C 7 dL_tells_191 rfl ?_
          refine gr_iconst C 4 dL_tells_193 (by decide) ?_
          refine gr_icmp_ge C 237 dL_tells_194 (by decide) (fun c194_11 => ?_) (fun c194_11 => ?_)
          · have h := h.1 c194_11
            refine gr_aloadn C 0 0 dL_tells_237 rfl rfl ?_
            refine gr_iload C 2 dL_tells_238 rfl ?_
            refine gr_iload C 3 dL_tells_240 rfl ?_
            refine gr_iload C 4 dL_tells_242 rfl ?_
            obtain ⟨B26, hB26, hR26, h⟩ := h
            refine gr_callW C (y := yL_setMetre) (as := [.ref o, .int x5, .int x22, .int x24]) (by exact ⟨Nat.le_of_ble_eq_true rfl, Nat.le_of_ble_eq_true rfl⟩) B26 hB26 hR26 (c_L_setMetre l D K E0 b0 B26 o x5 x22 x24 z191.2.2 _ h) hk_L_setMetre rfl vs_L_316 kc_L_setMetre dL_tells_244 (Nat.le_of_ble_eq_true rfl) (fun r26 t26 h z1 z2 => ?_)
            have h := h z1 z2
            refine gr_iload C 6 dL_tells_247 rfl ?_
            have k259 : ∀ x27 : Int32, x27 = (if z191.1 = 0 then (-1000003) else r25) → GR p l e (rmC 13 B t.1) s m args below meth c 12 D K E0 B b0 (gr_Q below D K E0 b0 Q args s (rmC 13 B t.1)) t26 259 [(0, .ref o), (1, .ref a1), (6, .int x5), (7, .int x22), (8, .int x24), (9, .int r25), (10, .int z191.1)] [.int x27, .int r26] := by
              intro x27 ex27
              have h := h x27 ex27
              obtain ⟨J334, hJ334, h⟩ := h
              have k334 : ∀ x28 : Int32, ∀ t29 : LwS, J334 x28 t29 → GR p l e (rmC 13 B t.1) s m args below meth c 12 D K E0 B b0 (gr_Q below D K E0 b0 Q args s (rmC 13 B t.1)) t29 334 [] [.int x28] := by
                intro x28 t29 h
                have h := hJ334 x28 t29 h
                obtain ⟨g30, h⟩ := h
                exact gr_zret C E g30 dL_tells_334 h
              obtain ⟨J333, hJ333, h⟩ := h
              have k333 : ∀ t31 : LwS, J333 t31 → GR p l e (rmC 13 B t.1) s m args below meth c 12 D K E0 B b0 (gr_Q below D K E0 b0 Q args s (rmC 13 B t.1)) t31 333 [] [] := by
                intro t31 h
                have h := hJ333 t31 h
                refine gr_iconst C 0 dL_tells_333 (by decide) ?_
                exact k334 0 t31 h
              refine gr_icmp_ne C 333 dL_tells_259 (by decide) (fun c259_13 => ?_) (fun c259_13 => ?_)
              · have h := h.2 c259_13
                refine gr_sub [] rfl ?_
                exact k333 t26 h
              · have h := h.1 c259_13
                refine gr_aloadn C 0 0 dL_tells_262 rfl rfl ?_
                refine gr_iload C 2 dL_tells_263 rfl ?_
                obtain ⟨B32, hB32, hR32, h⟩ := h
                refine gr_callW C (y := yL_length) (as := [.ref o, .int x5]) (by exact ⟨Nat.le_of_ble_eq_true rfl, Nat.le_of_ble_eq_true rfl⟩) B32 hB32 hR32 (c_L_length l D K E0 b0 B32 o x5 t26 _ h) hk_L_length rfl vs_L_193 kc_L_length dL_tells_265 (Nat.le_of_ble_eq_true rfl) (fun r32 t32 h z1 z2 => ?_)
                have h := h z1 z2
                refine gr_iload C 6 dL_tells_268 rfl ?_
                obtain ⟨g34, h⟩ := h
                have k286 : ∀ x33 : Int32, x33 = (if z191.1 = 0 then r25 else (((96 : Int32) * x22) / x24)) → GR p l e (rmC 13 B t.1) s m args below meth c 12 D K E0 B b0 (gr_Q below D K E0 b0 Q args s (rmC 13 B t.1)) t32 286 [(0, .ref o), (1, .ref a1), (6, .int x5)] [.int x33, .int r32] := by
                  intro x33 ex33
                  have h := h x33 ex33
                  refine gr_icmp_ne C 333 dL_tells_286 (by decide) (fun c286_15 => ?_) (fun c286_15 => ?_)
                  · have h := h.2 c286_15
                    refine gr_sub [] rfl ?_
                    exact k333 t32 h
                  · have h := h.1 c286_15
                    refine gr_aloadn C 0 0 dL_tells_289 rfl rfl ?_
                    refine gr_iload C 2 dL_tells_290 rfl ?_
                    refine gr_iconst C 0 dL_tells_292 (by decide) ?_
                    refine gr_iconst C 4 dL_tells_293 (by decide) ?_
                    obtain ⟨B35, hB35, hR35, h⟩ := h
                    refine gr_callW C (y := yL_setMetre) (as := [.ref o, .int x5, .int 0, .int 4]) (by exact ⟨Nat.le_of_ble_eq_true rfl, Nat.le_of_ble_eq_true rfl⟩) B35 hB35 hR35 (c_L_setMetre l D K E0 b0 B35 o x5 0 4 t32 _ h) hk_L_setMetre rfl vs_L_316 kc_L_setMetre dL_tells_294 (Nat.le_of_ble_eq_true rfl) (fun r35 t35 h z1 z2 => ?_)
                    have h := h z1 z2
                    refine gr_ldc C (-1000002) v_i617 dL_tells_297 ?_
                    refine gr_icmp_ne C 333 dL_tells_299 (by decide) (fun c299_16 => ?_) (fun c299_16 => ?_)
                    · have h := h.2 c299_16
                      refine gr_sub [] rfl ?_
                      exact k333 t35 h
                    · have h := h.1 c299_16
                      refine gr_aloadn C 0 0 dL_tells_302 rfl rfl ?_
                      refine gr_iload C 2 dL_tells_303 rfl ?_
                      refine gr_iconst C 4 dL_tells_305 (by decide) ?_
                      refine gr_iconst C 3 dL_tells_306 (by decide) ?_
                      obtain ⟨B36, hB36, hR36, h⟩ := h
                      refine gr_callW C (y := yL_setMetre) (as := [.ref o, .int x5, .int 4, .int 3]) (by exact ⟨Nat.le_of_ble_eq_true rfl, Nat.le_of_ble_eq_true rfl⟩) B36 hB36 hR36 (c_L_setMetre l D K E0 b0 B36 o x5 4 3 t35 _ h) hk_L_setMetre rfl vs_L_316 kc_L_setMetre dL_tells_307 (Nat.le_of_ble_eq_true rfl) (fun r36 t36 h z1 z2 => ?_)
                      have h := h z1 z2
                      refine gr_ldc C (-1000002) v_i617 dL_tells_310 ?_
                      refine gr_icmp_ne C 333 dL_tells_312 (by decide) (fun c312_17 => ?_) (fun c312_17 => ?_)
                      · have h := h.2 c312_17
                        refine gr_sub [] rfl ?_
                        exact k333 t36 h
                      · have h := h.1 c312_17
                        refine gr_aloadn C 0 0 dL_tells_315 rfl rfl ?_
                        refine gr_aloadn C 1 1 dL_tells_316 rfl rfl ?_
                        refine gr_iconst C 0 dL_tells_317 (by decide) ?_
                        obtain ⟨g37, h⟩ := h
                        refine gr_iald C g37 dL_tells_318 ?_
                        refine gr_iconst C 0 dL_tells_319 (by decide) ?_
                        refine gr_iconst C 4 dL_tells_320 (by decide) ?_
                        obtain ⟨B38, hB38, hR38, h⟩ := h
                        refine gr_callW C (y := yL_setMetre) (as := [.ref o, .int (rG t36.2 a1 (Int32.toNatClampNeg 0)), .int 0, .int 4]) (by exact ⟨Nat.le_of_ble_eq_true rfl, Nat.le_of_ble_eq_true rfl⟩) B38 hB38 hR38 (c_L_setMetre l D K E0 b0 B38 o (rG t36.2 a1 (Int32.toNatClampNeg 0)) 0 4 t36 _ h) hk_L_setMetre rfl vs_L_316 kc_L_setMetre dL_tells_321 (Nat.le_of_ble_eq_true rfl) (fun r38 t38 h z1 z2 => ?_)
                        have h := h z1 z2
                        refine gr_ldc C (-1000001) v_i533 dL_tells_324 ?_
                        refine gr_icmp_ne C 333 dL_tells_326 (by decide) (fun c326_18 => ?_) (fun c326_18 => ?_)
                        · have h := h.2 c326_18
                          refine gr_sub [] rfl ?_
                          exact k333 t38 h
                        · have h := h.1 c326_18
                          refine gr_iconst C 1 dL_tells_329 (by decide) ?_
                          refine gr_goto C 334 dL_tells_330 (by decide) ?_
                          refine gr_sub [] rfl ?_
                          exact k334 1 t38 h
                refine gr_if_eq C 284 dL_tells_270 (by decide) (fun c270_14 => ?_) (fun c270_14 => ?_)
                · refine gr_iload C 5 dL_tells_284 rfl ?_
                  refine gr_sub [0, 1, 2] rfl ?_
                  exact k286 _ ((if_pos c270_14).symm)
                · refine gr_bipush C 96 dL_tells_273 (by decide) ?_
                  refine gr_iload C 3 dL_tells_275 rfl ?_
                  refine gr_imul C dL_tells_277 ?_
                  refine gr_iload C 4 dL_tells_278 rfl ?_
                  refine gr_idiv C dL_tells_280 (g34 c270_14) ?_
                  refine gr_goto C 286 dL_tells_281 (by decide) ?_
                  refine gr_sub [0, 1, 2] rfl ?_
                  exact k286 _ ((if_neg c270_14).symm)
            refine gr_if_eq C 257 dL_tells_249 (by decide) (fun c249_12 => ?_) (fun c249_12 => ?_)
            · refine gr_ldc C (-1000003) v_i908 dL_tells_257 ?_
              refine gr_sub [0, 1, 2, 3, 4, 5, 6] rfl ?_
              exact k259 _ ((if_pos c249_12).symm)
            · refine gr_iload C 5 dL_tells_252 rfl ?_
              refine gr_goto C 259 dL_tells_254 (by decide) ?_
              refine gr_sub [0, 1, 2, 3, 4, 5, 6] rfl ?_
              exact k259 _ ((if_neg c249_12).symm)
          · have h := h.2 c194_11
            refine gr_iload C 6 dL_tells_197 rfl ?_
            obtain ⟨J229, hJ229, h⟩ := h
            have k229 : ∀ x39 : Int32, ∀ t40 : LwS, J229 x39 t40 → GR p l e (rmC 13 B t.1) s m args below meth c 12 D K E0 B b0 (gr_Q below D K E0 b0 Q args s (rmC 13 B t.1)) t40 229 [(0, .ref o), (1, .ref a1), (6, .int x5), (7, .int x22), (8, .int x24), (9, .int r25), (11, .int z191.2.1)] [.int x39] := by
              intro x39 t40 h
              have h := hJ229 x39 t40 h
              refine gr_istore C [(10, .int x39), (0, .ref o), (1, .ref a1), (6, .int x5), (7, .int x22), (8, .int x24), (9, .int r25), (11, .int z191.2.1)] dL_tells_229 (by decide) rfl ?_
              refine gr_iinc C 7 (z191.2.1 + 1) [(11, .int (z191.2.1 + 1)), (10, .int x39), (0, .ref o), (1, .ref a1), (6, .int x5), (7, .int x22), (8, .int x24), (9, .int r25)] dL_tells_231 rfl rfl (by decide) rfl ?_
              refine gr_goto C 191 dL_tells_234 (by decide) ?_
              refine gr_sub [2, 3, 4, 5, 6, 7, 1, 0] rfl ?_
              have h9 := ih191 (x39, (z191.2.1 + 1), t40) h
              exact h9
            obtain ⟨J228, hJ228, h⟩ := h
            have k228 : ∀ t41 : LwS, J228 t41 → GR p l e (rmC 13 B t.1) s m args below meth c 12 D K E0 B b0 (gr_Q below D K E0 b0 Q args s (rmC 13 B t.1)) t41 228 [(0, .ref o), (1, .ref a1), (6, .int x5), (7, .int x22), (8, .int x24), (9, .int r25), (11, .int z191.2.1)] [] := by
              intro t41 h
              have h := hJ228 t41 h
              refine gr_iconst C 0 dL_tells_228 (by decide) ?_
              exact k229 0 t41 h
            refine gr_if_eq C 228 dL_tells_199 (by decide) (fun c199_19 => ?_) (fun c199_19 => ?_)
            · have h := h.1 c199_19
              refine gr_sub [0, 1, 2, 3, 4, 5, 7] rfl ?_
              exact k228 z191.2.2 h
            · have h := h.2 c199_19
              refine gr_iload C 5 dL_tells_202 rfl ?_
              refine gr_aloadn C 0 0 dL_tells_204 rfl rfl ?_
              refine gr_iload C 7 dL_tells_205 rfl ?_
              refine gr_iload C 2 dL_tells_207 rfl ?_
              obtain ⟨B42, hB42, hR42, h⟩ := h
              refine gr_callW C (y := yL_left) (as := [.ref o, .int z191.2.1, .int x5]) (by exact ⟨Nat.le_of_ble_eq_true rfl, Nat.le_of_ble_eq_true rfl⟩) B42 hB42 hR42 (c_L_left l D K E0 b0 B42 o z191.2.1 x5 z191.2.2 _ h) hk_L_left rfl vs_L_289 kc_L_left dL_tells_209 (Nat.le_of_ble_eq_true rfl) (fun r42 t42 h z1 z2 => ?_)
              have h := h z1 z2
              refine gr_isub C dL_tells_212 ?_
              refine gr_bipush C 96 dL_tells_213 (by decide) ?_
              refine gr_iload C 3 dL_tells_215 rfl ?_
              refine gr_imul C dL_tells_217 ?_
              refine gr_iload C 4 dL_tells_218 rfl ?_
              obtain ⟨g43, h⟩ := h
              refine gr_idiv C dL_tells_220 g43 ?_
              refine gr_icmp_gt C 228 dL_tells_221 (by decide) (fun c221_20 => ?_) (fun c221_20 => ?_)
              · have h := h.1 c221_20
                refine gr_sub [0, 1, 2, 3, 4, 5, 7] rfl ?_
                exact k228 t42 h
              · have h := h.2 c221_20
                refine gr_iconst C 1 dL_tells_224 (by decide) ?_
                refine gr_goto C 229 dL_tells_225 (by decide) ?_
                refine gr_sub [0, 1, 2, 3, 4, 5, 7] rfl ?_
                exact k229 1 t42 h
      exact k191 n191 (1, 0, t25) h
  · have h := h.1 c20_1
    refine gr_iload C 6 dL_tells_23 rfl ?_
    refine gr_iconst C 5 dL_tells_25 (by decide) ?_
    refine gr_ishr C dL_tells_26 ?_
    refine gr_iconst C 3 dL_tells_27 (by decide) ?_
    obtain ⟨g6, h⟩ := h
    refine gr_callP C (y := yL_low) (as := [.int (a4 >>> (5 &&& 31)), .int 3]) (by exact ⟨Nat.le_of_ble_eq_true rfl, Nat.le_of_ble_eq_true rfl⟩) (fun B1 => c_L_low l D K E0 b0 B1 (a4 >>> (5 &&& 31)) 3 t g6) hk_L_low rfl vs_L_213 kc_L_low dL_tells_28 (Nat.le_of_ble_eq_true rfl) ?_
    obtain ⟨g8, h⟩ := h
    have k52 : ∀ x7 : Int32, x7 = (if (v_L_low (a4 >>> (5 &&& 31)) 3) = 0 then ((-1) : Int32) else ((30 : Int32) + (v_L_low (a4 >>> (7 &&& 31)) 211))) → GR p l e (rmC 13 B t.1) s m args below meth c 12 D K E0 B b0 (gr_Q below D K E0 b0 Q args s (rmC 13 B t.1)) t 52 [(0, .ref o), (1, .ref a1), (6, .int x5)] [.int x7] := by
      intro x7 ex7
      have h := h x7 ex7
      refine gr_istore C [(7, .int x7), (0, .ref o), (1, .ref a1), (6, .int x5)] dL_tells_52 (by decide) rfl ?_
      refine gr_aloadn C 1 0 dL_tells_54 rfl rfl ?_
      refine gr_iload C 3 dL_tells_55 rfl ?_
      refine gr_iload C 0 dL_tells_57 rfl ?_
      obtain ⟨B9, hB9, hR9, h⟩ := h
      refine gr_callW C (y := yL_setTempo) (as := [.ref o, .int x5, .int x7]) (by exact ⟨Nat.le_of_ble_eq_true rfl, Nat.le_of_ble_eq_true rfl⟩) B9 hB9 hR9 (c_L_setTempo l D K E0 b0 B9 o x5 x7 t _ h) hk_L_setTempo rfl vs_L_314 kc_L_setTempo dL_tells_59 (Nat.le_of_ble_eq_true rfl) (fun r9 t9 h z1 z2 => ?_)
      have h := h z1 z2
      refine gr_istore C [(8, .int r9), (7, .int x7), (0, .ref o), (1, .ref a1), (6, .int x5)] dL_tells_62 (by decide) rfl ?_
      refine gr_iload C 0 dL_tells_64 rfl ?_
      refine gr_iconst C (-1) dL_tells_66 (by decide) ?_
      obtain ⟨J144, hJ144, h⟩ := h
      have k144 : ∀ x10 : Int32, ∀ t11 : LwS, J144 x10 t11 → GR p l e (rmC 13 B t.1) s m args below meth c 12 D K E0 B b0 (gr_Q below D K E0 b0 Q args s (rmC 13 B t.1)) t11 144 [] [.int x10] := by
        intro x10 t11 h
        have h := hJ144 x10 t11 h
        obtain ⟨g12, h⟩ := h
        exact gr_zret C E g12 dL_tells_144 h
      obtain ⟨J143, hJ143, h⟩ := h
      have k143 : ∀ t13 : LwS, J143 t13 → GR p l e (rmC 13 B t.1) s m args below meth c 12 D K E0 B b0 (gr_Q below D K E0 b0 Q args s (rmC 13 B t.1)) t13 143 [] [] := by
        intro t13 h
        have h := hJ143 t13 h
        refine gr_iconst C 0 dL_tells_143 (by decide) ?_
        exact k144 0 t13 h
      refine gr_icmp_lt C 143 dL_tells_67 (by decide) (fun c67_3 => ?_) (fun c67_3 => ?_)
      · have h := h.1 c67_3
        refine gr_sub [] rfl ?_
        exact k143 t9 h
      · have h := h.2 c67_3
        refine gr_aloadn C 2 0 dL_tells_70 rfl rfl ?_
        refine gr_iload C 4 dL_tells_71 rfl ?_
        refine gr_iload C 1 dL_tells_73 rfl ?_
        obtain ⟨B14, hB14, hR14, h⟩ := h
        refine gr_callW C (y := yL_setTempo) (as := [.ref o, .int x5, .int x7]) (by exact ⟨Nat.le_of_ble_eq_true rfl, Nat.le_of_ble_eq_true rfl⟩) B14 hB14 hR14 (c_L_setTempo l D K E0 b0 B14 o x5 x7 t9 _ h) hk_L_setTempo rfl vs_L_314 kc_L_setTempo dL_tells_75 (Nat.le_of_ble_eq_true rfl) (fun r14 t14 h z1 z2 => ?_)
        have h := h z1 z2
        refine gr_iload C 1 dL_tells_78 rfl ?_
        refine gr_icmp_ne C 143 dL_tells_80 (by decide) (fun c80_4 => ?_) (fun c80_4 => ?_)
        · have h := h.2 c80_4
          refine gr_sub [] rfl ?_
          exact k143 t14 h
        · have h := h.1 c80_4
          refine gr_iload C 1 dL_tells_83 rfl ?_
          obtain ⟨J99, hJ99, h⟩ := h
          have k99 : ∀ t15 : LwS, J99 t15 → GR p l e (rmC 13 B t.1) s m args below meth c 12 D K E0 B b0 (gr_Q below D K E0 b0 Q args s (rmC 13 B t.1)) t15 99 [(0, .ref o), (1, .ref a1), (6, .int x5)] [] := by
            intro t15 h
            have h := hJ99 t15 h
            refine gr_aloadn C 0 0 dL_tells_99 rfl rfl ?_
            refine gr_iload C 2 dL_tells_100 rfl ?_
            refine gr_bipush C 29 dL_tells_102 (by decide) ?_
            obtain ⟨B16, hB16, hR16, h⟩ := h
            refine gr_callW C (y := yL_setTempo) (as := [.ref o, .int x5, .int 29]) (by exact ⟨Nat.le_of_ble_eq_true rfl, Nat.le_of_ble_eq_true rfl⟩) B16 hB16 hR16 (c_L_setTempo l D K E0 b0 B16 o x5 29 t15 _ h) hk_L_setTempo rfl vs_L_314 kc_L_setTempo dL_tells_104 (Nat.le_of_ble_eq_true rfl) (fun r16 t16 h z1 z2 => ?_)
            have h := h z1 z2
            refine gr_ldc C (-1000002) v_i617 dL_tells_107 ?_
            refine gr_icmp_ne C 143 dL_tells_109 (by decide) (fun c109_5 => ?_) (fun c109_5 => ?_)
            · have h := h.2 c109_5
              refine gr_sub [] rfl ?_
              exact k143 t16 h
            · have h := h.1 c109_5
              refine gr_aloadn C 0 0 dL_tells_112 rfl rfl ?_
              refine gr_iload C 2 dL_tells_113 rfl ?_
              refine gr_sipush C 241 dL_tells_115 (by decide) ?_
              obtain ⟨B17, hB17, hR17, h⟩ := h
              refine gr_callW C (y := yL_setTempo) (as := [.ref o, .int x5, .int 241]) (by exact ⟨Nat.le_of_ble_eq_true rfl, Nat.le_of_ble_eq_true rfl⟩) B17 hB17 hR17 (c_L_setTempo l D K E0 b0 B17 o x5 241 t16 _ h) hk_L_setTempo rfl vs_L_314 kc_L_setTempo dL_tells_118 (Nat.le_of_ble_eq_true rfl) (fun r17 t17 h z1 z2 => ?_)
              have h := h z1 z2
              refine gr_ldc C (-1000002) v_i617 dL_tells_121 ?_
              refine gr_icmp_ne C 143 dL_tells_123 (by decide) (fun c123_6 => ?_) (fun c123_6 => ?_)
              · have h := h.2 c123_6
                refine gr_sub [] rfl ?_
                exact k143 t17 h
              · have h := h.1 c123_6
                refine gr_aloadn C 0 0 dL_tells_126 rfl rfl ?_
                refine gr_aloadn C 1 1 dL_tells_127 rfl rfl ?_
                refine gr_iconst C 0 dL_tells_128 (by decide) ?_
                obtain ⟨g18, h⟩ := h
                refine gr_iald C g18 dL_tells_129 ?_
                refine gr_iconst C 0 dL_tells_130 (by decide) ?_
                obtain ⟨B19, hB19, hR19, h⟩ := h
                refine gr_callW C (y := yL_setTempo) (as := [.ref o, .int (rG t17.2 a1 (Int32.toNatClampNeg 0)), .int 0]) (by exact ⟨Nat.le_of_ble_eq_true rfl, Nat.le_of_ble_eq_true rfl⟩) B19 hB19 hR19 (c_L_setTempo l D K E0 b0 B19 o (rG t17.2 a1 (Int32.toNatClampNeg 0)) 0 t17 _ h) hk_L_setTempo rfl vs_L_314 kc_L_setTempo dL_tells_131 (Nat.le_of_ble_eq_true rfl) (fun r19 t19 h z1 z2 => ?_)
                have h := h z1 z2
                refine gr_ldc C (-1000001) v_i533 dL_tells_134 ?_
                refine gr_icmp_ne C 143 dL_tells_136 (by decide) (fun c136_7 => ?_) (fun c136_7 => ?_)
                · have h := h.2 c136_7
                  refine gr_sub [] rfl ?_
                  exact k143 t19 h
                · have h := h.1 c136_7
                  refine gr_iconst C 1 dL_tells_139 (by decide) ?_
                  refine gr_goto C 144 dL_tells_140 (by decide) ?_
                  refine gr_sub [] rfl ?_
                  exact k144 1 t19 h
          refine gr_if_lt C 99 dL_tells_85 (by decide) (fun c85_8 => ?_) (fun c85_8 => ?_)
          · have h := h.1 c85_8
            refine gr_sub [2, 3, 4] rfl ?_
            exact k99 t14 h
          · have h := h.2 c85_8
            refine gr_aloadn C 2 0 dL_tells_88 rfl rfl ?_
            refine gr_iload C 4 dL_tells_89 rfl ?_
            obtain ⟨B20, hB20, hR20, h⟩ := h
            refine gr_callW C (y := yL_tempo) (as := [.ref o, .int x5]) (by exact ⟨Nat.le_of_ble_eq_true rfl, Nat.le_of_ble_eq_true rfl⟩) B20 hB20 hR20 (c_L_tempo l D K E0 b0 B20 o x5 t14 _ h) hk_L_tempo rfl vs_L_195 kc_L_tempo dL_tells_91 (Nat.le_of_ble_eq_true rfl) (fun r20 t20 h z1 z2 => ?_)
            have h := h z1 z2
            refine gr_iload C 1 dL_tells_94 rfl ?_
            refine gr_icmp_ne C 143 dL_tells_96 (by decide) (fun c96_9 => ?_) (fun c96_9 => ?_)
            · have h := h.2 c96_9
              refine gr_sub [] rfl ?_
              exact k143 t20 h
            · have h := h.1 c96_9
              refine gr_sub [2, 3, 4] rfl ?_
              exact k99 t20 h
    refine gr_if_ne C 38 dL_tells_31 (by decide) (fun c31_2 => ?_) (fun c31_2 => ?_)
    · refine gr_bipush C 30 dL_tells_38 (by decide) ?_
      refine gr_iload C 6 dL_tells_40 rfl ?_
      refine gr_bipush C 7 dL_tells_42 (by decide) ?_
      refine gr_ishr C dL_tells_44 ?_
      refine gr_sipush C 211 dL_tells_45 (by decide) ?_
      refine gr_callP C (y := yL_low) (as := [.int (a4 >>> (7 &&& 31)), .int 211]) (by exact ⟨Nat.le_of_ble_eq_true rfl, Nat.le_of_ble_eq_true rfl⟩) (fun B1 => c_L_low l D K E0 b0 B1 (a4 >>> (7 &&& 31)) 211 t (g8 c31_2)) hk_L_low rfl vs_L_213 kc_L_low dL_tells_48 (Nat.le_of_ble_eq_true rfl) ?_
      refine gr_iadd C dL_tells_51 ?_
      refine gr_sub [2, 3, 0] rfl ?_
      exact k52 _ ((if_neg c31_2).symm)
    · refine gr_iconst C (-1) dL_tells_34 (by decide) ?_
      refine gr_goto C 52 dL_tells_35 (by decide) ?_
      refine gr_sub [2, 3, 0] rfl ?_
      exact k52 _ ((if_pos c31_2).symm)
