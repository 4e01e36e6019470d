/** Promises 1 to 6, and section 1: the tape, the language, and its errors. */
public final class LanguageTest {
    private static final Desks DESKS = new Desks("LanguageTest");

    public static void main(String[] args) {
        newDesk();
        feeding();
        trimming();
        teaching();
        teachingAnew();
        tokens();
        grammar();
        depth();
        mostTokens();
        names();
        limits();
        counting();
        DESKS.close();
    }

    private static void error(int error, String text) {
        DESKS.error(error, text);
    }

    private static void right(String text) {
        DESKS.right(text);
    }

    private static void newDesk() {
        Desk desk = new Desk();
        for (int what = 0; what <= 9; what++) {
            DESKS.due("count(" + what + ") of a new desk", desk.count(what), 0);
        }
        DESKS.due("errorAt of a new desk", desk.errorAt(), -1);
        DESKS.due("advise of a new desk", desk.advise(), 0);
        DESKS.due("fewest of a new desk", desk.fewest(), 0);
        DESKS.due("friction of a new desk", desk.friction(), 0.0);
        DESKS.due("keep of a new desk", desk.keep(), 0);
        long d = 641;
        for (int i = 0; i < 14; i++) {
            d *= 31;
        }
        DESKS.due("digest of a new desk", desk.digest(), d);
        DESKS.dueIndex("term(0, 0)", desk, () -> desk.term(0, 0));
        DESKS.dueIndex("clause(0, 0)", desk, () -> desk.clause(0, 0));
        DESKS.dueIndex("fact(0)", desk, () -> desk.fact(0));
        DESKS.due("teach of an empty tape", desk.teach() + " " + desk.errorAt(), "0 -1");
    }

    private static void feeding() {
        Desk desk = new Desk();
        // "fact abc = 12345;   " with the highest byte of each number first.
        DESKS.due("feed", desk.feed(0x66616374, 0x20616263, 0x203d2031, 0x32333435, 0x3b202020), 20);
        DESKS.due("count(4)", desk.count(4), 20);
        DESKS.due("feed again", desk.feed(0x20202020, 0x20202020, 0x20202020, 0x20202020, 0x20202020), 40);
        DESKS.due("teach", desk.teach(), 0);
        DESKS.due("fact(0)", desk.fact(0), 12345);
        DESKS.due("the tape behind teach", desk.count(4), 0);

        for (int i = 1; i <= 150; i++) {
            DESKS.due("feed " + i, desk.feed(0, 0, 0, 0, 0), 20 * i);
        }
        DESKS.dueState("feed of a full tape", desk, () -> desk.feed(0, 0, 0, 0, 0));
        desk.trim(2981);
        DESKS.dueState("feed of 2981", desk, () -> desk.feed(0, 0, 0, 0, 0));
        desk.trim(2980);
        DESKS.due("feed of 2980", desk.feed(-1, -1, -1, -1, -1), 3000);
        DESKS.due("teach", desk.teach() + " at " + desk.errorAt(), "1 at 0");
        DESKS.due("fact(0) behind an error", desk.fact(0), 12345);
    }

    private static void trimming() {
        Desk desk = new Desk();
        DESKS.dueArgument("trim(1) of nothing", desk, () -> desk.trim(1));
        DESKS.due("trim(0) of nothing", desk.trim(0), 0);
        Desks.tell(desk, "clause a{}fact");
        DESKS.due("count(4)", desk.count(4), 14);
        DESKS.dueArgument("trim(-1)", desk, () -> desk.trim(-1));
        DESKS.dueArgument("trim(15)", desk, () -> desk.trim(15));
        DESKS.due("trim(14)", desk.trim(14), 14);
        DESKS.due("trim(10)", desk.trim(10), 10);
        Desks.tell(desk, "clause b{}");
        DESKS.due("count(4)", desk.count(4), 20);
        DESKS.due("teach", desk.teach(), 0);
        DESKS.due("clauses", desk.count(1), 2);
    }

    private static void teaching() {
        Desk desk = Desks.taught("fact f = 7; clause a { show f; } clause b optional 5 1 { 'x' }");
        desk.setFact(0, 8);
        desk.choose(1, 1);
        desk.keep();
        String before = state(desk);
        Desks.tell(desk, "clause c { show g; }");
        DESKS.due("teach", desk.teach() + " at " + desk.errorAt(), "4 at 16");
        DESKS.due("all behind an error", state(desk), before);
        Desks.tell(desk, "clause c {");
        DESKS.due("teach", desk.teach() + " at " + desk.errorAt(), "1 at 10");
        DESKS.due("all behind an error", state(desk), before);
        Desks.tell(desk, "fact f = 7; clause a { show f; } clause b optional 5 1 { 'x' }");
        DESKS.due("teach", desk.teach() + " at " + desk.errorAt(), "0 at -1");
        DESKS.due("all anew", state(desk), "7 -1 -1 <1. 7\n> 0 1 0 0 0");
        DESKS.due("nothing is kept", desk.count(9), 0);
    }

    /** Nothing of a former library is left in a later one. */
    private static void teachingAnew() {
        Desk desk = new Desk();
        String rich = "fact f=1;fact g=2;clause a optional 9 1 needs b bars c after d{def t use u ref b show f;}"
                + "clause b optional 8 1{use v}clause c needs a bars b after a{'x'}clause d{}clause e{def w}";
        String plain = "clause a{}clause b{ref a}clause c when 1<1{}";
        for (int round = 0; round < 12; round++) {
            Desks.tell(desk, rich);
            DESKS.due("teach of a rich one", desk.teach(), 0);
            DESKS.due("choices", desk.clause(0, 0) + " " + desk.clause(1, 0) + " " + desk.clause(2, 0), "-1 -1 -1");
            DESKS.due("digest of a rich one", desk.digest(), Desks.taught(rich).digest());
            desk.setFact(0, 50);
            desk.choose(0, 1);
            desk.choose(1, 0);
            desk.choose(2, 0);
            desk.keep();
            if (round % 3 == 0) {
                for (int i = 0; i < 3; i++) {
                    Desks.tell(desk, plain);
                    DESKS.due("teach of a plain one", desk.teach(), 0);
                    DESKS.due("digest of a plain one", desk.digest(), Desks.taught(plain).digest());
                    DESKS.due("advise of a plain one", desk.advise(), 0);
                }
            }
        }
    }

    private static String state(Desk desk) {
        StringBuilder told = new StringBuilder();
        told.append(desk.fact(0)).append(' ').append(desk.clause(0, 0)).append(' ').append(desk.clause(1, 0));
        told.append(" <").append(Desks.written(desk)).append("> ").append(desk.count(9));
        for (int what = 0; what <= 3; what++) {
            told.append(' ').append(desk.changes(what));
        }
        return told.toString();
    }

    private static void tokens() {
        right("");
        right(" \n \n");
        right("fact a0123456z9=00000;clause b{show a0123456z9;}");
        error(1, "fact ^a0123456z9a=1;");
        error(1, "fact ^A=1;");
        error(1, "fact a^B=1;");
        error(1, "fact a=^123456;");
        error(1, "fact a=1^a;");
        error(1, "^1");
        right("fact a=99999;");
        right("clause a optional 5 4needs b{}clause b{}");
        right("clause a{'0123456789012345678901234567890123456789'}");
        error(1, "clause a{^'01234567890123456789012345678901234567890'}");
        error(1, "clause a{^''}");
        error(1, "clause a{^'}");
        error(1, "clause a{'x'^'}");
        error(1, "clause a{^'x\n'}");
        error(1, "clause a{^'\u007f'}");
        error(1, "clause a{^'\u001f'}");
        error(1, "clause a{^'\u00e9'}");
        right("clause a{' !~\"#{}A'}");
        error(1, "^\tclause a{}");
        error(1, "clause a{}^\r");
        error(1, "clause a{}^\u00ff");
        error(1, "clause a{}^\u0000");
        error(1, "clause a{}^_");
        right("clause a when 1<=1{}clause b when 1>=1{}");
        error(1, "clause a when 1< ^=1{}");
        error(1, "clause a when 1=^<1{}");
        error(1, "clause a when 1<=^=1{}");
        error(1, "^clausea{}");
        right("clause points1{}clause pointsa{}");
        for (String keyword : Oracle.KEYWORDS) {
            error(1, "clause ^" + keyword + "{}");
            error(1, "fact ^" + keyword + "=1;");
            error(1, "clause a{use ^" + keyword + "}");
        }
    }

    private static void grammar() {
        error(1, "^a");
        error(1, "fact a^;");
        error(1, "fact a=^-1;");
        error(1, "fact a=^a;");
        error(1, "fact a=1^");
        error(1, "fact a=1;^;");
        error(1, "clause^");
        error(1, "clause a^");
        error(1, "clause a  ^");
        error(1, "clause a ^;{}");
        error(1, "clause a when^{}");
        error(1, "clause a when 1^{}");
        error(1, "clause a when (1^<1){}");
        error(1, "clause a when [1^]<1{}");
        right("clause a when [1<1]{}");
        right("clause a when not not 1<1 and [[1<1]] or not [1=1 or 1=1]{}");
        error(1, "clause a when 1<1^<1{}");
        error(1, "clause a when 1<1 and ^{}");
        error(1, "clause a when 1<1 ^when 1<1{}");
        error(1, "clause a optional^{}");
        error(1, "clause a optional 1^{}");
        error(1, "clause a optional 1 ^-1{}");
        error(1, "clause a optional 1 1 ^1{}");
        error(1, "clause a optional 1 1 ^optional 1 1{}");
        error(1, "clause a optional 1 1 ^when 1<1{}");
        error(1, "clause a needs^{}");
        error(1, "clause a needs b ^optional 1 1{}");
        right("clause a needs b bars b after b needs b{}clause b{}");
        error(1, "clause a needs b^,b{}");
        error(1, "clause a{^b}");
        error(1, "clause a{^5}");
        error(1, "clause a{ref^}");
        error(1, "clause a{ref ^'a'}");
        error(1, "clause a{def^}");
        error(1, "clause a{use ^5}");
        error(1, "clause a{'x'^;}");
        error(1, "clause a{show 1^}");
        error(1, "clause a{show^;}");
        error(1, "clause a{show 1 ^1;}");
        error(1, "clause a{show 1^<1;}");
        error(1, "clause a{show 1+^;}");
        error(1, "clause a{show 1*^*1;}");
        error(1, "clause a{show ^+1;}");
        right("clause a{show 1--1;show 1*-1;show---1;}");
        error(1, "clause a{show(1^;}");
        error(1, "clause a{show (^);}");
        error(1, "clause a{show min ^1;}");
        error(1, "clause a{show min(1^);}");
        error(1, "clause a{show max(1,1^,1);}");
        error(1, "clause a{show max(1^;1);}");
        right("clause a{show max(min(1,2),1+1)*min(1,1);}");
        error(1, "clause a{if^{}}");
        error(1, "clause a{if 1<1^;}");
        right("clause a{if 1<1{}else{}if 1<1{}}");
        error(1, "clause a{if 1<1{}else^;}");
        error(1, "clause a{if 1<1{}else{}^else{}}");
        error(1, "clause a{if 1<1{}else ^if 1<1{}}");
        error(1, "clause a{^else{}}");
        error(1, "clause a{points^;}");
        error(1, "clause a{points{^'x'}}");
        error(1, "clause a{points{point^}}");
        error(1, "clause a{^point{}}");
        right("clause a{points{}points{point{}point{points{point{}}}}}");
        error(1, "clause a{}^}");
        error(1, "clause a{points{point{}}^");
        // What could follow elsewhere does not follow here.
        error(1, "clause a when 1<1 ^clause b{}");
        error(1, "clause a when ^clause b{}");
        error(1, "clause a optional 1 ^clause b{}");
        error(1, "clause a optional 1 1 needs ^clause b{}");
        error(1, "clause a needs b ^fact c=1;clause b{}");
        error(1, "clause a{show ^'x'}");
        error(1, "clause a{show 1 ^'x'}");
        error(1, "clause a{if ^'x'}");
        error(1, "clause a{if 1<1 ^'x'}");
        error(1, "clause a{if 1<1{}else ^'x'}");
        error(1, "clause a{def ^ref b}clause b{}");
        error(1, "clause a{points ^'x'}");
        error(1, "clause a{points{point ^point{}}}");
        error(1, "clause a{points{} ^point{}}");
        error(1, "clause a when [1<1 ^{}");
        error(1, "clause a when not ^{}");
        error(1, "clause a{show (1^;);}");
        error(1, "clause a{show -^;}");
        error(1, "clause a{show min(^,1);}");
        error(1, "clause a{show min(1,^);}");
        // An error 1 comes ahead of all others, wherever it stands.
        error(1, "fact a=1;fact a=1;clause b needs c{show d;}^x");
    }

    private static void depth() {
        String open = "clause a{points{point{points{point{points{point{";
        right(open + "points{}" + "}}}}}}}");
        error(1, open + "points{point^{}}" + "}}}}}}}");
        error(1, open + "if 1<1{if 1<1^{}}" + "}}}}}}}");
        right(open + "if 1<1{show 1;}" + "}}}}}}}");
        error(1, open + "if 1<1{show ^-1;}" + "}}}}}}}");
        error(1, open + "if 1<1{show ^(1);}" + "}}}}}}}");
        error(1, open + "if 1<1{show min^(1,1);}" + "}}}}}}}");
        right(open + "show -1;show (1)-(1)*min(1,1)--1;" + "}}}}}}}");
        error(1, open + "show -^-1;" + "}}}}}}}");
        error(1, open + "show -^(1);" + "}}}}}}}");
        error(1, open + "show 1-(1-^-1);" + "}}}}}}}");
        right(open + "if not 1<1{}if [1<1]{}" + "}}}}}}}");
        error(1, open + "if not ^not 1<1{}" + "}}}}}}}");
        error(1, open + "if not ^[1<1]{}" + "}}}}}}}");
        error(1, open + "if [^[1<1]]{}" + "}}}}}}}");
        error(1, open + "if not 1<^-1{}" + "}}}}}}}");
        error(1, open + "if not 1<^(1){}" + "}}}}}}}");
        right("clause a when not not not not not not not not 1<1{}");
        error(1, "clause a when not not not not not not not not ^not 1<1{}");
        right("clause a when not not not not not not not [1<1] and -(-(-(-1)))<1{}");
        right("clause a when --------1<1{}");
        error(1, "clause a when --------^-1<1{}");
        right("clause a{show -------1;show ((((((1)))))-1)-1-1-1-1-1-1-1-1-1;}");
        error(1, "clause a{show -------^-1;}");
        error(1, "clause a when ((((((((^(1)))))))))<1{}");
        error(1, "clause a when [[[[[[[[^[1<1]]]]]]]]]{}");
        error(1, "clause a when max(max(max(max(max(max(max(max(max^(1,1),1),1),1),1),1),1),1),1)<1{}");
        right("clause a when max(max(max(max(max(max(max(max(1,1),1),1),1),1),1),1),1)<1{}");
        error(1, "clause a when min(1,min(1,min(1,min(1,min(1,min(1,min(1,min(1,^-1))))))))<1{}");
        error(1, "clause a when min(1,min(1,min(1,min(1,min(1,min(1,min(1,min(^-1,1))))))))<1{}");
        right("clause a when min(1,min(1,min(1,min(1,min(1,min(1,min(1,min(1,1))))))))<1{}");
    }

    private static void mostTokens() {
        // 7 tokens, and 2 for each use.
        String open = "clause b{}clause a{" + "use t ".repeat(295);
        right(open + "'x''x'}");
        right(open + "'x''x'}  \n ");
        error(1, open + "'x''x'  ^");
        error(1, open + "'x''x''x'^}");
        error(1, open + "'x''x''x'^'x'}");
        error(1, open + "'x''x''x' ^\u0001");
        error(1, open + "'x''x''x'  ^");
        error(1, open + "'x''x'}^fact");
        error(1, open + "'x''x'} ^clause c{}");
        error(1, open + "'x'^1'x'}");
        right(open + "use t }");
        error(1, open + "use t use^}");
    }

    private static void names() {
        error(2, "fact a=1;fact b=1;fact ^a=1;");
        error(2, "clause a{}clause b{}clause ^a{}");
        right("fact a=1;clause a{use a show a;}");
        error(2, "clause a{}clause b{}clause ^b needs c{}");
        right("clause a needs b bars b after b{ref b}clause b needs a{ref a}");
        error(3, "fact b=1;clause a needs ^b{}");
        error(3, "clause a bars ^b{def b}");
        error(3, "clause a after ^b{}");
        error(3, "clause a{ref ^b}");
        error(3, "clause b{}clause a{if 1<1{}else{ref ^c}}");
        error(4, "clause a when ^b<1{}");
        error(4, "clause a{show ^b;}fact b=1;");
        error(4, "fact c=1;clause a{show c+min(1,c*(^a));}");
        error(4, "fact c=1;clause a{def t if not c<-^t{}}");
        error(4, "fact c=1;fact cc=1;clause a when c=cc and c=^ccc{}");
        error(5, "clause a needs ^a{}");
        error(5, "clause b{}clause a bars b bars ^a{}");
        error(5, "clause a after ^a{}");
        error(5, "clause a{points{point{ref ^a}}}");
        // From left to right, the first one.
        error(4, "clause a when ^x<1 needs y{}clause a{}");
        error(3, "clause a needs ^y needs a{show x;}");
        error(5, "clause a needs ^a needs y{}");
        error(2, "fact x=1;clause a{}clause ^a when y<1{}");
        error(4, "clause a{show ^x;}clause a{}fact x=1;");
    }

    private static void limits() {
        String facts = Desks.many("fact f#=#;", 0, 10);
        right(facts + "clause a{}");
        error(6, facts + "fact ^x=1;");
        error(2, facts + "fact ^f9=1;");
        error(6, facts + "fact ^x=1;fact f1=1;");
        String clauses = Desks.many("clause c#{}", 0, 16);
        right(clauses);
        error(6, clauses + "clause ^x{}");
        error(6, clauses + "clause ^x needs y{}");
        error(2, clauses + "clause ^c0{}");
        error(2, clauses + "clause ^c15 optional 1 1{}");
        error(6, "clause a needs x{ref x}" + Desks.many("clause c#{}", 0, 15) + "clause ^x{}");
        error(6, "clause a needs x{ref x}" + Desks.many("clause c#{}", 0, 15) + "clause ^c15{}" + Desks.many("clause d#{}", 0, 60) + "clause x{}");
        String optional = Desks.many("clause c# optional 1 1{}", 0, 8);
        right(optional + "clause a{}");
        error(6, optional + "clause ^x optional 1 1{}");
        error(6, optional + "clause a{}clause ^x when q<1 optional 1 1 needs z{}");
        error(2, optional + "clause ^c3 optional 1 1{}");
        error(2, optional + "clause ^c3{}");
        String terms = "clause a{" + Desks.many("use t# ", 0, 12) + Desks.many("def t# ", 12, 12);
        right(terms + "use t0 def t0 use t23 def t5}");
        error(6, terms + "use t0 use ^x}");
        error(6, terms + "def ^x}");
        error(6, terms + "if 1<1{}else{def ^x def x}}");
        error(3, terms + "ref ^q def x}");
    }

    private static void counting() {
        Desk desk = Desks.taught("fact f=1;fact g=2;clause a{use t def u use t}clause b optional 7 9{}clause c when f<1{def v}"
                + "clause d optional 30 4 {'d'}");
        desk.choose(1, 1);
        desk.choose(3, 1);
        desk.keep();
        desk.choose(0, 0);
        Desks.tell(desk, "fact");
        int[] due = {2, 4, 3, 2, 4, 2, 0, 9, 24, 3};
        for (int what = 0; what <= 9; what++) {
            DESKS.due("count(" + what + ")", desk.count(what), due[what]);
        }
        DESKS.dueIndex("count(-1)", desk, () -> desk.count(-1));
        DESKS.dueIndex("count(10)", desk, () -> desk.count(10));
        DESKS.dueIndex("count(least)", desk, () -> desk.count(Integer.MIN_VALUE));
    }
}
