/** Section 1 of the document: for each sentence that names an edge a test of its own, on each side of the edge. */
public final class LanguageEdgesTest {
    private static final Desks EDGES = new Desks("LanguageEdgesTest");
    private static final String FORTY = "abcdefghij".repeat(4);
    /** Behind it the depth is 7 and 8: six blocks of points, and one more. */
    private static final String AT_DEPTH_6 = "clause a{points{point{points{point{points{";
    private static final String AT_DEPTH_7 = AT_DEPTH_6 + "point{";
    private static final String AT_DEPTH_8 = AT_DEPTH_7 + "if 1<1{";
    private static final String FROM_DEPTH_7 = "}}}}}}}";
    private static final String FROM_DEPTH_8 = "}" + FROM_DEPTH_7;
    /** Sorts of tokens that stand in the same places; x, 7 and 'y' are a name, a number and a string. */
    private static final String VALUE = " x 7 - ( min max ";
    private static final String SINGLE = VALUE + "not [ ";
    private static final String COMPARISON = " < > = <= >= ";
    private static final String SIGN = " + - * / ";
    private static final String LINK = " needs bars after { ";
    private static final String ITEM = " 'y' ref def use show if points } ";

    public static void main(String[] args) {
        tape();
        tokens();
        grammar();
        depth();
        errorOne();
        errorsOfNames();
        EDGES.close();
    }

    private static void tape() {
        EDGES.sentence("The tape is a row of at most 3000 bytes", LanguageEdgesTest::mostTape);
        EDGES.sentence("at first empty, which feed and trim fill", LanguageEdgesTest::firstTape);
        EDGES.sentence("teach reads it as a library, and it is empty behind it", LanguageEdgesTest::emptyTape);
        EDGES.sentence("Positions are counted from 0, in bytes.", LanguageEdgesTest::positions);
    }

    private static void tokens() {
        EDGES.sentence("Blanks (32) and line ends (10) can stand between tokens, at the beginning and at the end",
                LanguageEdgesTest::blanks);
        EDGES.sentence("and have to stand between two tokens that would otherwise be read as one", LanguageEdgesTest::blanksNeeded);
        EDGES.sentence("The longest possible token is always read.", LanguageEdgesTest::longestToken);
        EDGES.sentence("A word: a letter a to z, followed by letters a to z and digits, at most 10 bytes.", LanguageEdgesTest::words);
        EDGES.sentence("A number: 1 to 5 digits.", LanguageEdgesTest::numbers);
        EDGES.sentence("A string: ' and ', with 1 to 40 bytes between, 32 to 126 each, but none of them '.", LanguageEdgesTest::strings);
        EDGES.sentence("Symbols: { } ( ) [ ] ; , + - * / < > = <= >=", LanguageEdgesTest::symbols);
        EDGES.sentence("All other words are names.", LanguageEdgesTest::keywords);
    }

    private static void grammar() {
        EDGES.sentence("{ x } x any number of times, also none", LanguageEdgesTest::anyNumberOfTimes);
        EDGES.sentence("[ x ] outside of quotation marks means x or nothing", LanguageEdgesTest::orNothing);
    }

    private static void depth() {
        EDGES.sentence("It is 0 at the beginning", LanguageEdgesTest::depthAtTheBeginning);
        EDGES.sentence("1 greater between a { and its }", LanguageEdgesTest::depthOfBlocks);
        EDGES.sentence("a ( and its )", LanguageEdgesTest::depthOfSums);
        EDGES.sentence("a [ and its ]", LanguageEdgesTest::depthOfTests);
        EDGES.sentence("behind a - in front (of a value) for what it turns", LanguageEdgesTest::depthOfTurning);
        EDGES.sentence("behind a not for what it turns", LanguageEdgesTest::depthOfNot);
        EDGES.sentence("It may be at most 8.", LanguageEdgesTest::mostDepth);
    }

    private static void errorOne() {
        EDGES.sentence("Error 1: the first token with which the tokens so far are not the beginning of a library.",
                LanguageEdgesTest::firstWrongToken);
        EDGES.sentence("a byte with which no token begins", LanguageEdgesTest::wrongBytes);
        EDGES.sentence("a word, number or string that is too long", LanguageEdgesTest::tooLong);
        EDGES.sentence("an empty string", LanguageEdgesTest::emptyStrings);
        EDGES.sentence("a string that is not ended (at its first ')", LanguageEdgesTest::stringsNotEnded);
        EDGES.sentence("the end of the tape (at its length)", LanguageEdgesTest::endOfTape);
        EDGES.sentence("the {, (, [, - or not behind which the depth would be 9", LanguageEdgesTest::tooDeep);
        EDGES.sentence("the token that would be the 601st (the end of the tape not counted)", LanguageEdgesTest::mostTokens);
        EDGES.sentence("The position is that of its first byte.", LanguageEdgesTest::firstByte);
    }

    private static void errorsOfNames() {
        EDGES.sentence("Only if there is no error 1, names are looked at", LanguageEdgesTest::errorOneFirst);
        EDGES.sentence("from left to right, and the first error is told, at the name", LanguageEdgesTest::leftToRight);
        EDGES.sentence("of errors at one name the one with the smallest number", LanguageEdgesTest::smallestError);
        EDGES.sentence("Error 2: the name of a fact that was told ahead, or of a clause that was.", LanguageEdgesTest::toldAhead);
        EDGES.sentence("Error 3: a name behind needs, bars, after or ref that is that of no clause of the library (ahead or behind).",
                LanguageEdgesTest::noClause);
        EDGES.sentence("Error 4: a name in a value that is that of no fact told ahead of it.", LanguageEdgesTest::noFact);
        EDGES.sentence("Error 5: the name of the clause itself behind needs, bars, after or ref.", LanguageEdgesTest::itself);
        EDGES.sentence("Error 6: the 11th fact", LanguageEdgesTest::mostFacts);
        EDGES.sentence("the 17th clause", LanguageEdgesTest::mostClauses);
        EDGES.sentence("the 9th optional clause (at its name)", LanguageEdgesTest::mostOptional);
        EDGES.sentence("the first name of the 25th term (at a def or use)", LanguageEdgesTest::mostTerms);
        EDGES.sentence("Facts, clauses and terms have names of their own", LanguageEdgesTest::namesOfTheirOwn);
        EDGES.sentence("they are numbered from 0 in the order in which they stand in the text, terms by their first def or use",
                LanguageEdgesTest::numbering);
    }

    // ---- the tape

    private static void mostTape() {
        String full = "clause a{" + ("'" + FORTY + "'").repeat(71) + " ".repeat(8);
        EDGES.due("bytes of the text", full.length(), 2999);
        EDGES.error(1, full + "^");
        EDGES.right(full + "}");
        EDGES.error(1, full + " ^");
        EDGES.error(1, full + "^'");
        Desk desk = new Desk();
        Desks.tell(desk, full + "}");
        EDGES.due("bytes of a full tape", desk.count(4), 3000);
        EDGES.dueState("feed of a full tape", desk, () -> desk.feed(0x20202020, 0x20202020, 0x20202020, 0x20202020, 0x20202020));
        EDGES.due("teach of a full tape", desk.teach(), 0);
        EDGES.due("its clauses", desk.count(1), 1);
        EDGES.due("bytes of its contract", desk.count(7), 71 * 40 + 4);
    }

    private static void firstTape() {
        Desk desk = new Desk();
        EDGES.due("bytes of the tape", desk.count(4), 0);
        EDGES.dueArgument("trim(1)", desk, () -> desk.trim(1));
        EDGES.due("teach of an empty tape", desk.teach() + " at " + desk.errorAt(), "0 at -1");
        EDGES.due("feed", desk.feed(0x66616374, 0x20613d31, 0x3b202020, 0x66616374, 0x20623d32), 20);
        EDGES.due("trim", desk.trim(10), 10);
        EDGES.due("feed", desk.feed(0x66616374, 0x20633d33, 0x3b202020, 0x20202020, 0x20202020), 30);
        EDGES.due("teach", desk.teach() + " at " + desk.errorAt(), "0 at -1");
        EDGES.due("facts", desk.count(0), 2);
        EDGES.due("fact(0)", desk.fact(0), 1);
        EDGES.due("fact(1)", desk.fact(1), 3);
    }

    private static void emptyTape() {
        Desk desk = new Desk();
        Desks.tell(desk, "clause a{}");
        EDGES.due("teach", desk.teach(), 0);
        EDGES.due("the tape behind a right library", desk.count(4), 0);
        Desks.tell(desk, "clause b{");
        EDGES.due("teach", desk.teach(), 1);
        EDGES.due("the tape behind an error 1", desk.count(4), 0);
        Desks.tell(desk, "clause b{ref c}");
        EDGES.due("teach", desk.teach(), 3);
        EDGES.due("the tape behind an error of a name", desk.count(4), 0);
        Desks.tell(desk, "clause b{}clause c{}");
        EDGES.due("teach", desk.teach(), 0);
        EDGES.due("clauses", desk.count(1), 2);
        EDGES.due("teach of the empty tape", desk.teach(), 0);
        EDGES.due("clauses", desk.count(1), 0);
    }

    private static void positions() {
        EDGES.error(1, "^!");
        EDGES.error(1, " ^!");
        EDGES.error(1, "\n\n ^!");
        EDGES.error(1, "clause a{'~~~~~~'}\n\n  ^!");
        EDGES.error(1, " ".repeat(2999) + "^!");
        EDGES.error(1, "clause a{^'\u00e4\u00f6'}");
        EDGES.error(4, " \nclause a{'#'show ^f;}");
    }

    // ---- tokens

    private static void blanks() {
        EDGES.right(" ");
        EDGES.right("\n");
        EDGES.right(" \n  \n clause\na \n{\n\n}  \n ");
        EDGES.right("clause a when 1 <= 2 optional 3 4 needs b { show ( 1 ) ; ref b points { point { } } } clause b { }");
        EDGES.right("\nclause\na\nwhen\n1\n<=\n2\noptional\n3\n4\nneeds\nb\n{\nshow\n(\n1\n)\n;\n}\nclause\nb\n{\n}\n");
        for (int b = 0; b < 256; b++) {
            String sign = "" + (char) b;
            if (b == 32 || b == 10) {
                EDGES.right(sign + "clause a" + sign + "{" + sign + "}" + sign);
            } else {
                EDGES.dueError(sign + "clause a{}", 1, 0);
                EDGES.dueError("clause a{}" + sign, 1, 10);
                // Ahead of a string, so that no longer token comes of letters and digits.
                EDGES.dueError("clause a{'x'" + sign + "'y'}", 1, b == '}' ? 13 : 12);
            }
        }
    }

    private static void blanksNeeded() {
        EDGES.error(1, "^clausea{}");
        EDGES.right("clause a{}");
        EDGES.error(1, "clause a when 1<1optional 12^{}");
        EDGES.right("clause a when 1<1optional 1 2{}");
        EDGES.error(1, "clause a ^needsb{}clause b{}");
        EDGES.right("clause a needs b{}clause b{}");
        EDGES.error(1, "clause a when 1< ^=1{}");
        EDGES.error(1, "clause a when 1>\n^=1{}");
        EDGES.right("clause a when 1<=1{}");
        EDGES.error(1, "clause a{show 1 ^2;}");
        EDGES.error(1, "clause a{^re f b}");
        // No blank has to stand between others.
        EDGES.right("fact f=1;fact g=2;clause a when[1<f]and 2>g optional 3 4needs b{'x''y'ref b'z'show-f;use t'w'}clause b{}");
    }

    private static void longestToken() {
        EDGES.dueOrder("clause a when 1<=1{}clause b when 1>=1{}", "ab");
        EDGES.error(1, "clause a when 1<^<1{}");
        EDGES.error(1, "clause a when 1=^>1{}");
        EDGES.error(1, "clause a when 1<=^=1{}");
        EDGES.error(1, "clause a when 1>=^>1{}");
        EDGES.error(4, "clause a when ^not1<1{}");
        EDGES.error(4, "clause a when ^minf<1{}");
        EDGES.error(1, "clause a when 1<1 ^or1<1{}");
        EDGES.right("clause a when 1<1or 1<1{}");
        EDGES.error(1, "clause ^points{}");
        EDGES.right("clause points1{}clause pointss{}clause poin{}");
        EDGES.due("a number of five digits", Desks.taught("fact a=12345;").fact(0), 12345);
        EDGES.error(1, "fact a=12345^a;");
        EDGES.error(3, "clause a1{}clause a12{}clause b{ref ^a}");
    }

    private static void words() {
        EDGES.right("clause a{use z}clause z{def a}");
        EDGES.right("clause abcdefghij{}clause a123456789{}clause z0a9z0a9z0{}");
        EDGES.error(1, "clause ^abcdefghijk{}");
        EDGES.error(1, "clause ^a1234567890{}");
        EDGES.error(1, "clause a{use ^zzzzzzzzzzz}");
        for (char wrong : "`@AZ/:_.\u00e4\u0080".toCharArray()) {
            EDGES.dueError("clause " + wrong + "{}", 1, 7);
            EDGES.dueError("clause a" + wrong + "{}", 1, 8);
        }
        EDGES.error(1, "clause ^0a{}");
        EDGES.error(1, "clause ^9{}");
        EDGES.error(1, "clause ^{{}");
        EDGES.due("names with another tenth byte", Desks.taught("clause abcdefghi1{}clause abcdefghi2{}").count(1), 2);
        EDGES.due("names that begin alike", Desks.taught("clause a{}clause aa{}clause aaa{}clause a0{}").count(1), 4);
        EDGES.error(2, "clause abcdefghij{}clause ^abcdefghij{}");
    }

    private static void numbers() {
        EDGES.error(1, "fact f=^;");
        EDGES.due("one digit", Desks.taught("fact f=0;").fact(0), 0);
        EDGES.due("one digit", Desks.taught("fact f=9;").fact(0), 9);
        EDGES.due("five digits", Desks.taught("fact f=00000;").fact(0), 0);
        EDGES.due("five digits", Desks.taught("fact f=00009;").fact(0), 9);
        EDGES.due("five digits", Desks.taught("fact f=99999;").fact(0), 99999);
        EDGES.error(1, "fact f=^100000;");
        EDGES.error(1, "fact f=^000001;");
        EDGES.error(1, "clause a optional ^123456 1{}");
        EDGES.error(1, "clause a optional 12345 ^123456{}");
        EDGES.right("clause a optional 12345 12345{}");
        EDGES.error(1, "clause a{show ^123456;}");
        EDGES.dueWritten("clause a{show 12345;}", "1. 12345\n");
    }

    private static void strings() {
        EDGES.error(1, "clause a{^''}");
        EDGES.dueWritten("clause a{'x'}", "1. x\n");
        EDGES.dueWritten("clause a{'" + FORTY + "'}", "1. " + FORTY + "\n");
        EDGES.error(1, "clause a{^'" + FORTY + "x'}");
        for (int b = 0; b < 256; b++) {
            String sign = "" + (char) b;
            if (b == '\'') {
                EDGES.dueError("clause a{'" + sign + "'}", 1, 9);
                EDGES.dueError("clause a{'x" + sign + "y'}", 1, 12);
            } else if (b >= 32 && b <= 126) {
                EDGES.dueWritten("clause a{'" + sign + "'}", "1. " + sign + "\n");
            } else {
                EDGES.dueError("clause a{'" + sign + "'}", 1, 9);
                EDGES.dueError("clause a{'" + FORTY.substring(1) + sign + "'}", 1, 9);
            }
        }
    }

    private static void symbols() {
        EDGES.right("fact f=1;clause a when[1<2]and 3>2 and 1=1 and 1<=2 and 2>=1{show(1+2-3*4/5)*min(6,7);}");
        EDGES.error(1, "fact f^:=1;");
        EDGES.error(1, "clause a when 1^!=1{}");
        EDGES.error(1, "clause a{show 1^%2;}");
        EDGES.error(1, "clause a{show 1^&2;}");
        EDGES.error(1, "clause a^<{}");
        EDGES.error(1, "fact f=1^:");
        EDGES.error(1, "fact f=1^.");
        EDGES.error(1, "clause a{show 1^\\2;}");
        EDGES.error(1, "clause a ^\"{}");
    }

    private static void keywords() {
        EDGES.due("keywords", Oracle.KEYWORDS.size(), 20);
        for (String keyword : Oracle.KEYWORDS) {
            EDGES.error(1, "fact ^" + keyword + "=1;");
            EDGES.error(1, "clause ^" + keyword + "{}");
            EDGES.error(1, "clause a needs ^" + keyword + "{}");
            EDGES.error(1, "clause a{ref ^" + keyword + "}");
            EDGES.error(1, "clause a{def ^" + keyword + "}");
            EDGES.error(1, "clause a{use ^" + keyword + "}");
            String shorter = keyword.substring(0, keyword.length() - 1);
            for (String name : new String[] {keyword + "x", keyword + "1", "x" + keyword, Oracle.KEYWORDS.contains(shorter) ? "x" : shorter}) {
                EDGES.right("fact " + name + "=1;clause " + name + "{use " + name + " show " + name + ";}");
            }
        }
    }

    // ---- grammar

    private static void anyNumberOfTimes() {
        EDGES.right("");
        EDGES.right("fact f=1;");
        EDGES.right("clause a{}");
        EDGES.right("clause a{}fact f=1;clause b{}fact g=1;fact h=1;clause c{}clause d{}");
        EDGES.error(1, "clause a{}fact f=1;clause b{}fact g=1;fact h=1;clause c{}clause d{}^x");
        EDGES.right("clause a{}clause b needs a{}clause c needs a bars a after a after b needs b bars b{}");
        EDGES.right("clause a{'x'}clause b{'x''y''z'}");
        EDGES.right("clause a{points{}points{point{}}points{point{}point{}point{}}}");
        EDGES.right("clause a when 1<1{}clause b when 1<1 or 1<1 or 1<1{}clause c when 1<1 and 1<1 and 1<1{}");
        EDGES.right("clause a{show 1;show 1+1;show 1-1+1-1;show 1*1;show 1/1*1/1;}");
        String head = "clause a" + " needs b".repeat(296);
        EDGES.right(head + "{}clause b{}");
        EDGES.error(1, head + " needs b{}clause b^{}");
        EDGES.right("clause a{" + "points{}".repeat(198) + "'x''x'}");
        EDGES.right("clause a{points{" + "point{}".repeat(197) + "}'x'}");
        EDGES.right("clause a{show 1" + "+1".repeat(296) + ";}");
        EDGES.right("clause a when 1<1" + " or 1<1".repeat(147) + "{'x''x'}");
    }

    private static void orNothing() {
        EDGES.right("clause a{}");
        EDGES.right("clause a when 1<1{}");
        EDGES.error(1, "clause a when 1<1 ^when 1<1{}");
        EDGES.right("clause a optional 1 1{}");
        EDGES.error(1, "clause a optional 1 1 ^optional 1 1{}");
        EDGES.right("clause a when 1<1 optional 1 1{}");
        EDGES.error(1, "clause a optional 1 1 ^when 1<1{}");
        EDGES.right("clause a{if 1<1{}}");
        EDGES.right("clause a{if 1<1{}else{}}");
        EDGES.error(1, "clause a{if 1<1{}else{}^else{}}");
    }

    // ---- depth

    private static void depthAtTheBeginning() {
        EDGES.right("clause a when 1<--------1{}");
        EDGES.error(1, "clause a when 1<--------^-1{}");
        // It is 0 again behind a clause, whatever was in it.
        EDGES.right("clause a when 1<--------1{}clause b when 1<--------1{}");
        EDGES.error(1, "clause a{}clause b when 1<--------^-1{}");
    }

    private static void depthOfBlocks() {
        EDGES.right("clause a{show-------1;}");
        EDGES.error(1, "clause a{show-------^-1;}");
        EDGES.right("clause a{if 1<-------1{show------1;}else{show------1;}show-------1;}");
        EDGES.error(1, "clause a{if 1<-------^-1{}}");
        EDGES.error(1, "clause a{if 1<1{show------^-1;}}");
        EDGES.error(1, "clause a{if 1<1{}else{show------^-1;}}");
        EDGES.error(1, "clause a{if 1<1{}show-------^-1;}");
        EDGES.right("clause a{points{point{show-----1;}point{show-----1;}}show-------1;}");
        EDGES.error(1, "clause a{points{point{show-----^-1;}}}");
        EDGES.error(1, "clause a{points{point{}point{show-----^-1;}}}");
        EDGES.error(1, "clause a{points{point{}}show-------^-1;}");
    }

    private static void depthOfSums() {
        EDGES.right("clause a{show(------1);}");
        EDGES.error(1, "clause a{show(------^-1);}");
        EDGES.right("clause a{show(1)-(2)*(3)/(4)+(------1)*-------1;}");
        EDGES.error(1, "clause a{show(1)*-------^-1;}");
        EDGES.right("clause a{show min(------1,------1)+max(------1,------1)--------1;}");
        EDGES.error(1, "clause a{show min(------^-1,1);}");
        EDGES.error(1, "clause a{show max(1,------^-1);}");
        EDGES.error(1, "clause a{show min(1,1)--------^-1;}");
        EDGES.right("clause a{show((((((1))))))+((((((-1))))));}");
    }

    private static void depthOfTests() {
        EDGES.right("clause a when[1<-------1]{}");
        EDGES.error(1, "clause a when[1<-------^-1]{}");
        EDGES.right("clause a when[1<1]and[1<1]or[1<-------1 and 1<-------1]and 1<--------1{}");
        EDGES.error(1, "clause a when[1<1]and 1<--------^-1{}");
    }

    private static void depthOfTurning() {
        EDGES.right("clause a{show-1*-1/-1+-1--1;}");
        // What stands behind the value that it turns is not deeper.
        EDGES.right("clause a{show-1*-------1;show-1--------1;}");
        EDGES.error(1, "clause a{show-1*-------^-1;}");
        EDGES.error(1, "clause a{show-1--------^-1;}");
        EDGES.right("clause a{show-(-----1);show-min(-----1,1);}");
        EDGES.error(1, "clause a{show-(-----^-1);}");
        EDGES.error(1, "clause a{show-min(1,-----^-1);}");
        // A - between two products is none in front of a value.
        EDGES.right("clause a{show 1-1-1-1-1-1-1-1-1-1-1;}");
    }

    private static void depthOfNot() {
        EDGES.right("clause a when not 1<-------1{}");
        EDGES.right("clause a when not -------1<1{}");
        EDGES.error(1, "clause a when not 1<-------^-1{}");
        EDGES.error(1, "clause a when not -------^-1<1{}");
        EDGES.right("clause a when not not not not not not not not 1<1{}");
        EDGES.right("clause a when not[not 1<-----1]{}");
        EDGES.error(1, "clause a when not[not 1<-----^-1]{}");
        // What stands behind the single test that it turns is not deeper.
        EDGES.right("clause a when not 1<1 and 1<--------1{}");
        EDGES.right("clause a when not 1<1 or 1<--------1{}");
        EDGES.error(1, "clause a when not 1<1 and 1<--------^-1{}");
    }

    private static void mostDepth() {
        EDGES.right(AT_DEPTH_7 + FROM_DEPTH_7);
        EDGES.right(AT_DEPTH_8 + FROM_DEPTH_8);
        EDGES.right(AT_DEPTH_7 + "points{}" + FROM_DEPTH_7);
        EDGES.right(AT_DEPTH_7 + "show(1);" + FROM_DEPTH_7);
        EDGES.right(AT_DEPTH_7 + "show min(1,1)*max(1,1);" + FROM_DEPTH_7);
        EDGES.right(AT_DEPTH_7 + "show-1;" + FROM_DEPTH_7);
        EDGES.right(AT_DEPTH_7 + "if[1<1]{}" + FROM_DEPTH_7);
        EDGES.right(AT_DEPTH_7 + "if not 1<1{}" + FROM_DEPTH_7);
        EDGES.right(AT_DEPTH_8 + "show 1-1*1/1+1;'x'use t def t ref b" + FROM_DEPTH_8 + "clause b{}");
        // As much as can be open at once: at each depth both a sum, a product and a first value wait for the next depth.
        String deepest = "2+3*max(1,".repeat(8) + "2+3*1" + ")".repeat(8);
        EDGES.dueOrder("clause a when 1=2 or 1=1 and 39365=" + deepest + "{}", "a");
        EDGES.dueOrder("clause a when 1=2 or 1=1 and 39364=" + deepest + "{}", "");
    }

    // ---- error 1

    private static void firstWrongToken() {
        EDGES.error(1, "^a");
        EDGES.error(1, "fact a=1;^a");
        EDGES.error(1, "fact a ^fact b=1;");
        EDGES.error(1, "clause a{}^{}");
        EDGES.error(1, "clause a{points{^]}");
        EDGES.error(1, "clause a{show ^+1;}");
        EDGES.error(1, "clause a{show ^+;}");
        EDGES.error(1, "clause a{show 1^(2);}");
        EDGES.error(1, "clause a{^fact b=1;}");
        EDGES.error(1, "clause a{ref b ^c ref d}clause b{}");
        EDGES.error(1, "clause a{show 1+^;show+;}");
        EDGES.error(1, "clause a{if 1<2 ^< 3{}}");
        // The first of two, and not told ahead of the token that is wrong.
        EDGES.error(1, "clause a{ref ^5 ref 6}");
        EDGES.error(1, "clause a{}clause b{}clause c^}clause d}");
        EDGES.error(1, AT_DEPTH_8 + "if 1<1^{}" + FROM_DEPTH_8);
        EDGES.error(1, AT_DEPTH_8 + "points^{}" + FROM_DEPTH_8);
        EDGES.error(1, AT_DEPTH_8 + "show min^(1,1);" + FROM_DEPTH_8);
        followersOfHeads();
        followersOfTests();
        followersOfItems();
    }

    /** Of all tokens, those that follow are right behind the text, and each other one is wrong there. */
    private static void dueFollowers(String text, String followers) {
        String all = String.join(" ", Oracle.KEYWORDS) + " { } ( ) [ ] ; , + - * / < > = <= >= x 7 'y'";
        for (String token : all.split(" ")) {
            Desk desk = new Desk();
            Desks.tell(desk, text + " " + token);
            int end = text.length() + 1 + token.length();
            // Names without a meaning are no error 1.
            int place = desk.teach() == 1 ? desk.errorAt() : end;
            boolean right = (" " + followers + " ").contains(" " + token + " ");
            EDGES.due("place behind <" + text + "> and " + token, place, right ? end : text.length() + 1);
        }
    }

    private static void followersOfHeads() {
        for (String text : new String[] {"", "fact f = 1 ;", "clause a { }"}) {
            dueFollowers(text, "fact clause");
            EDGES.right(text);
        }
        dueFollowers("fact", "x");
        dueFollowers("fact f", "=");
        dueFollowers("fact f =", "7");
        dueFollowers("fact f = 1", ";");
        dueFollowers("clause", "x");
        dueFollowers("clause a", "when optional" + LINK);
        dueFollowers("clause a optional", "7");
        dueFollowers("clause a optional 1", "7");
        dueFollowers("clause a optional 1 2", LINK);
        for (String link : new String[] {"needs", "bars", "after"}) {
            dueFollowers("clause a " + link, "x");
            dueFollowers("clause a " + link + " b", LINK);
        }
    }

    private static void followersOfTests() {
        String afterTest = "and or optional" + LINK;
        for (String text : new String[] {"", " not", " [", " 1 < 2 and", " 1 < 2 or", " [ 1 < 2 ] and", " not 1 < 2 or"}) {
            dueFollowers("clause a when" + text, SINGLE);
            dueFollowers("clause a when" + text + " 1", COMPARISON + SIGN);
        }
        for (String sign : (COMPARISON + SIGN).trim().split(" +")) {
            dueFollowers("clause a when 1 " + sign, VALUE);
        }
        dueFollowers("clause a when 1 < 2", SIGN + afterTest);
        dueFollowers("clause a when not 1 < 2", SIGN + afterTest);
        dueFollowers("clause a when 1 < 2 and 3 = 4", SIGN + afterTest);
        dueFollowers("clause a when 1 < 2 or 3 = 4", SIGN + afterTest);
        dueFollowers("clause a when [ 1 < 2", SIGN + "and or ]");
        dueFollowers("clause a when [ 1 < 2 ]", afterTest);
        dueFollowers("clause a when not [ 1 < 2 ]", afterTest);
        dueFollowers("clause a when -", VALUE);
        dueFollowers("clause a when (", VALUE);
        dueFollowers("clause a when ( 1", SIGN + ")");
        for (String text : new String[] {"- 1", "( 1 )", "f", "1 + 1", "1 * 1", "min ( 1 , 1 )", "max ( 1 , 1 )"}) {
            dueFollowers("clause a when " + text, COMPARISON + SIGN);
        }
        for (String word : new String[] {"min", "max"}) {
            dueFollowers("clause a when " + word, "(");
            dueFollowers("clause a when " + word + " (", VALUE);
            dueFollowers("clause a when " + word + " ( 1", SIGN + ",");
            dueFollowers("clause a when " + word + " ( 1 ,", VALUE);
            dueFollowers("clause a when " + word + " ( 1 , 2", SIGN + ")");
        }
    }

    private static void followersOfItems() {
        for (String text : new String[] {"", " 'x'", " ref b", " def t", " use t", " show 1 ;", " points { }", " if 1 < 2 { } else { }",
            " points { point {", " points { point { } }", " if 1 < 2 {", " if 1 < 2 { } else {"}) {
            dueFollowers("clause a {" + text, ITEM);
        }
        for (String word : new String[] {"ref", "def", "use"}) {
            dueFollowers("clause a { " + word, "x");
        }
        dueFollowers("clause a { show", VALUE);
        dueFollowers("clause a { show 1", SIGN + ";");
        dueFollowers("clause a { show - f", SIGN + ";");
        dueFollowers("clause a { if", SINGLE);
        dueFollowers("clause a { if 1", COMPARISON + SIGN);
        dueFollowers("clause a { if 1 < 2", SIGN + "and or {");
        dueFollowers("clause a { if [ 1 < 2 ]", "and or {");
        dueFollowers("clause a { if 1 < 2 { }", ITEM + "else");
        dueFollowers("clause a { if 1 < 2 { } else", "{");
        dueFollowers("clause a { points", "{");
        dueFollowers("clause a { points {", "point }");
        dueFollowers("clause a { points { point", "{");
        dueFollowers("clause a { points { point { }", "point }");
    }

    private static void wrongBytes() {
        String begins = " \n'{}()[];,+-*/<>=";
        for (int b = 0; b < 256; b++) {
            boolean wordOrNumber = b >= 'a' && b <= 'z' || b >= '0' && b <= '9';
            if (!wordOrNumber && begins.indexOf(b) < 0) {
                String sign = "" + (char) b;
                EDGES.dueError(sign, 1, 0);
                EDGES.dueError("fact a=1;\n" + sign + "fact b=1;", 1, 10);
                EDGES.dueError("clause a{show 1" + sign + ";}", 1, 15);
                EDGES.dueError("clause a{}  " + sign, 1, 12);
                EDGES.dueError("clause " + sign + "{}", 1, 7);
                EDGES.dueError("clause a{use " + sign + "}", 1, 13);
            }
        }
        EDGES.right("clause a{show 1;}");
    }

    private static void tooLong() {
        EDGES.right("clause aaaaaaaaaa{}");
        EDGES.error(1, "clause ^aaaaaaaaaaa{}");
        EDGES.error(1, "clause ^" + "a".repeat(400) + "{}");
        EDGES.right("fact a=55555;");
        EDGES.error(1, "fact a=^555555;");
        EDGES.error(1, "fact a=^" + "5".repeat(400) + ";");
        EDGES.right("clause a{'" + FORTY + "'}");
        EDGES.error(1, "clause a{^'" + FORTY + "~'}");
        EDGES.error(1, "clause a{^'" + FORTY.repeat(10) + "'}");
        // The longest that fit behind each other on one tape are still too long.
        EDGES.error(1, "^" + "a".repeat(3000));
        EDGES.error(1, "^" + "5".repeat(3000));
        EDGES.error(1, "^'" + "a".repeat(2998) + "'");
    }

    private static void emptyStrings() {
        EDGES.error(1, "clause a{^''}");
        EDGES.error(1, "clause a{'x' ^''}");
        EDGES.error(1, "clause a{^'''x'}");
        EDGES.right("clause a{' '}");
    }

    private static void stringsNotEnded() {
        EDGES.error(1, "clause a{^'");
        EDGES.error(1, "clause a{^'x");
        EDGES.error(1, "clause a{^'x}");
        EDGES.error(1, "clause a{'x'^'}");
        EDGES.error(1, "clause a{^'x\n'}");
        EDGES.error(1, "clause a{'y'  ^'" + FORTY);
        EDGES.right("clause a{'y'  '" + FORTY + "'}");
    }

    private static void endOfTape() {
        EDGES.error(1, "fact^");
        EDGES.error(1, "fact a=1^");
        EDGES.right("fact a=1;");
        EDGES.error(1, "clause a{}clause b{^");
        EDGES.error(1, "clause a{}clause b{  \n  ^");
        EDGES.right("clause a{}clause b{  \n  }");
        EDGES.error(1, "clause" + " ".repeat(2994) + "^");
        EDGES.right("clause a{" + " ".repeat(2990) + "}");
        EDGES.error(1, AT_DEPTH_8 + "^");
        String told = "fact f=1;clause b{}";
        for (String token : ("clause a when not [ 1 < 2 ] and ( f ) >= - min ( 3 , 4 ) optional 5 6 needs b bars b after b "
                + "{ 'x' ref b def t use t show 1 + 2 * f ; if f = 1 { } else { } points { point { } }").split(" ")) {
            told += " " + token;
            EDGES.error(1, told + "^");
        }
        EDGES.right(told + " }");
    }

    private static void tooDeep() {
        EDGES.error(1, AT_DEPTH_8 + "if 1<1^{}" + FROM_DEPTH_8);
        EDGES.error(1, AT_DEPTH_8 + "if 1<1^{}else{}" + FROM_DEPTH_8);
        EDGES.error(1, AT_DEPTH_8 + "points^{}" + FROM_DEPTH_8);
        EDGES.error(1, AT_DEPTH_7 + "points{point^{}}" + FROM_DEPTH_7);
        EDGES.error(1, AT_DEPTH_8 + "show^(1);" + FROM_DEPTH_8);
        EDGES.error(1, AT_DEPTH_8 + "show min^(1,1);" + FROM_DEPTH_8);
        EDGES.error(1, AT_DEPTH_8 + "show max^(1,1);" + FROM_DEPTH_8);
        EDGES.error(1, AT_DEPTH_8 + "show^-1;" + FROM_DEPTH_8);
        EDGES.error(1, AT_DEPTH_8 + "show 1-^-1;" + FROM_DEPTH_8);
        EDGES.error(1, AT_DEPTH_8 + "if^[1<1]{}" + FROM_DEPTH_8);
        EDGES.error(1, AT_DEPTH_8 + "if ^not 1<1{}" + FROM_DEPTH_8);
        EDGES.error(1, AT_DEPTH_7 + "if not ^not 1<1{}" + FROM_DEPTH_7);
        EDGES.error(1, AT_DEPTH_7 + "if[^[1<1]]{}" + FROM_DEPTH_7);
        EDGES.error(1, AT_DEPTH_7 + "show(^(1));" + FROM_DEPTH_7);
        EDGES.error(1, AT_DEPTH_7 + "show-^-1;" + FROM_DEPTH_7);
        // Far beyond.
        EDGES.error(1, "clause a when " + "[".repeat(8) + "^" + "[".repeat(500));
        EDGES.error(1, "clause a when " + "not ".repeat(8) + "^" + "not ".repeat(500));
        EDGES.error(1, "clause a when " + "-".repeat(8) + "^" + "-".repeat(500));
        EDGES.error(1, "clause a when " + "(".repeat(8) + "^" + "(".repeat(500));
    }

    private static void mostTokens() {
        // 595 tokens, and five more to its end.
        String open = "clause b{}clause a{" + "use t ".repeat(293) + "'x''x'";
        EDGES.right(open + "use t use t}");
        EDGES.right(open + "use t use t} \n ");
        EDGES.error(1, open + "use t use t'x'^}");
        EDGES.error(1, open + "use t use t'x'^'x'}");
        EDGES.error(1, open + "use t use t}^clause c{}");
        EDGES.error(1, open + "use t use t} \n ^fact");
        EDGES.error(1, open + "use t use t}^!");
        EDGES.error(1, open + "use t use t'x'^");
        EDGES.error(1, open + "use t use t'x'  ^");
        // What is wrong by itself stands ahead of the 601st.
        EDGES.error(1, open + "use t ^!'x'}");
        EDGES.error(1, open + "use t use t^!}");
        EDGES.error(1, "clause a{" + "'x'".repeat(597) + "^'x'}");
        EDGES.right("clause a{" + "'x'".repeat(596) + "}");
        EDGES.error(1, "clause a{" + "'x'".repeat(597) + "^}");
        EDGES.error(1, "fact f=1;".repeat(120) + "^fact f=1;");
        EDGES.error(2, "fact f=1;fact ^f=1;" + "fact f=1;".repeat(118));
    }

    private static void firstByte() {
        EDGES.error(1, "fact a=^abcde;");
        EDGES.error(1, "fact a=^'abc';");
        EDGES.error(1, "fact a ^12345;");
        EDGES.error(1, "fact a ^<=1;");
        EDGES.error(1, "fact a   \n  ^>=1;");
        EDGES.error(1, "clause ^clauses1234{}");
    }

    // ---- errors of names

    private static void errorOneFirst() {
        EDGES.error(2, "fact a=1;fact ^a=1;");
        EDGES.error(1, "fact a=1;fact a=1;^;");
        EDGES.error(1, "clause a needs b{}clause c needs c{}clause a{show f;}^x");
        EDGES.error(1, Desks.many("fact f#=1;", 0, 11) + "^;");
        EDGES.error(6, Desks.many("fact f#=1;", 0, 10) + "fact ^x=1;");
        EDGES.error(1, Desks.many("fact f#=1;", 0, 10) + "fact x=1^");
    }

    private static void leftToRight() {
        EDGES.error(3, "clause a needs ^x needs a{show f;}clause a{}");
        EDGES.error(5, "clause a needs ^a needs x{show f;}clause a{}");
        EDGES.error(4, "clause a when ^f<1 needs x needs a{}clause a{}");
        EDGES.error(2, "clause a{}clause ^a when f<1 needs x{}");
        EDGES.error(4, "clause a{show ^f;}fact f=1;clause a{}");
        EDGES.error(4, "fact f=1;clause a{show f+f*f+^g+h;}");
        EDGES.error(3, "clause a{if 1<1{}else{ref ^b}ref c}");
        EDGES.error(5, "clause b{ref a}clause a{points{point{ref b}point{ref ^a}}ref d}");
        EDGES.error(2, "fact a=1;fact ^a=1;" + Desks.many("fact f#=1;", 0, 11));
        EDGES.error(6, Desks.many("fact f#=1;", 0, 10) + "fact ^x=1;fact f0=1;");
    }

    private static void smallestError() {
        String facts = Desks.many("fact f#=1;", 0, 10);
        EDGES.error(2, facts + "fact ^f0=1;");
        EDGES.error(2, facts + "fact ^f9=1;");
        EDGES.error(6, facts + "fact ^f10=1;");
        String clauses = Desks.many("clause c#{}", 0, 16);
        EDGES.error(2, clauses + "clause ^c0{}");
        EDGES.error(2, clauses + "clause ^c15{}");
        EDGES.error(6, clauses + "clause ^c16{}");
        String optional = Desks.many("clause c# optional 1 1{}", 0, 8);
        EDGES.error(2, optional + "clause ^c0 optional 1 1{}");
        EDGES.error(2, optional + "clause ^c7 optional 1 1{}");
        EDGES.error(6, optional + "clause ^c8 optional 1 1{}");
    }

    private static void toldAhead() {
        EDGES.error(2, "fact a=1;fact ^a=1;");
        EDGES.error(2, "fact a=1;fact b=1;fact ^a=2;");
        EDGES.error(2, "fact a=1;fact b=1;fact ^b=2;");
        EDGES.right("fact a=1;fact aa=1;fact a1=1;");
        EDGES.error(2, "clause a{}clause ^a{}");
        EDGES.error(2, "clause a{}clause b{}clause c{}clause ^b{}");
        EDGES.right("clause a{}clause aa{}clause a1{}");
        // A fact and a clause may have one name.
        EDGES.right("fact a=1;clause a{}");
        EDGES.right("clause a{}fact a=1;");
    }

    private static void noClause() {
        for (String behind : new String[] {"needs", "bars", "after"}) {
            EDGES.error(3, "clause a " + behind + " ^b{}");
            EDGES.error(3, "fact b=1;clause a " + behind + " ^b{use b}");
            EDGES.error(3, "clause a " + behind + " ^b{}clause bb{}");
            EDGES.right("clause a " + behind + " b{}clause b{}");
            EDGES.right("clause b{}clause a " + behind + " b{}");
        }
        EDGES.error(3, "clause a{ref ^b}");
        EDGES.error(3, "fact b=1;clause a{use b ref ^b}");
        EDGES.right("clause a{ref b}clause b{}");
        EDGES.right("clause b{}clause a{ref b}");
        // Of the library is also one that stands far behind, and the last of the sixteen.
        EDGES.right("clause a needs z{}" + Desks.many("clause c#{}", 0, 14) + "clause z{}");
    }

    private static void noFact() {
        EDGES.error(4, "clause a{show ^f;}");
        EDGES.error(4, "clause a{show ^f;}fact f=1;");
        EDGES.right("fact f=1;clause a{show f;}");
        EDGES.right("clause z{}fact f=1;clause a{show f;}");
        EDGES.error(4, "clause f{}clause a when ^f<1{}");
        EDGES.error(4, "clause a{use f show ^f;}");
        EDGES.error(4, "fact f=1;clause a when min(f,^ff)<1{}");
        EDGES.error(4, "fact f=1;clause a when f=-(^g){}");
        EDGES.error(4, "fact f=1;clause a{if not[f<1 or ^g<1]{}}");
    }

    private static void itself() {
        for (String behind : new String[] {"needs", "bars", "after"}) {
            EDGES.error(5, "clause a " + behind + " ^a{}");
            EDGES.error(5, "clause b{}clause a " + behind + " b " + behind + " ^a{}");
            EDGES.right("clause a " + behind + " b{}clause b " + behind + " a{}");
        }
        EDGES.error(5, "clause a{ref ^a}");
        EDGES.error(5, "clause b{}clause a{if 1<1{}else{points{point{ref b ref ^a}}}}");
        EDGES.right("clause a{ref b}clause b{ref a}");
        EDGES.right("fact a=1;clause a{def a use a show a;}");
    }

    private static void mostFacts() {
        String ten = Desks.many("fact f#=#;", 0, 10);
        Desk desk = Desks.taught(ten);
        EDGES.due("facts", desk.count(0), 10);
        EDGES.due("fact(9)", desk.fact(9), 9);
        EDGES.dueIndex("fact(10)", desk, () -> desk.fact(10));
        EDGES.error(6, ten + "fact ^f10=1;");
        EDGES.error(6, ten + "clause a{}fact ^f10=1;");
        EDGES.right(ten + "clause a{show f9;}");
    }

    private static void mostClauses() {
        String sixteen = Desks.many("clause c#{}", 0, 16);
        Desk desk = Desks.taught(sixteen);
        EDGES.due("clauses", desk.count(1), 16);
        EDGES.due("clause(15, 3)", desk.clause(15, 3), 16);
        EDGES.dueIndex("clause(16, 3)", desk, () -> desk.clause(16, 3));
        EDGES.error(6, sixteen + "clause ^c16{}");
        EDGES.error(6, sixteen + "fact f=1;clause ^c16 optional 1 1{}");
        EDGES.error(6, sixteen + "clause ^c16 needs c16{}");
        // A clause of the library is also the 17th: what refers to it has no error of its own.
        EDGES.error(6, "clause a needs x{}" + Desks.many("clause c#{}", 0, 15) + "clause ^x{}");
    }

    private static void mostOptional() {
        String eight = Desks.many("clause c# optional 1 1{}", 0, 8);
        Desk desk = Desks.taught(eight + "clause a{}clause b{}");
        EDGES.due("optional clauses", desk.count(3), 8);
        EDGES.error(6, eight + "clause ^c8 optional 1 1{}");
        EDGES.error(6, eight + "clause a{}clause ^c8 optional 0 0{}");
        EDGES.error(6, eight + "clause a{}clause ^c8 when f<1 optional 1 1 needs x needs c8{show f;}");
        EDGES.right(eight + Desks.many("clause d#{}", 0, 8));
    }

    private static void mostTerms() {
        String all = "clause a{" + Desks.many("def t#\n", 0, 12) + Desks.many("use t#\n", 12, 12);
        Desk desk = Desks.taught(all + "use t0 def t23}");
        EDGES.due("terms", desk.count(2), 24);
        EDGES.due("term(23, 0)", desk.term(23, 0), 1);
        EDGES.dueIndex("term(24, 0)", desk, () -> desk.term(24, 0));
        EDGES.error(6, all + "def ^t24}");
        EDGES.error(6, all + "use ^t24}");
        EDGES.error(6, all + "if 1<0{use t23 def t0 use ^t24 use t24}}");
        EDGES.error(6, all + "}clause b{def t5 def ^t24}");
    }

    private static void namesOfTheirOwn() {
        Desk desk = Desks.taught("fact n=7;clause n{def n use n show n;ref m}fact m=8;clause m{use m show m;}");
        EDGES.due("facts, clauses and terms", desk.count(0) + " " + desk.count(1) + " " + desk.count(2), "2 2 2");
        EDGES.due("the contract", Desks.written(desk), "1. \"n\"N72\n2. M8\n");
    }

    private static void numbering() {
        Desk desk = Desks.taught("fact z=3;clause y{use q use q def p}fact a=4;clause b{if 1<0{use o}def q def n}clause a{use p}fact m=5;");
        EDGES.due("facts", desk.fact(0) + " " + desk.fact(1) + " " + desk.fact(2), "3 4 5");
        EDGES.due("clauses", desk.clause(0, 8) + " " + desk.clause(1, 8) + " " + desk.clause(2, 8), "5 6 1");
        StringBuilder terms = new StringBuilder();
        for (int term = 0; term < desk.count(2); term++) {
            terms.append(desk.term(term, 0)).append(desk.term(term, 1)).append(' ');
        }
        // q, p, o (in a block that is not written), n.
        EDGES.due("defs and uses of the terms", terms.toString(), "12 11 00 10 ");
        EDGES.dueIndex("fact(-1)", desk, () -> desk.fact(-1));
        EDGES.dueIndex("clause(-1, 0)", desk, () -> desk.clause(-1, 0));
        EDGES.dueIndex("term(-1, 0)", desk, () -> desk.term(-1, 0));
    }
}
