/** TEXTS: what the tape holds, which tokens can stand where, and what an E comes to at its edges. */
final class TextEdges {
    private static final int FULL = -4;
    private static final String FIRST = "likes worth + ( age < 14 ) * 2 ; pays 0 - many ; tires own < 1 ;";
    private static final String REST = ";pays 0;tires 0;";
    /** The greatest int and the least. */
    private static final String MOST = "(9999*9999*21+9999*4790+8416)", LEAST = "(0-9999*9999*21-9999*4790-8417)";

    private TextEdges() {
    }

    /** In house 0 sit one of 70, who tells the only story, worth 6, and one of 40. */
    private static NotTwice two(String rule) {
        NotTwice x = new NotTwice();
        x.story(0, 6, 0);
        x.person(70, 1);
        x.person(40, 0);
        Due.rule(x, rule);
        return x;
    }

    private static void likes(String e, int due) {
        Due.is("likes " + e, two("likes " + e + ";pays 0;tires 0;").worth(0, 0), due);
    }

    private static void pays(String e, int due) {
        Due.is("pays " + e, two("likes 0;pays " + e + ";tires 0;").worth(0, 0), due);
    }

    private static void tires(String e, boolean due) {
        Due.is("tires " + e, two("likes 0;pays 0;tires " + e + ";").may(0), due ? 0 : 1);
    }

    private static void reads(String text) {
        Due.is("'" + text + "'", Due.read(new NotTwice(), text), 1);
    }

    private static void fault(String text, int place) {
        NotTwice x = new NotTwice();
        Due.is("'" + text + "'", Due.read(x, text), -100 - place);
        Due.is("no text more", x.count(3), 1);
    }

    private static String join(String first, String more, int times) {
        return first + more.repeat(times);
    }

    @Says(of = 0, words = "A TEXT is read from THE TAPE (160 bytes at most).")
    static void theTapeHas160BytesAtMost() {
        String text = "likes 1;pays 1;tires ";
        String longest = text + " ".repeat(158 - text.length()) + "0;";
        NotTwice x = new NotTwice();
        Due.feed(x, longest);
        Due.is("160 bytes", x.count(4), 160);
        Due.is("one more", x.feed('0'), FULL);
        Due.is("160 bytes are a text", x.text(), 1);
        Due.is("there is room again", x.feed('l'), 1);
        NotTwice y = new NotTwice();
        Due.feed(y, text + " ".repeat(159 - text.length()) + "0;");
        Due.is("the 161st byte was not taken", y.text(), -260);
    }

    @Says(of = 0, words = "A TEXT is read from THE TAPE (160 bytes at most).")
    static void theTapeFullOfTokens() {
        String text = "likes " + join("1", "+1", 68) + ";pays -9;tires 0;";
        Due.is("its size", text.length(), 160);
        Due.is("69 ones", two(text).worth(0, 0), 69 - 9);
        String wrong = "likes " + join("1", "+1", 68) + ";pays -9;tires 0 ";
        fault(wrong, 160);
        fault("likes " + join("1", "*1", 76) + "@", 159);
        fault("likes " + join("1", "*1", 76) + "*", 160);
    }

    @Says(of = 0, words = {"TOKENS, each as long as can be:", "WORDS (a .. z),"})
    static void wordsAreAsLongAsCanBe() {
        fault("likesworth" + REST, 0);
        fault("likes ageworth" + REST, 6);
        fault("likes notage" + REST, 6);
        fault("likes not1andage" + REST, 10);
        fault("likes 1orage" + REST, 7);
        fault("likes agez" + REST, 6);
        fault("likes agea" + REST, 6);
        fault("likes aage" + REST, 6);
        fault("likes zage" + REST, 6);
        reads("likes1and age;pays1or(age);tires not(own);");
        fault("likes age`", 9);
        fault("likes age{", 9);
        fault("likes ageZ", 9);
        fault("likes age_1", 9);
    }

    @Says(of = 0, words = "NUMBERS (as many digits as stand there, 4 at most),")
    static void numbersHaveFourDigitsAtMost() {
        pays("9999=9998+1", 1);
        pays("0000", 0);
        pays("0099", 99);
        pays("0010*0", 0);
        pays("7", 7);
        pays("9990-9909", 81);
        fault("likes 10000" + REST, 6);
        fault("likes 00000" + REST, 6);
        fault("likes 12345678" + REST, 6);
        fault("likes 123456789012345678901234567890" + REST, 6);
        fault("likes 1234 5" + REST, 11);
        fault("likes 12 34" + REST, 9);
        fault("likes 9999+99999" + REST, 11);
        fault("likes 1/", 7);
        fault("likes 1:", 7);
    }

    private static boolean isIn(int c, String some) {
        return some.indexOf(c) >= 0;
    }

    @Says(of = 0, words = "SIGNS ( ) ; + - * < = ;")
    static void everyByteBehindAOne() {
        for (int c = 0; c < 256; c++) {
            NotTwice x = new NotTwice();
            Due.feed(x, "likes 1 ");
            x.feed(c);
            Due.is("byte " + c + " behind a one", x.text(), isIn(c, ";+-*<= \n") ? -109 : -108);
        }
    }

    @Says(of = 0, words = "SIGNS ( ) ; + - * < = ;")
    static void everyByteAheadOfAOne() {
        for (int c = 0; c < 256; c++) {
            NotTwice x = new NotTwice();
            Due.feed(x, "likes ");
            x.feed(c);
            Due.is("byte " + c + " ahead of a one", x.text(), isIn(c, "(- \n0123456789") ? -107 : -106);
        }
    }

    @Says(of = 0, words = "blanks (32, 10) may stand between.")
    static void blanks() {
        reads("likes1;pays-1;tires(1);");
        reads("  \n likes \n\n 1 \n;\npays\n-\n1\n;tires\n( 1 )\n; \n ");
        fault("li kes 1" + REST, 0);
        fault("likes wor\nth" + REST, 6);
        fault("likes 1\n2" + REST, 8);
        for (int c : new int[] {0, 9, 11, 12, 13, 31, 33, 127, 133, 160}) {
            fault("likes" + (char) c + "1" + REST, 5);
            fault("likes 1;pays 0;tires 0;" + (char) c, 23);
        }
    }

    @Says(of = 0, words = "TEXT: likes E ; pays E ; tires E ;")
    static void theThreeParts() {
        reads("likes 1;pays 1;tires 1;");
        fault("", 0);
        fault(" \n ", 3);
        fault("pays 1;likes 1;tires 1;", 0);
        fault("likes 1;tires 1;pays 1;", 8);
        fault("likes 1;likes 1;tires 1;", 8);
        fault("likes 1;pays 1;pays 1;", 15);
        fault("likes;pays 1;tires 1;", 5);
        fault("likes 1;pays;tires 1;", 12);
        fault("likes 1;pays 1;tires;", 20);
        fault("likes 1 pays 1;tires 1;", 8);
        fault("likes 1;pays 1 tires 1;", 15);
        fault("likes 1;pays 1;tires 1", 22);
        fault("likes 1;;pays 1;tires 1;", 8);
        fault("likes 1;pays 1;tires 1;;", 23);
        fault("likes 1;pays 1;tires 1;\nlikes 1;pays 1;tires 1;", 24);
        fault("1;pays 1;tires 1;", 0);
        fault("(likes 1);", 0);
    }

    @Says(of = 0, words = {"E: AND { or AND }.", "AND: NOT { and NOT }."})
    static void orAndAnd() {
        pays("0 or 0", 0);
        pays(join("0", " or 0", 20), 0);
        pays(join("0", " or 0", 20) + " or 5", 1);
        pays(join("3", " and 3", 16), 1);
        pays(join("3", " and 3", 16) + " and 0", 0);
        pays("1 or 1 and 0", 1);
        pays("0 and 1 or 1", 1);
        pays("0 and (1 or 1)", 0);
        pays("0 or not 0 and not 0", 1);
        fault("likes or 1" + REST, 6);
        fault("likes and 1" + REST, 6);
        fault("likes 1 or" + REST, 10);
        fault("likes 1 and" + REST, 11);
        fault("likes 1 or or 1" + REST, 11);
        fault("likes 1 or and 1" + REST, 11);
        fault("likes 1 and or 1" + REST, 12);
    }

    @Says(of = 0, words = "NOT: not NOT, or SUM, perhaps < or = and a SUM.")
    static void notLessAndSame() {
        pays("not 0", 1);
        pays("not not 7", 1);
        pays("not not not 7", 0);
        pays("not 0 = 0", 0);
        pays("not 1 < 1", 1);
        pays("not 1 and 0", 0);
        pays("not 1 or 1", 1);
        pays("(not 0) = 0", 0);
        pays("1 + 2 < 2 * 2", 1);
        pays("1 + 2 = 9 - 2 * 3", 1);
        pays("3 < 2", 0);
        pays("2 < 2", 0);
        pays("0 - 1 < 0", 1);
        fault("likes 1 < 2 < 3" + REST, 12);
        fault("likes 1 < 2 = 1" + REST, 12);
        fault("likes 1 = 1 < 2" + REST, 12);
        fault("likes 1 = 1 = 1" + REST, 12);
        fault("likes not 1 < 2 < 3" + REST, 16);
        fault("likes 1 < not 1" + REST, 10);
        fault("likes 1 = not 1" + REST, 10);
        fault("likes < 1" + REST, 6);
        fault("likes 1 <" + REST, 9);
        fault("likes 1 <= 1" + REST, 9);
        fault("likes 1 not 1" + REST, 8);
        fault("likes not" + REST, 9);
    }

    @Says(of = 0, words = {"SUM: TERM { + or - TERM }.", "TERM: ONE { * ONE }."})
    static void sumsAndTerms() {
        pays("9 - 5 - 3", 1);
        pays("9 - (5 - 3)", 7);
        pays("9 - 5 + 3", 7);
        pays("2 + 3 * 4", 14);
        pays("2 * 3 + 4", 10);
        pays("2 * 3 * 4", 24);
        pays("20 - 2 * 3 - 4", 10);
        pays(join("99", "-3", 40), -21);
        pays(join("1", "*1", 60) + "*7", 7);
        pays("1 < 2 + 0 * 9", 1);
        fault("likes + 1" + REST, 6);
        fault("likes * 1" + REST, 6);
        fault("likes 1 +" + REST, 9);
        fault("likes 1 *" + REST, 9);
        fault("likes 1 + + 1" + REST, 10);
        fault("likes 1 * * 1" + REST, 10);
        fault("likes 1 + not 1" + REST, 10);
        fault("likes 2 * not 1" + REST, 10);
    }

    @Says(of = 0, words = "ONE: a NUMBER, a NAME, - ONE, ( E ).")
    static void ones() {
        pays("5", 5);
        pays("age", 70);
        pays("-5", -5);
        pays("--5", 5);
        pays("-----5", -5);
        pays("-age", -70);
        pays("-(5)", -5);
        pays("(-5)", -5);
        pays("-5*-5", 25);
        pays("9--5", 14);
        pays("9+-5", 4);
        pays("-2*3+10", 4);
        pays("-3+10", 7);
        pays("(1 or 0)*9", 9);
        pays("((((( 8 )))))", 8);
        fault("likes -" + REST, 7);
        fault("likes - not 1" + REST, 8);
        fault("likes ()" + REST, 7);
        fault("likes (1" + REST, 8);
        fault("likes 1)" + REST, 7);
        fault("likes (1 2)" + REST, 9);
        fault("likes (1)(2)" + REST, 9);
        fault("likes age(1)" + REST, 9);
        fault("likes (1;)" + REST, 8);
        fault("likes (likes)" + REST, 7);
    }

    @Says(of = 0, words = "NAMES are age worth heard many night own; likes, pays, tires, or, and, not are KEYS.")
    static void namesAndKeys() {
        for (String name : new String[] {"age", "worth", "heard", "many", "night", "own"}) {
            reads("likes " + name + REST);
            fault(name + " 1" + REST, 0);
            fault("likes 1 " + name + REST, 8);
            fault("likes " + name.substring(1) + REST, 6);
            fault("likes " + name.substring(0, name.length() - 1) + REST, 6);
            fault("likes " + name + "s" + REST, 6);
            fault("likes " + name + name + REST, 6);
        }
        for (String key : new String[] {"likes", "pays", "tires", "or", "and"}) {
            fault("likes " + key + REST, 6);
            fault("likes 1 < " + key + " 1" + REST, 10);
        }
        fault("likes 1 < not 1" + REST, 10);
        for (String word : new String[] {"like", "likess", "pay", "tire", "o", "an", "no", "nor", "noth", "ands", "names"}) {
            fault(word + " 1" + REST, 0);
            fault("likes 1 " + word + " 1" + REST, 8);
        }
    }

    @Says(of = 0, words = "An E is an int (32 bits, wrapping): of or, and, not, <, = 1 or 0 (what is not 0 is true).")
    static void intsWrap() {
        pays(MOST + "+1=" + LEAST, 1);
        pays(LEAST + "-1=" + MOST, 1);
        pays("-" + LEAST + "=" + LEAST, 1);
        pays("-" + MOST + "-1=" + LEAST, 1);
        pays(MOST + "*2", -2);
        pays(MOST + "*" + MOST, 1);
        pays(LEAST + "*2", 0);
        pays(LEAST + "<" + MOST, 1);
        pays(MOST + "<" + LEAST, 0);
        pays(MOST + "+1<0", 1);
        pays("(9999*9999*43=4172*1000+747)", 1);
        pays(LEAST + "+" + LEAST, 0);
    }

    @Says(of = 0, words = "An E is an int (32 bits, wrapping): of or, and, not, <, = 1 or 0 (what is not 0 is true).")
    static void whatIsNot0IsTrue() {
        pays("7 or 0", 1);
        pays("0 or -7", 1);
        pays("7 or 8", 1);
        pays("-1 and 8", 1);
        pays("8 and -1", 1);
        pays("2 and 4", 1);
        pays("not -1", 0);
        pays("not 2", 0);
        pays("not 0", 1);
        pays("(3=3)+(2<3)+(3<3)", 2);
        pays(LEAST + " and " + LEAST, 1);
        pays("not " + LEAST, 0);
        pays("7 and 0", 0);
        pays("0 and 7", 0);
        pays("0 or 0", 0);
    }

    @Says(of = 0, words = {"FAULT: the place of the first byte of the first TOKEN that can't stand there (the text's size,"
        + " if it ends too early),"})
    static void everyTextThatEndsTooEarly() {
        for (int size = 0; size < FIRST.length(); size++) {
            int place = size;
            if (size > 0 && Character.isLetter(FIRST.charAt(size)) && Character.isLetter(FIRST.charAt(size - 1))) {
                place = FIRST.lastIndexOf(' ', size) + 1;
            }
            fault(FIRST.substring(0, size), place);
        }
        reads(FIRST);
        fault("likes 1;pays 1;tires 1  ", 24);
        fault("likes 1;pays 1;tires\n", 21);
    }

    @Says(of = 0, words = {"FAULT: the place of the first byte of the first TOKEN that can't stand there (the text's size,"
        + " if it ends too early),"})
    static void theFirstFaultCounts() {
        fault("likes ) @", 6);
        fault("likes @ )", 6);
        fault("likes 12345 @", 6);
        fault("likes 1 ages 12345", 8);
        fault("nosuch likes @", 0);
        fault("likes 1 likes", 8);
        fault("likes   worth   worth", 16);
        fault("@", 0);
        fault(" " + "@".repeat(159), 1);
        fault(" ".repeat(159) + "@", 159);
        fault(" ".repeat(160), 160);
        fault(" ".repeat(155) + "likes", 160);
    }

    @Says(of = 0, words = "also of a byte that begins none, a WORD that is neither KEY nor NAME, a NUMBER that is too long,")
    static void bytesWordsAndNumbersThatAreNone() {
        for (String none : new String[] {"@", "/", ">", "A", "\u0000", "\t", "\u00e9", "\u00ff", "ages", "x", "o",
            "12345", "99999999"}) {
            fault(none, 0);
            fault("likes " + none, 6);
            fault("likes 1 " + none, 8);
            fault("likes 1 + " + none, 10);
            fault("likes (((((" + none, 11);
            fault("likes 1;" + none, 8);
            fault("likes 1;pays 1;tires 1;" + none, 23);
        }
    }

    /** All ways to open so many, and of each a text in which they are open. */
    private static void open(String opened, int brackets, int open) {
        if (open == 5) {
            String text = "likes " + opened;
            reads(text + "1" + ")".repeat(brackets) + REST);
            fault(text + "(1" + ")".repeat(brackets + 1) + REST, text.length());
            fault(text + "-1" + ")".repeat(brackets) + REST, text.length());
            fault(text + "not 1" + ")".repeat(brackets) + REST, text.length());
            return;
        }
        open(opened + "(", brackets + 1, open + 1);
        open(opened + "-", brackets, open + 1);
        if (!opened.endsWith("-")) {
            open(opened + "not ", brackets, open + 1);
        }
    }

    @Says(of = 0, words = "a ( , a not, a - ahead of a ONE while 5 of these are open")
    static void fiveMayBeOpenOfAnySort() {
        open("", 0, 0);
    }

    @Says(of = 0, words = "a ( , a not, a - ahead of a ONE while 5 of these are open")
    static void noneIsOpenInTheNextText() {
        NotTwice x = new NotTwice();
        String[] faults = {"likes (((((@", "likes not not not not not;", "likes -----;", "likes ((not(-;"};
        for (String text : faults) {
            Due.is(text, Due.read(x, text), -100 - (text.length() - 1));
            Due.is("five more", Due.read(x, "likes (((((1)))))" + REST), x.count(3) - 1);
            Due.is("six are too many", Due.read(x, "likes ((((((1))))))" + REST), -111);
        }
    }

    @Says(of = 0, words = "a ( , a not, a - ahead of a ONE while 5 of these are open")
    static void allWaitsThatCanBe() {
        String wait = "0or1and0<0+1*";
        for (int open = 0; open < 6; open++) {
            for (int innermost = 0; innermost < 2; innermost++) {
                pays((wait + "(").repeat(open) + wait + innermost + ")".repeat(open), innermost);
            }
        }
    }

    @Says(of = 0, words = "a ( , a not, a - ahead of a ONE while 5 of these are open")
    static void aMinusBehindAOneOpensNone() {
        pays("(((((9-5)))))", 4);
        pays("-----9-5", -14);
        pays("(((-(9)-5-4-3-2-1)))", -24);
        pays("not not not not not 9-9", 1);
        fault("likes (((((9--5)))))" + REST, 13);
        fault("likes (((((9-(5))))))" + REST, 13);
        fault("likes (((((9+-5)))))" + REST, 13);
        fault("likes (((((9*-5)))))" + REST, 13);
        fault("likes (((((9<-5)))))" + REST, 13);
        fault("likes (((((9 or not 1)))))" + REST, 16);
        fault("likes (((((9 and -1)))))" + REST, 17);
    }

    @Says(of = 0, words = "(a ( till its ) , not and - till what they belong to ends).")
    static void whatIsOpenEnds() {
        String deep = "(((((1)))))";
        for (String ahead : new String[] {deep, "(1)", "-1", "--1", "-----1", "-(1)", "-age", "(-1)", "(not 1)",
            "not 1 and ", "not 1 or ", "not not not not not 1 or ", "not -(1) and ", "not 1 < 2 and ", "not 1 + 2 or "}) {
            if (ahead.endsWith(" ")) {
                reads("likes " + ahead + deep + REST);
            } else {
                for (String sign : new String[] {"+", "-", "*", "<", "=", " or ", " and "}) {
                    reads("likes " + ahead + sign + deep + REST);
                }
            }
        }
        reads("likes " + deep + ";pays " + deep + ";tires " + deep + ";");
        reads("likes -----1;pays -----1;tires not not not not not 1;");
        pays("(((((1)+2)+3)+4)+5)", 15);
        pays("(1+(2+(3+(4+(5)))))", 15);
    }

    @Says(of = 0, words = "(a ( till its ) , not and - till what they belong to ends).")
    static void whatIsOpenStays() {
        String deep = "(((((1)))))";
        for (String ahead : new String[] {"-", "not ", "not 1+", "not 1-", "not 1*", "not 1<", "not 1=", "not 1+1*2<3-"}) {
            fault("likes " + ahead + deep + REST, 6 + ahead.length() + 4);
        }
        for (String ahead : new String[] {"(", "(1+", "(1 or ", "(1 and ", "(1<", "((1)+"}) {
            fault("likes " + ahead + deep + ")" + REST, 6 + ahead.length() + 4);
        }
        fault("likes not not 1 < " + deep + REST, 18 + 3);
        fault("likes not -1+" + deep + REST, 13 + 4);
        fault("likes --(((((1" + REST, 11);
    }

    @Says(of = 0, words = "There are 6 TEXTS at most, TEXT 0 with them.")
    static void sixTextsAtMost() {
        NotTwice x = new NotTwice();
        Due.is("text 0", x.count(3), 1);
        for (int i = 1; i < 6; i++) {
            Due.is("a fault takes no room", Due.read(x, "@"), -100);
            Due.is("a text", Due.read(x, "likes " + i + REST), i);
        }
        Due.is("six", x.count(3), 6);
        Due.is("no more", x.text(), FULL);
        x.story(0, 0, 0);
        x.person(40, 1);
        x.person(40, 0);
        Due.is("the sixth", x.force(5), 0);
        Due.is("by the sixth", x.worth(0, 0), 5);
        x.force(1);
        Due.is("by the second", x.worth(0, 0), 1);
        x.force(0);
        Due.is("by the first", x.worth(0, 0), -2);
    }

    /** Eight stories, of which the first is told: by one of 99 who can tell all, to one of 0 who can tell none. */
    private static long named(String likes, String pays) {
        NotTwice x = new NotTwice();
        for (int s = 0; s < 8; s++) {
            x.story(2, 4, 0);
        }
        x.person(99, 255);
        x.person(0, 0);
        x.person(140, 255);
        for (int s = 0; s < 8; s++) {
            x.hears(0, s, 1);
        }
        for (int s = 1; s < 7; s++) {
            x.hears(1, s, 1);
        }
        x.twin(6, 7);
        Scene.nights(x, 14);
        Due.rule(x, "likes " + likes + ";pays " + pays + ";tires 0;");
        return x.worth(0, 0);
    }

    @Says(of = 0, words = {"Of one of the PEOPLE, and of a STORY: age; worth: what it COUNTS for that one;"
        + " heard: how many STORIES one has HEARD; many: how many sit in one's HOUSE, one too; night: THE NIGHT;"
        + " own: how many bits TELLS has."})
    static void namesOfTheOneWhoHears() {
        Due.is("age", named("age", "0"), 0);
        Due.is("worth", named("worth", "0"), 8);
        Due.is("heard, not what is known by twins", named("heard", "0"), 6);
        Due.is("many", named("many", "0"), 2);
        Due.is("night", named("night", "0"), 14);
        Due.is("own", named("own", "0"), 0);
    }

    @Says(of = 0, words = {"Of one of the PEOPLE, and of a STORY: age; worth: what it COUNTS for that one;"
        + " heard: how many STORIES one has HEARD; many: how many sit in one's HOUSE, one too; night: THE NIGHT;"
        + " own: how many bits TELLS has."})
    static void namesOfTheOneWhoTells() {
        Due.is("age", named("0", "age"), 99);
        Due.is("worth", named("0", "worth"), 4);
        Due.is("heard", named("0", "heard"), 8);
        Due.is("many", named("0", "many"), 2);
        Due.is("night", named("0", "night"), 14);
        Due.is("own", named("0", "own"), 8);
    }

    @Says(of = 0, words = {"Of one of the PEOPLE, and of a STORY: age; worth: what it COUNTS for that one;"
        + " heard: how many STORIES one has HEARD; many: how many sit in one's HOUSE, one too; night: THE NIGHT;"
        + " own: how many bits TELLS has."})
    static void namesAsTheyChange() {
        NotTwice x = Scene.house(1, 255, 0, 0, 0, 0, 0, 0, 0);
        Due.rule(x, "likes 0;pays many*10+own;tires 0;");
        Due.is("eight sit there; bits of stories that are not there", x.worth(0, 0), 88);
        for (int p = 7; p > 1; p--) {
            x.set(0, p, 1);
            Due.is("less one", x.worth(0, 0), 10 * p + 8);
        }
        Due.rule(x, "likes 0;pays 0;tires not many=9;");
        for (int p = 0; p < 8; p++) {
            x.set(0, p, 0);
        }
        Due.is("nine sit there", x.stranger(0, 40, 0), 1);
    }

    @Says(of = 0, words = "likes: what it is worth to one who hears it (0 .. 99, else the bound).")
    static void likesIsFrom0To99() {
        likes("0", 0);
        likes("0-1", 0);
        likes("1", 1);
        likes("98", 98);
        likes("99", 99);
        likes("100", 99);
        likes(MOST, 99);
        likes(LEAST, 0);
        likes(MOST + "+1", 0);
        likes(LEAST + "-1", 99);
    }

    @Says(of = 0, words = "pays: what it is worth to one who tells it, more (-99 .. 99, else the bound).")
    static void paysIsFromMinus99To99() {
        pays("0-98", -98);
        pays("0-99", -99);
        pays("0-100", -99);
        pays("0-1", -1);
        pays("98", 98);
        pays("99", 99);
        pays("100", 99);
        pays(MOST, 99);
        pays(LEAST, -99);
        pays(MOST + "+1", -99);
        pays(LEAST + "-1", 99);
    }

    @Says(of = 0, words = "tires: whether one does not tell it then (not 0).")
    static void tiredByWhatIsNot0() {
        tires("0", false);
        tires("1-1", false);
        tires("1", true);
        tires("2", true);
        tires("0-1", true);
        tires("100", true);
        tires("256*256*256", true);
        tires(MOST, true);
        tires(LEAST, true);
        tires(LEAST + "*2", false);
    }

    @Says(of = 0, words = "TEXT 0, at first THE RULE, is: likes worth + ( age < 14 ) * 2 ; pays 0 - many ; tires own < 1 ;")
    static void textZero() {
        NotTwice x = Scene.stories(1);
        x.person(40, 1);
        x.person(13, 0);
        Due.is("the rule", x.count(5), 0);
        Due.is("below 14", x.worth(0, 0), 1 + 2 - 2);
        x.set(1, 1, 14);
        Due.is("at 14", x.worth(0, 0), 1 - 2);
        x.set(1, 1, 0);
        Due.is("at 0", x.worth(0, 0), 1 + 2 - 2);
        x.set(1, 0, 5);
        Due.is("the teller's age does not matter", x.worth(0, 0), 1 + 2 - 2);
        x.person(99, 0);
        Due.is("among three", x.worth(0, 0), 1 + 2 + 1 - 3);
        Due.is("one who has a single one to tell", x.may(0), 1);
        x.set(2, 0, 0);
        Due.is("one who has none", x.may(0), 0);
    }
}
