/** Terms: THE TAPE, TOKENS, TEXT, FAULT, TEXTS, and what a text says. */
public final class LawTest {
    private static final String TAPE = "Terms, THE TAPE", TOKENS = "Terms, TOKENS", TEXT = "Terms, TEXT";
    private static final String E = "Terms, an E", FAULT = "Terms, FAULT", TEXTS = "Terms, TEXTS";
    private static final String TAIL = ";turns 1;worth 1;";

    public static void main(String[] args) {
        tape();
        words();
        numbers();
        signs();
        blanks();
        textOfThreeParts();
        whatCanStand();
        whatJoins();
        names();
        values();
        wraps();
        truths();
        faults();
        tooEarly();
        noTokens();
        open();
        openTillItEnds();
        sixTexts();
        theFirstText();
        bounds();
        whatItIsToldOfASecond();
        whatItIsToldAsItIsHad();
        Due.end();
    }

    /** The place of a text's fault, or -1: it is a text. */
    private static void fault(String text, int place) {
        HatDownTheStreet x = new HatDownTheStreet();
        Due.is("text of '" + text + "'", Due.text(x, text), place < 0 ? 1 : -100 - place);
        Due.is("texts behind it", x.count(5), place < 0 ? 2 : 1);
    }

    /** The fault of an E in the first part, its place counted from the E's begin. */
    private static void faultIn(String e, int place) {
        fault("goes " + e + TAIL, place < 0 ? -1 : 5 + place);
    }

    private static void value(String e, int worth) {
        HatDownTheStreet x = Due.withLaw("goes 0;turns 0;worth " + e + ";");
        Due.is("worth of " + e, x.asks(2, 41, 73, 24, 19), worth);
    }

    private static void tape() {
        Due.of(TAPE, "A TEXT is read from THE TAPE (160 bytes at most).");
        String shortest = "goes 1;turns 1;worth 1";
        fault(shortest + " ".repeat(159 - shortest.length()) + ";", -1);
        fault(shortest + ";" + " ".repeat(159 - shortest.length()), -1);
        fault(shortest + " ".repeat(159 - shortest.length()) + "1", 159);
        fault(shortest + " ".repeat(160 - shortest.length()), 160);
        HatDownTheStreet x = new HatDownTheStreet();
        Due.is("160 bytes", Due.feedAll(x, " ".repeat(160)), 160);
        Due.is("one more", x.feed(1, 32, 0, 0, 0, 0), HatDownTheStreet.FULL);
        Due.is("the text's size", x.text(), -260);
        Due.is("160 bytes again", Due.feedAll(x, ";".repeat(160)), 160);
        Due.is("the first of them", x.text(), -100);
        Due.of(TAPE, "160 bytes at most");
        fault("goes" + "1+".repeat(70) + "1;turns1;worth1;", -1);
        fault("goes" + "1+".repeat(70) + "1;turns1;worth1", 159);
        fault("goes1;turns1;worth" + "1*".repeat(70) + "1;", -1);
        fault("goes1;turns" + "1or".repeat(46) + "1;worth1;", -1);
        fault("goes1;turns" + "1and".repeat(34) + "1;worth1;", -1);
    }

    private static void words() {
        Due.of(TOKENS, "TOKENS, each as long as can be: WORDS (as many letters a .. z as stand there)");
        fault("goesz 1;turns 1;worth 1;", 0);
        fault("goesa 1;turns 1;worth 1;", 0);
        fault("goesstrength;turns 1;worth 1;", 0);
        faultIn("1 orlie", 2);
        faultIn("notlie", 0);
        faultIn("liez", 0);
        faultIn("alie", 0);
        faultIn("l ie", 0);
        faultIn("li", 0);
        faultIn("Lie", 0);
        faultIn("lie`", 3);
        faultIn("lie{", 3);
        faultIn("lie@", 3);
        faultIn("lieZ", 3);
        faultIn("lie\u00e9", 3);
        faultIn("not1", -1);
        faultIn("1or1and1", -1);
        faultIn("lie(1)", 3);
        faultIn("lie1", 3);
        faultIn("1lie", 1);
        faultIn("lie lie", 4);
        fault("go es 1;turns 1;worth 1;", 0);
        fault("GOES 1;turns 1;worth 1;", 0);
    }

    private static void numbers() {
        Due.of(TOKENS, "NUMBERS (as many digits as stand there; more than 4 are too long)");
        faultIn("0", -1);
        faultIn("9", -1);
        faultIn("0000", -1);
        faultIn("9999", -1);
        faultIn("00000", 0);
        faultIn("00001", 0);
        faultIn("10000", 0);
        faultIn("123456789012", 0);
        faultIn("1+99999", 2);
        faultIn("12 34", 3);
        faultIn("1 2", 2);
        faultIn("1/2", 1);
        faultIn("1:2", 1);
        faultIn("1.5", 1);
        faultIn("1_0", 1);
        value("0099", 99);
        value("9-8", 1);
        value("9876 - 9870", 6);
        value("1234 - 1200", 34);
    }

    private static void signs() {
        Due.of(TOKENS, "SIGNS ( ) ; + - * < = ; blanks (32, 10) may stand between.");
        faultIn("(1+2-1*3<4)=1", -1);
        for (int b = 0; b < 256; b++) {
            boolean isBlank = b == 32 || b == 10;
            boolean stands = isBlank || b >= '0' && b <= '9' || b == ';' || b == '+' || b == '-' || b == '*' || b == '<' || b == '=';
            // Behind a number a digit makes it longer; a ; ends the part, a second one can't stand.
            HatDownTheStreet x = new HatDownTheStreet();
            Due.feedAll(x, "goes 1");
            x.feed(1, b, 0, 0, 0, 0);
            Due.feedAll(x, b == ';' ? "turns 1;worth 1;" : "1" + TAIL);
            int due = isBlank ? -107 : stands ? 1 : -106;
            Due.is("byte " + b + " behind a number", x.text(), due);
        }
        faultIn("1==1", 2);
        faultIn("1<=1", 2);
        faultIn("1++1", 2);
        faultIn("1**1", 2);
        faultIn("2--1", -1);
        value("2--1", 3);
    }

    private static void blanks() {
        Due.of(TOKENS, "blanks (32, 10) may stand between.");
        fault(" goes1\n;turns\n1;worth1 ; \n ", -1);
        fault("\n\n goes \n 1 \n ; \n turns \n 1 \n ; \n worth \n 1 \n ; \n ", -1);
        fault("goes(1);turns(1);worth(1);", -1);
        faultIn("1\n+\n1", -1);
        faultIn("1\t", 1);
        faultIn("1\r", 1);
        faultIn("1\u000b", 1);
        faultIn("1\f", 1);
        faultIn("1\u00a0", 1);
        faultIn("1\0", 1);
        faultIn("1!", 1);
        faultIn("1\u001f", 1);
        faultIn("not not 0", -1);
        faultIn("- - 1", -1);
    }

    private static void textOfThreeParts() {
        Due.of(TEXT, "TEXT: goes E ; turns E ; worth E ; E: AND { or AND }.");
        fault("goes 1;turns 1;worth 1;", -1);
        fault("turns 1;goes 1;worth 1;", 0);
        fault("worth 1;goes 1;turns 1;", 0);
        fault("1;turns 1;worth 1;", 0);
        fault("goes 1;worth 1;turns 1;", 7);
        fault("goes 1;goes 1;worth 1;", 7);
        fault("goes 1;turns 1;turns 1;", 15);
        fault("goes 1;turns 1;goes 1;", 15);
        fault("goes 1 turns 1;worth 1;", 7);
        fault("goes 1;turns 1 worth 1;", 15);
        fault("goes ;turns 1;worth 1;", 5);
        fault("goes 1;turns ;worth 1;", 13);
        fault("goes 1;turns 1;worth ;", 21);
        fault("goes;turns 1;worth 1;", 4);
        fault("goes 1;;turns 1;worth 1;", 7);
        fault("goes 1;turns 1;worth 1;;", 23);
        fault("goes 1;turns 1;worth 1;goes", 23);
        fault("goes 1;turns 1;worth 1; x", 24);
        fault("goes 1;turns 1;worth 1; 1", 24);
        HatDownTheStreet x = Due.withLaw("goes 7;turns 2;worth 5;");
        Due.is("goes", x.asks(0, 0, 0, 0, 0), 7);
        Due.is("turns", x.asks(1, 0, 0, 0, 0), 2);
        Due.is("worth", x.asks(2, 0, 0, 0, 0), 5);
    }

    private static void whatCanStand() {
        Due.of(TEXT, "NOT: not NOT, or SUM, perhaps < or = and a SUM.");
        faultIn("1 < 2", -1);
        faultIn("1 = 2", -1);
        faultIn("1 < 2 < 3", 6);
        faultIn("1 = 2 = 3", 6);
        faultIn("1 = 2 < 3", 6);
        faultIn("1 < 2 = 3", 6);
        faultIn("(1 < 2) < 3", -1);
        faultIn("1 < (2 < 3)", -1);
        faultIn("1 < not 2", 4);
        faultIn("1 = not 2", 4);
        faultIn("1 < (not 2)", -1);
        faultIn("not 1 < 2 and not not 0 or 1 = 2", -1);
        faultIn("< 1", 0);
        faultIn("= 1", 0);
        Due.of(TEXT, "SUM: TERM { + or - TERM }. TERM: ONE { * ONE }.");
        faultIn("+1", 0);
        faultIn("*1", 0);
        faultIn("1 + not 1", 4);
        faultIn("1 - not 1", 4);
        faultIn("1 * not 1", 4);
        faultIn("1 + + 1", 4);
        faultIn("1 - + 1", 4);
        faultIn("1 + - 1", -1);
        faultIn("1 * - 1", -1);
        faultIn("1 * * 1", 4);
        faultIn("1 +", 3);
        faultIn("1 *", 3);
        Due.of(TEXT, "ONE: a NUMBER, a NAME, - ONE, ( E ).");
        faultIn("- not 1", 2);
        faultIn("-(not 1)", -1);
        faultIn("-", 1);
        faultIn("- ;", 2);
        faultIn("()", 1);
        faultIn("(1", 2);
        faultIn("1)", 1);
        faultIn("(1))", 3);
        faultIn("((1)", 4);
        faultIn("(1 2)", 3);
        faultIn("(1;)", 2);
        faultIn("1(2)", 1);
        faultIn("(1)(2)", 3);
        faultIn("lie more", 4);
        faultIn(")", 0);
        Due.of(TEXT, "E: AND { or AND }. AND: NOT { and NOT }.");
        faultIn("or 1", 0);
        faultIn("and 1", 0);
        faultIn("1 or", 4);
        faultIn("1 and", 5);
        faultIn("1 or or 1", 5);
        faultIn("1 and and 1", 6);
        faultIn("1 or and 1", 5);
        faultIn("1 and or 1", 6);
        faultIn("not", 3);
        faultIn("not or 1", 4);
        faultIn("1 not", 2);
        faultIn("1 or not 1 and not not 1", -1);
    }

    /** What joins more closely than what, and from which side. */
    private static void whatJoins() {
        Due.of(TEXT, "E: AND { or AND }. AND: NOT { and NOT }.");
        value("1 or 0 and 0", 1);
        value("(1 or 0) and 0", 0);
        value("0 and 0 or 1", 1);
        value("0 and (0 or 1)", 0);
        value("0 or 0 or 3", 1);
        value("1 and 2 and 0", 0);
        Due.of(TEXT, "NOT: not NOT, or SUM, perhaps < or = and a SUM.");
        value("not 1 = 2", 1);
        value("(not 1) = 2", 0);
        value("not 0 and 0", 0);
        value("not (0 and 0)", 1);
        value("not 1 or 1", 1);
        value("not 1 + 1", 0);
        value("1 + 1 < 3", 1);
        value("3 < 1 + 1", 0);
        value("1 + (1 < 3)", 2);
        value("2 = 1 + 1", 1);
        value("1 < 2 and 2 < 3", 1);
        value("not not 5", 1);
        value("not not not 5", 0);
        Due.of(TEXT, "SUM: TERM { + or - TERM }. TERM: ONE { * ONE }.");
        value("1+2*3", 7);
        value("2*3+1", 7);
        value("(1+2)*3", 9);
        value("10-3-2", 5);
        value("10-(3-2)", 9);
        value("10-3+2", 9);
        value("2*3*4", 24);
        value("20-2*3*2-1", 7);
        Due.of(TEXT, "ONE: a NUMBER, a NAME, - ONE, ( E ).");
        value("-2*-3", 6);
        value("-2+3", 1);
        value("-(2+3)", -5);
        value("--2", 2);
        value("---2", -2);
        value("2-3", -1);
        value("2 - -3", 5);
        value("((((7))))", 7);
        value("7-2*(3+4*(1-2*(2+3*(1-5*(2-3*9)))))", 99);
        value("1or1and1<1+1*(1or1and1<1+1*(1or1and1<1+1*(1or1and1<1+1*(1or1and1<1+1*(0or1and1<1+1*7)))))", 1);
        // The most that can wait for a right side at once, and what is right of all decides.
        String wait = "0or1and0<0+1*(".repeat(5) + "0or1and0<0+1*";
        value(wait + "7)))))", 1);
        value(wait + "0)))))", 0);
        value("0or 1and 3<1+1*(0or 1and 3<1+1*(0or 1and 3<1+1*(0or 1and 3<1+1*(0or 1and 3<1+1*(0or 1and 8<2+1*7)))))", 0);
    }

    private static void names() {
        Due.of(TEXT, "NAMES: strength lie more second cell kind.");
        value("strength", 4);
        value("lie", 1);
        value("more", 7);
        value("second", 24);
        value("cell", 19);
        value("kind", 3);
        for (String word : new String[] {"wind", "pace", "reach", "square", "seconds", "strengt", "a", "z", "way", "turn", "go"}) {
            faultIn(word, 0);
        }
        for (String key : new String[] {"goes", "turns", "worth", "or", "and"}) {
            faultIn(key, 0);
            faultIn("1 + " + key, 4);
        }
        fault("lie 1;turns 1;worth 1;", 0);
        fault("goes 1;kind 1;worth 1;", 7);
    }

    private static void values() {
        Due.of(E, "of or, and, not, <, = 1 or 0 (what is not 0 is true).");
        value("1<2", 1);
        value("2<2", 0);
        value("3<2", 0);
        value("-1<0", 1);
        value("0<-1", 0);
        value("2=2", 1);
        value("2=3", 0);
        value("3=2", 0);
        value("0=0", 1);
    }

    /** 2147483647 is 2047 * 1024 * 1024 + 1023 * 1024 + 1023. */
    private static void wraps() {
        Due.of(E, "An E is an int (32 bits, wrapping)");
        String most = "(2047*1024*1024+1023*1024+1023)";
        String least = "(2048*1024*1024)";
        value("0 < " + most, 1);
        value(most + "+1 < 0", 1);
        value(most + "+1 = " + least, 1);
        value(least + "-1 = " + most, 1);
        value("-" + least + " = " + least, 1);
        value(least + " < 1", 1);
        value("1 < " + least, 0);
        value(most + " < -1", 0);
        value("-2 < " + most, 1);
        value("2048*2048*1024", 0);
        value("2048*2048*1024 + 5", 5);
        value("9999*9999*9999 + 1027*1000*1000 + 349*1000 + 969", 0);
        value("not (" + least + "+" + least + ")", 1);
    }

    private static void truths() {
        Due.of(E, "of or, and, not, <, = 1 or 0 (what is not 0 is true).");
        value("5 or 0", 1);
        value("0 or 5", 1);
        value("0 or 0", 0);
        value("5 or 7", 1);
        value("-5 or 0", 1);
        value("0 or -1", 1);
        value("4 and 3", 1);
        value("-1 and -2", 1);
        value("5 and 0", 0);
        value("0 and 5", 0);
        value("0 and 0", 0);
        value("not 0", 1);
        value("not 5", 0);
        value("not 1", 0);
        value("not -1", 0);
        value("1 and 2", 1);
        value("1024*1024*2048 and 1", 1);
        value("not (1024*1024*2048)", 0);
        value("1024*1024*2048 or 0", 1);
    }

    private static void faults() {
        Due.of(FAULT, "the place of the first byte of the first TOKEN that can't stand there");
        fault("goes  wind;turns 1;worth 1;", 6);
        fault("goes\n\n\nturns;turns 1;worth 1;", 7);
        fault("goes 1 2 ?;turns 1;worth 1;", 7);
        fault("goes ? 1 2;turns 1;worth 1;", 5);
        fault("goes 1;turns 12345;worth zzz;", 13);
        fault("goes 1;turns zzz;worth 12345;", 13);
        fault("goes 1 12345;turns 1;worth 1;", 7);
        fault("goes 1 zzz;turns 1;worth 1;", 7);
        fault("zzz", 0);
        fault("12345", 0);
        fault("?", 0);
        fault(";", 0);
        fault("goes 1;turns 1;worth 1;?", 23);
        fault("goes 1;turns 1;worth 1; 12345", 24);
        HatDownTheStreet x = new HatDownTheStreet();
        Due.of(FAULT, "of a WORD that is neither KEY nor NAME, a NUMBER that is too long");
        Due.is("one fault", Due.text(x, "goes zzz;turns 1;worth 1;"), -105);
        Due.is("another one", Due.text(x, "goes 1;turns 12345;worth 1;"), -113);
        Due.is("none left", Due.text(x, "goes 1;turns 1;worth 1;"), 1);
    }

    private static void tooEarly() {
        Due.of(FAULT, "(the text's size, if it ends too early)");
        fault("", 0);
        fault(" ", 1);
        fault("  \n", 3);
        String text = "goes 1;turns(1);worth -1;";
        int[] ends = {4, 5, 6, 7, 12, 13, 14, 15, 16, 21, 22, 23, 24};
        for (int end : ends) {
            fault(text.substring(0, end), end);
            fault(text.substring(0, end) + " ", end + 1);
            fault(text.substring(0, end) + " \n ", end + 3);
        }
        fault(text, -1);
        fault("goes 1 +", 8);
        fault("goes 1 <", 8);
        fault("goes not", 8);
        fault("goes 1 or", 9);
        fault("goes (", 6);
        // A word that is cut is another word.
        fault("goe", 0);
        fault("goes 1;turn", 7);
    }

    private static void noTokens() {
        Due.of(FAULT, "also of a byte that begins none");
        for (int b = 0; b < 256; b++) {
            boolean begins = b >= 'a' && b <= 'z' || b >= '0' && b <= '9' || "();+-*<=".indexOf(b) >= 0 || b == 32 || b == 10;
            if (!begins) {
                HatDownTheStreet x = new HatDownTheStreet();
                x.feed(1, b, 0, 0, 0, 0);
                Due.is("byte " + b + " alone", x.text(), -100);
                Due.feedAll(x, "goes 1;turns 1;worth 1;");
                x.feed(1, b, 0, 0, 0, 0);
                Due.is("byte " + b + " behind a text", x.text(), -123);
                Due.feedAll(x, "goes ");
                x.feed(1, b, 0, 0, 0, 0);
                Due.is("byte " + b + " ahead of an E", x.text(), -105);
                Due.feedAll(x, "goes lie");
                x.feed(1, b, 0, 0, 0, 0);
                Due.is("byte " + b + " behind a word", x.text(), -108);
                Due.feedAll(x, "goes 12");
                x.feed(1, b, 0, 0, 0, 0);
                Due.is("byte " + b + " behind a number", x.text(), -107);
            }
        }
    }

    private static void open() {
        Due.of(FAULT, "a ( , a not, a - ahead of a ONE while 5 of these are open");
        faultIn("(((((1)))))", -1);
        faultIn("((((((1))))))", 5);
        faultIn("-----1", -1);
        faultIn("------1", 5);
        faultIn("not not not not not 1", -1);
        faultIn("not not not not not not 1", 20);
        faultIn("not(-(-1))", -1);
        faultIn("not(-(-(1)))", 7);
        faultIn("-(-(-1))", -1);
        faultIn("-(-(-(1)))", 5);
        faultIn("(((((-1)))))", 5);
        faultIn("(((((not 1)))))", 5);
        faultIn("-----(1)", 5);
        faultIn("not not not not not (1)", 20);
        faultIn("not not not not not -1", 20);
        faultIn("((((not 1))))", -1);
        faultIn("((((-1))))", -1);
        faultIn("((((not -1))))", 8);
        faultIn("((((not (1)))))", 8);
        // A - that is not ahead of a ONE opens nothing.
        faultIn("(((((1-1)))))", -1);
        faultIn("-----1-1", -1);
        faultIn("not not not not not 1-1", -1);
        faultIn("(((((1 - - 1)))))", 9);
        fault("(".repeat(160), 0);
        fault("goes" + "(".repeat(156), 9);
        fault("goes" + "-".repeat(156), 9);
        fault("goes" + " not".repeat(39), 25);
    }

    private static void openTillItEnds() {
        Due.of(FAULT, "(a ( till its ) , not and - till what they belong to ends).");
        faultIn("((((1)+(1))))+((((1))))", -1);
        faultIn("(1)+(1)+(1)+(1)+(1)+(1)+(1)", -1);
        faultIn("(((((1)))))+(((((1)))))", -1);
        faultIn("((((1))))+((((((1))))))", 15);
        faultIn("-1+-1+-1+-1+-1+-1+-1", -1);
        faultIn("-----1+-----1", -1);
        faultIn("-----1*-----1", -1);
        faultIn("-----1*(((((1)))))", -1);
        faultIn("not 1 and not 1 and not 1 and not 1 and not 1 and not 1", -1);
        faultIn("not not not not not 1 or not not not not not 1", -1);
        faultIn("not not not not not 1 and (((((1)))))", -1);
        // A not belongs to all of its comparison.
        faultIn("not 1 < ((((1))))", -1);
        faultIn("not 1 < (((((1)))))", 12);
        faultIn("not 1 + ((((1)))) = 1", -1);
        faultIn("not 1 + (((((1)))))", 12);
        faultIn("not ((((1 < -1))))", 12);
        faultIn("not ((((1)))) and -----1", -1);
        faultIn("((((not 1 and not 1))))", -1);
        faultIn("((((not 1 and not -1))))", 18);
        faultIn("((((1+-1))))", -1);
        faultIn("((((1+(-1)))))", 7);
        faultIn("((((-1*(1)))))", -1);
        faultIn("-(1)-(((((1)))))", -1);
        // Each part begins with none open.
        fault("goes (((((1)))));turns (((((1)))));worth -----1;", -1);
    }

    private static void sixTexts() {
        Due.of(TEXTS, "TEXTS are numbered from 0 on, 6 at most");
        HatDownTheStreet x = new HatDownTheStreet();
        Due.is("one at first", x.count(5), 1);
        for (int t = 1; t <= 5; t++) {
            Due.is("a fault has no number", Due.text(x, "goes " + t + ";turns 1;worth ;"), -121);
            Due.is("text " + t, Due.text(x, "goes " + t + ";turns 1;worth 1;"), t);
            Due.is("so many", x.count(5), t + 1);
        }
        Due.is("a seventh", Due.text(x, "goes 9;turns 1;worth 1;"), HatDownTheStreet.FULL);
        Due.is("six", x.count(5), 6);
        for (int t = 1; t <= 5; t++) {
            Due.is("force(" + t + ")", x.force(t), t - 1);
            Due.is("says of its own", x.asks(0, 0, 0, 0, 0), t);
        }
        Due.is("force(6)", x.force(6), HatDownTheStreet.BAD);
    }

    private static void theFirstText() {
        Due.of(TEXTS, "TEXT 0, at first, and THE LAW: goes strength ; turns 1 ; worth 30 - second ;");
        HatDownTheStreet x = new HatDownTheStreet();
        Due.is("THE LAW", x.count(6), 0);
        for (int strength = 0; strength <= 9; strength++) {
            Due.is("goes", x.asks(0, 10 * strength + 2, 95, 24, 31), strength);
            Due.is("turns", x.asks(1, 10 * strength + 2, 95, 24, 31), 1);
        }
        for (int second = 0; second <= 24; second++) {
            Due.is("worth", x.asks(2, 92, 95, second, 31), 30 - second);
        }
        Due.is("THE LAW yields", x.force(0), 0);
        Due.text(x, "goes 1;turns 1;worth 1;");
        Due.is("to another", x.force(1), 0);
        Due.is("and comes back", x.force(0), 1);
        Due.is("as it was", x.asks(2, 0, 0, 7, 0), 23);
    }

    private static void law(String text, int goes, int turns, int worth) {
        HatDownTheStreet x = Due.withLaw(text);
        Due.is("goes of " + text, x.asks(0, 0, 0, 0, 0), goes);
        Due.is("turns of " + text, x.asks(1, 0, 0, 0, 0), turns);
        Due.is("worth of " + text, x.asks(2, 0, 0, 0, 0), worth);
    }

    private static void bounds() {
        Due.of(TEXTS, "(goes 0 .. 9, worth -99 .. 99, else the bound; turns: modulo 3, 0 .. 2 also of what is below 0)");
        law("goes 0;turns 0;worth 99;", 0, 0, 99);
        law("goes -1;turns 1;worth 100;", 0, 1, 99);
        law("goes 9;turns 2;worth 98;", 9, 2, 98);
        law("goes 10;turns 3;worth -98;", 9, 0, -98);
        law("goes 8;turns 4;worth -99;", 8, 1, -99);
        law("goes 11;turns 5;worth -100;", 9, 2, -99);
        law("goes 1;turns 9999;worth 9999;", 1, 0, 99);
        law("goes 9999;turns -1;worth -9999;", 9, 2, -99);
        law("goes -9999;turns -2;worth 0;", 0, 1, 0);
        law("goes 12;turns -3;worth 1;", 9, 0, 1);
        law("goes 13;turns -4;worth -1;", 9, 2, -1);
        // The least and the most int.
        law("goes 2048*1024*1024;turns 2048*1024*1024;worth 2048*1024*1024;", 0, 1, -99);
        law("goes 2048*1024*1024-1;turns 2048*1024*1024-1;worth 2048*1024*1024-1;", 9, 1, 99);
    }

    private static void whatItIsToldOfASecond() {
        Due.of(TEXTS, "lie: as it LIES (as the SECOND begins; of worth: as it is had)");
        HatDownTheStreet x = Due.withLaw("goes lie + 1;turns lie;worth 0;");
        x.hat(0, 8, 1);
        Due.gusts(x, 10, 10);
        Due.is("by how it lies", x.at(0, 1, 0), 10);
        Due.is("turned by how it lay", x.at(0, 1, 1), 2);
        Due.is("by how it lies then", x.at(0, 2, 0), 13);
        Due.is("turned by how it lay then", x.at(0, 2, 1), 1);
        Due.of(TEXTS, "cell: its SQUARE (as the SECOND begins; of worth: where it is had)");
        x = Due.withLaw("goes cell - 7;turns cell - 6;worth 0;");
        x.hat(0, 8, 1);
        Due.gusts(x, 10, 10);
        Due.is("by its square", x.at(0, 1, 0), 9);
        Due.is("turned by where it was", x.at(0, 1, 1), 0);
        x.set(0, 1, 2);
        Due.is("by its square then, lying on its rim", x.at(0, 2, 0), 11);
        Due.of(TEXTS, "of a HAT: strength: STRENGTH (of worth: the CATCHER's PACE)");
        x = Due.withLaw("goes strength - 3;turns strength;worth 0;");
        x.hat(0, 8, 1);
        Due.gusts(x, 15);
        Due.is("by the strength", x.at(0, 1, 0), 10);
        Due.is("turned by it", x.at(0, 1, 1), 0);
        Due.of(TEXTS, "second (of worth: BEHIND how many it is had)");
        x = Due.withLaw("goes second = 0 or second = 23;turns second + 1;worth 0;");
        x.hat(0, 8, 1);
        Due.everyGust(x, 1, 9);
        Due.is("in second 0", x.at(0, 1, 0), 9);
        Due.is("turned by 1", x.at(0, 1, 1), 2);
        Due.is("not in 1 .. 22", x.at(0, 23, 0), 9);
        Due.is("in second 23", x.at(0, 24, 0), 10);
        Due.is("turned by 24", x.at(0, 24, 1), 2);
        Due.of(TEXTS, "more: MORE");
        x = Due.withLaw("goes more;turns more + kind;worth 0;");
        x.hat(14, 8, 2);
        Due.gusts(x, 10);
        Due.is("by more", x.at(0, 1, 0), 12);
        Due.of(TEXTS, "kind: KIND.");
        Due.is("turned by more and kind", x.at(0, 1, 1), 1);
    }

    /** A bowler with 7 on its rim goes 3 and 1 and 1: behind 1 it is in 13 and lies on its brim; one has it by 3. */
    private static void whatItIsToldAsItIsHad() {
        String[] names = {"strength", "lie", "more", "second", "cell", "kind"};
        String[] words = {"of a HAT: strength: STRENGTH (of worth: the CATCHER's PACE)",
            "lie: as it LIES (as the SECOND begins; of worth: as it is had)", "more: MORE",
            "second (of worth: BEHIND how many it is had)", "cell: its SQUARE (as the SECOND begins; of worth: where it is had)",
            "kind: KIND."};
        int[] due = {3, 2, 7, 1, 13, 1};
        for (int i = 0; i < names.length; i++) {
            Due.of(TEXTS, words[i]);
            HatDownTheStreet x = Due.withLaw("goes 3;turns 1;worth " + names[i] + ";");
            x.hat(17, 8, 1);
            x.come(15, 3, 0);
            Due.gusts(x, 19);
            Due.is("worth " + names[i], x.gain(0, 0), due[i]);
        }
    }
}
