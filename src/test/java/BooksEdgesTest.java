/** The boundaries that the document names for the BOOKS, TEXTS and what they say (promises 12 to 23). */
public final class BooksEdgesTest {
    private static final String[] KEYWORDS = {"let", "forbid", "allow", "toll", "of", "way", "if", "or", "and", "not"};
    private static final String[] GIVEN = {"lane", "stretch", "height", "depth", "day", "mill", "draught", "wheel",
        "sacks"};

    private BooksEdgesTest() {
    }

    public static void main(String[] args) {
        heightsOfTheFirstAndLastDay();
        twoHundredHeights();
        iceOfOneDayAlone();
        tapeOf400();
        eachByteAlone();
        eachByteBehindARule();
        wordsOfEightAndNine();
        keywordsAreNoNames();
        givenNamesAreTaken();
        figuresOfFourAndFive();
        blanks();
        bracketsOpenAtOnce();
        twentyRules();
        sixLets();
        firstAlongTheText();
        leastOfOnePlace();
        oneTextBehindAnother();
        faultChangesNothing();
        twelveOfEachShore();
        inForceFromADay();
        wordsInTwoTimes();
        bounds();
        lastWordOfTwenty();
        lanesWithASay();
        greaterWay();
        keptByDepth();
        keptByMills();
        Check.finish();
    }

    private static String repeated(String s, int length) {
        StringBuilder all = new StringBuilder();
        while (all.length() < length) {
            all.append(s);
        }
        all.setLength(length);
        return all.toString();
    }

    /** "HEIGHT of a DAY is told at the DAY at hand, of any DAY": 0 and 999, on the DAY itself, ahead, behind. */
    private static void heightsOfTheFirstAndLastDay() {
        MillBoats x = new MillBoats();
        Check.due("12 DAY 999, HEIGHT 0", x.height(999, 0), true);
        Check.due("14 the DAY itself", x.heightOf(999, 0), 0);
        Check.due("14 ahead of all that was told: 5", x.heightOf(998, 0), 5);
        Check.due("14 ahead of all that was told: 5", x.heightOf(0, 0), 5);
        x.day();
        Check.due("12 DAY 0 on DAY 1, HEIGHT 20", x.height(0, 20), true);
        Check.due("14 DAY 0 as known on DAY 1", x.heightOf(0, 1), 20);
        Check.due("14 DAY 0 as known on DAY 0", x.heightOf(0, 0), 5);
        Check.due("14 DAY 998 as known on DAY 1", x.heightOf(998, 1), 20);
        Check.due("14 DAY 998 as known on DAY 0", x.heightOf(998, 0), 5);
        Check.due("14 DAY 999 as known on DAY 1", x.heightOf(999, 1), 0);
        x.height(0, 7);
        x.height(0, 6);
        Check.due("14 told last on one DAY", x.heightOf(0, 1), 6);
        Check.due("14 carried on", x.heightOf(500, 1), 6);
        x.height(1, 9);
        x.height(0, 3);
        Check.due("14 the latest DAY, not what was told last", x.heightOf(2, 1), 9);
        Check.due("14 the DAY itself", x.heightOf(0, 1), 3);
    }

    /** "False: .. 200 were told": the 200th is told, those that were refused don't count. */
    private static void twoHundredHeights() {
        MillBoats x = new MillBoats();
        x.day();
        for (int i = 0; i < 50; i++) {
            Check.due("12 refused", x.height(1000 + i, 5), false);
            Check.due("13 refused", x.ice(-1 - i, true), false);
        }
        for (int i = 0; i < 199; i++) {
            x.height(3, 5);
        }
        Check.due("12 the 200th", x.height(3, 8), true);
        Check.due("14 the 200th", x.heightOf(3, 1), 8);
        Check.due("12 the 201st", x.height(3, 9), false);
        Check.due("14 the 201st isn't told", x.heightOf(3, 1), 8);
        Check.due("12 nor one of another DAY", x.height(4, 9), false);
        x.day();
        Check.due("12 nor one on another DAY", x.height(3, 9), false);
        Check.due("13 ICE is counted by itself", x.ice(3, true), true);
        MillBoats y = new MillBoats();
        for (int i = 0; i < 199; i++) {
            y.ice(3, false);
        }
        Check.due("13 the 200th", y.ice(3, true), true);
        Check.due("15 the 200th", y.iceOf(3, 0), 1);
        Check.due("13 the 201st", y.ice(3, false), false);
        Check.due("15 the 201st isn't told", y.iceOf(3, 0), 1);
        Check.due("13 also one that there is none", y.ice(999, false), false);
    }

    /** "ICE: what was told last of that DAY by then; else none". */
    private static void iceOfOneDayAlone() {
        int[] days = {0, 1, 500, 999};
        for (int d : days) {
            MillBoats x = new MillBoats();
            Check.due("13 ICE of DAY " + d, x.ice(d, true), true);
            for (int of : days) {
                Check.due("15 DAY " + of, x.iceOf(of, 0), of == d ? 1 : 0);
            }
            Check.due("15 the DAY behind", x.iceOf(Math.min(999, d + 1), 0), d == 999 ? 1 : 0);
            Check.due("15 the DAY ahead", x.iceOf(Math.max(0, d - 1), 0), d == 0 ? 1 : 0);
            x.day();
            x.ice(d, false);
            Check.due("15 as known ahead of it", x.iceOf(d, 0), 1);
            Check.due("15 that there is none", x.iceOf(d, 1), 0);
        }
    }

    /** "TEXT (at most 400 bytes)": the TAPE full, to its last byte. */
    private static void tapeOf400() {
        String rule = "way 1 if 1=1;";
        BooksTest.fine(repeated(" ", 400), 0);
        BooksTest.fine(repeated("\n", 400 - 13) + rule, 1);
        BooksTest.fine(rule + repeated(" ", 400 - 13), 1);
        BooksTest.fault(repeated(" ", 400 - 12) + "way 1 if 1=1", 1, 400);
        BooksTest.fine("forbid if 1" + repeated("+1", 386) + "=1;", 1);
        BooksTest.fault("forbid if 1" + repeated("+1", 386) + "=11", 1, 400);
        BooksTest.fault("forbid if 1" + repeated("+1", 386) + "=1+", 1, 400);
        BooksTest.fine("let a=" + repeated("1*", 392) + "1;", 1);
        BooksTest.fine("forbid if  " + repeated("not ", 384) + " 1=1;", 1);
        BooksTest.fault(repeated("a", 400), 1, 0);
        BooksTest.fault(repeated("7", 400), 1, 0);
        BooksTest.fault("way " + repeated("1", 396), 1, 4);
        BooksTest.fault("let " + repeated("a", 396), 1, 4);
        BooksTest.fault("let a=" + repeated("(", 394), 4, 10);
        BooksTest.fault("forbid if " + repeated("[", 390), 4, 14);
        BooksTest.fault(repeated(" ", 399) + "#", 1, 399);
        BooksTest.fault(repeated(rule, 20 * 13) + repeated(" ", 400 - 20 * 13 - 3) + "way", 4, 397);
    }

    /** "1 a byte .. with which no text goes on", "blanks (32, 10)", "all other signs one by one". */
    private static void eachByteAlone() {
        for (int b = 0; b < 256; b++) {
            if (b == 32 || b == 10) {
                BooksTest.fine("" + (char) b, 0);
            } else {
                BooksTest.fault("" + (char) b, 1, 0);
                BooksTest.fault(" \n" + (char) b, 1, 2);
            }
        }
    }

    private static void eachByteBehindARule() {
        for (int b = 0; b < 256; b++) {
            String text = "way 1 if 1=1 " + (char) b;
            if (b == ';') {
                BooksTest.fine(text, 1);
            } else if (b == 32 || b == 10 || b == '+' || b == '-' || b == '*') {
                BooksTest.fault(text, 1, 14);
            } else {
                BooksTest.fault(text, 1, 13);
            }
            text = "way 1 if 1=" + (char) b + "1;";
            if (b == 32 || b == 10) {
                BooksTest.fine(text, 1);
            } else if (b >= '0' && b <= '9') {
                BooksTest.fine(text, 1);
            } else if (b >= 'a' && b <= 'z') {
                BooksTest.fault(text, 3, 11);
            } else if (b == '(') {
                BooksTest.fault(text, 1, 13);
            } else {
                BooksTest.fault(text, 1, 11);
            }
        }
    }

    /** "NAMES: 1 to 8 small letters", "a WORD of more than 8 letters .. at the first one". */
    private static void wordsOfEightAndNine() {
        String word = "";
        for (int n = 1; n <= 12; n++) {
            word += (char) ('a' + n % 26);
            if (n <= 8) {
                BooksTest.fine("let " + word + "=1;forbid if " + word + "=1;", 2);
                BooksTest.fault("let " + word, 1, 4 + n);
                BooksTest.fault("forbid if 1=" + word + ";", 3, 12);
            } else {
                BooksTest.fault("let " + word + "=1;", 1, 4);
                BooksTest.fault("forbid if " + word + "=1;", 1, 10);
                BooksTest.fault("forbid if 1=" + word + ";", 1, 12);
                BooksTest.fault(word, 1, 0);
                BooksTest.fault("forbid if 1=1;" + word, 1, 14);
                BooksTest.fault("forbid if 1=1" + word, 1, 13);
            }
        }
        BooksTest.fine("let zzzzzzzz=1;let aaaaaaaa=zzzzzzzz;forbid if aaaaaaaa=1;", 3);
        BooksTest.fault("forbidif 1=1;", 1, 0);
        BooksTest.fault("forbid iflane=1;", 1, 7);
        BooksTest.fault("forbid if lanestretch=1;", 1, 10);
        BooksTest.fault("let a=1;let b=aa;", 3, 14);
        BooksTest.fault("let aa=1;let b=a;", 3, 15);
        BooksTest.fault("let abcdefgh=1;let b=abcdefg;", 3, 21);
    }

    /** "NAMES: .. none of let, forbid, allow, toll, of, way, if, or, and, not". */
    private static void keywordsAreNoNames() {
        for (String word : KEYWORDS) {
            BooksTest.fault("let " + word + "=1;", 1, 4);
            BooksTest.fault("let a=" + word + ";", 1, 6);
            BooksTest.fault("let a=1+" + word + ";", 1, 8);
            BooksTest.fault("let a=2*(" + word + ");", 1, 9);
            BooksTest.fault("forbid if 1<" + word + ";", 1, 12);
            if (!word.equals("not")) {
                BooksTest.fault("forbid if " + word + "=1;", 1, 10);
                BooksTest.fault("forbid if not " + word + "=1;", 1, 14);
                BooksTest.fault("forbid if [" + word + "=1];", 1, 11);
            }
            BooksTest.fault("toll 1 of " + word + " if 1=1;", 1, 10);
            BooksTest.fault("way " + word + " if 1=1;", 1, 4);
            BooksTest.fine("let " + word + "x=1;let x" + word + "=" + word + "x;forbid if x" + word + "=1;", 3);
        }
        String[] notBegin = {"of", "if", "or", "and", "not", "lane", "a"};
        for (String word : notBegin) {
            BooksTest.fault(word + " 1=1;", 1, 0);
            BooksTest.fault("way 1 if 1=1;" + word, 1, 13);
        }
    }

    /** "3 .. one in a let that there is": the nine, and one of a let. */
    private static void givenNamesAreTaken() {
        for (String name : GIVEN) {
            BooksTest.fault("let " + name + "=1;", 3, 4);
            BooksTest.fine("forbid if " + name + "=1;", 1);
            BooksTest.fine("let a=" + name + ";", 1);
            if (name.length() < 8) {
                BooksTest.fine("let " + name + "s=1;let b=" + name + "s;", 2);
                BooksTest.fault("forbid if " + name + "s=1;", 3, 10);
            }
            BooksTest.fault("forbid if " + name.substring(1) + "=1;", 3, 10);
        }
        BooksTest.fault("let a=1;let a=2;", 3, 12);
        BooksTest.fault("let a=1;let b=2;let a=3;", 3, 20);
        BooksTest.fault("let a=a;", 3, 6);
        BooksTest.fault("let a=1+a;", 3, 8);
        BooksTest.fault("forbid if a=1;let a=1;", 3, 10);
        BooksTest.fault("let b=a;let a=1;", 3, 6);
        // a NAME is there for all RULES behind its let, not for its own
        BooksTest.fine("let a=1;let b=a;toll 1 of 2 if a=b;way 1 if a=1;allow if b=1;forbid if a+b*a=1;", 6);
    }

    /** "N: 1 to 4 figures", "more than 4 figures: at the first one", at each place of an N. */
    private static void figuresOfFourAndFive() {
        String n = "";
        for (int length = 1; length <= 6; length++) {
            n += "1";
            if (length <= 4) {
                BooksTest.fine("forbid if " + n + "=" + n + ";", 1);
                BooksTest.fine("toll " + n + " of " + n + " if 1=1;", 1);
                BooksTest.fine("way " + "0".repeat(length - 1) + "6 if 1=1;", 1);
                BooksTest.fault("way " + "0".repeat(length - 1) + "7 if 1=1;", 2, 4);
            } else {
                BooksTest.fault("forbid if " + n + "=1;", 1, 10);
                BooksTest.fault("forbid if 1=" + n + ";", 1, 12);
                BooksTest.fault("toll " + n + " of 9999 if 1=1;", 1, 5);
                BooksTest.fault("toll 1 of " + n + " if 1=1;", 1, 10);
                BooksTest.fault("way " + n + " if 1=1;", 1, 4);
                BooksTest.fault("way " + "0".repeat(length - 1) + "6 if 1=1;", 1, 4);
            }
        }
        BooksTest.fine("toll 0000 of 0001 if 1=1;toll 9998 of 9999 if 1=1;toll 9999 of 9999 if 1=1;", 3);
        BooksTest.fault("toll 0 of 0000 if 1=1;", 2, 10);
        BooksTest.fault("toll 9999 of 9998 if 1=1;", 2, 13);
        BooksTest.fault("toll 2 of 1 if 1=1;", 2, 10);
        BooksTest.fault("toll 1 of 0 if 1=1;", 2, 10);
    }

    /** "TOKENS, blanks (32, 10) between where one likes": between, and not within. */
    private static void blanks() {
        BooksTest.fine("let  a \n = ( 1 + 2 ) * 3 ; \n\n forbid \n if not [ a \n < 4 ] or 1 = 2 and 3 > 4 ; ", 2);
        BooksTest.fine("let a=(1+2)*3;forbid if not[a<4]or 1=2and 3>4;", 2);
        BooksTest.fine("toll 1of 2if 1=1;way 3if 1=1;allow if 1=1and 2=2or 3=3;", 3);
        BooksTest.fault("for bid if 1=1;", 1, 0);
        BooksTest.fault("forbid i f 1=1;", 1, 7);
        BooksTest.fault("forbid if 1 1=11;", 1, 12);
        BooksTest.fault("forbid if la ne=1;", 3, 10);
        BooksTest.fault("forbid if lane 1=1;", 1, 15);
        BooksTest.fault("forbid if lane1=1;", 1, 14);
        BooksTest.fault("forbid if 1lane=1;", 1, 11);
        BooksTest.fault("forbid if 1=1 an d 1=1;", 1, 14);
        BooksTest.fault("way 1 0 if 1=1;", 1, 6);
        BooksTest.fault("\tforbid if 1=1;", 1, 0);
        BooksTest.fault("forbid if 1=1;\r", 1, 14);
    }

    /** "a 5th bracket (of both sorts together) that is open at once". */
    private static void bracketsOpenAtOnce() {
        String[] opened = {"((((", "[(((", "[[((", "[[[(", "[[[["};
        String[] closed = {"))))", ")))", "))", ")", ""};
        for (int square = 0; square <= 4; square++) {
            String behind = "]".repeat(square);
            String cond = opened[square] + "1" + closed[square] + "=1" + behind;
            BooksTest.fine("forbid if " + cond + " and " + cond + " or not " + cond + ";", 1);
            BooksTest.fault("forbid if " + opened[square] + "(1", 4, 14);
            String left = "forbid if " + opened[square] + "1" + closed[square] + "=" + "(".repeat(4 - square);
            BooksTest.fault(left + "(1", 4, left.length());
            if (square == 4) {
                BooksTest.fault("forbid if [[[[[1=1", 4, 14);
                BooksTest.fault("forbid if [[[[not [1=1", 4, 18);
                BooksTest.fault("forbid if [[[[1=1 and [1=1", 4, 22);
                BooksTest.fault("forbid if [[[[1=1 or [1=1", 4, 21);
                BooksTest.fine("forbid if [[[[1=1] and [1=1]]]];", 1);
            } else {
                BooksTest.fault("forbid if " + opened[square] + "[1", 1, 14);
            }
            BooksTest.fault("forbid if " + opened[square] + "1(", 1, 15);
            BooksTest.fault("forbid if " + opened[square] + "1[", 1, 15);
        }
        BooksTest.fine("let a=((((1))))+((((2))))*((((3))));", 1);
        BooksTest.fault("let a=((((1+(2", 4, 12);
        BooksTest.fine("let a=((1)+2)+(3*(4+(5*(6-7))));", 1);
        BooksTest.fault("forbid if ((1)=1;", 1, 14);
        BooksTest.fault("forbid if (1))=1;", 1, 13);
        BooksTest.fault("forbid if [1=1;", 1, 14);
        BooksTest.fault("forbid if [1=1]];", 1, 15);
        BooksTest.fault("forbid if ()=1;", 1, 11);
        BooksTest.fault("forbid if [];", 1, 11);
    }

    /** "4 as a 21st RULE begins". */
    private static void twentyRules() {
        String[] one = {"way 1 if 1=1;", "toll 1 of 1 if 1=1;", "allow if 1=1;", "forbid if 1=1;"};
        String[] begins = {"way", "toll", "allow", "forbid", "let"};
        for (String rule : one) {
            String twenty = rule.repeat(20);
            BooksTest.fine(twenty.substring(0, 19 * rule.length()), 19);
            BooksTest.fine(twenty, 20);
            for (String begin : begins) {
                BooksTest.fault(twenty + begin, 4, twenty.length());
                BooksTest.fault(twenty + "\n" + begin + " ;", 4, twenty.length() + 1);
            }
            BooksTest.fault(twenty + "way7", 4, twenty.length());
            BooksTest.fault(twenty + "wayy", 1, twenty.length());
            BooksTest.fault(twenty + "if", 1, twenty.length());
            BooksTest.fault(twenty + "let1 ", 4, twenty.length());
            BooksTest.fault(twenty + "!", 1, twenty.length());
            BooksTest.fault(twenty.substring(0, twenty.length() - 1), 1, twenty.length() - 1);
        }
    }

    /** "a 7th let (at its NAME, if it may stand there otherwise)". */
    private static void sixLets() {
        String six = "";
        for (int n = 1; n <= 6; n++) {
            six += "let n" + (char) ('a' + n) + "=" + (n == 1 ? "1" : "n" + (char) ('a' + n - 1)) + ";";
        }
        int end = six.length();
        BooksTest.fine(six, 6);
        BooksTest.fine(six + "forbid if ng=1;allow if nb=1;", 8);
        BooksTest.fault(six + "let nh=1;", 4, end + 4);
        BooksTest.fault(six + "let   nh", 4, end + 6);
        BooksTest.fault(six + "way 1 if 1=1;let nh=ng;", 4, end + 17);
        BooksTest.fault(six + "let ng=1;", 3, end + 4);
        BooksTest.fault(six + "let sacks=1;", 3, end + 4);
        BooksTest.fault(six + "let allow=1;", 1, end + 4);
        BooksTest.fault(six + "let 7=1;", 1, end + 4);
        BooksTest.fault(six + "let abcdefghi=1;", 1, end + 4);
        BooksTest.fault(six + "let ;", 1, end + 4);
        BooksTest.fault(six + "let ", 1, end + 4);
    }

    /** "FAULTS, the first along the text": what comes behind it doesn't matter. */
    private static void firstAlongTheText() {
        BooksTest.fault("way 7 if a=1;", 2, 4);
        BooksTest.fault("forbid if a=1;way 7 if 1=1;", 3, 10);
        BooksTest.fault("toll 2 of 1 iff 1=1;", 2, 10);
        BooksTest.fault("forbid if (((((a", 4, 14);
        BooksTest.fault("forbid if ((((a", 3, 14);
        BooksTest.fault("forbid if 1=1 and a=1;", 3, 18);
        BooksTest.fault("forbid if 1=1 or a=1;", 3, 17);
        BooksTest.fault("forbid if 1=1 and 1=1 and [a=1];", 3, 27);
        BooksTest.fault("forbid if not a=1;", 3, 14);
        BooksTest.fault("forbid if 1+a=1;", 3, 12);
        BooksTest.fault("forbid if 1*a=1;", 3, 12);
        BooksTest.fault("forbid if 1=1*(2-a);", 3, 17);
        BooksTest.fault("forbid if a b=1;", 3, 10);
        BooksTest.fault("let a=1;let a=b;", 3, 12);
        BooksTest.fault("let lane 1", 3, 4);
        BooksTest.fault("toll 3 of 2 of 1", 2, 10);
        BooksTest.fault("forbid if 1=1 #;way 7", 1, 14);
        BooksTest.fault("way 6 if 1=1;way 7 if 1=1;way 8", 2, 17);
        BooksTest.fault("forbid if 1=1 and [[[[[a=1", 4, 22);
        BooksTest.fault("forbid if 1=1 or [[[[[a=1", 4, 21);
    }

    /** "of one place the least". */
    private static void leastOfOnePlace() {
        // 1 and 2: too many figures, and above 6 or too little
        BooksTest.fault("way 77777", 1, 4);
        BooksTest.fault("toll 9 of 00000", 1, 10);
        // 1 and 3: a WORD of nine letters is no NAME that there isn't
        BooksTest.fault("forbid if abcdefghi=1;", 1, 10);
        // 1 and 4
        String twenty = "way 1 if 1=1;".repeat(20);
        BooksTest.fault(twenty + "lets", 1, 260);
        BooksTest.fault("forbid if ((((1=(", 1, 15);
        // 3 and 4
        BooksTest.fault("let a=1;let b=1;let c=1;let d=1;let e=1;let f=1;let a=1;", 3, 52);
    }

    /** What one text had open, named and counted is no more there in the next. */
    private static void oneTextBehindAnother() {
        String six = "let a=1;let b=1;let c=1;let d=1;let e=1;let f=1;";
        MillBoats x = new MillBoats();
        Check.due("18 six lets", Check.rules(x, 0, 0, six), 6);
        Check.due("18 six lets again", Check.rules(x, 0, 0, six), 6);
        Check.due("18 a NAME of the text ahead", Check.rules(x, 0, 0, "forbid if a=1;"), -4);
        Check.due("19 there", x.place(), 10);
        Check.due("18 a NAME of a text with a FAULT", Check.rules(x, 0, 0, "let q=1;let q"), -4);
        Check.due("18 is not there", Check.rules(x, 0, 0, "forbid if q=1;"), -4);
        Check.due("18 six lets with a FAULT", Check.rules(x, 0, 0, six + "!"), -2);
        Check.due("18 six lets again", Check.rules(x, 0, 0, six), 6);
        Check.due("18 four brackets that stay open", Check.rules(x, 1, 0, "forbid if ((((1"), -2);
        Check.due("18 four brackets", Check.rules(x, 1, 0, "forbid if ((((1))))=1;"), 1);
        Check.due("18 a fifth", Check.rules(x, 1, 0, "forbid if [[[[[1=1"), -5);
        Check.due("18 four brackets", Check.rules(x, 1, 0, "forbid if [[[[1=1]]]];"), 1);
        Check.due("18 twenty RULES", Check.rules(x, 1, 0, "way 1 if 1=1;".repeat(20)), 20);
        Check.due("18 a 21st", Check.rules(x, 1, 0, "way 1 if 1=1;".repeat(21)), -5);
        Check.due("18 twenty RULES again", Check.rules(x, 1, 0, "way 1 if 1=1;".repeat(20)), 20);
        Check.due("18 a short text behind a long one", Check.rules(x, 1, 0, "way 1 if 1=1;"), 1);
        Check.due("18 none behind it", Check.rules(x, 1, 0, ""), 0);
        Check.due("19 no FAULT", x.place(), -1);
        Check.due("35 texts", x.count(6), 6);
    }

    /** "A text with a FAULT changes nothing": the one in force stays in force. */
    private static void faultChangesNothing() {
        String[] faults = {"way 3 if 1=1;way 7", "way 3 if 1=1;#", "way 3 if 1=1;forbid if q=1;", "way 3 if 1=1;let a",
            "way 3 if 1=1;let lane=1;", "way 3 if 1=1;".repeat(21)};
        MillBoats x = new MillBoats();
        x.mill(1, 1, 1);
        Check.rules(x, 0, 0, "way 2 if 1=1;forbid if lane=1;");
        for (String text : faults) {
            Check.due("18 a FAULT", Check.rules(x, 0, 0, text) < -1, true);
            Check.due("19 its place", x.place() > 0, true);
            Check.due("22 the RULES in force", x.way(0, 0, 0), 2);
            Check.due("20 the RULES in force", x.barred(0, 12, 0, 0), 1);
            Check.due("35 one text", x.count(5), 1);
            Check.due("35 an empty TAPE", x.count(4), 0);
        }
    }

    /** "NONE: .. twelve of that SHORE are there (the TAPE stays)". */
    private static void twelveOfEachShore() {
        for (int shore = 0; shore < 2; shore++) {
            MillBoats x = new MillBoats();
            for (int i = 1; i <= 12; i++) {
                Check.due("18 a FAULT is none of the twelve", Check.rules(x, shore, 0, "!"), -2);
                Check.due("18 text " + i, Check.rules(x, shore, i, "way " + i % 7 + " if 1=1;"), 1);
                Check.due("35 texts", x.count(5 + shore), i);
                Check.due("35 texts of the other", x.count(6 - shore), 0);
            }
            Check.feed(x, "way 6 if 1=1;");
            Check.due("18 a thirteenth", x.rules(shore, 0), -1);
            Check.due("18 the TAPE stays", x.count(4), 13);
            Check.due("35 twelve", x.count(5 + shore), 12);
            for (int i = 1; i <= 12; i++) {
                Check.due("22 each from its DAY on", x.way(0, i, 0), i % 7);
            }
            Check.due("22 none ahead of the first", x.way(0, 0, 0), 0);
            Check.due("18 the same TAPE, of the other SHORE", x.rules(1 - shore, 0), 1);
            Check.due("22 in force there", x.way(0, 0, 0), 6);
        }
    }

    /** "In force on DAY d, as known on DAY k, is of those told by k, from d or ahead, that of the latest such DAY". */
    private static void inForceFromADay() {
        MillBoats x = new MillBoats();
        Check.rules(x, 0, 999, "way 1 if 1=1;");
        Check.due("22 from DAY 999 on", x.way(0, 999, 0), 1);
        Check.due("22 not on DAY 998", x.way(0, 998, 0), 0);
        Check.rules(x, 0, 0, "way 2 if 1=1;");
        Check.due("22 from DAY 0 on", x.way(0, 0, 0), 2);
        Check.due("22 that of the latest DAY, though told ahead", x.way(0, 999, 0), 1);
        Check.due("22 DAY 998", x.way(0, 998, 0), 2);
        Check.rules(x, 0, 999, "way 3 if 1=1;");
        Check.due("22 of one DAY the last told", x.way(0, 999, 0), 3);
        x.day();
        Check.rules(x, 0, 999, "");
        Check.due("22 none of its RULES hold", x.way(0, 999, 1), 0);
        Check.due("22 as known on DAY 0", x.way(0, 999, 0), 3);
        Check.rules(x, 0, 0, "way 4 if 1=1;");
        Check.due("22 told behind, of a DAY that has gone by", x.way(0, 0, 1), 4);
        Check.due("22 as known on that DAY", x.way(0, 0, 0), 2);
        Check.rules(x, 1, 2, "way 6 if 1=1;");
        Check.due("22 each SHORE by itself", x.way(0, 1, 1), 4);
        Check.due("22 both", x.way(0, 2, 1), 6);
    }

    private static boolean holds(String cond) {
        MillBoats x = new MillBoats();
        Check.due("18 " + cond, Check.rules(x, 0, 0, cond), 4);
        return x.way(0, 0, 0) == 6;
    }

    /** A SHORE's WORD on DAY d as known on DAY k: by the text in force then, and by the HEIGHT of then. */
    private static void wordsInTwoTimes() {
        MillBoats x = new MillBoats();
        x.mill(1, 1, 1);
        Check.rules(x, 1, 0, "forbid if 1=1;");
        Check.rules(x, 1, 5, "way 1 if 1=1;allow if height=5;");
        x.day();
        Check.rules(x, 1, 5, "way 1 if 1=1;let a=1;forbid if height=5;allow if height=9;");
        x.height(4, 9);
        x.day();
        x.height(5, 5);
        int[][] due = {{0, 0, 1, 1}, {0, 0, 3, 3}, {0, 0, 2, 2}};
        int[][] stands = {{2, 2, 0, 0}, {2, 2, 0, 0}, {2, 2, 2, 2}};
        int[] days = {0, 4, 5, 999};
        for (int k = 0; k < 3; k++) {
            for (int i = 0; i < 4; i++) {
                Check.due("21 DAY " + days[i] + " as known on DAY " + k, x.word(1, 0, 71, days[i], k), due[k][i]);
                Check.due("20 DAY " + days[i] + " as known on DAY " + k, x.barred(0, 71, days[i], k), stands[k][i]);
            }
        }
    }

    /** "each sum, difference, product above 1000000000 is that, below -1000000000 likewise". */
    private static void bounds() {
        String lets = "let k=1000*1000;let b=k*1000;let n=0-b;way 6 if ";
        String[] hold = {"b-1=999*k+999*1000+999", "b-1<b", "b+1=b", "b+b=b", "b*b=b", "b*1=b", "b*2=b", "n-1=n",
            "n+n=n", "n*2=n", "n*b=n", "b*n=n", "n*n=b", "b-n=b", "n-b=n", "b+n=0", "b+1-1=b-1", "b-1+1=b",
            "n+1-1=n", "n-1+1=n+1", "b+1+n=0", "n*2+b=0", "b*2-b=0", "(b-1)+1=b", "(b-1)+2=b", "b*0=0", "n*0=0",
            "b+(1-1)=b", "(0-1)*b=n", "(0-1)*n=b", "9999*9999=9998*(9999+1)+1",
            "9999*9999*10=(9998*(9999+1)+1)*10", "9999*9999*11=b", "(0-9999)*9999*11=n", "n<0-b+1", "n=0-b",
            "not b-1=b", "not n+1=n"};
        for (String cond : hold) {
            Check.due("21 " + cond, holds(lets + cond + ";"), true);
        }
    }

    /** "its last forbid or allow whose COND holds", "(from 0 on)": of twenty RULES. */
    private static void lastWordOfTwenty() {
        StringBuilder text = new StringBuilder();
        for (int i = 0; i < 20; i++) {
            text.append(i % 2 == 0 ? "forbid" : "allow").append(" if lane").append(i == 0 ? "<9" : "=9").append(';');
        }
        MillBoats x = new MillBoats();
        x.mill(1, 1, 1);
        Check.due("18 twenty", Check.rules(x, 0, 0, text.toString()), 20);
        Check.due("21 the first of twenty", x.word(0, 0, 0, 0, 0), 0);
        Check.due("20 a forbid", x.barred(0, 0, 0, 0), 1);
        String last = text.substring(0, text.length() - 2) + "0;";
        Check.due("18 twenty", Check.rules(x, 0, 0, last), 20);
        Check.due("21 the last of twenty", x.word(0, 0, 0, 0, 0), 19);
        Check.due("20 an allow", x.barred(0, 0, 0, 0), 0);
        Check.due("21 elsewhere the first", x.word(0, 0, 12, 0, 0), 0);
        Check.rules(x, 0, 0, "way 1 if 1=1;toll 1 of 2 if 1=1;let a=1;");
        Check.due("21 neither way nor toll nor let is a WORD", x.word(0, 0, 0, 0, 0), -1);
        Check.due("20 nor does it bar", x.barred(0, 0, 0, 0), 0);
        Check.rules(x, 0, 0, "forbid if 1=2;allow if 1=2;");
        Check.due("21 none holds", x.word(0, 0, 0, 0, 0), -1);
    }

    /** "SHORE 0 has a say in LANES 0 to 3, SHORE 1 in LANES 2 to 5": at the first and last STRETCH of each LANE. */
    private static void lanesWithASay() {
        String[] words = {"forbid", "allow"};
        for (String zero : words) {
            for (String one : words) {
                MillBoats x = new MillBoats();
                x.mill(1, 1, 1);
                Check.rules(x, 0, 0, zero + " if 1=1;");
                Check.rules(x, 1, 0, one + " if 1=1;");
                for (int b = 0; b < 72; b++) {
                    boolean both = b >= 24 && b < 48;
                    int due = zero.equals("forbid") && b < 48 ? 1 : 0;
                    due += one.equals("forbid") && b >= 24 ? 2 : 0;
                    due += both && !zero.equals(one) ? 4 : 0;
                    Check.due("20 " + zero + ", " + one + " at BERTH " + b, x.barred(0, b, 0, 0), due);
                    Check.due("21 WORD of SHORE 0, also where it has no say", x.word(0, 0, b, 0, 0), 0);
                    Check.due("21 WORD of SHORE 1, also where it has no say", x.word(1, 0, b, 0, 0), 0);
                }
            }
        }
        // a forbid of one and no WORD of the other is no QUARREL
        MillBoats y = new MillBoats();
        y.mill(1, 1, 1);
        Check.rules(y, 0, 0, "forbid if 1=1;");
        Check.due("20 no RULES of the other", y.barred(0, 24, 0, 0), 1);
        Check.rules(y, 1, 0, "allow if 1=2;");
        Check.due("20 no WORD of the other", y.barred(0, 47, 0, 0), 1);
    }

    /** "of each SHORE the N of its last way whose COND holds (0 without), the greater of both". */
    private static void greaterWay() {
        for (int zero = 0; zero <= 6; zero++) {
            for (int one = 0; one <= 6; one++) {
                MillBoats x = new MillBoats();
                Check.rules(x, 0, 0, "way 6 if 1=1;way " + zero + " if 1=1;way 5 if 1=2;");
                Check.rules(x, 1, 0, "way " + one + " if stretch<12;");
                Check.due("22 " + zero + " and " + one, x.way(11, 0, 0), Math.max(zero, one));
                Check.due("22 " + zero + " and " + one, x.way(0, 999, 0), Math.max(zero, one));
            }
        }
    }

    private static int longestRow(int open) {
        int longest = 0;
        for (int from = 0; from < 6; from++) {
            int row = 0;
            while (from + row < 6 && (open >> (from + row) & 1) == 1) {
                row++;
            }
            longest = Math.max(longest, row);
        }
        return longest;
    }

    /** "KEPT, if so many LANES side by side have no MILL there and DEPTH 2 or more": all sets of LANES. */
    private static void keptByDepth() {
        for (int n = 0; n <= 6; n++) {
            for (int open = 0; open < 64; open += 12) {
                MillBoats x = new MillBoats();
                Check.rules(x, 1, 0, "way " + n + " if 1=1;");
                for (int s = 0; s < 12; s++) {
                    for (int lane = 0; lane < 6; lane++) {
                        x.bed(lane * 12 + s, (open + s >> lane & 1) == 1 ? 3 : 4);
                    }
                }
                for (int s = 0; s < 12 && open + s < 64; s++) {
                    Check.due("23 WAY " + n + ", deep LANES " + Integer.toBinaryString(open + s), x.kept(s),
                            longestRow(open + s) >= n ? 1 : 0);
                }
            }
        }
    }

    private static void keptByMills() {
        for (int n = 0; n <= 6; n++) {
            MillBoats x = new MillBoats();
            Check.rules(x, 0, 0, "way " + n + " if stretch=11;");
            for (int m = 0; m < 6; m++) {
                x.mill(1, 1, 2000);
            }
            for (int open = 0; open < 64; open++) {
                for (int lane = 0; lane < 6; lane++) {
                    x.moor(lane, (open >> lane & 1) == 1 ? -1 : lane * 12 + 11);
                }
                Check.due("23 WAY " + n + ", free LANES " + Integer.toBinaryString(open), x.kept(11),
                        longestRow(open) >= n ? 1 : 0);
            }
            Check.due("23 no WAY in another STRETCH", x.kept(10), 1);
        }
    }
}
