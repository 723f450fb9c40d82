/** Promises 12 to 23: HEIGHT, ICE, the TAPE, RULES and what they say. */
public final class BooksTest {
    private BooksTest() {
    }

    public static void main(String[] args) {
        heights();
        heightsInTwoTimes();
        ices();
        feedAndEnd();
        rules();
        rulesInTwoTimes();
        faultOfAByteOrToken();
        faultOfNumbers();
        faultOfNames();
        faultOfTooMany();
        textsWithoutFaults();
        sums();
        conds();
        names();
        barred();
        word();
        way();
        kept();
        Check.finish();
    }

    private static void heights() {
        MillBoats x = new MillBoats();
        Check.due("12 DAY -1", x.height(-1, 3), false);
        Check.due("12 DAY 1000", x.height(1000, 3), false);
        Check.due("12 HEIGHT -1", x.height(0, -1), false);
        Check.due("12 HEIGHT 21", x.height(0, 21), false);
        Check.due("14 nothing was told", x.heightOf(0, 0), 5);
        Check.due("12 DAY 999", x.height(999, 20), true);
        Check.due("14 DAY 999", x.heightOf(999, 0), 20);
        Check.due("14 DAY 998", x.heightOf(998, 0), 5);
        Check.due("12 HEIGHT 0", x.height(0, 0), true);
        Check.due("14 HEIGHT 0", x.heightOf(998, 0), 0);
        for (int i = 2; i < 200; i++) {
            Check.due("12 telling " + i, x.height(i, i % 21), true);
        }
        Check.due("12 the 201st", x.height(3, 5), false);
        Check.due("14 it was not told", x.heightOf(3, 0), 3);
        Check.due("13 ICE is counted apart", x.ice(3, true), true);
        Check.due("14 d -1", x.heightOf(-1, 0), -1);
        Check.due("14 d 1000", x.heightOf(1000, 0), -1);
        Check.due("14 k -1", x.heightOf(0, -1), -1);
        Check.due("14 k behind the DAY at hand", x.heightOf(0, 1), -1);
    }

    private static void heightsInTwoTimes() {
        MillBoats x = new MillBoats();
        x.height(4, 8);
        x.height(2, 6);
        x.height(4, 9);
        x.day();
        x.day();
        x.height(0, 1);
        x.height(4, 3);
        x.height(3, 7);
        int[] atFirst = {5, 5, 6, 6, 9, 9};
        int[] now = {1, 1, 6, 7, 3, 3};
        for (int d = 0; d < 6; d++) {
            Check.due("14 DAY " + d + " as known on DAY 0", x.heightOf(d, 0), atFirst[d]);
            Check.due("14 DAY " + d + " as known on DAY 1", x.heightOf(d, 1), atFirst[d]);
            Check.due("14 DAY " + d + " as known on DAY 2", x.heightOf(d, 2), now[d]);
        }
    }

    private static void ices() {
        MillBoats x = new MillBoats();
        Check.due("13 DAY -1", x.ice(-1, true), false);
        Check.due("13 DAY 1000", x.ice(1000, true), false);
        Check.due("15 none", x.iceOf(7, 0), 0);
        Check.due("13 DAY 7", x.ice(7, true), true);
        Check.due("13 DAY 999", x.ice(999, true), true);
        Check.due("15 DAY 7", x.iceOf(7, 0), 1);
        Check.due("15 DAY 8 has none by itself", x.iceOf(8, 0), 0);
        Check.due("15 DAY 999", x.iceOf(999, 0), 1);
        x.day();
        x.ice(7, false);
        x.ice(8, true);
        x.ice(8, false);
        x.ice(8, true);
        Check.due("15 DAY 7 as known on DAY 0", x.iceOf(7, 0), 1);
        Check.due("15 DAY 7 as known on DAY 1", x.iceOf(7, 1), 0);
        Check.due("15 DAY 8 as known on DAY 0", x.iceOf(8, 0), 0);
        Check.due("15 DAY 8 as known on DAY 1", x.iceOf(8, 1), 1);
        Check.due("15 d -1", x.iceOf(-1, 0), -1);
        Check.due("15 d 1000", x.iceOf(1000, 0), -1);
        Check.due("15 k -1", x.iceOf(0, -1), -1);
        Check.due("15 k 2", x.iceOf(0, 2), -1);
        for (int i = 6; i < 200; i++) {
            Check.due("13 telling " + i, x.ice(i, true), true);
        }
        Check.due("13 the 201st", x.ice(3, true), false);
        Check.due("15 it was not told", x.iceOf(3, 1), 0);
        Check.due("12 HEIGHT is counted apart", x.height(3, 5), true);
    }

    private static void feedAndEnd() {
        MillBoats x = new MillBoats();
        Check.due("17 end(0)", x.end(0), 0);
        Check.due("17 end(1)", x.end(1), -1);
        Check.due("17 end(-1)", x.end(-1), -1);
        for (int n = 20; n <= 400; n += 20) {
            Check.due("16 feed", x.feed(-1, 0, 1, 2, 3), n);
        }
        Check.due("16 more than 400", x.feed(1, 2, 3, 4, 5), -1);
        Check.due("16 it has 400", x.count(4), 400);
        Check.due("17 end(401)", x.end(401), -1);
        Check.due("17 end(400)", x.end(400), 400);
        Check.due("17 end(381)", x.end(381), 381);
        Check.due("16 401 would be more", x.feed(1, 2, 3, 4, 5), -1);
        Check.due("17 end(380)", x.end(380), 380);
        Check.due("16 400 again", x.feed(1, 2, 3, 4, 5), 400);
        Check.due("17 end(MIN)", x.end(Integer.MIN_VALUE), -1);
        Check.due("17 end(0)", x.end(0), 0);
        Check.due("17 none is left", x.count(4), 0);
        // "way 1 if 1=1;" with the highest byte of each number first
        x.feed(0x77617920, 0x31206966, 0x20313D31, 0x3B000000, 0);
        x.end(13);
        Check.due("16 the highest first", x.rules(0, 0), 1);
        x.feed(0x77617920, 0x31206966, 0x20313D31, 0x3BFF0000, 0);
        x.end(14);
        Check.due("16 a byte of 255", x.rules(0, 0), -2);
        Check.due("16 its place", x.place(), 13);
        x.feed(0x20202020, 0x20202020, 0x20202020, 0x20202020, 0x77617920);
        x.end(20);
        x.feed(0x31206966, 0x20313D31, 0x3B202020, 0x20202020, 0x20202020);
        Check.due("16 numbers behind others", x.rules(0, 0), 1);
    }

    private static void rules() {
        MillBoats x = new MillBoats();
        Check.feed(x, "forbid if 1=1;");
        Check.due("18 SHORE -1", x.rules(-1, 0), -1);
        Check.due("18 SHORE 2", x.rules(2, 0), -1);
        Check.due("18 DAY -1", x.rules(0, -1), -1);
        Check.due("18 DAY 1000", x.rules(0, 1000), -1);
        Check.due("18 the TAPE stays", x.count(4), 14);
        Check.due("19 none yet", x.place(), -1);
        Check.due("18 one RULE", x.rules(1, 999), 1);
        Check.due("18 the TAPE is empty then", x.count(4), 0);
        Check.due("18 a text of SHORE 1", x.count(6), 1);
        Check.due("18 no text of SHORE 0", x.count(5), 0);
        Check.due("18 no RULE", x.rules(0, 0), 0);
        Check.due("18 a text without RULES counts", x.count(5), 1);
        Check.due("18 a FAULT", Check.rules(x, 0, 0, " nothing"), -2);
        Check.due("18 the TAPE is empty with a FAULT", x.count(4), 0);
        Check.due("18 a text with a FAULT changes nothing", x.count(5), 1);
        Check.due("19 place", x.place(), 1);
        Check.feed(x, "forbid if 1=1;");
        Check.due("18 no such SHORE", x.rules(2, 0), -1);
        Check.due("19 place stays with NONE", x.place(), 1);
        for (int i = 2; i <= 12; i++) {
            Check.due("18 text " + i, x.rules(0, 0), i == 2 ? 1 : 0);
            Check.due("19 no FAULT", x.place(), -1);
        }
        Check.due("18 twelve", x.count(5), 12);
        Check.feed(x, "no RULES");
        Check.due("18 a thirteenth", x.rules(0, 0), -1);
        Check.due("18 the TAPE stays", x.count(4), 8);
        Check.due("19 no FAULT was looked for", x.place(), -1);
        Check.due("18 the other SHORE", x.rules(1, 0), -2);
        x.mill(1, 1, 1);
        Check.due("18 a text with a FAULT is not in force", x.barred(0, 0, 0, 0), 0);
    }

    private static void rulesInTwoTimes() {
        MillBoats x = new MillBoats();
        Check.due("22 no RULES", x.way(0, 0, 0), 0);
        Check.rules(x, 0, 5, "way 1 if 1=1;");
        Check.rules(x, 0, 8, "way 2 if 1=1;");
        Check.rules(x, 0, 5, "way 3 if 1=1;");
        x.day();
        Check.rules(x, 0, 0, "way 4 if 1=1;");
        x.day();
        Check.rules(x, 0, 8, "");
        int[][] due = {{0, 0, 3, 3, 2, 2}, {4, 4, 3, 3, 2, 2}, {4, 4, 3, 3, 0, 0}};
        int[] days = {0, 4, 5, 7, 8, 999};
        for (int k = 0; k < 3; k++) {
            for (int i = 0; i < days.length; i++) {
                Check.due("22 DAY " + days[i] + " as known on DAY " + k, x.way(0, days[i], k), due[k][i]);
            }
        }
    }

    static void fault(String text, int kind, int place) {
        MillBoats x = new MillBoats();
        Check.due("18 FAULT of " + text, Check.rules(x, 0, 0, text), -1 - kind);
        Check.due("19 place in " + text, x.place(), place);
        Check.due("18 no text of " + text, x.count(5), 0);
    }

    static void fine(String text, int rules) {
        MillBoats x = new MillBoats();
        Check.due("18 RULES of " + text, Check.rules(x, 0, 0, text), rules);
        Check.due("19 no place in " + text, x.place(), -1);
        Check.due("18 a text of " + text, x.count(5), 1);
    }

    private static void faultOfAByteOrToken() {
        String[] ends = {"forbid", "forbid if", "forbid if 1", "forbid if 1<", "forbid if 1<1", "let", "let a", "let a=",
            "let a=1", "toll", "toll 1", "toll 1 of", "toll 1 of 2", "way", "way 3", "allow if not", "allow if [",
            "allow if (", "allow if (1", "allow if 1+", "allow if 1*", "allow if 1-", "allow if 1=1 and",
            "allow if 1=1 or", "allow if [1=1", "forbid "};
        for (String text : ends) {
            fault(text, 1, text.length());
            fault("way 1 if 1=1;" + text + " \n", 1, text.length() + 15);
        }
        fault("if 1=1;", 1, 0);
        fault("1", 1, 0);
        fault(";", 1, 0);
        fault("way 1 if 1=1;;", 1, 13);
        fault("forbidd if 1=1;", 1, 0);
        fault("forbiddenly if 1=1;", 1, 0);
        fault("forbi if 1=1;", 1, 0);
        fault("Forbid if 1=1;", 1, 0);
        fault("forbid 1=1;", 1, 7);
        fault("forbid if;", 1, 9);
        fault("forbid if 1=1 1", 1, 14);
        fault("forbid if 1==1;", 1, 12);
        fault("forbid if 1<=1;", 1, 12);
        fault("forbid if 1=1=1;", 1, 13);
        fault("forbid if 1!1;", 1, 11);
        fault("forbid if -1=1;", 1, 10);
        fault("forbid if 1=\t1;", 1, 12);
        fault("forbid if 1=\r1;", 1, 12);
        fault("forbid if 1=1\u0000;", 1, 13);
        fault("forbid if 1=1\u00ff;", 1, 13);
        fault("forbid if 1=1\u00e1;", 1, 13);
        fault("forbid if [1];", 1, 12);
        fault("forbid if (1=1);", 1, 12);
        fault("forbid if (1)=[1];", 1, 14);
        fault("forbid if [1=1);", 1, 14);
        fault("forbid if 1=(1];", 1, 14);
        fault("forbid if [1=1]+1;", 1, 15);
        fault("forbid if [1=1]=1;", 1, 15);
        fault("forbid if 1=not 1;", 1, 12);
        fault("forbid if 1=1 not 1=1;", 1, 14);
        fault("forbid if not;", 1, 13);
        fault("forbid if or=1;", 1, 10);
        fault("forbid if 1/1=1;", 1, 11);
        fault("forbid if 12345=1;", 1, 10);
        fault("forbid if 00001=1;", 1, 10);
        fault("forbid if lane+12345=1;", 1, 15);
        fault("forbid if abcdefghi=1;", 1, 10);
        fault("let abcdefghi=1;", 1, 4);
        fault("let 1=1;", 1, 4);
        fault("let toll=1;", 1, 4);
        fault("let a 1;", 1, 6);
        fault("let a<1;", 1, 5);
        fault("let a=1 if 1=1;", 1, 8);
        fault("let a=[1];", 1, 6);
        fault("let a=1<2;", 1, 7);
        fault("toll 1 1 if 1=1;", 1, 7);
        fault("toll way 1 if 1", 1, 5);
        fault("toll 1 way 7", 1, 7);
        fault("let way 7", 1, 4);
        fault("way let lane", 1, 4);
        fault("toll lane of 2 if 1=1;", 1, 5);
        fault("toll 1 of lane if 1=1;", 1, 10);
        fault("toll 1 of 2;", 1, 11);
        fault("toll 12345 of 2 if 1=1;", 1, 5);
        fault("toll 1 of 12345 if 1=1;", 1, 10);
        fault("way lane if 1=1;", 1, 4);
        fault("way 12345 if 1=1;", 1, 4);
        fault("way 3 of 3 if 1=1;", 1, 6);
        fault("way if 1=1;", 1, 4);
    }

    private static void faultOfNumbers() {
        fault("toll 2 of 1 if 1=1;", 2, 10);
        fault("toll 0 of 0 if 1=1;", 2, 10);
        fault("toll 1 of 0000 if 1=1;", 2, 10);
        fault("toll 9999 of 9998 1=1;", 2, 13);
        fault("way 7 if 1=1;", 2, 4);
        fault("way 1 if 1=1; way 9999", 2, 18);
        fine("toll 1 of 1 if 1=1;toll 0 of 1 if 1=1;toll 9999 of 9999 if 1=1;toll 0000 of 0001 if 1=1;", 4);
        fine("way 6 if 1=1;way 0 if 1=1;way 0006 if 1=1;", 3);
    }

    private static void faultOfNames() {
        fault("forbid if lan=1;", 3, 10);
        fault("forbid if lanes=1;", 3, 10);
        fault("forbid if abcdefgh=1;", 3, 10);
        fault("let a=a;", 3, 6);
        fault("let a=b;let b=1;", 3, 6);
        fault("let a=1;let a", 3, 12);
        fault("let sacks=1;", 3, 4);
        fault("let lane", 3, 4);
        fault("let a=1;forbid if [1=1 or a*(2+b)=1];", 3, 31);
        fault("forbid if nobody 1", 3, 10);
        fine("let a=1;let b=a+a;let ab=a*b;forbid if a=b and ab=1;", 4);
        fine("let a=1;let aa=1;let aaa=1;let ba=1;let za=1;let az=1;forbid if a=aa and ba=za;", 7);
        fine("let b=1;let ab=1;let bb=1;let z=1;let azz=1;let zzzzzzzz=1;", 6);
        fault("let zzzzzzzz=1;let zzzzzzza=1;let zzzzzzz=zzzzzzzb;", 3, 42);
        fine("let lanes=lane;let lets=lanes;let iff=1;let notif=1;let abcdefgh=1;forbid if abcdefgh=lets;", 6);
    }

    private static void faultOfTooMany() {
        String rule = "way 1 if 1=1;";
        String twenty = rule.repeat(20);
        fine(twenty, 20);
        fine(twenty + " \n ", 20);
        fault(twenty + rule, 4, 260);
        fault(twenty + "  way", 4, 262);
        fault(twenty + "  let", 4, 262);
        fault(twenty + " waylay", 1, 261);
        fault(twenty + ";", 1, 260);
        fault(twenty + "abcdefghi", 1, 260);
        String six = "let a=1;let b=1;let c=1;let d=1;let e=1;let f=1;";
        fine(six + "forbid if f=1;", 7);
        fault(six + "let g=1;", 4, 52);
        fault(six + "let g", 4, 52);
        fault(six + "let f=1;", 3, 52);
        fault(six + "let if=1;", 1, 52);
        fault(six + "let", 1, 51);
        fault(six + "let abcdefghi", 1, 52);
        fine("forbid if ((((1))))=((((1))));", 1);
        fine("forbid if [[[[1=1]]]] and [[[[1=1]]]];", 1);
        fine("forbid if [[(1)=((1))]] or [[[(1)=1]]];", 1);
        fault("forbid if (((((1)))))=1;", 4, 14);
        fault("forbid if [[[[[1=1]]]]];", 4, 14);
        fault("forbid if [[[(1=(1))]]];", 1, 15);
        fault("forbid if [[[1=((1))]]];", 4, 16);
        fault("forbid if 1=((((1+(1)))));", 4, 18);
        fault("forbid if ((((]", 1, 14);
        fault("forbid if (((([", 1, 14);
        fault("let a=(((((1)))));", 4, 10);
        fault("forbid if [[[[not [1=1]]]]];", 4, 18);
    }

    private static void textsWithoutFaults() {
        fine("", 0);
        fine(" \n\n ", 0);
        fine("forbid if 1=1;", 1);
        fine("forbid\nif\n1\n=\n1\n;\n", 1);
        fine("way1if1=1;toll1of2if1=1;let a=1;", 3);
        fine("forbid if not not not 1=1 and not[not 1<2 or 2>1];", 1);
        fine("forbid if 1+2-3*4*(5-6)=7-8;", 1);
        StringBuilder nots = new StringBuilder("forbid if ");
        while (nots.length() < 390) {
            nots.append("not ");
        }
        fine(nots + "1=1;", 1);
        StringBuilder sums = new StringBuilder("forbid if 1");
        while (sums.length() < 395) {
            sums.append("+1");
        }
        fine(sums + "=1;", 1);
    }

    /** Whether a COND holds for a MILL of DRAUGHT 3, WHEEL 40 at BERTH 41 of BED 2 on DAY 4, HEIGHT 9. */
    private static boolean holds(String cond) {
        MillBoats x = new MillBoats();
        x.mill(1, 1, 1);
        x.mill(3, 40, 1);
        x.bed(41, 2);
        x.height(4, 9);
        Check.rules(x, 0, 0, cond.endsWith(";") ? cond : "forbid if " + cond + ";");
        Check.due("no FAULT in " + cond, x.place(), -1);
        return x.barred(1, 41, 4, 0) == 1;
    }

    private static void equal(String sum, int value) {
        String v = value < 0 ? "0-" + -value : "" + value;
        Check.due("21 " + sum + " = " + value, holds(sum + " = " + v), true);
        Check.due("21 " + sum + " < " + value, holds(sum + " < " + v), false);
        Check.due("21 " + sum + " > " + value, holds(sum + " > " + v), false);
    }

    private static void sums() {
        equal("2+3*4", 14);
        equal("(2+3)*4", 20);
        equal("10-3-2", 5);
        equal("10-(3-2)", 9);
        equal("2*3*4-5*2", 14);
        equal("0-7", -7);
        equal("9999", 9999);
        equal("0010", 10);
        Check.due("21 a product above", holds("9999*9999*9999=9999*9999*9999*9999"), true);
        Check.due("21 1000000000 itself", holds("1000*1000*1000=9999*9999*9999"), true);
        Check.due("21 one less", holds("1000*1000*1000-1<9999*9999*9999"), true);
        Check.due("21 one less is not bounded", holds("1000*1000*1000-1=999*1000*1000+999*1000+999"), true);
        Check.due("21 one more than the least", holds("0-1000*1000*1000+1=0-999*1000*1000-999*1000-999"), true);
        Check.due("21 a sum above", holds("9999*9999*9999+1=9999*9999*9999"), true);
        Check.due("21 and down again", holds("9999*9999*9999+1-1<9999*9999*9999"), true);
        Check.due("21 a difference below", holds("0-9999*9999*9999-1=0-9999*9999*9999"), true);
        Check.due("21 a product below", holds("(0-9999)*9999*9999=0-9999*9999*9999"), true);
        Check.due("21 all from the left on", holds("9999*9999*9999*0=0"), true);
        Check.due("21 far below 0 is not above", holds("0-9999*9999*9999-9999*9999*9999<0"), true);
    }

    private static void conds() {
        String[] hold = {"1<2", "2>1", "1=1", "not 1>2", "not not 1<2", "1=1 or 1=2", "1=2 or 1=1", "1=1 and 2=2",
            "1=2 and 1=2 or 1=1", "1=1 or 1=2 and 1=2", "not 1=2 and 1=1", "not [1=1 and 1=2]", "[1=1 or 1=1] and 1=1",
            "not 1=1 or 1=1", "not not not 1=2", "1=2 or 1=2 or 1=1", "1=1 and 1=1 and 1=1", "not [1=2 or 1=2]"};
        for (String cond : hold) {
            Check.due("21 " + cond, holds(cond), true);
            Check.due("21 not " + cond, holds("not [" + cond + "]"), false);
        }
        String[] hold2 = {"[1=1 or 1=1] and 1=2", "not [1=1] and 1=1", "not 1=1 and 1=2 or 1=2", "1=2 and [1=1 or 1=1]"};
        for (String cond : hold2) {
            Check.due("21 " + cond, holds(cond), false);
        }
    }

    private static void names() {
        equal("lane", 3);
        equal("stretch", 5);
        equal("height", 9);
        equal("depth", 7);
        equal("day", 4);
        equal("mill", 1);
        equal("draught", 3);
        equal("wheel", 40);
        equal("sacks", 0);
        Check.due("21 let", holds("let a=lane*2;let b=a+1;forbid if b=7;"), true);
        Check.due("21 let behind others", holds("allow if 1=1;let a=lane*2;allow if a=7;let b=a+1;forbid if b=7 and a=6;"),
                true);
        MillBoats x = new MillBoats();
        x.mill(1, 1, 1);
        x.bed(0, 9);
        Check.rules(x, 0, 0, "forbid if depth=0 and height=5;");
        Check.due("21 depth is 0 at least", x.barred(0, 0, 0, 0), 1);
        Check.due("21 depth elsewhere", x.barred(0, 1, 0, 0), 0);
    }

    private static void barred() {
        MillBoats x = new MillBoats();
        Check.due("20 no such MILL", x.barred(0, 0, 0, 0), -1);
        x.mill(1, 1, 1);
        Check.due("20 no RULES", x.barred(0, 0, 0, 0), 0);
        Check.rules(x, 0, 0, "forbid if stretch=1;allow if stretch=2;forbid if stretch=3;");
        Check.rules(x, 1, 0, "forbid if stretch=1;forbid if stretch=2;allow if stretch=3;forbid if stretch=4;");
        int[][] due = {{0, 1, 0, 1, 0}, {0, 1, 0, 1, 0}, {0, 3, 6, 5, 2}, {0, 3, 6, 5, 2}, {0, 2, 2, 0, 2},
            {0, 2, 2, 0, 2}};
        for (int lane = 0; lane < 6; lane++) {
            for (int s = 0; s < 5; s++) {
                Check.due("20 LANE " + lane + " STRETCH " + s, x.barred(0, lane * 12 + s, 0, 0), due[lane][s]);
            }
        }
        Check.due("20 MILL -1", x.barred(-1, 0, 0, 0), -1);
        Check.due("20 MILL 1", x.barred(1, 0, 0, 0), -1);
        Check.due("20 BERTH -1", x.barred(0, -1, 0, 0), -1);
        Check.due("20 BERTH 72", x.barred(0, 72, 0, 0), -1);
        Check.due("20 d -1", x.barred(0, 0, -1, 0), -1);
        Check.due("20 d 1000", x.barred(0, 0, 1000, 0), -1);
        Check.due("20 k -1", x.barred(0, 0, 0, -1), -1);
        Check.due("20 k 1", x.barred(0, 0, 0, 1), -1);
        Check.due("20 DAY 999", x.barred(0, 1, 999, 0), 1);
        x.moor(0, 5);
        Check.due("20 wherever it is", x.barred(0, 26, 0, 0), 6);
        x.day();
        Check.rules(x, 0, 0, "allow if stretch=1;");
        Check.due("20 as known on DAY 0", x.barred(0, 25, 0, 0), 3);
        Check.due("20 as known on DAY 1", x.barred(0, 25, 0, 1), 6);
        x.height(0, 7);
        Check.rules(x, 0, 0, "forbid if height=7;");
        Check.due("20 HEIGHT of that DAY as known then", x.barred(0, 1, 0, 1), 1);
    }

    private static void word() {
        MillBoats x = new MillBoats();
        Check.due("21 no such MILL", x.word(0, 0, 0, 0, 0), -1);
        x.mill(1, 1, 1);
        Check.due("21 no RULES", x.word(0, 0, 0, 0, 0), -1);
        Check.rules(x, 1, 0, "let a=stretch;way 1 if 1=1;forbid if a<6;allow if a<4;toll 1 of 2 if 1=1;forbid if a<2;"
                + "let b=1;way 2 if b=1;");
        int[] due = {5, 5, 3, 3, 2, 2, -1};
        for (int s = 0; s < 7; s++) {
            Check.due("21 WORD in STRETCH " + s, x.word(1, 0, 48 + s, 0, 0), due[s]);
            Check.due("21 also where it has no say", x.word(1, 0, s, 0, 0), due[s]);
            Check.due("21 the other SHORE has none", x.word(0, 0, s, 0, 0), -1);
        }
        Check.due("21 SHORE -1", x.word(-1, 0, 0, 0, 0), -1);
        Check.due("21 SHORE 2", x.word(2, 0, 0, 0, 0), -1);
        Check.due("21 MILL 1", x.word(1, 1, 0, 0, 0), -1);
        Check.due("21 BERTH 72", x.word(1, 0, 72, 0, 0), -1);
        Check.due("21 BERTH -1", x.word(1, 0, -1, 0, 0), -1);
        Check.due("21 d 1000", x.word(1, 0, 0, 1000, 0), -1);
        Check.due("21 d -1", x.word(1, 0, 0, -1, 0), -1);
        Check.due("21 k 1", x.word(1, 0, 0, 0, 1), -1);
        Check.due("21 k -1", x.word(1, 0, 0, 0, -1), -1);
    }

    private static void way() {
        MillBoats x = new MillBoats();
        Check.rules(x, 0, 0, "way 2 if stretch<6;way 1 if stretch=3;way 4 if stretch=9;");
        Check.rules(x, 1, 0, "forbid if 1=1;way 3 if stretch=9 or stretch=1;way 0 if stretch=0;");
        int[] due = {2, 3, 2, 1, 2, 2, 0, 0, 0, 4, 0, 0};
        for (int s = 0; s < 12; s++) {
            Check.due("22 WAY of STRETCH " + s, x.way(s, 0, 0), due[s]);
        }
        Check.due("22 STRETCH -1", x.way(-1, 0, 0), -1);
        Check.due("22 STRETCH 12", x.way(12, 0, 0), -1);
        Check.due("22 d -1", x.way(0, -1, 0), -1);
        Check.due("22 d 1000", x.way(0, 1000, 0), -1);
        Check.due("22 k -1", x.way(0, 0, -1), -1);
        Check.due("22 k 1", x.way(0, 0, 1), -1);
        MillBoats y = new MillBoats();
        y.mill(3, 3, 3);
        y.mill(3, 3, 3);
        y.height(2, 8);
        // the scene of a MILL is told first, to see that nothing of it is left
        Check.rules(y, 0, 0, "let a=lane+depth+mill+draught+wheel+sacks;way 5 if a=0 and stretch=7 and height=8 and day=2;");
        y.barred(1, 71, 0, 0);
        Check.due("22 what is 0 and what is not", y.way(7, 2, 0), 5);
        Check.due("22 another STRETCH", y.way(6, 2, 0), 0);
        Check.due("22 another DAY", y.way(7, 3, 0), 0);
    }

    private static void kept() {
        MillBoats x = new MillBoats();
        Check.due("23 STRETCH -1", x.kept(-1), -1);
        Check.due("23 STRETCH 12", x.kept(12), -1);
        Check.due("23 no WAY", x.kept(11), 1);
        for (int lane = 0; lane < 6; lane++) {
            x.bed(lane * 12 + 4, lane == 2 ? 4 : 3);
        }
        Check.due("23 no WAY where nothing is deep", x.kept(4), 1);
        Check.rules(x, 0, 0, "way 3 if stretch=4;way 2 if stretch=5;way 6 if stretch=6;");
        Check.due("23 three with DEPTH 2 side by side", x.kept(4), 1);
        Check.due("23 all six", x.kept(6), 1);
        for (int m = 0; m < 6; m++) {
            x.mill(1, 1, 1);
        }
        x.moor(0, 48 + 4);
        Check.due("23 a MILL lies in it", x.kept(4), 0);
        x.moor(0, 4);
        Check.due("23 it lies aside", x.kept(4), 1);
        x.moor(0, 6);
        Check.due("23 all six no more", x.kept(6), 0);
        x.moor(0, 12 + 5);
        x.moor(1, 36 + 5);
        Check.due("23 two side by side at the end", x.kept(5), 1);
        x.moor(2, 60 + 5);
        Check.due("23 none side by side", x.kept(5), 0);
        x.moor(0, -1);
        Check.due("23 two side by side at the beginning", x.kept(5), 1);
        x.height(0, 4);
        Check.due("23 by HEIGHT of the DAY at hand", x.kept(4), 0);
        x.moor(2, -1);
        x.moor(1, -1);
        Check.due("23 DEPTH is 2 or more elsewhere", x.kept(6), 1);
        x.height(1, 1);
        x.day();
        Check.due("23 on the DAY at hand", x.kept(6), 0);
        Check.rules(x, 0, 1, "");
        Check.due("23 by RULES of the DAY at hand", x.kept(6), 1);
    }
}
