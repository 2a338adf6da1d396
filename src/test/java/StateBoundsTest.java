/** A STATE, numbers, words, blanks and FAULTS: a test for each boundary that a sentence of 'Terms' names. */
public final class StateBoundsTest {
    private static final String EIGHT = "town 1 0 1;".repeat(8);
    private static final String TWELVE = "road 0 1;road 0 2;road 0 3;road 0 4;road 0 5;road 0 6;road 0 7;"
        + "road 1 2;road 1 3;road 1 4;road 1 5;road 1 6;";
    private static final String TWO = "town 1 0 1;town 1 0 1;";
    private static final String SIXTY = "comma 0;".repeat(60);

    public static void main(String[] args) {
        bytesOfAState();
        clausesAtMost60();
        townsAtMost8();
        voters1To99();
        breathe0ToVoters();
        seats1To9();
        roadsAtMost12();
        roadsBetweenTownsToldAhead();
        roadsNotOfOneTown();
        roadsNotTwiceBetweenTwo();
        comma0Or1();
        noCommaIsOne();
        lastCommaCounts();
        numbersAsManyDigitsAsStandThere();
        wordsAsManyLettersAsStandThere();
        blanksAheadOfAllAndAtTheEnd();
        noOtherSignIsABlank();
        firstFaultFromTheLeft();
        faultAtTheFirstByte();
        textEndsTooEarly();
        ofOnePlaceTheLeastFault();
        Check.end();
    }

    private static CommaState fine(String text, int towns) {
        CommaState x = new CommaState();
        Check.due("state " + text, Check.state(x, text), towns);
        Check.due("no fault of " + text, x.fault(), -1);
        return x;
    }

    private static void faulty(String text, int answer, int place) {
        CommaState x = Check.of("town 7 3 2;comma 0;");
        Check.due("state " + text, Check.state(x, text), answer);
        Check.due("fault of " + text, x.fault(), place);
        Check.due("voters stay behind " + text, x.told(6), 7);
        Check.due("comma stays behind " + text, x.told(5), 0);
    }

    private static void bytesOfAState() {
        Check.due("600 bytes, the last one counts", fine(" ".repeat(592) + "comma 0;", 0).told(5), 0);
        faulty(" ".repeat(593) + "comma 0", -9, 600);
        Check.due("no bytes", fine("", 0).told(0), 0);
        Check.due("blanks alone", fine("   ", 0).told(0), 0);
        CommaState x = new CommaState();
        Check.feed(x, "comma 0;comma 1;comma 0;");
        Check.due("the first n bytes alone", x.state(16), 0);
        Check.due("the third clause is not read", x.told(5), 1);
        Check.due("the tape is empty then", x.count(1), 0);
    }

    private static void clausesAtMost60() {
        Check.due("60", fine(SIXTY, 0).told(5), 0);
        faulty(SIXTY + "comma 1;", -7, 480);
        faulty(SIXTY + "  comma 1;", -7, 482);
        faulty(SIXTY + "comma", -7, 480);
        String mixed = EIGHT + TWELVE + "comma 0;".repeat(40);
        Check.due("8 towns, 12 roads and 40 commas", fine(mixed, 8).told(1), 12);
        faulty(mixed + "comma 1;", -7, mixed.length());
        String oneLess = EIGHT + "comma 0;".repeat(52);
        faulty(oneLess + "road 0 1;", -7, oneLess.length());
        Check.due("a road is the 60th", fine(EIGHT + "comma 0;".repeat(51) + "road 0 1;", 8).told(1), 1);
        faulty("comma 0;".repeat(60) + "town 1 0 1;", -7, 480);
        Check.due("a town is the 60th", fine("comma 0;".repeat(59) + "town 1 0 1;", 1).told(0), 1);
    }

    private static void townsAtMost8() {
        Check.due("8", fine(EIGHT, 8).told(0), 8);
        faulty(EIGHT + "town 1 0 1;", -7, 88);
        faulty(EIGHT + " town 1 0 1;", -7, 89);
        faulty(EIGHT + "town 0 0 0;", -7, 88);
        faulty(EIGHT + "town", -7, 88);
        Check.due("other clauses go on", fine(EIGHT + "comma 0;road 0 7;", 8).told(1), 1);
        CommaState x = fine("town 11 1 1;town 12 2 2;town 13 3 3;", 3);
        Check.due("numbered from 0 on", x.town(0, 0) * 10000 + x.town(1, 0) * 100 + x.town(2, 0), 111213);
    }

    private static void voters1To99() {
        Check.due("1", fine("town 1 0 1;", 1).town(0, 0), 1);
        Check.due("99", fine("town 99 0 1;", 1).town(0, 0), 99);
        faulty("town 0 0 1;", -8, 5);
        faulty("town 100 0 1;", -8, 5);
    }

    private static void breathe0ToVoters() {
        Check.due("0", fine("town 5 0 1;", 1).town(0, 1), 0);
        Check.due("all", fine("town 5 5 1;", 1).town(0, 1), 5);
        Check.due("99 of 99", fine("town 99 99 1;", 1).town(0, 1), 99);
        faulty("town 5 6 1;", -8, 7);
        faulty("town 99 100 1;", -8, 8);
        faulty("town 9 9 1;town 5 6 1;", -8, 18);
    }

    private static void seats1To9() {
        Check.due("1", fine("town 5 0 1;", 1).town(0, 2), 1);
        Check.due("9", fine("town 5 0 9;", 1).town(0, 2), 9);
        faulty("town 5 0 0;", -8, 9);
        faulty("town 5 0 10;", -8, 9);
    }

    private static void roadsAtMost12() {
        Check.due("12", fine(EIGHT + TWELVE, 8).told(1), 12);
        Check.due("the 12th is kept", fine(EIGHT + TWELVE, 8).road(11, 1), 6);
        faulty(EIGHT + TWELVE + "road 2 3;", -7, 196);
        faulty(EIGHT + TWELVE + "road 0 1;", -7, 196);
        faulty(EIGHT + TWELVE + "road 9 9;", -7, 196);
        faulty(EIGHT + TWELVE + "road", -7, 196);
        Check.due("other clauses go on", fine(EIGHT + TWELVE + "comma 0;", 8).told(5), 0);
    }

    private static void roadsBetweenTownsToldAhead() {
        Check.due("the last town", fine(TWO + "road 1 0;", 2).road(0, 0), 1);
        Check.due("the last town", fine(TWO + "road 0 1;", 2).road(0, 1), 1);
        faulty(TWO + "road 2 0;", -8, 27);
        faulty(TWO + "road 0 2;", -8, 29);
        faulty("road 0 1;" + TWO, -8, 5);
        faulty("town 1 0 1;road 0 1;town 1 0 1;", -8, 18);
        faulty("road 0 0;", -8, 5);
        Check.due("seven and six", fine(EIGHT + "road 7 6;", 8).town(6, 4), 128);
        faulty(EIGHT + "road 8 6;", -8, 93);
    }

    private static void roadsNotOfOneTown() {
        faulty(TWO + "road 0 0;", -8, 29);
        faulty(TWO + "road 1 1;", -8, 29);
        faulty(TWO + "road 01 1;", -8, 30);
    }

    private static void roadsNotTwiceBetweenTwo() {
        faulty(TWO + "road 0 1;road 0 1;", -8, 38);
        faulty(TWO + "road 0 1;road 1 0;", -8, 38);
        faulty(TWO + "road 1 0;road 0 1;", -8, 38);
        faulty(TWO + "road 1 0;comma 1;road 1 0;", -8, 46);
        Check.due("three roads among three", fine(TWO + "town 1 0 1;road 0 1;road 1 2;road 2 0;", 3).told(1), 3);
        CommaState x = Check.of(TWO + "road 0 1;");
        Check.due("roads of the state before do not count", Check.state(x, TWO + "road 0 1;"), 2);
    }

    private static void comma0Or1() {
        Check.due("0", fine("comma 0;", 0).told(5), 0);
        Check.due("1", fine("comma 1;", 0).told(5), 1);
        faulty("comma 2;", -8, 6);
    }

    private static void noCommaIsOne() {
        Check.due("without", fine("town 1 0 1;", 1).told(5), 1);
        CommaState x = Check.of("comma 0;");
        Check.state(x, "town 1 0 1;");
        Check.due("without, behind a state with 0", x.told(5), 1);
    }

    private static void lastCommaCounts() {
        Check.due("0 last", fine("comma 1;comma 0;", 0).told(5), 0);
        Check.due("1 last", fine("comma 0;town 1 0 1;comma 1;", 1).told(5), 1);
    }

    private static void numbersAsManyDigitsAsStandThere() {
        Check.due("zeroes ahead", fine("town 00000000000000000000000007 0 1;", 1).town(0, 0), 7);
        Check.due("zeroes alone", fine("town 7 0000000000000000000 1;", 1).town(0, 1), 0);
        faulty("town 000 0 1;", -8, 5);
        faulty("town 4294967297 0 1;", -8, 5);
        faulty("town 2147483648 0 1;", -8, 5);
        faulty("town 18446744073709551617 0 1;", -8, 5);
        faulty("town 1 0 " + "1".repeat(580) + ";", -8, 9);
        faulty("town 1" + "0".repeat(580) + " 0 1;", -8, 5);
        faulty("comma 4294967296;", -8, 6);
        faulty("town 1 0 1 0;", -9, 11);
        faulty("town 101;", -8, 5);
        faulty("town 1 01;", -9, 9);
        faulty("comma 1x;", -9, 7);
        faulty("comma 1comma;", -9, 7);
    }

    private static void wordsAsManyLettersAsStandThere() {
        faulty("towns 1 0 1;", -9, 0);
        faulty("tow 1 0 1;", -9, 0);
        faulty("townroad 1 0 1;", -9, 0);
        faulty("to wn 1 0 1;", -9, 0);
        faulty("atown 1 0 1;", -9, 0);
        faulty("commacomma 1;", -9, 0);
        faulty("townz 1 0 1;", -9, 0);
        faulty("towna 1 0 1;", -9, 0);
        faulty("Town 1 0 1;", -9, 0);
        faulty("towN 1 0 1;", -9, 0);
        faulty("vote;", -9, 0);
        faulty("town x 0 1;", -9, 5);
    }

    private static void blanksAheadOfAllAndAtTheEnd() {
        Check.due("many", fine("   town   5   3   2   ;   comma  0  ;   ", 1).told(5), 0);
        Check.due("none but between numbers", fine("town5 3 2;town4 1 1;road0 1;comma0;", 2).told(1), 1);
        Check.due("at the end", fine("comma 0;     ", 0).told(5), 0);
        faulty("town 1 0 1;   ;", -9, 14);
    }

    private static void noOtherSignIsABlank() {
        int[] signs = {0, 9, 10, 11, 12, 13, 31, 33, 127, 128, 160, 255};
        for (int sign : signs) {
            faulty((char) sign + "comma 1;", -9, 0);
            faulty("comma" + (char) sign + "1;", -9, 5);
            faulty("comma 1;" + (char) sign, -9, 8);
        }
        int[] besideDigitsAndLetters = {'/', ':', '`', '{', 'A', 'Z', '0' + 128, 'a' + 128};
        for (int sign : besideDigitsAndLetters) {
            faulty("comma " + (char) sign + ";", -9, 6);
            faulty("comma 1" + (char) sign + ";", -9, 7);
        }
    }

    private static void firstFaultFromTheLeft() {
        faulty("town 0 9 0;", -8, 5);
        faulty("town 5 9 0;", -8, 7);
        faulty("town 5 9;x", -8, 7);
        faulty("town 5 5 x;town 0", -9, 9);
        faulty("comma 2;comma 3;x", -8, 6);
        faulty("x;" + SIXTY + "comma 1;", -9, 0);
        faulty("comma 9;" + SIXTY, -8, 6);
        faulty(EIGHT + "town 1 0 1;comma 9;", -7, 88);
    }

    private static void faultAtTheFirstByte() {
        faulty("town   100 0 1;", -8, 7);
        faulty("  road   1 0;", -8, 9);
        faulty("   towns 1;", -9, 3);
        faulty("comma 1   1;", -9, 10);
        faulty("comma 1 comma;", -9, 8);
    }

    private static void textEndsTooEarly() {
        faulty("town", -9, 4);
        faulty("town ", -9, 5);
        faulty("town 5", -9, 6);
        faulty("town 5 5", -9, 8);
        faulty("town 5 5 1", -9, 10);
        faulty("town 5 5 1   ", -9, 13);
        faulty(TWO + "road 0", -9, 28);
        faulty("comma", -9, 5);
        CommaState x = new CommaState();
        Check.feed(x, "comma 1;comma 1;comma 1;");
        Check.due("cut by n, not by the tape", x.state(15), -9);
        Check.due("at n", x.fault(), 15);
        Check.feed(x, "town 12 5 1;");
        Check.due("cut in a number", x.state(6), -9);
        Check.due("at n", x.fault(), 6);
        Check.feed(x, "comma 1;");
        Check.due("cut in a word", x.state(3), -9);
        Check.due("a word that can't stand there", x.fault(), 0);
    }

    private static void ofOnePlaceTheLeastFault() {
        faulty(SIXTY + "commas 1;", -9, 480);
        faulty(SIXTY + ";", -9, 480);
        faulty(SIXTY + "1;", -9, 480);
        faulty(EIGHT + "towns 1 0 1;", -9, 88);
        faulty(EIGHT + TWELVE + "roads 0 1;", -9, 196);
        Check.due("nothing at all stands behind the 60th", fine(SIXTY + "   ", 0).told(5), 0);
    }
}
