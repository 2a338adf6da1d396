/** What is asked of towns, seats and roads: a test for each boundary that a sentence names. */
public final class AskBoundsTest {
    public static void main(String[] args) {
        aheadOfVotes();
        tillAtMost99();
        turnByAsFewAsItTakes();
        turnToMoreSeats();
        turnOfTheCheapestSet();
        turnOfAlikeSets();
        turnOfNoTowns();
        swingAtHalf();
        givenUncut();
        givenToTheFirst();
        givenNoneAndMany();
        leagues();
        leaguesOfAlikeSets();
        partsAndBridges();
        commasAtTheEdges();
        oddsOfFirstNine();
        oddsInLeastTerms();
        speakInOneTown();
        speakFirstRest();
        speakOfNone();
        breadToABound();
        breadOfAll();
        closestAndSafest();
        lightestUncut();
        sidesSeatsMargin();
        Check.end();
    }

    private static void aheadOfVotes() {
        CommaState x = Check.of("town 99 0 3;town 9 9 2;");
        Check.law(x, "1-town*3");
        Check.due("0 votes: who breathe", x.ahead(0, 0), 9);
        Check.due("0 votes: in", x.ahead(0, 1), 1);
        Check.due("0 votes: seats of 0", x.ahead(0, 2), 2);
        Check.due("99 votes: all of the one, none of the other", x.ahead(99, 0), 99);
        Check.due("98 votes", x.ahead(98, 0), 98);
        Check.due("49 votes: in", x.ahead(49, 1), 1);
        Check.due("50 votes: in", x.ahead(50, 1), 0);
        Check.due("50 votes: seats of 0", x.ahead(50, 2), 3);
        Check.due("nothing stays changed", x.told(7) * 100 + x.told(3), 900);
        CommaState y = Check.of("town 9 0 1;");
        Check.law(y, "votes+year");
        Check.work(y, "year;year;vote;");
        Check.due("votes go on, years do not", y.ahead(2, 0), 2 + 3 + 4);
    }

    private static int till(String state, String law, int party) {
        CommaState x = Check.of(state);
        Check.law(x, law);
        return x.till(party);
    }

    private static void tillAtMost99() {
        Check.due("now", till("town 9 9 1;", "0", 1), 0);
        Check.due("one", till("town 9 9 1;", "0", 0), 1);
        Check.due("never", till("town 9 0 1;", "0", 0), -1);
        // the 50th who breathes comes by the 50th vote of those with an even number, the 99th of all
        Check.due("99", till("town 99 0 1;", "(votes+1)%2", 0), 99);
        Check.due("100 is too far", till("town 99 0 1;", "votes%2", 0), -1);
        Check.due("98", till("town 99 1 1;", "votes%2", 0), 98);
        Check.due("no towns, now", new CommaState().till(1), 0);
        Check.due("no towns, never", new CommaState().till(0), -1);
        CommaState x = Check.of("town 9 9 1;");
        Check.work(x, "vote;");
        Check.due("0 is in now", x.till(0), 0);
        Check.due("1 never", x.till(1), -1);
        Check.due("nothing stays changed", x.told(3), 1);
    }

    private static void turn(String state, int party, int voters, int towns) {
        CommaState x = Check.of(state);
        Check.due("turn of " + party + " in " + state, x.turn(party, 0), voters);
        Check.due("towns that turn to " + party + " in " + state, x.turn(party, 1), towns);
        Check.due("nothing stays changed in " + state, x.turn(party, 0), voters);
    }

    private static void turnByAsFewAsItTakes() {
        turn("town 9 4 1;", 0, 1, 1);
        turn("town 9 5 1;", 1, 1, 1);
        turn("town 8 4 1;", 0, 1, 1);
        turn("town 8 4 1;", 1, 1, 1);
        turn("town 8 3 1;", 0, 2, 1);
        turn("town 8 5 1;", 1, 2, 1);
        turn("town 1 0 1;", 0, 1, 1);
        turn("town 1 1 1;", 1, 1, 1);
        turn("town 2 0 1;", 0, 2, 1);
        turn("town 2 2 1;", 1, 2, 1);
        turn("town 99 0 1;", 0, 50, 1);
        turn("town 99 99 1;", 1, 50, 1);
        turn("town 98 0 1;", 0, 50, 1);
        turn("town 98 98 1;", 1, 50, 1);
    }

    private static void turnToMoreSeats() {
        turn("town 9 5 1;", 0, 0, 0);
        turn("town 9 4 1;", 1, 0, 0);
        // alike seats are not more
        turn("town 1 1 2;town 1 0 2;", 0, 1, 2);
        turn("town 1 1 2;town 1 0 2;", 1, 1, 1);
        turn("town 3 0 2;town 3 0 2;", 0, 4, 3);
        // seats of a town that goes to neither are the other one's neither
        turn("town 1 1 1;town 8 4 9;", 0, 0, 0);
        turn("town 1 1 1;town 8 4 9;", 1, 1, 1);
        turn("town 8 4 1;town 8 4 9;", 0, 1, 1);
        turn("town 8 4 1;town 8 4 9;", 1, 1, 1);
        // a town that turns is the other one's no more
        turn("town 9 9 2;town 9 4 3;town 9 0 1;", 0, 1, 2);
    }

    private static void turnOfTheCheapestSet() {
        turn("town 9 0 9;town 1 0 5;town 1 0 5;", 0, 2, 6);
        turn("town 9 9 9;town 1 1 5;town 1 1 5;", 1, 2, 6);
        turn("town 99 0 9;town 99 0 9;town 3 1 2;town 1 1 9;town 2 2 8;", 0, 1, 4);
        turn("town 99 0 1;".repeat(8), 0, 250, 31);
    }

    private static void turnOfAlikeSets() {
        turn("town 9 9 4;town 1 0 2;town 1 0 2;town 3 0 4;", 0, 2, 6);
        turn("town 9 9 4;town 3 0 4;town 1 0 2;town 1 0 2;", 0, 2, 2);
        turn("town 1 0 1;".repeat(8), 0, 5, 31);
        turn("town 1 1 1;".repeat(7), 1, 4, 15);
    }

    private static void turnOfNoTowns() {
        turn("", 0, -1, -1);
        turn("", 1, -1, -1);
    }

    private static void swing(String state, int... want) {
        CommaState x = Check.of(state);
        for (int town = 0; town < want.length; town++) {
            Check.due("swing of " + town + " in " + state, x.swing(town), want[town]);
        }
    }

    private static void swingAtHalf() {
        swing("town 1 1 1;", 1);
        // half with its own is not more than half; half without it is not more, either
        swing("town 1 1 2;town 1 1 2;", 1, 1);
        swing("town 1 1 5;town 1 1 1;", 2, 0);
        swing("town 1 1 4;town 1 1 2;town 1 1 2;", 3, 1, 1);
        swing("town 1 1 3;town 1 1 2;town 1 1 2;", 2, 2, 2);
        swing("town 1 1 1;".repeat(8), 35, 35, 35, 35, 35, 35, 35, 35);
        swing("town 1 1 9;" + "town 1 1 1;".repeat(7), 128, 0, 0, 0, 0, 0, 0, 0);
        swing("town 9 0 2;town 8 4 2;", 1, 1);
    }

    private static void given(String state, int n, int... want) {
        CommaState x = Check.of(state);
        for (int town = 0; town < want.length; town++) {
            Check.due("given " + n + " to " + town + " in " + state, x.given(town, n), want[town]);
        }
    }

    private static void givenUncut() {
        // 10/3 is less than 7/2, though both are 3, cut
        given("town 10 0 1;town 7 0 1;", 3, 2, 1);
        given("town 10 0 1;town 7 0 1;", 4, 2, 2);
        given("town 10 0 1;town 7 0 1;", 5, 3, 2);
        given("town 99 0 1;town 98 0 1;", 3, 2, 1);
        given("town 1 0 9;town 2 0 1;", 1, 0, 1);
    }

    private static void givenToTheFirst() {
        given("town 6 0 1;town 6 0 1;", 1, 1, 0);
        given("town 6 0 1;town 6 0 1;", 2, 1, 1);
        given("town 6 0 1;town 6 0 1;", 3, 2, 1);
        given("town 10 0 1;town 5 0 1;", 2, 2, 0);
        given("town 5 0 1;town 10 0 1;", 2, 1, 1);
        given("town 7 0 1;".repeat(8), 9, 2, 1, 1, 1, 1, 1, 1, 1);
    }

    private static void givenNoneAndMany() {
        given("town 6 0 1;town 6 0 1;", 0, 0, 0);
        given("town 6 0 1;", 99, 99);
        given("town 99 0 1;town 1 0 1;", 99, 99, 0);
        given("town 98 0 1;town 1 0 1;", 99, 98, 1);
        CommaState x = Check.of("town 9 9 1;town 9 9 1;");
        Check.work(x, "move 0 1 8;");
        Check.due("by voters of now", x.given(1, 9), 9);
        Check.due("seats as told stay", x.town(1, 2), 1);
    }

    private static void leagues() {
        CommaState x = Check.of("town 1 1 1;".repeat(6) + "road 0 1;road 1 2;road 3 4;");
        Check.due("of none", x.league(0), 0);
        Check.due("of one", x.league(2), 2);
        Check.due("of one without roads", x.league(32), 32);
        Check.due("of two with a road", x.league(3), 3);
        Check.due("of two by a third one", x.league(5), 7);
        Check.due("of all that hang together", x.league(7), 7);
        Check.due("none", x.league(9), -1);
        Check.due("none with a lone one", x.league(33), -1);
        Check.due("none of all", x.league(63), -1);
        CommaState y = Check.of("town 1 1 1;".repeat(8) + "road 0 1;road 1 2;road 2 3;road 3 4;road 4 5;road 5 6;road 6 7;");
        Check.due("by all eight", y.league(129), 255);
        Check.due("the last two", y.league(192), 192);
        CommaState back = Check.of("town 1 1 1;".repeat(8) + "road 7 6;road 6 5;road 5 4;road 4 3;road 3 2;road 2 1;road 1 0;");
        Check.due("by roads the other way", back.league(129), 255);
        Check.due("no towns", new CommaState().league(0), 0);
    }

    private static void leaguesOfAlikeSets() {
        CommaState x = Check.of("town 1 1 1;".repeat(5) + "road 0 3;road 3 4;road 0 2;road 2 4;");
        Check.due("by the least bits", x.league(17), 21);
        CommaState y = Check.of("town 1 1 1;".repeat(5) + "road 0 1;road 1 2;road 2 4;road 0 3;road 3 4;");
        Check.due("fewest ahead of least bits", y.league(17), 25);
    }

    private static void partsAndBridges() {
        Check.due("no towns", new CommaState().parts(), 0);
        Check.due("no roads to bridge", new CommaState().bridges(), 0);
        Check.due("one town", Check.of("town 1 1 1;").parts(), 1);
        Check.due("single ones", Check.of("town 1 1 1;".repeat(8)).parts(), 8);
        CommaState x = Check.of("town 1 1 1;".repeat(6) + "road 0 1;road 1 2;road 2 0;road 2 3;road 4 5;");
        Check.due("two", x.parts(), 2);
        Check.due("not those of the ring", x.bridges(), 24);
        CommaState y = Check.of("town 1 1 1;".repeat(8)
            + "road 0 1;road 0 2;road 0 3;road 1 2;road 1 3;road 2 3;road 0 4;road 1 4;road 2 4;road 4 5;road 5 6;road 6 7;");
        Check.due("the last three of 12", y.bridges(), 7 << 9);
        Check.due("one part", y.parts(), 1);
        CommaState z = Check.of("town 1 1 1;".repeat(8) + "road 7 6;road 5 6;road 5 4;road 3 4;road 3 2;road 1 2;road 1 0;");
        Check.due("a line in any order is one part", z.parts(), 1);
        Check.due("of bridges alone", z.bridges(), 127);
    }

    private static void commas(int w, int k, int g, int ways) {
        Check.due("commas " + w + " " + k + " " + g, new CommaState().commas(w, k, g), ways);
    }

    private static void commasAtTheEdges() {
        commas(1, 0, 1, 1);
        commas(1, 0, 9, 1);
        commas(30, 0, 9, 1);
        commas(1, 1, 1, 0);
        commas(2, 1, 1, 1);
        commas(2, 2, 1, 0);
        commas(3, 1, 2, 0);
        commas(4, 1, 2, 1);
        commas(5, 1, 2, 2);
        commas(17, 1, 9, 0);
        commas(18, 1, 9, 1);
        commas(30, 1, 1, 29);
        commas(30, 2, 9, 10);
        commas(30, 2, 1, 406);
        commas(30, 10, 1, 20030010);
        commas(10, 10, 1, 0);
        commas(11, 10, 1, 1);
        commas(12, 10, 1, 11);
        commas(21, 10, 2, 0);
        commas(22, 10, 2, 1);
        commas(30, 10, 2, 43758);
    }

    private static void odds(String state, int q, long above, long below) {
        CommaState x = Check.of(state);
        Check.due("above of odds by " + q + " in " + state, x.odds(0, q, 0), above);
        Check.due("below of odds by " + q + " in " + state, x.odds(0, q, 1), below);
    }

    private static void oddsOfFirstNine() {
        odds("town 1 0 1;", 1, 1, 16);
        odds("town 1 0 1;", 15, 15, 16);
        // both of two: half is not more than half
        odds("town 2 0 1;", 8, 1, 4);
        odds("town 3 0 1;", 8, 1, 2);
        odds("town 4 0 1;", 8, 5, 16);
        odds("town 8 0 1;", 8, 93, 256);
        odds("town 9 0 1;", 8, 1, 2);
        odds("town 10 0 1;", 8, 1, 2);
        odds("town 99 0 1;", 8, 1, 2);
        odds("town 99 99 1;", 8, 1, 2);
        CommaState x = Check.of("town 3 3 1;town 9 0 1;");
        Check.work(x, "move 0 1 1;");
        Check.due("by voters of now", x.odds(0, 8, 1), 4);
    }

    private static void oddsInLeastTerms() {
        odds("town 9 0 1;", 0, 0, 1);
        odds("town 1 0 1;", 0, 0, 1);
        odds("town 9 0 1;", 16, 1, 1);
        odds("town 2 0 1;", 16, 1, 1);
        odds("town 1 0 1;", 2, 1, 8);
        odds("town 1 0 1;", 12, 3, 4);
        long many = 126L * 15 * 15 * 15 * 15 + 84L * 15 * 15 * 15 + 36L * 15 * 15 + 9L * 15 + 1;
        odds("town 9 0 1;", 1, many / 2, 1L << 35);
        odds("town 9 0 1;", 15, (1L << 35) - many / 2, 1L << 35);
    }

    private static void speak(String state, int d, int rests, int first, int seats) {
        CommaState x = Check.of(state);
        Check.due("rests by " + d + " in " + state, x.speak(d, 0), rests);
        Check.due("first rest by " + d + " in " + state, x.speak(d, 1), first);
        Check.due("seats by " + d + " in " + state, x.speak(d, 2), seats);
        Check.due("nothing stays changed in " + state, x.speak(d, 0), rests);
    }

    private static void speakInOneTown() {
        speak("town 9 9 3;", 99, 1, 0, 3);
        speak("town 8 4 3;", 99, 1, 0, 0);
        speak("town 8 4 3;", 0, 1, 0, 0);
        // both in one: it stays with 0, so 0 follows 1, and 1 goes to the other one
        speak("town 9 9 3;town 9 9 2;", 9, 0, -1, 0);
    }

    private static void speakFirstRest() {
        speak("town 2 1 3;town 2 1 5;", 1, 2, 1, 8);
        speak("town 2 1 3;town 2 1 5;", 0, 4, 0, 0);
        // the town of 9 can't turn by 1, that of 2 turns by whoever speaks there alone
        speak("town 9 9 3;town 2 1 5;", 1, 3, 1, 8);
        speak("town 2 1 5;town 9 9 3;", 1, 3, 0, 3);
        // of nine pairs only 0 in town 2 and 1 in town 1; of four only 0 in town 1 and 1 in town 0
        speak("town 2 0 2;town 1 0 3;town 4 2 2;", 2, 1, 21, 7);
        speak("town 3 1 3;town 4 2 2;", 2, 1, 10, 5);
        // each pair of eight towns rests, or none: 0 follows, 1 goes elsewhere
        speak("town 3 3 1;".repeat(8), 1, 64, 0, 8);
        speak("town 1 1 1;".repeat(8), 1, 0, -1, 0);
        // just as many as it takes, and one fewer
        speak("town 9 3 5;town 9 0 3;", 2, 2, 0, 8);
        speak("town 9 3 5;town 9 0 3;", 1, 4, 0, 8);
    }

    private static void speakOfNone() {
        speak("", 0, 0, -1, 0);
        speak("", 99, 0, -1, 0);
        speak("town 4 1 9;town 4 3 1;town 4 2 1;", 2, 0, -1, 0);
        CommaState x = Check.of("town 4 1 9;town 4 3 1;town 4 2 1;");
        Check.due("seats by none at all", x.speak(0, 2), 10);
        Check.due("none behind that", x.speak(2, 2), 0);
        Check.due("nor a first one", x.speak(2, 1), -1);
    }

    private static void bread(String state, int towns, int n, int... want) {
        CommaState x = Check.of(state);
        for (int town = 0; town < want.length; town++) {
            Check.due("bread of " + n + " for " + town + " in " + state, x.bread(town, towns, n), want[town]);
        }
    }

    private static void breadToABound() {
        String state = "town 3 0 1;town 5 0 1;town 9 0 1;";
        bread(state, 7, 0, 0, 0, 0);
        bread(state, 7, 2, 0, 0, 0);
        bread(state, 7, 3, 1, 1, 1);
        bread(state, 7, 8, 2, 2, 2);
        bread(state, 7, 9, 3, 3, 3);
        bread(state, 7, 10, 3, 3, 3);
        bread(state, 7, 11, 3, 4, 4);
        bread(state, 7, 13, 3, 5, 5);
        bread(state, 7, 14, 3, 5, 6);
        bread(state, 7, 16, 3, 5, 8);
        bread(state, 5, 6, 3, 0, 3);
        bread(state, 6, 3, 0, 1, 1);
        bread(state, 0, 9999, 0, 0, 0);
    }

    private static void breadOfAll() {
        String state = "town 3 0 1;town 5 0 1;town 9 0 1;";
        bread(state, 7, 17, 3, 5, 9);
        bread(state, 7, 18, 3, 5, 9);
        bread(state, 7, 9999, 3, 5, 9);
        bread(state, 2, 9999, 0, 5, 0);
        CommaState x = Check.of("town 99 99 1;".repeat(8));
        Check.work(x, "move 1 0 98;move 2 0 98;move 3 0 98;move 4 0 98;move 5 0 98;move 6 0 98;move 7 0 98;");
        Check.due("all 785", x.bread(0, 255, 792), 785);
        Check.due("one fewer", x.bread(0, 255, 791), 784);
        Check.due("511 and the others", x.bread(0, 255, 518), 511);
        Check.due("512 and the others", x.bread(0, 255, 519), 512);
    }

    private static void closestAndSafest() {
        CommaState x = Check.of("town 9 7 1;town 9 2 1;town 8 3 1;town 8 5 1;town 9 9 1;town 9 0 1;");
        Check.due("closest, the first of two", x.closest(0), 2);
        Check.due("2 apart", x.closest(1), 2);
        Check.due("safest, the first of two", x.safest(0), 4);
        Check.due("9 apart", x.safest(1), 9);
        CommaState half = Check.of("town 9 5 1;town 8 4 1;");
        Check.due("at half", half.closest(0), 1);
        Check.due("0 apart", half.closest(1), 0);
        Check.due("the other one", half.safest(0), 0);
        CommaState one = Check.of("town 99 0 1;");
        Check.due("one town", one.closest(0) + one.safest(0), 0);
        Check.due("99 apart", one.closest(1) * 1000 + one.safest(1), 99099);
        CommaState none = new CommaState();
        Check.due("none", none.closest(0), -1);
        Check.due("none", none.closest(1), -1);
        Check.due("none", none.safest(0), -1);
        Check.due("none", none.safest(1), -1);
    }

    private static void lightest(String state, int town, int voters) {
        CommaState x = Check.of(state);
        Check.due("lightest of " + state, x.lightest(0), town);
        Check.due("voters by seats of " + state, x.lightest(1), voters);
    }

    private static void lightestUncut() {
        lightest("town 9 0 2;town 13 0 3;", 1, 4);
        lightest("town 13 0 3;town 9 0 2;", 0, 4);
        lightest("town 9 0 3;town 6 0 2;town 3 0 1;", 0, 3);
        lightest("town 9 0 2;town 6 0 2;town 3 0 1;", 1, 3);
        lightest("town 1 0 9;", 0, 0);
        lightest("town 99 0 1;", 0, 99);
        lightest("", -1, -1);
    }

    private static void sidesSeatsMargin() {
        CommaState x = Check.of("town 9 5 1;town 9 4 2;town 8 4 3;town 9 9 4;town 1 0 5;town 2 1 6;town 1 1 7;town 1 0 8;");
        Check.due("sides 0", x.sides(0), 1 + 8 + 64);
        Check.due("sides 1", x.sides(1), 2 + 16 + 128);
        Check.due("sides 2", x.sides(2), 4 + 32);
        Check.due("seats 0", x.seats(0), 12);
        Check.due("seats 1", x.seats(1), 15);
        Check.due("seats 2", x.seats(2), 9);
        Check.due("below 0", x.margin(), -3);
        Check.due("above 0", Check.of("town 9 9 9;town 8 4 9;").margin(), 9);
        Check.due("all of 1", Check.of("town 9 0 9;".repeat(8)).margin(), -72);
        Check.due("none", new CommaState().margin() + new CommaState().sides(2) + new CommaState().seats(2), 0);
    }
}
