/** Promises 8 to 12: room, come, leave, pass, sings. */
public final class RoomsTest {
    public static void main(String[] args) {
        rooms();
        comes();
        comesInRange();
        leaves();
        leavesWithPlay();
        passes();
        passesWithPlay();
        Check.end();
    }

    private static EchoParlour parlour(int rooms) {
        EchoParlour x = new EchoParlour();
        for (int i = 0; i < rooms; i++) {
            Check.due("room " + i, x.room(), i);
        }
        return x;
    }

    private static void rooms() {
        EchoParlour x = parlour(4);
        Check.throwsDue("room 5", Check.STATE, x::room);
        Check.throwsDue("sings(4)", Check.INDEX, () -> x.sings(4));
        Check.throwsDue("sings(-1)", Check.INDEX, () -> x.sings(-1));
        Check.throwsDue("sings of the least", Check.INDEX, () -> x.sings(Integer.MIN_VALUE));
        Check.throwsDue("sings of the greatest", Check.INDEX, () -> x.sings(Integer.MAX_VALUE));
        for (int i = 0; i < 4; i++) {
            Check.due("sings(" + i + ")", x.sings(i), -1);
        }
        EchoParlour y = parlour(2);
        Check.throwsDue("sings(2) of two rooms", Check.INDEX, () -> y.sings(2));
    }

    private static void comes() {
        EchoParlour x = parlour(3);
        Check.due("the first who comes", x.come(0, 3), -1);
        Check.due("who sings", x.sings(0), 3);
        Check.due("who sings elsewhere", x.sings(1), -1);
        Check.throwsDue("who sings there comes", Check.STATE, () -> x.come(0, 3));
        Check.throwsDue("who sings elsewhere comes", Check.STATE, () -> x.come(1, 3));
        int[] others = {9, 8, 0, 1, 2, 4};
        for (int i = 0; i < others.length; i++) {
            Check.due("who comes as number " + i, x.come(0, others[i]), i);
            Check.due("who sings still", x.sings(0), 3);
        }
        Check.throwsDue("the seventh who would wait", Check.STATE, () -> x.come(0, 5));
        Check.throwsDue("who waits there comes", Check.STATE, () -> x.come(0, 4));
        Check.throwsDue("who waits elsewhere comes", Check.STATE, () -> x.come(1, 4));
        Check.due("another room has nobody", x.come(1, 5), -1);
        Check.due("another room has one", x.come(1, 6), 0);
        Check.due("pass", x.pass(), 2);
        Check.due("who sang may come again", x.come(0, 3), 5);
    }

    private static void comesInRange() {
        EchoParlour x = parlour(1);
        int[] wrong = {-1, 1, 4, Integer.MIN_VALUE, Integer.MAX_VALUE};
        for (int room : wrong) {
            Check.throwsDue("come(" + room + ", 0)", Check.INDEX, () -> x.come(room, 0));
        }
        int[] nobody = {-1, 10, Integer.MIN_VALUE, Integer.MAX_VALUE};
        for (int singer : nobody) {
            Check.throwsDue("come(0, " + singer + ")", Check.INDEX, () -> x.come(0, singer));
            Check.throwsDue("leave(" + singer + ")", Check.INDEX, () -> x.leave(singer));
        }
        Check.due("come(0, 0)", x.come(0, 0), -1);
        Check.throwsDue("come(1, 0) of a singer who sings", Check.INDEX, () -> x.come(1, 0));
        for (int i = 1; i <= 6; i++) {
            x.come(0, i);
        }
        Check.throwsDue("come(0, 10) while 6 wait", Check.INDEX, () -> x.come(0, 10));
        Check.throwsDue("come(0, 9) while 6 wait", Check.STATE, () -> x.come(0, 9));
        Check.throwsDue("leave(9), who came not in", Check.STATE, () -> x.leave(9));
    }

    private static void leaves() {
        EchoParlour x = parlour(3);
        Check.throwsDue("leave, nowhere", Check.STATE, () -> x.leave(0));
        x.come(2, 0);
        x.come(2, 1);
        x.come(2, 2);
        x.come(2, 3);
        Check.due("one who waits leaves", x.leave(2), 2);
        Check.due("who sings stays", x.sings(2), 0);
        Check.throwsDue("leave again", Check.STATE, () -> x.leave(2));
        Check.due("who left comes behind the others", x.come(2, 2), 2);
        Check.due("who sings leaves", x.leave(0), 2);
        Check.due("the first who waited sings", x.sings(2), 1);
        Check.due("that one leaves", x.leave(1), 2);
        Check.due("the next sings", x.sings(2), 3);
        Check.due("the last who waits leaves", x.leave(2), 2);
        Check.due("nobody waits", x.pass(), 0);
        Check.due("the last one leaves", x.leave(3), 2);
        Check.due("nobody sings", x.sings(2), -1);
        Check.due("who comes then sings", x.come(2, 0), -1);
        Check.due("who comes to another room", x.come(0, 1), -1);
        Check.due("leave(1)", x.leave(1), 0);
        Check.due("leave(0)", x.leave(0), 2);
    }

    private static EchoParlour withPlays() {
        EchoParlour x = parlour(2);
        Check.makeSong(x, "one", 2);
        Check.makeSong(x, "two", 2);
        x.queue(0, 0);
        x.queue(0, 1);
        x.queue(0, 0);
        return x;
    }

    private static void queueDue(EchoParlour x, String when, int first, int second, int third) {
        Check.due("place 0 " + when, x.queued(0, 0), first);
        Check.due("place 1 " + when, x.queued(0, 1), second);
        Check.due("place 2 " + when, x.queued(0, 2), third);
    }

    private static void leavesWithPlay() {
        EchoParlour x = withPlays();
        x.come(0, 5);
        x.leave(5);
        queueDue(x, "behind one who sang nothing", 0, 1, 0);
        x.come(0, 5);
        x.come(0, 6);
        Check.due("a note", x.sing(0, 0), 100);
        x.leave(6);
        queueDue(x, "behind one who waited", 0, 1, 0);
        x.leave(5);
        queueDue(x, "behind one who sang a note", 1, 0, -1);
        Check.due("plays that were over", x.about(0, 3), 0);
        x.come(0, 5);
        Check.due("the first note of the next", x.sing(0, 250), 50);
        Check.due("the last note of the next", x.sing(0, 250), 1050);
        x.leave(5);
        queueDue(x, "behind one who ended a play", 0, -1, -1);
        x.come(0, 7);
        x.sing(0, 0);
        x.leave(7);
        queueDue(x, "behind one who sang of the last", -1, -1, -1);
    }

    private static void passes() {
        EchoParlour x = parlour(4);
        Check.due("pass in empty rooms", x.pass(), 0);
        x.come(0, 0);
        Check.due("pass, nobody waits", x.pass(), 0);
        Check.due("who sings stays", x.sings(0), 0);
        x.come(0, 1);
        x.come(0, 2);
        x.come(2, 3);
        x.come(3, 4);
        x.come(3, 5);
        Check.due("pass, in two rooms somebody waits", x.pass(), 2);
        Check.due("room 0", x.sings(0), 1);
        Check.due("room 1", x.sings(1), -1);
        Check.due("room 2", x.sings(2), 3);
        Check.due("room 3", x.sings(3), 5);
        Check.throwsDue("who went is nowhere", Check.STATE, () -> x.leave(0));
        Check.throwsDue("who went is nowhere", Check.STATE, () -> x.leave(4));
        Check.due("pass, in one room", x.pass(), 1);
        Check.due("room 0", x.sings(0), 2);
        Check.due("room 3", x.sings(3), 5);
        Check.due("pass, in none", x.pass(), 0);
        Check.due("room 0", x.sings(0), 2);
    }

    private static void passesWithPlay() {
        EchoParlour x = withPlays();
        x.come(0, 0);
        x.come(0, 1);
        x.pass();
        queueDue(x, "behind one who sang nothing", 0, 1, 0);
        x.sing(0, 0);
        x.pass();
        queueDue(x, "behind one who stays on", 0, 1, 0);
        x.come(0, 2);
        x.pass();
        queueDue(x, "behind one who sang a note", 1, 0, -1);
        Check.due("the next begins anew", x.sing(0, 0), 100);
        Check.due("the next has two notes", x.sing(0, 600), 1050);
        x.come(1, 5);
        x.queue(1, 0);
        x.sing(1, 0);
        x.sing(0, 0);
        x.come(0, 3);
        x.pass();
        queueDue(x, "in the room of one who went", -1, -1, -1);
        Check.due("place 0 of the other room", x.queued(1, 0), 0);
        Check.due("the play of the other room goes on", x.sing(1, 0), 1100);
    }
}
