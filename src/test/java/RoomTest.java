import java.lang.management.ManagementFactory;

/** What an object and its dearest calls take of the room that all calls of a run share. */
public final class RoomTest {
    private static final Checks C = new Checks();

    public static void main(String[] args) {
        com.sun.management.ThreadMXBean thread = (com.sun.management.ThreadMXBean) ManagementFactory.getThreadMXBean();
        call(new AdjectiveCoupons());
        thread.getCurrentThreadAllocatedBytes();
        long start = thread.getCurrentThreadAllocatedBytes();
        AdjectiveCoupons x = new AdjectiveCoupons();
        long made = thread.getCurrentThreadAllocatedBytes();
        call(x);
        long called = thread.getCurrentThreadAllocatedBytes();
        C.due("bytes of an object under 20000: " + (made - start), made - start < 20000 ? 1 : 0, 1);
        C.due("bytes of some 500 calls under 5000: " + (called - made), called - made < 5000 ? 1 : 0, 1);
        System.out.println(made - start + " bytes made, " + (called - made) + " by calls");
        C.finish();
    }

    private static void call(AdjectiveCoupons x) {
        String text = "plain1;half1;colour1;noun1;name1;plain1;half1;colour1;noun1;name1;poet1;lover9;names;swell";
        for (int i = 0; i < text.length(); i++) {
            x.write(text.charAt(i));
        }
        x.fault();
        x.realm();
        for (int word = 0; word < 6; word++) {
            x.put(word);
        }
        for (int i = 0; i < 6; i++) {
            x.draft();
        }
        for (int i = 0; i < 55; i++) {
            x.cheapest(i % 6);
            x.leftOut(i, 1);
            x.page(i, 1);
            x.plan(0, 1);
            x.payments();
            x.author();
        }
        for (int i = 0; i < 3; i++) {
            x.put(AdjectiveCoupons.NONE);
        }
        for (int i = 0; i < 12; i++) {
            x.holes(i, 2);
            x.say(0);
            x.week();
            x.keep(0);
            x.undo();
        }
    }
}
