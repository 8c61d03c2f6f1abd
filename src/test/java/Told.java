/** What an object tells of itself, as one number: the same for objects that are alike. */
final class Told {
    private static final long NO = Long.MIN_VALUE;

    private Told() { }

    /** Asks no more than there is, as an object answers 512 calls only. */
    static long of(TideWheels x) {
        long sum = 17;
        for (int what = 0; what <= 5; what++) {
            sum = sum * 31 + x.count(what);
        }
        int parts = x.count(0);
        for (int part = 0; part < parts; part++) {
            for (int what = 0; what <= 4; what++) {
                sum = sum * 31 + x.of(part, what);
            }
            sum = sum * 31 + x.speed(part, 0);
            sum = sum * 31 + x.speed(part, 1);
        }
        for (int sheet = 0; sheet < 4; sheet++) {
            long item = 0;
            for (int i = 0; i < 41 && item != NO; i++) {
                item = x.item(sheet, i);
                sum = sum * 31 + item;
            }
        }
        return sum * 31 + x.height();
    }
}
