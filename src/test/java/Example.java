import java.nio.ByteBuffer;
import java.nio.charset.StandardCharsets;

public final class Example {
    public static void main(String[] args) {
        TelescopeNight night = new TelescopeNight();
        String text = "night 4; sky 50 80 30; moon 30 5 0 100 1 50;"
                + "target 0 70 5 1 40 90 60 1 10;"
                + "target 1 80 10 1 60 200 60 2 7;"
                + "target 0 50 20 2 35 300 60 1 4;";
        System.out.println("targets: " + load(night, text));

        System.out.println("target 1 can be observed in the slots " + night.window(1));
        System.out.println("best plan: " + night.planned(0) + " " + night.planned(1) + " "
                + night.planned(2) + " " + night.planned(3) + ", worth " + night.planValue());
        System.out.println("the turns cost " + night.priceOfTurns());
        System.out.println("mean value: " + night.meanValue());

        for (int slot = 0; slot < night.count(0); slot++) {
            int possible = night.look(slot != 1);
            int target = night.decision();
            System.out.println("slot " + slot + ": possible " + possible + ", best " + target);
            if (target == TelescopeNight.NONE) {
                night.pass();
            } else {
                night.expose(target);
            }
        }
        System.out.println("points: " + night.count(4));
        System.out.println("changes that can still be undone: " + night.undo());
        System.out.println("points: " + night.count(4));

        System.out.println("load: " + load(night, "night 13;"));
        System.out.println("error at byte " + night.errorPosition());
    }

    /** Hands a text to the buffer, 20 bytes at a time, and reads as many bytes as the text has. */
    private static int load(TelescopeNight night, String text) {
        byte[] bytes = text.getBytes(StandardCharsets.US_ASCII);
        ByteBuffer all = ByteBuffer.allocate((bytes.length + 19) / 20 * 20).put(bytes).rewind();
        while (all.hasRemaining()) {
            night.append(all.getInt(), all.getInt(), all.getInt(), all.getInt(), all.getInt());
        }
        return night.load(bytes.length);
    }
}
